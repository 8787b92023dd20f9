theorem me_R.set {G : me_G} {M : me_M} {H H1 : Heap} {a : Nat} {x x0 : me_E} (hR : me_R G M H) (ha : M.2 a = some x0) (hz : H1.size = H.size) (oq : ∀ q : Nat, q ≠ a → H1[q]? = H[q]?) (hc : va_at G.1 me_cl (a, me_of G.2.1 x) H1) : me_R G (me_set M a x) H1 := by
  obtain ⟨h1, h2, h3, h4⟩ := hR
  have hS := (h4 a x0 ha).1
  refine ⟨hz.trans h1, by rw [hz]; exact h2, fun q hq => ?_, fun b z hb => ?_⟩
  · rw [oq q (fun e => by omega)]; exact h3 q hq
  · unfold me_set at hb
    simp only at hb
    by_cases hba : b = a
    · rw [if_pos hba] at hb
      cases hb
      rw [hba]
      exact ⟨hS, hc⟩
    · rw [if_neg hba] at hb
      exact ⟨(h4 b z hb).1, (h4 b z hb).2.kept (oq b hba)⟩
theorem me_R.new {G : me_G} {M : me_M} {H H1 : Heap} {x : me_E} (hR : me_R G M H) (hz : H1.size = H.size + 1) (oq : ∀ q : Nat, q < H.size → H1[q]? = H[q]?) (hc : va_at G.1 me_cl (H.size, me_of G.2.1 x) H1) : me_R G (me_new M x) H1 := by
  obtain ⟨h1, h2, h3, h4⟩ := hR
  refine ⟨by rw [hz, h1]; rfl, by omega, fun q hq => ?_, fun b z hb => ?_⟩
  · rw [oq q (by omega)]; exact h3 q hq
  · unfold me_new at hb
    simp only at hb
    by_cases hba : b = M.1
    · rw [if_pos hba] at hb
      cases hb
      rw [hba, ← h1]
      exact ⟨h2, hc⟩
    · rw [if_neg hba] at hb
      have hlt := (h4 b z hb).2.lt
      exact ⟨(h4 b z hb).1, (h4 b z hb).2.kept (oq b hlt)⟩
theorem me_R.one {G : me_G} {M : me_M} {H : Heap} {a : Nat} {x : me_E} (hR : me_R G M H) (ha : M.2 a = some x) : va_P G.1 me_cl [(a, me_of G.2.1 x)] H := by
  intro k q hq
  have hk : k < 1 := (List.getElem?_eq_some_iff.mp hq).1
  rw [show k = 0 by omega] at hq
  cases hq
  exact (hR.2.2.2 a x ha).2
theorem me_lo {S a : Nat} {locs : List Loc} {k : Nat} (hf : ∀ q ∈ locs, S ≤ q.base) (ha : S ≤ a) : ∀ q ∈ locs ++ [(⟨a, k⟩ : Loc)], S ≤ q.base := fun q hq => by
  rcases List.mem_append.mp hq with h | h
  · exact hf q h
  · rw [List.mem_singleton.mp h]; exact ha
section WM
variable {G : me_G} {p : Program} {l : Launch} {e : Env} {R : Room} {s : State} {m : MethodId} {args : Array Value} {below : List Frame} {meth : Method} {c : Code} {H : Heap} {locs : List Loc} {cells slots : Nat} {Q : State → Prop}
variable {cc : ByteArray} {pc : Nat} {ls : Array Slot} {rest : List Value} {a : Nat} {M : me_M}
theorem w_put (hexec : p.tables.exec = Jvm.exec) (hb : c.code = cc) {own C : String} {T : u_T} {N ci index : Nat} {Ts : List Cond} (hts : ∀ w ∈ Ts, w.before args s = true) (hin : ∀ w ∈ u_ws C T N, w ∈ Ts) (ty0 : Nat → FieldType) (hty : ∀ k, k < N → parseFieldDescriptor (T k).2.2.1 = some (ty0 k)) (hnm : ∀ a, a < N → ∀ b, b < N → a ≠ b → (T a).2.1 ≠ (T b).2.1) (hown : s.vm.findClass own = some m.cls) (hK : me_K G s) (hR : me_R G M H) {fs : List Value} (ha : M.2 a = some (.inr (ci, fs))) (hc : me_cl[ci]? = some (C, T, N)) (k : Nat) (hk : k < N) (hlink : (Cond.fieldLink own index (T k).1 (T k).2.1 (T k).2.2.1).before args s = true) (hfin : (T k).2.2.2 = false ∨ ((T k).2.2.2 = true ∧ meth.name = "<init>" ∧ (T k).1 = own)) {ty : FieldType} {v : Value} (hd : parseFieldDescriptor (T k).2.2.1 = some ty) (hn : narrow ty v = v) (hfit : fits ty v = true) (hl : k < fs.length) (hf : ∀ q ∈ locs, G.2.2.1 ≤ q.base)
    (hdg : decode cc pc = .ok (.putfield index, 3)) (kk : ∀ (H1 : Heap) (locs1 : List Loc), me_R G (me_set M a (.inr (ci, fs.set k v))) H1 → (∀ q ∈ locs1, G.2.2.1 ≤ q.base) → W p l e R s m args below meth c H1 locs1 cells slots Q (F0 m (pc + 3) ls rest)) : W p l e R s m args below meth c H locs cells slots Q (F0 m pc ls (v :: .ref a :: rest)) := by
  have hap := va_apart (own := own) hts hin ty0 hty hnm hK.1 hc
  obtain ⟨hS0, r, h1, cell, q1, q2, q3, q4⟩ := hR.2.2.2 a _ ha
  have hr : r = (C, T, N) := Option.some.inj (h1.symm.trans hc)
  subst hr
  obtain ⟨hS, hfc, kC, hkC, hkind⟩ := hK.1.1 ci _ hc
  obtain ⟨cf, kf, fi, f, hi, hsl⟩ := hS k hk
  have hst := (u_facts hfc hkC (u_lays hts hin hk) hi).1
  have hlay := hts _ (hin _ (u_in_lay hk))
  unfold u_lay at hlay
  rcases hfin with hfin | ⟨hfin, hin2, hdecl⟩
  · rw [if_neg (by rw [hfin]; decide)] at hlay
    have h6 := u_store hfc hkC hkind hlay hi hd hn hfit
    refine W.putK hexec hb (f := f) ⟨hown, hlink, ⟨_, _, _, hi⟩, hst⟩ (by rw [q2]; exact h6) q1 q3 (by rw [hsl]; exact k2_hasslot (q4 k hk)) rfl rfl hdg fun H' e1 e2 e3 => ?_
    rw [hsl] at e1 ⊢
    exact kk H' _ (hR.set ha e2 e3 ⟨_, hc, t_OB.to (V := updV (vp_V fs) k v) ⟨_, e1, q2, q3, t_set q4 hap hk v⟩ (fun j _ => vp_updV_set hl v j)⟩) (me_lo hf hS0)
  · rw [if_pos hfin] at hlay
    have hcf : m.cls = cf := by
      obtain ⟨_, _, c', _, _, _, -, -, hf', -, -, -, hown2, -⟩ := Cond.laysFinal_spec hlay
      have e1 : c' = cf := by have := hi.symm.trans hf'; simp at this; exact this.1.symm
      rw [hdecl] at hown2
      rw [← e1]; exact Option.some.inj (hown.symm.trans hown2)
    have h6 := u_fits hfc hkC hkind (Or.inr hlay) hi hd hn hfit
    refine W.putFinK hexec hb hown hlink hi hst hcf hin2 (by rw [q2]; exact h6) q1 q3 (by rw [hsl]; exact k2_hasslot (q4 k hk)) rfl rfl hdg fun H' e1 e2 e3 => ?_
    rw [hsl] at e1 ⊢
    exact kk H' _ (hR.set ha e2 e3 ⟨_, hc, t_OB.to (V := updV (vp_V fs) k v) ⟨_, e1, q2, q3, t_set q4 hap hk v⟩ (fun j _ => vp_updV_set hl v j)⟩) (me_lo hf hS0)
theorem w_iast (hexec : p.tables.exec = Jvm.exec) (hb : c.code = cc) (hK : me_K G s) (hR : me_R G M H) {n : Nat} {f : Nat → Int32} (ha : M.2 a = some (.inl (0, n, .inl f))) {i x : Int32} (hin : ¬ (i < 0 ∨ n ≤ i.toNatClampNeg)) (hf : ∀ q ∈ locs, G.2.2.1 ≤ q.base) (hdg : decode cc pc = .ok (.iastore, 1))
    (kk : ∀ (H1 : Heap) (locs1 : List Loc), me_R G (me_set M a (.inl (0, n, .inl (upd f i.toNatClampNeg x)))) H1 → (∀ q ∈ locs1, G.2.2.1 ≤ q.base) → W p l e R s m args below meth c H1 locs1 cells slots Q (F0 m (pc + 1) ls rest)) : W p l e R s m args below meth c H locs cells slots Q (F0 m pc ls (.int x :: .int i :: .ref a :: rest)) := by
  obtain ⟨hS0, hat⟩ := hR.2.2.2 a _ ha
  refine W.iast hexec hb hat ((hK.1.2 0 _ rfl).1 n (fun j => .int (f j))) (fun q => by cases q) (by show ¬ (i < 0 ∨ (arrV _ _ _).slots.size ≤ _); rw [arrV_size]; exact hin) rfl rfl hdg fun H1 e z oq => ?_
  refine kk H1 _ (hR.set ha z oq ?_) (me_lo hf hS0)
  show H1[a]? = some (vp_cell _ _)
  rw [e]
  show some (Cell.setSlot (vp_cell _ _) _ _) = _
  rw [vp_cell_i, vp_cell_i, arrV_store]
  congr 2
  funext q
  by_cases hq : q = i.toNatClampNeg
  · subst hq; simp [updV, upd]
  · simp [updV, upd, hq]
theorem w_bast (hexec : p.tables.exec = Jvm.exec) (hb : c.code = cc) (hK : me_K G s) (hR : me_R G M H) {n : Nat} {f : Nat → Int32} (ha : M.2 a = some (.inl (2, n, .inl f))) {i x : Int32} (hin : ¬ (i < 0 ∨ n ≤ i.toNatClampNeg)) (hf : ∀ q ∈ locs, G.2.2.1 ≤ q.base) (hdg : decode cc pc = .ok (.bastore, 1))
    (kk : ∀ (H1 : Heap) (locs1 : List Loc), me_R G (me_set M a (.inl (2, n, .inl (upd f i.toNatClampNeg (x.toInt8.toInt32))))) H1 → (∀ q ∈ locs1, G.2.2.1 ≤ q.base) → W p l e R s m args below meth c H1 locs1 cells slots Q (F0 m (pc + 1) ls rest)) : W p l e R s m args below meth c H locs cells slots Q (F0 m pc ls (.int x :: .int i :: .ref a :: rest)) := by
  obtain ⟨hS0, hat⟩ := hR.2.2.2 a _ ha
  refine W.bast hexec hb hat ((hK.1.2 2 _ rfl).1 n (fun j => .int (f j))) (fun q => by cases q) (by show ¬ (i < 0 ∨ (arrV _ _ _).slots.size ≤ _); rw [arrV_size]; exact hin) rfl rfl hdg fun H1 e z oq => ?_
  refine kk H1 _ (hR.set ha z oq ?_) (me_lo hf hS0)
  show H1[a]? = some (vp_cell _ _)
  rw [e]
  show some (Cell.setSlot (vp_cell _ _) _ _) = _
  rw [vp_cell_i, vp_cell_i, arrV_store]
  congr 2
  funext q
  by_cases hq : q = i.toNatClampNeg
  · subst hq; simp [updV, upd, narrow]
  · simp [updV, upd, hq]
theorem w_ast (hexec : p.tables.exec = Jvm.exec) (hb : c.code = cc) (hK : me_K G s) (hR : me_R G M H) {kd ci v : Nat} {r : vw_C} {vs : List Value} (ht : (me_ty G)[kd]? = some (G.2.1 kd, .object r.1)) (hv : M.2 v = some (.inr (ci, vs))) (hc : me_cl[ci]? = some r) {n : Nat} {f : Nat → Option Nat} (ha : M.2 a = some (.inl (kd, n, .inr (.inr (.inr (.inr f)))))) {i : Int32} (hin : ¬ (i < 0 ∨ n ≤ i.toNatClampNeg)) (hf : ∀ q ∈ locs, G.2.2.1 ≤ q.base) (hdg : decode cc pc = .ok (.aastore, 1))
    (kk : ∀ (H1 : Heap) (locs1 : List Loc), me_R G (me_set M a (.inl (kd, n, .inr (.inr (.inr (.inr (va_up f i.toNatClampNeg (some v)))))))) H1 → (∀ q ∈ locs1, G.2.2.1 ≤ q.base) → W p l e R s m args below meth c H1 locs1 cells slots Q (F0 m (pc + 1) ls rest)) : W p l e R s m args below meth c H locs cells slots Q (F0 m pc ls (.ref v :: .int i :: .ref a :: rest)) := by
  obtain ⟨hS0, hat⟩ := hR.2.2.2 a _ ha
  have hlt : i.toNatClampNeg < n := Nat.not_le.mp fun q => hin (Or.inr q)
  have h0 : ¬ i < 0 := fun q => hin (Or.inl q)
  obtain ⟨-, r', hr', cellV, g1, g2, g3, -⟩ := hR.2.2.2 v _ hv
  have hcls := (hK.1.1 ci r hc).2
  obtain ⟨kA, comp, k1, k2, k3, -⟩ := (hK.1.2 kd _ ht).2
  have hcomp : comp = G.1.1 ci := Option.some.inj (k3.symm.trans hcls.1)
  subst hcomp
  obtain ⟨kC, hkC, -⟩ := hcls.2
  refine W.aast hexec hb hat (fun q h => by cases h) (fun h => by cases h) k1 k2 rfl hkC ⟨h0, by show _ < (arrV _ _ _).slots.size; rw [arrV_size]; exact hlt⟩ g1 (fun q h => by rw [g3] at h; cases h) (by rw [g2]; exact hkC) (by rw [g2]; exact va_assign hcls) rfl rfl hdg fun H1 e z oq => ?_
  refine kk H1 _ (hR.set ha z oq ?_) (me_lo hf hS0)
  show H1[a]? = some (vp_cell _ _)
  rw [e]
  show some (Cell.setSlot (vp_cell _ _) _ _) = _
  rw [vp_cell_q, vp_cell_q, arrV_store]
  congr 2
  funext q
  by_cases hq : q = i.toNatClampNeg
  · subst hq; simp [updV, va_up, va_rf]
  · simp [updV, va_up, hq]
theorem w_astN (hexec : p.tables.exec = Jvm.exec) (hb : c.code = cc) (hK : me_K G s) (hR : me_R G M H) {kd : Nat} {C : String} (ht : (me_ty G)[kd]? = some (G.2.1 kd, .object C)) {n : Nat} {f : Nat → Option Nat} (ha : M.2 a = some (.inl (kd, n, .inr (.inr (.inr (.inr f)))))) {i : Int32} (hin : ¬ (i < 0 ∨ n ≤ i.toNatClampNeg)) (hf : ∀ q ∈ locs, G.2.2.1 ≤ q.base) (hdg : decode cc pc = .ok (.aastore, 1))
    (kk : ∀ (H1 : Heap) (locs1 : List Loc), me_R G (me_set M a (.inl (kd, n, .inr (.inr (.inr (.inr (va_up f i.toNatClampNeg none))))))) H1 → (∀ q ∈ locs1, G.2.2.1 ≤ q.base) → W p l e R s m args below meth c H1 locs1 cells slots Q (F0 m (pc + 1) ls rest)) : W p l e R s m args below meth c H locs cells slots Q (F0 m pc ls (.null :: .int i :: .ref a :: rest)) := by
  obtain ⟨hS0, hat⟩ := hR.2.2.2 a _ ha
  refine va_WaastN (C := C) hexec hb hat ((hK.1.2 kd _ ht).1 n (fun j => va_rf (f j))) (fun h => by cases h) (by show ¬ (i < 0 ∨ (arrV _ _ _).slots.size ≤ _); rw [arrV_size]; exact hin) rfl rfl hdg fun H1 e z oq => ?_
  refine kk H1 _ (hR.set ha z oq ?_) (me_lo hf hS0)
  show H1[a]? = some (vp_cell _ _)
  rw [e]
  show some (Cell.setSlot (vp_cell _ _) _ _) = _
  rw [vp_cell_q, vp_cell_q, arrV_store]
  congr 2
  funext q
  by_cases hq : q = i.toNatClampNeg
  · subst hq; simp [updV, va_up, va_rf]
  · simp [updV, va_up, hq]
theorem w_new (hexec : p.tables.exec = Jvm.exec) (hb : c.code = cc) {own C : String} {T : u_T} {N ci index : Nat} {Ts : List Cond} (hts : ∀ w ∈ Ts, w.before args s = true) (hin : ∀ w ∈ u_ws C T N, w ∈ Ts) (ty : Nat → FieldType) (hty : ∀ k, k < N → parseFieldDescriptor (T k).2.2.1 = some (ty k)) (hown : s.vm.findClass own = some m.cls) (hcl : (Cond.classLink own index C).before args s = true) (hinst : (Cond.instantiable C N).before args s = true) (hini : (Cond.initialized C).before args s = true)
    (hK : me_K G s) (hR : me_R G M H) (hc : me_cl[ci]? = some (C, T, N)) {fs : List Value} (hfs : ∀ j, j < N → defaultValue (ty j) = vp_V fs j) (hcells : cells + 1 ≤ R.cells) (hslots : slots + N ≤ R.slots) (hdg : decode cc pc = .ok (.new index, 3))
    (kk : ∀ (H1 : Heap), me_R G (me_new M (.inr (ci, fs))) H1 → W p l e R s m args below meth c H1 locs (cells + 1) (slots + N) Q (F0 m (pc + 3) ls (.ref M.1 :: rest))) : W p l e R s m args below meth c H locs cells slots Q (F0 m pc ls rest) := by
  have hKn := hK.1.1 ci _ hc
  have hsz := hR.1
  refine W.newcK hexec hb hown hcl hinst hini rfl hdg hcells hslots hKn.2.1 hsz fun H1 kC hkC e1 z1 o1 => ?_
  refine kk H1 (hR.new (by rw [hsz]; exact z1) (fun q hq => o1 q (by rw [← hsz]; exact hq)) ?_)
  rw [hsz]
  exact ⟨_, hc, (u_born ty hts hin hKn hkC e1 hty).to hfs⟩
theorem w_newa (hexec : p.tables.exec = Jvm.exec) (hb : c.code = cc) {atype : ArrayType} {kd : Nat} {ty : FieldType} (hty : newarray.typeOf atype = ty) (hz : defaultValue ty = .int 0) (hbt : componentBytes ty ≤ 4) (harr : (Cond.arrayClass (newarray.typeOf atype)).before args s = true) (hK : me_K G s) (hR : me_R G M H) (ht : (me_ty G)[kd]? = some (G.2.1 kd, ty)) (hpr : va_RA s (G.2.1 kd) ty = (s.vm.findClass ("[" ++ ty.toString) = some (G.2.1 kd)))
    {n : Int32} {N : Nat} (hn : ¬ n < 0) (hN : n.toNatClampNeg = N) (hN2 : N ≤ 134217728) (hcells : cells + 1 ≤ R.cells) (hslots : slots + N ≤ R.slots) (hdg : decode cc pc = .ok (.newarray atype, 2))
    (kk : ∀ (H1 : Heap), me_R G (me_new M (.inl (kd, N, .inl (fun _ => 0)))) H1 → W p l e R s m args below meth c H1 locs (cells + 1) (slots + N) Q (F0 m (pc + 2) ls (.ref M.1 :: rest))) : W p l e R s m args below meth c H locs cells slots Q (F0 m pc ls (.int n :: rest)) := by
  subst hty
  have hsz := hR.1
  refine va_newaK hexec hb harr rfl hdg rfl hn hN (Nat.le_trans (Nat.mul_le_mul hN2 hbt) (by decide)) hcells hslots hsz fun H1 cA e1 z1 o1 hAr hNm => ?_
  have hRA := (hK.1.2 kd _ ht).2
  have hRA : s.vm.findClass ("[" ++ (newarray.typeOf atype).toString) = some (G.2.1 kd) := hpr ▸ hRA
  have hcA : cA = G.2.1 kd := Option.some.inj (hNm.symm.trans hRA)
  refine kk H1 (hR.new (by rw [hsz]; exact z1) (fun q hq => o1 q (by rw [← hsz]; exact hq)) ?_)
  rw [hsz]
  show H1[M.1]? = some (vp_cell _ _)
  rw [e1, hcA, vp_cell_i, hz]
theorem w_newr (hexec : p.tables.exec = Jvm.exec) (hb : c.code = cc) {own C : String} {index kd : Nat} (hown : s.vm.findClass own = some m.cls) (hclink : (Cond.classLink own index C).before args s = true) (hover : (Cond.arrayOver (.object C)).before args s = true) (hK : me_K G s) (hR : me_R G M H) (ht : (me_ty G)[kd]? = some (G.2.1 kd, .object C))
    {n : Int32} {N : Nat} (hn : ¬ n < 0) (hN : n.toNatClampNeg = N) (hN2 : N ≤ 134217728) (hcells : cells + 1 ≤ R.cells) (hslots : slots + N ≤ R.slots) (hdg : decode cc pc = .ok (.anewarray index, 3))
    (kk : ∀ (H1 : Heap), me_R G (me_new M (.inl (kd, N, .inr (.inr (.inr (.inr (fun _ => none))))))) H1 → W p l e R s m args below meth c H1 locs (cells + 1) (slots + N) Q (F0 m (pc + 3) ls (.ref M.1 :: rest))) : W p l e R s m args below meth c H locs cells slots Q (F0 m pc ls (.int n :: rest)) := by
  subst hN
  have hsz := hR.1
  rw [← hsz] at kk
  refine W.anew hexec hb hown hclink hover rfl hdg rfl hn (by omega) hcells hslots fun cA kA comp f1 f2 f3 f4 => ?_
  obtain ⟨kA', comp', k1, k2, k3, k4⟩ := (hK.1.2 kd _ ht).2
  have hcA : cA = G.2.1 kd := Option.some.inj (f1.symm.trans k4)
  refine kk _ (hR.new (by simp) (fun q hq => by rw [Array.getElem?_push, if_neg (Nat.ne_of_lt hq)]) ?_)
  show (H.push _)[H.size]? = some (vp_cell _ _)
  rw [Array.getElem?_push_size, vp_cell_q, hcA, arrV_new]
  rfl
theorem w_copy (hexec : p.tables.exec = Jvm.exec) (hb : c.code = cc) (hml : c.maxLocals = ls.size) {own : String} {index : Nat} (hown : s.vm.findClass own = some m.cls) (hlink : (Cond.methodLink own index arraycopyName).before args s = true) (hnat : (Cond.native arraycopyName).before args s = true) (hstat : (Cond.static arraycopyName).before args s = true) (hini : (Cond.initialized "java/lang/System").before args s = true)
    (hK : me_K G s) (hR : me_R G M H) {a0 n0 n1 : Nat} {f g : Nat → Int32} (ha0 : M.2 a0 = some (.inl (0, n0, .inl f))) (ha1 : M.2 a = some (.inl (0, n1, .inl g)))
    {sp dp n : Int32} (h1 : ¬ sp < 0) (h2 : ¬ dp < 0) (h3 : ¬ n < 0) (h4 : sp.toNatClampNeg + n.toNatClampNeg ≤ n0) (h5 : dp.toNatClampNeg + n.toNatClampNeg ≤ n1) (hf : ∀ q ∈ locs, G.2.2.1 ≤ q.base)
    (hframes : 1 ≤ R.frames) (hlocals : (rest.map fun v => v.category).sum + (nativeFrameWords "java/lang/System" "arraycopy" 5 + 11) ≤ R.locals) (hdg : decode cc pc = .ok (.invokestatic index, 3))
    (kk : ∀ (H1 : Heap) (locs1 : List Loc), me_R G (me_set M a (.inl (0, n1, .inl (va_cpy f g sp.toNatClampNeg dp.toNatClampNeg n.toNatClampNeg)))) H1 → (∀ q ∈ locs1, G.2.2.1 ≤ q.base) → W p l e R s m args below meth c H1 locs1 cells slots Q (F0 m (pc + 3) ls rest)) : W p l e R s m args below meth c H locs cells slots Q (F0 m pc ls (.int n :: .int dp :: .ref a :: .int sp :: .ref a0 :: rest)) := by
  have nn : ∀ z : Int32, ¬ z < 0 → z.toInt = (z.toNatClampNeg : Int) := by
    intro z hz
    have hz0 : (0 : Int) ≤ z.toInt := by
      have := Int32.not_lt.mp hz
      simpa using Int32.le_iff_toInt_le.mp this
    show z.toInt = ((z.toInt.toNat : Nat) : Int)
    omega
  intro T hT X
  obtain ⟨hS0, hc1⟩ := hR.2.2.2 a _ ha1
  obtain ⟨-, hc0⟩ := hR.2.2.2 a0 _ ha0
  have hc0 : H[a0]? = some (vp_cell (G.2.1 0) (n0, .inl f)) := hc0
  have hc1 : H[a]? = some (vp_cell (G.2.1 0) (n1, .inl g)) := hc1
  obtain ⟨-, k0, hk0, cm0, hkk0⟩ := (hK.1.2 0 _ rfl).1 n0 (fun j => .int (f j))
  obtain ⟨-, k1, hk1, cm1, hkk1⟩ := (hK.1.2 0 _ rfl).1 n1 (fun j => .int (g j))
  obtain ⟨vm', X', step⟩ := X.arraycopy hexec hown hlink hnat hstat hini (src := a0) (dst := a) (cs := vp_cell (G.2.1 0) (n0, .inl f)) (cd := vp_cell (G.2.1 0) (n1, .inl g)) (srcPos := sp) (destPos := dp) (n := n) (by rw [hT]; exact hc0) (by rw [hT]; exact hc1)
    (fun _ h => by cases h) (fun _ h => by cases h) (fun h => by cases h) (fun h => by cases h) hk0 hk1 hkk0 hkk1 (by simp [refKind]) h1 h2 h3
    (by rw [nn sp h1, nn n h3]; show ¬ _ > ((arrV (G.2.1 0) n0 (fun j => .int (f j))).slots.size : Int); rw [arrV_size]; omega)
    (by rw [nn dp h2, nn n h3]; show ¬ _ > ((arrV (G.2.1 0) n1 (fun j => .int (g j))).slots.size : Int); rw [arrV_size]; omega)
    (fun vm₁ _ i hi => by
      have e : (vp_cell (G.2.1 0) (n0, .inl f)).slots.getD (sp.toNatClampNeg + i) .null = .int (f (sp.toNatClampNeg + i)) := by
        show (arrV (G.2.1 0) n0 (fun j => .int (f j))).slots.getD _ _ = _
        rw [Array.getD_eq_getD_getElem?, arrV_read _ _ (by omega)]
        rfl
      refine ⟨?_, ?_⟩
      · rw [e]
        rfl
      · rw [e]
        exact trivial)
    (g := F0 m pc ls (.int n :: .int dp :: .ref a :: .int sp :: .ref a0 :: rest)) rfl (by rw [hml]) (rest := rest) rfl (by rw [hb]; exact hdg) hframes (by show 2 * 0 + _ + _ ≤ _; omega)
  have e1 : copied (vp_cell (G.2.1 0) (n0, .inl f)) (vp_cell (G.2.1 0) (n1, .inl g)) sp dp n = vp_cell (G.2.1 0) (n1, .inl (va_cpy f g sp.toNatClampNeg dp.toNatClampNeg n.toNatClampNeg)) := va_copied (fun z => .int z) (G.2.1 0) (G.2.1 0) f g h4
  rw [e1] at X' step
  have hl : a < H.size := (Array.getElem?_eq_some_iff.mp hc1).1
  have hheap : ((T.setVm vm').setCell a (vp_cell (G.2.1 0) (n1, .inl (va_cpy f g sp.toNatClampNeg dp.toNatClampNeg n.toNatClampNeg)))).heap = H.setIfInBounds a (vp_cell (G.2.1 0) (n1, .inl (va_cpy f g sp.toNatClampNeg dp.toNatClampNeg n.toNatClampNeg))) := by rw [← hT]; rfl
  have oq : ∀ q : Nat, q ≠ a → (H.setIfInBounds a (vp_cell (G.2.1 0) (n1, .inl (va_cpy f g sp.toNatClampNeg dp.toNatClampNeg n.toNatClampNeg))))[q]? = H[q]? := fun q hq => by simp [Array.getElem?_setIfInBounds, Ne.symm hq]
  obtain ⟨t, a1, b1⟩ := kk _ _ (hR.set ha1 (by simp) oq (show (H.setIfInBounds a _)[a]? = some _ by simp [Array.getElem?_setIfInBounds, hl])) (fun q hq => by
      rcases List.mem_append.mp hq with h | h
      · exact hf q h
      · obtain ⟨z, -, hz⟩ := List.mem_map.mp h
        rw [← hz]
        exact hS0) _ hheap X'
  exact ⟨t, step t a1, b1⟩
theorem w_call {mc ms : Nat} {r : sm_R} {ar : Array Value} {st0 : List Value} (hr : va_Run p l e R s m args below meth c H locs cells slots mc ms (F0 m pc ls st0) rest (sd_Qc G r ar) (fun q => G.2.2.1 ≤ q)) (hf : ∀ q ∈ locs, G.2.2.1 ≤ q.base)
    (kk : ∀ (H1 : Heap) (locs1 : List Loc), me_R G r.2 H1 → (∀ q ∈ locs1, G.2.2.1 ≤ q.base) → W p l e R s m args below meth c H1 locs1 (cells + mc) (slots + ms) Q (F0 m (pc + 3) ls (r.1.toList ++ rest))) : W p l e R s m args below meth c H locs cells slots Q (F0 m pc ls st0) := by
  intro T hT X
  obtain ⟨v, st₀, t, T', L, h0, X', hL, e1, e2, ⟨hv, hm⟩, st⟩ := hr T hT X
  cases hv
  obtain ⟨t2, a1, b1⟩ := kk T'.heap (locs ++ L) (by rw [e1]; exact hm) (fun q hq => by
      rcases List.mem_append.mp hq with h | h
      · exact hf q h
      · exact hL q h) T' rfl X'
  exact ⟨t2, st t2 a1, b1⟩
end WM
