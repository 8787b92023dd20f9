/-! long arrays in the memory -/
def me_long (M : me_M) (a : Nat) : Option (Nat × (Nat → Int64)) := match M.2 a with
  | some (.inl (k, n, .inr (.inl f))) => if k = 1 then some (n, f) else none
  | _ => none
theorem me_long_eq {M : me_M} {a n : Nat} {f : Nat → Int64} (h : me_long M a = some (n, f)) : M.2 a = some (.inl (1, n, .inr (.inl f))) := by
  unfold me_long at h
  split at h
  · rename_i k n' f' ho
    split at h
    · rename_i h1
      cases h
      rw [ho, h1]
    · cases h
  · cases h
theorem me_long_of {M : me_M} {a n : Nat} {f : Nat → Int64} (h : M.2 a = some (.inl (1, n, .inr (.inl f)))) : me_long M a = some (n, f) := by
  unfold me_long
  rw [h]
  rfl
section WL
variable {G : me_G} {p : Program} {l : Launch} {e : Env} {R : Room} {s : State} {m : MethodId} {args : Array Value} {below : List Frame} {meth : Method} {c : Code} {H : Heap} {locs : List Loc} {cells slots : Nat} {Q : State → Prop}
variable {cc : ByteArray} {pc : Nat} {ls : Array Slot} {rest : List Value} {a : Nat} {M : me_M}
theorem w_last (hexec : p.tables.exec = Jvm.exec) (hb : c.code = cc) (hK : me_K G s) (hR : me_R G M H) {n : Nat} {f : Nat → Int64} (ha : M.2 a = some (.inl (1, n, .inr (.inl f)))) {i : Int32} {x : Int64} (hin : ¬ (i < 0 ∨ n ≤ i.toNatClampNeg)) (hf : ∀ q ∈ locs, G.2.2.1 ≤ q.base) (hdg : decode cc pc = .ok (.lastore, 1))
    (kk : ∀ (H1 : Heap) (locs1 : List Loc), me_R G (me_set M a (.inl (1, n, .inr (.inl (vp_updL f i.toNatClampNeg x))))) H1 → (∀ q ∈ locs1, G.2.2.1 ≤ q.base) → W p l e R s m args below meth c H1 locs1 cells slots Q (F0 m (pc + 1) ls rest)) : W p l e R s m args below meth c H locs cells slots Q (F0 m pc ls (.long x :: .int i :: .ref a :: rest)) := by
  obtain ⟨hS0, hat⟩ := hR.2.2.2 a _ ha
  refine W.last hexec hb hat ((hK.1.2 1 _ rfl).1 n (fun j => .long (f j))) (fun q => by cases q) (by show ¬ (i < 0 ∨ (arrV _ _ _).slots.size ≤ _); rw [arrV_size]; exact hin) rfl rfl hdg fun H1 e z oq => ?_
  refine kk H1 _ (hR.set ha z oq ?_) (me_lo hf hS0)
  show H1[a]? = some (vp_cell _ _)
  rw [e]
  show some (Cell.setSlot (vp_cell _ _) _ _) = _
  rw [vp_cell_l, vp_cell_l, arrV_store]
  congr 2
  funext q
  by_cases hq : q = i.toNatClampNeg
  · subst hq; simp [updV, vp_updL]
  · simp [updV, vp_updL, hq]
theorem w_newl (hexec : p.tables.exec = Jvm.exec) (hb : c.code = cc) (harr : (Cond.arrayClass .long).before args s = true) (hK : me_K G s) (hR : me_R G M H)
    {n : Int32} {N : Nat} (hn : ¬ n < 0) (hN : n.toNatClampNeg = N) (hN2 : N ≤ 67108864) (hcells : cells + 1 ≤ R.cells) (hslots : slots + N ≤ R.slots) (hdg : decode cc pc = .ok (.newarray .long, 2))
    (kk : ∀ (H1 : Heap), me_R G (me_new M (.inl (1, N, .inr (.inl (fun _ => 0))))) H1 → W p l e R s m args below meth c H1 locs (cells + 1) (slots + N) Q (F0 m (pc + 2) ls (.ref M.1 :: rest))) : W p l e R s m args below meth c H locs cells slots Q (F0 m pc ls (.int n :: rest)) := by
  have hsz := hR.1
  refine va_newaK (atype := .long) hexec hb harr rfl hdg rfl hn hN (Nat.le_trans (Nat.mul_le_mul hN2 (show componentBytes (newarray.typeOf .long) ≤ 8 by decide)) (by decide)) hcells hslots hsz fun H1 cA e1 z1 o1 hAr hNm => ?_
  have hRA : s.vm.findClass ("[" ++ (newarray.typeOf .long).toString) = some (G.2.1 1) := (hK.1.2 1 _ rfl).2
  have hcA : cA = G.2.1 1 := Option.some.inj (hNm.symm.trans hRA)
  refine kk H1 (hR.new (by rw [hsz]; exact z1) (fun q hq => o1 q (by rw [← hsz]; exact hq)) ?_)
  rw [hsz]
  show H1[M.1]? = some (vp_cell _ _)
  rw [e1, hcA, vp_cell_l]
  rfl
end WL
def i_lst (nx : Nat) : sm_F := fun lo stk M c n K => match stk with
  | u :: v :: w :: t => (v_long u).bind fun x => (v_int v).bind fun i => (v_ref w).bind fun a => (me_long M a).bind fun f => if i < 0 ∨ f.1 ≤ i.toNatClampNeg then none else K (nx, lo, t, me_set M a (.inl (1, f.1, .inr (.inl (vp_updL f.2 i.toNatClampNeg x)))), c, n)
  | _ => none
def i_lld (nx : Nat) : sm_F := fun lo stk M c n K => match stk with
  | v :: w :: t => (v_int v).bind fun i => (v_ref w).bind fun a => (me_long M a).bind fun f => if i < 0 ∨ f.1 ≤ i.toNatClampNeg then none else K (nx, lo, .long (f.2 i.toNatClampNeg) :: t, M, c, n)
  | _ => none
def i_nl (mc ms nx : Nat) : sm_F := fun lo stk M c n K => match stk with
  | v :: t => (v_int v).bind fun x => if x < 0 ∨ 67108864 < x.toNatClampNeg then none else cond (Nat.ble (c + 1) mc && Nat.ble (n + x.toNatClampNeg) ms) (K (nx, lo, .ref M.1 :: t, me_new M (.inl (1, x.toNatClampNeg, .inr (.inl (fun _ => 0)))), c + 1, n + x.toNatClampNeg)) none
  | [] => none
section XL
variable {y : MethodName} {cc : ByteArray} {nL : Nat} {ret : Option FieldType} {rm : Room} {pc : Nat}
theorem x_lst (d : decode cc pc = .ok (.lastore, 1)) : xd_S y cc nL ret rm pc (i_lst (pc + 1)) := by
  refine ⟨fun lo stk M k n => ?_, fun G p l e s m args below meth c C Q lo stk M k n K r h hK => ?_⟩
  · rcases stk with _ | ⟨v, _ | ⟨w, _ | ⟨z, t⟩⟩⟩
    · exact ok_c none
    · exact ok_c none
    · exact ok_c none
    · exact ok_b _ fun _ => ok_b _ fun _ => ok_b _ fun _ => ok_b _ fun _ => ok_i (ok_c none) (ok_K _)
  · obtain ⟨hx, hb, hml, hown, hts, hKK, hlk, hrt, hnm⟩ := C
    rcases stk with _ | ⟨u, _ | ⟨v, _ | ⟨w, t⟩⟩⟩
    · cases h
    · cases h
    · cases h
    · obtain ⟨x, h1, hA⟩ := Option.bind_eq_some_iff.mp h
      obtain ⟨i, h2, hB⟩ := Option.bind_eq_some_iff.mp hA
      obtain ⟨a, h3, hC⟩ := Option.bind_eq_some_iff.mp hB
      obtain ⟨⟨z, f⟩, h4, hD⟩ := Option.bind_eq_some_iff.mp hC
      obtain ⟨h5, hE⟩ := oi_eq hD
      cases v_long_eq h1
      cases v_int_eq h2
      cases v_ref_eq h3
      intro ls H locs hl hR hf
      exact w_last hx hb hKK hR (me_long_eq h4) h5 hf d (fun H1 locs1 hR1 hf1 => hK _ hE ls H1 locs1 hl hR1 hf1)
theorem x_lld (d : decode cc pc = .ok (.laload, 1)) : xd_S y cc nL ret rm pc (i_lld (pc + 1)) := by
  refine ⟨fun lo stk M k n => ?_, fun G p l e s m args below meth c C Q lo stk M k n K r h hK => ?_⟩
  · rcases stk with _ | ⟨v, _ | ⟨w, t⟩⟩
    · exact ok_c none
    · exact ok_c none
    · exact ok_b _ fun _ => ok_b _ fun _ => ok_b _ fun _ => ok_i (ok_c none) (ok_K _)
  · obtain ⟨hx, hb, hml, hown, hts, hKK, hlk, hrt, hnm⟩ := C
    rcases stk with _ | ⟨v, _ | ⟨w, t⟩⟩
    · cases h
    · cases h
    · obtain ⟨i, h2, hB⟩ := Option.bind_eq_some_iff.mp h
      obtain ⟨a, h3, hC⟩ := Option.bind_eq_some_iff.mp hB
      obtain ⟨⟨z, f⟩, h4, hD⟩ := Option.bind_eq_some_iff.mp hC
      obtain ⟨h5, hE⟩ := oi_eq hD
      cases v_int_eq h2
      cases v_ref_eq h3
      intro ls H locs hl hR hf
      exact va_lald hx hb hKK.1 (hR.one (me_long_eq h4)) 0 1 rfl rfl h5 d (hK _ hE ls H locs hl hR hf)
theorem x_nl (d : decode cc pc = .ok (.newarray .long, 2)) (w : Cond.arrayClass .long ∈ me_w) : xd_S y cc nL ret rm pc (i_nl rm.cells rm.slots (pc + 2)) := by
  refine ⟨fun lo stk M k n => ?_, fun G p l e s m args below meth c C Q lo stk M k n K r h hK => ?_⟩
  · cases stk with
    | nil => exact ok_c none
    | cons v t => exact ok_b _ fun _ => ok_i (ok_c none) (ok_cd (ok_K _) (ok_c none))
  · obtain ⟨hx, hb, hml, hown, hts, hKK, hlk, hrt, hnm⟩ := C
    cases stk with
    | nil => cases h
    | cons v t =>
      obtain ⟨x, h1, hA⟩ := Option.bind_eq_some_iff.mp h
      obtain ⟨h2, hB⟩ := oi_eq hA
      obtain ⟨h3, hC⟩ := cd_eq hB
      obtain ⟨h4, h5⟩ := bb_eq h3
      cases v_int_eq h1
      intro ls H locs hl hR hf
      exact w_newl hx hb (hts _ w) hKK hR (fun q => h2 (Or.inl q)) rfl (Nat.not_lt.mp fun q => h2 (Or.inr q)) h4 h5 d (fun H1 hR1 => hK _ hC ls H1 locs hl hR1 hf)
/-- one step, its end free -/
theorem x_step {f : sm_F} {G : me_G} {p : Program} {l : Launch} {e : Env} {s : State} {m : MethodId} {args : Array Value} {below : List Frame} {meth : Method} {c : Code} (h : xd_S y cc nL ret rm pc f) (C : sd_C G p s m args meth c y cc nL ret) {Q : State → Prop} {lo : sm_L} {stk : List Value} {M : me_M} {k n : Nat} {st : sm_S} (hf : ∀ K, f lo stk M k n K = K st) (hw : sd_W G p l e rm s m args below meth c nL Q st) : sd_W G p l e rm s m args below meth c nL Q (pc, lo, stk, M, k, n) := by
  refine h.2 G p l e s m args below meth c C (fun _ => Q) lo stk M k n (fun st' => @ite _ (st' = st) (Classical.propDecidable _) (some (none, M)) none) (none, M) ((hf _).trans (if_pos rfl)) (fun st' hs => ?_)
  by_cases hq : st' = st
  · rw [hq]; exact hw
  · rw [if_neg hq] at hs; cases hs
end XL
