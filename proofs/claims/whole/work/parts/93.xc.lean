section XZ
variable {y : MethodName} {cc : ByteArray} {nL : Nat} {ret : Option FieldType} {rm : Room} {pc : Nat}
theorem y_w {W : List (Nat × List Nat)} {f : sm_F} (h : xd_Y y cc nL ret rm pc f) : xd_Y y cc nL ret rm pc (i_w W f) := by
  refine ⟨fun lo stk M k n => ?_, fun G p l e s m args below meth c C lo stk M k n K r hf hK => ?_⟩
  · rcases h.1 lo stk M k n with ⟨st, he⟩ | ⟨x, he⟩
    · exact Or.inl ⟨i_wl W st, fun K => he _⟩
    · exact Or.inr ⟨x, fun K => he _⟩
  · refine h.2 G p l e s m args below meth c C lo stk M k n _ r hf (fun st' hs => ?_)
    have h1 := hK _ hs
    unfold i_wl at h1
    split at h1
    · intro ls H locs hl hR hf
      exact h1 ls H locs ⟨hl.1, hl.2.1, fun q hq => hl.2.2 q (List.mem_filter.mp hq).1⟩ hR hf
    · exact h1
end XZ
def xd_A (y : MethodName) (cc : ByteArray) (nL : Nat) (ret : Option FieldType) (rm : Room) (T : sm_T) : Prop := ∀ x ∈ T, xd_Y y cc nL ret rm x.1 x.2
theorem xd_n {y : MethodName} {cc : ByteArray} {nL : Nat} {ret : Option FieldType} {rm : Room} : xd_A y cc nL ret rm [] := fun _ h => nomatch h
theorem xd_c {y : MethodName} {cc : ByteArray} {nL : Nat} {ret : Option FieldType} {rm : Room} {pc : Nat} {f : sm_F} {T : sm_T} (h : xd_Y y cc nL ret rm pc f) (t : xd_A y cc nL ret rm T) : xd_A y cc nL ret rm ((pc, f) :: T) := fun x hx => (List.mem_cons.mp hx).elim (fun e => by rw [e]; exact h) (t x)
theorem xd_ok {y : MethodName} {cc : ByteArray} {nL : Nat} {ret : Option FieldType} {rm : Room} {T : sm_T} (h : xd_A y cc nL ret rm T) : ok_T T := fun x hx => (h x hx).1
theorem xm_fx {y : MethodName} {cc : ByteArray} {nL : Nat} {ret : Option FieldType} {rm : Room} {T : sm_T} (h : xd_A y cc nL ret rm T) : sm_Fx T (sm T) := sm_eq (xd_ok h)
theorem xd_run {y : MethodName} {cc : ByteArray} {nL : Nat} {ret : Option FieldType} {rm : Room} {T : sm_T} (h : xd_A y cc nL ret rm T) {G : me_G} {p : Program} {l : Launch} {e : Env} {s : State} {m : MethodId} {args : Array Value} {below : List Frame} {meth : Method} {c : Code} (C : xd_C G p l s m args meth c y cc nL ret) {r : sm_R} :
    ∀ (n : Nat) (st : sm_S), sm_run T n st = some r → sd_W G p l e rm s m args below meth c nL (xd_Q G s args below rm r) st := by
  intro n
  induction n with
  | zero => intro st h; cases h
  | succ n ih =>
    intro st hr
    have hr : sm_go T st (sm_run T n) = some r := hr
    unfold sm_go at hr
    cases hf : sm_at T st.1 with
    | none => rw [hf] at hr; cases hr
    | some f =>
      rw [hf] at hr
      exact (h _ (sm_at_mem hf)).2 G p l e s m args below meth c C _ _ _ _ _ _ _ hr ih
def xd_Pc (G : me_G) (as : List Value) (M : me_M) : Array Value → State → Prop := fun a U => a = as.toArray ∧ me_R G M U.heap ∧ me_K G U ∧ xe_K G U
theorem xd_blind (G : me_G) (as : List Value) (M : me_M) : FrameBlind (xd_Pc G as M) := fun a U g mk h => ⟨h.1, h.2.1, me_K.same (s := U) (U := U.calling g mk a) rfl h.2.2.1, xe_K.same (s := U) (U := U.calling g mk a) rfl h.2.2.2⟩
/-- a contract of a method that returns or throws -/
def xd_M (y : MethodName) (cc : ByteArray) (nL : Nat) (ret : Option FieldType) (rm : Room) (f : List Value → me_M → Option sm_R) : Prop :=
  ∀ (l : Launch) (_ : l.stackTraces = false) (G : me_G) (as : List Value) (M : me_M) (r : sm_R), f as M = some r → vx_Met l y (sd_ws y cc nL ret) rm (xd_Pc G as M) (xd_Qc G r) (xd_X G r) rm.cells rm.slots (fun q => G.2.2.1 ≤ q)
theorem xd_met {y : MethodName} {cc : ByteArray} {nL : Nat} {ret : Option FieldType} {rm : Room} {T : sm_T} (h : xd_A y cc nL ret rm T) (hy : plainName y.cls = true) : xd_M y cc nL ret rm (sd_f nL T) := by
  intro l hst G as M r hr
  unfold sd_f at hr
  cases hble : Nat.ble (lg_sl as).length nL with
  | false => rw [hble] at hr; cases hr
  | true =>
  rw [hble] at hr
  have hr : sm T (0, lv_args 0 as, [], M, 0, 0) = some r := hr
  have hlen := Nat.le_of_ble_eq_true hble
  obtain ⟨n, hn⟩ := (sm_some (xd_ok h)).mp hr
  refine vx_ofW (cc := cc) (maxL := nL) (ret := ret) hy rfl ?_
  intro p e s m args below meth c s₁ B hml htab hv
  obtain ⟨rfl, hR, hK, hE⟩ := hv
  have hts := atoms_spec (ws := sd_ws y cc nL ret) B.pre
  have hl := lv_entry as (n := nL) hlen
  have C : sd_C G p s m as.toArray meth c y cc nL ret := ⟨B.exec, B.bytes, hml, findClass_of_methodNamed B.named, fun w hw => hts w (List.mem_cons_of_mem _ hw), hK, B.notSynchronized, B.returns, (name_of_methodNamed B.named B.method).1⟩
  rw [lg_entry_eq]
  exact xd_run h ⟨C, hst, hE, ⟨M, hR⟩, htab⟩ n _ hn _ _ [] hl hR (fun q hq => nomatch hq)
/-- .. the same for a method of a class that isn't plain by its name (Math) -/
theorem sd_metF {y : MethodName} {cc : ByteArray} {nL : Nat} {ret : Option FieldType} {rm : Room} {T : sm_T} (h : sd_A y cc nL ret rm T) (hy : plainFor y = true) : sd_M y cc nL ret rm (sd_f nL T) := by
  intro l G as M r hr
  unfold sd_f at hr
  cases hble : Nat.ble (lg_sl as).length nL with
  | false => rw [hble] at hr; cases hr
  | true =>
  rw [hble] at hr
  have hr : sm T (0, lv_args 0 as, [], M, 0, 0) = some r := hr
  have hlen := Nat.le_of_ble_eq_true hble
  obtain ⟨n, hn⟩ := (sm_some (sd_ok h)).mp hr
  refine MetFree.of_bodySF (code := cc) (maxLocals := nL) (ret := ret) hy ?_ ?_
  · intro args s m h hn
    obtain ⟨meth, c, h1, h2, h3, h4, h5, h6, -, -⟩ := Cond.code_spec hn (atoms_spec (ws := sd_ws y cc nL ret) h _ List.mem_cons_self)
    exact ⟨meth, c, h1, h2, h3, h4, h5, h6⟩
  · intro p e s m args below meth c s₁ B hml hP _
    have hh0 : s₁.heap = s.heap := by rw [B.state]; rfl
    obtain ⟨rfl, hR, hK⟩ := hP
    have hts := atoms_spec (ws := sd_ws y cc nL ret) B.pre
    have hl := lv_entry as (n := nL) hlen
    have C : sd_C G p s m as.toArray meth c y cc nL ret := ⟨B.exec, B.bytes, hml, findClass_of_methodNamed B.named, fun w hw => hts w (List.mem_cons_of_mem _ hw), hK, B.notSynchronized, B.returns, (name_of_methodNamed B.named B.method).1⟩
    obtain ⟨t, a1, o, b1, b2, b3⟩ := sd_run h C n _ hn _ _ [] hl hR (fun q hq => nomatch hq) s₁ hh0 (Stand.of_body B)
    rw [lg_entry_eq]
    exact ⟨t, o, a1, b1, b2, b3⟩
/-! a static call of such a method -/
def xd_V (z : MethodName) (cz : ByteArray) (nz : Nat) (rz : Option FieldType) (rmz : Room) (np : Nat) (f : List Value → me_M → Option sm_R) : Prop :=
  xd_M z cz nz rz rmz f ∧ Cond.code z cz nz rz ∈ me_w ∧ Cond.initialized z.cls ∈ me_w ∧ (z.cls ≠ "java/lang/invoke/MethodHandle" ∧ z.cls ≠ "java/lang/invoke/VarHandle" ∧ (parseMethodDescriptor z.desc).map (fun d => d.parameters.length) = some np)
def xk (o : Option Value) (a : UInt32 → Option sm_R) (b : Option sm_R) : Option sm_R := match o with
  | some (.float k) => a k
  | _ => b
theorem xk_f {o : Option Value} {a : UInt32 → Option sm_R} {b : Option sm_R} {k : UInt32} (h : o = some (.float k)) : xk o a b = a k := by rw [h]; rfl
theorem xk_n {o : Option Value} {a : UInt32 → Option sm_R} {b : Option sm_R} (h : ∀ k, o ≠ some (.float k)) : xk o a b = b := by
  unfold xk
  split
  · exact absurd rfl (h _)
  · rfl
def i_xs (na rk : Nat) (f : List Value → me_M → Option sm_R) (mz nz mc ms nx : Nat) : sm_F := fun lo stk M c n K =>
  cond (Nat.ble na stk.length && st_ok (stk.drop na)) ((f (stk.take na).reverse M).bind fun r => cond (Nat.ble (c + mz) mc && Nat.ble (n + nz) ms) (xk r.1 (fun k => some (some (.float k), r.2)) (i_rk rk r.1 fun ts => K (nx, lo, ts ++ stk.drop na, r.2, c + mz, n + nz))) none) none
theorem ok_xk {o : Option Value} {a : UInt32 → Option sm_R} {g : sm_K → Option sm_R} (h : ok_P g) : ok_P (fun K => xk o a (g K)) := by
  by_cases hk : ∃ k, o = some (.float k)
  · obtain ⟨k, hk⟩ := hk
    refine Or.inr ⟨a k, fun K => xk_f hk⟩
  · have hk : ∀ k, o ≠ some (.float k) := fun k e => hk ⟨k, e⟩
    simp only [xk_n hk]
    exact h
theorem y_xs {y : MethodName} {cc : ByteArray} {nL : Nat} {ret : Option FieldType} {rm : Room} {pc : Nat} {z : MethodName} {cz : ByteArray} {nz np ix rk : Nat} {rz : Option FieldType} {rmz : Room} {f : List Value → me_M → Option sm_R} (d : decode cc pc = .ok (.invokestatic ix, 3)) (V : xd_V z cz nz rz rmz np f) (w1 : Cond.methodLink y.cls ix z ∈ me_w) (w2 : Cond.static z ∈ me_w) (hr : rmz.frames + 1 ≤ rm.frames ∧ 8 + (nz + 11) + rmz.locals ≤ rm.locals) : xd_Y y cc nL ret rm pc (i_xs np rk f rmz.cells rmz.slots rm.cells rm.slots (pc + 3)) := by
  refine ⟨fun lo stk M k n => ok_cd (ok_b _ fun _ => ok_cd (ok_xk (ok_rk _ _ fun _ => ok_K _)) (ok_c none)) (ok_c none), fun G p l e s m args below meth c C lo stk M k n K r h hK => ?_⟩
  obtain ⟨⟨hx, hb, hml, hown, hts, hKK, hlk, hrt, hnm⟩, hst, hE, hR0, htab⟩ := C
  obtain ⟨hV, v1, v2, v3⟩ := V
  obtain ⟨h1, hA⟩ := cd_eq h
  obtain ⟨h2, h3⟩ := bs_eq h1
  obtain ⟨q, e3, hD⟩ := Option.bind_eq_some_iff.mp hA
  obtain ⟨e4, hE'⟩ := cd_eq hD
  obtain ⟨e5, e6⟩ := bb_eq e4
  have hlen : (stk.take np).reverse.length = np := by
    simp only [List.length_reverse, List.length_take]
    omega
  intro ls H locs hl hR hf T hT X
  rcases vx_runS (g := F0 m pc ls stk) (As := (stk.take np).reverse) (rest := stk.drop np) ⟨hx, hb, hml, hown, hts⟩ (hV l hst G _ _ _ e3) ⟨callB_of np hts (sd_in v1) rfl rfl rfl (hts _ v2) (hts _ w1) v3 hr, hts _ w2⟩ ⟨xd_blind _ _ _, fun U hU hW => ⟨rfl, by rw [hU]; exact hR, me_K.moved hW hKK, xe_K.moved hW hE⟩⟩ rfl hlen hl.1 (by rw [List.reverse_reverse]; exact (List.take_append_drop np stk).symm) (lv_room h3) d ⟨e5, e6⟩ T hT X with ⟨v, st₀, t, T', L, h0, X', hL, g1, g2, ⟨hv, hm, hno⟩, st⟩ | ⟨q2, st₀, t, T', L, E, ce, h0, X', hL, g1, g2, hXC, hcell, hvm, hcl, st⟩
  · cases hv
    rw [xk_n hno] at hE'
    have hF := rk_eq hE'
    obtain ⟨t2, a1, b1⟩ := hK _ hF ls T'.heap (locs ++ L) hl (by rw [g1]; exact hm) (fun q hq => by
      rcases List.mem_append.mp hq with h | h
      · exact hf q h
      · exact hL q h) T' rfl X'
    exact ⟨t2, st t2 a1, b1⟩
  · obtain ⟨kx, N, x1, x2, x3, x4⟩ := hXC
    rw [xk_f x1] at hE'
    cases hE'
    have ho := vx_out (p := p) (l := l) (e := e) (R := rm) (s := s) (m := m) (args := args) (below := below) (meth := meth) (c := c) (H := T'.heap) (locs := locs ++ L) (cells := k + rmz.cells) (slots := n + rmz.slots) (Qc := xd_Qc G (some (.float kx), q.2)) (XC := xd_X G (some (.float kx), q.2)) (free := fun q => G.2.2.1 ≤ q) (ls := ls) (rest := stk.drop np) (pc := pc) (E := E) (ce := ce) (q := q2) (mc := rm.cells) (ms := rm.slots) (fun x hx => (htab x hx).elim) hlk (by rw [g1]; exact hcell) hvm hcl
      (fun t' ht' _ => ⟨kx, N, rfl, x2, x3, by rw [ht', g1]; exact x4⟩) (fun q hq => by
      rcases List.mem_append.mp hq with h | h
      · exact hf q h
      · exact hL q h) e5 e6
    obtain ⟨t2, a1, b1⟩ := ho T' rfl X'
    exact ⟨t2, st.trans a1, b1⟩
section EX
variable {K : sm_K} {lo : sm_L} {stk : List Value} {M : me_M} {c n nx : Nat} {r : Option sm_R}
theorem q_th {k : UInt32} {mc ms : Nat} (e : Nat.ble stk.length 4 = true) (h : cond (Nat.ble (c + 1) mc && Nat.ble (n + 6) ms) (some (some (.float k), M)) none = r) : i_th k mc ms lo stk M c n K = r := by
  unfold i_th
  rw [e, Bool.and_true]
  exact h
theorem q_xs {na rk mz nz mc ms : Nat} {f : List Value → me_M → Option sm_R} {as rest : List Value} (e1 : (Nat.ble na stk.length && st_ok (stk.drop na)) = true) (e2 : (stk.take na).reverse = as) (e3 : stk.drop na = rest) (h : ((f as M).bind fun q => cond (Nat.ble (c + mz) mc && Nat.ble (n + nz) ms) (xk q.1 (fun k => some (some (.float k), q.2)) (i_rk rk q.1 fun ts => K (nx, lo, ts ++ rest, q.2, c + mz, n + nz))) none) = r) : i_xs na rk f mz nz mc ms nx lo stk M c n K = r := by
  unfold i_xs
  rw [e1, e2, e3]
  exact h
theorem q_xk {o : Option Value} {a : UInt32 → Option sm_R} {b b' : Option sm_R} (h : b = b') : xk o a b = xk o a b' := by rw [h]
end EX
