/-! throws: the words of each kind of exception -/
def xe_A : List String := ["java/lang/RuntimeException", "java/lang/Exception"]
def xe_I : List String := ["java/lang/IndexOutOfBoundsException", "java/lang/RuntimeException", "java/lang/Exception"]
def xe_C0 : String := "java/lang/ArithmeticException"
def xe_C1 : String := "java/lang/IllegalArgumentException"
def xe_C2 : String := "java/lang/ArrayIndexOutOfBoundsException"
def xe_D (s : String) : Cond := .declares ⟨s, "<init>", "(Ljava/lang/String;)V"⟩
def xe_B : List Cond := [.castable xe_C0 xe_C0, .castable xe_C1 xe_C1, .castable xe_C2 xe_C2, xe_D "java/lang/RuntimeException", xe_D "java/lang/Exception", xe_D "java/lang/Throwable", xe_D "java/lang/IndexOutOfBoundsException"]
theorem xe_n0 : ∀ w ∈ ((vx_atS "PlanFractions" 42 xe_C0 xe_A).filter (fun w => !goodWord w)), w ∈ xe_B := by decide +kernel
theorem xe_n1 : ∀ w ∈ ((vx_atS "PlanFractions" 115 xe_C1 xe_A).filter (fun w => !goodWord w)), w ∈ xe_B := by decide +kernel
theorem xe_n2 : ∀ w ∈ ((vx_atS "PlanFractions" 134 xe_C2 xe_I).filter (fun w => !goodWord w)), w ∈ xe_B := by decide +kernel
theorem xe_g0 : ∀ w ∈ (vx_atS "PlanFractions" 42 xe_C0 xe_A).filter goodWord, w ∈ me_w := by decide +kernel
theorem xe_g1 : ∀ w ∈ (vx_atS "PlanFractions" 115 xe_C1 xe_A).filter goodWord, w ∈ me_w := by decide +kernel
theorem xe_g2 : ∀ w ∈ (vx_atS "PlanFractions" 134 xe_C2 xe_I).filter goodWord, w ∈ me_w := by decide +kernel
theorem xe_o0 : ∀ w ∈ Cond.classLink "PlanFractions" 38 xe_C0 :: Cond.initialized xe_C0 :: vx_atS "PlanFractions" 42 xe_C0 xe_A, vx_ot w = true := by decide +kernel
theorem xe_o1 : ∀ w ∈ Cond.classLink "PlanFractions" 111 xe_C1 :: Cond.initialized xe_C1 :: vx_atS "PlanFractions" 115 xe_C1 xe_A, vx_ot w = true := by decide +kernel
theorem xe_o2 : ∀ w ∈ Cond.classLink "PlanFractions" 130 xe_C2 :: Cond.initialized xe_C2 :: vx_atS "PlanFractions" 134 xe_C2 xe_I, vx_ot w = true := by decide +kernel
def xe_T : List (Nat × String) := [(40, "below is 0"), (73, "b is 0"), (113, "no such VALUE or part"), (124, "it is no long"), (132, "no such k"), (139, "no such op"), (262, "the quotient is no long"), (247, "the sum is no long"), (249, "the difference is no long"), (257, "the product is no long"), (267, "it is no int")]
/-- what else holds at every state of a run: the statics that a throw reads, the texts, the words on exceptions -/
def xe_K (G : me_G) (s : State) : Prop := G.2.2.2.size = G.2.2.1 ∧ vx_Zq Jvm.Bundle.tN "UNASSIGNED_STACK" Jvm.Bundle.steD (fun q => G.2.2.1 ≤ q) s G.2.2.2 ∧ vx_Zq Jvm.Bundle.tN "SUPPRESSED_SENTINEL" Jvm.Bundle.listD (fun q => G.2.2.1 ≤ q) s G.2.2.2 ∧
  (∀ q ∈ xe_T, ∃ a, vk_R "PlanFractions" q.1 q.2 a s) ∧ (∀ w ∈ xe_B, va_Nw w s) ∧ va_Nc xe_C0 xe_C1 s ∧ va_Nc xe_C2 xe_C1 s
theorem xe_Bw {w : Cond} (h : w ∈ xe_B) {s U : State} (hW : s.WarmedH U.vm) (hs : va_Nw w s) : va_Nw w U := by
  simp only [xe_B, xe_D, List.mem_cons, List.not_mem_nil, or_false] at h
  rcases h with rfl | rfl | rfl | rfl | rfl | rfl | rfl
  · exact va_Nw.warmC hW hs
  · exact va_Nw.warmC hW hs
  · exact va_Nw.warmC hW hs
  · exact va_Nw.warmD hW hs
  · exact va_Nw.warmD hW hs
  · exact va_Nw.warmD hW hs
  · exact va_Nw.warmD hW hs
theorem xe_Bt : ∀ w ∈ xe_B, w.onTables = true := by decide +kernel
theorem xe_K.moved {G : me_G} {s U : State} (hW : s.WarmedH U.vm) (h : xe_K G s) : xe_K G U := by
  obtain ⟨h1, h2, h3, h4, h5, h6, h7⟩ := h
  refine ⟨h1, vx_Zq.moved hW.alike h2, vx_Zq.moved hW.alike h3, fun q hq => ?_, fun w hw => xe_Bw hw hW (h5 w hw), va_Nc.moved hW.alike h6, va_Nc.moved hW.alike h7⟩
  obtain ⟨a, ha⟩ := h4 q hq
  exact ⟨a, vk_R.warm hW ha⟩
theorem xe_K.same {G : me_G} {s U : State} (hv : s.vm = U.vm) (h : xe_K G s) : xe_K G U := by
  obtain ⟨h1, h2, h3, h4, h5, h6, h7⟩ := h
  have hA : s.vm.Alike U.vm := hv ▸ Vm.Alike.refl s.vm
  refine ⟨h1, vx_Zq.moved hA h2, vx_Zq.moved hA h3, fun q hq => ?_, fun w hw => va_Nw.same (xe_Bt w hw) hv (h5 w hw), va_Nc.moved hA h6, va_Nc.moved hA h7⟩
  obtain ⟨a, ha⟩ := h4 q hq
  exact ⟨a, vk_R.same hv.symm ha⟩
/-! methods that return or throw: a result whose value is a float tells the kind of the exception -/
def xe_C (k : UInt32) : String := if k = 0 then xe_C0 else if k = 1 then xe_C1 else xe_C2
def xd_no (r : sm_R) : Prop := ∀ k, r.1 ≠ some (.float k)
def xd_Qc (G : me_G) (r : sm_R) : Array Value → State → Outcome → State → Prop := fun _ _ o t => o = .returned r.1 ∧ me_R G r.2 t.heap ∧ xd_no r
def xd_X (G : me_G) (r : sm_R) : String → State → State → Prop := fun E _ t => ∃ (k : UInt32) (N : Nat), r.1 = some (.float k) ∧ E = xe_C k ∧ r.2.1 ≤ N ∧ me_R G (N, r.2.2) t.heap
abbrev xd_Q (G : me_G) (s : State) (args : Array Value) (below : List Frame) (rm : Room) (r : sm_R) : State → Prop := vx_MQ below (xd_Qc G r) (xd_X G r) args s rm.cells rm.slots (fun q => G.2.2.1 ≤ q)
def xd_C (G : me_G) (p : Program) (l : Launch) (s : State) (m : MethodId) (args : Array Value) (meth : Method) (c : Code) (y : MethodName) (cc : ByteArray) (nL : Nat) (ret : Option FieldType) : Prop :=
  sd_C G p s m args meth c y cc nL ret ∧ l.stackTraces = false ∧ xe_K G s ∧ (∃ M0, me_R G M0 s.heap) ∧ ∀ x ∈ c.exceptionTable.toList, False
def xd_Y (y : MethodName) (cc : ByteArray) (nL : Nat) (ret : Option FieldType) (rm : Room) (pc : Nat) (f : sm_F) : Prop :=
  ok_F f ∧ ∀ (G : me_G) (p : Program) (l : Launch) (e : Env) (s : State) (m : MethodId) (args : Array Value) (below : List Frame) (meth : Method) (c : Code), xd_C G p l s m args meth c y cc nL ret →
    ∀ (lo : sm_L) (stk : List Value) (M : me_M) (k n : Nat) (K : sm_K) (r : sm_R), f lo stk M k n K = some r → (∀ st', K st' = some r → sd_W G p l e rm s m args below meth c nL (xd_Q G s args below rm r) st') →
      sd_W G p l e rm s m args below meth c nL (xd_Q G s args below rm r) (pc, lo, stk, M, k, n)
section XY
variable {y : MethodName} {cc : ByteArray} {nL : Nat} {ret : Option FieldType} {rm : Room} {pc : Nat}
theorem y_of {f : sm_F} (h : xd_S y cc nL ret rm pc f) : xd_Y y cc nL ret rm pc f := ⟨h.1, fun G p l e s m args below meth c C lo stk M k n K r hf hK => h.2 G p l e s m args below meth c C.1 (fun r => xd_Q G s args below rm r) lo stk M k n K r hf hK⟩
theorem y_ret {f : sm_F} (h : sd_S y cc nL ret rm pc f) (hc : ∀ lo stk M k n K, f lo stk M k n K = f lo stk M k n (fun _ => none)) (hn : ∀ lo stk M k n K r, f lo stk M k n K = some r → xd_no r) : xd_Y y cc nL ret rm pc f := by
  refine ⟨h.1, fun G p l e s m args below meth c C lo stk M k n K r hf hK => ?_⟩
  intro ls H locs hl hR hf'
  have w := h.2 G p l e s m args below meth c C.1 lo stk M k n (fun _ => none) r ((hc _ _ _ _ _ _).symm.trans hf) (fun _ q => nomatch q) ls H locs hl hR hf'
  refine vx_ret ?_
  intro T hT X
  obtain ⟨t, a1, o, b1, b2, b3, b4⟩ := w T hT X
  exact ⟨t, a1, o, b1, b2, ⟨b3.1, b3.2, hn _ _ _ _ _ _ _ hf⟩, b4⟩
theorem y_ri {a b : Nat} (h : sd_S y cc nL ret rm pc (i_ri a b)) : xd_Y y cc nL ret rm pc (i_ri a b) := by
  refine y_ret h (fun _ _ _ _ _ _ => rfl) (fun lo stk M k n K r h => ?_)
  rcases stk with _ | ⟨v, _ | ⟨w, t⟩⟩
  · cases h
  · obtain ⟨x, h1, hA⟩ := Option.bind_eq_some_iff.mp h
    split at hA
    · cases hA
      intro k hk
      cases hk
    · cases hA
  · cases h
theorem y_rl {a b : Nat} (h : sd_S y cc nL ret rm pc (i_rl a b)) : xd_Y y cc nL ret rm pc (i_rl a b) := by
  refine y_ret h (fun _ _ _ _ _ _ => rfl) (fun lo stk M k n K r h => ?_)
  rcases stk with _ | ⟨v, _ | ⟨w, t⟩⟩
  · cases h
  · obtain ⟨x, h1, hA⟩ := Option.bind_eq_some_iff.mp h
    split at hA
    · cases hA
      intro k hk
      cases hk
    · cases hA
  · cases h
theorem me_R.grow {G : me_G} {M : me_M} {H H1 : Heap} (hR : me_R G M H) (hz : H.size ≤ H1.size) (oq : ∀ q : Nat, q < H.size → H1[q]? = H[q]?) : me_R G (H1.size, M.2) H1 := by
  obtain ⟨h1, h2, h3, h4⟩ := hR
  refine ⟨rfl, Nat.le_trans h2 hz, fun q hq => (oq q (Nat.lt_of_lt_of_le hq h2)).trans (h3 q hq), fun a x hx => ?_⟩
  obtain ⟨h5, h6⟩ := h4 a x hx
  exact ⟨h5, h6.kept (oq _ h6.lt)⟩
theorem me_R.under {G : me_G} {M M0 : me_M} {H H0 : Heap} {locs : List Loc} (hR : me_R G M H) (hR0 : me_R G M0 H0) (hz : H0.size ≤ H.size) (hf : ∀ q ∈ locs, G.2.2.1 ≤ q.base) : va_S (fun q => G.2.2.1 ≤ q) H0 H locs :=
  ⟨hz, fun q _ hq => (hR.2.2.1 q (Nat.not_le.mp hq)).trans (hR0.2.2.1 q (Nat.not_le.mp hq)).symm, hf⟩
def i_th (k : UInt32) (mc ms : Nat) : sm_F := fun _ stk M c n _ => cond (Nat.ble (c + 1) mc && (Nat.ble (n + 6) ms && Nat.ble stk.length 4)) (some (some (.float k), M)) none
theorem y_th {kx : UInt32} {cls text : String} {names : List String} {ik is ic : Nat} (hk : xe_C kx = cls) (hy : y.cls = "PlanFractions") (hcls : Jvm.Bundle.fit cls = true) (hnames : ∀ n ∈ names, Jvm.Bundle.fit n = true)
    (w1 : Cond.classLink "PlanFractions" ik cls ∈ me_w) (w2 : Cond.initialized cls ∈ me_w) (hT : (is, text) ∈ xe_T) (hg : ∀ w ∈ (vx_atS "PlanFractions" ic cls names).filter goodWord, w ∈ me_w) (hn : ∀ w ∈ (vx_atS "PlanFractions" ic cls names).filter (fun w => !goodWord w), w ∈ xe_B)
    (ho : ∀ w ∈ Cond.classLink "PlanFractions" ik cls :: Cond.initialized cls :: vx_atS "PlanFractions" ic cls names, vx_ot w = true)
    (d0 : decode cc pc = .ok (.new ik, 3)) (d3 : decode cc (pc + 3) = .ok (.dup, 1)) (d : (decode cc (pc + 4) = .ok (.ldc is, 2) ∧ decode cc (pc + 6) = .ok (.invokespecial ic, 3) ∧ decode cc (pc + 9) = .ok (.athrow, 1)) ∨ (decode cc (pc + 4) = .ok (.ldc_w is, 3) ∧ decode cc (pc + 7) = .ok (.invokespecial ic, 3) ∧ decode cc (pc + 10) = .ok (.athrow, 1)))
    (hr : names.length + 3 < rm.frames ∧ 8 + (13 * (names.length + 1) + 43) ≤ rm.locals) : xd_Y y cc nL ret rm pc (i_th kx rm.cells rm.slots) := by
  refine ⟨fun lo stk M k n => ok_c _, fun G p l e s m args below meth c C lo stk M k n K r h hK => ?_⟩
  obtain ⟨⟨hx, hb, hml, hown, hts, hKK, hlk, hrt, hnm⟩, hst, hE, ⟨M0, hR0⟩, htab⟩ := C
  obtain ⟨h1, h2⟩ := cd_eq h
  rw [Bool.and_eq_true] at h1
  obtain ⟨h3, h4⟩ := bb_eq h1.2
  have h5 := Nat.le_of_ble_eq_true h1.1
  cases h2
  obtain ⟨z1, z2, z3, z4, z5, z6, z7⟩ := hE
  obtain ⟨sa, hsa⟩ := z4 _ hT
  intro ls H locs hl hR hf T hT' X
  have hz : s.heap.size ≤ H.size := by
    have := X.same
    obtain ⟨-, q2, -⟩ := this
    rw [← hT']
    exact q2
  have hkeep : ∀ a : Nat, a < G.2.2.2.size → ¬ G.2.2.1 ≤ a → s.heap[a]? = G.2.2.2[a]? := fun a _ ha => hR0.2.2.1 a (Nat.not_le.mp ha)
  have hat : ∀ w ∈ vx_atS "PlanFractions" ic cls names, w.before args s = true := vx_hat (B := xe_B) (fun w hw => hts w (hg w hw)) hn (fun w hw => va_Nw.use (xe_Bt w hw) (z5 w hw))
  have hcat := cat_le stk
  rcases d with ⟨d4, d6, d9⟩ | ⟨d4, d6, d9⟩
  · exact vx_throwS hx hb hst (rest := stk) (by rw [← hy]; exact hown) hcls hnames (hts _ w1) (hts _ w2) hsa hat ho (vx_Zq.kept z2 hkeep) (vx_Zq.kept z3 hkeep) (hR.under hR0 hz hf) (hl.1.trans hml.symm) d0 d3 d4 d6 d9 (fun x hx => (htab x hx).elim) hr.1 (by omega) h5 h3 hlk
      (fun t _ ht hq => ⟨kx, t.heap.size, rfl, hk.symm, by rw [← hR.1]; exact ht, hR.grow ht hq⟩) hf h5 h3 T hT' X
  · exact vx_throwSW hx hb hst (rest := stk) (by rw [← hy]; exact hown) hcls hnames (hts _ w1) (hts _ w2) hsa hat ho (vx_Zq.kept z2 hkeep) (vx_Zq.kept z3 hkeep) (hR.under hR0 hz hf) (hl.1.trans hml.symm) d0 d3 d4 d6 d9 (fun x hx => (htab x hx).elim) hr.1 (by omega) h5 h3 hlk
      (fun t _ ht hq => ⟨kx, t.heap.size, rfl, hk.symm, by rw [← hR.1]; exact ht, hR.grow ht hq⟩) hf h5 h3 T hT' X
end XY
