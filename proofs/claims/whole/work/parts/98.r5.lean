/-! the start: what the tables say -/
theorem lw_in1 {w : Cond} (i : Nat) (h : tables_1_1[i]? = some w) : w ∈ lw_tbl := List.mem_append_right _ (List.mem_append_left _ (List.mem_of_getElem? h))
theorem lw_in3 {w : Cond} (i : Nat) (h : tables_1_3[i]? = some w) : w ∈ lw_tbl := List.mem_append_right _ (List.mem_append_right _ (List.mem_append_right _ (List.mem_append_left _ (List.mem_of_getElem? h))))
theorem lw_in4 {w : Cond} (i : Nat) (h : tables_1_4[i]? = some w) : w ∈ lw_tbl := List.mem_append_right _ (List.mem_append_right _ (List.mem_append_right _ (List.mem_append_right _ (List.mem_append_left _ (List.mem_of_getElem? h)))))
theorem lw_me {args : Array Value} {s : State} (hts : ∀ w ∈ lw_tbl, w.before args s = true) : ∀ w ∈ me_w, w.before args s = true := fun w hw => hts w (List.mem_filter.mp hw).1
theorem arr_p {s : State} {args : Array Value} {ty : FieldType} (h : (Cond.arrayClass ty).before args s = true) : ∃ c : ClassId, ArrOfT s c ty ∧ s.vm.findClass ("[" ++ ty.toString) = some c := by
  obtain ⟨c, k, comp, h1, h2, h3⟩ := Cond.arrayClass_spec h
  exact ⟨c, fun n z => ⟨fun k h => (by cases h), k, h2, comp, h3⟩, h1⟩
theorem arr_o {s : State} {C : String} (h : va_AO C s) : ∃ c : ClassId, ArrOfT s c (.object C) ∧ va_RA s c (.object C) := by
  obtain ⟨comp, c, k, h1, h2, h3, h4, h5⟩ := Cond.arrayOver_spec h
  exact ⟨c, fun n z => ⟨fun k h => (by cases h), k, h3, comp, h4⟩, ⟨k, comp, h3, h4, h1, h5⟩⟩
theorem lw_known {s : State} {args : Array Value} (hts : ∀ w ∈ me_w, w.before args s = true) (h2 : va_AO RX2 s) (h4 : va_AO RX4 s) : ∃ (D : va_G) (dA : Nat → ClassId), va_K D me_cl [(dA 0, .int), (dA 1, .long), (dA 2, .byte), (dA 3, .object RX2), (dA 4, .object RX4)] s := by
  obtain ⟨c0, i0, k0⟩ := u_known (C := RX0) (T := TX0) (N := 3) (n := 3) hts in_X0 (hts _ w156)
  obtain ⟨c1, i1, k1⟩ := u_known (C := RX1) (T := TX1) (N := 7) (n := 7) hts in_X1 (hts _ w35)
  obtain ⟨c2, i2, k2⟩ := u_known (C := RX2) (T := TX2) (N := 3) (n := 3) hts in_X2 (hts _ w95)
  obtain ⟨c3, i3, k3⟩ := u_known (C := RX3) (T := TX3) (N := 12) (n := 12) hts in_X3 (hts _ w29)
  obtain ⟨c4, i4, k4⟩ := u_known (C := RX4) (T := TX4) (N := 1) (n := 1) hts in_X4 (hts _ w437)
  obtain ⟨c5, i5, k5⟩ := u_known (C := RX5) (T := TX5) (N := 2) (n := 2) hts in_X5 (hts _ w41)
  obtain ⟨c6, i6, k6⟩ := u_known (C := RX6) (T := TX6) (N := 10) (n := 10) hts in_X6 (hts _ w21)
  obtain ⟨c7, i7, k7⟩ := u_known (C := RX7) (T := TX7) (N := 16) (n := 16) hts in_X7 (hts _ w768)
  obtain ⟨a0, p0, q0⟩ := arr_p (hts (.arrayClass .int) (me_in1 60 rfl rfl))
  obtain ⟨a1, p1, q1⟩ := arr_p (hts _ lw_al)
  obtain ⟨a2, p2, q2⟩ := arr_p (hts (.arrayClass .byte) (me_in1 173 rfl rfl))
  obtain ⟨a3, p3, q3⟩ := arr_o h2
  obtain ⟨a4, p4, q4⟩ := arr_o h4
  refine ⟨(fun k => if k = 0 then c0 else if k = 1 then c1 else if k = 2 then c2 else if k = 3 then c3 else if k = 4 then c4 else if k = 5 then c5 else if k = 6 then c6 else c7, fun k => if k = 0 then i0 else if k = 1 then i1 else if k = 2 then i2 else if k = 3 then i3 else if k = 4 then i4 else if k = 5 then i5 else if k = 6 then i6 else i7), fun k => if k = 0 then a0 else if k = 1 then a1 else if k = 2 then a2 else if k = 3 then a3 else a4, ?_, ?_⟩
  · intro k q hq
    match k, hq with
    | 0, hq => cases hq; exact k0
    | 1, hq => cases hq; exact k1
    | 2, hq => cases hq; exact k2
    | 3, hq => cases hq; exact k3
    | 4, hq => cases hq; exact k4
    | 5, hq => cases hq; exact k5
    | 6, hq => cases hq; exact k6
    | 7, hq => cases hq; exact k7
    | k + 8, hq => simp [me_cl] at hq
  · intro k q hq
    match k, hq with
    | 0, hq => cases hq; exact ⟨p0, q0⟩
    | 1, hq => cases hq; exact ⟨p1, q1⟩
    | 2, hq => cases hq; exact ⟨p2, q2⟩
    | 3, hq => cases hq; exact ⟨p3, q3⟩
    | 4, hq => cases hq; exact ⟨p4, q4⟩
    | k + 5, hq => simp at hq
theorem xk_1 {s : State} {args : Array Value} {own tx : String} {k : Nat} (h1 : (Cond.stringRef own k tx).before args s = true) (h2 : (Cond.exactly (.string own k) "java/lang/String").before args s = true) : ∃ a, vk_R own k tx a s := by
  obtain ⟨a, c, cA, kA, q1, -⟩ := Cond.exactly_spec (args := args) (first := s) (o := none) (s := s) (idx := []) h2
  exact ⟨a, vk_R.of (A := args) h1 q1⟩
/-- what holds at the law's entry: the machine, the code, the tables' words (any of lw_tbl by 'hts w (by decide +kernel)'), the script of L ints xs at the cell b, what the Statement gives of the start (any of its parts by flat_of_before) -/
def lw_At (p : Program) (s : State) (m : MethodId) (meth : Method) (c : Code) (b L : Nat) (xs : Nat → Int32) : Prop :=
  p.tables.exec = Jvm.exec ∧ c.code = code ∧ meth.sig.returnType = ret ∧ c.maxLocals = 8 ∧ s.vm.findClass RL = some m.cls ∧ (∀ w ∈ lw_tbl, w.before #[Value.ref b] s = true) ∧ va_X b L xs s s.heap ∧ b < s.heap.size ∧ meth.locks = false ∧ (Jvm.Cond.and given_1 narrow_1).before #[Value.ref b] s = true

theorem lx_start {p : Program} {l : Launch} {s : State} {m : MethodId} {meth : Method} {c : Code} {b L : Nat} {xs : Nat → Int32} (hL : L ≤ 3072) (hst : l.stackTraces = false) (C0 : lw_At p s m meth c b L xs) (hnm : meth.name = yL_law.name) : ∃ G : me_G, LX G p l s m meth c b L xs ∧ G.2.2.1 = s.heap.size ∧ G.2.2.2 = s.heap := by
  obtain ⟨hx, hb, hr, hml, hown, hts, hX, hbl, hlocks, hgv⟩ := id C0
  have hme := lw_me hts
  have hs := flat_of_before _ hgv
  have a2 : va_AO RX2 s := va_AO.of (hts _ (lw_in1 175 rfl))
  have a4 : va_AO RX4 s := va_AO.of (hts _ (lw_in1 177 rfl))
  obtain ⟨D, dA, hK⟩ := lw_known hme a2 a4
  have n1 : va_Nw (.methodLinkNest RX3 11 yX1_init RX6) s := va_Nw.of rfl (hts _ (lw_in1 36 rfl))
  have n2 : va_Nw (.methodLinkNest RX6 18 yX0_init RX6) s := va_Nw.of rfl (hts _ (lw_in1 157 rfl))
  have ni : ∀ a : Nat, a < s.heap.size → ¬ s.heap.size ≤ a := fun a ha => Nat.not_le.mpr ha
  have z1 : vx_Zq Jvm.Bundle.tN "UNASSIGNED_STACK" Jvm.Bundle.steD (fun q => s.heap.size ≤ q) s s.heap := vx_Zqof (args := #[Value.ref b]) (hts _ (lw_in3 102 rfl)) (hts (.initialized Jvm.Bundle.tN) (lw_in1 9 rfl)) (hs _ (by decide +kernel)) ni
  have z2 : vx_Zq Jvm.Bundle.tN "SUPPRESSED_SENTINEL" Jvm.Bundle.listD (fun q => s.heap.size ≤ q) s s.heap := vx_Zqof (args := #[Value.ref b]) (hts _ (lw_in3 104 rfl)) (hts (.initialized Jvm.Bundle.tN) (lw_in1 9 rfl)) (hs _ (by decide +kernel)) ni
  have z3 : ∀ q ∈ xe_T, ∃ a, vk_R "PlanFractions" q.1 q.2 a s := by
    intro q hq
    simp only [xe_T, List.mem_cons, List.not_mem_nil, or_false] at hq
    rcases hq with rfl | rfl | rfl | rfl | rfl | rfl | rfl | rfl | rfl | rfl | rfl
    · exact xk_1 (hts _ (lw_in3 162 rfl)) (hs _ (by decide +kernel))
    · exact xk_1 (hts _ (lw_in3 175 rfl)) (hs _ (by decide +kernel))
    · exact xk_1 (hts _ (lw_in3 204 rfl)) (hs _ (by decide +kernel))
    · exact xk_1 (hts _ (lw_in3 216 rfl)) (hs _ (by decide +kernel))
    · exact xk_1 (hts _ (lw_in4 5 rfl)) (hs _ (by decide +kernel))
    · exact xk_1 (hts _ (lw_in4 18 rfl)) (hs _ (by decide +kernel))
    · exact xk_1 (hts _ (lw_in4 27 rfl)) (hs _ (by decide +kernel))
    · exact xk_1 (hts _ (lw_in4 34 rfl)) (hs _ (by decide +kernel))
    · exact xk_1 (hts _ (lw_in4 38 rfl)) (hs _ (by decide +kernel))
    · exact xk_1 (hts _ (lw_in4 42 rfl)) (hs _ (by decide +kernel))
    · exact xk_1 (hts _ (lw_in4 46 rfl)) (hs _ (by decide +kernel))
  have z4 : ∀ w ∈ xe_B, va_Nw w s := by
    intro w hw
    have ht := xe_Bt w hw
    simp only [xe_B, xe_D, List.mem_cons, List.not_mem_nil, or_false] at hw
    rcases hw with rfl | rfl | rfl | rfl | rfl | rfl | rfl
    · exact va_Nw.of ht (hts _ (lw_in3 135 rfl))
    · exact va_Nw.of ht (hts _ (lw_in3 197 rfl))
    · exact va_Nw.of ht (hts _ (lw_in3 236 rfl))
    · exact va_Nw.of ht (hts _ (lw_in3 137 rfl))
    · exact va_Nw.of ht (hts _ (lw_in3 139 rfl))
    · exact va_Nw.of ht (hts _ (lw_in3 141 rfl))
    · exact va_Nw.of ht (hts _ (lw_in3 238 rfl))
  have z5 : va_Nc xe_C0 xe_C1 s := va_Nc.of (hs (.not (.castable xe_C0 xe_C1)) (by decide +kernel))
  have z6 : va_Nc xe_C2 xe_C1 s := va_Nc.of (hs (.not (.castable xe_C2 xe_C1)) (by decide +kernel))
  refine ⟨(D, dA, s.heap.size, s.heap), ⟨⟨hx, hb, hml, hown, hme, ⟨hK, a2, a4, n1, n2⟩, hlocks, hr, hnm⟩, hst, ⟨rfl, z1, z2, z3, z4, z5, z6⟩, hX, hbl, rfl, rfl, hL⟩, rfl, rfl⟩
