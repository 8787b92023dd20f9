/-! a wrapper's case: from the reference's answer on -/
section LT
variable {G : me_G} {p : Program} {l : Launch} {e : Env} {s : State} {m : MethodId} {below : List Frame} {meth : Method} {c : Code} {b L : Nat} {xs : Nat → Int32} {Q : State → Prop}
variable {pc : Nat} {M : me_M} {k n : Nat}
theorem lld_0 {nx : Nat} {lo : sm_L} {t : List Value} {D : Nat} {g : Nat → Int64} (hD : M.2 D = some (.inl (1, 1, .inr (.inl g)))) (K : sm_K) : i_lld nx lo (.int 0 :: .ref D :: t) M k n K = K (nx, lo, .long (g 0) :: t, M, k, n) := by
  show ((me_long M D).bind fun f => if (0 : Int32) < 0 ∨ f.1 ≤ (0 : Int32).toNatClampNeg then none else K (nx, lo, .long (f.2 (0 : Int32).toNatClampNeg) :: t, M, k, n)) = _
  rw [me_long_of hD, show (0 : Int32).toNatClampNeg = 0 from by decide]
  show (if (0 : Int32) < 0 ∨ 1 ≤ 0 then none else K (nx, lo, .long (g 0) :: t, M, k, n)) = _
  rw [if_neg (by decide)]
/-- up to the comparing of the two kinds of end -/
theorem lx_t0 (h : LX G p l s m meth c b L xs) {A i : Nat} {u : Sx} {th : Int32} {v : Value} (I : LM M A u u) (m2 : MF M (A + 38) th u) (e5 : k ≤ 603072) (e6 : n ≤ 7198826)
    (d0 : decode code pc = .ok (.aload_n 2, 1)) (d1 : decode code (pc + 1) = .ok (.invokevirtual 50, 3)) (d4 : decode code (pc + 4) = .ok (.iload 5, 2)) (d6 : decode code (pc + 6) = .ok (.if_icmp .eq 5, 3)) (d11 : decode code (pc + 11) = .ok (.iload 5, 2))
    (hw : lx_W G p l e s m below meth c b Q (pc + 13, lwl b A i [(5, .int th), (6, v)], [.int th], M, k, n)) : lx_W G p l e s m below meth c b Q (pc, lwl b A i [(5, .int th), (6, v)], [], M, k, n) := by
  have C := h.1
  obtain ⟨fB, oB⟩ := I.oB
  refine x_step (x_aln (i := 2) d0) C (fun K => rfl) ?_
  refine lx_v (as := []) (rest := []) (A := A + 38) (ci := 7) (rmz := rm_X7_thrown) h d1 V_X7_thrown w827 w828 w829 rfl (by decide) oB rfl (by decide) (thrown_s m2) e5 e6 ?_
  refine x_step (x_il d4) C (fun K => rfl) ?_
  refine x_step (x_ic_eq (tgt := pc + 11) d6 (by omega)) C (fun K => if_pos rfl) ?_
  exact x_step (x_il d11) C (fun K => rfl) hw
theorem lx_ti (h : LX G p l s m meth c b L xs) {A i : Nat} {u : Sx} {th y : Int32} {off : Int} (I : LM M A u u) (m2 : MF M (A + 38) th u) (hz : th = 0 → ∃ g : Nat → Int64, M.2 (A + 50) = some (.inl (1, 1, .inr (.inl g))) ∧ g 0 = y.toInt64) (e5 : k ≤ 603072) (e6 : n ≤ 7198826)
    (d0 : decode code pc = .ok (.aload_n 2, 1)) (d1 : decode code (pc + 1) = .ok (.invokevirtual 50, 3)) (d4 : decode code (pc + 4) = .ok (.iload 5, 2)) (d6 : decode code (pc + 6) = .ok (.if_icmp .eq 5, 3)) (d11 : decode code (pc + 11) = .ok (.iload 5, 2)) (d13 : decode code (pc + 13) = .ok (.ifCond .ne 15, 3)) (d16 : decode code (pc + 16) = .ok (.aload_n 3, 1)) (d17 : decode code (pc + 17) = .ok (.iconst 0, 1)) (d18 : decode code (pc + 18) = .ok (.laload, 1)) (d19 : decode code (pc + 19) = .ok (.iload 6, 2)) (d21 : decode code (pc + 21) = .ok (.i2l, 1)) (d22 : decode code (pc + 22) = .ok (.lcmp, 1)) (d23 : decode code (pc + 23) = .ok (.ifCond .eq 5, 3)) (d28 : decode code (pc + 28) = .ok (.goto off, 3)) (ht : ((pc + 28 : Nat) : Int) + off = ((1422 : Nat) : Int))
    (next : lx_W G p l e s m below meth c b Q (1422, lwl b A i [], [], M, k, n)) : lx_W G p l e s m below meth c b Q (pc, lwl b A i [(5, .int th), (6, .int y)], [], M, k, n) := by
  have C := h.1
  refine lx_t0 h I m2 e5 e6 d0 d1 d4 d6 d11 ?_
  have fin : lx_W G p l e s m below meth c b Q (pc + 28, lwl b A i [(5, .int th), (6, .int y)], [], M, k, n) := x_step (x_goto d28 ht) C (fun K => rfl) (lx_dropl next)
  by_cases hth : th = 0
  · obtain ⟨g, g1, g2⟩ := hz hth
    refine x_step (x_if_ne (tgt := pc + 28) d13 (by omega)) C (fun K => if_pos hth) ?_
    refine x_step (x_aln (i := 3) d16) C (fun K => rfl) ?_
    refine x_step (x_iconst (v := 0) d17 (by decide)) C (fun K => rfl) ?_
    refine x_step (x_lld d18) C (lld_0 g1) ?_
    refine x_step (x_il d19) C (fun K => rfl) ?_
    refine x_step (x_i2l d21) C (fun K => rfl) ?_
    refine x_step (x_lcmp d22) C (fun K => rfl) ?_
    exact x_step (x_if_eq (tgt := pc + 28) d23 (by omega)) C (fun K => if_pos (lgc0.mpr g2)) fin
  · exact x_step (x_if_ne (tgt := pc + 28) d13 (by omega)) C (fun K => if_neg hth) fin
theorem lx_tl (h : LX G p l s m meth c b L xs) {A i : Nat} {u : Sx} {th : Int32} {y : Int64} {off : Int} (I : LM M A u u) (m2 : MF M (A + 38) th u) (hz : th = 0 → ∃ g : Nat → Int64, M.2 (A + 50) = some (.inl (1, 1, .inr (.inl g))) ∧ g 0 = y) (e5 : k ≤ 603072) (e6 : n ≤ 7198826)
    (d0 : decode code pc = .ok (.aload_n 2, 1)) (d1 : decode code (pc + 1) = .ok (.invokevirtual 50, 3)) (d4 : decode code (pc + 4) = .ok (.iload 5, 2)) (d6 : decode code (pc + 6) = .ok (.if_icmp .eq 5, 3)) (d11 : decode code (pc + 11) = .ok (.iload 5, 2)) (d13 : decode code (pc + 13) = .ok (.ifCond .ne 14, 3)) (d16 : decode code (pc + 16) = .ok (.aload_n 3, 1)) (d17 : decode code (pc + 17) = .ok (.iconst 0, 1)) (d18 : decode code (pc + 18) = .ok (.laload, 1)) (d19 : decode code (pc + 19) = .ok (.lload 6, 2)) (d21 : decode code (pc + 21) = .ok (.lcmp, 1)) (d22 : decode code (pc + 22) = .ok (.ifCond .eq 5, 3)) (d27 : decode code (pc + 27) = .ok (.goto off, 3)) (ht : ((pc + 27 : Nat) : Int) + off = ((1422 : Nat) : Int))
    (next : lx_W G p l e s m below meth c b Q (1422, lwl b A i [], [], M, k, n)) : lx_W G p l e s m below meth c b Q (pc, lwl b A i [(5, .int th), (6, .long y)], [], M, k, n) := by
  have C := h.1
  refine lx_t0 h I m2 e5 e6 d0 d1 d4 d6 d11 ?_
  have fin : lx_W G p l e s m below meth c b Q (pc + 27, lwl b A i [(5, .int th), (6, .long y)], [], M, k, n) := x_step (x_goto d27 ht) C (fun K => rfl) (lx_dropl next)
  by_cases hth : th = 0
  · obtain ⟨g, g1, g2⟩ := hz hth
    refine x_step (x_if_ne (tgt := pc + 27) d13 (by omega)) C (fun K => if_pos hth) ?_
    refine x_step (x_aln (i := 3) d16) C (fun K => rfl) ?_
    refine x_step (x_iconst (v := 0) d17 (by decide)) C (fun K => rfl) ?_
    refine x_step (x_lld d18) C (lld_0 g1) ?_
    refine x_step (x_ll d19) C (fun K => rfl) ?_
    refine x_step (x_lcmp d21) C (fun K => rfl) ?_
    exact x_step (x_if_eq (tgt := pc + 27) d22 (by omega)) C (fun K => if_pos (lgc0.mpr g2)) fin
  · exact x_step (x_if_ne (tgt := pc + 27) d13 (by omega)) C (fun K => if_neg hth) fin
end LT
