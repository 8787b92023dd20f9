/-! the law's end, its loop -/
def lw_P (b : Addr) (xs : List Int32) (args : Array Value) (s : State) : Prop := args = #[.ref b] ∧ s.IntsAt b xs ∧ xs.length ≤ 3072 ∧ (Jvm.Cond.and given_1 narrow_1).before args s = true
def lw_Q (_ : Array Value) (s : State) (o : Outcome) (t : State) : Prop := o = .returned (some (.int 1)) ∧ Framed s o t [] 603072 7198826
def lw_Z (below : List Frame) (a : Array Value) (s : State) : State → Prop := fun t => ∃ o, t.status = .running ∧ Ended t below o ∧ lw_Q a s o t
/-- the law's own end, with 1 on the stack, nothing written that was there before, its room as the claim has it -/
theorem lw_ret {p : Program} {l : Launch} {e : Env} {s : State} {m : MethodId} {below : List Frame} {meth : Method} {c : Code} {b : Nat} (hx : p.tables.exec = Jvm.exec) (hb : c.code = code) (hr : meth.sig.returnType = ret) (hlocks : meth.locks = false) {pc : Nat} {H : Heap} {ls : Array Slot} (hdg : decode code pc = .ok (.ireturn, 1)) : W p l e room_1 s m #[Value.ref b] below meth c H [] 603072 7198826 (lw_Z below #[Value.ref b] s) (F0 m pc ls [.int 1]) := by
  intro T hT X
  obtain ⟨fs, hret, hrun, hended, hW, hframe⟩ := X.leave (v := some (.int 1)) (hlocks := hlocks) (fun h => by rw [hr] at h; cases h)
  have hmeth' : T.vm.method? m = some meth := X.method'
  refine ⟨T.setFrames fs, ?_, .returned (some (.int 1)), hrun, hended, rfl, ⟨_, rfl⟩, hW, hframe⟩
  jvm_step X.here [X.here.top, hx, hb, hdg, hmeth', hr, ret, narrow_b1]
  (try refine ⟨rfl, ?_⟩); (try refine ⟨rfl, ?_⟩)
  first | (intro acts; rw [hret _ acts rfl rfl rfl]) | rw [hret _ _ rfl rfl rfl]
  exact Steps.refl _

theorem lx_head {G : me_G} {p : Program} {l : Launch} {e : Env} {s : State} {m : MethodId} {below : List Frame} {meth : Method} {c : Code} {b L : Nat} {xs : Nat → Int32} (h : LX G p l s m meth c b L xs) {A i : Nat} {M : me_M} {k n : Nat} (hi : i ≤ 3072) (hw : if L < i + 6 then lx_W G p l e s m below meth c b (lw_Z below #[Value.ref b] s) (1428, lwl b A i [], [], M, k, n) else lx_W G p l e s m below meth c b (lw_Z below #[Value.ref b] s) (33, lwl b A i [], [], M, k, n)) : lx_W G p l e s m below meth c b (lw_Z below #[Value.ref b] s) (23, lwl b A i [], [], M, k, n) := by
  have C := h.1
  have hL := h.2.2.2.2.2.2.2
  refine x_step (x_il dL_law_23) C (fun K => rfl) ?_
  refine x_step (x_aln (i := 0) dL_law_25) C (fun K => rfl) ?_
  refine lx_len h dL_law_26 ?_
  refine x_step (x_bipush (v := 6) dL_law_27 (by decide)) C (fun K => rfl) ?_
  refine x_step (x_isub dL_law_29) C (fun K => rfl) ?_
  have e : Int32.ofNat L - 6 = iZ ((L : Int) - 6) := by rw [iZ_nat, show (6 : Int32) = iZ 6 from rfl, iZ_sub]
  have q : (Int32.ofNat L - 6 < iZ (i : Int)) ↔ L < i + 6 := by
    rw [e, iZ_lt (by omega) (by omega)]
    omega
  by_cases hc : L < i + 6
  · rw [if_pos hc] at hw
    exact x_step (x_ic_gt (tgt := 1428) dL_law_30 (by decide)) C (fun K => if_pos (q.mpr hc)) hw
  · rw [if_neg hc] at hw
    exact x_step (x_ic_gt (tgt := 1428) dL_law_30 (by decide)) C (fun K => if_neg (fun z => hc (q.mp z))) hw
theorem lx_exit {G : me_G} {p : Program} {l : Launch} {e : Env} {s : State} {m : MethodId} {below : List Frame} {meth : Method} {c : Code} {b L : Nat} {xs : Nat → Int32} (h : LX G p l s m meth c b L xs) {lo : sm_L} {M : me_M} {k n : Nat} (hk : k ≤ 603072) (hn : n ≤ 7198826) : lx_W G p l e s m below meth c b (lw_Z below #[Value.ref b] s) (1428, lo, [], M, k, n) := by
  have C := h.1
  refine x_step (x_iconst (v := 1) dL_law_1428 (by decide)) C (fun K => rfl) ?_
  obtain ⟨hx, hb, hml, hown, hts, hKK, hlk, hrt, hnm⟩ := C
  intro ls H locs hl hR hf
  exact W.widen hk hn (va_forget (fun q hq => by rw [← h.2.2.2.2.2.1]; exact hf q hq) (lw_ret hx hb hrt hlk dL_law_1429))
theorem lx_next {G : me_G} {p : Program} {l : Launch} {e : Env} {s : State} {m : MethodId} {below : List Frame} {meth : Method} {c : Code} {b L : Nat} {xs : Nat → Int32} (h : LX G p l s m meth c b L xs) {A i : Nat} {M : me_M} {k n : Nat} (hw : lx_W G p l e s m below meth c b (lw_Z below #[Value.ref b] s) (23, lwl b A (i + 6) [], [], M, k, n)) : lx_W G p l e s m below meth c b (lw_Z below #[Value.ref b] s) (1422, lwl b A i [], [], M, k, n) := by
  have C := h.1
  refine x_step (x_inc (x := iZ ((6 : Nat) : Int)) dL_law_1422 (by decide) (by decide)) C (fun K => rfl) ?_
  show lx_W G p l e s m below meth c b (lw_Z below #[Value.ref b] s) (1425, [(0, .ref b), (1, .ref A), (2, .ref (A + 38)), (3, .ref (A + 50)), (4, .int (iZ (i : Int) + iZ ((6 : Nat) : Int)))], [], M, k, n)
  rw [z_pi]
  exact x_step (x_goto (tgt := 23) dL_law_1425 (by decide)) C (fun K => rfl) hw
theorem lx_loop {G : me_G} {p : Program} {l : Launch} {e : Env} {s : State} {m : MethodId} {below : List Frame} {meth : Method} {c : Code} {b L : Nat} {xs : Nat → Int32} (h : LX G p l s m meth c b L xs) {A : Nat} : ∀ (d j : Nat) (M : me_M) (s0 : Sx) (k n : Nat), L ≤ 6 * j + d → LM M A s0 s0 → k ≤ 60 + 130 * j → n ≤ 36000 + 3400 * j → j ≤ 512 → lx_W G p l e s m below meth c b (lw_Z below #[Value.ref b] s) (23, lwl b A (6 * j) [], [], M, k, n) := by
  have hL := h.2.2.2.2.2.2.2
  intro d
  induction d with
  | zero =>
    intro j M s0 k n h1 I hk hn hj
    refine lx_head h (by omega) ?_
    rw [if_pos (by omega)]
    exact lx_exit h (by omega) (by omega)
  | succ d ih =>
    intro j M s0 k n h1 I hk hn hj
    refine lx_head h (by omega) ?_
    by_cases hc : L < 6 * j + 6
    · rw [if_pos hc]
      exact lx_exit h (by omega) (by omega)
    · rw [if_neg hc]
      refine lx_body h I (by omega) (by omega) (by omega) (fun M' s' k' n' I' hk' hn' => ?_)
      have e1 : 3400 * (j + 1) = 3400 * j + 3400 := Nat.mul_succ 3400 j
      have e2 : n' ≤ 36000 + 3400 * (j + 1) := by
        rw [e1]
        exact Nat.le_trans hn' (Nat.le_trans (Nat.add_le_add_right hn 3400) (Nat.le_of_eq (Nat.add_assoc _ _ _)))
      have w := ih (j + 1) M' s' k' n' (by omega) I' (by omega) e2 (by omega)
      rw [show 6 * (j + 1) = 6 * j + 6 by omega] at w
      exact lx_next h w
