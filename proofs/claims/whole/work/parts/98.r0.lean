/-! the law's walk: its steps -/
abbrev lx_W (G : me_G) (p : Program) (l : Launch) (e : Env) (s : State) (m : MethodId) (below : List Frame) (meth : Method) (c : Code) (b : Nat) (Q : State → Prop) (st : sm_S) : Prop := sd_W G p l e room_1 s m #[Value.ref b] below meth c 8 Q st
def LX (G : me_G) (p : Program) (l : Launch) (s : State) (m : MethodId) (meth : Method) (c : Code) (b L : Nat) (xs : Nat → Int32) : Prop :=
  sd_C G p s m #[Value.ref b] meth c yL_law code 8 ret ∧ l.stackTraces = false ∧ xe_K G s ∧ va_X b L xs s s.heap ∧ b < s.heap.size ∧ G.2.2.1 = s.heap.size ∧ G.2.2.2 = s.heap ∧ L ≤ 3072
/-- the law's locals -/
abbrev lwl (b A i : Nat) (tl : sm_L) : sm_L := (0, .ref b) :: (1, .ref A) :: (2, .ref (A + 38)) :: (3, .ref (A + 50)) :: (4, .int (iZ (i : Int))) :: tl
section LX
variable {G : me_G} {p : Program} {l : Launch} {e : Env} {s : State} {m : MethodId} {below : List Frame} {meth : Method} {c : Code} {b L : Nat} {xs : Nat → Int32} {Q : State → Prop}
variable {pc : Nat} {lo : sm_L} {stk : List Value} {M : me_M} {k n : Nat}
theorem lx_S (h : LX G p l s m meth c b L xs) {H : Heap} {locs : List Loc} (hR : me_R G M H) (hf : ∀ q ∈ locs, G.2.2.1 ≤ q.base) : va_S (fun q => G.2.2.1 ≤ q) s.heap H locs := by
  obtain ⟨C, hst, hE, hX, hbl, g1, g2, hL⟩ := h
  refine ⟨by rw [← g1]; exact hR.2.1, fun q hq hn => ?_, hf⟩
  rw [hR.2.2.1 q (Nat.not_le.mp hn), g2]
theorem lx_len (h : LX G p l s m meth c b L xs) (d : decode code pc = .ok (.arraylength, 1)) (hw : lx_W G p l e s m below meth c b Q (pc + 1, lo, .int (Int32.ofNat L) :: stk, M, k, n)) : lx_W G p l e s m below meth c b Q (pc, lo, .ref b :: stk, M, k, n) := by
  intro ls H locs hl hR hf
  have hS := lx_S h hR hf
  obtain ⟨C, hst, hE, hX, hbl, g1, g2, hL⟩ := h
  exact va_slen C.1 C.2.1 hX hbl (by rw [g1]; exact Nat.not_le.mpr hbl) hS d (hw ls H locs hl hR hf)
theorem lx_ld (h : LX G p l s m meth c b L xs) (d : decode code pc = .ok (.iaload, 1)) {i : Nat} (hi : i < L) (hw : lx_W G p l e s m below meth c b Q (pc + 1, lo, .int (xs i) :: stk, M, k, n)) : lx_W G p l e s m below meth c b Q (pc, lo, .int (iZ (i : Int)) :: .ref b :: stk, M, k, n) := by
  intro ls H locs hl hR hf
  have hS := lx_S h hR hf
  obtain ⟨C, hst, hE, hX, hbl, g1, g2, hL⟩ := h
  have hc := iZ_clampN (n := i) (by omega)
  refine va_sld (i := iZ (i : Int)) C.1 C.2.1 hX hbl (by rw [g1]; exact Nat.not_le.mpr hbl) hS ?_ d ?_
  · unfold vp_in
    rw [hc]
    exact nob (iZ_n0 (by omega)) (by omega)
  · rw [hc]
    exact hw ls H locs hl hR hf
theorem lx_arg (h : LX G p l s m meth c b L xs) {A i j : Nat} {tl : sm_L} {v : Int} (hi : i + j < L) (hv : Int32.ofInt v = iZ (j : Int)) (d0 : decode code pc = .ok (.aload_n 0, 1)) (d1 : decode code (pc + 1) = .ok (.iload 4, 2)) (d2 : decode code (pc + 3) = .ok (.iconst v, 1)) (d3 : decode code (pc + 4) = .ok (.iadd, 1)) (d4 : decode code (pc + 5) = .ok (.iaload, 1))
    (hw : lx_W G p l e s m below meth c b Q (pc + 6, lwl b A i tl, .int (xs (i + j)) :: stk, M, k, n)) : lx_W G p l e s m below meth c b Q (pc, lwl b A i tl, stk, M, k, n) := by
  have C := h.1
  refine x_step (x_aln (i := 0) d0) C (fun K => rfl) (x_step (x_il d1) C (fun K => rfl) (x_step (x_iconst d2 hv) C (fun K => rfl) (x_step (x_iadd d3) C (fun K => rfl) ?_)))
  show lx_W G p l e s m below meth c b Q (pc + 5, lwl b A i tl, .int (iZ (i : Int) + iZ (j : Int)) :: .ref b :: stk, M, k, n)
  rw [z_pi]
  exact lx_ld h d4 hi hw
/-- a virtual call of a method that returns -/
theorem lx_v {z : MethodName} {cz : ByteArray} {nz np ci ix N : Nat} {T : u_T} {rz : Option FieldType} {rmz : Room} {f : List Value → me_M → Option sm_R} {as rest : List Value} {A : Nat} {r : sm_R} {fs : List Value} (h : LX G p l s m meth c b L xs)
    (d : decode code pc = .ok (.invokevirtual ix, 3)) (V : sd_V z cz nz rz rmz np f) (w1 : Cond.methodLink RL ix z ∈ me_w) (w2 : Cond.instanceMethod z ∈ me_w) (w3 : Cond.selects z.cls z z ∈ me_w) (hc : me_cl[ci]? = some (z.cls, T, N)) (hr : rmz.frames + 1 ≤ 19 ∧ 8 + (nz + 11) + rmz.locals ≤ 10844)
    (hA : me_obj M ci A = some fs) (hlen : as.length = np) (hso : (rest.map fun v => v.category).sum ≤ 8) (e3 : f (.ref A :: as) M = some r) (e5 : k + rmz.cells ≤ 603072) (e6 : n + rmz.slots ≤ 7198826)
    (kr : lx_W G p l e s m below meth c b Q (pc + 3, lo, r.1.toList ++ rest, r.2, k + rmz.cells, n + rmz.slots)) : lx_W G p l e s m below meth c b Q (pc, lo, as.reverse ++ .ref A :: rest, M, k, n) := by
  obtain ⟨hx, hb, hml, hown, hts, hKK, hlk, hrt, hnm⟩ := h.1
  obtain ⟨hV, v1, v2, v3⟩ := V
  intro ls H locs hl hR hf
  refine w_call (r := r) (va_runV (As := as) (rest := rest) (b := A) ⟨hx, hb, hml, hown, hts⟩ (hV l G _ _ _ e3) (cwV np hts (fun w hw => ?_) rfl rfl rfl ⟨rfl, v3⟩ hr) ⟨sd_blind _ _ _, va_recv hKK.1 (hR.one (me_obj_eq hA)) hc (q0 := 0) rfl, fun U hU hW => ⟨rfl, by rw [hU]; exact hR, me_K.moved hW hKK⟩⟩ rfl hlen hl.1 rfl (lv_room hso) d ⟨e5, e6⟩) hf (fun H1 locs1 hR1 hf1 => kr ls H1 locs1 hl hR1 hf1)
  rcases List.mem_append.mp hw with hw | hw
  · have hm : w ∈ me_w := by
      simp only [List.mem_cons, List.not_mem_nil, or_false] at hw
      rcases hw with rfl | rfl | rfl | rfl
      · exact w1
      · exact w2
      · exact w3
      · exact v2
    exact ⟨hm, good_of_word (List.mem_filter.mp hm).2⟩
  · exact sd_in v1 w hw
/-- a call of a wrapper -/
theorem lx_s {z : MethodName} {cz : ByteArray} {nz np ix : Nat} {hh : List (Nat × Nat × Nat × Nat)} {rmz : Room} {as rest : List Value} {r : sm_R} {D : Nat} {cd : UInt32 → Int32} (h : LX G p l s m meth c b L xs)
    (d : decode code pc = .ok (.invokestatic ix, 3)) (V : Met l z (sh_ws z cz nz (some .int) hh) rmz (xd_Pc G as M) (wq G r D cd) rmz.cells rmz.slots (fun q => G.2.2.1 ≤ q)) (w1 : Cond.methodLink RL ix z ∈ me_w) (w2 : Cond.static z ∈ me_w) (w3 : Cond.codeWith z cz nz (some .int) hh ∈ me_w) (w4 : Cond.initialized z.cls ∈ me_w)
    (v3 : z.cls ≠ "java/lang/invoke/MethodHandle" ∧ z.cls ≠ "java/lang/invoke/VarHandle" ∧ (parseMethodDescriptor z.desc).map (fun d => d.parameters.length) = some np) (hr : rmz.frames + 1 ≤ 19 ∧ 8 + (nz + 11) + rmz.locals ≤ 10844)
    (hlen : as.length = np) (hso : (rest.map fun v => v.category).sum ≤ 8) (e5 : k + rmz.cells ≤ 603072) (e6 : n + rmz.slots ≤ 7198826)
    (kr : ∀ (kk : Int32) (M' : me_M), ww r D cd kk M' → lx_W G p l e s m below meth c b Q (pc + 3, lo, .int kk :: rest, M', k + rmz.cells, n + rmz.slots)) : lx_W G p l e s m below meth c b Q (pc, lo, as.reverse ++ rest, M, k, n) := by
  obtain ⟨hx, hb, hml, hown, hts, hKK, hlk, hrt, hnm⟩ := h.1
  have hE := h.2.2.1
  intro ls H locs hl hR hf T0 hT X
  obtain ⟨v, st₀, t, T', L', h0, X', hL, g1, g2, ⟨kk, M', hv, hm, hww⟩, st⟩ := vx_runSW (g := F0 m pc ls (as.reverse ++ rest)) (As := as) (rest := rest) ⟨hx, hb, hml, hown, hts⟩ V (vx_cwSW (R := room_1) np hts (fun w hw => (by
      unfold va_wsS at hw
      rcases List.mem_append.mp hw with hw | hw
      · have hm : w ∈ me_w := by
          simp only [List.mem_cons, List.not_mem_nil, or_false] at hw
          rcases hw with rfl | rfl | rfl
          · exact w1
          · exact w2
          · exact w4
        exact ⟨hm, good_of_word (List.mem_filter.mp hm).2⟩
      · rcases List.mem_cons.mp hw with rfl | hw
        · exact ⟨w3, good_of_word (List.mem_filter.mp w3).2⟩
        · exact ⟨hw, good_of_word (List.mem_filter.mp hw).2⟩)) rfl rfl rfl v3 hr) ⟨xd_blind _ _ _, fun U hU hW => ⟨rfl, by rw [hU]; exact hR, me_K.moved hW hKK, xe_K.moved hW hE⟩⟩ rfl hlen hl.1 rfl (lv_room hso) d ⟨e5, e6⟩ T0 hT X
  cases hv
  obtain ⟨t2, a1, b1⟩ := kr kk M' hww ls T'.heap (locs ++ L') hl (by rw [g1]; exact hm) (fun q hq => by
    rcases List.mem_append.mp hq with h | h
    · exact hf q h
    · exact hL q h) T' rfl X'
  exact ⟨t2, st t2 a1, b1⟩
/-- what isn't asked for is forgotten -/
theorem lx_drop {lo' : sm_L} (hs : ∀ q ∈ lo', q ∈ lo) (hw : lx_W G p l e s m below meth c b Q (pc, lo', stk, M, k, n)) : lx_W G p l e s m below meth c b Q (pc, lo, stk, M, k, n) := fun ls H locs hl hR hf => hw ls H locs ⟨hl.1, hl.2.1, fun q hq => hl.2.2 q (hs q hq)⟩ hR hf
theorem lx_dropl {A i : Nat} {tl : sm_L} (hw : lx_W G p l e s m below meth c b Q (pc, lwl b A i [], stk, M, k, n)) : lx_W G p l e s m below meth c b Q (pc, lwl b A i tl, stk, M, k, n) := lx_drop (fun q hq => by
  simp only [List.mem_cons, List.not_mem_nil, or_false] at hq ⊢
  rcases hq with h | h | h | h | h
  · exact Or.inl h
  · exact Or.inr (Or.inl h)
  · exact Or.inr (Or.inr (Or.inl h))
  · exact Or.inr (Or.inr (Or.inr (Or.inl h)))
  · exact Or.inr (Or.inr (Or.inr (Or.inr (Or.inl h))))) hw
end LX
/-- the long that two ints of the script spell -/
def lgw (u v : Int32) : Int64 := (u.toInt64 <<< ((32 : Int32).toInt64 &&& 63)) ||| (v.toInt64 &&& (4294967295 : Int64))
/-! a wrapper's answer: what class and wrapper leave -/
def TH (A : Nat) (s u : Sx) (r : sm_R) (th : Int32) (cd : UInt32 → Int32) (Z : Int64) : Prop := LM r.2 A s u ∧ (((r.1 = some (.long Z) ∨ ∃ z : Int32, r.1 = some (.int z) ∧ Z = z.toInt64) ∧ th = 0) ∨ ∃ k, r.1 = some (.float k) ∧ th = cd k ∧ th ≠ 0)
theorem ww_th {A : Nat} {s u : Sx} {r : sm_R} {th kk : Int32} {cd : UInt32 → Int32} {Z : Int64} {M' : me_M} (h : TH A s u r th cd Z) (hw : ww r (A + 50) cd kk M') : kk = th ∧ LM M' A s u ∧ (th = 0 → ∃ g : Nat → Int64, M'.2 (A + 50) = some (.inl (1, 1, .inr (.inl g))) ∧ g 0 = Z) := by
  obtain ⟨I, h⟩ := h
  rcases h with ⟨h1, h2⟩ | ⟨q, h1, h2, h3⟩
  · rcases hw with ⟨y, g, w1, w2, w3, w4⟩ | ⟨q, N, w1, -⟩
    · have e : y = Z := by
        rcases h1 with h1 | ⟨z, h1, h4⟩
        · rcases w1 with w1 | ⟨z', w1, -⟩
          · rw [h1] at w1
            cases w1
            rfl
          · rw [h1] at w1
            cases w1
        · rcases w1 with w1 | ⟨z', w1, w5⟩
          · rw [h1] at w1
            cases w1
          · rw [h1] at w1
            cases w1
            rw [h4, w5]
      subst e
      refine ⟨w3.trans h2.symm, by rw [w4]; exact I.set, fun _ => ⟨vp_updL g 0 y, by rw [w4]; exact set_eq _ _ _, ?_⟩⟩
      simp [vp_updL]
    · rcases h1 with h1 | ⟨z, h1, -⟩
      · rw [h1] at w1
        cases w1
      · rw [h1] at w1
        cases w1
  · rcases hw with ⟨y, g, w1, -⟩ | ⟨q', N, w1, w2, w3, w4⟩
    · rcases w1 with w1 | ⟨z', w1, -⟩
      · rw [h1] at w1
        cases w1
      · rw [h1] at w1
        cases w1
    · rw [h1] at w1
      cases w1
      exact ⟨w2.trans h2.symm, by rw [w4]; exact I.up w3, fun z => absurd z h3⟩
