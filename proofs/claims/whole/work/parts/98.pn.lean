/-! what the class's constructors make -/
theorem Wh.kp {M M' : me_M} {w c v : Nat} (h : Wh M w c v) (k1 : M'.2 w = M.2 w) (k2 : M'.2 (w + 1) = M.2 (w + 1)) : Wh M' w c v := by
  obtain ⟨s, f, h⟩ := h
  exact ⟨s, f, h.of k1 k2⟩
theorem nm5 (M : me_M) (ci : Nat) (fs : List Value) : me_obj (me_new M (.inr (ci, fs))) ci M.1 = some fs := mo_at (new_eq _ _)
theorem nw5 {M : me_M} (hD : Dm M) {k : Nat} (hk : k ≤ 72) : ∃ M1 : me_M, f_X5_init [.ref M.1, .int (iZ k)] (me_new M (.inr (5, [.null, .int 0]))) = some (none, M1) ∧ M1.1 = M.1 + 2 ∧ Wh M1 M.1 k 0 ∧ (∀ p, p < M.1 → M1.2 p = M.2 p) ∧ Dm M1 := by
  generalize hN : me_new M (.inr (5, [.null, .int 0])) = N
  have h1 : N.1 = M.1 + 1 := by rw [← hN]; rfl
  have hn : me_obj N 5 M.1 = some [.null, .int 0] := by rw [← hN]; exact mo_at (new_eq _ _)
  have dN : Dm N := by rw [← hN]; exact hD.new
  refine ⟨_, init_s (n := k) hn (by omega) hk, ?_, ?_, ?_, ?_⟩
  · rw [set_1, new_1, h1]
  · refine ⟨0, fun _ => 0, ?_, ?_, Nat.zero_le _, by omega, ⟨by decide, Or.inl rfl⟩, fun j hj => absurd hj (by omega)⟩
    · rw [h1]
      exact mo_set _ _ _ _
    · apply mi_at
      rw [set_ne (by omega), ← h1]
      exact new_eq _ _
  · intro p hp
    rw [set_ne (by omega), new_ne (by omega), ← hN, new_ne hp]
  · exact (dN.new).set (by rw [new_1]; omega)
theorem nwf {M : me_M} {ci x k : Nat} {fs : List Value} (hD : Dm M) (hx : me_obj M ci x = some fs) (hk : k ≤ 72) (j : Nat) : ∃ M1 M2 : me_M, f_X5_init [.ref M.1, .int (iZ k)] (me_new M (.inr (5, [.null, .int 0]))) = some (none, M1) ∧ me_obj M1 ci x = some fs ∧ M2 = me_set M1 x (.inr (ci, fs.set j (.ref M.1))) ∧ me_obj M2 ci x = some (fs.set j (.ref M.1)) ∧ M2.1 = M.1 + 2 ∧ Wh M2 M.1 k 0 ∧ (∀ p, p < M.1 → p ≠ x → M2.2 p = M.2 p) ∧ Dm M2 := by
  obtain ⟨M1, i1, n1, w1, k1, d1⟩ := nw5 hD hk
  have hl := mo_lt hD hx
  exact ⟨M1, _, i1, (mo_of (k1 x hl)).trans hx, rfl, mo_set _ _ _ _, n1, w1.kp (set_ne (by omega)) (set_ne (by omega)), fun p h1 h2 => (set_ne h2).trans (k1 p h1), d1.set (by omega)⟩
theorem anf {M : me_M} {ci x : Nat} {fs : List Value} (hD : Dm M) (hx : me_obj M ci x = some fs) (e : me_E) (j : Nat) : ∃ M2 : me_M, me_obj (me_new M e) ci x = some fs ∧ M2 = me_set (me_new M e) x (.inr (ci, fs.set j (.ref M.1))) ∧ me_obj M2 ci x = some (fs.set j (.ref M.1)) ∧ M2.1 = M.1 + 1 ∧ M2.2 M.1 = some e ∧ (∀ p, p < M.1 → p ≠ x → M2.2 p = M.2 p) ∧ Dm M2 := by
  have hl := mo_lt hD hx
  exact ⟨_, (mo_of (new_ne hl)).trans hx, rfl, mo_set _ _ _ _, rfl, (set_ne (by omega)).trans (new_eq _ _), fun p h1 h2 => (set_ne h2).trans (new_ne h1), hD.new.set (by rw [new_1]; omega)⟩
theorem euInit {M : me_M} {E : Nat} (hD : Dm M) (hE : me_obj M 1 E = some [.null, .null, .null, .long 0, .long 0, .long 0, .long 0]) : ∃ M' : me_M, f_X1_init [.ref E] M = some (none, M') ∧ EU M' E M.1 (M.1 + 2) (M.1 + 4) ∧ M'.1 = M.1 + 6 ∧ (∀ p, p < M.1 → p ≠ E → M'.2 p = M.2 p) ∧ Dm M' := by
  have hl := mo_lt hD hE
  obtain ⟨A1, A2, i1, o1, e1, p1, n1, w1, k1, d1⟩ := nwf (k := 72) hD hE (by omega) 0
  obtain ⟨B1, B2, i2, o2, e2, p2, n2, w2, k2, d2⟩ := nwf (k := 72) d1 p1 (by omega) 1
  obtain ⟨C1, C2, i3, o3, e3, p3, n3, w3, k3, d3⟩ := nwf (k := 72) d2 p2 (by omega) 2
  have i1' : f_X5_init [.ref M.1, .int (72 : Int32)] (me_new M (.inr (5, [.null, .int 0]))) = some (none, A1) := i1
  have i2' : f_X5_init [.ref A2.1, .int (72 : Int32)] (me_new A2 (.inr (5, [.null, .int 0]))) = some (none, B1) := i2
  have i3' : f_X5_init [.ref B2.1, .int (72 : Int32)] (me_new B2 (.inr (5, [.null, .int 0]))) = some (none, C1) := i3
  refine ⟨C2, ?_, ?_, by omega, fun p h1 h2 => ?_, d3⟩
  · rw [e_X1_init, nm5, bS, i1', bS]
    simp only [cNn, o1, bS]
    rw [if_pos (by simp), ← e1, nm5, bS, i2', bS]
    simp only [cNn, o2, bS]
    rw [if_pos (by simp), ← e2, nm5, bS, i3', bS]
    simp only [cNn, o3, bS]
    rw [if_pos (by simp), ← e3, if_pos (by omega)]
  · refine ⟨M.1 + 2, M.1 + 4, 0, 0, 0, .long 0, .long 0, .long 0, .long 0, Or.inl ⟨rfl, rfl⟩, ?_, ?_, ?_, ?_⟩
    · rw [n2, n1] at p3
      exact p3
    · exact (w1.kp (k2 _ (by omega) (by omega)) (k2 _ (by omega) (by omega))).kp (k3 _ (by omega) (by omega)) (k3 _ (by omega) (by omega))
    · rw [n1] at w2
      exact w2.kp (k3 _ (by omega) (by omega)) (k3 _ (by omega) (by omega))
    · rw [n2, n1] at w3
      exact w3
  · rw [k3 p (by omega) h2, k2 p (by omega) h2, k1 p h1 h2]
theorem EU.kp {M M' : me_M} {E u x y : Nat} (h : EU M E u x y) (k : ∀ p, p = E ∨ p = u ∨ p = u + 1 ∨ p = x ∨ p = x + 1 ∨ p = y ∨ p = y + 1 → M'.2 p = M.2 p) : EU M' E u x y := by
  obtain ⟨x', y', v1, v2, v3, c3, c4, c5, c6, e1, e2, e3, e4, e5⟩ := h
  exact ⟨x', y', v1, v2, v3, c3, c4, c5, c6, e1, (mo_of (k _ (by omega))).trans e2, e3.kp (k _ (by omega)) (k _ (by omega)), e4.kp (k _ (by omega)) (k _ (by omega)), e5.kp (k _ (by omega)) (k _ (by omega))⟩
def RI (M0 M : me_M) (K : Nat) (fs : List Value) (i : Nat) : Prop := Dm M ∧ M.1 = K + 8 + 2 * i ∧ me_obj M 3 K = some fs ∧ EU M (K + 1) (K + 2) (K + 4) (K + 6) ∧ (∀ j, j < i → Wh M (K + 8 + 2 * j) 72 0) ∧ ∀ p, p < K → M.2 p = M0.2 p
theorem RI.step {M0 M : me_M} {K i : Nat} {fs : List Value} (h : RI M0 M K fs i) (j : Nat) : ∃ M1 M2 : me_M, f_X5_init [.ref M.1, .int (72 : Int32)] (me_new M (.inr (5, [.null, .int 0]))) = some (none, M1) ∧ me_obj M1 3 K = some fs ∧ M2 = me_set M1 K (.inr (3, fs.set j (.ref M.1))) ∧ RI M0 M2 K (fs.set j (.ref (K + 8 + 2 * i))) (i + 1) := by
  obtain ⟨hD, h1, ho, hE, hw, hk⟩ := h
  obtain ⟨A1, A2, i1, o1, e1, p1, n1, w1, k1, d1⟩ := nwf (k := 72) hD ho (by omega) j
  refine ⟨A1, A2, i1, o1, e1, d1, by omega, by rw [← h1]; exact p1, hE.kp (fun p hp => k1 p (by omega) (by omega)), fun q hq => ?_, fun p hp => (k1 p (by omega) (by omega)).trans (hk p hp)⟩
  by_cases hq' : q = i
  · rw [hq', ← h1]; exact w1
  · exact (hw q (by omega)).kp (k1 _ (by omega) (by omega)) (k1 _ (by omega) (by omega))
theorem rkInit {M : me_M} {K : Nat} (hD : Dm M) (hK : me_obj M 3 K = some [.null, .null, .null, .null, .null, .null, .null, .null, .null, .null, .null, .null]) (hl : M.1 = K + 1) : ∃ M' : me_M, f_X3_init [.ref K] M = some (none, M') ∧ RK M' K (fun _ => 0) ∧ M'.1 = K + 31 ∧ ∀ p, p < K → M'.2 p = M.2 p := by
  have dN : Dm (me_new M (.inr (1, [.null, .null, .null, .long 0, .long 0, .long 0, .long 0]))) := hD.new
  obtain ⟨R0, f0, E0, n0, k0, d0⟩ := euInit dN (nm5 M 1 _)
  rw [new_1, hl] at E0 n0 k0
  have oK : me_obj R0 3 K = some [.null, .null, .null, .null, .null, .null, .null, .null, .null, .null, .null, .null] := (mo_of (k0 K (by omega) (by omega))).trans ((mo_of (new_ne (by omega))).trans hK)
  obtain ⟨N, eN⟩ : ∃ N, N = me_set R0 K (.inr (3, [.null, .null, .null, .null, .null, .null, .null, .null, .null, .null, .null, .null].set 1 (.ref M.1))) := ⟨_, rfl⟩
  have r0 : RI M N K [.null, .ref (K + 1), .null, .null, .null, .null, .null, .null, .null, .null, .null, .null] 0 := by
    rw [eN, hl]
    refine ⟨d0.set (by omega), by rw [set_1]; omega, mo_set _ _ _ _, E0.kp (fun p hp => set_ne (by omega)), fun j hj => absurd hj (by omega), fun p hp => ?_⟩
    rw [set_ne (by omega), k0 p (by omega) (by omega), new_ne (by omega)]
  obtain ⟨A1, A2, a1, a2, a3, r1⟩ := r0.step 2
  obtain ⟨B1, B2, b1, b2, b3, r2⟩ := r1.step 3
  obtain ⟨C1, C2, c1, c2, c3, r3⟩ := r2.step 4
  obtain ⟨D1, D2, d1, d2, d3, r4⟩ := r3.step 5
  obtain ⟨E1, E2, e1, e2, e3, r5⟩ := r4.step 6
  obtain ⟨F1, F2, f1, f2, f3, r6⟩ := r5.step 7
  obtain ⟨G1, G2, g1', g2', g3', r7⟩ := r6.step 8
  obtain ⟨H1, H2, h1, h2', h3, r8⟩ := r7.step 9
  obtain ⟨I1, I2, i1, i2, i3, r9⟩ := r8.step 10
  have r9' : RI M I2 K [.null, .ref (K + 1), .ref (K + 8), .ref (K + 10), .ref (K + 12), .ref (K + 14), .ref (K + 16), .ref (K + 18), .ref (K + 20), .ref (K + 22), .ref (K + 24), .null] 9 := r9
  obtain ⟨q1, q2, q3, q4, q5, q6⟩ := r9'
  have q2 : I2.1 = K + 26 := q2
  obtain ⟨J1, J2, j1, j2, j3, p1, n1, w1, k1, d1'⟩ := nwf (k := 3) q1 q3 (by omega) 11
  have p1 : me_obj J2 3 K = some [.null, .ref (K + 1), .ref (K + 8), .ref (K + 10), .ref (K + 12), .ref (K + 14), .ref (K + 16), .ref (K + 18), .ref (K + 20), .ref (K + 22), .ref (K + 24), .ref (K + 26)] := by rw [← q2]; exact p1
  have w1 : Wh J2 (K + 26) 3 0 := by rw [← q2]; exact w1
  obtain ⟨s1, g1, wo, wi, _⟩ := w1
  obtain ⟨s', g', sl, W1⟩ := setLong_s (V := 1) wo wi (by omega) (by omega) (by omega)
  have sl' : f_X5_setLong [.ref (K + 26), .long (1 : Int64)] J2 = some (none, mW J2 (K + 26) (K + 26 + 1) 3 g' s') := sl
  obtain ⟨P, eP⟩ : ∃ P, P = mW J2 (K + 26) (K + 26 + 1) 3 g' s' := ⟨_, rfl⟩
  rw [← eP] at sl' W1
  have P1 : P.1 = K + 28 := by rw [eP]; show J2.1 = K + 28; omega
  have Pk : ∀ p, p < K + 26 → P.2 p = J2.2 p := fun p hp => by
    rw [eP]
    show (me_set (me_set J2 _ _) _ _).2 p = J2.2 p
    rw [set_ne (by omega), set_ne (by omega)]
  have dP : Dm P := by
    rw [eP]
    exact (d1'.set (by omega)).set (by rw [set_1]; omega)
  obtain ⟨Q, eQ⟩ : ∃ Q, Q = me_new P (.inr (2, [.int 0, .null, .null])) := ⟨_, rfl⟩
  have dQ : Dm Q := by rw [eQ]; exact dP.new
  have Q1 : Q.1 = K + 29 := by rw [eQ, new_1, P1]
  obtain ⟨S1, z1, z2, z3, z4, z5⟩ := nw5 (k := 0) dQ (by omega)
  have z1' : f_X5_init [.ref Q.1, .int (0 : Int32)] (me_new Q (.inr (5, [.null, .int 0]))) = some (none, S1) := z1
  have Sk : ∀ p, p < K + 28 → S1.2 p = P.2 p := fun p hp => by rw [z4 p (by omega), eQ, new_ne (by omega)]
  have oS : me_obj S1 3 K = some [.null, .ref (K + 1), .ref (K + 8), .ref (K + 10), .ref (K + 12), .ref (K + 14), .ref (K + 16), .ref (K + 18), .ref (K + 20), .ref (K + 22), .ref (K + 24), .ref (K + 26)] := by rw [mo_of (Sk K (by omega)), mo_of (Pk K (by omega)), p1]
  have oF : me_obj S1 2 (K + 28) = some [.int 0, .null, .null] := by rw [mo_of (z4 _ (by omega)), eQ, ← P1]; exact nm5 _ _ _
  have fi := frac_init (s := 0) (a := K + 29) (b := K + 26) oF
  obtain ⟨U, eU⟩ : ∃ U, U = me_set S1 (K + 28) (.inr (2, [.int 0, .ref (K + 29), .ref (K + 26)])) := ⟨_, rfl⟩
  rw [← eU] at fi
  have oU : me_obj U 3 K = some [.null, .ref (K + 1), .ref (K + 8), .ref (K + 10), .ref (K + 12), .ref (K + 14), .ref (K + 16), .ref (K + 18), .ref (K + 20), .ref (K + 22), .ref (K + 24), .ref (K + 26)] := by rw [eU, mo_ne _ _ _ _ _ (by omega), oS]
  obtain ⟨V, eV⟩ : ∃ V, V = me_set U K (.inr (3, [.null, .ref (K + 1), .ref (K + 8), .ref (K + 10), .ref (K + 12), .ref (K + 14), .ref (K + 16), .ref (K + 18), .ref (K + 20), .ref (K + 22), .ref (K + 24), .ref (K + 26)].set 0 (.ref (K + 28)))) := ⟨_, rfl⟩
  have Vk : ∀ p, p ≠ K → p ≠ K + 28 → V.2 p = S1.2 p := fun p h1 h2 => by rw [eV, set_ne h1, eU, set_ne h2]
  have Vj : ∀ p, p ≠ K → p < K + 26 → V.2 p = I2.2 p := fun p h1 h2 => by rw [Vk p h1 (by omega), Sk p (by omega), Pk p h2, k1 p (by omega) h1]
  refine ⟨V, ?_, ⟨?_, ?_, ?_, ?_, ?_, ?_, ?_⟩, ?_, ?_⟩
  · have h0 : (0 : Int32) = iZ ((0 : Nat) : Int) := rfl
    rw [e_X3_init, nm5, bS, f0, bS]
    simp only [cNn, oK, bS]
    rw [if_pos (by simp), ← eN, nm5, bS, a1, bS]
    simp only [cNn]
    rw [e_X3_init_25, a2, bS, if_pos (by simp), ← a3, ble2 (by omega) (by omega), cond_true, nm5, bS, b1, bS, ble2 (by omega) (by omega), cond_true]
    simp only [cNn, b2, bS]
    rw [if_pos (by simp), ← b3, e_X3_init_41, ble2 (by omega) (by omega), cond_true, nm5, bS, c1, bS, ble2 (by omega) (by omega), cond_true]
    simp only [cNn, c2, bS]
    rw [if_pos (by simp), ← c3, ble2 (by omega) (by omega), cond_true, nm5, bS, d1, bS, ble2 (by omega) (by omega), cond_true]
    simp only [cNn]
    rw [e_X3_init_64, d2, bS, if_pos (by simp), ← d3, ble2 (by omega) (by omega), cond_true, nm5, bS, e1, bS, ble2 (by omega) (by omega), cond_true]
    simp only [cNn, e2, bS]
    rw [if_pos (by simp), ← e3, e_X3_init_80, ble2 (by omega) (by omega), cond_true, nm5, bS, f1, bS, ble2 (by omega) (by omega), cond_true]
    simp only [cNn, f2, bS]
    rw [if_pos (by simp), ← f3, ble2 (by omega) (by omega), cond_true, nm5, bS, g1', bS, ble2 (by omega) (by omega), cond_true]
    simp only [cNn]
    rw [e_X3_init_103, g2', bS, if_pos (by simp), ← g3', ble2 (by omega) (by omega), cond_true, nm5, bS, h1, bS, ble2 (by omega) (by omega), cond_true]
    simp only [cNn, h2', bS]
    rw [if_pos (by simp), ← h3, e_X3_init_119, ble2 (by omega) (by omega), cond_true, nm5, bS, i1, bS, ble2 (by omega) (by omega), cond_true]
    simp only [cNn, i2, bS]
    rw [if_pos (by simp), ← i3, ble2 (by omega) (by omega), cond_true, nm5, bS, show f_X5_init [.ref I2.1, .int (3 : Int32)] (me_new I2 (.inr (5, [.null, .int 0]))) = some (none, J1) from j1, bS, ble2 (by omega) (by omega), cond_true]
    simp only [cNn]
    have j2' : me_obj J1 3 K = some [.null, .ref (K + 1), .ref (K + 8), .ref (K + 10), .ref (K + 12), .ref (K + 14), .ref (K + 16), .ref (K + 18), .ref (K + 20), .ref (K + 22), .ref (K + 24), .null] := j2
    rw [e_X3_init_141, j2', bS, if_pos (by simp), ← j3, p1, bS]
    have x11 : ([.null, .ref (K + 1), .ref (K + 8), .ref (K + 10), .ref (K + 12), .ref (K + 14), .ref (K + 16), .ref (K + 18), .ref (K + 20), .ref (K + 22), .ref (K + 24), .ref (K + 26)] : List Value)[11]? = some (.ref (K + 26)) := rfl
    simp only [x11, bS, vF, wo, sl']
    rw [ble2 (by omega) (by omega), cond_true]
    simp only [cNn]
    rw [ble2 (by omega) (by omega), cond_true, ble2 (by omega) (by omega), cond_true, ← eQ, nm5, bS, z1', bS, ble2 (by omega) (by omega), cond_true]
    simp only [cNn]
    rw [P1, Q1, e_X3_init_166, oS, bS, x11, bS, oF, bS, fi, bS, ble2 (by omega) (by omega), cond_true]
    simp only [cNn, oU, bS]
    rw [if_pos (by simp), ← eV, if_pos (by omega)]
  · rw [eV]
    refine Dm.set ?_ ?_
    · rw [eU]
      exact z5.set (by omega)
    · rw [eU, set_1]; omega
  · rw [eV]; exact mo_set _ _ _ _
  · exact q4.kp (fun p hp => Vj p (by omega) (by omega))
  · intro i hi
    exact (q5 i hi).kp (Vj _ (by omega) (by omega)) (Vj _ (by omega) (by omega))
  · refine Wh.kp (M := P) ⟨s', g', W1⟩ ?_ ?_
    · rw [Vk _ (by omega) (by omega), Sk _ (by omega)]
    · rw [Vk _ (by omega) (by omega), Sk _ (by omega)]
  · rw [eV, mo_ne _ _ _ _ _ (by omega), eU]; exact mo_set _ _ _ _
  · rw [Q1] at z3
    exact z3.kp (Vk _ (by omega) (by omega)) (Vk _ (by omega) (by omega))
  · rw [eV, set_1, eU, set_1]; omega
  · intro p hp
    rw [Vj p (by omega) (by omega), q6 p hp]
