theorem EU.of {M M' : me_M} {E u x y w cw vw : Nat} (h : EU M E u x y) (hw : Wh M w cw vw) (n4 : w ≠ x) (n5 : w ≠ y) (n6 : w ≠ u) (hF : Fr M M' w) : EU M' E u x y := by
  obtain ⟨x', y', v1, v2, v3, c3, c4, c5, c6, h1, h2, h3, h4, h5⟩ := h
  refine ⟨x', y', v1, v2, v3, c3, c4, c5, c6, h1, ?_, h3.fr hw (Ne.symm n6) hF, h4.fr hw (Ne.symm n4) hF, h5.fr hw (Ne.symm n5) hF⟩
  rw [mo_of (hF.2 E (hw.ne2 h2 (by decide)) (hw.ne1 h2))]
  exact h2
theorem find_o {M : me_M} {E u x y w a b v0 : Nat} (hE : EU M E u x y) (hw : Wh M w 72 v0) (n4 : w ≠ x) (n5 : w ≠ y) (n6 : w ≠ u) (h : Nat.gcd a b = 1) : ∃ M' : me_M, sm T_X1_find (14, [(3, .ref w)], [], M, 0, 0) = some (none, M') ∧ Wh M' w 72 (Nat.gcd a b) ∧ EU M' E u x y ∧ Fe M M' E u x y w := by
  obtain ⟨M', l1, l2, l3⟩ := longW (V := 1) hw (by decide) (by decide)
  obtain ⟨s, o1, _⟩ := hw.obj
  rw [e_X1_find_14, o1]
  have l1' : f_X5_setLong [.ref w, .long 1] M = some (none, M') := l1
  simp only [bS, l1', cNn, c00]
  exact ⟨M', rfl, by rw [h]; exact l2, hE.of hw n4 n5 n6 l3, l3.1, fun p _ _ _ _ _ _ _ h8 h9 => l3.2 p h8 h9⟩
theorem find_m {M : me_M} {E u x y w a b A B ca cb v0 v1 v2 v3 : Nat} {c3 c4 c5 c6 : Value} (ho : me_obj M 1 E = some [.ref u, .ref x, .ref y, c3, c4, c5, c6]) (hu : Wh M u 72 v1) (hx : Wh M x 72 v2) (hy : Wh M y 72 v3) (ha : Wh M a ca A) (hb : Wh M b cb B) (hw : Wh M w 72 v0) (n1 : x ≠ y) (n2 : x ≠ u) (n3 : y ≠ u) (n4 : w ≠ x) (n5 : w ≠ y) (n6 : w ≠ u) (a1 : a ≠ x) (a2 : a ≠ y) (b1 : b ≠ x) (b2 : b ≠ y) (hA : A < 2 ^ (31 * 70)) (hB : B < 2 ^ (31 * 70)) :
    ∃ M' : me_M, f_X1_find [.ref E, .ref a, .ref b, .ref w] M = some (none, M') ∧ Wh M' w 72 (Nat.gcd A B) ∧ EU M' E u x y ∧ Fe M M' E u x y w := by
  have hE : EU M E u x y := ⟨x, y, v1, v2, v3, c3, c4, c5, c6, Or.inl ⟨rfl, rfl⟩, ho, hu, hx, hy⟩
  obtain ⟨sa, oa, _⟩ := ha.obj
  obtain ⟨sb, ob', _⟩ := hb.obj
  obtain ⟨sx, ox, _⟩ := hx.obj
  obtain ⟨sy, oy, _⟩ := hy.obj
  rw [e_X1_find, oa, oneW ha]
  simp only [bS, vI]
  by_cases hA1 : A = 1
  · rw [if_neg (by rw [if_pos hA1]; decide)]
    exact find_o hE hw n4 n5 n6 (by rw [hA1, Nat.gcd_one_left])
  rw [if_pos (by rw [if_neg hA1]), ob', oneW hb]
  simp only [bS, vI]
  by_cases hB1 : B = 1
  · rw [if_neg (by rw [if_pos hB1]; decide)]
    exact find_o hE hw n4 n5 n6 (by rw [hB1, Nat.gcd_one_right])
  rw [if_pos (by rw [if_neg hB1]), cmpW ha hb]
  simp only [bS, vI]
  have key : ∀ (p q cp cq P Q : Nat), Wh M p cp P → Wh M q cq Q → p ≠ x → q ≠ x → q ≠ y → Q ≤ P → P < 2 ^ (31 * 70) → ∃ N1 N2 M' : me_M, f_X5_copy [.ref x, .ref p] M = some (none, N1) ∧ me_obj N1 1 E = some [.ref u, .ref x, .ref y, c3, c4, c5, c6] ∧ me_obj N1 5 y = some [.ref (y + 1), .int (iZ sy)] ∧ f_X5_copy [.ref y, .ref q] N1 = some (none, N2) ∧ sm T_X1_find (72, [(0, .ref E), (3, .ref w), (5, .int (0 : Int32))], [], N2, 0, 0) = some (none, M') ∧ Wh M' w 72 (Nat.gcd P Q) ∧ EU M' E u x y ∧ Fe M M' E u x y w := by
    intro p q cp cq P Q hp hq p1 q1 q2 hQP hP
    obtain ⟨N1, k1, k2, k3⟩ := copyW hx hp hP (by omega : 70 ≤ 72)
    have hqN := hq.fr hx q1 k3
    have hyN := hy.fr hx (Ne.symm n1) k3
    obtain ⟨N2, j1, j2, j3⟩ := copyW hyN hqN (m := 70) (Nat.lt_of_le_of_lt hQP hP) (by omega)
    have oN : me_obj N1 1 E = some [.ref u, .ref x, .ref y, c3, c4, c5, c6] := by
      rw [mo_of (k3.2 E (hx.ne2 ho (by decide)) (hx.ne1 ho))]; exact ho
    have oN2 : me_obj N2 1 E = some [.ref u, .ref x, .ref y, c3, c4, c5, c6] := by
      rw [mo_of (j3.2 E (hyN.ne2 oN (by decide)) (hyN.ne1 oN))]; exact oN
    obtain ⟨M', r1, r2, r3, r4⟩ := find_l (E := E) (u := u) (w := w) (by omega) 10000 0 N2 x y P Q v1 v0 c3 c4 c5 c6 (by omega) oN2 ((hu.fr hx (Ne.symm n2) k3).fr hyN (Ne.symm n3) j3) (k2.fr hyN n1 j3) j2 ((hw.fr hx n4 k3).fr hyN n5 j3) n1 n2 n3 n4 n5 n6 hQP hP (pw_big (k := 31 * 70 + 31 * 70) (by rw [Nat.pow_add]; exact Nat.mul_lt_mul_of_lt_of_le hP (Nat.le_of_lt (Nat.lt_of_le_of_lt hQP hP)) (Nat.two_pow_pos _)) (by omega))
    refine ⟨N1, N2, M', k1, oN, ?_, j1, r1, r2, r3, Fe.trans ⟨by rw [j3.1, k3.1], fun z e1 e2 e3 e4 e5 e6 e7 e8 e9 => ?_⟩ r4⟩
    · rw [mo_of (k3.2 y (Ne.symm n1) (hy.ne hx))]; exact oy
    · rw [j3.2 z e6 e7, k3.2 z e4 e5]
  by_cases hlt : A < B
  · rw [if_pos (by unfold cmpN; rw [if_pos hlt]; decide), e_X1_find_33, ho]
    simp only [bS, g1, ↓reduceIte]
    obtain ⟨N1, N2, M', k1, k2, k3, k4, k5, k6, k7, k8⟩ := key b a cb ca B A hb ha b1 a1 a2 (by omega) hB
    rw [e_X1_find_49]
    simp only [vR, bS, ox, k1, cNn, k2, h2, ↓reduceIte]
    rw [e_X1_find_66]
    simp only [vR, bS, k3, k4, cNn, k5, oa]
    exact ⟨M', rfl, by rw [Nat.gcd_comm]; exact k6, k7, k8⟩
  · rw [if_neg (by
      unfold cmpN
      rw [if_neg hlt]
      split
      · decide
      · decide), e_X1_find_33, ho]
    simp only [bS, g1]
    rw [if_neg (by decide)]
    obtain ⟨N1, N2, M', k1, k2, k3, k4, k5, k6, k7, k8⟩ := key a b ca cb A B ha hb a1 b1 b2 (by omega) hA
    rw [e_X1_find_49]
    simp only [vR, bS, ox, k1, cNn, k2, h2]
    rw [if_neg (by decide), e_X1_find_66]
    simp only [vR, bS, k3, k4, cNn, k5, oa]
    exact ⟨M', rfl, k6, k7, k8⟩
theorem find_s {M : me_M} {E u x y w a b A B ca cb v0 : Nat} (hE : EU M E u x y) (ha : Wh M a ca A) (hb : Wh M b cb B) (hw : Wh M w 72 v0) (n1 : x ≠ y) (n2 : x ≠ u) (n3 : y ≠ u) (n4 : w ≠ x) (n5 : w ≠ y) (n6 : w ≠ u) (a1 : a ≠ x) (a2 : a ≠ y) (b1 : b ≠ x) (b2 : b ≠ y) (hA : A < 2 ^ (31 * 70)) (hB : B < 2 ^ (31 * 70)) :
    ∃ M' : me_M, f_X1_find [.ref E, .ref a, .ref b, .ref w] M = some (none, M') ∧ Wh M' w 72 (Nat.gcd A B) ∧ EU M' E u x y ∧ Fe M M' E u x y w := by
  obtain ⟨x', y', v1, v2, v3, c3, c4, c5, c6, h1, h2, h3, h4, h5⟩ := hE
  rcases h1 with ⟨e1, e2⟩ | ⟨e1, e2⟩
  · subst e1; subst e2
    exact find_m h2 h3 h4 h5 ha hb hw n1 n2 n3 n4 n5 n6 a1 a2 b1 b2 hA hB
  · subst e1; subst e2
    obtain ⟨M', r1, r2, r3, r4⟩ := find_m h2 h3 h5 h4 ha hb hw (Ne.symm n1) n3 n2 n5 n4 n6 a2 a1 b2 b1 hA hB
    exact ⟨M', r1, r2, r3.swap, r4.swap⟩
