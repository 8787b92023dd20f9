/-! part, limb -/
def paR (s : Sx) (x p : Int32) : Value := if paT s x p = 0 then .long (paV s x p) else if paT s x p = 1 then .float 1 else .float 0
theorem pa_59 {M : me_M} {w c v : Nat} {mi : Int32} (hw : Wh M w c v) (hv : v < 2 ^ 512) (hm : mi = 0 ∨ mi = 1) : sm T_X6_part (59, [(3, .ref w)], [.int mi], M, 0, 0) = some (some (if v < 9223372036854775808 ∨ (mi ≠ 0 ∧ v = 9223372036854775808) then (if mi = 0 then .long (lZ v) else .long (-lZ v)) else .float 0), M) := by
  obtain ⟨z, f, ws⟩ := hw
  obtain ⟨z', ob, _⟩ := Wh.obj ⟨z, f, ws⟩
  rw [e_X6_part_59, ob]
  simp only [bS, fitsLong_s ws (by have := bl_le_iff.mpr hv; omega), vI]
  rw [ble2 (by omega) (by omega), cond_true]
  by_cases hL : v < 9223372036854775808 ∨ (mi ≠ 0 ∧ v = 9223372036854775808)
  · rw [if_pos hL, if_neg i10, if_pos hL]
    by_cases h0 : mi = 0
    · rw [if_pos h0, if_pos h0]
      simp only [ob, bS, lowLong_s ws, vL, cond_true]
      exact if_pos (by omega)
    · rw [if_neg h0, if_neg h0]
      simp only [ob, bS, lowLong_s ws, vL, cond_true]
      exact if_pos (by omega)
  · rw [if_neg hL, if_pos rfl, if_neg hL]
    rw [ble2 (by omega) (by omega), cond_true]
theorem partV_s {M : me_M} {A : Nat} {s : Sx} {x p : Int32} (h : PF M A s) : f_X6_part [.ref A, .int x, .int p] M = some (some (paR s x p), M) := by
  obtain ⟨P, e, p1, p2, t⟩ := i_rep p
  obtain ⟨vs, vf, rf, ff, lf, df, h⟩ := h
  have b := h.n
  rw [e_X6_part]
  simp only [h.o, bS, isValue_s h.o h.n, vI, h.rv, pf0, pf2, vF]
  have bad : ¬ (isV (sN s) x ∧ isV 2 p) → paR s x p = .float 1 := fun hb => by
    have : paT s x p = 1 := if_neg hb
    unfold paR
    rw [this, if_neg (by decide), if_pos rfl]
  by_cases hx : isV (sN s) x
  · rw [if_pos hx, if_neg i10]
    by_cases h1 : P < 0
    · rw [if_pos (by rw [e, z_0, iZ_lt (by omega) (by omega)]; exact h1), bad (fun z => by have := z.2.1; omega)]
    · rw [if_neg (by rw [e, z_0, iZ_lt (by omega) (by omega)]; exact h1)]
      by_cases h2' : P ≤ 1
      · rw [if_pos (by rw [e, z_1, iZ_le (by omega) (by omega)]; exact h2')]
        have hp : isV 2 p := by constructor <;> omega
        obtain ⟨q, e1, F1⟩ := h.val hx
        obtain ⟨w, c, fs, Ww⟩ := side_s F1 (x := p)
        obtain ⟨a', b', ca, cb, ob, _⟩ := F1.ob
        have hfit : paN (sV s x.toNatClampNeg) p < 2 ^ 512 := by
          unfold paN
          split
          · exact F1.2.2.1.1
          · exact F1.2.2.1.2
        have hT : paT s x p = if fitL (paN (sV s x.toNatClampNeg) p) (paS (sV s x.toNatClampNeg) p) then 0 else 2 := if_pos ⟨hx, hp⟩
        rw [if_neg (hx.no b (by omega))]
        simp only [e1, rfS, vF, vN, ob, bS, fs]
        have Ww' : Wh M w c (paN (sV s x.toNatClampNeg) p) := Ww
        have fin : ∀ mi : Int32, (mi = 0 ∧ ¬ paS (sV s x.toNatClampNeg) p < 0) ∨ (mi = 1 ∧ paS (sV s x.toNatClampNeg) p < 0) → sm T_X6_part (59, [(3, .ref w)], [.int mi], M, 0, 0) = some (some (paR s x p), M) := fun mi hmi => by
          rw [pa_59 Ww' hfit (hmi.elim (fun z => Or.inl z.1) (fun z => Or.inr z.1))]
          congr 3
          unfold paR
          rw [hT]
          unfold paV
          rcases hmi with ⟨rfl, hs⟩ | ⟨rfl, hs⟩
          · by_cases hL : paN (sV s x.toNatClampNeg) p < 9223372036854775808
            · rw [if_pos (Or.inl hL), if_pos rfl, if_pos (show fitL _ _ from Or.inl hL), if_pos rfl, if_neg hs]
            · rw [if_neg (fun k => k.elim hL (fun k => k.1 rfl)), if_neg (show ¬ fitL _ _ from fun k => k.elim hL (fun k => hs k.1)), if_neg (by decide), if_neg (by decide)]
          · by_cases hL : fitL (paN (sV s x.toNatClampNeg) p) (paS (sV s x.toNatClampNeg) p)
            · rw [if_pos (hL.elim Or.inl (fun k => Or.inr ⟨by decide, k.2⟩)), if_neg (by decide), if_pos hL, if_pos rfl, if_pos hs]
            · rw [if_neg (fun k => hL (k.elim Or.inl (fun k => Or.inr ⟨hs, k.2⟩))), if_neg hL, if_neg (by decide), if_neg (by decide)]
        by_cases h0 : p = 0
        · rw [if_pos h0]
          simp only [h.o, bS, pf2, vF, h.rv]
          rw [if_neg (hx.no b (by omega))]
          simp only [e1, rfS, vF, vN, ob, bS, g0, vI]
          have hs : paS (sV s x.toNatClampNeg) p = (sV s x.toNatClampNeg).1 := if_pos h0
          have hb := F1.2.1.1
          by_cases hn : 0 ≤ (sV s x.toNatClampNeg).1
          · rw [if_pos (by rw [z_0, iZ_le (by omega) (by omega)]; exact hn), e_X6_part_58]
            exact fin 0 (Or.inl ⟨rfl, by omega⟩)
          · rw [if_neg (by rw [z_0, iZ_le (by omega) (by omega)]; exact hn)]
            exact fin 1 (Or.inr ⟨rfl, by omega⟩)
        · rw [if_neg h0, e_X6_part_58]
          have hs : paS (sV s x.toNatClampNeg) p = 1 := if_neg h0
          exact fin 0 (Or.inl ⟨rfl, by omega⟩)
      · rw [if_neg (by rw [e, z_1, iZ_le (by omega) (by omega)]; exact h2'), bad (fun z => by have := z.2.2; omega)]
  · rw [if_neg hx, if_pos rfl, bad (fun z => hx z.1)]
