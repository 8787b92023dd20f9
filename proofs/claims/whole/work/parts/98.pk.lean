/-! limb -/
def liR (s : Sx) (x p k : Int32) : Value := if liT s x p k = 0 then .int (liV s x p k) else if liT s x p k = 1 then .float 1 else .float 2
theorem limbV_s {M : me_M} {A : Nat} {s : Sx} {x p k : Int32} (h : PF M A s) : f_X6_limb [.ref A, .int x, .int p, .int k] M = some (some (liR s x p k), M) := by
  obtain ⟨P, e, p1, p2, t⟩ := i_rep p
  obtain ⟨K, ek, k1', k2', tk⟩ := i_rep k
  obtain ⟨vs, vf, rf, ff, lf, df, h⟩ := h
  have b := h.n
  rw [e_X6_limb]
  simp only [h.o, bS, isValue_s h.o h.n, vI, h.rv, pf0, pf2, vF]
  have bad : ¬ (isV (sN s) x ∧ isV 2 p) → liR s x p k = .float 1 := fun hb => by
    have : liT s x p k = 1 := if_neg hb
    unfold liR
    rw [this, if_neg (by decide), if_pos rfl]
  by_cases hx : isV (sN s) x
  · rw [if_pos hx, if_neg i10]
    by_cases h1 : P < 0
    · rw [if_pos (by rw [e, z_0, iZ_lt (by omega) (by omega)]; exact h1), bad (fun z => by have := z.2.1; omega)]
    · rw [if_neg (by rw [e, z_0, iZ_lt (by omega) (by omega)]; exact h1)]
      by_cases h2' : P ≤ 1
      · rw [if_pos (by rw [e, z_1, iZ_le (by omega) (by omega)]; exact h2')]
        have hp : isV 2 p := by constructor <;> omega
        obtain ⟨q, e1, F1⟩ := h.val hx
        obtain ⟨w, c, fs, Ww⟩ := side_s F1 (x := p)
        obtain ⟨a', b', ca, cb, ob, _⟩ := F1.ob
        have hfit : paN (sV s x.toNatClampNeg) p < 2 ^ 512 := by
          unfold paN
          split
          · exact F1.2.2.1.1
          · exact F1.2.2.1.2
        have hT : liT s x p k = if isV ((bl (paN (sV s x.toNatClampNeg) p) + 31) / 32) k then 0 else 2 := if_pos ⟨hx, hp⟩
        rw [if_neg (hx.no b (by omega))]
        simp only [e1, rfS, vF, vN, ob, bS, fs]
        have Ww' : Wh M w c (paN (sV s x.toNatClampNeg) p) := Ww
        obtain ⟨z, f, ws⟩ := Ww'
        obtain ⟨z', ow, _⟩ := Wh.obj ⟨z, f, ws⟩
        have lb := bl_le_iff.mpr hfit
        have b59 : ¬ isV ((bl (paN (sV s x.toNatClampNeg) p) + 31) / 32) k → liR s x p k = .float 2 := fun hb => by
          unfold liR
          rw [hT, if_neg hb, if_neg (by decide), if_neg (by decide)]
        by_cases hk : K < 0
        · rw [if_pos (by rw [ek, z_0, iZ_lt (by omega) (by omega)]; exact hk), b59 (fun z => by have := z.1; omega)]
        · rw [if_neg (by rw [ek, z_0, iZ_lt (by omega) (by omega)]; exact hk)]
          simp only [ow, bS, length_s ws, vI]
          have ed : (iZ ((bl (paN (sV s x.toNatClampNeg) p) : Nat) : Int) + (31 : Int32)) / (32 : Int32) = iZ (((bl (paN (sV s x.toNatClampNeg) p) + 31) / 32 : Nat) : Int) := by
            rw [show (31 : Int32) = iZ ((31 : Nat) : Int) from rfl, z_pi]
            exact iZ_div (b := 32) (by omega) (by omega) (by omega)
          rw [if_neg (by decide : ¬ (32 : Int32) = 0), ed]
          by_cases hk2 : K < (((bl (paN (sV s x.toNatClampNeg) p) + 31) / 32 : Nat) : Int)
          · have hv : isV ((bl (paN (sV s x.toNatClampNeg) p) + 31) / 32) k := by constructor <;> omega
            rw [if_pos (by rw [ek, iZ_lt (by omega) (by omega)]; exact hk2)]
            obtain ⟨j, j1, j2, j3⟩ := hv.ix (by omega)
            have fw : f_X5_word [.ref w, .int k] M = some (some (.int (iZ ((paN (sV s x.toNatClampNeg) p / 2 ^ (32 * j) % 4294967296 : Nat) : Int))), M) := by rw [j2]; exact word_s ⟨z, f, ws⟩ (by omega)
            simp only [ow, bS, fw, vI]
            rw [e_X6_limb_74, if_pos (by omega)]
            congr 3
            unfold liR
            rw [hT, if_pos hv, if_pos rfl]
            unfold liV
            rw [j3]
          · rw [if_neg (by rw [ek, iZ_lt (by omega) (by omega)]; exact hk2), b59 (fun z => by have := z.2; omega)]
      · rw [if_neg (by rw [e, z_1, iZ_le (by omega) (by omega)]; exact h2'), bad (fun z => by have := z.2.2; omega)]
  · rw [if_neg hx, if_pos rfl, bad (fun z => hx z.1)]
