set_option maxRecDepth 4000
theorem w637 : Cond.methodLink RL 7 yX6_value ∈ me_w := me_in3 157 rfl rfl
theorem w638 : Cond.instanceMethod yX6_value ∈ me_w := me_in3 158 rfl rfl
theorem w639 : Cond.selects RX6 yX6_value yX6_value ∈ me_w := me_in3 159 rfl rfl
theorem w651 : Cond.methodLink RL 15 yX6_over ∈ me_w := me_in3 171 rfl rfl
theorem w652 : Cond.instanceMethod yX6_over ∈ me_w := me_in3 172 rfl rfl
theorem w653 : Cond.selects RX6 yX6_over yX6_over ∈ me_w := me_in3 173 rfl rfl
theorem w659 : Cond.methodLink RL 19 yX6_rest ∈ me_w := me_in3 179 rfl rfl
theorem w660 : Cond.instanceMethod yX6_rest ∈ me_w := me_in3 180 rfl rfl
theorem w661 : Cond.selects RX6 yX6_rest yX6_rest ∈ me_w := me_in3 181 rfl rfl
theorem w671 : Cond.methodLink RL 22 yX6_part ∈ me_w := me_in3 191 rfl rfl
theorem w672 : Cond.instanceMethod yX6_part ∈ me_w := me_in3 192 rfl rfl
theorem w673 : Cond.selects RX6 yX6_part yX6_part ∈ me_w := me_in3 193 rfl rfl
theorem w720 : Cond.methodLink RL 28 yX6_limb ∈ me_w := me_in4 0 rfl rfl
theorem w721 : Cond.instanceMethod yX6_limb ∈ me_w := me_in4 1 rfl rfl
theorem w722 : Cond.selects RX6 yX6_limb yX6_limb ∈ me_w := me_in4 2 rfl rfl
theorem w734 : Cond.methodLink RL 34 yX6_exact ∈ me_w := me_in4 14 rfl rfl
theorem w735 : Cond.instanceMethod yX6_exact ∈ me_w := me_in4 15 rfl rfl
theorem w736 : Cond.selects RX6 yX6_exact yX6_exact ∈ me_w := me_in4 16 rfl rfl
theorem lw_k0 : Cond.classLink RL 13 xe_C0 ∈ me_w := me_in3 87 rfl rfl
theorem lw_k1 : Cond.classLink RL 26 xe_C1 ∈ me_w := me_in3 190 rfl rfl
theorem lw_k2 : Cond.classLink RL 32 xe_C2 ∈ me_w := me_in3 221 rfl rfl
theorem xe_e0 : xe_C 0 = xe_C0 := by decide
theorem xe_e1 : xe_C 1 = xe_C1 := by decide
theorem xe_e2 : xe_C 2 = xe_C2 := by decide
theorem xe_c0 {G : me_G} {s : State} {args : Array Value} (h : xe_K G s) : (Cond.castable xe_C0 xe_C0).before args s = true := va_Nw.use rfl (h.2.2.2.2.1 _ (by decide +kernel))
theorem xe_c1 {G : me_G} {s : State} {args : Array Value} (h : xe_K G s) : (Cond.castable xe_C1 xe_C1).before args s = true := va_Nw.use rfl (h.2.2.2.2.1 _ (by decide +kernel))
theorem xe_c2 {G : me_G} {s : State} {args : Array Value} (h : xe_K G s) : (Cond.castable xe_C2 xe_C2).before args s = true := va_Nw.use rfl (h.2.2.2.2.1 _ (by decide +kernel))
abbrev rm_L_value : Room := { frames := 7, cells := 6, slots := 157, locals := 186 }
theorem V_L_value {l : Launch} (hst : l.stackTraces = false) {G : me_G} {A D : Nat} {p0 : Int64} {p1 : Int64} {M : me_M} {r : sm_R} {fs : List Value} (hf : f_X6_value [.ref A, .long p0, .long p1] M = some r) (hA : me_obj M 6 A = some fs) (hr : (∃ (x : Int32) (g : Nat → Int64), r.1 = some (.int x) ∧ r.2.2 D = some (.inl (1, 1, .inr (.inl g)))) ∨ r.1 = some (.float 0)) :
    Met l yL_value (sh_ws yL_value cL_value 7 (some .int) [(0, 11, 14, 13)]) rm_L_value (xd_Pc G [.ref A, .long p0, .long p1, .ref D] M) (wq G r D (fun _ => 1)) rm_L_value.cells rm_L_value.slots (fun q => G.2.2.1 ≤ q) := by
  refine met_H (by decide +kernel) ?_
  intro p e s m args below meth c s₁ B hml hv
  obtain ⟨rfl, hR, hK, hE⟩ := hv
  have hts := atoms_spec (ws := sh_ws yL_value cL_value 7 (some .int) [(0, 11, 14, 13)]) B.pre
  have htab : c.exceptionTable.toList = tableOf [(0, 11, 14, 13)] := vx_table (l := l) (x := yL_value) B (hts _ List.mem_cons_self)
  have C : sd_C G p s m ([.ref A, .long p0, .long p1, .ref D] : List Value).toArray meth c yL_value cL_value 7 (some .int) := ⟨B.exec, B.bytes, hml, findClass_of_methodNamed B.named, fun w hw => hts w (List.mem_cons_of_mem _ hw), hK, B.notSynchronized, B.returns, (name_of_methodNamed B.named B.method).1⟩
  have hl := lv_entry [.ref A, .long p0, .long p1, .ref D] (n := 7) (Nat.le_of_ble_eq_true rfl)
  rw [lg_entry_eq]
  have wc : sd_W G p l e rm_L_value s m ([.ref A, .long p0, .long p1, .ref D] : List Value).toArray below meth c 7 (MQ below (wq G r D (fun _ => 1)) ([.ref A, .long p0, .long p1, .ref D] : List Value).toArray s rm_L_value.cells rm_L_value.slots (fun q => G.2.2.1 ≤ q)) (6, [(0, .ref A), (1, .long p0), (3, .long p1), (5, .ref D)], [.long p1, .long p0, .ref A, .int 0, .ref D], M, 0, 0) := by
    refine wr_call (as := [.long p0, .long p1]) (rest := [.int 0, .ref D]) (A := A) (ci := 6) C hst hE dL_value_6 V_X6_value w637 w638 w639 rfl (by decide) hA rfl (Nat.le_of_ble_eq_true rfl) hf (by decide) (by decide) (fun hno => ?_) ?_
    · rcases hr with ⟨x, g, e1, e2⟩ | e1
      · rw [e1]
        exact wr_i (pc := 9) (tgt := 18) C rfl dL_value_9 dL_value_10 dL_value_11 (by decide) dL_value_18 dL_value_19 e2 (by decide) (by decide) (fun t ht => ⟨_, _, rfl, ht, Or.inl ⟨_, g, Or.inr ⟨x, e1, rfl⟩, e2, rfl, rfl⟩⟩)
      · exact absurd e1 (hno _)
    · intro kx N' h1 h2 ls H locs q ce hl' hR' hf' hcell hv hcl
      rcases hr with ⟨x, g, e1, e2⟩ | e1
      · rw [e1] at h1; cases h1
      · rw [e1] at h1
        cases h1
        rw [xe_e0] at hcl
        exact vx_catch (own := RL) (name := xe_C0) (E := xe_C0) C.2.2.2.1 [] _ _ (htab.trans rfl) (fun z hz => nomatch hz) (by decide) (by decide) (C.2.2.2.2.1 _ lw_k0) (xe_c0 hE) hcell hv hcl (wr_h (pc := 14) C rfl dL_value_14 (by decide) dL_value_16 (by decide) dL_value_17 (by decide) (by decide) (fun t ht => ⟨1, _, rfl, ht, Or.inr ⟨0, N', e1, by decide, h2, rfl⟩⟩) ls H locs hl' hR' hf')
  exact (x_step (x_al dL_value_0) C (fun K => rfl) (x_step (x_iconst (v := 0) dL_value_2 (by decide)) C (fun K => rfl) (x_step (x_aln (i := 0) dL_value_3) C (fun K => rfl) (x_step (x_lln (i := 1) dL_value_4) C (fun K => rfl) (x_step (x_lln (i := 3) dL_value_5) C (fun K => rfl) (wc))))) : sd_W G p l e rm_L_value s m _ below meth c 7 _ (0, [(0, .ref A), (1, .long p0), (3, .long p1), (5, .ref D)], [], M, 0, 0)) _ _ [] hl hR (fun q hq => nomatch hq)
abbrev rm_L_over : Room := { frames := 7, cells := 6, slots := 157, locals := 206 }
theorem V_L_over {l : Launch} (hst : l.stackTraces = false) {G : me_G} {A D : Nat} {p0 : Int32} {p1 : Int32} {M : me_M} {r : sm_R} {fs : List Value} (hf : f_X6_over [.ref A, .int p0, .int p1] M = some r) (hA : me_obj M 6 A = some fs) (hr : (∃ (x : Int32) (g : Nat → Int64), r.1 = some (.int x) ∧ r.2.2 D = some (.inl (1, 1, .inr (.inl g)))) ∨ r.1 = some (.float 0)) :
    Met l yL_over (sh_ws yL_over cL_over 5 (some .int) [(0, 10, 13, 13)]) rm_L_over (xd_Pc G [.ref A, .int p0, .int p1, .ref D] M) (wq G r D (fun _ => 1)) rm_L_over.cells rm_L_over.slots (fun q => G.2.2.1 ≤ q) := by
  refine met_H (by decide +kernel) ?_
  intro p e s m args below meth c s₁ B hml hv
  obtain ⟨rfl, hR, hK, hE⟩ := hv
  have hts := atoms_spec (ws := sh_ws yL_over cL_over 5 (some .int) [(0, 10, 13, 13)]) B.pre
  have htab : c.exceptionTable.toList = tableOf [(0, 10, 13, 13)] := vx_table (l := l) (x := yL_over) B (hts _ List.mem_cons_self)
  have C : sd_C G p s m ([.ref A, .int p0, .int p1, .ref D] : List Value).toArray meth c yL_over cL_over 5 (some .int) := ⟨B.exec, B.bytes, hml, findClass_of_methodNamed B.named, fun w hw => hts w (List.mem_cons_of_mem _ hw), hK, B.notSynchronized, B.returns, (name_of_methodNamed B.named B.method).1⟩
  have hl := lv_entry [.ref A, .int p0, .int p1, .ref D] (n := 5) (Nat.le_of_ble_eq_true rfl)
  rw [lg_entry_eq]
  have wc : sd_W G p l e rm_L_over s m ([.ref A, .int p0, .int p1, .ref D] : List Value).toArray below meth c 5 (MQ below (wq G r D (fun _ => 1)) ([.ref A, .int p0, .int p1, .ref D] : List Value).toArray s rm_L_over.cells rm_L_over.slots (fun q => G.2.2.1 ≤ q)) (5, [(0, .ref A), (1, .int p0), (2, .int p1), (3, .ref D)], [.int p1, .int p0, .ref A, .int 0, .ref D], M, 0, 0) := by
    refine wr_call (as := [.int p0, .int p1]) (rest := [.int 0, .ref D]) (A := A) (ci := 6) C hst hE dL_over_5 V_X6_over w651 w652 w653 rfl (by decide) hA rfl (Nat.le_of_ble_eq_true rfl) hf (by decide) (by decide) (fun hno => ?_) ?_
    · rcases hr with ⟨x, g, e1, e2⟩ | e1
      · rw [e1]
        exact wr_i (pc := 8) (tgt := 17) C rfl dL_over_8 dL_over_9 dL_over_10 (by decide) dL_over_17 dL_over_18 e2 (by decide) (by decide) (fun t ht => ⟨_, _, rfl, ht, Or.inl ⟨_, g, Or.inr ⟨x, e1, rfl⟩, e2, rfl, rfl⟩⟩)
      · exact absurd e1 (hno _)
    · intro kx N' h1 h2 ls H locs q ce hl' hR' hf' hcell hv hcl
      rcases hr with ⟨x, g, e1, e2⟩ | e1
      · rw [e1] at h1; cases h1
      · rw [e1] at h1
        cases h1
        rw [xe_e0] at hcl
        exact vx_catch (own := RL) (name := xe_C0) (E := xe_C0) C.2.2.2.1 [] _ _ (htab.trans rfl) (fun z hz => nomatch hz) (by decide) (by decide) (C.2.2.2.2.1 _ lw_k0) (xe_c0 hE) hcell hv hcl (wr_h (pc := 13) C rfl dL_over_13 (by decide) dL_over_15 (by decide) dL_over_16 (by decide) (by decide) (fun t ht => ⟨1, _, rfl, ht, Or.inr ⟨0, N', e1, by decide, h2, rfl⟩⟩) ls H locs hl' hR' hf')
  exact (x_step (x_aln (i := 3) dL_over_0) C (fun K => rfl) (x_step (x_iconst (v := 0) dL_over_1 (by decide)) C (fun K => rfl) (x_step (x_aln (i := 0) dL_over_2) C (fun K => rfl) (x_step (x_iln (i := 1) dL_over_3) C (fun K => rfl) (x_step (x_iln (i := 2) dL_over_4) C (fun K => rfl) (wc))))) : sd_W G p l e rm_L_over s m _ below meth c 5 _ (0, [(0, .ref A), (1, .int p0), (2, .int p1), (3, .ref D)], [], M, 0, 0)) _ _ [] hl hR (fun q hq => nomatch hq)
abbrev rm_L_rest : Room := { frames := 7, cells := 6, slots := 157, locals := 206 }
theorem V_L_rest {l : Launch} (hst : l.stackTraces = false) {G : me_G} {A D : Nat} {p0 : Int32} {p1 : Int32} {M : me_M} {r : sm_R} {fs : List Value} (hf : f_X6_rest [.ref A, .int p0, .int p1] M = some r) (hA : me_obj M 6 A = some fs) (hr : (∃ (x : Int32) (g : Nat → Int64), r.1 = some (.int x) ∧ r.2.2 D = some (.inl (1, 1, .inr (.inl g)))) ∨ r.1 = some (.float 0)) :
    Met l yL_rest (sh_ws yL_rest cL_rest 5 (some .int) [(0, 10, 13, 13)]) rm_L_rest (xd_Pc G [.ref A, .int p0, .int p1, .ref D] M) (wq G r D (fun _ => 1)) rm_L_rest.cells rm_L_rest.slots (fun q => G.2.2.1 ≤ q) := by
  refine met_H (by decide +kernel) ?_
  intro p e s m args below meth c s₁ B hml hv
  obtain ⟨rfl, hR, hK, hE⟩ := hv
  have hts := atoms_spec (ws := sh_ws yL_rest cL_rest 5 (some .int) [(0, 10, 13, 13)]) B.pre
  have htab : c.exceptionTable.toList = tableOf [(0, 10, 13, 13)] := vx_table (l := l) (x := yL_rest) B (hts _ List.mem_cons_self)
  have C : sd_C G p s m ([.ref A, .int p0, .int p1, .ref D] : List Value).toArray meth c yL_rest cL_rest 5 (some .int) := ⟨B.exec, B.bytes, hml, findClass_of_methodNamed B.named, fun w hw => hts w (List.mem_cons_of_mem _ hw), hK, B.notSynchronized, B.returns, (name_of_methodNamed B.named B.method).1⟩
  have hl := lv_entry [.ref A, .int p0, .int p1, .ref D] (n := 5) (Nat.le_of_ble_eq_true rfl)
  rw [lg_entry_eq]
  have wc : sd_W G p l e rm_L_rest s m ([.ref A, .int p0, .int p1, .ref D] : List Value).toArray below meth c 5 (MQ below (wq G r D (fun _ => 1)) ([.ref A, .int p0, .int p1, .ref D] : List Value).toArray s rm_L_rest.cells rm_L_rest.slots (fun q => G.2.2.1 ≤ q)) (5, [(0, .ref A), (1, .int p0), (2, .int p1), (3, .ref D)], [.int p1, .int p0, .ref A, .int 0, .ref D], M, 0, 0) := by
    refine wr_call (as := [.int p0, .int p1]) (rest := [.int 0, .ref D]) (A := A) (ci := 6) C hst hE dL_rest_5 V_X6_rest w659 w660 w661 rfl (by decide) hA rfl (Nat.le_of_ble_eq_true rfl) hf (by decide) (by decide) (fun hno => ?_) ?_
    · rcases hr with ⟨x, g, e1, e2⟩ | e1
      · rw [e1]
        exact wr_i (pc := 8) (tgt := 17) C rfl dL_rest_8 dL_rest_9 dL_rest_10 (by decide) dL_rest_17 dL_rest_18 e2 (by decide) (by decide) (fun t ht => ⟨_, _, rfl, ht, Or.inl ⟨_, g, Or.inr ⟨x, e1, rfl⟩, e2, rfl, rfl⟩⟩)
      · exact absurd e1 (hno _)
    · intro kx N' h1 h2 ls H locs q ce hl' hR' hf' hcell hv hcl
      rcases hr with ⟨x, g, e1, e2⟩ | e1
      · rw [e1] at h1; cases h1
      · rw [e1] at h1
        cases h1
        rw [xe_e0] at hcl
        exact vx_catch (own := RL) (name := xe_C0) (E := xe_C0) C.2.2.2.1 [] _ _ (htab.trans rfl) (fun z hz => nomatch hz) (by decide) (by decide) (C.2.2.2.2.1 _ lw_k0) (xe_c0 hE) hcell hv hcl (wr_h (pc := 13) C rfl dL_rest_13 (by decide) dL_rest_15 (by decide) dL_rest_16 (by decide) (by decide) (fun t ht => ⟨1, _, rfl, ht, Or.inr ⟨0, N', e1, by decide, h2, rfl⟩⟩) ls H locs hl' hR' hf')
  exact (x_step (x_aln (i := 3) dL_rest_0) C (fun K => rfl) (x_step (x_iconst (v := 0) dL_rest_1 (by decide)) C (fun K => rfl) (x_step (x_aln (i := 0) dL_rest_2) C (fun K => rfl) (x_step (x_iln (i := 1) dL_rest_3) C (fun K => rfl) (x_step (x_iln (i := 2) dL_rest_4) C (fun K => rfl) (wc))))) : sd_W G p l e rm_L_rest s m _ below meth c 5 _ (0, [(0, .ref A), (1, .int p0), (2, .int p1), (3, .ref D)], [], M, 0, 0)) _ _ [] hl hR (fun q hq => nomatch hq)
abbrev rm_L_part : Room := { frames := 7, cells := 2, slots := 12, locals := 114 }
theorem V_L_part {l : Launch} (hst : l.stackTraces = false) {G : me_G} {A D : Nat} {p0 : Int32} {p1 : Int32} {M : me_M} {r : sm_R} {fs : List Value} (hf : f_X6_part [.ref A, .int p0, .int p1] M = some r) (hA : me_obj M 6 A = some fs) (hr : (∃ (x : Int64) (g : Nat → Int64), r.1 = some (.long x) ∧ r.2.2 D = some (.inl (1, 1, .inr (.inl g)))) ∨ r.1 = some (.float 1) ∨ r.1 = some (.float 0)) :
    Met l yL_part (sh_ws yL_part cL_part 5 (some .int) [(0, 9, 12, 26), (0, 9, 16, 13)]) rm_L_part (xd_Pc G [.ref A, .int p0, .int p1, .ref D] M) (wq G r D (fun k => if k = 1 then 1 else 2)) rm_L_part.cells rm_L_part.slots (fun q => G.2.2.1 ≤ q) := by
  refine met_H (by decide +kernel) ?_
  intro p e s m args below meth c s₁ B hml hv
  obtain ⟨rfl, hR, hK, hE⟩ := hv
  have hts := atoms_spec (ws := sh_ws yL_part cL_part 5 (some .int) [(0, 9, 12, 26), (0, 9, 16, 13)]) B.pre
  have htab : c.exceptionTable.toList = tableOf [(0, 9, 12, 26), (0, 9, 16, 13)] := vx_table (l := l) (x := yL_part) B (hts _ List.mem_cons_self)
  have C : sd_C G p s m ([.ref A, .int p0, .int p1, .ref D] : List Value).toArray meth c yL_part cL_part 5 (some .int) := ⟨B.exec, B.bytes, hml, findClass_of_methodNamed B.named, fun w hw => hts w (List.mem_cons_of_mem _ hw), hK, B.notSynchronized, B.returns, (name_of_methodNamed B.named B.method).1⟩
  have hl := lv_entry [.ref A, .int p0, .int p1, .ref D] (n := 5) (Nat.le_of_ble_eq_true rfl)
  rw [lg_entry_eq]
  have wc : sd_W G p l e rm_L_part s m ([.ref A, .int p0, .int p1, .ref D] : List Value).toArray below meth c 5 (MQ below (wq G r D (fun k => if k = 1 then 1 else 2)) ([.ref A, .int p0, .int p1, .ref D] : List Value).toArray s rm_L_part.cells rm_L_part.slots (fun q => G.2.2.1 ≤ q)) (5, [(0, .ref A), (1, .int p0), (2, .int p1), (3, .ref D)], [.int p1, .int p0, .ref A, .int 0, .ref D], M, 0, 0) := by
    refine wr_call (as := [.int p0, .int p1]) (rest := [.int 0, .ref D]) (A := A) (ci := 6) C hst hE dL_part_5 V_X6_part w671 w672 w673 rfl (by decide) hA rfl (Nat.le_of_ble_eq_true rfl) hf (by decide) (by decide) (fun hno => ?_) ?_
    · rcases hr with ⟨x, g, e1, e2⟩ | e1 | e1
      · rw [e1]
        exact wr_l (pc := 8) (tgt := 20) C rfl dL_part_8 dL_part_9 (by decide) dL_part_20 dL_part_21 e2 (by decide) (by decide) (fun t ht => ⟨_, _, rfl, ht, Or.inl ⟨x, g, Or.inl e1, e2, rfl, rfl⟩⟩)
      · exact absurd e1 (hno _)
      · exact absurd e1 (hno _)
    · intro kx N' h1 h2 ls H locs q ce hl' hR' hf' hcell hv hcl
      rcases hr with ⟨x, g, e1, e2⟩ | e1 | e1
      · rw [e1] at h1; cases h1
      · rw [e1] at h1
        cases h1
        rw [xe_e1] at hcl
        exact vx_catch (own := RL) (name := xe_C1) (E := xe_C1) C.2.2.2.1 [] _ _ (htab.trans rfl) (fun z hz => nomatch hz) (by decide) (by decide) (C.2.2.2.2.1 _ lw_k1) (xe_c1 hE) hcell hv hcl (wr_h (pc := 12) C rfl dL_part_12 (by decide) dL_part_14 (by decide) dL_part_15 (by decide) (by decide) (fun t ht => ⟨1, _, rfl, ht, Or.inr ⟨1, N', e1, by decide, h2, rfl⟩⟩) ls H locs hl' hR' hf')
      · rw [e1] at h1
        cases h1
        rw [xe_e0] at hcl
        exact vx_catch (own := RL) (name := xe_C0) (E := xe_C0) C.2.2.2.1 [_] _ _ (htab.trans rfl) (fun z hz => by rw [List.mem_singleton.mp hz]; exact Or.inr ⟨by decide, xe_C1, C.2.2.2.2.1 _ lw_k1, hE.2.2.2.2.2.1⟩) (by decide) (by decide) (C.2.2.2.2.1 _ lw_k0) (xe_c0 hE) hcell hv hcl (wr_h (pc := 16) C rfl dL_part_16 (by decide) dL_part_18 (by decide) dL_part_19 (by decide) (by decide) (fun t ht => ⟨2, _, rfl, ht, Or.inr ⟨0, N', e1, by decide, h2, rfl⟩⟩) ls H locs hl' hR' hf')
  exact (x_step (x_aln (i := 3) dL_part_0) C (fun K => rfl) (x_step (x_iconst (v := 0) dL_part_1 (by decide)) C (fun K => rfl) (x_step (x_aln (i := 0) dL_part_2) C (fun K => rfl) (x_step (x_iln (i := 1) dL_part_3) C (fun K => rfl) (x_step (x_iln (i := 2) dL_part_4) C (fun K => rfl) (wc))))) : sd_W G p l e rm_L_part s m _ below meth c 5 _ (0, [(0, .ref A), (1, .int p0), (2, .int p1), (3, .ref D)], [], M, 0, 0)) _ _ [] hl hR (fun q hq => nomatch hq)
abbrev rm_L_limb : Room := { frames := 8, cells := 2, slots := 12, locals := 127 }
theorem V_L_limb {l : Launch} (hst : l.stackTraces = false) {G : me_G} {A D : Nat} {p0 : Int32} {p1 : Int32} {p2 : Int32} {M : me_M} {r : sm_R} {fs : List Value} (hf : f_X6_limb [.ref A, .int p0, .int p1, .int p2] M = some r) (hA : me_obj M 6 A = some fs) (hr : (∃ (x : Int32) (g : Nat → Int64), r.1 = some (.int x) ∧ r.2.2 D = some (.inl (1, 1, .inr (.inl g)))) ∨ r.1 = some (.float 1) ∨ r.1 = some (.float 2)) :
    Met l yL_limb (sh_ws yL_limb cL_limb 6 (some .int) [(0, 12, 15, 26), (0, 12, 19, 32)]) rm_L_limb (xd_Pc G [.ref A, .int p0, .int p1, .int p2, .ref D] M) (wq G r D (fun k => if k = 1 then 1 else 2)) rm_L_limb.cells rm_L_limb.slots (fun q => G.2.2.1 ≤ q) := by
  refine met_H (by decide +kernel) ?_
  intro p e s m args below meth c s₁ B hml hv
  obtain ⟨rfl, hR, hK, hE⟩ := hv
  have hts := atoms_spec (ws := sh_ws yL_limb cL_limb 6 (some .int) [(0, 12, 15, 26), (0, 12, 19, 32)]) B.pre
  have htab : c.exceptionTable.toList = tableOf [(0, 12, 15, 26), (0, 12, 19, 32)] := vx_table (l := l) (x := yL_limb) B (hts _ List.mem_cons_self)
  have C : sd_C G p s m ([.ref A, .int p0, .int p1, .int p2, .ref D] : List Value).toArray meth c yL_limb cL_limb 6 (some .int) := ⟨B.exec, B.bytes, hml, findClass_of_methodNamed B.named, fun w hw => hts w (List.mem_cons_of_mem _ hw), hK, B.notSynchronized, B.returns, (name_of_methodNamed B.named B.method).1⟩
  have hl := lv_entry [.ref A, .int p0, .int p1, .int p2, .ref D] (n := 6) (Nat.le_of_ble_eq_true rfl)
  rw [lg_entry_eq]
  have wc : sd_W G p l e rm_L_limb s m ([.ref A, .int p0, .int p1, .int p2, .ref D] : List Value).toArray below meth c 6 (MQ below (wq G r D (fun k => if k = 1 then 1 else 2)) ([.ref A, .int p0, .int p1, .int p2, .ref D] : List Value).toArray s rm_L_limb.cells rm_L_limb.slots (fun q => G.2.2.1 ≤ q)) (7, [(0, .ref A), (1, .int p0), (2, .int p1), (3, .int p2), (4, .ref D)], [.int p2, .int p1, .int p0, .ref A, .int 0, .ref D], M, 0, 0) := by
    refine wr_call (as := [.int p0, .int p1, .int p2]) (rest := [.int 0, .ref D]) (A := A) (ci := 6) C hst hE dL_limb_7 V_X6_limb w720 w721 w722 rfl (by decide) hA rfl (Nat.le_of_ble_eq_true rfl) hf (by decide) (by decide) (fun hno => ?_) ?_
    · rcases hr with ⟨x, g, e1, e2⟩ | e1 | e1
      · rw [e1]
        exact wr_i (pc := 10) (tgt := 23) C rfl dL_limb_10 dL_limb_11 dL_limb_12 (by decide) dL_limb_23 dL_limb_24 e2 (by decide) (by decide) (fun t ht => ⟨_, _, rfl, ht, Or.inl ⟨_, g, Or.inr ⟨x, e1, rfl⟩, e2, rfl, rfl⟩⟩)
      · exact absurd e1 (hno _)
      · exact absurd e1 (hno _)
    · intro kx N' h1 h2 ls H locs q ce hl' hR' hf' hcell hv hcl
      rcases hr with ⟨x, g, e1, e2⟩ | e1 | e1
      · rw [e1] at h1; cases h1
      · rw [e1] at h1
        cases h1
        rw [xe_e1] at hcl
        exact vx_catch (own := RL) (name := xe_C1) (E := xe_C1) C.2.2.2.1 [] _ _ (htab.trans rfl) (fun z hz => nomatch hz) (by decide) (by decide) (C.2.2.2.2.1 _ lw_k1) (xe_c1 hE) hcell hv hcl (wr_h (pc := 15) C rfl dL_limb_15 (by decide) dL_limb_17 (by decide) dL_limb_18 (by decide) (by decide) (fun t ht => ⟨1, _, rfl, ht, Or.inr ⟨1, N', e1, by decide, h2, rfl⟩⟩) ls H locs hl' hR' hf')
      · rw [e1] at h1
        cases h1
        rw [xe_e2] at hcl
        exact vx_catch (own := RL) (name := xe_C2) (E := xe_C2) C.2.2.2.1 [_] _ _ (htab.trans rfl) (fun z hz => by rw [List.mem_singleton.mp hz]; exact Or.inr ⟨by decide, xe_C1, C.2.2.2.2.1 _ lw_k1, hE.2.2.2.2.2.2⟩) (by decide) (by decide) (C.2.2.2.2.1 _ lw_k2) (xe_c2 hE) hcell hv hcl (wr_h (pc := 19) C rfl dL_limb_19 (by decide) dL_limb_21 (by decide) dL_limb_22 (by decide) (by decide) (fun t ht => ⟨2, _, rfl, ht, Or.inr ⟨2, N', e1, by decide, h2, rfl⟩⟩) ls H locs hl' hR' hf')
  exact (x_step (x_al dL_limb_0) C (fun K => rfl) (x_step (x_iconst (v := 0) dL_limb_2 (by decide)) C (fun K => rfl) (x_step (x_aln (i := 0) dL_limb_3) C (fun K => rfl) (x_step (x_iln (i := 1) dL_limb_4) C (fun K => rfl) (x_step (x_iln (i := 2) dL_limb_5) C (fun K => rfl) (x_step (x_iln (i := 3) dL_limb_6) C (fun K => rfl) (wc)))))) : sd_W G p l e rm_L_limb s m _ below meth c 6 _ (0, [(0, .ref A), (1, .int p0), (2, .int p1), (3, .int p2), (4, .ref D)], [], M, 0, 0)) _ _ [] hl hR (fun q hq => nomatch hq)
abbrev rm_L_exact : Room := { frames := 8, cells := 9, slots := 54, locals := 140 }
theorem V_L_exact {l : Launch} (hst : l.stackTraces = false) {G : me_G} {A D : Nat} {p0 : Int32} {p1 : Int64} {p2 : Int64} {M : me_M} {r : sm_R} {fs : List Value} (hf : f_X6_exact [.ref A, .int p0, .long p1, .long p2] M = some r) (hA : me_obj M 6 A = some fs) (hr : (∃ (x : Int64) (g : Nat → Int64), r.1 = some (.long x) ∧ r.2.2 D = some (.inl (1, 1, .inr (.inl g)))) ∨ r.1 = some (.float 1) ∨ r.1 = some (.float 0)) :
    Met l yL_exact (sh_ws yL_exact cL_exact 8 (some .int) [(0, 12, 15, 26), (0, 12, 19, 13)]) rm_L_exact (xd_Pc G [.ref A, .int p0, .long p1, .long p2, .ref D] M) (wq G r D (fun k => if k = 1 then 1 else 2)) rm_L_exact.cells rm_L_exact.slots (fun q => G.2.2.1 ≤ q) := by
  refine met_H (by decide +kernel) ?_
  intro p e s m args below meth c s₁ B hml hv
  obtain ⟨rfl, hR, hK, hE⟩ := hv
  have hts := atoms_spec (ws := sh_ws yL_exact cL_exact 8 (some .int) [(0, 12, 15, 26), (0, 12, 19, 13)]) B.pre
  have htab : c.exceptionTable.toList = tableOf [(0, 12, 15, 26), (0, 12, 19, 13)] := vx_table (l := l) (x := yL_exact) B (hts _ List.mem_cons_self)
  have C : sd_C G p s m ([.ref A, .int p0, .long p1, .long p2, .ref D] : List Value).toArray meth c yL_exact cL_exact 8 (some .int) := ⟨B.exec, B.bytes, hml, findClass_of_methodNamed B.named, fun w hw => hts w (List.mem_cons_of_mem _ hw), hK, B.notSynchronized, B.returns, (name_of_methodNamed B.named B.method).1⟩
  have hl := lv_entry [.ref A, .int p0, .long p1, .long p2, .ref D] (n := 8) (Nat.le_of_ble_eq_true rfl)
  rw [lg_entry_eq]
  have wc : sd_W G p l e rm_L_exact s m ([.ref A, .int p0, .long p1, .long p2, .ref D] : List Value).toArray below meth c 8 (MQ below (wq G r D (fun k => if k = 1 then 1 else 2)) ([.ref A, .int p0, .long p1, .long p2, .ref D] : List Value).toArray s rm_L_exact.cells rm_L_exact.slots (fun q => G.2.2.1 ≤ q)) (8, [(0, .ref A), (1, .int p0), (2, .long p1), (4, .long p2), (6, .ref D)], [.long p2, .long p1, .int p0, .ref A, .int 0, .ref D], M, 0, 0) := by
    refine wr_call (as := [.int p0, .long p1, .long p2]) (rest := [.int 0, .ref D]) (A := A) (ci := 6) C hst hE dL_exact_8 V_X6_exact w734 w735 w736 rfl (by decide) hA rfl (Nat.le_of_ble_eq_true rfl) hf (by decide) (by decide) (fun hno => ?_) ?_
    · rcases hr with ⟨x, g, e1, e2⟩ | e1 | e1
      · rw [e1]
        exact wr_l (pc := 11) (tgt := 23) C rfl dL_exact_11 dL_exact_12 (by decide) dL_exact_23 dL_exact_24 e2 (by decide) (by decide) (fun t ht => ⟨_, _, rfl, ht, Or.inl ⟨x, g, Or.inl e1, e2, rfl, rfl⟩⟩)
      · exact absurd e1 (hno _)
      · exact absurd e1 (hno _)
    · intro kx N' h1 h2 ls H locs q ce hl' hR' hf' hcell hv hcl
      rcases hr with ⟨x, g, e1, e2⟩ | e1 | e1
      · rw [e1] at h1; cases h1
      · rw [e1] at h1
        cases h1
        rw [xe_e1] at hcl
        exact vx_catch (own := RL) (name := xe_C1) (E := xe_C1) C.2.2.2.1 [] _ _ (htab.trans rfl) (fun z hz => nomatch hz) (by decide) (by decide) (C.2.2.2.2.1 _ lw_k1) (xe_c1 hE) hcell hv hcl (wr_h (pc := 15) C rfl dL_exact_15 (by decide) dL_exact_17 (by decide) dL_exact_18 (by decide) (by decide) (fun t ht => ⟨1, _, rfl, ht, Or.inr ⟨1, N', e1, by decide, h2, rfl⟩⟩) ls H locs hl' hR' hf')
      · rw [e1] at h1
        cases h1
        rw [xe_e0] at hcl
        exact vx_catch (own := RL) (name := xe_C0) (E := xe_C0) C.2.2.2.1 [_] _ _ (htab.trans rfl) (fun z hz => by rw [List.mem_singleton.mp hz]; exact Or.inr ⟨by decide, xe_C1, C.2.2.2.2.1 _ lw_k1, hE.2.2.2.2.2.1⟩) (by decide) (by decide) (C.2.2.2.2.1 _ lw_k0) (xe_c0 hE) hcell hv hcl (wr_h (pc := 19) C rfl dL_exact_19 (by decide) dL_exact_21 (by decide) dL_exact_22 (by decide) (by decide) (fun t ht => ⟨2, _, rfl, ht, Or.inr ⟨0, N', e1, by decide, h2, rfl⟩⟩) ls H locs hl' hR' hf')
  exact (x_step (x_al dL_exact_0) C (fun K => rfl) (x_step (x_iconst (v := 0) dL_exact_2 (by decide)) C (fun K => rfl) (x_step (x_aln (i := 0) dL_exact_3) C (fun K => rfl) (x_step (x_iln (i := 1) dL_exact_4) C (fun K => rfl) (x_step (x_lln (i := 2) dL_exact_5) C (fun K => rfl) (x_step (x_ll dL_exact_6) C (fun K => rfl) (wc)))))) : sd_W G p l e rm_L_exact s m _ below meth c 8 _ (0, [(0, .ref A), (1, .int p0), (2, .long p1), (4, .long p2), (6, .ref D)], [], M, 0, 0)) _ _ [] hl hR (fun q hq => nomatch hq)
