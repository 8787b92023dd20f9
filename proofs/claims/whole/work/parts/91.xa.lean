/-! the steps' soundness for any end: what lies behind a step is free -/
def xd_S (y : MethodName) (cc : ByteArray) (nL : Nat) (ret : Option FieldType) (rm : Room) (pc : Nat) (f : sm_F) : Prop :=
  ok_F f ∧ ∀ (G : me_G) (p : Program) (l : Launch) (e : Env) (s : State) (m : MethodId) (args : Array Value) (below : List Frame) (meth : Method) (c : Code), sd_C G p s m args meth c y cc nL ret →
    ∀ (Q : sm_R → State → Prop) (lo : sm_L) (stk : List Value) (M : me_M) (k n : Nat) (K : sm_K) (r : sm_R), f lo stk M k n K = some r → (∀ st', K st' = some r → sd_W G p l e rm s m args below meth c nL (Q r) st') →
      sd_W G p l e rm s m args below meth c nL (Q r) (pc, lo, stk, M, k, n)
section XD
variable {y : MethodName} {cc : ByteArray} {nL : Nat} {ret : Option FieldType} {rm : Room} {pc : Nat}
theorem x_w {W : List (Nat × List Nat)} {f : sm_F} (h : xd_S y cc nL ret rm pc f) : xd_S y cc nL ret rm pc (i_w W f) := by
  refine ⟨fun lo stk M k n => ?_, fun G p l e s m args below meth c C Q lo stk M k n K r hf hK => ?_⟩
  · rcases h.1 lo stk M k n with ⟨st, he⟩ | ⟨x, he⟩
    · exact Or.inl ⟨i_wl W st, fun K => he _⟩
    · exact Or.inr ⟨x, fun K => he _⟩
  · refine h.2 G p l e s m args below meth c C Q lo stk M k n _ r hf (fun st' hs => ?_)
    have h1 := hK _ hs
    unfold i_wl at h1
    split at h1
    · intro ls H locs hl hR hf
      exact h1 ls H locs ⟨hl.1, hl.2.1, fun q hq => hl.2.2 q (List.mem_filter.mp hq).1⟩ hR hf
    · exact h1
theorem x_iconst {n : Int} {v : Int32} (d : decode cc pc = .ok (.iconst n, 1)) (hv : Int32.ofInt n = v) : xd_S y cc nL ret rm pc (i_c (.int v) (pc + 1)) := by
  refine ⟨fun lo stk M k n => ?_, fun G p l e s m args below meth c C Q lo stk M k n K r h hK => ?_⟩
  · exact ok_K _
  · obtain ⟨hx, hb, hml, hown, hts, hKK, hlk, hrt, hnm⟩ := C
    intro ls H locs hl hR hf
    exact lv_iconst hx hb d hv (hK _ h ls H locs hl hR hf)
theorem x_bipush {n : Int} {v : Int32} (d : decode cc pc = .ok (.bipush n, 2)) (hv : (Int8.ofInt n).toInt32 = v) : xd_S y cc nL ret rm pc (i_c (.int v) (pc + 2)) := by
  refine ⟨fun lo stk M k n => ?_, fun G p l e s m args below meth c C Q lo stk M k n K r h hK => ?_⟩
  · exact ok_K _
  · obtain ⟨hx, hb, hml, hown, hts, hKK, hlk, hrt, hnm⟩ := C
    intro ls H locs hl hR hf
    exact lv_bipush hx hb d hv (hK _ h ls H locs hl hR hf)
theorem x_sipush {n : Int} {v : Int32} (d : decode cc pc = .ok (.sipush n, 3)) (hv : (Int16.ofInt n).toInt32 = v) : xd_S y cc nL ret rm pc (i_c (.int v) (pc + 3)) := by
  refine ⟨fun lo stk M k n => ?_, fun G p l e s m args below meth c C Q lo stk M k n K r h hK => ?_⟩
  · exact ok_K _
  · obtain ⟨hx, hb, hml, hown, hts, hKK, hlk, hrt, hnm⟩ := C
    intro ls H locs hl hR hf
    exact lv_sipush hx hb d hv (hK _ h ls H locs hl hR hf)
theorem x_lconst {n : Fin 2} {v : Int64} (d : decode cc pc = .ok (.lconst n, 1)) (hv : Int64.ofNat (n : Nat) = v) : xd_S y cc nL ret rm pc (i_c (.long v) (pc + 1)) := by
  refine ⟨fun lo stk M k n => ?_, fun G p l e s m args below meth c C Q lo stk M k n K r h hK => ?_⟩
  · exact ok_K _
  · obtain ⟨hx, hb, hml, hown, hts, hKK, hlk, hrt, hnm⟩ := C
    intro ls H locs hl hR hf
    exact lv_lconst hx hb d hv (hK _ h ls H locs hl hR hf)
theorem x_null (d : decode cc pc = .ok (.aconst_null, 1)) : xd_S y cc nL ret rm pc (i_c .null (pc + 1)) := by
  refine ⟨fun lo stk M k n => ?_, fun G p l e s m args below meth c C Q lo stk M k n K r h hK => ?_⟩
  · exact ok_K _
  · obtain ⟨hx, hb, hml, hown, hts, hKK, hlk, hrt, hnm⟩ := C
    intro ls H locs hl hR hf
    exact lv_null hx hb d (hK _ h ls H locs hl hR hf)
theorem x_ldc {ix : Nat} {v : Int32} (d : decode cc pc = .ok (.ldc ix, 2)) (w : Cond.constant y.cls ix v ∈ me_w) : xd_S y cc nL ret rm pc (i_c (.int v) (pc + 2)) := by
  refine ⟨fun lo stk M k n => ?_, fun G p l e s m args below meth c C Q lo stk M k n K r h hK => ?_⟩
  · exact ok_K _
  · obtain ⟨hx, hb, hml, hown, hts, hKK, hlk, hrt, hnm⟩ := C
    intro ls H locs hl hR hf
    exact lv_ldc hx hb hown (hts _ w) d (hK _ h ls H locs hl hR hf)
theorem x_ldcw {ix : Nat} {v : Int32} (d : decode cc pc = .ok (.ldc_w ix, 3)) (w : Cond.constant y.cls ix v ∈ me_w) : xd_S y cc nL ret rm pc (i_c (.int v) (pc + 3)) := by
  refine ⟨fun lo stk M k n => ?_, fun G p l e s m args below meth c C Q lo stk M k n K r h hK => ?_⟩
  · exact ok_K _
  · obtain ⟨hx, hb, hml, hown, hts, hKK, hlk, hrt, hnm⟩ := C
    intro ls H locs hl hR hf
    exact lv_ldcw hx hb hown (hts _ w) d (hK _ h ls H locs hl hR hf)
theorem x_ldc2 {ix : Nat} {v : Int64} (d : decode cc pc = .ok (.ldc2_w ix, 3)) (w : Cond.constantLong y.cls ix v ∈ me_w) : xd_S y cc nL ret rm pc (i_c (.long v) (pc + 3)) := by
  refine ⟨fun lo stk M k n => ?_, fun G p l e s m args below meth c C Q lo stk M k n K r h hK => ?_⟩
  · exact ok_K _
  · obtain ⟨hx, hb, hml, hown, hts, hKK, hlk, hrt, hnm⟩ := C
    intro ls H locs hl hR hf
    exact lv_ldc2 hx hb hown (hts _ w) d (hK _ h ls H locs hl hR hf)
theorem x_il {i : Nat} (d : decode cc pc = .ok (.iload i, 2)) : xd_S y cc nL ret rm pc (i_il i (pc + 2)) := by
  refine ⟨fun lo stk M k n => ?_, fun G p l e s m args below meth c C Q lo stk M k n K r h hK => ?_⟩
  · exact ok_b _ fun _ => ok_b _ fun _ => ok_K _
  · obtain ⟨hx, hb, hml, hown, hts, hKK, hlk, hrt, hnm⟩ := C
    obtain ⟨v, hv, hA⟩ := Option.bind_eq_some_iff.mp h
    obtain ⟨x, hx2, hB⟩ := Option.bind_eq_some_iff.mp hA
    cases v_int_eq hx2
    intro ls H locs hl hR hf
    exact lv_iload hx hb d (hl.2.2 _ (lo_in hv)) (hK _ hB ls H locs hl hR hf)
theorem x_iln {i : Fin 4} (d : decode cc pc = .ok (.iload_n i, 1)) : xd_S y cc nL ret rm pc (i_il i.val (pc + 1)) := by
  refine ⟨fun lo stk M k n => ?_, fun G p l e s m args below meth c C Q lo stk M k n K r h hK => ?_⟩
  · exact ok_b _ fun _ => ok_b _ fun _ => ok_K _
  · obtain ⟨hx, hb, hml, hown, hts, hKK, hlk, hrt, hnm⟩ := C
    obtain ⟨v, hv, hA⟩ := Option.bind_eq_some_iff.mp h
    obtain ⟨x, hx2, hB⟩ := Option.bind_eq_some_iff.mp hA
    cases v_int_eq hx2
    intro ls H locs hl hR hf
    exact lv_iload_n hx hb d rfl (hl.2.2 _ (lo_in hv)) (hK _ hB ls H locs hl hR hf)
theorem x_ll {i : Nat} (d : decode cc pc = .ok (.lload i, 2)) : xd_S y cc nL ret rm pc (i_ll i (pc + 2)) := by
  refine ⟨fun lo stk M k n => ?_, fun G p l e s m args below meth c C Q lo stk M k n K r h hK => ?_⟩
  · exact ok_b _ fun _ => ok_b _ fun _ => ok_K _
  · obtain ⟨hx, hb, hml, hown, hts, hKK, hlk, hrt, hnm⟩ := C
    obtain ⟨v, hv, hA⟩ := Option.bind_eq_some_iff.mp h
    obtain ⟨x, hx2, hB⟩ := Option.bind_eq_some_iff.mp hA
    cases v_long_eq hx2
    intro ls H locs hl hR hf
    exact lv_lload hx hb d (hl.2.2 _ (lo_in hv)) (hK _ hB ls H locs hl hR hf)
theorem x_lln {i : Fin 4} (d : decode cc pc = .ok (.lload_n i, 1)) : xd_S y cc nL ret rm pc (i_ll i.val (pc + 1)) := by
  refine ⟨fun lo stk M k n => ?_, fun G p l e s m args below meth c C Q lo stk M k n K r h hK => ?_⟩
  · exact ok_b _ fun _ => ok_b _ fun _ => ok_K _
  · obtain ⟨hx, hb, hml, hown, hts, hKK, hlk, hrt, hnm⟩ := C
    obtain ⟨v, hv, hA⟩ := Option.bind_eq_some_iff.mp h
    obtain ⟨x, hx2, hB⟩ := Option.bind_eq_some_iff.mp hA
    cases v_long_eq hx2
    intro ls H locs hl hR hf
    exact lv_lload_n hx hb d rfl (hl.2.2 _ (lo_in hv)) (hK _ hB ls H locs hl hR hf)
theorem x_al {i : Nat} (d : decode cc pc = .ok (.aload i, 2)) : xd_S y cc nL ret rm pc (i_al i (pc + 2)) := by
  refine ⟨fun lo stk M k n => ?_, fun G p l e s m args below meth c C Q lo stk M k n K r h hK => ?_⟩
  · exact ok_b _ fun _ => ok_b _ fun _ => ok_K _
  · obtain ⟨hx, hb, hml, hown, hts, hKK, hlk, hrt, hnm⟩ := C
    obtain ⟨v, hv, hA⟩ := Option.bind_eq_some_iff.mp h
    obtain ⟨x, hx2, hB⟩ := Option.bind_eq_some_iff.mp hA
    have e := v_rn_eq hx2
    subst e
    intro ls H locs hl hR hf
    cases x with
    | none => exact lv_aloadN hx hb d (hl.2.2 _ (lo_in hv)) (hK _ hB ls H locs hl hR hf)
    | some a => exact lv_aload hx hb d (hl.2.2 _ (lo_in hv)) (hK _ hB ls H locs hl hR hf)
theorem x_aln {i : Fin 4} (d : decode cc pc = .ok (.aload_n i, 1)) : xd_S y cc nL ret rm pc (i_al i.val (pc + 1)) := by
  refine ⟨fun lo stk M k n => ?_, fun G p l e s m args below meth c C Q lo stk M k n K r h hK => ?_⟩
  · exact ok_b _ fun _ => ok_b _ fun _ => ok_K _
  · obtain ⟨hx, hb, hml, hown, hts, hKK, hlk, hrt, hnm⟩ := C
    obtain ⟨v, hv, hA⟩ := Option.bind_eq_some_iff.mp h
    obtain ⟨x, hx2, hB⟩ := Option.bind_eq_some_iff.mp hA
    have e := v_rn_eq hx2
    subst e
    intro ls H locs hl hR hf
    cases x with
    | none => exact lv_aload_nN hx hb d rfl (hl.2.2 _ (lo_in hv)) (hK _ hB ls H locs hl hR hf)
    | some a => exact lv_aload_n hx hb d rfl (hl.2.2 _ (lo_in hv)) (hK _ hB ls H locs hl hR hf)
theorem x_is {i : Nat} (d : decode cc pc = .ok (.istore i, 2)) (hi : i < nL) : xd_S y cc nL ret rm pc (i_is i (pc + 2)) := by
  refine ⟨fun lo stk M k n => ?_, fun G p l e s m args below meth c C Q lo stk M k n K r h hK => ?_⟩
  · cases stk with
    | nil => exact ok_c none
    | cons v t => exact ok_b _ fun _ => ok_K _
  · obtain ⟨hx, hb, hml, hown, hts, hKK, hlk, hrt, hnm⟩ := C
    cases stk with
    | nil => cases h
    | cons v t =>
      obtain ⟨x, hx2, hA⟩ := Option.bind_eq_some_iff.mp h
      cases v_int_eq hx2
      intro ls H locs hl hR hf
      exact lv_istore hx hb d hl hi rfl (fun ls hl => hK _ hA ls H locs (lo_h hl) hR hf)
theorem x_isn {i : Fin 4} (d : decode cc pc = .ok (.istore_n i, 1)) (hi : i.val < nL) : xd_S y cc nL ret rm pc (i_is i.val (pc + 1)) := by
  refine ⟨fun lo stk M k n => ?_, fun G p l e s m args below meth c C Q lo stk M k n K r h hK => ?_⟩
  · cases stk with
    | nil => exact ok_c none
    | cons v t => exact ok_b _ fun _ => ok_K _
  · obtain ⟨hx, hb, hml, hown, hts, hKK, hlk, hrt, hnm⟩ := C
    cases stk with
    | nil => cases h
    | cons v t =>
      obtain ⟨x, hx2, hA⟩ := Option.bind_eq_some_iff.mp h
      cases v_int_eq hx2
      intro ls H locs hl hR hf
      exact lv_istore_n hx hb d rfl hl hi rfl (fun ls hl => hK _ hA ls H locs (lo_h hl) hR hf)
theorem x_ls {i : Nat} (d : decode cc pc = .ok (.lstore i, 2)) (hi : i + 1 < nL) : xd_S y cc nL ret rm pc (i_ls i (pc + 2)) := by
  refine ⟨fun lo stk M k n => ?_, fun G p l e s m args below meth c C Q lo stk M k n K r h hK => ?_⟩
  · cases stk with
    | nil => exact ok_c none
    | cons v t => exact ok_b _ fun _ => ok_K _
  · obtain ⟨hx, hb, hml, hown, hts, hKK, hlk, hrt, hnm⟩ := C
    cases stk with
    | nil => cases h
    | cons v t =>
      obtain ⟨x, hx2, hA⟩ := Option.bind_eq_some_iff.mp h
      cases v_long_eq hx2
      intro ls H locs hl hR hf
      exact lv_lstore hx hb d hl hi rfl (fun ls hl => hK _ hA ls H locs (lo_h hl) hR hf)
theorem x_lsn {i : Fin 4} (d : decode cc pc = .ok (.lstore_n i, 1)) (hi : i.val + 1 < nL) : xd_S y cc nL ret rm pc (i_ls i.val (pc + 1)) := by
  refine ⟨fun lo stk M k n => ?_, fun G p l e s m args below meth c C Q lo stk M k n K r h hK => ?_⟩
  · cases stk with
    | nil => exact ok_c none
    | cons v t => exact ok_b _ fun _ => ok_K _
  · obtain ⟨hx, hb, hml, hown, hts, hKK, hlk, hrt, hnm⟩ := C
    cases stk with
    | nil => cases h
    | cons v t =>
      obtain ⟨x, hx2, hA⟩ := Option.bind_eq_some_iff.mp h
      cases v_long_eq hx2
      intro ls H locs hl hR hf
      exact lv_lstore_n hx hb d rfl hl hi rfl (fun ls hl => hK _ hA ls H locs (lo_h hl) hR hf)
theorem x_as {i : Nat} (d : decode cc pc = .ok (.astore i, 2)) (hi : i < nL) : xd_S y cc nL ret rm pc (i_as i (pc + 2)) := by
  refine ⟨fun lo stk M k n => ?_, fun G p l e s m args below meth c C Q lo stk M k n K r h hK => ?_⟩
  · cases stk with
    | nil => exact ok_c none
    | cons v t => exact ok_b _ fun _ => ok_K _
  · obtain ⟨hx, hb, hml, hown, hts, hKK, hlk, hrt, hnm⟩ := C
    cases stk with
    | nil => cases h
    | cons v t =>
      obtain ⟨x, hx2, hA⟩ := Option.bind_eq_some_iff.mp h
      cases v_ref_eq hx2
      intro ls H locs hl hR hf
      exact lv_astore hx hb d hl hi rfl (fun ls hl => hK _ hA ls H locs (lo_h hl) hR hf)
theorem x_asn {i : Fin 4} (d : decode cc pc = .ok (.astore_n i, 1)) (hi : i.val < nL) : xd_S y cc nL ret rm pc (i_as i.val (pc + 1)) := by
  refine ⟨fun lo stk M k n => ?_, fun G p l e s m args below meth c C Q lo stk M k n K r h hK => ?_⟩
  · cases stk with
    | nil => exact ok_c none
    | cons v t => exact ok_b _ fun _ => ok_K _
  · obtain ⟨hx, hb, hml, hown, hts, hKK, hlk, hrt, hnm⟩ := C
    cases stk with
    | nil => cases h
    | cons v t =>
      obtain ⟨x, hx2, hA⟩ := Option.bind_eq_some_iff.mp h
      cases v_ref_eq hx2
      intro ls H locs hl hR hf
      exact lv_astore_n hx hb d rfl hl hi rfl (fun ls hl => hK _ hA ls H locs (lo_h hl) hR hf)
theorem x_an {i : Nat} (d : decode cc pc = .ok (.astore i, 2)) (hi : i < nL) : xd_S y cc nL ret rm pc (i_an i (pc + 2)) := by
  refine ⟨fun lo stk M k n => ?_, fun G p l e s m args below meth c C Q lo stk M k n K r h hK => ?_⟩
  · cases stk with
    | nil => exact ok_c none
    | cons v t => exact ok_b _ fun _ => ok_K _
  · obtain ⟨hx, hb, hml, hown, hts, hKK, hlk, hrt, hnm⟩ := C
    cases stk with
    | nil => cases h
    | cons v t =>
      obtain ⟨x, hx2, hA⟩ := Option.bind_eq_some_iff.mp h
      have e := v_rn_eq hx2
      subst e
      intro ls H locs hl hR hf
      cases x with
      | none => exact lv_astoreN hx hb d hl hi rfl (fun ls hl => hK _ hA ls H locs (lo_h hl) hR hf)
      | some a => exact lv_astore hx hb d hl hi rfl (fun ls hl => hK _ hA ls H locs (lo_h hl) hR hf)
theorem x_ann {i : Fin 4} (d : decode cc pc = .ok (.astore_n i, 1)) (hi : i.val < nL) : xd_S y cc nL ret rm pc (i_an i.val (pc + 1)) := by
  refine ⟨fun lo stk M k n => ?_, fun G p l e s m args below meth c C Q lo stk M k n K r h hK => ?_⟩
  · cases stk with
    | nil => exact ok_c none
    | cons v t => exact ok_b _ fun _ => ok_K _
  · obtain ⟨hx, hb, hml, hown, hts, hKK, hlk, hrt, hnm⟩ := C
    cases stk with
    | nil => cases h
    | cons v t =>
      obtain ⟨x, hx2, hA⟩ := Option.bind_eq_some_iff.mp h
      have e := v_rn_eq hx2
      subst e
      intro ls H locs hl hR hf
      cases x with
      | none => exact lv_astore_nN hx hb d rfl hl hi rfl (fun ls hl => hK _ hA ls H locs (lo_h hl) hR hf)
      | some a => exact lv_astore_n hx hb d rfl hl hi rfl (fun ls hl => hK _ hA ls H locs (lo_h hl) hR hf)
theorem x_inc {i : Nat} {a : Int} {x : Int32} (d : decode cc pc = .ok (.iinc i a, 3)) (hxa : Int32.ofInt a = x) (hi : i < nL) : xd_S y cc nL ret rm pc (i_inc i x (pc + 3)) := by
  refine ⟨fun lo stk M k n => ?_, fun G p l e s m args below meth c C Q lo stk M k n K r h hK => ?_⟩
  · exact ok_b _ fun _ => ok_b _ fun _ => ok_K _
  · obtain ⟨hx, hb, hml, hown, hts, hKK, hlk, hrt, hnm⟩ := C
    subst hxa
    obtain ⟨v, hv, hA⟩ := Option.bind_eq_some_iff.mp h
    obtain ⟨z, hz, hB⟩ := Option.bind_eq_some_iff.mp hA
    cases v_int_eq hz
    obtain ⟨j, hj⟩ := List.getElem?_of_mem (lo_in hv)
    intro ls H locs hl hR hf
    exact lv_iinc (k := j) hx hb d hl hj rfl hi rfl (fun ls hl => hK _ hB ls H locs (lo_h hl) hR hf)
theorem x_ineg (d : decode cc pc = .ok (.ineg, 1)) : xd_S y cc nL ret rm pc (i_u11 (fun x => -x) (pc + 1)) := by
  refine ⟨fun lo stk M k n => ?_, fun G p l e s m args below meth c C Q lo stk M k n K r h hK => ?_⟩
  · cases stk with
    | nil => exact ok_c none
    | cons v t => exact ok_b _ fun _ => ok_K _
  · obtain ⟨hx, hb, hml, hown, hts, hKK, hlk, hrt, hnm⟩ := C
    cases stk with
    | nil => cases h
    | cons v t =>
      obtain ⟨x, hx2, hA⟩ := Option.bind_eq_some_iff.mp h
      cases v_int_eq hx2
      intro ls H locs hl hR hf
      exact lv_ineg hx hb d (hK _ hA ls H locs hl hR hf)
theorem x_i2l (d : decode cc pc = .ok (.i2l, 1)) : xd_S y cc nL ret rm pc (i_u12 (fun x => x.toInt64) (pc + 1)) := by
  refine ⟨fun lo stk M k n => ?_, fun G p l e s m args below meth c C Q lo stk M k n K r h hK => ?_⟩
  · cases stk with
    | nil => exact ok_c none
    | cons v t => exact ok_b _ fun _ => ok_K _
  · obtain ⟨hx, hb, hml, hown, hts, hKK, hlk, hrt, hnm⟩ := C
    cases stk with
    | nil => cases h
    | cons v t =>
      obtain ⟨x, hx2, hA⟩ := Option.bind_eq_some_iff.mp h
      cases v_int_eq hx2
      intro ls H locs hl hR hf
      exact lv_i2l hx hb d rfl (hK _ hA ls H locs hl hR hf)
theorem x_l2i (d : decode cc pc = .ok (.l2i, 1)) : xd_S y cc nL ret rm pc (i_u21 (fun x => x.toInt32) (pc + 1)) := by
  refine ⟨fun lo stk M k n => ?_, fun G p l e s m args below meth c C Q lo stk M k n K r h hK => ?_⟩
  · cases stk with
    | nil => exact ok_c none
    | cons v t => exact ok_b _ fun _ => ok_K _
  · obtain ⟨hx, hb, hml, hown, hts, hKK, hlk, hrt, hnm⟩ := C
    cases stk with
    | nil => cases h
    | cons v t =>
      obtain ⟨x, hx2, hA⟩ := Option.bind_eq_some_iff.mp h
      cases v_long_eq hx2
      intro ls H locs hl hR hf
      exact lv_l2i hx hb d rfl (hK _ hA ls H locs hl hR hf)
theorem x_lneg (d : decode cc pc = .ok (.lneg, 1)) : xd_S y cc nL ret rm pc (i_u22 (fun x => -x) (pc + 1)) := by
  refine ⟨fun lo stk M k n => ?_, fun G p l e s m args below meth c C Q lo stk M k n K r h hK => ?_⟩
  · cases stk with
    | nil => exact ok_c none
    | cons v t => exact ok_b _ fun _ => ok_K _
  · obtain ⟨hx, hb, hml, hown, hts, hKK, hlk, hrt, hnm⟩ := C
    cases stk with
    | nil => cases h
    | cons v t =>
      obtain ⟨x, hx2, hA⟩ := Option.bind_eq_some_iff.mp h
      cases v_long_eq hx2
      intro ls H locs hl hR hf
      exact lv_lneg hx hb d (hK _ hA ls H locs hl hR hf)
theorem x_i2b (d : decode cc pc = .ok (.i2b, 1)) : xd_S y cc nL ret rm pc (i_u11 (fun x => x.toInt8.toInt32) (pc + 1)) := by
  refine ⟨fun lo stk M k n => ?_, fun G p l e s m args below meth c C Q lo stk M k n K r h hK => ?_⟩
  · cases stk with
    | nil => exact ok_c none
    | cons v t => exact ok_b _ fun _ => ok_K _
  · obtain ⟨hx, hb, hml, hown, hts, hKK, hlk, hrt, hnm⟩ := C
    cases stk with
    | nil => cases h
    | cons v t =>
      obtain ⟨x, hx2, hA⟩ := Option.bind_eq_some_iff.mp h
      cases v_int_eq hx2
      intro ls H locs hl hR hf
      exact lv_i2b hx hb d rfl (hK _ hA ls H locs hl hR hf)
theorem x_dup (d : decode cc pc = .ok (.dup, 1)) : xd_S y cc nL ret rm pc (i_dup (pc + 1)) := by
  refine ⟨fun lo stk M k n => ?_, fun G p l e s m args below meth c C Q lo stk M k n K r h hK => ?_⟩
  · cases stk with
    | nil => exact ok_c none
    | cons v t => exact ok_b _ fun _ => ok_K _
  · obtain ⟨hx, hb, hml, hown, hts, hKK, hlk, hrt, hnm⟩ := C
    cases stk with
    | nil => cases h
    | cons v t =>
      obtain ⟨x, hx2, hA⟩ := Option.bind_eq_some_iff.mp h
      cases v_ref_eq hx2
      intro ls H locs hl hR hf
      exact lv_dup hx hb d rfl (hK _ hA ls H locs hl hR hf)
theorem x_dupi (d : decode cc pc = .ok (.dup, 1)) : xd_S y cc nL ret rm pc (i_dupi (pc + 1)) := by
  refine ⟨fun lo stk M k n => ?_, fun G p l e s m args below meth c C Q lo stk M k n K r h hK => ?_⟩
  · cases stk with
    | nil => exact ok_c none
    | cons v t => exact ok_b _ fun _ => ok_K _
  · obtain ⟨hx, hb, hml, hown, hts, hKK, hlk, hrt, hnm⟩ := C
    cases stk with
    | nil => cases h
    | cons v t =>
      obtain ⟨x, hx2, hA⟩ := Option.bind_eq_some_iff.mp h
      cases v_int_eq hx2
      intro ls H locs hl hR hf
      exact lv_dup hx hb d rfl (hK _ hA ls H locs hl hR hf)
theorem x_dup2 (d : decode cc pc = .ok (.dup2, 1)) : xd_S y cc nL ret rm pc (i_dup2 (pc + 1)) := by
  refine ⟨fun lo stk M k n => ?_, fun G p l e s m args below meth c C Q lo stk M k n K r h hK => ?_⟩
  · rcases stk with _ | ⟨v, _ | ⟨w, t⟩⟩
    · exact ok_c none
    · exact ok_c none
    · exact ok_b _ fun _ => ok_b _ fun _ => ok_K _
  · obtain ⟨hx, hb, hml, hown, hts, hKK, hlk, hrt, hnm⟩ := C
    rcases stk with _ | ⟨v, _ | ⟨w, t⟩⟩
    · cases h
    · cases h
    · obtain ⟨x, h1, hA⟩ := Option.bind_eq_some_iff.mp h
      obtain ⟨a, h2, hB⟩ := Option.bind_eq_some_iff.mp hA
      cases v_int_eq h1
      cases v_ref_eq h2
      intro ls H locs hl hR hf
      exact lv_dup2_11 hx hb d rfl rfl (hK _ hB ls H locs hl hR hf)
theorem x_iadd (d : decode cc pc = .ok (.iadd, 1)) : xd_S y cc nL ret rm pc (i_bi (fun x z => x + z) (pc + 1)) := by
  refine ⟨fun lo stk M k n => ?_, fun G p l e s m args below meth c C Q lo stk M k n K r h hK => ?_⟩
  · rcases stk with _ | ⟨v, _ | ⟨w, t⟩⟩
    · exact ok_c none
    · exact ok_c none
    · exact ok_b _ fun _ => ok_b _ fun _ => ok_K _
  · obtain ⟨hx, hb, hml, hown, hts, hKK, hlk, hrt, hnm⟩ := C
    rcases stk with _ | ⟨v, _ | ⟨w, t⟩⟩
    · cases h
    · cases h
    · obtain ⟨x, h1, hA⟩ := Option.bind_eq_some_iff.mp h
      obtain ⟨z, h2, hB⟩ := Option.bind_eq_some_iff.mp hA
      cases v_int_eq h1
      cases v_int_eq h2
      intro ls H locs hl hR hf
      exact lv_iadd hx hb d (hK _ hB ls H locs hl hR hf)
theorem x_isub (d : decode cc pc = .ok (.isub, 1)) : xd_S y cc nL ret rm pc (i_bi (fun x z => x - z) (pc + 1)) := by
  refine ⟨fun lo stk M k n => ?_, fun G p l e s m args below meth c C Q lo stk M k n K r h hK => ?_⟩
  · rcases stk with _ | ⟨v, _ | ⟨w, t⟩⟩
    · exact ok_c none
    · exact ok_c none
    · exact ok_b _ fun _ => ok_b _ fun _ => ok_K _
  · obtain ⟨hx, hb, hml, hown, hts, hKK, hlk, hrt, hnm⟩ := C
    rcases stk with _ | ⟨v, _ | ⟨w, t⟩⟩
    · cases h
    · cases h
    · obtain ⟨x, h1, hA⟩ := Option.bind_eq_some_iff.mp h
      obtain ⟨z, h2, hB⟩ := Option.bind_eq_some_iff.mp hA
      cases v_int_eq h1
      cases v_int_eq h2
      intro ls H locs hl hR hf
      exact lv_isub hx hb d (hK _ hB ls H locs hl hR hf)
theorem x_imul (d : decode cc pc = .ok (.imul, 1)) : xd_S y cc nL ret rm pc (i_bi (fun x z => x * z) (pc + 1)) := by
  refine ⟨fun lo stk M k n => ?_, fun G p l e s m args below meth c C Q lo stk M k n K r h hK => ?_⟩
  · rcases stk with _ | ⟨v, _ | ⟨w, t⟩⟩
    · exact ok_c none
    · exact ok_c none
    · exact ok_b _ fun _ => ok_b _ fun _ => ok_K _
  · obtain ⟨hx, hb, hml, hown, hts, hKK, hlk, hrt, hnm⟩ := C
    rcases stk with _ | ⟨v, _ | ⟨w, t⟩⟩
    · cases h
    · cases h
    · obtain ⟨x, h1, hA⟩ := Option.bind_eq_some_iff.mp h
      obtain ⟨z, h2, hB⟩ := Option.bind_eq_some_iff.mp hA
      cases v_int_eq h1
      cases v_int_eq h2
      intro ls H locs hl hR hf
      exact lv_imul hx hb d (hK _ hB ls H locs hl hR hf)
theorem x_iand (d : decode cc pc = .ok (.iand, 1)) : xd_S y cc nL ret rm pc (i_bi (fun x z => x &&& z) (pc + 1)) := by
  refine ⟨fun lo stk M k n => ?_, fun G p l e s m args below meth c C Q lo stk M k n K r h hK => ?_⟩
  · rcases stk with _ | ⟨v, _ | ⟨w, t⟩⟩
    · exact ok_c none
    · exact ok_c none
    · exact ok_b _ fun _ => ok_b _ fun _ => ok_K _
  · obtain ⟨hx, hb, hml, hown, hts, hKK, hlk, hrt, hnm⟩ := C
    rcases stk with _ | ⟨v, _ | ⟨w, t⟩⟩
    · cases h
    · cases h
    · obtain ⟨x, h1, hA⟩ := Option.bind_eq_some_iff.mp h
      obtain ⟨z, h2, hB⟩ := Option.bind_eq_some_iff.mp hA
      cases v_int_eq h1
      cases v_int_eq h2
      intro ls H locs hl hR hf
      exact lv_iand hx hb d (hK _ hB ls H locs hl hR hf)
theorem x_ior (d : decode cc pc = .ok (.ior, 1)) : xd_S y cc nL ret rm pc (i_bi (fun x z => x ||| z) (pc + 1)) := by
  refine ⟨fun lo stk M k n => ?_, fun G p l e s m args below meth c C Q lo stk M k n K r h hK => ?_⟩
  · rcases stk with _ | ⟨v, _ | ⟨w, t⟩⟩
    · exact ok_c none
    · exact ok_c none
    · exact ok_b _ fun _ => ok_b _ fun _ => ok_K _
  · obtain ⟨hx, hb, hml, hown, hts, hKK, hlk, hrt, hnm⟩ := C
    rcases stk with _ | ⟨v, _ | ⟨w, t⟩⟩
    · cases h
    · cases h
    · obtain ⟨x, h1, hA⟩ := Option.bind_eq_some_iff.mp h
      obtain ⟨z, h2, hB⟩ := Option.bind_eq_some_iff.mp hA
      cases v_int_eq h1
      cases v_int_eq h2
      intro ls H locs hl hR hf
      exact lv_ior hx hb d (hK _ hB ls H locs hl hR hf)
theorem x_ishl (d : decode cc pc = .ok (.ishl, 1)) : xd_S y cc nL ret rm pc (i_bi (fun x z => x <<< (z &&& 31)) (pc + 1)) := by
  refine ⟨fun lo stk M k n => ?_, fun G p l e s m args below meth c C Q lo stk M k n K r h hK => ?_⟩
  · rcases stk with _ | ⟨v, _ | ⟨w, t⟩⟩
    · exact ok_c none
    · exact ok_c none
    · exact ok_b _ fun _ => ok_b _ fun _ => ok_K _
  · obtain ⟨hx, hb, hml, hown, hts, hKK, hlk, hrt, hnm⟩ := C
    rcases stk with _ | ⟨v, _ | ⟨w, t⟩⟩
    · cases h
    · cases h
    · obtain ⟨x, h1, hA⟩ := Option.bind_eq_some_iff.mp h
      obtain ⟨z, h2, hB⟩ := Option.bind_eq_some_iff.mp hA
      cases v_int_eq h1
      cases v_int_eq h2
      intro ls H locs hl hR hf
      exact lv_ishl hx hb d (hK _ hB ls H locs hl hR hf)
theorem x_ishr (d : decode cc pc = .ok (.ishr, 1)) : xd_S y cc nL ret rm pc (i_bi (fun x z => x >>> (z &&& 31)) (pc + 1)) := by
  refine ⟨fun lo stk M k n => ?_, fun G p l e s m args below meth c C Q lo stk M k n K r h hK => ?_⟩
  · rcases stk with _ | ⟨v, _ | ⟨w, t⟩⟩
    · exact ok_c none
    · exact ok_c none
    · exact ok_b _ fun _ => ok_b _ fun _ => ok_K _
  · obtain ⟨hx, hb, hml, hown, hts, hKK, hlk, hrt, hnm⟩ := C
    rcases stk with _ | ⟨v, _ | ⟨w, t⟩⟩
    · cases h
    · cases h
    · obtain ⟨x, h1, hA⟩ := Option.bind_eq_some_iff.mp h
      obtain ⟨z, h2, hB⟩ := Option.bind_eq_some_iff.mp hA
      cases v_int_eq h1
      cases v_int_eq h2
      intro ls H locs hl hR hf
      exact lv_ishr hx hb d (hK _ hB ls H locs hl hR hf)
theorem x_iushr (d : decode cc pc = .ok (.iushr, 1)) : xd_S y cc nL ret rm pc (i_bi (fun x z => (x.toUInt32 >>> (z.toUInt32 &&& Int32.toUInt32 31)).toInt32) (pc + 1)) := by
  refine ⟨fun lo stk M k n => ?_, fun G p l e s m args below meth c C Q lo stk M k n K r h hK => ?_⟩
  · rcases stk with _ | ⟨v, _ | ⟨w, t⟩⟩
    · exact ok_c none
    · exact ok_c none
    · exact ok_b _ fun _ => ok_b _ fun _ => ok_K _
  · obtain ⟨hx, hb, hml, hown, hts, hKK, hlk, hrt, hnm⟩ := C
    rcases stk with _ | ⟨v, _ | ⟨w, t⟩⟩
    · cases h
    · cases h
    · obtain ⟨x, h1, hA⟩ := Option.bind_eq_some_iff.mp h
      obtain ⟨z, h2, hB⟩ := Option.bind_eq_some_iff.mp hA
      cases v_int_eq h1
      cases v_int_eq h2
      intro ls H locs hl hR hf
      exact lv_iushr hx hb d rfl (hK _ hB ls H locs hl hR hf)
theorem x_ladd (d : decode cc pc = .ok (.ladd, 1)) : xd_S y cc nL ret rm pc (i_bl (fun x z => x + z) (pc + 1)) := by
  refine ⟨fun lo stk M k n => ?_, fun G p l e s m args below meth c C Q lo stk M k n K r h hK => ?_⟩
  · rcases stk with _ | ⟨v, _ | ⟨w, t⟩⟩
    · exact ok_c none
    · exact ok_c none
    · exact ok_b _ fun _ => ok_b _ fun _ => ok_K _
  · obtain ⟨hx, hb, hml, hown, hts, hKK, hlk, hrt, hnm⟩ := C
    rcases stk with _ | ⟨v, _ | ⟨w, t⟩⟩
    · cases h
    · cases h
    · obtain ⟨x, h1, hA⟩ := Option.bind_eq_some_iff.mp h
      obtain ⟨z, h2, hB⟩ := Option.bind_eq_some_iff.mp hA
      cases v_long_eq h1
      cases v_long_eq h2
      intro ls H locs hl hR hf
      exact lv_ladd hx hb d (hK _ hB ls H locs hl hR hf)
theorem x_lsub (d : decode cc pc = .ok (.lsub, 1)) : xd_S y cc nL ret rm pc (i_bl (fun x z => x - z) (pc + 1)) := by
  refine ⟨fun lo stk M k n => ?_, fun G p l e s m args below meth c C Q lo stk M k n K r h hK => ?_⟩
  · rcases stk with _ | ⟨v, _ | ⟨w, t⟩⟩
    · exact ok_c none
    · exact ok_c none
    · exact ok_b _ fun _ => ok_b _ fun _ => ok_K _
  · obtain ⟨hx, hb, hml, hown, hts, hKK, hlk, hrt, hnm⟩ := C
    rcases stk with _ | ⟨v, _ | ⟨w, t⟩⟩
    · cases h
    · cases h
    · obtain ⟨x, h1, hA⟩ := Option.bind_eq_some_iff.mp h
      obtain ⟨z, h2, hB⟩ := Option.bind_eq_some_iff.mp hA
      cases v_long_eq h1
      cases v_long_eq h2
      intro ls H locs hl hR hf
      exact lv_lsub hx hb d (hK _ hB ls H locs hl hR hf)
theorem x_lmul (d : decode cc pc = .ok (.lmul, 1)) : xd_S y cc nL ret rm pc (i_bl (fun x z => x * z) (pc + 1)) := by
  refine ⟨fun lo stk M k n => ?_, fun G p l e s m args below meth c C Q lo stk M k n K r h hK => ?_⟩
  · rcases stk with _ | ⟨v, _ | ⟨w, t⟩⟩
    · exact ok_c none
    · exact ok_c none
    · exact ok_b _ fun _ => ok_b _ fun _ => ok_K _
  · obtain ⟨hx, hb, hml, hown, hts, hKK, hlk, hrt, hnm⟩ := C
    rcases stk with _ | ⟨v, _ | ⟨w, t⟩⟩
    · cases h
    · cases h
    · obtain ⟨x, h1, hA⟩ := Option.bind_eq_some_iff.mp h
      obtain ⟨z, h2, hB⟩ := Option.bind_eq_some_iff.mp hA
      cases v_long_eq h1
      cases v_long_eq h2
      intro ls H locs hl hR hf
      exact lv_lmul hx hb d (hK _ hB ls H locs hl hR hf)
theorem x_land (d : decode cc pc = .ok (.land, 1)) : xd_S y cc nL ret rm pc (i_bl (fun x z => x &&& z) (pc + 1)) := by
  refine ⟨fun lo stk M k n => ?_, fun G p l e s m args below meth c C Q lo stk M k n K r h hK => ?_⟩
  · rcases stk with _ | ⟨v, _ | ⟨w, t⟩⟩
    · exact ok_c none
    · exact ok_c none
    · exact ok_b _ fun _ => ok_b _ fun _ => ok_K _
  · obtain ⟨hx, hb, hml, hown, hts, hKK, hlk, hrt, hnm⟩ := C
    rcases stk with _ | ⟨v, _ | ⟨w, t⟩⟩
    · cases h
    · cases h
    · obtain ⟨x, h1, hA⟩ := Option.bind_eq_some_iff.mp h
      obtain ⟨z, h2, hB⟩ := Option.bind_eq_some_iff.mp hA
      cases v_long_eq h1
      cases v_long_eq h2
      intro ls H locs hl hR hf
      exact lv_land hx hb d (hK _ hB ls H locs hl hR hf)
theorem x_lor (d : decode cc pc = .ok (.lor, 1)) : xd_S y cc nL ret rm pc (i_bl (fun x z => x ||| z) (pc + 1)) := by
  refine ⟨fun lo stk M k n => ?_, fun G p l e s m args below meth c C Q lo stk M k n K r h hK => ?_⟩
  · rcases stk with _ | ⟨v, _ | ⟨w, t⟩⟩
    · exact ok_c none
    · exact ok_c none
    · exact ok_b _ fun _ => ok_b _ fun _ => ok_K _
  · obtain ⟨hx, hb, hml, hown, hts, hKK, hlk, hrt, hnm⟩ := C
    rcases stk with _ | ⟨v, _ | ⟨w, t⟩⟩
    · cases h
    · cases h
    · obtain ⟨x, h1, hA⟩ := Option.bind_eq_some_iff.mp h
      obtain ⟨z, h2, hB⟩ := Option.bind_eq_some_iff.mp hA
      cases v_long_eq h1
      cases v_long_eq h2
      intro ls H locs hl hR hf
      exact lv_lor hx hb d (hK _ hB ls H locs hl hR hf)
theorem x_lxor (d : decode cc pc = .ok (.lxor, 1)) : xd_S y cc nL ret rm pc (i_bl (fun x z => x ^^^ z) (pc + 1)) := by
  refine ⟨fun lo stk M k n => ?_, fun G p l e s m args below meth c C Q lo stk M k n K r h hK => ?_⟩
  · rcases stk with _ | ⟨v, _ | ⟨w, t⟩⟩
    · exact ok_c none
    · exact ok_c none
    · exact ok_b _ fun _ => ok_b _ fun _ => ok_K _
  · obtain ⟨hx, hb, hml, hown, hts, hKK, hlk, hrt, hnm⟩ := C
    rcases stk with _ | ⟨v, _ | ⟨w, t⟩⟩
    · cases h
    · cases h
    · obtain ⟨x, h1, hA⟩ := Option.bind_eq_some_iff.mp h
      obtain ⟨z, h2, hB⟩ := Option.bind_eq_some_iff.mp hA
      cases v_long_eq h1
      cases v_long_eq h2
      intro ls H locs hl hR hf
      exact lv_lxor hx hb d (hK _ hB ls H locs hl hR hf)
theorem x_lshl (d : decode cc pc = .ok (.lshl, 1)) : xd_S y cc nL ret rm pc (i_sl (fun x z => x <<< (z.toInt64 &&& 63)) (pc + 1)) := by
  refine ⟨fun lo stk M k n => ?_, fun G p l e s m args below meth c C Q lo stk M k n K r h hK => ?_⟩
  · rcases stk with _ | ⟨v, _ | ⟨w, t⟩⟩
    · exact ok_c none
    · exact ok_c none
    · exact ok_b _ fun _ => ok_b _ fun _ => ok_K _
  · obtain ⟨hx, hb, hml, hown, hts, hKK, hlk, hrt, hnm⟩ := C
    rcases stk with _ | ⟨v, _ | ⟨w, t⟩⟩
    · cases h
    · cases h
    · obtain ⟨x, h1, hA⟩ := Option.bind_eq_some_iff.mp h
      obtain ⟨z, h2, hB⟩ := Option.bind_eq_some_iff.mp hA
      cases v_long_eq h1
      cases v_int_eq h2
      intro ls H locs hl hR hf
      exact lv_lshl hx hb d rfl (hK _ hB ls H locs hl hR hf)
theorem x_lshr (d : decode cc pc = .ok (.lshr, 1)) : xd_S y cc nL ret rm pc (i_sl (fun x z => x >>> (z.toInt64 &&& 63)) (pc + 1)) := by
  refine ⟨fun lo stk M k n => ?_, fun G p l e s m args below meth c C Q lo stk M k n K r h hK => ?_⟩
  · rcases stk with _ | ⟨v, _ | ⟨w, t⟩⟩
    · exact ok_c none
    · exact ok_c none
    · exact ok_b _ fun _ => ok_b _ fun _ => ok_K _
  · obtain ⟨hx, hb, hml, hown, hts, hKK, hlk, hrt, hnm⟩ := C
    rcases stk with _ | ⟨v, _ | ⟨w, t⟩⟩
    · cases h
    · cases h
    · obtain ⟨x, h1, hA⟩ := Option.bind_eq_some_iff.mp h
      obtain ⟨z, h2, hB⟩ := Option.bind_eq_some_iff.mp hA
      cases v_long_eq h1
      cases v_int_eq h2
      intro ls H locs hl hR hf
      exact lv_lshr hx hb d rfl (hK _ hB ls H locs hl hR hf)
theorem x_lushr (d : decode cc pc = .ok (.lushr, 1)) : xd_S y cc nL ret rm pc (i_sl (fun x z => (x.toUInt64 >>> (z.toInt64.toUInt64 &&& Int64.toUInt64 63)).toInt64) (pc + 1)) := by
  refine ⟨fun lo stk M k n => ?_, fun G p l e s m args below meth c C Q lo stk M k n K r h hK => ?_⟩
  · rcases stk with _ | ⟨v, _ | ⟨w, t⟩⟩
    · exact ok_c none
    · exact ok_c none
    · exact ok_b _ fun _ => ok_b _ fun _ => ok_K _
  · obtain ⟨hx, hb, hml, hown, hts, hKK, hlk, hrt, hnm⟩ := C
    rcases stk with _ | ⟨v, _ | ⟨w, t⟩⟩
    · cases h
    · cases h
    · obtain ⟨x, h1, hA⟩ := Option.bind_eq_some_iff.mp h
      obtain ⟨z, h2, hB⟩ := Option.bind_eq_some_iff.mp hA
      cases v_long_eq h1
      cases v_int_eq h2
      intro ls H locs hl hR hf
      exact lv_lushr hx hb d rfl (hK _ hB ls H locs hl hR hf)
theorem x_lcmp (d : decode cc pc = .ok (.lcmp, 1)) : xd_S y cc nL ret rm pc (i_lc (pc + 1)) := by
  refine ⟨fun lo stk M k n => ?_, fun G p l e s m args below meth c C Q lo stk M k n K r h hK => ?_⟩
  · rcases stk with _ | ⟨v, _ | ⟨w, t⟩⟩
    · exact ok_c none
    · exact ok_c none
    · exact ok_b _ fun _ => ok_b _ fun _ => ok_K _
  · obtain ⟨hx, hb, hml, hown, hts, hKK, hlk, hrt, hnm⟩ := C
    rcases stk with _ | ⟨v, _ | ⟨w, t⟩⟩
    · cases h
    · cases h
    · obtain ⟨x, h1, hA⟩ := Option.bind_eq_some_iff.mp h
      obtain ⟨z, h2, hB⟩ := Option.bind_eq_some_iff.mp hA
      cases v_long_eq h1
      cases v_long_eq h2
      intro ls H locs hl hR hf
      exact W.lcmp hx hb d (hK _ hB ls H locs hl hR hf)
theorem x_idiv (d : decode cc pc = .ok (.idiv, 1)) : xd_S y cc nL ret rm pc (i_qi (fun x z => x / z) (pc + 1)) := by
  refine ⟨fun lo stk M k n => ?_, fun G p l e s m args below meth c C Q lo stk M k n K r h hK => ?_⟩
  · rcases stk with _ | ⟨v, _ | ⟨w, t⟩⟩
    · exact ok_c none
    · exact ok_c none
    · exact ok_b _ fun _ => ok_b _ fun _ => ok_i (ok_c none) (ok_K _)
  · obtain ⟨hx, hb, hml, hown, hts, hKK, hlk, hrt, hnm⟩ := C
    rcases stk with _ | ⟨v, _ | ⟨w, t⟩⟩
    · cases h
    · cases h
    · obtain ⟨x, h1, hA⟩ := Option.bind_eq_some_iff.mp h
      obtain ⟨z, h2, hB⟩ := Option.bind_eq_some_iff.mp hA
      cases v_int_eq h1
      cases v_int_eq h2
      by_cases h0 : z = 0
      · rw [if_pos h0] at hB; cases hB
      · rw [if_neg h0] at hB
        intro ls H locs hl hR hf
        exact lv_idiv hx hb d h0 (hK _ hB ls H locs hl hR hf)
theorem x_irem (d : decode cc pc = .ok (.irem, 1)) : xd_S y cc nL ret rm pc (i_qi (fun x z => x - x / z * z) (pc + 1)) := by
  refine ⟨fun lo stk M k n => ?_, fun G p l e s m args below meth c C Q lo stk M k n K r h hK => ?_⟩
  · rcases stk with _ | ⟨v, _ | ⟨w, t⟩⟩
    · exact ok_c none
    · exact ok_c none
    · exact ok_b _ fun _ => ok_b _ fun _ => ok_i (ok_c none) (ok_K _)
  · obtain ⟨hx, hb, hml, hown, hts, hKK, hlk, hrt, hnm⟩ := C
    rcases stk with _ | ⟨v, _ | ⟨w, t⟩⟩
    · cases h
    · cases h
    · obtain ⟨x, h1, hA⟩ := Option.bind_eq_some_iff.mp h
      obtain ⟨z, h2, hB⟩ := Option.bind_eq_some_iff.mp hA
      cases v_int_eq h1
      cases v_int_eq h2
      by_cases h0 : z = 0
      · rw [if_pos h0] at hB; cases hB
      · rw [if_neg h0] at hB
        intro ls H locs hl hR hf
        exact lv_irem hx hb d h0 (hK _ hB ls H locs hl hR hf)
theorem x_ldiv (d : decode cc pc = .ok (.ldiv, 1)) : xd_S y cc nL ret rm pc (i_ql (fun x z => x / z) (pc + 1)) := by
  refine ⟨fun lo stk M k n => ?_, fun G p l e s m args below meth c C Q lo stk M k n K r h hK => ?_⟩
  · rcases stk with _ | ⟨v, _ | ⟨w, t⟩⟩
    · exact ok_c none
    · exact ok_c none
    · exact ok_b _ fun _ => ok_b _ fun _ => ok_i (ok_c none) (ok_K _)
  · obtain ⟨hx, hb, hml, hown, hts, hKK, hlk, hrt, hnm⟩ := C
    rcases stk with _ | ⟨v, _ | ⟨w, t⟩⟩
    · cases h
    · cases h
    · obtain ⟨x, h1, hA⟩ := Option.bind_eq_some_iff.mp h
      obtain ⟨z, h2, hB⟩ := Option.bind_eq_some_iff.mp hA
      cases v_long_eq h1
      cases v_long_eq h2
      by_cases h0 : z = 0
      · rw [if_pos h0] at hB; cases hB
      · rw [if_neg h0] at hB
        intro ls H locs hl hR hf
        exact lv_ldiv hx hb d h0 (hK _ hB ls H locs hl hR hf)
theorem x_lrem (d : decode cc pc = .ok (.lrem, 1)) : xd_S y cc nL ret rm pc (i_ql (fun x z => x - x / z * z) (pc + 1)) := by
  refine ⟨fun lo stk M k n => ?_, fun G p l e s m args below meth c C Q lo stk M k n K r h hK => ?_⟩
  · rcases stk with _ | ⟨v, _ | ⟨w, t⟩⟩
    · exact ok_c none
    · exact ok_c none
    · exact ok_b _ fun _ => ok_b _ fun _ => ok_i (ok_c none) (ok_K _)
  · obtain ⟨hx, hb, hml, hown, hts, hKK, hlk, hrt, hnm⟩ := C
    rcases stk with _ | ⟨v, _ | ⟨w, t⟩⟩
    · cases h
    · cases h
    · obtain ⟨x, h1, hA⟩ := Option.bind_eq_some_iff.mp h
      obtain ⟨z, h2, hB⟩ := Option.bind_eq_some_iff.mp hA
      cases v_long_eq h1
      cases v_long_eq h2
      by_cases h0 : z = 0
      · rw [if_pos h0] at hB; cases hB
      · rw [if_neg h0] at hB
        intro ls H locs hl hR hf
        exact lv_lrem hx hb d h0 (hK _ hB ls H locs hl hR hf)
theorem x_if_eq {off : Int} {tgt : Nat} (d : decode cc pc = .ok (.ifCond .eq off, 3)) (ht : (pc : Int) + off = (tgt : Int)) : xd_S y cc nL ret rm pc (i_z (fun x => x = 0) tgt (pc + 3)) := by
  refine ⟨fun lo stk M k n => ?_, fun G p l e s m args below meth c C Q lo stk M k n K r h hK => ?_⟩
  · cases stk with
    | nil => exact ok_c none
    | cons v t => exact ok_b _ fun _ => ok_i (ok_K _) (ok_K _)
  · obtain ⟨hx, hb, hml, hown, hts, hKK, hlk, hrt, hnm⟩ := C
    cases stk with
    | nil => cases h
    | cons v t =>
      obtain ⟨x, hx2, hA⟩ := Option.bind_eq_some_iff.mp h
      cases v_int_eq hx2
      intro ls H locs hl hR hf
      refine lv_if_eq hx hb d ht (fun q => ?_) (fun q => ?_)
      · exact hK _ ((if_pos q).symm.trans hA) ls H locs hl hR hf
      · exact hK _ ((if_neg q).symm.trans hA) ls H locs hl hR hf
theorem x_if_ne {off : Int} {tgt : Nat} (d : decode cc pc = .ok (.ifCond .ne off, 3)) (ht : (pc : Int) + off = (tgt : Int)) : xd_S y cc nL ret rm pc (i_z (fun x => x = 0) (pc + 3) tgt) := by
  refine ⟨fun lo stk M k n => ?_, fun G p l e s m args below meth c C Q lo stk M k n K r h hK => ?_⟩
  · cases stk with
    | nil => exact ok_c none
    | cons v t => exact ok_b _ fun _ => ok_i (ok_K _) (ok_K _)
  · obtain ⟨hx, hb, hml, hown, hts, hKK, hlk, hrt, hnm⟩ := C
    cases stk with
    | nil => cases h
    | cons v t =>
      obtain ⟨x, hx2, hA⟩ := Option.bind_eq_some_iff.mp h
      cases v_int_eq hx2
      intro ls H locs hl hR hf
      refine lv_if_ne hx hb d ht (fun q => ?_) (fun q => ?_)
      · exact hK _ ((if_neg q).symm.trans hA) ls H locs hl hR hf
      · exact hK _ ((if_pos q).symm.trans hA) ls H locs hl hR hf
theorem x_if_lt {off : Int} {tgt : Nat} (d : decode cc pc = .ok (.ifCond .lt off, 3)) (ht : (pc : Int) + off = (tgt : Int)) : xd_S y cc nL ret rm pc (i_z (fun x => x < 0) tgt (pc + 3)) := by
  refine ⟨fun lo stk M k n => ?_, fun G p l e s m args below meth c C Q lo stk M k n K r h hK => ?_⟩
  · cases stk with
    | nil => exact ok_c none
    | cons v t => exact ok_b _ fun _ => ok_i (ok_K _) (ok_K _)
  · obtain ⟨hx, hb, hml, hown, hts, hKK, hlk, hrt, hnm⟩ := C
    cases stk with
    | nil => cases h
    | cons v t =>
      obtain ⟨x, hx2, hA⟩ := Option.bind_eq_some_iff.mp h
      cases v_int_eq hx2
      intro ls H locs hl hR hf
      refine lv_if_lt hx hb d ht (fun q => ?_) (fun q => ?_)
      · exact hK _ ((if_pos q).symm.trans hA) ls H locs hl hR hf
      · exact hK _ ((if_neg q).symm.trans hA) ls H locs hl hR hf
theorem x_if_ge {off : Int} {tgt : Nat} (d : decode cc pc = .ok (.ifCond .ge off, 3)) (ht : (pc : Int) + off = (tgt : Int)) : xd_S y cc nL ret rm pc (i_z (fun x => 0 ≤ x) tgt (pc + 3)) := by
  refine ⟨fun lo stk M k n => ?_, fun G p l e s m args below meth c C Q lo stk M k n K r h hK => ?_⟩
  · cases stk with
    | nil => exact ok_c none
    | cons v t => exact ok_b _ fun _ => ok_i (ok_K _) (ok_K _)
  · obtain ⟨hx, hb, hml, hown, hts, hKK, hlk, hrt, hnm⟩ := C
    cases stk with
    | nil => cases h
    | cons v t =>
      obtain ⟨x, hx2, hA⟩ := Option.bind_eq_some_iff.mp h
      cases v_int_eq hx2
      intro ls H locs hl hR hf
      refine lv_if_ge hx hb d ht (fun q => ?_) (fun q => ?_)
      · exact hK _ ((if_pos q).symm.trans hA) ls H locs hl hR hf
      · exact hK _ ((if_neg q).symm.trans hA) ls H locs hl hR hf
theorem x_if_gt {off : Int} {tgt : Nat} (d : decode cc pc = .ok (.ifCond .gt off, 3)) (ht : (pc : Int) + off = (tgt : Int)) : xd_S y cc nL ret rm pc (i_z (fun x => 0 < x) tgt (pc + 3)) := by
  refine ⟨fun lo stk M k n => ?_, fun G p l e s m args below meth c C Q lo stk M k n K r h hK => ?_⟩
  · cases stk with
    | nil => exact ok_c none
    | cons v t => exact ok_b _ fun _ => ok_i (ok_K _) (ok_K _)
  · obtain ⟨hx, hb, hml, hown, hts, hKK, hlk, hrt, hnm⟩ := C
    cases stk with
    | nil => cases h
    | cons v t =>
      obtain ⟨x, hx2, hA⟩ := Option.bind_eq_some_iff.mp h
      cases v_int_eq hx2
      intro ls H locs hl hR hf
      refine lv_if_gt hx hb d ht (fun q => ?_) (fun q => ?_)
      · exact hK _ ((if_pos q).symm.trans hA) ls H locs hl hR hf
      · exact hK _ ((if_neg q).symm.trans hA) ls H locs hl hR hf
theorem x_if_le {off : Int} {tgt : Nat} (d : decode cc pc = .ok (.ifCond .le off, 3)) (ht : (pc : Int) + off = (tgt : Int)) : xd_S y cc nL ret rm pc (i_z (fun x => x ≤ 0) tgt (pc + 3)) := by
  refine ⟨fun lo stk M k n => ?_, fun G p l e s m args below meth c C Q lo stk M k n K r h hK => ?_⟩
  · cases stk with
    | nil => exact ok_c none
    | cons v t => exact ok_b _ fun _ => ok_i (ok_K _) (ok_K _)
  · obtain ⟨hx, hb, hml, hown, hts, hKK, hlk, hrt, hnm⟩ := C
    cases stk with
    | nil => cases h
    | cons v t =>
      obtain ⟨x, hx2, hA⟩ := Option.bind_eq_some_iff.mp h
      cases v_int_eq hx2
      intro ls H locs hl hR hf
      refine lv_if_le hx hb d ht (fun q => ?_) (fun q => ?_)
      · exact hK _ ((if_pos q).symm.trans hA) ls H locs hl hR hf
      · exact hK _ ((if_neg q).symm.trans hA) ls H locs hl hR hf
theorem x_ic_eq {off : Int} {tgt : Nat} (d : decode cc pc = .ok (.if_icmp .eq off, 3)) (ht : (pc : Int) + off = (tgt : Int)) : xd_S y cc nL ret rm pc (i_zz (fun x z => x = z) tgt (pc + 3)) := by
  refine ⟨fun lo stk M k n => ?_, fun G p l e s m args below meth c C Q lo stk M k n K r h hK => ?_⟩
  · rcases stk with _ | ⟨v, _ | ⟨w, t⟩⟩
    · exact ok_c none
    · exact ok_c none
    · exact ok_b _ fun _ => ok_b _ fun _ => ok_i (ok_K _) (ok_K _)
  · obtain ⟨hx, hb, hml, hown, hts, hKK, hlk, hrt, hnm⟩ := C
    rcases stk with _ | ⟨v, _ | ⟨w, t⟩⟩
    · cases h
    · cases h
    · obtain ⟨x, h1, hA⟩ := Option.bind_eq_some_iff.mp h
      obtain ⟨z, h2, hB⟩ := Option.bind_eq_some_iff.mp hA
      cases v_int_eq h1
      cases v_int_eq h2
      intro ls H locs hl hR hf
      refine lv_icmp_eq hx hb d ht (fun q => ?_) (fun q => ?_)
      · exact hK _ ((if_pos q).symm.trans hB) ls H locs hl hR hf
      · exact hK _ ((if_neg q).symm.trans hB) ls H locs hl hR hf
theorem x_ic_ne {off : Int} {tgt : Nat} (d : decode cc pc = .ok (.if_icmp .ne off, 3)) (ht : (pc : Int) + off = (tgt : Int)) : xd_S y cc nL ret rm pc (i_zz (fun x z => x = z) (pc + 3) tgt) := by
  refine ⟨fun lo stk M k n => ?_, fun G p l e s m args below meth c C Q lo stk M k n K r h hK => ?_⟩
  · rcases stk with _ | ⟨v, _ | ⟨w, t⟩⟩
    · exact ok_c none
    · exact ok_c none
    · exact ok_b _ fun _ => ok_b _ fun _ => ok_i (ok_K _) (ok_K _)
  · obtain ⟨hx, hb, hml, hown, hts, hKK, hlk, hrt, hnm⟩ := C
    rcases stk with _ | ⟨v, _ | ⟨w, t⟩⟩
    · cases h
    · cases h
    · obtain ⟨x, h1, hA⟩ := Option.bind_eq_some_iff.mp h
      obtain ⟨z, h2, hB⟩ := Option.bind_eq_some_iff.mp hA
      cases v_int_eq h1
      cases v_int_eq h2
      intro ls H locs hl hR hf
      refine lv_icmp_ne hx hb d ht (fun q => ?_) (fun q => ?_)
      · exact hK _ ((if_neg q).symm.trans hB) ls H locs hl hR hf
      · exact hK _ ((if_pos q).symm.trans hB) ls H locs hl hR hf
theorem x_ic_lt {off : Int} {tgt : Nat} (d : decode cc pc = .ok (.if_icmp .lt off, 3)) (ht : (pc : Int) + off = (tgt : Int)) : xd_S y cc nL ret rm pc (i_zz (fun x z => x < z) tgt (pc + 3)) := by
  refine ⟨fun lo stk M k n => ?_, fun G p l e s m args below meth c C Q lo stk M k n K r h hK => ?_⟩
  · rcases stk with _ | ⟨v, _ | ⟨w, t⟩⟩
    · exact ok_c none
    · exact ok_c none
    · exact ok_b _ fun _ => ok_b _ fun _ => ok_i (ok_K _) (ok_K _)
  · obtain ⟨hx, hb, hml, hown, hts, hKK, hlk, hrt, hnm⟩ := C
    rcases stk with _ | ⟨v, _ | ⟨w, t⟩⟩
    · cases h
    · cases h
    · obtain ⟨x, h1, hA⟩ := Option.bind_eq_some_iff.mp h
      obtain ⟨z, h2, hB⟩ := Option.bind_eq_some_iff.mp hA
      cases v_int_eq h1
      cases v_int_eq h2
      intro ls H locs hl hR hf
      refine lv_icmp_lt hx hb d ht (fun q => ?_) (fun q => ?_)
      · exact hK _ ((if_pos q).symm.trans hB) ls H locs hl hR hf
      · exact hK _ ((if_neg q).symm.trans hB) ls H locs hl hR hf
theorem x_ic_ge {off : Int} {tgt : Nat} (d : decode cc pc = .ok (.if_icmp .ge off, 3)) (ht : (pc : Int) + off = (tgt : Int)) : xd_S y cc nL ret rm pc (i_zz (fun x z => z ≤ x) tgt (pc + 3)) := by
  refine ⟨fun lo stk M k n => ?_, fun G p l e s m args below meth c C Q lo stk M k n K r h hK => ?_⟩
  · rcases stk with _ | ⟨v, _ | ⟨w, t⟩⟩
    · exact ok_c none
    · exact ok_c none
    · exact ok_b _ fun _ => ok_b _ fun _ => ok_i (ok_K _) (ok_K _)
  · obtain ⟨hx, hb, hml, hown, hts, hKK, hlk, hrt, hnm⟩ := C
    rcases stk with _ | ⟨v, _ | ⟨w, t⟩⟩
    · cases h
    · cases h
    · obtain ⟨x, h1, hA⟩ := Option.bind_eq_some_iff.mp h
      obtain ⟨z, h2, hB⟩ := Option.bind_eq_some_iff.mp hA
      cases v_int_eq h1
      cases v_int_eq h2
      intro ls H locs hl hR hf
      refine lv_icmp_ge hx hb d ht (fun q => ?_) (fun q => ?_)
      · exact hK _ ((if_pos q).symm.trans hB) ls H locs hl hR hf
      · exact hK _ ((if_neg q).symm.trans hB) ls H locs hl hR hf
theorem x_ic_gt {off : Int} {tgt : Nat} (d : decode cc pc = .ok (.if_icmp .gt off, 3)) (ht : (pc : Int) + off = (tgt : Int)) : xd_S y cc nL ret rm pc (i_zz (fun x z => z < x) tgt (pc + 3)) := by
  refine ⟨fun lo stk M k n => ?_, fun G p l e s m args below meth c C Q lo stk M k n K r h hK => ?_⟩
  · rcases stk with _ | ⟨v, _ | ⟨w, t⟩⟩
    · exact ok_c none
    · exact ok_c none
    · exact ok_b _ fun _ => ok_b _ fun _ => ok_i (ok_K _) (ok_K _)
  · obtain ⟨hx, hb, hml, hown, hts, hKK, hlk, hrt, hnm⟩ := C
    rcases stk with _ | ⟨v, _ | ⟨w, t⟩⟩
    · cases h
    · cases h
    · obtain ⟨x, h1, hA⟩ := Option.bind_eq_some_iff.mp h
      obtain ⟨z, h2, hB⟩ := Option.bind_eq_some_iff.mp hA
      cases v_int_eq h1
      cases v_int_eq h2
      intro ls H locs hl hR hf
      refine lv_icmp_gt hx hb d ht (fun q => ?_) (fun q => ?_)
      · exact hK _ ((if_pos q).symm.trans hB) ls H locs hl hR hf
      · exact hK _ ((if_neg q).symm.trans hB) ls H locs hl hR hf
theorem x_ic_le {off : Int} {tgt : Nat} (d : decode cc pc = .ok (.if_icmp .le off, 3)) (ht : (pc : Int) + off = (tgt : Int)) : xd_S y cc nL ret rm pc (i_zz (fun x z => x ≤ z) tgt (pc + 3)) := by
  refine ⟨fun lo stk M k n => ?_, fun G p l e s m args below meth c C Q lo stk M k n K r h hK => ?_⟩
  · rcases stk with _ | ⟨v, _ | ⟨w, t⟩⟩
    · exact ok_c none
    · exact ok_c none
    · exact ok_b _ fun _ => ok_b _ fun _ => ok_i (ok_K _) (ok_K _)
  · obtain ⟨hx, hb, hml, hown, hts, hKK, hlk, hrt, hnm⟩ := C
    rcases stk with _ | ⟨v, _ | ⟨w, t⟩⟩
    · cases h
    · cases h
    · obtain ⟨x, h1, hA⟩ := Option.bind_eq_some_iff.mp h
      obtain ⟨z, h2, hB⟩ := Option.bind_eq_some_iff.mp hA
      cases v_int_eq h1
      cases v_int_eq h2
      intro ls H locs hl hR hf
      refine lv_icmp_le hx hb d ht (fun q => ?_) (fun q => ?_)
      · exact hK _ ((if_pos q).symm.trans hB) ls H locs hl hR hf
      · exact hK _ ((if_neg q).symm.trans hB) ls H locs hl hR hf
theorem x_goto {off : Int} {tgt : Nat} (d : decode cc pc = .ok (.goto off, 3)) (ht : (pc : Int) + off = (tgt : Int)) : xd_S y cc nL ret rm pc (i_g tgt) := by
  refine ⟨fun lo stk M k n => ?_, fun G p l e s m args below meth c C Q lo stk M k n K r h hK => ?_⟩
  · exact ok_K _
  · obtain ⟨hx, hb, hml, hown, hts, hKK, hlk, hrt, hnm⟩ := C
    intro ls H locs hl hR hf
    exact lv_goto hx hb d ht (hK _ h ls H locs hl hR hf)
theorem x_ifnonnull {off : Int} {tgt : Nat} (d : decode cc pc = .ok (.ifnonnull off, 3)) (ht : (pc : Int) + off = (tgt : Int)) : xd_S y cc nL ret rm pc (i_nn tgt (pc + 3)) := by
  refine ⟨fun lo stk M k n => ?_, fun G p l e s m args below meth c C Q lo stk M k n K r h hK => ?_⟩
  · cases stk with
    | nil => exact ok_c none
    | cons v t => exact ok_b _ fun x => by cases x <;> exact ok_K _
  · obtain ⟨hx, hb, hml, hown, hts, hKK, hlk, hrt, hnm⟩ := C
    cases stk with
    | nil => cases h
    | cons v t =>
      obtain ⟨x, hx2, hA⟩ := Option.bind_eq_some_iff.mp h
      have e := v_rn_eq hx2
      subst e
      intro ls H locs hl hR hf
      cases x with
      | none => exact lv_ifnonnullN hx hb d (hK _ hA ls H locs hl hR hf)
      | some a => exact lv_ifnonnull hx hb d ht (hK _ hA ls H locs hl hR hf)
theorem x_ifnull {off : Int} {tgt : Nat} (d : decode cc pc = .ok (.ifnull off, 3)) (ht : (pc : Int) + off = (tgt : Int)) : xd_S y cc nL ret rm pc (i_nn (pc + 3) tgt) := by
  refine ⟨fun lo stk M k n => ?_, fun G p l e s m args below meth c C Q lo stk M k n K r h hK => ?_⟩
  · cases stk with
    | nil => exact ok_c none
    | cons v t => exact ok_b _ fun x => by cases x <;> exact ok_K _
  · obtain ⟨hx, hb, hml, hown, hts, hKK, hlk, hrt, hnm⟩ := C
    cases stk with
    | nil => cases h
    | cons v t =>
      obtain ⟨x, hx2, hA⟩ := Option.bind_eq_some_iff.mp h
      have e := v_rn_eq hx2
      subst e
      intro ls H locs hl hR hf
      cases x with
      | none => exact lv_ifnullN hx hb d ht (hK _ hA ls H locs hl hR hf)
      | some a => exact lv_ifnull hx hb d (hK _ hA ls H locs hl hR hf)
theorem x_ts {dflt lo0 hi0 : Int} {offs : Array Int} {len df : Nat} {tg : List Nat} (d : decode cc pc = .ok (.tableswitch dflt lo0 hi0 offs, len)) (hd : (pc : Int) + dflt = (df : Int)) (ho : offs.toList.map (fun q => (pc : Int) + q) = tg.map (fun (q : Nat) => (q : Int))) : xd_S y cc nL ret rm pc (i_ts lo0 hi0 tg df) := by
  refine ⟨fun lo stk M k n => ?_, fun G p l e s m args below meth c C Q lo stk M k n K r h hK => ?_⟩
  · cases stk with
    | nil => exact ok_c none
    | cons v t => exact ok_b _ fun _ => ok_i (ok_K _) (ok_b _ fun _ => ok_K _)
  · obtain ⟨hx, hb, hml, hown, hts, hKK, hlk, hrt, hnm⟩ := C
    cases stk with
    | nil => cases h
    | cons v t =>
      obtain ⟨x, hx2, hA⟩ := Option.bind_eq_some_iff.mp h
      cases v_int_eq hx2
      intro ls H locs hl hR hf
      by_cases hq : x.toInt < lo0 ∨ hi0 < x.toInt
      · rw [if_pos hq] at hA
        exact lv_tableOut hx hb d hq hd (hK _ hA ls H locs hl hR hf)
      · rw [if_neg hq] at hA
        obtain ⟨q, hq2, hB⟩ := Option.bind_eq_some_iff.mp hA
        have h3 : (tg.map (fun (q : Nat) => (q : Int)))[(x.toInt - lo0).toNat]? = some (q : Int) := by rw [List.getElem?_map, hq2]; rfl
        rw [← ho, List.getElem?_map] at h3
        obtain ⟨off, h4, h5⟩ := Option.map_eq_some_iff.mp h3
        exact lv_tableIn hx hb d (fun z => hq (Or.inl z)) (fun z => hq (Or.inr z)) (by rw [← Array.getElem?_toList]; exact h4) h5 (hK _ hB ls H locs hl hR hf)
theorem x_gf {ci k ix N : Nat} {C : String} {T : u_T} (d : decode cc pc = .ok (.getfield ix, 3)) (hc : me_cl[ci]? = some (C, T, N)) (hin : ∀ w ∈ u_ws C T N, w ∈ me_w) (hk : k < N) (w : Cond.fieldLink y.cls ix (T k).1 (T k).2.1 (T k).2.2.1 ∈ me_w) : xd_S y cc nL ret rm pc (i_gf ci k (pc + 3)) := by
  refine ⟨fun lo stk M k n => ?_, fun G p l e s m args below meth c C Q lo stk M k n K r h hK => ?_⟩
  · cases stk with
    | nil => exact ok_c none
    | cons v t => exact ok_b _ fun _ => ok_b _ fun _ => ok_b _ fun _ => ok_K _
  · obtain ⟨hx, hb, hml, hown, hts, hKK, hlk, hrt, hnm⟩ := C
    cases stk with
    | nil => cases h
    | cons v t =>
      obtain ⟨a, h1, hA⟩ := Option.bind_eq_some_iff.mp h
      obtain ⟨fs, h2, hB⟩ := Option.bind_eq_some_iff.mp hA
      obtain ⟨z, h3, hC⟩ := Option.bind_eq_some_iff.mp hB
      cases v_ref_eq h1
      intro ls H locs hl hR hf
      exact va_get hx hb hts hin hown hKK.1 (hR.one (me_obj_eq h2)) 0 rfl hc _ hk (hts _ w) (fun _ h9 => h9) h3 d (hK _ hC ls H locs hl hR hf)
theorem x_pi {ci k ix N : Nat} {C : String} {T : u_T} {ty0 : Nat → FieldType} (d : decode cc pc = .ok (.putfield ix, 3)) (hc : me_cl[ci]? = some (C, T, N)) (hin : ∀ w ∈ u_ws C T N, w ∈ me_w) (hty : ∀ k, k < N → parseFieldDescriptor (T k).2.2.1 = some (ty0 k)) (hnn : ∀ a, a < N → ∀ b, b < N → a ≠ b → (T a).2.1 ≠ (T b).2.1) (hk : k < N) (w : Cond.fieldLink y.cls ix (T k).1 (T k).2.1 (T k).2.2.1 ∈ me_w) (hfin : (T k).2.2.2 = false ∨ ((T k).2.2.2 = true ∧ y.name = "<init>" ∧ (T k).1 = y.cls)) (hd : ty0 k = .int) : xd_S y cc nL ret rm pc (i_pi ci k (pc + 3)) := by
  refine ⟨fun lo stk M k n => ?_, fun G p l e s m args below meth c C Q lo stk M k n K r h hK => ?_⟩
  · rcases stk with _ | ⟨v, _ | ⟨w, t⟩⟩
    · exact ok_c none
    · exact ok_c none
    · exact ok_b _ fun _ => ok_b _ fun _ => ok_b _ fun _ => ok_i (ok_K _) (ok_c none)
  · obtain ⟨hx, hb, hml, hown, hts, hKK, hlk, hrt, hnm⟩ := C
    rcases stk with _ | ⟨v, _ | ⟨u, t⟩⟩
    · cases h
    · cases h
    · obtain ⟨x, h1, hA⟩ := Option.bind_eq_some_iff.mp h
      obtain ⟨a, h2, hB⟩ := Option.bind_eq_some_iff.mp hA
      obtain ⟨fs, h3, hC⟩ := Option.bind_eq_some_iff.mp hB
      obtain ⟨h4, hD⟩ := oe_eq hC
      cases v_int_eq h1
      cases v_ref_eq h2
      intro ls H locs hl hR hf
      exact w_put hx hb hts hin ty0 hty hnn hown hKK hR (me_obj_eq h3) hc _ hk (hts _ w) (by rw [hnm]; exact hfin) (hty _ hk) (by rw [hd]; rfl) (by rw [hd]; rfl) h4 hf d (fun H1 locs1 hR1 hf1 => hK _ hD ls H1 locs1 hl hR1 hf1)
theorem x_pl {ci k ix N : Nat} {C : String} {T : u_T} {ty0 : Nat → FieldType} (d : decode cc pc = .ok (.putfield ix, 3)) (hc : me_cl[ci]? = some (C, T, N)) (hin : ∀ w ∈ u_ws C T N, w ∈ me_w) (hty : ∀ k, k < N → parseFieldDescriptor (T k).2.2.1 = some (ty0 k)) (hnn : ∀ a, a < N → ∀ b, b < N → a ≠ b → (T a).2.1 ≠ (T b).2.1) (hk : k < N) (w : Cond.fieldLink y.cls ix (T k).1 (T k).2.1 (T k).2.2.1 ∈ me_w) (hfin : (T k).2.2.2 = false ∨ ((T k).2.2.2 = true ∧ y.name = "<init>" ∧ (T k).1 = y.cls)) (hd : ty0 k = .long) : xd_S y cc nL ret rm pc (i_pl ci k (pc + 3)) := by
  refine ⟨fun lo stk M k n => ?_, fun G p l e s m args below meth c C Q lo stk M k n K r h hK => ?_⟩
  · rcases stk with _ | ⟨v, _ | ⟨w, t⟩⟩
    · exact ok_c none
    · exact ok_c none
    · exact ok_b _ fun _ => ok_b _ fun _ => ok_b _ fun _ => ok_i (ok_K _) (ok_c none)
  · obtain ⟨hx, hb, hml, hown, hts, hKK, hlk, hrt, hnm⟩ := C
    rcases stk with _ | ⟨v, _ | ⟨u, t⟩⟩
    · cases h
    · cases h
    · obtain ⟨x, h1, hA⟩ := Option.bind_eq_some_iff.mp h
      obtain ⟨a, h2, hB⟩ := Option.bind_eq_some_iff.mp hA
      obtain ⟨fs, h3, hC⟩ := Option.bind_eq_some_iff.mp hB
      obtain ⟨h4, hD⟩ := oe_eq hC
      cases v_long_eq h1
      cases v_ref_eq h2
      intro ls H locs hl hR hf
      exact w_put hx hb hts hin ty0 hty hnn hown hKK hR (me_obj_eq h3) hc _ hk (hts _ w) (by rw [hnm]; exact hfin) (hty _ hk) (by rw [hd]; rfl) (by rw [hd]; rfl) h4 hf d (fun H1 locs1 hR1 hf1 => hK _ hD ls H1 locs1 hl hR1 hf1)
theorem x_pr {ci k ix N : Nat} {C : String} {T : u_T} {ty0 : Nat → FieldType} (d : decode cc pc = .ok (.putfield ix, 3)) (hc : me_cl[ci]? = some (C, T, N)) (hin : ∀ w ∈ u_ws C T N, w ∈ me_w) (hty : ∀ k, k < N → parseFieldDescriptor (T k).2.2.1 = some (ty0 k)) (hnn : ∀ a, a < N → ∀ b, b < N → a ≠ b → (T a).2.1 ≠ (T b).2.1) (hk : k < N) (w : Cond.fieldLink y.cls ix (T k).1 (T k).2.1 (T k).2.2.1 ∈ me_w) (hfin : (T k).2.2.2 = false ∨ ((T k).2.2.2 = true ∧ y.name = "<init>" ∧ (T k).1 = y.cls)) (hd : (∃ q, ty0 k = .object q) ∨ ∃ q, ty0 k = .array q) : xd_S y cc nL ret rm pc (i_pr ci k (pc + 3)) := by
  refine ⟨fun lo stk M k n => ?_, fun G p l e s m args below meth c C Q lo stk M k n K r h hK => ?_⟩
  · rcases stk with _ | ⟨v, _ | ⟨w, t⟩⟩
    · exact ok_c none
    · exact ok_c none
    · exact ok_b _ fun _ => ok_b _ fun _ => ok_b _ fun _ => ok_i (ok_K _) (ok_c none)
  · obtain ⟨hx, hb, hml, hown, hts, hKK, hlk, hrt, hnm⟩ := C
    rcases stk with _ | ⟨v, _ | ⟨u, t⟩⟩
    · cases h
    · cases h
    · obtain ⟨x, h1, hA⟩ := Option.bind_eq_some_iff.mp h
      obtain ⟨a, h2, hB⟩ := Option.bind_eq_some_iff.mp hA
      obtain ⟨fs, h3, hC⟩ := Option.bind_eq_some_iff.mp hB
      obtain ⟨h4, hD⟩ := oe_eq hC
      have e := v_rn_eq h1
      subst e
      cases v_ref_eq h2
      intro ls H locs hl hR hf
      exact w_put hx hb hts hin ty0 hty hnn hown hKK hR (me_obj_eq h3) hc _ hk (hts _ w) (by rw [hnm]; exact hfin) (hty _ hk) (by rcases hd with ⟨q, hd⟩ | ⟨q, hd⟩ <;> rw [hd] <;> cases x <;> rfl) (by rcases hd with ⟨q, hd⟩ | ⟨q, hd⟩ <;> rw [hd] <;> cases x <;> rfl) h4 hf d (fun H1 locs1 hR1 hf1 => hK _ hD ls H1 locs1 hl hR1 hf1)
theorem x_iald (d : decode cc pc = .ok (.iaload, 1)) : xd_S y cc nL ret rm pc (i_ia 0 (pc + 1)) := by
  refine ⟨fun lo stk M k n => ?_, fun G p l e s m args below meth c C Q lo stk M k n K r h hK => ?_⟩
  · rcases stk with _ | ⟨v, _ | ⟨w, t⟩⟩
    · exact ok_c none
    · exact ok_c none
    · exact ok_b _ fun _ => ok_b _ fun _ => ok_b _ fun _ => ok_i (ok_c none) (ok_K _)
  · obtain ⟨hx, hb, hml, hown, hts, hKK, hlk, hrt, hnm⟩ := C
    rcases stk with _ | ⟨v, _ | ⟨u, t⟩⟩
    · cases h
    · cases h
    · obtain ⟨x, h1, hA⟩ := Option.bind_eq_some_iff.mp h
      obtain ⟨a, h2, hB⟩ := Option.bind_eq_some_iff.mp hA
      obtain ⟨⟨z, f⟩, h3, hC⟩ := Option.bind_eq_some_iff.mp hB
      obtain ⟨h4, hD⟩ := oi_eq hC
      cases v_int_eq h1
      cases v_ref_eq h2
      intro ls H locs hl hR hf
      exact va_iald hx hb hKK.1 (hR.one (me_int_eq h3)) 0 0 rfl rfl h4 d (hK _ hD ls H locs hl hR hf)
theorem x_bald (d : decode cc pc = .ok (.baload, 1)) : xd_S y cc nL ret rm pc (i_ia 2 (pc + 1)) := by
  refine ⟨fun lo stk M k n => ?_, fun G p l e s m args below meth c C Q lo stk M k n K r h hK => ?_⟩
  · rcases stk with _ | ⟨v, _ | ⟨w, t⟩⟩
    · exact ok_c none
    · exact ok_c none
    · exact ok_b _ fun _ => ok_b _ fun _ => ok_b _ fun _ => ok_i (ok_c none) (ok_K _)
  · obtain ⟨hx, hb, hml, hown, hts, hKK, hlk, hrt, hnm⟩ := C
    rcases stk with _ | ⟨v, _ | ⟨u, t⟩⟩
    · cases h
    · cases h
    · obtain ⟨x, h1, hA⟩ := Option.bind_eq_some_iff.mp h
      obtain ⟨a, h2, hB⟩ := Option.bind_eq_some_iff.mp hA
      obtain ⟨⟨z, f⟩, h3, hC⟩ := Option.bind_eq_some_iff.mp hB
      obtain ⟨h4, hD⟩ := oi_eq hC
      cases v_int_eq h1
      cases v_ref_eq h2
      intro ls H locs hl hR hf
      exact va_bald hx hb hKK.1 (hR.one (me_int_eq h3)) 0 2 rfl rfl h4 d (hK _ hD ls H locs hl hR hf)
theorem x_ist (d : decode cc pc = .ok (.iastore, 1)) : xd_S y cc nL ret rm pc (i_ist (pc + 1)) := by
  refine ⟨fun lo stk M k n => ?_, fun G p l e s m args below meth c C Q lo stk M k n K r h hK => ?_⟩
  · rcases stk with _ | ⟨v, _ | ⟨w, _ | ⟨z, t⟩⟩⟩
    · exact ok_c none
    · exact ok_c none
    · exact ok_c none
    · exact ok_b _ fun _ => ok_b _ fun _ => ok_b _ fun _ => ok_b _ fun _ => ok_i (ok_c none) (ok_K _)
  · obtain ⟨hx, hb, hml, hown, hts, hKK, hlk, hrt, hnm⟩ := C
    rcases stk with _ | ⟨u, _ | ⟨v, _ | ⟨w, t⟩⟩⟩
    · cases h
    · cases h
    · cases h
    · obtain ⟨x, h1, hA⟩ := Option.bind_eq_some_iff.mp h
      obtain ⟨i, h2, hB⟩ := Option.bind_eq_some_iff.mp hA
      obtain ⟨a, h3, hC⟩ := Option.bind_eq_some_iff.mp hB
      obtain ⟨⟨z, f⟩, h4, hD⟩ := Option.bind_eq_some_iff.mp hC
      obtain ⟨h5, hE⟩ := oi_eq hD
      cases v_int_eq h1
      cases v_int_eq h2
      cases v_ref_eq h3
      intro ls H locs hl hR hf
      exact w_iast hx hb hKK hR (me_int_eq h4) h5 hf d (fun H1 locs1 hR1 hf1 => hK _ hE ls H1 locs1 hl hR1 hf1)
theorem x_bst (d : decode cc pc = .ok (.bastore, 1)) : xd_S y cc nL ret rm pc (i_bst (pc + 1)) := by
  refine ⟨fun lo stk M k n => ?_, fun G p l e s m args below meth c C Q lo stk M k n K r h hK => ?_⟩
  · rcases stk with _ | ⟨v, _ | ⟨w, _ | ⟨z, t⟩⟩⟩
    · exact ok_c none
    · exact ok_c none
    · exact ok_c none
    · exact ok_b _ fun _ => ok_b _ fun _ => ok_b _ fun _ => ok_b _ fun _ => ok_i (ok_c none) (ok_K _)
  · obtain ⟨hx, hb, hml, hown, hts, hKK, hlk, hrt, hnm⟩ := C
    rcases stk with _ | ⟨u, _ | ⟨v, _ | ⟨w, t⟩⟩⟩
    · cases h
    · cases h
    · cases h
    · obtain ⟨x, h1, hA⟩ := Option.bind_eq_some_iff.mp h
      obtain ⟨i, h2, hB⟩ := Option.bind_eq_some_iff.mp hA
      obtain ⟨a, h3, hC⟩ := Option.bind_eq_some_iff.mp hB
      obtain ⟨⟨z, f⟩, h4, hD⟩ := Option.bind_eq_some_iff.mp hC
      obtain ⟨h5, hE⟩ := oi_eq hD
      cases v_int_eq h1
      cases v_int_eq h2
      cases v_ref_eq h3
      intro ls H locs hl hR hf
      exact w_bast hx hb hKK hR (me_int_eq h4) h5 hf d (fun H1 locs1 hR1 hf1 => hK _ hE ls H1 locs1 hl hR1 hf1)
theorem x_aald {kd : Nat} (d : decode cc pc = .ok (.aaload, 1)) (hkd : kd = 3 ∨ kd = 4) : xd_S y cc nL ret rm pc (i_aa kd (pc + 1)) := by
  refine ⟨fun lo stk M k n => ?_, fun G p l e s m args below meth c C Q lo stk M k n K r h hK => ?_⟩
  · rcases stk with _ | ⟨v, _ | ⟨w, t⟩⟩
    · exact ok_c none
    · exact ok_c none
    · exact ok_b _ fun _ => ok_b _ fun _ => ok_b _ fun _ => ok_i (ok_c none) (ok_K _)
  · obtain ⟨hx, hb, hml, hown, hts, hKK, hlk, hrt, hnm⟩ := C
    rcases stk with _ | ⟨v, _ | ⟨u, t⟩⟩
    · cases h
    · cases h
    · obtain ⟨x, h1, hA⟩ := Option.bind_eq_some_iff.mp h
      obtain ⟨a, h2, hB⟩ := Option.bind_eq_some_iff.mp hA
      obtain ⟨⟨z, f⟩, h3, hC⟩ := Option.bind_eq_some_iff.mp hB
      obtain ⟨h4, hD⟩ := oi_eq hC
      cases v_int_eq h1
      cases v_ref_eq h2
      intro ls H locs hl hR hf
      rcases hkd with rfl | rfl
      · exact va_aldq hx hb hKK.1 (hR.one (me_ref_eq h3)) 0 3 rfl rfl h4 d (hK _ hD ls H locs hl hR hf)
      · exact va_aldq hx hb hKK.1 (hR.one (me_ref_eq h3)) 0 4 rfl rfl h4 d (hK _ hD ls H locs hl hR hf)
theorem x_ast {kd ci N : Nat} {C : String} {T : u_T} (d : decode cc pc = .ok (.aastore, 1)) (hc : me_cl[ci]? = some (C, T, N)) (ht : ∀ G : me_G, (me_ty G)[kd]? = some (G.2.1 kd, .object C)) : xd_S y cc nL ret rm pc (i_ast kd ci (pc + 1)) := by
  refine ⟨fun lo stk M k n => ?_, fun G p l e s m args below meth c C Q lo stk M k n K r h hK => ?_⟩
  · rcases stk with _ | ⟨v, _ | ⟨w, _ | ⟨z, t⟩⟩⟩
    · exact ok_c none
    · exact ok_c none
    · exact ok_c none
    · exact ok_b _ fun _ => ok_b _ fun _ => ok_b _ fun _ => ok_i (ok_c none) (ok_b _ fun x => ok_cd (ok_K _) (ok_c none))
  · obtain ⟨hx, hb, hml, hown, hts, hKK, hlk, hrt, hnm⟩ := C
    rcases stk with _ | ⟨u, _ | ⟨v, _ | ⟨w, t⟩⟩⟩
    · cases h
    · cases h
    · cases h
    · obtain ⟨i, h2, hB⟩ := Option.bind_eq_some_iff.mp h
      obtain ⟨a, h3, hC⟩ := Option.bind_eq_some_iff.mp hB
      obtain ⟨⟨z, f⟩, h4, hD⟩ := Option.bind_eq_some_iff.mp hC
      obtain ⟨h5, hE⟩ := oi_eq hD
      obtain ⟨x, h1, hF⟩ := Option.bind_eq_some_iff.mp hE
      obtain ⟨h7, hF⟩ := cd_eq hF
      cases v_int_eq h2
      cases v_ref_eq h3
      have e := v_rn_eq h1
      subst e
      intro ls H locs hl hR hf
      cases x with
      | none => exact w_astN hx hb hKK hR (ht G) (me_ref_eq h4) h5 hf d (fun H1 locs1 hR1 hf1 => hK _ hF ls H1 locs1 hl hR1 hf1)
      | some b =>
        obtain ⟨vs, h6⟩ := Option.isSome_iff_exists.mp h7
        exact w_ast (r := (_, T, N)) hx hb hKK hR (ht G) (me_obj_eq h6) hc (me_ref_eq h4) h5 hf d (fun H1 locs1 hR1 hf1 => hK _ hF ls H1 locs1 hl hR1 hf1)
theorem x_len (d : decode cc pc = .ok (.arraylength, 1)) : xd_S y cc nL ret rm pc (i_len (pc + 1)) := by
  refine ⟨fun lo stk M k n => ?_, fun G p l e s m args below meth c C Q lo stk M k n K r h hK => ?_⟩
  · cases stk with
    | nil => exact ok_c none
    | cons v t => exact ok_b _ fun _ => ok_b _ fun _ => ok_K _
  · obtain ⟨hx, hb, hml, hown, hts, hKK, hlk, hrt, hnm⟩ := C
    cases stk with
    | nil => cases h
    | cons v t =>
      obtain ⟨a, h1, hA⟩ := Option.bind_eq_some_iff.mp h
      obtain ⟨z, h2, hB⟩ := Option.bind_eq_some_iff.mp hA
      cases v_ref_eq h1
      obtain ⟨kd, x, h3, h4⟩ := me_len_eq h2
      intro ls H locs hl hR hf
      have go : ∀ ty, (me_ty G)[kd]? = some (G.2.1 kd, ty) → W p l e rm s m args below meth c H locs k n (Q r) (F0 m pc ls (.ref a :: t)) := fun ty ht => va_alen hx hb hKK.1 (hR.one h3) 0 kd rfl ht rfl d (hK _ hB ls H locs hl hR hf)
      rcases (show kd = 0 ∨ kd = 1 ∨ kd = 2 ∨ kd = 3 ∨ kd = 4 by omega) with rfl | rfl | rfl | rfl | rfl
      · exact go _ rfl
      · exact go _ rfl
      · exact go _ rfl
      · exact go _ rfl
      · exact go _ rfl
theorem x_new {ci ix N : Nat} {C : String} {T : u_T} {ty0 : Nat → FieldType} {fs : List Value} (d : decode cc pc = .ok (.new ix, 3)) (hc : me_cl[ci]? = some (C, T, N)) (hin : ∀ w ∈ u_ws C T N, w ∈ me_w) (hty : ∀ k, k < N → parseFieldDescriptor (T k).2.2.1 = some (ty0 k)) (w1 : Cond.classLink y.cls ix C ∈ me_w) (w2 : Cond.instantiable C N ∈ me_w) (w3 : Cond.initialized C ∈ me_w) (hfs : ∀ j, j < N → defaultValue (ty0 j) = vp_V fs j) : xd_S y cc nL ret rm pc (i_new ci N fs rm.cells rm.slots (pc + 3)) := by
  refine ⟨fun lo stk M k n => ok_cd (ok_K _) (ok_c none), fun G p l e s m args below meth c C Q lo stk M k n K r h hK => ?_⟩
  obtain ⟨hx, hb, hml, hown, hts, hKK, hlk, hrt, hnm⟩ := C
  obtain ⟨h1, hA⟩ := cd_eq h
  obtain ⟨h2, h3⟩ := bb_eq h1
  intro ls H locs hl hR hf
  exact w_new hx hb hts hin ty0 hty hown (hts _ w1) (hts _ w2) (hts _ w3) hKK hR hc hfs h2 h3 d (fun H1 hR1 => hK _ hA ls H1 locs hl hR1 hf)
theorem x_na {atype : ArrayType} {kd : Nat} {ty : FieldType} (d : decode cc pc = .ok (.newarray atype, 2)) (hms : rm.slots ≤ 134217728) (hty : newarray.typeOf atype = ty) (hz : defaultValue ty = .int 0) (hbt : componentBytes ty ≤ 4) (w : Cond.arrayClass ty ∈ me_w) (ht : ∀ G : me_G, (me_ty G)[kd]? = some (G.2.1 kd, ty)) (hpr : ∀ (s : State) (cA : ClassId), va_RA s cA ty = (s.vm.findClass ("[" ++ ty.toString) = some cA)) : xd_S y cc nL ret rm pc (i_na kd rm.cells rm.slots (pc + 2)) := by
  refine ⟨fun lo stk M k n => ?_, fun G p l e s m args below meth c C Q lo stk M k n K r h hK => ?_⟩
  · cases stk with
    | nil => exact ok_c none
    | cons v t => exact ok_b _ fun _ => ok_i (ok_c none) (ok_cd (ok_K _) (ok_c none))
  · obtain ⟨hx, hb, hml, hown, hts, hKK, hlk, hrt, hnm⟩ := C
    cases stk with
    | nil => cases h
    | cons v t =>
      obtain ⟨x, h1, hA⟩ := Option.bind_eq_some_iff.mp h
      obtain ⟨h2, hB⟩ := oi_eq hA
      obtain ⟨h3, hC⟩ := cd_eq hB
      obtain ⟨h4, h5⟩ := bb_eq h3
      cases v_int_eq h1
      intro ls H locs hl hR hf
      exact w_newa hx hb hty hz hbt (by rw [hty]; exact hts _ w) hKK hR (ht G) (hpr _ _) h2 rfl (by omega) h4 h5 d (fun H1 hR1 => hK _ hC ls H1 locs hl hR1 hf)
theorem x_nr {kd ix : Nat} {C : String} (d : decode cc pc = .ok (.anewarray ix, 3)) (hms : rm.slots ≤ 134217728) (w1 : Cond.classLink y.cls ix C ∈ me_w) (w2 : ∀ (G : me_G) (s : State), me_K G s → va_AO C s) (ht : ∀ G : me_G, (me_ty G)[kd]? = some (G.2.1 kd, .object C)) : xd_S y cc nL ret rm pc (i_nr kd rm.cells rm.slots (pc + 3)) := by
  refine ⟨fun lo stk M k n => ?_, fun G p l e s m args below meth c C Q lo stk M k n K r h hK => ?_⟩
  · cases stk with
    | nil => exact ok_c none
    | cons v t => exact ok_b _ fun _ => ok_i (ok_c none) (ok_cd (ok_K _) (ok_c none))
  · obtain ⟨hx, hb, hml, hown, hts, hKK, hlk, hrt, hnm⟩ := C
    cases stk with
    | nil => cases h
    | cons v t =>
      obtain ⟨x, h1, hA⟩ := Option.bind_eq_some_iff.mp h
      obtain ⟨h2, hB⟩ := oi_eq hA
      obtain ⟨h3, hC⟩ := cd_eq hB
      obtain ⟨h4, h5⟩ := bb_eq h3
      cases v_int_eq h1
      intro ls H locs hl hR hf
      exact w_newr hx hb hown (hts _ w1) (va_AO.use (w2 _ _ hKK)) hKK hR (ht G) h2 rfl (by omega) h4 h5 d (fun H1 hR1 => hK _ hC ls H1 locs hl hR1 hf)
theorem x_oi {ix : Nat} (d : decode cc pc = .ok (.invokespecial ix, 3)) (w1 : Cond.methodLink y.cls ix Lib.objectInit ∈ me_w) (w2 : Cond.instanceMethod Lib.objectInit ∈ me_w) (w3 : Cond.code Lib.objectInit ⟨#[0xb1]⟩ 1 none ∈ me_w) (hr : 1 ≤ rm.frames ∧ 20 ≤ rm.locals) : xd_S y cc nL ret rm pc (i_oi (pc + 3)) := by
  refine ⟨fun lo stk M k n => ?_, fun G p l e s m args below meth c C Q lo stk M k n K r h hK => ?_⟩
  · cases stk with
    | nil => exact ok_c none
    | cons v t => exact ok_b _ fun _ => ok_cd (ok_K _) (ok_c none)
  · obtain ⟨hx, hb, hml, hown, hts, hKK, hlk, hrt, hnm⟩ := C
    cases stk with
    | nil => cases h
    | cons v t =>
      obtain ⟨a, h1, hA⟩ := Option.bind_eq_some_iff.mp h
      obtain ⟨h2, hB⟩ := cd_eq hA
      have h3 := Nat.le_of_ble_eq_true h2
      cases v_ref_eq h1
      intro ls H locs hl hR hf
      refine W.objInit hx hb hown (hts _ w1) (hts _ w2) (hts _ w3) rfl (by rw [hml]; exact hl.1) rfl d hr.1 ?_ (W.eq rfl (hK _ hB ls H locs hl hR hf))
      have := cat_le t
      show 2 * 0 + _ + 12 ≤ _
      omega
theorem x_cp {ix : Nat} (d : decode cc pc = .ok (.invokestatic ix, 3)) (w1 : Cond.methodLink y.cls ix arraycopyName ∈ me_w) (w2 : Cond.native arraycopyName ∈ me_w) (w3 : Cond.static arraycopyName ∈ me_w) (w4 : Cond.initialized "java/lang/System" ∈ me_w) (hr : 1 ≤ rm.frames ∧ 8 + (nativeFrameWords "java/lang/System" "arraycopy" 5 + 11) ≤ rm.locals) : xd_S y cc nL ret rm pc (i_cp (pc + 3)) := by
  refine ⟨fun lo stk M k n => ?_, fun G p l e s m args below meth c C Q lo stk M k n K r h hK => ?_⟩
  · rcases stk with _ | ⟨z5, _ | ⟨z4, _ | ⟨z3, _ | ⟨z2, _ | ⟨z1, t⟩⟩⟩⟩⟩
    · exact ok_c none
    · exact ok_c none
    · exact ok_c none
    · exact ok_c none
    · exact ok_c none
    · exact ok_cd (ok_b _ fun _ => ok_b _ fun _ => ok_b _ fun _ => ok_b _ fun _ => ok_b _ fun _ => ok_b _ fun _ => ok_b _ fun _ => ok_i (ok_c none) (ok_K _)) (ok_c none)
  · obtain ⟨hx, hb, hml, hown, hts, hKK, hlk, hrt, hnm⟩ := C
    rcases stk with _ | ⟨z5, _ | ⟨z4, _ | ⟨z3, _ | ⟨z2, _ | ⟨z1, t⟩⟩⟩⟩⟩
    · cases h
    · cases h
    · cases h
    · cases h
    · cases h
    · obtain ⟨h0, h⟩ := cd_eq h
      have h0 := Nat.le_of_ble_eq_true h0
      obtain ⟨a0, e1, hA⟩ := Option.bind_eq_some_iff.mp h
      obtain ⟨sp, e2, hB⟩ := Option.bind_eq_some_iff.mp hA
      obtain ⟨a, e3, hC⟩ := Option.bind_eq_some_iff.mp hB
      obtain ⟨dp, e4, hD⟩ := Option.bind_eq_some_iff.mp hC
      obtain ⟨z, e5, hE⟩ := Option.bind_eq_some_iff.mp hD
      obtain ⟨⟨n0, f⟩, e6, hF⟩ := Option.bind_eq_some_iff.mp hE
      obtain ⟨⟨n1, g⟩, e7, hI⟩ := Option.bind_eq_some_iff.mp hF
      obtain ⟨e8, hJ⟩ := oi_eq hI
      cases v_ref_eq e1
      cases v_int_eq e2
      cases v_ref_eq e3
      cases v_int_eq e4
      cases v_int_eq e5
      intro ls H locs hl hR hf
      refine w_copy hx hb (hml.trans hl.1.symm) hown (hts _ w1) (hts _ w2) (hts _ w3) (hts _ w4) hKK hR (me_int_eq e6) (me_int_eq e7) (fun q => e8 (Or.inl q)) (fun q => e8 (Or.inr (Or.inl q))) (fun q => e8 (Or.inr (Or.inr (Or.inl q)))) (Nat.not_lt.mp fun q => e8 (Or.inr (Or.inr (Or.inr (Or.inl q))))) (Nat.not_lt.mp fun q => e8 (Or.inr (Or.inr (Or.inr (Or.inr q))))) hf hr.1 ?_ d (fun H1 locs1 hR1 hf1 => hK _ hJ ls H1 locs1 hl hR1 hf1)
      have := cat_le t
      omega
theorem x_mx {ix : Nat} (d : decode cc pc = .ok (.invokestatic ix, 3)) (w1 : Cond.methodLink y.cls ix Lib.Math.max.name ∈ me_w) (w2 : Cond.static Lib.Math.max.name ∈ me_w) (w3 : Cond.initialized "java/lang/Math" ∈ me_w) (w4 : Cond.code Lib.Math.max.name Lib.Math.max.code 2 (some .int) ∈ me_w) (hr : 1 ≤ rm.frames ∧ 24 ≤ rm.locals) : xd_S y cc nL ret rm pc (i_mx (pc + 3) rm.cells rm.slots) := by
  refine ⟨fun lo stk M k n => ?_, fun G p l e s m args below meth c C Q lo stk M k n K r h hK => ?_⟩
  · rcases stk with _ | ⟨v, _ | ⟨w, t⟩⟩
    · exact ok_c none
    · exact ok_c none
    · exact ok_cd (ok_b _ fun _ => ok_b _ fun _ => ok_K _) (ok_c none)
  · obtain ⟨hx, hb, hml, hown, hts, hKK, hlk, hrt, hnm⟩ := C
    rcases stk with _ | ⟨v, _ | ⟨w, t⟩⟩
    · cases h
    · cases h
    · obtain ⟨h0, h⟩ := cd_eq h
      rw [Bool.and_eq_true] at h0
      obtain ⟨h01, h02⟩ := bb_eq h0.2
      have h03 := Nat.le_of_ble_eq_true h0.1
      obtain ⟨x, h1, hA⟩ := Option.bind_eq_some_iff.mp h
      obtain ⟨z, h2, hB⟩ := Option.bind_eq_some_iff.mp hA
      cases v_int_eq h1
      cases v_int_eq h2
      intro ls H locs hl hR hf
      have := cat_le t
      exact va_mmax hx hb (hml.trans hl.1.symm) hown (hts _ w1) (hts _ w2) (hts _ w3) (hts _ w4) hr.1 (by omega) h01 h02 d (hK _ hB ls H locs hl hR hf)
theorem x_mn {ix : Nat} (d : decode cc pc = .ok (.invokestatic ix, 3)) (w1 : Cond.methodLink y.cls ix Lib.MathLoose.min_long.x ∈ me_w) (w2 : Cond.static Lib.MathLoose.min_long.x ∈ me_w) (w3 : Cond.initialized "java/lang/Math" ∈ me_w) (w4 : Cond.code Lib.MathLoose.min_long.x Lib.MathLoose.min_long.code 4 (some .long) ∈ me_w) (hr : 1 ≤ rm.frames ∧ 24 ≤ rm.locals) : xd_S y cc nL ret rm pc (i_mn (pc + 3) rm.cells rm.slots) := by
  refine ⟨fun lo stk M k n => ?_, fun G p l e s m args below meth c C Q lo stk M k n K r h hK => ?_⟩
  · rcases stk with _ | ⟨v, _ | ⟨w, t⟩⟩
    · exact ok_c none
    · exact ok_c none
    · exact ok_cd (ok_b _ fun _ => ok_b _ fun _ => ok_K _) (ok_c none)
  · obtain ⟨hx, hb, hml, hown, hts, hKK, hlk, hrt, hnm⟩ := C
    rcases stk with _ | ⟨v, _ | ⟨w, t⟩⟩
    · cases h
    · cases h
    · obtain ⟨h0, h⟩ := cd_eq h
      rw [Bool.and_eq_true] at h0
      obtain ⟨h01, h02⟩ := bb_eq h0.2
      have h03 := Nat.le_of_ble_eq_true h0.1
      obtain ⟨x, h1, hA⟩ := Option.bind_eq_some_iff.mp h
      obtain ⟨z, h2, hB⟩ := Option.bind_eq_some_iff.mp hA
      cases v_long_eq h1
      cases v_long_eq h2
      intro ls H locs hl hR hf
      have := cat_le t
      exact va_mmin_long hx hb (hml.trans hl.1.symm) hown (hts _ w1) (hts _ w2) (hts _ w3) (hts _ w4) hr.1 (by omega) h01 h02 d (hK _ hB ls H locs hl hR hf)
theorem x_cv {z : MethodName} {cz : ByteArray} {nz np ci ix N rk : Nat} {T : u_T} {rz : Option FieldType} {rmz : Room} {f : List Value → me_M → Option sm_R} (d : decode cc pc = .ok (.invokevirtual ix, 3)) (V : sd_V z cz nz rz rmz np f) (w1 : Cond.methodLink y.cls ix z ∈ me_w) (w2 : Cond.instanceMethod z ∈ me_w) (w3 : Cond.selects z.cls z z ∈ me_w) (hc : me_cl[ci]? = some (z.cls, T, N)) (hr : rmz.frames + 1 ≤ rm.frames ∧ 8 + (nz + 11) + rmz.locals ≤ rm.locals) : xd_S y cc nL ret rm pc (i_cv ci (np + 1) rk f rmz.cells rmz.slots rm.cells rm.slots (pc + 3)) := by
  refine ⟨fun lo stk M k n => ok_cd ?_ (ok_c none), fun G p l e s m args below meth c C Q lo stk M k n K r h hK => ?_⟩
  · cases (stk.take (np + 1)).reverse with
    | nil => exact ok_c none
    | cons v as => exact ok_b _ fun _ => ok_b _ fun _ => ok_b _ fun _ => ok_cd (ok_rk _ _ fun _ => ok_K _) (ok_c none)
  · obtain ⟨hx, hb, hml, hown, hts, hKK, hlk, hrt, hnm⟩ := C
    obtain ⟨hV, v1, v2, v3⟩ := V
    obtain ⟨h1, hA⟩ := cd_eq h
    obtain ⟨h2, h3⟩ := bs_eq h1
    cases hs : (stk.take (np + 1)).reverse with
    | nil => rw [hs] at hA; cases hA
    | cons v as =>
      rw [hs] at hA
      obtain ⟨b, e1, hB⟩ := Option.bind_eq_some_iff.mp hA
      obtain ⟨fs, e2, hC⟩ := Option.bind_eq_some_iff.mp hB
      obtain ⟨q, e3, hD⟩ := Option.bind_eq_some_iff.mp hC
      obtain ⟨e4, hE⟩ := cd_eq hD
      obtain ⟨e5, e6⟩ := bb_eq e4
      have hF := rk_eq hE
      cases v_ref_eq e1
      have hlen : as.length = np := by
        have := congrArg List.length hs
        simp only [List.length_reverse, List.length_take, List.length_cons] at this
        omega
      have hst : stk = as.reverse ++ .ref b :: stk.drop (np + 1) := by
        have h9 := congrArg List.reverse hs
        simp only [List.reverse_reverse, List.reverse_cons] at h9
        have h8 := List.take_append_drop (np + 1) stk
        rw [h9, List.append_assoc] at h8
        exact h8.symm
      intro ls H locs hl hR hf
      refine w_call (r := q) (va_runV (As := as) (rest := stk.drop (np + 1)) (b := b) ⟨hx, hb, hml, hown, hts⟩ (hV l G _ _ _ e3) (cwV np hts (fun w hw => ?_) rfl rfl rfl ⟨rfl, v3⟩ hr) ⟨sd_blind _ _ _, va_recv hKK.1 (hR.one (me_obj_eq e2)) hc (q0 := 0) rfl, fun U hU hW => ⟨rfl, by rw [hU]; exact hR, me_K.moved hW hKK⟩⟩ rfl hlen hl.1 hst (lv_room h3) d ⟨e5, e6⟩) hf (fun H1 locs1 hR1 hf1 => hK _ hF ls H1 locs1 hl hR1 hf1)
      rcases List.mem_append.mp hw with hw | hw
      · have hm : w ∈ me_w := by
          simp only [List.mem_cons, List.not_mem_nil, or_false] at hw
          rcases hw with rfl | rfl | rfl | rfl
          · exact w1
          · exact w2
          · exact w3
          · exact v2
        exact ⟨hm, good_of_word (List.mem_filter.mp hm).2⟩
      · exact sd_in v1 w hw
theorem x_cs {z : MethodName} {cz : ByteArray} {nz np ix rk : Nat} {rz : Option FieldType} {rmz : Room} {f : List Value → me_M → Option sm_R} (d : decode cc pc = .ok (.invokestatic ix, 3)) (V : sd_V z cz nz rz rmz np f) (w1 : Cond.methodLink y.cls ix z ∈ me_w) (w2 : Cond.static z ∈ me_w) (hr : rmz.frames + 1 ≤ rm.frames ∧ 8 + (nz + 11) + rmz.locals ≤ rm.locals) : xd_S y cc nL ret rm pc (i_cs np rk f rmz.cells rmz.slots rm.cells rm.slots (pc + 3)) := by
  refine ⟨fun lo stk M k n => ok_cd (ok_b _ fun _ => ok_cd (ok_rk _ _ fun _ => ok_K _) (ok_c none)) (ok_c none), fun G p l e s m args below meth c C Q lo stk M k n K r h hK => ?_⟩
  obtain ⟨hx, hb, hml, hown, hts, hKK, hlk, hrt, hnm⟩ := C
  obtain ⟨hV, v1, v2, v3⟩ := V
  obtain ⟨h1, hA⟩ := cd_eq h
  obtain ⟨h2, h3⟩ := bs_eq h1
  obtain ⟨q, e3, hD⟩ := Option.bind_eq_some_iff.mp hA
  obtain ⟨e4, hE⟩ := cd_eq hD
  obtain ⟨e5, e6⟩ := bb_eq e4
  have hF := rk_eq hE
  have hlen : (stk.take np).reverse.length = np := by
    simp only [List.length_reverse, List.length_take]
    omega
  intro ls H locs hl hR hf
  exact w_call (r := q) (va_runS (As := (stk.take np).reverse) (rest := stk.drop np) ⟨hx, hb, hml, hown, hts⟩ (hV l G _ _ _ e3) ⟨callB_of np hts (sd_in v1) rfl rfl rfl (hts _ v2) (hts _ w1) v3 hr, hts _ w2⟩ ⟨sd_blind _ _ _, fun U hU hW => ⟨rfl, by rw [hU]; exact hR, me_K.moved hW hKK⟩⟩ rfl hlen hl.1 (by rw [List.reverse_reverse]; exact (List.take_append_drop np stk).symm) (lv_room h3) d ⟨e5, e6⟩) hf (fun H1 locs1 hR1 hf1 => hK _ hF ls H1 locs1 hl hR1 hf1)
theorem x_ci {z : MethodName} {cz : ByteArray} {nz np ix : Nat} {rmz : Room} {f : List Value → me_M → Option sm_R} (d : decode cc pc = .ok (.invokespecial ix, 3)) (V : sd_V z cz nz none rmz np f) (w1 : Cond.methodLink y.cls ix z ∈ me_w ∨ ∃ host, ∀ (G : me_G) (s : State), me_K G s → va_Nw (.methodLinkNest y.cls ix z host) s) (w2 : Cond.instanceMethod z ∈ me_w) (hi : z.name = "<init>") (hr : rmz.frames + 1 ≤ rm.frames ∧ 8 + (nz + 11) + rmz.locals ≤ rm.locals) {ci : Nat} : xd_S y cc nL ret rm pc (i_cv ci (np + 1) 0 f rmz.cells rmz.slots rm.cells rm.slots (pc + 3)) := by
  refine ⟨fun lo stk M k n => ok_cd ?_ (ok_c none), fun G p l e s m args below meth c C Q lo stk M k n K r h hK => ?_⟩
  · cases (stk.take (np + 1)).reverse with
    | nil => exact ok_c none
    | cons v as => exact ok_b _ fun _ => ok_b _ fun _ => ok_b _ fun _ => ok_cd (ok_rk _ _ fun _ => ok_K _) (ok_c none)
  · obtain ⟨hx, hb, hml, hown, hts, hKK, hlk, hrt, hnm⟩ := C
    obtain ⟨hV, v1, v2, v3⟩ := V
    obtain ⟨h1, hA⟩ := cd_eq h
    obtain ⟨h2, h3⟩ := bs_eq h1
    cases hs : (stk.take (np + 1)).reverse with
    | nil => rw [hs] at hA; cases hA
    | cons v as =>
      rw [hs] at hA
      obtain ⟨b, e1, hB⟩ := Option.bind_eq_some_iff.mp hA
      obtain ⟨fs, e2, hC⟩ := Option.bind_eq_some_iff.mp hB
      obtain ⟨q, e3, hD⟩ := Option.bind_eq_some_iff.mp hC
      obtain ⟨e4, hE⟩ := cd_eq hD
      obtain ⟨e5, e6⟩ := bb_eq e4
      have hF := rk_eq hE
      cases v_ref_eq e1
      have hlen : as.length = np := by
        have := congrArg List.length hs
        simp only [List.length_reverse, List.length_take, List.length_cons] at this
        omega
      have hst : stk = as.reverse ++ .ref b :: stk.drop (np + 1) := by
        have h9 := congrArg List.reverse hs
        simp only [List.reverse_reverse, List.reverse_cons] at h9
        have h8 := List.take_append_drop (np + 1) stk
        rw [h9, List.append_assoc] at h8
        exact h8.symm
      intro ls H locs hl hR hf
      rcases w1 with w1 | ⟨host, w1⟩
      · exact w_call (r := q) (va_runI (As := as) (rest := stk.drop (np + 1)) (b := b) ⟨hx, hb, hml, hown, hts⟩ (hV l G _ _ _ e3) ⟨callB_of np hts (sd_in v1) rfl rfl rfl (hts _ v2) (hts _ w1) v3 hr, hi, hts _ w2⟩ ⟨sd_blind _ _ _, fun U hU hW => ⟨rfl, by rw [hU]; exact hR, me_K.moved hW hKK⟩⟩ rfl hlen hl.1 hst (lv_room h3) d ⟨e5, e6⟩) hf (fun H1 locs1 hR1 hf1 => hK _ hF ls H1 locs1 hl hR1 hf1)
      · exact w_call (r := q) (va_runIN (As := as) (rest := stk.drop (np + 1)) (b := b) ⟨hx, hb, hml, hown, hts⟩ (hV l G _ _ _ e3) ⟨va_cnB np hts (sd_in v1) rfl rfl rfl (w1 _ _ hKK) (hts _ v2) v3 hr, hi, hts _ w2⟩ ⟨sd_blind _ _ _, fun U hU hW => ⟨rfl, by rw [hU]; exact hR, me_K.moved hW hKK⟩⟩ rfl hlen hl.1 hst (lv_room h3) d ⟨e5, e6⟩) hf (fun H1 locs1 hR1 hf1 => hK _ hF ls H1 locs1 hl hR1 hf1)
end XD
