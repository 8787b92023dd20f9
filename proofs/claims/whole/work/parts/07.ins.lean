/-! instructions on the memory -/
def i_gf (ci k nx : Nat) : sm_F := fun lo stk M c n K => match stk with
  | v :: t => (v_ref v).bind fun a => (me_obj M ci a).bind fun fs => (fs[k]?).bind fun w => K (nx, lo, w :: t, M, c, n)
  | [] => none
def i_pi (ci k nx : Nat) : sm_F := fun lo stk M c n K => match stk with
  | v :: w :: t => (v_int v).bind fun x => (v_ref w).bind fun a => (me_obj M ci a).bind fun fs => if k < fs.length then K (nx, lo, t, me_set M a (.inr (ci, fs.set k (.int x))), c, n) else none
  | _ => none
def i_pl (ci k nx : Nat) : sm_F := fun lo stk M c n K => match stk with
  | v :: w :: t => (v_long v).bind fun x => (v_ref w).bind fun a => (me_obj M ci a).bind fun fs => if k < fs.length then K (nx, lo, t, me_set M a (.inr (ci, fs.set k (.long x))), c, n) else none
  | _ => none
def i_pr (ci k nx : Nat) : sm_F := fun lo stk M c n K => match stk with
  | v :: w :: t => (v_rn v).bind fun _ => (v_ref w).bind fun a => (me_obj M ci a).bind fun fs => if k < fs.length then K (nx, lo, t, me_set M a (.inr (ci, fs.set k v)), c, n) else none
  | _ => none
/-- iaload, baload -/
def i_ia (kd nx : Nat) : sm_F := fun lo stk M c n K => match stk with
  | v :: w :: t => (v_int v).bind fun i => (v_ref w).bind fun a => (me_int M kd a).bind fun f => if i < 0 ∨ f.1 ≤ i.toNatClampNeg then none else K (nx, lo, .int (f.2 i.toNatClampNeg) :: t, M, c, n)
  | _ => none
def i_ist (nx : Nat) : sm_F := fun lo stk M c n K => match stk with
  | u :: v :: w :: t => (v_int u).bind fun x => (v_int v).bind fun i => (v_ref w).bind fun a => (me_int M 0 a).bind fun f => if i < 0 ∨ f.1 ≤ i.toNatClampNeg then none else K (nx, lo, t, me_set M a (.inl (0, f.1, .inl (upd f.2 i.toNatClampNeg x))), c, n)
  | _ => none
def i_bst (nx : Nat) : sm_F := fun lo stk M c n K => match stk with
  | u :: v :: w :: t => (v_int u).bind fun x => (v_int v).bind fun i => (v_ref w).bind fun a => (me_int M 2 a).bind fun f => if i < 0 ∨ f.1 ≤ i.toNatClampNeg then none else K (nx, lo, t, me_set M a (.inl (2, f.1, .inl (upd f.2 i.toNatClampNeg (x.toInt8.toInt32)))), c, n)
  | _ => none
def i_aa (kd nx : Nat) : sm_F := fun lo stk M c n K => match stk with
  | v :: w :: t => (v_int v).bind fun i => (v_ref w).bind fun a => (me_ref M kd a).bind fun f => if i < 0 ∨ f.1 ≤ i.toNatClampNeg then none else K (nx, lo, va_rf (f.2 i.toNatClampNeg) :: t, M, c, n)
  | _ => none
def i_okx (M : me_M) (ci : Nat) (x : Option Nat) : Bool := match x with
  | some b => (me_obj M ci b).isSome
  | none => true
def i_ast (kd ci nx : Nat) : sm_F := fun lo stk M c n K => match stk with
  | u :: v :: w :: t => (v_int v).bind fun i => (v_ref w).bind fun a => (me_ref M kd a).bind fun f => if i < 0 ∨ f.1 ≤ i.toNatClampNeg then none else (v_rn u).bind fun x => cond (i_okx M ci x) (K (nx, lo, t, me_set M a (.inl (kd, f.1, .inr (.inr (.inr (.inr (va_up f.2 i.toNatClampNeg x)))))), c, n)) none
  | _ => none
def i_len (nx : Nat) : sm_F := fun lo stk M c n K => match stk with
  | v :: t => (v_ref v).bind fun a => (me_len M a).bind fun z => K (nx, lo, .int (Int32.ofNat z) :: t, M, c, n)
  | [] => none
def i_new (ci N : Nat) (fs : List Value) (mc ms nx : Nat) : sm_F := fun lo stk M c n K => cond (Nat.ble (c + 1) mc && Nat.ble (n + N) ms) (K (nx, lo, .ref M.1 :: stk, me_new M (.inr (ci, fs)), c + 1, n + N)) none
def i_na (kd mc ms nx : Nat) : sm_F := fun lo stk M c n K => match stk with
  | v :: t => (v_int v).bind fun x => if x < 0 then none else cond (Nat.ble (c + 1) mc && Nat.ble (n + x.toNatClampNeg) ms) (K (nx, lo, .ref M.1 :: t, me_new M (.inl (kd, x.toNatClampNeg, .inl (fun _ => 0))), c + 1, n + x.toNatClampNeg)) none
  | [] => none
def i_nr (kd mc ms nx : Nat) : sm_F := fun lo stk M c n K => match stk with
  | v :: t => (v_int v).bind fun x => if x < 0 then none else cond (Nat.ble (c + 1) mc && Nat.ble (n + x.toNatClampNeg) ms) (K (nx, lo, .ref M.1 :: t, me_new M (.inl (kd, x.toNatClampNeg, .inr (.inr (.inr (.inr (fun _ => none)))))), c + 1, n + x.toNatClampNeg)) none
  | [] => none
def i_oi (nx : Nat) : sm_F := fun lo stk M c n K => match stk with
  | v :: t => (v_ref v).bind fun _ => cond (Nat.ble t.length 4) (K (nx, lo, t, M, c, n)) none
  | [] => none
/-- System.arraycopy of ints -/
def i_cp (nx : Nat) : sm_F := fun lo stk M c n K => match stk with
  | z5 :: z4 :: z3 :: z2 :: z1 :: t => cond (Nat.ble t.length 4) ((v_ref z1).bind fun a0 => (v_int z2).bind fun sp => (v_ref z3).bind fun a => (v_int z4).bind fun dp => (v_int z5).bind fun k => (me_int M 0 a0).bind fun f => (me_int M 0 a).bind fun g =>
      if sp < 0 ∨ dp < 0 ∨ k < 0 ∨ f.1 < sp.toNatClampNeg + k.toNatClampNeg ∨ g.1 < dp.toNatClampNeg + k.toNatClampNeg then none else K (nx, lo, t, me_set M a (.inl (0, g.1, .inl (va_cpy f.2 g.2 sp.toNatClampNeg dp.toNatClampNeg k.toNatClampNeg))), c, n)) none
  | _ => none
/-- Math.max of ints, Math.min of longs -/
def i_mx (nx mc ms : Nat) : sm_F := fun lo stk M c n K => match stk with
  | v :: w :: t => cond (Nat.ble t.length 4 && (Nat.ble c mc && Nat.ble n ms)) ((v_int w).bind fun x => (v_int v).bind fun z => K (nx, lo, .int (if x < z then z else x) :: t, M, c, n)) none
  | _ => none
def i_mn (nx mc ms : Nat) : sm_F := fun lo stk M c n K => match stk with
  | v :: w :: t => cond (Nat.ble t.length 4 && (Nat.ble c mc && Nat.ble n ms)) ((v_long w).bind fun x => (v_long v).bind fun z => K (nx, lo, .long (if z < x then z else x) :: t, M, c, n)) none
  | _ => none
/-- what a call leaves on the stack: 0 nothing, 1 an int, 2 a long, else a reference or null -/
def i_rk (rk : Nat) (o : Option Value) (K : List Value → Option sm_R) : Option sm_R := match rk with
  | 0 => cond o.isNone (K []) none
  | 1 => o.bind fun v => (v_int v).bind fun x => K [.int x]
  | 2 => o.bind fun v => (v_long v).bind fun x => K [.long x]
  | _ => o.bind fun v => (v_rn v).bind fun _ => K [v]
/-- the rest of the stack at a call: eight words at most -/
def st_ok (t : List Value) : Bool := Nat.ble t.length 4 || (Nat.ble t.length 8 && t.all (fun v => Nat.beq v.category 1))
/-- a call of f with na arguments (the receiver, if there is one, among them); rc: the number of the receiver's class -/
def i_cv (ci na rk : Nat) (f : List Value → me_M → Option sm_R) (mz nz mc ms nx : Nat) : sm_F := fun lo stk M c n K =>
  cond (Nat.ble na stk.length && st_ok (stk.drop na)) (match (stk.take na).reverse with
    | v :: as => (v_ref v).bind fun b => (me_obj M ci b).bind fun _ => (f (.ref b :: as) M).bind fun r => cond (Nat.ble (c + mz) mc && Nat.ble (n + nz) ms) (i_rk rk r.1 fun ts => K (nx, lo, ts ++ stk.drop na, r.2, c + mz, n + nz)) none
    | [] => none) none
def i_cs (na rk : Nat) (f : List Value → me_M → Option sm_R) (mz nz mc ms nx : Nat) : sm_F := fun lo stk M c n K =>
  cond (Nat.ble na stk.length && st_ok (stk.drop na)) ((f (stk.take na).reverse M).bind fun r => cond (Nat.ble (c + mz) mc && Nat.ble (n + nz) ms) (i_rk rk r.1 fun ts => K (nx, lo, ts ++ stk.drop na, r.2, c + mz, n + nz)) none) none
theorem ok_cd {b : Bool} {g h : sm_K → Option sm_R} (hg : ok_P g) (hh : ok_P h) : ok_P (fun K => cond b (g K) (h K)) := by
  cases b
  · exact hh
  · exact hg
theorem ok_rk (rk : Nat) (o : Option Value) {g : List Value → sm_K → Option sm_R} (h : ∀ ts, ok_P (g ts)) : ok_P (fun K => i_rk rk o fun ts => g ts K) := by
  match rk with
  | 0 => exact ok_cd (h []) (ok_c none)
  | 1 => exact ok_b o fun v => ok_b _ fun x => h _
  | 2 => exact ok_b o fun v => ok_b _ fun x => h _
  | k + 3 => exact ok_b o fun v => ok_b _ fun x => h _
theorem cd_eq {b : Bool} {x : Option sm_R} {r : sm_R} (h : cond b x none = some r) : b = true ∧ x = some r := by
  cases b
  · cases h
  · exact ⟨rfl, h⟩
theorem rk_eq {rk : Nat} {o : Option Value} {K : List Value → Option sm_R} {r : sm_R} (h : i_rk rk o K = some r) : K o.toList = some r := by
  match rk with
  | 0 =>
    obtain ⟨h1, h2⟩ := cd_eq h
    cases o with
    | none => exact h2
    | some _ => cases h1
  | 1 =>
    obtain ⟨v, rfl, hA⟩ := Option.bind_eq_some_iff.mp h
    obtain ⟨x, h2, hB⟩ := Option.bind_eq_some_iff.mp hA
    cases v_int_eq h2
    exact hB
  | 2 =>
    obtain ⟨v, rfl, hA⟩ := Option.bind_eq_some_iff.mp h
    obtain ⟨x, h2, hB⟩ := Option.bind_eq_some_iff.mp hA
    cases v_long_eq h2
    exact hB
  | k + 3 =>
    obtain ⟨v, rfl, hA⟩ := Option.bind_eq_some_iff.mp h
    obtain ⟨x, h2, hB⟩ := Option.bind_eq_some_iff.mp hA
    exact hB
theorem bb_eq {a b c d : Nat} (h : (Nat.ble a b && Nat.ble c d) = true) : a ≤ b ∧ c ≤ d := by
  rw [Bool.and_eq_true] at h
  exact ⟨Nat.le_of_ble_eq_true h.1, Nat.le_of_ble_eq_true h.2⟩
theorem cat_le (t : List Value) : (t.map fun v => v.category).sum ≤ 2 * t.length := by
  induction t with
  | nil => simp
  | cons v t ih =>
    have := lv_cat v
    simp only [List.map_cons, List.sum_cons, List.length_cons]
    omega
theorem cat_1 : ∀ t : List Value, (t.all (fun v => Nat.beq v.category 1)) = true → (t.map fun v => v.category).sum = t.length
  | [], _ => rfl
  | v :: t, h => by
    rw [List.all_cons, Bool.and_eq_true] at h
    have h1 := Nat.eq_of_beq_eq_true h.1
    have h2 := cat_1 t h.2
    simp only [List.map_cons, List.sum_cons, List.length_cons]
    omega
theorem st_le {t : List Value} (h : st_ok t = true) : (t.map fun v => v.category).sum ≤ 8 := by
  unfold st_ok at h
  rw [Bool.or_eq_true, Bool.and_eq_true] at h
  rcases h with h | ⟨h, h2⟩
  · have h3 := Nat.le_of_ble_eq_true h
    have := cat_le t
    omega
  · have h3 := Nat.le_of_ble_eq_true h
    rw [cat_1 t h2]
    exact h3
theorem bs_eq {a b : Nat} {t : List Value} (h : (Nat.ble a b && st_ok t) = true) : a ≤ b ∧ (t.map fun v => v.category).sum ≤ 8 := by
  rw [Bool.and_eq_true] at h
  exact ⟨Nat.le_of_ble_eq_true h.1, st_le h.2⟩
theorem oi_eq {p : Prop} [Decidable p] {x : Option sm_R} {r : sm_R} (h : (if p then none else x) = some r) : ¬ p ∧ x = some r := by
  by_cases hp : p
  · rw [if_pos hp] at h; cases h
  · rw [if_neg hp] at h; exact ⟨hp, h⟩
theorem oe_eq {p : Prop} [Decidable p] {x : Option sm_R} {r : sm_R} (h : (if p then x else none) = some r) : p ∧ x = some r := by
  by_cases hp : p
  · rw [if_pos hp] at h; exact ⟨hp, h⟩
  · rw [if_neg hp] at h; cases h
section SD
variable {y : MethodName} {cc : ByteArray} {nL : Nat} {ret : Option FieldType} {rm : Room} {pc : Nat}
theorem s_gf {ci k ix N : Nat} {C : String} {T : u_T} (d : decode cc pc = .ok (.getfield ix, 3)) (hc : me_cl[ci]? = some (C, T, N)) (hin : ∀ w ∈ u_ws C T N, w ∈ me_w) (hk : k < N) (w : Cond.fieldLink y.cls ix (T k).1 (T k).2.1 (T k).2.2.1 ∈ me_w) : sd_S y cc nL ret rm pc (i_gf ci k (pc + 3)) := by
  refine ⟨fun lo stk M k n => ?_, fun G p l e s m args below meth c C lo stk M k n K r h hK => ?_⟩
  · cases stk with
    | nil => exact ok_c none
    | cons v t => exact ok_b _ fun _ => ok_b _ fun _ => ok_b _ fun _ => ok_K _
  · obtain ⟨hx, hb, hml, hown, hts, hKK, hlk, hrt, hnm⟩ := C
    cases stk with
    | nil => cases h
    | cons v t =>
      obtain ⟨a, h1, hA⟩ := Option.bind_eq_some_iff.mp h
      obtain ⟨fs, h2, hB⟩ := Option.bind_eq_some_iff.mp hA
      obtain ⟨z, h3, hC⟩ := Option.bind_eq_some_iff.mp hB
      cases v_ref_eq h1
      intro ls H locs hl hR hf
      exact va_get hx hb hts hin hown hKK.1 (hR.one (me_obj_eq h2)) 0 rfl hc _ hk (hts _ w) (fun _ h9 => h9) h3 d (hK _ hC ls H locs hl hR hf)
theorem s_pi {ci k ix N : Nat} {C : String} {T : u_T} {ty0 : Nat → FieldType} (d : decode cc pc = .ok (.putfield ix, 3)) (hc : me_cl[ci]? = some (C, T, N)) (hin : ∀ w ∈ u_ws C T N, w ∈ me_w) (hty : ∀ k, k < N → parseFieldDescriptor (T k).2.2.1 = some (ty0 k)) (hnn : ∀ a, a < N → ∀ b, b < N → a ≠ b → (T a).2.1 ≠ (T b).2.1) (hk : k < N) (w : Cond.fieldLink y.cls ix (T k).1 (T k).2.1 (T k).2.2.1 ∈ me_w) (hfin : (T k).2.2.2 = false ∨ ((T k).2.2.2 = true ∧ y.name = "<init>" ∧ (T k).1 = y.cls)) (hd : ty0 k = .int) : sd_S y cc nL ret rm pc (i_pi ci k (pc + 3)) := by
  refine ⟨fun lo stk M k n => ?_, fun G p l e s m args below meth c C lo stk M k n K r h hK => ?_⟩
  · rcases stk with _ | ⟨v, _ | ⟨w, t⟩⟩
    · exact ok_c none
    · exact ok_c none
    · exact ok_b _ fun _ => ok_b _ fun _ => ok_b _ fun _ => ok_i (ok_K _) (ok_c none)
  · obtain ⟨hx, hb, hml, hown, hts, hKK, hlk, hrt, hnm⟩ := C
    rcases stk with _ | ⟨v, _ | ⟨u, t⟩⟩
    · cases h
    · cases h
    · obtain ⟨x, h1, hA⟩ := Option.bind_eq_some_iff.mp h
      obtain ⟨a, h2, hB⟩ := Option.bind_eq_some_iff.mp hA
      obtain ⟨fs, h3, hC⟩ := Option.bind_eq_some_iff.mp hB
      obtain ⟨h4, hD⟩ := oe_eq hC
      cases v_int_eq h1
      cases v_ref_eq h2
      intro ls H locs hl hR hf
      exact w_put hx hb hts hin ty0 hty hnn hown hKK hR (me_obj_eq h3) hc _ hk (hts _ w) (by rw [hnm]; exact hfin) (hty _ hk) (by rw [hd]; rfl) (by rw [hd]; rfl) h4 hf d (fun H1 locs1 hR1 hf1 => hK _ hD ls H1 locs1 hl hR1 hf1)
theorem s_pl {ci k ix N : Nat} {C : String} {T : u_T} {ty0 : Nat → FieldType} (d : decode cc pc = .ok (.putfield ix, 3)) (hc : me_cl[ci]? = some (C, T, N)) (hin : ∀ w ∈ u_ws C T N, w ∈ me_w) (hty : ∀ k, k < N → parseFieldDescriptor (T k).2.2.1 = some (ty0 k)) (hnn : ∀ a, a < N → ∀ b, b < N → a ≠ b → (T a).2.1 ≠ (T b).2.1) (hk : k < N) (w : Cond.fieldLink y.cls ix (T k).1 (T k).2.1 (T k).2.2.1 ∈ me_w) (hfin : (T k).2.2.2 = false ∨ ((T k).2.2.2 = true ∧ y.name = "<init>" ∧ (T k).1 = y.cls)) (hd : ty0 k = .long) : sd_S y cc nL ret rm pc (i_pl ci k (pc + 3)) := by
  refine ⟨fun lo stk M k n => ?_, fun G p l e s m args below meth c C lo stk M k n K r h hK => ?_⟩
  · rcases stk with _ | ⟨v, _ | ⟨w, t⟩⟩
    · exact ok_c none
    · exact ok_c none
    · exact ok_b _ fun _ => ok_b _ fun _ => ok_b _ fun _ => ok_i (ok_K _) (ok_c none)
  · obtain ⟨hx, hb, hml, hown, hts, hKK, hlk, hrt, hnm⟩ := C
    rcases stk with _ | ⟨v, _ | ⟨u, t⟩⟩
    · cases h
    · cases h
    · obtain ⟨x, h1, hA⟩ := Option.bind_eq_some_iff.mp h
      obtain ⟨a, h2, hB⟩ := Option.bind_eq_some_iff.mp hA
      obtain ⟨fs, h3, hC⟩ := Option.bind_eq_some_iff.mp hB
      obtain ⟨h4, hD⟩ := oe_eq hC
      cases v_long_eq h1
      cases v_ref_eq h2
      intro ls H locs hl hR hf
      exact w_put hx hb hts hin ty0 hty hnn hown hKK hR (me_obj_eq h3) hc _ hk (hts _ w) (by rw [hnm]; exact hfin) (hty _ hk) (by rw [hd]; rfl) (by rw [hd]; rfl) h4 hf d (fun H1 locs1 hR1 hf1 => hK _ hD ls H1 locs1 hl hR1 hf1)
theorem s_pr {ci k ix N : Nat} {C : String} {T : u_T} {ty0 : Nat → FieldType} (d : decode cc pc = .ok (.putfield ix, 3)) (hc : me_cl[ci]? = some (C, T, N)) (hin : ∀ w ∈ u_ws C T N, w ∈ me_w) (hty : ∀ k, k < N → parseFieldDescriptor (T k).2.2.1 = some (ty0 k)) (hnn : ∀ a, a < N → ∀ b, b < N → a ≠ b → (T a).2.1 ≠ (T b).2.1) (hk : k < N) (w : Cond.fieldLink y.cls ix (T k).1 (T k).2.1 (T k).2.2.1 ∈ me_w) (hfin : (T k).2.2.2 = false ∨ ((T k).2.2.2 = true ∧ y.name = "<init>" ∧ (T k).1 = y.cls)) (hd : (∃ q, ty0 k = .object q) ∨ ∃ q, ty0 k = .array q) : sd_S y cc nL ret rm pc (i_pr ci k (pc + 3)) := by
  refine ⟨fun lo stk M k n => ?_, fun G p l e s m args below meth c C lo stk M k n K r h hK => ?_⟩
  · rcases stk with _ | ⟨v, _ | ⟨w, t⟩⟩
    · exact ok_c none
    · exact ok_c none
    · exact ok_b _ fun _ => ok_b _ fun _ => ok_b _ fun _ => ok_i (ok_K _) (ok_c none)
  · obtain ⟨hx, hb, hml, hown, hts, hKK, hlk, hrt, hnm⟩ := C
    rcases stk with _ | ⟨v, _ | ⟨u, t⟩⟩
    · cases h
    · cases h
    · obtain ⟨x, h1, hA⟩ := Option.bind_eq_some_iff.mp h
      obtain ⟨a, h2, hB⟩ := Option.bind_eq_some_iff.mp hA
      obtain ⟨fs, h3, hC⟩ := Option.bind_eq_some_iff.mp hB
      obtain ⟨h4, hD⟩ := oe_eq hC
      have e := v_rn_eq h1
      subst e
      cases v_ref_eq h2
      intro ls H locs hl hR hf
      exact w_put hx hb hts hin ty0 hty hnn hown hKK hR (me_obj_eq h3) hc _ hk (hts _ w) (by rw [hnm]; exact hfin) (hty _ hk) (by rcases hd with ⟨q, hd⟩ | ⟨q, hd⟩ <;> rw [hd] <;> cases x <;> rfl) (by rcases hd with ⟨q, hd⟩ | ⟨q, hd⟩ <;> rw [hd] <;> cases x <;> rfl) h4 hf d (fun H1 locs1 hR1 hf1 => hK _ hD ls H1 locs1 hl hR1 hf1)
theorem s_iald (d : decode cc pc = .ok (.iaload, 1)) : sd_S y cc nL ret rm pc (i_ia 0 (pc + 1)) := by
  refine ⟨fun lo stk M k n => ?_, fun G p l e s m args below meth c C lo stk M k n K r h hK => ?_⟩
  · rcases stk with _ | ⟨v, _ | ⟨w, t⟩⟩
    · exact ok_c none
    · exact ok_c none
    · exact ok_b _ fun _ => ok_b _ fun _ => ok_b _ fun _ => ok_i (ok_c none) (ok_K _)
  · obtain ⟨hx, hb, hml, hown, hts, hKK, hlk, hrt, hnm⟩ := C
    rcases stk with _ | ⟨v, _ | ⟨u, t⟩⟩
    · cases h
    · cases h
    · obtain ⟨x, h1, hA⟩ := Option.bind_eq_some_iff.mp h
      obtain ⟨a, h2, hB⟩ := Option.bind_eq_some_iff.mp hA
      obtain ⟨⟨z, f⟩, h3, hC⟩ := Option.bind_eq_some_iff.mp hB
      obtain ⟨h4, hD⟩ := oi_eq hC
      cases v_int_eq h1
      cases v_ref_eq h2
      intro ls H locs hl hR hf
      exact va_iald hx hb hKK.1 (hR.one (me_int_eq h3)) 0 0 rfl rfl h4 d (hK _ hD ls H locs hl hR hf)
theorem s_bald (d : decode cc pc = .ok (.baload, 1)) : sd_S y cc nL ret rm pc (i_ia 2 (pc + 1)) := by
  refine ⟨fun lo stk M k n => ?_, fun G p l e s m args below meth c C lo stk M k n K r h hK => ?_⟩
  · rcases stk with _ | ⟨v, _ | ⟨w, t⟩⟩
    · exact ok_c none
    · exact ok_c none
    · exact ok_b _ fun _ => ok_b _ fun _ => ok_b _ fun _ => ok_i (ok_c none) (ok_K _)
  · obtain ⟨hx, hb, hml, hown, hts, hKK, hlk, hrt, hnm⟩ := C
    rcases stk with _ | ⟨v, _ | ⟨u, t⟩⟩
    · cases h
    · cases h
    · obtain ⟨x, h1, hA⟩ := Option.bind_eq_some_iff.mp h
      obtain ⟨a, h2, hB⟩ := Option.bind_eq_some_iff.mp hA
      obtain ⟨⟨z, f⟩, h3, hC⟩ := Option.bind_eq_some_iff.mp hB
      obtain ⟨h4, hD⟩ := oi_eq hC
      cases v_int_eq h1
      cases v_ref_eq h2
      intro ls H locs hl hR hf
      exact va_bald hx hb hKK.1 (hR.one (me_int_eq h3)) 0 2 rfl rfl h4 d (hK _ hD ls H locs hl hR hf)
theorem s_ist (d : decode cc pc = .ok (.iastore, 1)) : sd_S y cc nL ret rm pc (i_ist (pc + 1)) := by
  refine ⟨fun lo stk M k n => ?_, fun G p l e s m args below meth c C lo stk M k n K r h hK => ?_⟩
  · rcases stk with _ | ⟨v, _ | ⟨w, _ | ⟨z, t⟩⟩⟩
    · exact ok_c none
    · exact ok_c none
    · exact ok_c none
    · exact ok_b _ fun _ => ok_b _ fun _ => ok_b _ fun _ => ok_b _ fun _ => ok_i (ok_c none) (ok_K _)
  · obtain ⟨hx, hb, hml, hown, hts, hKK, hlk, hrt, hnm⟩ := C
    rcases stk with _ | ⟨u, _ | ⟨v, _ | ⟨w, t⟩⟩⟩
    · cases h
    · cases h
    · cases h
    · obtain ⟨x, h1, hA⟩ := Option.bind_eq_some_iff.mp h
      obtain ⟨i, h2, hB⟩ := Option.bind_eq_some_iff.mp hA
      obtain ⟨a, h3, hC⟩ := Option.bind_eq_some_iff.mp hB
      obtain ⟨⟨z, f⟩, h4, hD⟩ := Option.bind_eq_some_iff.mp hC
      obtain ⟨h5, hE⟩ := oi_eq hD
      cases v_int_eq h1
      cases v_int_eq h2
      cases v_ref_eq h3
      intro ls H locs hl hR hf
      exact w_iast hx hb hKK hR (me_int_eq h4) h5 hf d (fun H1 locs1 hR1 hf1 => hK _ hE ls H1 locs1 hl hR1 hf1)
theorem s_bst (d : decode cc pc = .ok (.bastore, 1)) : sd_S y cc nL ret rm pc (i_bst (pc + 1)) := by
  refine ⟨fun lo stk M k n => ?_, fun G p l e s m args below meth c C lo stk M k n K r h hK => ?_⟩
  · rcases stk with _ | ⟨v, _ | ⟨w, _ | ⟨z, t⟩⟩⟩
    · exact ok_c none
    · exact ok_c none
    · exact ok_c none
    · exact ok_b _ fun _ => ok_b _ fun _ => ok_b _ fun _ => ok_b _ fun _ => ok_i (ok_c none) (ok_K _)
  · obtain ⟨hx, hb, hml, hown, hts, hKK, hlk, hrt, hnm⟩ := C
    rcases stk with _ | ⟨u, _ | ⟨v, _ | ⟨w, t⟩⟩⟩
    · cases h
    · cases h
    · cases h
    · obtain ⟨x, h1, hA⟩ := Option.bind_eq_some_iff.mp h
      obtain ⟨i, h2, hB⟩ := Option.bind_eq_some_iff.mp hA
      obtain ⟨a, h3, hC⟩ := Option.bind_eq_some_iff.mp hB
      obtain ⟨⟨z, f⟩, h4, hD⟩ := Option.bind_eq_some_iff.mp hC
      obtain ⟨h5, hE⟩ := oi_eq hD
      cases v_int_eq h1
      cases v_int_eq h2
      cases v_ref_eq h3
      intro ls H locs hl hR hf
      exact w_bast hx hb hKK hR (me_int_eq h4) h5 hf d (fun H1 locs1 hR1 hf1 => hK _ hE ls H1 locs1 hl hR1 hf1)
theorem s_aald {kd : Nat} (d : decode cc pc = .ok (.aaload, 1)) (hkd : kd = 3 ∨ kd = 4) : sd_S y cc nL ret rm pc (i_aa kd (pc + 1)) := by
  refine ⟨fun lo stk M k n => ?_, fun G p l e s m args below meth c C lo stk M k n K r h hK => ?_⟩
  · rcases stk with _ | ⟨v, _ | ⟨w, t⟩⟩
    · exact ok_c none
    · exact ok_c none
    · exact ok_b _ fun _ => ok_b _ fun _ => ok_b _ fun _ => ok_i (ok_c none) (ok_K _)
  · obtain ⟨hx, hb, hml, hown, hts, hKK, hlk, hrt, hnm⟩ := C
    rcases stk with _ | ⟨v, _ | ⟨u, t⟩⟩
    · cases h
    · cases h
    · obtain ⟨x, h1, hA⟩ := Option.bind_eq_some_iff.mp h
      obtain ⟨a, h2, hB⟩ := Option.bind_eq_some_iff.mp hA
      obtain ⟨⟨z, f⟩, h3, hC⟩ := Option.bind_eq_some_iff.mp hB
      obtain ⟨h4, hD⟩ := oi_eq hC
      cases v_int_eq h1
      cases v_ref_eq h2
      intro ls H locs hl hR hf
      rcases hkd with rfl | rfl
      · exact va_aldq hx hb hKK.1 (hR.one (me_ref_eq h3)) 0 3 rfl rfl h4 d (hK _ hD ls H locs hl hR hf)
      · exact va_aldq hx hb hKK.1 (hR.one (me_ref_eq h3)) 0 4 rfl rfl h4 d (hK _ hD ls H locs hl hR hf)
theorem s_ast {kd ci N : Nat} {C : String} {T : u_T} (d : decode cc pc = .ok (.aastore, 1)) (hc : me_cl[ci]? = some (C, T, N)) (ht : ∀ G : me_G, (me_ty G)[kd]? = some (G.2.1 kd, .object C)) : sd_S y cc nL ret rm pc (i_ast kd ci (pc + 1)) := by
  refine ⟨fun lo stk M k n => ?_, fun G p l e s m args below meth c C lo stk M k n K r h hK => ?_⟩
  · rcases stk with _ | ⟨v, _ | ⟨w, _ | ⟨z, t⟩⟩⟩
    · exact ok_c none
    · exact ok_c none
    · exact ok_c none
    · exact ok_b _ fun _ => ok_b _ fun _ => ok_b _ fun _ => ok_i (ok_c none) (ok_b _ fun x => ok_cd (ok_K _) (ok_c none))
  · obtain ⟨hx, hb, hml, hown, hts, hKK, hlk, hrt, hnm⟩ := C
    rcases stk with _ | ⟨u, _ | ⟨v, _ | ⟨w, t⟩⟩⟩
    · cases h
    · cases h
    · cases h
    · obtain ⟨i, h2, hB⟩ := Option.bind_eq_some_iff.mp h
      obtain ⟨a, h3, hC⟩ := Option.bind_eq_some_iff.mp hB
      obtain ⟨⟨z, f⟩, h4, hD⟩ := Option.bind_eq_some_iff.mp hC
      obtain ⟨h5, hE⟩ := oi_eq hD
      obtain ⟨x, h1, hF⟩ := Option.bind_eq_some_iff.mp hE
      obtain ⟨h7, hF⟩ := cd_eq hF
      cases v_int_eq h2
      cases v_ref_eq h3
      have e := v_rn_eq h1
      subst e
      intro ls H locs hl hR hf
      cases x with
      | none => exact w_astN hx hb hKK hR (ht G) (me_ref_eq h4) h5 hf d (fun H1 locs1 hR1 hf1 => hK _ hF ls H1 locs1 hl hR1 hf1)
      | some b =>
        obtain ⟨vs, h6⟩ := Option.isSome_iff_exists.mp h7
        exact w_ast (r := (_, T, N)) hx hb hKK hR (ht G) (me_obj_eq h6) hc (me_ref_eq h4) h5 hf d (fun H1 locs1 hR1 hf1 => hK _ hF ls H1 locs1 hl hR1 hf1)
theorem s_len (d : decode cc pc = .ok (.arraylength, 1)) : sd_S y cc nL ret rm pc (i_len (pc + 1)) := by
  refine ⟨fun lo stk M k n => ?_, fun G p l e s m args below meth c C lo stk M k n K r h hK => ?_⟩
  · cases stk with
    | nil => exact ok_c none
    | cons v t => exact ok_b _ fun _ => ok_b _ fun _ => ok_K _
  · obtain ⟨hx, hb, hml, hown, hts, hKK, hlk, hrt, hnm⟩ := C
    cases stk with
    | nil => cases h
    | cons v t =>
      obtain ⟨a, h1, hA⟩ := Option.bind_eq_some_iff.mp h
      obtain ⟨z, h2, hB⟩ := Option.bind_eq_some_iff.mp hA
      cases v_ref_eq h1
      obtain ⟨kd, x, h3, h4⟩ := me_len_eq h2
      intro ls H locs hl hR hf
      have go : ∀ ty, (me_ty G)[kd]? = some (G.2.1 kd, ty) → W p l e rm s m args below meth c H locs k n (sd_Q G s args below rm r) (F0 m pc ls (.ref a :: t)) := fun ty ht => va_alen hx hb hKK.1 (hR.one h3) 0 kd rfl ht rfl d (hK _ hB ls H locs hl hR hf)
      rcases (show kd = 0 ∨ kd = 1 ∨ kd = 2 ∨ kd = 3 ∨ kd = 4 by omega) with rfl | rfl | rfl | rfl | rfl
      · exact go _ rfl
      · exact go _ rfl
      · exact go _ rfl
      · exact go _ rfl
      · exact go _ rfl
theorem s_new {ci ix N : Nat} {C : String} {T : u_T} {ty0 : Nat → FieldType} {fs : List Value} (d : decode cc pc = .ok (.new ix, 3)) (hc : me_cl[ci]? = some (C, T, N)) (hin : ∀ w ∈ u_ws C T N, w ∈ me_w) (hty : ∀ k, k < N → parseFieldDescriptor (T k).2.2.1 = some (ty0 k)) (w1 : Cond.classLink y.cls ix C ∈ me_w) (w2 : Cond.instantiable C N ∈ me_w) (w3 : Cond.initialized C ∈ me_w) (hfs : ∀ j, j < N → defaultValue (ty0 j) = vp_V fs j) : sd_S y cc nL ret rm pc (i_new ci N fs rm.cells rm.slots (pc + 3)) := by
  refine ⟨fun lo stk M k n => ok_cd (ok_K _) (ok_c none), fun G p l e s m args below meth c C lo stk M k n K r h hK => ?_⟩
  obtain ⟨hx, hb, hml, hown, hts, hKK, hlk, hrt, hnm⟩ := C
  obtain ⟨h1, hA⟩ := cd_eq h
  obtain ⟨h2, h3⟩ := bb_eq h1
  intro ls H locs hl hR hf
  exact w_new hx hb hts hin ty0 hty hown (hts _ w1) (hts _ w2) (hts _ w3) hKK hR hc hfs h2 h3 d (fun H1 hR1 => hK _ hA ls H1 locs hl hR1 hf)
theorem s_na {atype : ArrayType} {kd : Nat} {ty : FieldType} (d : decode cc pc = .ok (.newarray atype, 2)) (hms : rm.slots ≤ 134217728) (hty : newarray.typeOf atype = ty) (hz : defaultValue ty = .int 0) (hbt : componentBytes ty ≤ 4) (w : Cond.arrayClass ty ∈ me_w) (ht : ∀ G : me_G, (me_ty G)[kd]? = some (G.2.1 kd, ty)) (hpr : ∀ (s : State) (cA : ClassId), va_RA s cA ty = (s.vm.findClass ("[" ++ ty.toString) = some cA)) : sd_S y cc nL ret rm pc (i_na kd rm.cells rm.slots (pc + 2)) := by
  refine ⟨fun lo stk M k n => ?_, fun G p l e s m args below meth c C lo stk M k n K r h hK => ?_⟩
  · cases stk with
    | nil => exact ok_c none
    | cons v t => exact ok_b _ fun _ => ok_i (ok_c none) (ok_cd (ok_K _) (ok_c none))
  · obtain ⟨hx, hb, hml, hown, hts, hKK, hlk, hrt, hnm⟩ := C
    cases stk with
    | nil => cases h
    | cons v t =>
      obtain ⟨x, h1, hA⟩ := Option.bind_eq_some_iff.mp h
      obtain ⟨h2, hB⟩ := oi_eq hA
      obtain ⟨h3, hC⟩ := cd_eq hB
      obtain ⟨h4, h5⟩ := bb_eq h3
      cases v_int_eq h1
      intro ls H locs hl hR hf
      exact w_newa hx hb hty hz hbt (by rw [hty]; exact hts _ w) hKK hR (ht G) (hpr _ _) h2 rfl (by omega) h4 h5 d (fun H1 hR1 => hK _ hC ls H1 locs hl hR1 hf)
theorem s_nr {kd ix : Nat} {C : String} (d : decode cc pc = .ok (.anewarray ix, 3)) (hms : rm.slots ≤ 134217728) (w1 : Cond.classLink y.cls ix C ∈ me_w) (w2 : ∀ (G : me_G) (s : State), me_K G s → va_AO C s) (ht : ∀ G : me_G, (me_ty G)[kd]? = some (G.2.1 kd, .object C)) : sd_S y cc nL ret rm pc (i_nr kd rm.cells rm.slots (pc + 3)) := by
  refine ⟨fun lo stk M k n => ?_, fun G p l e s m args below meth c C lo stk M k n K r h hK => ?_⟩
  · cases stk with
    | nil => exact ok_c none
    | cons v t => exact ok_b _ fun _ => ok_i (ok_c none) (ok_cd (ok_K _) (ok_c none))
  · obtain ⟨hx, hb, hml, hown, hts, hKK, hlk, hrt, hnm⟩ := C
    cases stk with
    | nil => cases h
    | cons v t =>
      obtain ⟨x, h1, hA⟩ := Option.bind_eq_some_iff.mp h
      obtain ⟨h2, hB⟩ := oi_eq hA
      obtain ⟨h3, hC⟩ := cd_eq hB
      obtain ⟨h4, h5⟩ := bb_eq h3
      cases v_int_eq h1
      intro ls H locs hl hR hf
      exact w_newr hx hb hown (hts _ w1) (va_AO.use (w2 _ _ hKK)) hKK hR (ht G) h2 rfl (by omega) h4 h5 d (fun H1 hR1 => hK _ hC ls H1 locs hl hR1 hf)
theorem s_oi {ix : Nat} (d : decode cc pc = .ok (.invokespecial ix, 3)) (w1 : Cond.methodLink y.cls ix Lib.objectInit ∈ me_w) (w2 : Cond.instanceMethod Lib.objectInit ∈ me_w) (w3 : Cond.code Lib.objectInit ⟨#[0xb1]⟩ 1 none ∈ me_w) (hr : 1 ≤ rm.frames ∧ 20 ≤ rm.locals) : sd_S y cc nL ret rm pc (i_oi (pc + 3)) := by
  refine ⟨fun lo stk M k n => ?_, fun G p l e s m args below meth c C lo stk M k n K r h hK => ?_⟩
  · cases stk with
    | nil => exact ok_c none
    | cons v t => exact ok_b _ fun _ => ok_cd (ok_K _) (ok_c none)
  · obtain ⟨hx, hb, hml, hown, hts, hKK, hlk, hrt, hnm⟩ := C
    cases stk with
    | nil => cases h
    | cons v t =>
      obtain ⟨a, h1, hA⟩ := Option.bind_eq_some_iff.mp h
      obtain ⟨h2, hB⟩ := cd_eq hA
      have h3 := Nat.le_of_ble_eq_true h2
      cases v_ref_eq h1
      intro ls H locs hl hR hf
      refine W.objInit hx hb hown (hts _ w1) (hts _ w2) (hts _ w3) rfl (by rw [hml]; exact hl.1) rfl d hr.1 ?_ (W.eq rfl (hK _ hB ls H locs hl hR hf))
      have := cat_le t
      show 2 * 0 + _ + 12 ≤ _
      omega
theorem s_cp {ix : Nat} (d : decode cc pc = .ok (.invokestatic ix, 3)) (w1 : Cond.methodLink y.cls ix arraycopyName ∈ me_w) (w2 : Cond.native arraycopyName ∈ me_w) (w3 : Cond.static arraycopyName ∈ me_w) (w4 : Cond.initialized "java/lang/System" ∈ me_w) (hr : 1 ≤ rm.frames ∧ 8 + (nativeFrameWords "java/lang/System" "arraycopy" 5 + 11) ≤ rm.locals) : sd_S y cc nL ret rm pc (i_cp (pc + 3)) := by
  refine ⟨fun lo stk M k n => ?_, fun G p l e s m args below meth c C lo stk M k n K r h hK => ?_⟩
  · rcases stk with _ | ⟨z5, _ | ⟨z4, _ | ⟨z3, _ | ⟨z2, _ | ⟨z1, t⟩⟩⟩⟩⟩
    · exact ok_c none
    · exact ok_c none
    · exact ok_c none
    · exact ok_c none
    · exact ok_c none
    · exact ok_cd (ok_b _ fun _ => ok_b _ fun _ => ok_b _ fun _ => ok_b _ fun _ => ok_b _ fun _ => ok_b _ fun _ => ok_b _ fun _ => ok_i (ok_c none) (ok_K _)) (ok_c none)
  · obtain ⟨hx, hb, hml, hown, hts, hKK, hlk, hrt, hnm⟩ := C
    rcases stk with _ | ⟨z5, _ | ⟨z4, _ | ⟨z3, _ | ⟨z2, _ | ⟨z1, t⟩⟩⟩⟩⟩
    · cases h
    · cases h
    · cases h
    · cases h
    · cases h
    · obtain ⟨h0, h⟩ := cd_eq h
      have h0 := Nat.le_of_ble_eq_true h0
      obtain ⟨a0, e1, hA⟩ := Option.bind_eq_some_iff.mp h
      obtain ⟨sp, e2, hB⟩ := Option.bind_eq_some_iff.mp hA
      obtain ⟨a, e3, hC⟩ := Option.bind_eq_some_iff.mp hB
      obtain ⟨dp, e4, hD⟩ := Option.bind_eq_some_iff.mp hC
      obtain ⟨z, e5, hE⟩ := Option.bind_eq_some_iff.mp hD
      obtain ⟨⟨n0, f⟩, e6, hF⟩ := Option.bind_eq_some_iff.mp hE
      obtain ⟨⟨n1, g⟩, e7, hI⟩ := Option.bind_eq_some_iff.mp hF
      obtain ⟨e8, hJ⟩ := oi_eq hI
      cases v_ref_eq e1
      cases v_int_eq e2
      cases v_ref_eq e3
      cases v_int_eq e4
      cases v_int_eq e5
      intro ls H locs hl hR hf
      refine w_copy hx hb (hml.trans hl.1.symm) hown (hts _ w1) (hts _ w2) (hts _ w3) (hts _ w4) hKK hR (me_int_eq e6) (me_int_eq e7) (fun q => e8 (Or.inl q)) (fun q => e8 (Or.inr (Or.inl q))) (fun q => e8 (Or.inr (Or.inr (Or.inl q)))) (Nat.not_lt.mp fun q => e8 (Or.inr (Or.inr (Or.inr (Or.inl q))))) (Nat.not_lt.mp fun q => e8 (Or.inr (Or.inr (Or.inr (Or.inr q))))) hf hr.1 ?_ d (fun H1 locs1 hR1 hf1 => hK _ hJ ls H1 locs1 hl hR1 hf1)
      have := cat_le t
      omega
theorem s_mx {ix : Nat} (d : decode cc pc = .ok (.invokestatic ix, 3)) (w1 : Cond.methodLink y.cls ix Lib.Math.max.name ∈ me_w) (w2 : Cond.static Lib.Math.max.name ∈ me_w) (w3 : Cond.initialized "java/lang/Math" ∈ me_w) (w4 : Cond.code Lib.Math.max.name Lib.Math.max.code 2 (some .int) ∈ me_w) (hr : 1 ≤ rm.frames ∧ 24 ≤ rm.locals) : sd_S y cc nL ret rm pc (i_mx (pc + 3) rm.cells rm.slots) := by
  refine ⟨fun lo stk M k n => ?_, fun G p l e s m args below meth c C lo stk M k n K r h hK => ?_⟩
  · rcases stk with _ | ⟨v, _ | ⟨w, t⟩⟩
    · exact ok_c none
    · exact ok_c none
    · exact ok_cd (ok_b _ fun _ => ok_b _ fun _ => ok_K _) (ok_c none)
  · obtain ⟨hx, hb, hml, hown, hts, hKK, hlk, hrt, hnm⟩ := C
    rcases stk with _ | ⟨v, _ | ⟨w, t⟩⟩
    · cases h
    · cases h
    · obtain ⟨h0, h⟩ := cd_eq h
      rw [Bool.and_eq_true] at h0
      obtain ⟨h01, h02⟩ := bb_eq h0.2
      have h03 := Nat.le_of_ble_eq_true h0.1
      obtain ⟨x, h1, hA⟩ := Option.bind_eq_some_iff.mp h
      obtain ⟨z, h2, hB⟩ := Option.bind_eq_some_iff.mp hA
      cases v_int_eq h1
      cases v_int_eq h2
      intro ls H locs hl hR hf
      have := cat_le t
      exact va_mmax hx hb (hml.trans hl.1.symm) hown (hts _ w1) (hts _ w2) (hts _ w3) (hts _ w4) hr.1 (by omega) h01 h02 d (hK _ hB ls H locs hl hR hf)
theorem s_mn {ix : Nat} (d : decode cc pc = .ok (.invokestatic ix, 3)) (w1 : Cond.methodLink y.cls ix Lib.MathLoose.min_long.x ∈ me_w) (w2 : Cond.static Lib.MathLoose.min_long.x ∈ me_w) (w3 : Cond.initialized "java/lang/Math" ∈ me_w) (w4 : Cond.code Lib.MathLoose.min_long.x Lib.MathLoose.min_long.code 4 (some .long) ∈ me_w) (hr : 1 ≤ rm.frames ∧ 24 ≤ rm.locals) : sd_S y cc nL ret rm pc (i_mn (pc + 3) rm.cells rm.slots) := by
  refine ⟨fun lo stk M k n => ?_, fun G p l e s m args below meth c C lo stk M k n K r h hK => ?_⟩
  · rcases stk with _ | ⟨v, _ | ⟨w, t⟩⟩
    · exact ok_c none
    · exact ok_c none
    · exact ok_cd (ok_b _ fun _ => ok_b _ fun _ => ok_K _) (ok_c none)
  · obtain ⟨hx, hb, hml, hown, hts, hKK, hlk, hrt, hnm⟩ := C
    rcases stk with _ | ⟨v, _ | ⟨w, t⟩⟩
    · cases h
    · cases h
    · obtain ⟨h0, h⟩ := cd_eq h
      rw [Bool.and_eq_true] at h0
      obtain ⟨h01, h02⟩ := bb_eq h0.2
      have h03 := Nat.le_of_ble_eq_true h0.1
      obtain ⟨x, h1, hA⟩ := Option.bind_eq_some_iff.mp h
      obtain ⟨z, h2, hB⟩ := Option.bind_eq_some_iff.mp hA
      cases v_long_eq h1
      cases v_long_eq h2
      intro ls H locs hl hR hf
      have := cat_le t
      exact va_mmin_long hx hb (hml.trans hl.1.symm) hown (hts _ w1) (hts _ w2) (hts _ w3) (hts _ w4) hr.1 (by omega) h01 h02 d (hK _ hB ls H locs hl hR hf)
/-- what is known of a callee: its contract, its words -/
def sd_V (z : MethodName) (cz : ByteArray) (nz : Nat) (rz : Option FieldType) (rmz : Room) (np : Nat) (f : List Value → me_M → Option sm_R) : Prop :=
  sd_M z cz nz rz rmz f ∧ Cond.code z cz nz rz ∈ me_w ∧ Cond.initialized z.cls ∈ me_w ∧ (z.cls ≠ "java/lang/invoke/MethodHandle" ∧ z.cls ≠ "java/lang/invoke/VarHandle" ∧ (parseMethodDescriptor z.desc).map (fun d => d.parameters.length) = some np)
theorem sd_in {z : MethodName} {cz : ByteArray} {nz : Nat} {rz : Option FieldType} (h : Cond.code z cz nz rz ∈ me_w) : GoodIn me_w (sd_ws z cz nz rz) := fun w hw => by
  rcases List.mem_cons.mp hw with rfl | hw
  · exact ⟨h, good_of_word (List.mem_filter.mp h).2⟩
  · exact ⟨hw, good_of_word (List.mem_filter.mp hw).2⟩
theorem s_cv {z : MethodName} {cz : ByteArray} {nz np ci ix N rk : Nat} {T : u_T} {rz : Option FieldType} {rmz : Room} {f : List Value → me_M → Option sm_R} (d : decode cc pc = .ok (.invokevirtual ix, 3)) (V : sd_V z cz nz rz rmz np f) (w1 : Cond.methodLink y.cls ix z ∈ me_w) (w2 : Cond.instanceMethod z ∈ me_w) (w3 : Cond.selects z.cls z z ∈ me_w) (hc : me_cl[ci]? = some (z.cls, T, N)) (hr : rmz.frames + 1 ≤ rm.frames ∧ 8 + (nz + 11) + rmz.locals ≤ rm.locals) : sd_S y cc nL ret rm pc (i_cv ci (np + 1) rk f rmz.cells rmz.slots rm.cells rm.slots (pc + 3)) := by
  refine ⟨fun lo stk M k n => ok_cd ?_ (ok_c none), fun G p l e s m args below meth c C lo stk M k n K r h hK => ?_⟩
  · cases (stk.take (np + 1)).reverse with
    | nil => exact ok_c none
    | cons v as => exact ok_b _ fun _ => ok_b _ fun _ => ok_b _ fun _ => ok_cd (ok_rk _ _ fun _ => ok_K _) (ok_c none)
  · obtain ⟨hx, hb, hml, hown, hts, hKK, hlk, hrt, hnm⟩ := C
    obtain ⟨hV, v1, v2, v3⟩ := V
    obtain ⟨h1, hA⟩ := cd_eq h
    obtain ⟨h2, h3⟩ := bs_eq h1
    cases hs : (stk.take (np + 1)).reverse with
    | nil => rw [hs] at hA; cases hA
    | cons v as =>
      rw [hs] at hA
      obtain ⟨b, e1, hB⟩ := Option.bind_eq_some_iff.mp hA
      obtain ⟨fs, e2, hC⟩ := Option.bind_eq_some_iff.mp hB
      obtain ⟨q, e3, hD⟩ := Option.bind_eq_some_iff.mp hC
      obtain ⟨e4, hE⟩ := cd_eq hD
      obtain ⟨e5, e6⟩ := bb_eq e4
      have hF := rk_eq hE
      cases v_ref_eq e1
      have hlen : as.length = np := by
        have := congrArg List.length hs
        simp only [List.length_reverse, List.length_take, List.length_cons] at this
        omega
      have hst : stk = as.reverse ++ .ref b :: stk.drop (np + 1) := by
        have h9 := congrArg List.reverse hs
        simp only [List.reverse_reverse, List.reverse_cons] at h9
        have h8 := List.take_append_drop (np + 1) stk
        rw [h9, List.append_assoc] at h8
        exact h8.symm
      intro ls H locs hl hR hf
      refine w_call (r := q) (va_runV (As := as) (rest := stk.drop (np + 1)) (b := b) ⟨hx, hb, hml, hown, hts⟩ (hV l G _ _ _ e3) (cwV np hts (fun w hw => ?_) rfl rfl rfl ⟨rfl, v3⟩ hr) ⟨sd_blind _ _ _, va_recv hKK.1 (hR.one (me_obj_eq e2)) hc (q0 := 0) rfl, fun U hU hW => ⟨rfl, by rw [hU]; exact hR, me_K.moved hW hKK⟩⟩ rfl hlen hl.1 hst (lv_room h3) d ⟨e5, e6⟩) hf (fun H1 locs1 hR1 hf1 => hK _ hF ls H1 locs1 hl hR1 hf1)
      rcases List.mem_append.mp hw with hw | hw
      · have hm : w ∈ me_w := by
          simp only [List.mem_cons, List.not_mem_nil, or_false] at hw
          rcases hw with rfl | rfl | rfl | rfl
          · exact w1
          · exact w2
          · exact w3
          · exact v2
        exact ⟨hm, good_of_word (List.mem_filter.mp hm).2⟩
      · exact sd_in v1 w hw
theorem s_cs {z : MethodName} {cz : ByteArray} {nz np ix rk : Nat} {rz : Option FieldType} {rmz : Room} {f : List Value → me_M → Option sm_R} (d : decode cc pc = .ok (.invokestatic ix, 3)) (V : sd_V z cz nz rz rmz np f) (w1 : Cond.methodLink y.cls ix z ∈ me_w) (w2 : Cond.static z ∈ me_w) (hr : rmz.frames + 1 ≤ rm.frames ∧ 8 + (nz + 11) + rmz.locals ≤ rm.locals) : sd_S y cc nL ret rm pc (i_cs np rk f rmz.cells rmz.slots rm.cells rm.slots (pc + 3)) := by
  refine ⟨fun lo stk M k n => ok_cd (ok_b _ fun _ => ok_cd (ok_rk _ _ fun _ => ok_K _) (ok_c none)) (ok_c none), fun G p l e s m args below meth c C lo stk M k n K r h hK => ?_⟩
  obtain ⟨hx, hb, hml, hown, hts, hKK, hlk, hrt, hnm⟩ := C
  obtain ⟨hV, v1, v2, v3⟩ := V
  obtain ⟨h1, hA⟩ := cd_eq h
  obtain ⟨h2, h3⟩ := bs_eq h1
  obtain ⟨q, e3, hD⟩ := Option.bind_eq_some_iff.mp hA
  obtain ⟨e4, hE⟩ := cd_eq hD
  obtain ⟨e5, e6⟩ := bb_eq e4
  have hF := rk_eq hE
  have hlen : (stk.take np).reverse.length = np := by
    simp only [List.length_reverse, List.length_take]
    omega
  intro ls H locs hl hR hf
  exact w_call (r := q) (va_runS (As := (stk.take np).reverse) (rest := stk.drop np) ⟨hx, hb, hml, hown, hts⟩ (hV l G _ _ _ e3) ⟨callB_of np hts (sd_in v1) rfl rfl rfl (hts _ v2) (hts _ w1) v3 hr, hts _ w2⟩ ⟨sd_blind _ _ _, fun U hU hW => ⟨rfl, by rw [hU]; exact hR, me_K.moved hW hKK⟩⟩ rfl hlen hl.1 (by rw [List.reverse_reverse]; exact (List.take_append_drop np stk).symm) (lv_room h3) d ⟨e5, e6⟩) hf (fun H1 locs1 hR1 hf1 => hK _ hF ls H1 locs1 hl hR1 hf1)
theorem s_ci {z : MethodName} {cz : ByteArray} {nz np ix : Nat} {rmz : Room} {f : List Value → me_M → Option sm_R} (d : decode cc pc = .ok (.invokespecial ix, 3)) (V : sd_V z cz nz none rmz np f) (w1 : Cond.methodLink y.cls ix z ∈ me_w ∨ ∃ host, ∀ (G : me_G) (s : State), me_K G s → va_Nw (.methodLinkNest y.cls ix z host) s) (w2 : Cond.instanceMethod z ∈ me_w) (hi : z.name = "<init>") (hr : rmz.frames + 1 ≤ rm.frames ∧ 8 + (nz + 11) + rmz.locals ≤ rm.locals) {ci : Nat} : sd_S y cc nL ret rm pc (i_cv ci (np + 1) 0 f rmz.cells rmz.slots rm.cells rm.slots (pc + 3)) := by
  refine ⟨fun lo stk M k n => ok_cd ?_ (ok_c none), fun G p l e s m args below meth c C lo stk M k n K r h hK => ?_⟩
  · cases (stk.take (np + 1)).reverse with
    | nil => exact ok_c none
    | cons v as => exact ok_b _ fun _ => ok_b _ fun _ => ok_b _ fun _ => ok_cd (ok_rk _ _ fun _ => ok_K _) (ok_c none)
  · obtain ⟨hx, hb, hml, hown, hts, hKK, hlk, hrt, hnm⟩ := C
    obtain ⟨hV, v1, v2, v3⟩ := V
    obtain ⟨h1, hA⟩ := cd_eq h
    obtain ⟨h2, h3⟩ := bs_eq h1
    cases hs : (stk.take (np + 1)).reverse with
    | nil => rw [hs] at hA; cases hA
    | cons v as =>
      rw [hs] at hA
      obtain ⟨b, e1, hB⟩ := Option.bind_eq_some_iff.mp hA
      obtain ⟨fs, e2, hC⟩ := Option.bind_eq_some_iff.mp hB
      obtain ⟨q, e3, hD⟩ := Option.bind_eq_some_iff.mp hC
      obtain ⟨e4, hE⟩ := cd_eq hD
      obtain ⟨e5, e6⟩ := bb_eq e4
      have hF := rk_eq hE
      cases v_ref_eq e1
      have hlen : as.length = np := by
        have := congrArg List.length hs
        simp only [List.length_reverse, List.length_take, List.length_cons] at this
        omega
      have hst : stk = as.reverse ++ .ref b :: stk.drop (np + 1) := by
        have h9 := congrArg List.reverse hs
        simp only [List.reverse_reverse, List.reverse_cons] at h9
        have h8 := List.take_append_drop (np + 1) stk
        rw [h9, List.append_assoc] at h8
        exact h8.symm
      intro ls H locs hl hR hf
      rcases w1 with w1 | ⟨host, w1⟩
      · exact w_call (r := q) (va_runI (As := as) (rest := stk.drop (np + 1)) (b := b) ⟨hx, hb, hml, hown, hts⟩ (hV l G _ _ _ e3) ⟨callB_of np hts (sd_in v1) rfl rfl rfl (hts _ v2) (hts _ w1) v3 hr, hi, hts _ w2⟩ ⟨sd_blind _ _ _, fun U hU hW => ⟨rfl, by rw [hU]; exact hR, me_K.moved hW hKK⟩⟩ rfl hlen hl.1 hst (lv_room h3) d ⟨e5, e6⟩) hf (fun H1 locs1 hR1 hf1 => hK _ hF ls H1 locs1 hl hR1 hf1)
      · exact w_call (r := q) (va_runIN (As := as) (rest := stk.drop (np + 1)) (b := b) ⟨hx, hb, hml, hown, hts⟩ (hV l G _ _ _ e3) ⟨va_cnB np hts (sd_in v1) rfl rfl rfl (w1 _ _ hKK) (hts _ v2) v3 hr, hi, hts _ w2⟩ ⟨sd_blind _ _ _, fun U hU hW => ⟨rfl, by rw [hU]; exact hR, me_K.moved hW hKK⟩⟩ rfl hlen hl.1 hst (lv_room h3) d ⟨e5, e6⟩) hf (fun H1 locs1 hR1 hf1 => hK _ hF ls H1 locs1 hl hR1 hf1)
end SD
