/-! equations of the steps, one by one -/
def sm_Fx (T : sm_T) (F : sm_K) : Prop := ∀ st, F st = sm_go T st F
theorem sm_fx {y : MethodName} {cc : ByteArray} {nL : Nat} {ret : Option FieldType} {rm : Room} {T : sm_T} (h : sd_A y cc nL ret rm T) : sm_Fx T (sm T) := sm_eq (sd_ok h)
theorem sm_h {T : sm_T} {F : sm_K} (hF : sm_Fx T F) {pc : Nat} {f : sm_F} (h : sm_at T pc = some f) {lo : sm_L} {stk : List Value} {M : me_M} {c n : Nat} : F (pc, lo, stk, M, c, n) = f lo stk M c n F := by
  rw [hF]
  show (match sm_at T pc with | none => none | some f => f lo stk M c n F) = _
  rw [h]
theorem ob {α : Type} {o : Option α} {g h : α → Option sm_R} (e : ∀ a, g a = h a) : o.bind g = o.bind h := by
  cases o with
  | none => rfl
  | some a => exact e a
theorem ic {p : Prop} [Decidable p] {a b a' b' : Option sm_R} (ha : a = a') (hb : b = b') : (if p then a else b) = if p then a' else b' := by rw [ha, hb]
theorem cg {q : Bool} {a b a' b' : Option sm_R} (ha : a = a') (hb : b = b') : cond q a b = cond q a' b' := by rw [ha, hb]
theorem cT {a b c : Option sm_R} {q : Bool} (hq : q = true) (h : a = c) : cond q a b = c := by rw [hq]; exact h
theorem vi {x : Int32} {g : Int32 → Option sm_R} {r : Option sm_R} (h : g x = r) : (v_int (.int x)).bind g = r := h
theorem vl {x : Int64} {g : Int64 → Option sm_R} {r : Option sm_R} (h : g x = r) : (v_long (.long x)).bind g = r := h
theorem vr {x : Nat} {g : Nat → Option sm_R} {r : Option sm_R} (h : g x = r) : (v_ref (.ref x)).bind g = r := h
theorem vn {x : Nat} {g : Option Nat → Option sm_R} {r : Option sm_R} (h : g (some x) = r) : (v_rn (.ref x)).bind g = r := h
theorem v0 {g : Option Nat → Option sm_R} {r : Option sm_R} (h : g none = r) : (v_rn .null).bind g = r := h
theorem vf {o : Option Nat} {g : Option Nat → Option sm_R} {r : Option sm_R} (h : g o = r) : (v_rn (va_rf o)).bind g = r := by
  cases o <;> exact h
section EQ
variable {lo : sm_L} {t : List Value} {M : me_M} {c n nx : Nat} {K : sm_K} {v w u : Value} {r : Option sm_R}
theorem q_w {W : List (Nat × List Nat)} {f : sm_F} {stk : List Value} (h : f lo stk M c n (fun st => K (i_wl W st)) = r) : i_w W f lo stk M c n K = r := h
theorem q_c (h : K (nx, lo, v :: t, M, c, n) = r) : i_c v nx lo t M c n K = r := h
theorem q_il {i : Nat} {x : Int32} (e : lo_at lo i = some (.int x)) (h : K (nx, lo, .int x :: t, M, c, n) = r) : i_il i nx lo t M c n K = r := by unfold i_il; rw [e]; exact h
theorem q_ll {i : Nat} {x : Int64} (e : lo_at lo i = some (.long x)) (h : K (nx, lo, .long x :: t, M, c, n) = r) : i_ll i nx lo t M c n K = r := by unfold i_ll; rw [e]; exact h
theorem q_al {i x : Nat} (e : lo_at lo i = some (.ref x)) (h : K (nx, lo, .ref x :: t, M, c, n) = r) : i_al i nx lo t M c n K = r := by unfold i_al; rw [e]; exact h
theorem q_al0 {i : Nat} (e : lo_at lo i = some .null) (h : K (nx, lo, .null :: t, M, c, n) = r) : i_al i nx lo t M c n K = r := by unfold i_al; rw [e]; exact h
theorem q_alv {i : Nat} {x : Value} (e : lo_at lo i = some x) (h : ((v_rn x).bind fun _ => K (nx, lo, x :: t, M, c, n)) = r) : i_al i nx lo t M c n K = r := by unfold i_al; rw [e]; exact h
theorem q_is {i : Nat} (lo2 : Int32 → sm_L) (e : ∀ x, lo_s1 lo i (.int x) = lo2 x) (h : ((v_int v).bind fun x => K (nx, lo2 x, t, M, c, n)) = r) : i_is i nx lo (v :: t) M c n K = r := by
  subst h
  show ((v_int v).bind fun x => K (nx, lo_s1 lo i (.int x), t, M, c, n)) = _
  exact ob fun x => by rw [e x]
theorem q_ls {i : Nat} (lo2 : Int64 → sm_L) (e : ∀ x, lo_s2 lo i (.long x) = lo2 x) (h : ((v_long v).bind fun x => K (nx, lo2 x, t, M, c, n)) = r) : i_ls i nx lo (v :: t) M c n K = r := by
  subst h
  show ((v_long v).bind fun x => K (nx, lo_s2 lo i (.long x), t, M, c, n)) = _
  exact ob fun x => by rw [e x]
theorem q_as {i : Nat} (lo2 : Nat → sm_L) (e : ∀ x, lo_s1 lo i (.ref x) = lo2 x) (h : ((v_ref v).bind fun x => K (nx, lo2 x, t, M, c, n)) = r) : i_as i nx lo (v :: t) M c n K = r := by
  subst h
  show ((v_ref v).bind fun x => K (nx, lo_s1 lo i (.ref x), t, M, c, n)) = _
  exact ob fun x => by rw [e x]
theorem q_an {i : Nat} (lo2 : Option Nat → sm_L) (e : ∀ x, lo_s1 lo i (va_rf x) = lo2 x) (h : ((v_rn v).bind fun x => K (nx, lo2 x, t, M, c, n)) = r) : i_an i nx lo (v :: t) M c n K = r := by
  subst h
  show ((v_rn v).bind fun x => K (nx, lo_s1 lo i (va_rf x), t, M, c, n)) = _
  exact ob fun x => by rw [e x]
theorem q_alf {i : Nat} {o : Option Nat} (e : lo_at lo i = some (va_rf o)) (h : K (nx, lo, va_rf o :: t, M, c, n) = r) : i_al i nx lo t M c n K = r := by
  unfold i_al
  rw [e]
  cases o <;> exact h
theorem q_inc {i : Nat} {x z : Int32} (lo2 : sm_L) (e : lo_at lo i = some (.int z)) (e2 : lo_s1 lo i (.int (z + x)) = lo2) (h : K (nx, lo2, t, M, c, n) = r) : i_inc i x nx lo t M c n K = r := by subst e2; unfold i_inc; rw [e]; exact h
theorem q_u11 {f : Int32 → Int32} (h : ((v_int v).bind fun x => K (nx, lo, .int (f x) :: t, M, c, n)) = r) : i_u11 f nx lo (v :: t) M c n K = r := h
theorem q_u12 {f : Int32 → Int64} (h : ((v_int v).bind fun x => K (nx, lo, .long (f x) :: t, M, c, n)) = r) : i_u12 f nx lo (v :: t) M c n K = r := h
theorem q_u21 {f : Int64 → Int32} (h : ((v_long v).bind fun x => K (nx, lo, .int (f x) :: t, M, c, n)) = r) : i_u21 f nx lo (v :: t) M c n K = r := h
theorem q_u22 {f : Int64 → Int64} (h : ((v_long v).bind fun x => K (nx, lo, .long (f x) :: t, M, c, n)) = r) : i_u22 f nx lo (v :: t) M c n K = r := h
theorem q_dup (h : ((v_ref v).bind fun x => K (nx, lo, .ref x :: .ref x :: t, M, c, n)) = r) : i_dup nx lo (v :: t) M c n K = r := h
theorem q_dupi (h : ((v_int v).bind fun x => K (nx, lo, .int x :: .int x :: t, M, c, n)) = r) : i_dupi nx lo (v :: t) M c n K = r := h
theorem q_dup2 (h : ((v_int v).bind fun x => (v_ref w).bind fun a => K (nx, lo, .int x :: .ref a :: .int x :: .ref a :: t, M, c, n)) = r) : i_dup2 nx lo (v :: w :: t) M c n K = r := h
theorem q_bi {f : Int32 → Int32 → Int32} (h : ((v_int w).bind fun x => (v_int v).bind fun z => K (nx, lo, .int (f x z) :: t, M, c, n)) = r) : i_bi f nx lo (v :: w :: t) M c n K = r := h
theorem q_bl {f : Int64 → Int64 → Int64} (h : ((v_long w).bind fun x => (v_long v).bind fun z => K (nx, lo, .long (f x z) :: t, M, c, n)) = r) : i_bl f nx lo (v :: w :: t) M c n K = r := h
theorem q_sl {f : Int64 → Int32 → Int64} (h : ((v_long w).bind fun x => (v_int v).bind fun z => K (nx, lo, .long (f x z) :: t, M, c, n)) = r) : i_sl f nx lo (v :: w :: t) M c n K = r := h
theorem q_lc (h : ((v_long w).bind fun x => (v_long v).bind fun z => K (nx, lo, .int (lg_cmp x z) :: t, M, c, n)) = r) : i_lc nx lo (v :: w :: t) M c n K = r := h
theorem q_qi {f : Int32 → Int32 → Int32} (h : ((v_int w).bind fun x => (v_int v).bind fun z => if z = 0 then none else K (nx, lo, .int (f x z) :: t, M, c, n)) = r) : i_qi f nx lo (v :: w :: t) M c n K = r := h
theorem q_ql {f : Int64 → Int64 → Int64} (h : ((v_long w).bind fun x => (v_long v).bind fun z => if z = 0 then none else K (nx, lo, .long (f x z) :: t, M, c, n)) = r) : i_ql f nx lo (v :: w :: t) M c n K = r := h
theorem q_z {P : Int32 → Prop} [DecidablePred P] {tt ff : Nat} (h : ((v_int v).bind fun x => if P x then K (tt, lo, t, M, c, n) else K (ff, lo, t, M, c, n)) = r) : i_z P tt ff lo (v :: t) M c n K = r := h
theorem q_zz {P : Int32 → Int32 → Prop} [∀ x z, Decidable (P x z)] {tt ff : Nat} (h : ((v_int w).bind fun x => (v_int v).bind fun z => if P x z then K (tt, lo, t, M, c, n) else K (ff, lo, t, M, c, n)) = r) : i_zz P tt ff lo (v :: w :: t) M c n K = r := h
theorem q_g (h : K (nx, lo, t, M, c, n) = r) : i_g nx lo t M c n K = r := h
theorem q_nn {tt ff : Nat} (h : ((v_rn v).bind fun x => cond x.isSome (K (tt, lo, t, M, c, n)) (K (ff, lo, t, M, c, n))) = r) : i_nn tt ff lo (v :: t) M c n K = r := h
theorem q_ts {lo0 hi0 : Int} {tg : List Nat} {df : Nat} (h : ((v_int v).bind fun x => if x.toInt < lo0 ∨ hi0 < x.toInt then K (df, lo, t, M, c, n) else (tg[(x.toInt - lo0).toNat]?).bind fun q => K (q, lo, t, M, c, n)) = r) : i_ts lo0 hi0 tg df lo (v :: t) M c n K = r := h
theorem q_ri {mc ms : Nat} (h : ((v_int v).bind fun x => if c ≤ mc ∧ n ≤ ms then some (some (.int x), M) else none) = r) : i_ri mc ms lo [v] M c n K = r := h
theorem q_rz {mc ms : Nat} (h : ((v_int v).bind fun x => if x = 0 ∨ x = 1 then (if c ≤ mc ∧ n ≤ ms then some (some (.int x), M) else none) else none) = r) : i_rz mc ms lo [v] M c n K = r := h
theorem q_rl {mc ms : Nat} (h : ((v_long v).bind fun x => if c ≤ mc ∧ n ≤ ms then some (some (.long x), M) else none) = r) : i_rl mc ms lo [v] M c n K = r := h
theorem q_ra {mc ms : Nat} (h : ((v_rn v).bind fun _ => if c ≤ mc ∧ n ≤ ms then some (some v, M) else none) = r) : i_ra mc ms lo [v] M c n K = r := h
theorem q_rv {mc ms : Nat} (h : (if c ≤ mc ∧ n ≤ ms then some (none, M) else none) = r) : i_rv mc ms lo [] M c n K = r := h
theorem q_gf {ci k : Nat} (h : ((v_ref v).bind fun a => (me_obj M ci a).bind fun fs => (fs[k]?).bind fun w => K (nx, lo, w :: t, M, c, n)) = r) : i_gf ci k nx lo (v :: t) M c n K = r := h
theorem q_pi {ci k : Nat} (h : ((v_int v).bind fun x => (v_ref w).bind fun a => (me_obj M ci a).bind fun fs => if k < fs.length then K (nx, lo, t, me_set M a (.inr (ci, fs.set k (.int x))), c, n) else none) = r) : i_pi ci k nx lo (v :: w :: t) M c n K = r := h
theorem q_pl {ci k : Nat} (h : ((v_long v).bind fun x => (v_ref w).bind fun a => (me_obj M ci a).bind fun fs => if k < fs.length then K (nx, lo, t, me_set M a (.inr (ci, fs.set k (.long x))), c, n) else none) = r) : i_pl ci k nx lo (v :: w :: t) M c n K = r := h
theorem q_pr {ci k : Nat} (h : ((v_rn v).bind fun _ => (v_ref w).bind fun a => (me_obj M ci a).bind fun fs => if k < fs.length then K (nx, lo, t, me_set M a (.inr (ci, fs.set k v)), c, n) else none) = r) : i_pr ci k nx lo (v :: w :: t) M c n K = r := h
theorem q_ia {kd : Nat} (h : ((v_int v).bind fun i => (v_ref w).bind fun a => (me_int M kd a).bind fun f => if i < 0 ∨ f.1 ≤ i.toNatClampNeg then none else K (nx, lo, .int (f.2 i.toNatClampNeg) :: t, M, c, n)) = r) : i_ia kd nx lo (v :: w :: t) M c n K = r := h
theorem q_ist (h : ((v_int u).bind fun x => (v_int v).bind fun i => (v_ref w).bind fun a => (me_int M 0 a).bind fun f => if i < 0 ∨ f.1 ≤ i.toNatClampNeg then none else K (nx, lo, t, me_set M a (.inl (0, f.1, .inl (upd f.2 i.toNatClampNeg x))), c, n)) = r) : i_ist nx lo (u :: v :: w :: t) M c n K = r := h
theorem q_bst (h : ((v_int u).bind fun x => (v_int v).bind fun i => (v_ref w).bind fun a => (me_int M 2 a).bind fun f => if i < 0 ∨ f.1 ≤ i.toNatClampNeg then none else K (nx, lo, t, me_set M a (.inl (2, f.1, .inl (upd f.2 i.toNatClampNeg (x.toInt8.toInt32)))), c, n)) = r) : i_bst nx lo (u :: v :: w :: t) M c n K = r := h
theorem q_aa {kd : Nat} (h : ((v_int v).bind fun i => (v_ref w).bind fun a => (me_ref M kd a).bind fun f => if i < 0 ∨ f.1 ≤ i.toNatClampNeg then none else K (nx, lo, va_rf (f.2 i.toNatClampNeg) :: t, M, c, n)) = r) : i_aa kd nx lo (v :: w :: t) M c n K = r := h
theorem q_ast {kd ci : Nat} (h : ((v_int v).bind fun i => (v_ref w).bind fun a => (me_ref M kd a).bind fun f => if i < 0 ∨ f.1 ≤ i.toNatClampNeg then none else (v_rn u).bind fun x => cond (i_okx M ci x) (K (nx, lo, t, me_set M a (.inl (kd, f.1, .inr (.inr (.inr (.inr (va_up f.2 i.toNatClampNeg x)))))), c, n)) none) = r) : i_ast kd ci nx lo (u :: v :: w :: t) M c n K = r := h
theorem q_len (h : ((v_ref v).bind fun a => (me_len M a).bind fun z => K (nx, lo, .int (Int32.ofNat z) :: t, M, c, n)) = r) : i_len nx lo (v :: t) M c n K = r := h
theorem q_new {ci N : Nat} {fs : List Value} {mc ms : Nat} (h : cond (Nat.ble (c + 1) mc && Nat.ble (n + N) ms) (K (nx, lo, .ref M.1 :: t, me_new M (.inr (ci, fs)), c + 1, n + N)) none = r) : i_new ci N fs mc ms nx lo t M c n K = r := h
theorem q_na {kd mc ms : Nat} (h : ((v_int v).bind fun x => if x < 0 then none else cond (Nat.ble (c + 1) mc && Nat.ble (n + x.toNatClampNeg) ms) (K (nx, lo, .ref M.1 :: t, me_new M (.inl (kd, x.toNatClampNeg, .inl (fun _ => 0))), c + 1, n + x.toNatClampNeg)) none) = r) : i_na kd mc ms nx lo (v :: t) M c n K = r := h
theorem q_nr {kd mc ms : Nat} (h : ((v_int v).bind fun x => if x < 0 then none else cond (Nat.ble (c + 1) mc && Nat.ble (n + x.toNatClampNeg) ms) (K (nx, lo, .ref M.1 :: t, me_new M (.inl (kd, x.toNatClampNeg, .inr (.inr (.inr (.inr (fun _ => none)))))), c + 1, n + x.toNatClampNeg)) none) = r) : i_nr kd mc ms nx lo (v :: t) M c n K = r := h
theorem q_oi (e : Nat.ble t.length 4 = true) (h : ((v_ref v).bind fun _ => K (nx, lo, t, M, c, n)) = r) : i_oi nx lo (v :: t) M c n K = r := by
  unfold i_oi
  simp only [e, cond_true]
  exact h
theorem q_cp {z1 z2 z3 z4 z5 : Value} (e : Nat.ble t.length 4 = true) (h : ((v_ref z1).bind fun a0 => (v_int z2).bind fun sp => (v_ref z3).bind fun a => (v_int z4).bind fun dp => (v_int z5).bind fun k => (me_int M 0 a0).bind fun f => (me_int M 0 a).bind fun g =>
      if sp < 0 ∨ dp < 0 ∨ k < 0 ∨ f.1 < sp.toNatClampNeg + k.toNatClampNeg ∨ g.1 < dp.toNatClampNeg + k.toNatClampNeg then none else K (nx, lo, t, me_set M a (.inl (0, g.1, .inl (va_cpy f.2 g.2 sp.toNatClampNeg dp.toNatClampNeg k.toNatClampNeg))), c, n)) = r) : i_cp nx lo (z5 :: z4 :: z3 :: z2 :: z1 :: t) M c n K = r := by
  unfold i_cp
  simp only [e, cond_true]
  exact h
theorem q_mx {mc ms : Nat} (h : cond (Nat.ble t.length 4 && (Nat.ble c mc && Nat.ble n ms)) ((v_int w).bind fun x => (v_int v).bind fun z => K (nx, lo, .int (if x < z then z else x) :: t, M, c, n)) none = r) : i_mx nx mc ms lo (v :: w :: t) M c n K = r := h
theorem q_mn {mc ms : Nat} (h : cond (Nat.ble t.length 4 && (Nat.ble c mc && Nat.ble n ms)) ((v_long w).bind fun x => (v_long v).bind fun z => K (nx, lo, .long (if z < x then z else x) :: t, M, c, n)) none = r) : i_mn nx mc ms lo (v :: w :: t) M c n K = r := h
theorem q_cv {ci na rk mz nz mc ms : Nat} {f : List Value → me_M → Option sm_R} {stk as rest : List Value} (e1 : (Nat.ble na stk.length && st_ok (stk.drop na)) = true) (e2 : (stk.take na).reverse = v :: as) (e3 : stk.drop na = rest) (h : ((v_ref v).bind fun b => (me_obj M ci b).bind fun _ => (f (.ref b :: as) M).bind fun q => cond (Nat.ble (c + mz) mc && Nat.ble (n + nz) ms) (i_rk rk q.1 fun ts => K (nx, lo, ts ++ rest, q.2, c + mz, n + nz)) none) = r) : i_cv ci na rk f mz nz mc ms nx lo stk M c n K = r := by
  unfold i_cv
  rw [e1, e2, e3]
  exact h
theorem q_cs {na rk mz nz mc ms : Nat} {f : List Value → me_M → Option sm_R} {stk as rest : List Value} (e1 : (Nat.ble na stk.length && st_ok (stk.drop na)) = true) (e2 : (stk.take na).reverse = as) (e3 : stk.drop na = rest) (h : ((f as M).bind fun q => cond (Nat.ble (c + mz) mc && Nat.ble (n + nz) ms) (i_rk rk q.1 fun ts => K (nx, lo, ts ++ rest, q.2, c + mz, n + nz)) none) = r) : i_cs na rk f mz nz mc ms nx lo stk M c n K = r := by
  unfold i_cs
  rw [e1, e2, e3]
  exact h
theorem q_r0 {o : Option Value} {g : List Value → Option sm_R} (h : cond o.isNone (g []) none = r) : i_rk 0 o g = r := h
theorem q_r1 {o : Option Value} {g : List Value → Option sm_R} (h : (o.bind fun v => (v_int v).bind fun x => g [.int x]) = r) : i_rk 1 o g = r := h
theorem q_r2 {o : Option Value} {g : List Value → Option sm_R} (h : (o.bind fun v => (v_long v).bind fun x => g [.long x]) = r) : i_rk 2 o g = r := h
theorem q_r3 {o : Option Value} {g : List Value → Option sm_R} (h : (o.bind fun v => (v_rn v).bind fun _ => g [v]) = r) : i_rk 3 o g = r := h
end EQ
