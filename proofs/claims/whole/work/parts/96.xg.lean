/-! the law's wrappers: what they leave -/
def ww (r : sm_R) (D : Nat) (cd : UInt32 → Int32) (kk : Int32) (M' : me_M) : Prop :=
  (∃ (x : Int64) (g : Nat → Int64), (r.1 = some (.long x) ∨ ∃ z : Int32, r.1 = some (.int z) ∧ x = z.toInt64) ∧ r.2.2 D = some (.inl (1, 1, .inr (.inl g))) ∧ kk = 0 ∧ M' = me_set r.2 D (.inl (1, 1, .inr (.inl (vp_updL g 0 x))))) ∨
  ∃ (k : UInt32) (N : Nat), r.1 = some (.float k) ∧ kk = cd k ∧ r.2.1 ≤ N ∧ M' = (N, r.2.2)
def wq (G : me_G) (r : sm_R) (D : Nat) (cd : UInt32 → Int32) : Array Value → State → Outcome → State → Prop := fun _ _ o t => ∃ (kk : Int32) (M' : me_M), o = .returned (some (.int kk)) ∧ me_R G M' t.heap ∧ ww r D cd kk M'
abbrev sh_ws (y : MethodName) (cc : ByteArray) (nL : Nat) (ret : Option FieldType) (hh : List (Nat × Nat × Nat × Nat)) : List Cond := Cond.codeWith y cc nL ret hh :: me_w
theorem met_H {l : Launch} {y : MethodName} {ws' : List Cond} {rm : Room} {Pc : Array Value → State → Prop} {Qc : Array Value → State → Outcome → State → Prop} {mc ms : Nat} {free : Addr → Prop} {cc : ByteArray} {maxL : Nat} {ret : Option FieldType} {hh : List (Nat × Nat × Nat × Nat)}
    (hy : plainName y.cls = true)
    (body : ∀ p e s m args below meth c s₁, BodyLoose p l y (headSpec (Cond.codeWith y cc maxL ret hh :: ws') rm) cc maxL ret e s m args below meth c s₁ → c.maxLocals = maxL → Pc args s →
      W p l e rm s m args below meth c s.heap [] 0 0 (MQ below Qc args s mc ms free) (entryFrame m args maxL)) : Met l y (Cond.codeWith y cc maxL ret hh :: ws') rm Pc Qc mc ms free := by
  refine MetFree.of_bodyS (code := cc) (maxLocals := maxL) (ret := ret) hy ?_ ?_
  · intro args s m h hn
    obtain ⟨m9, meth, c, hn9, h1, h2, h3, h4, -, h5, h6, -⟩ := Cond.codeWith_spec (atoms_spec (ws := Cond.codeWith y cc maxL ret hh :: ws') h _ List.mem_cons_self)
    cases hn.symm.trans hn9
    exact ⟨meth, c, h1, h2, h3, h4, h5, h6⟩
  · intro p e s m args below meth c s₁ B hml hP _
    have hh0 : s₁.heap = s.heap := by rw [B.state]; rfl
    obtain ⟨t, a1, o, b1, b2, b3⟩ := body p e s m args below meth c s₁ B hml hP s₁ hh0 (Stand.of_body B)
    exact ⟨t, o, a1, b1, b2, b3⟩
section WR
variable {y : MethodName} {cc : ByteArray} {nL : Nat} {ret : Option FieldType} {rm : Room} {pc : Nat} {G : me_G} {p : Program} {l : Launch} {e : Env} {s : State} {m : MethodId} {args : Array Value} {below : List Frame} {meth : Method} {c : Code} {lo : sm_L} {M : me_M} {k n : Nat} {Qc : Array Value → State → Outcome → State → Prop}
theorem wr_ret (C : sd_C G p s m args meth c y cc nL ret) (hret : ret = some .int) (d : decode cc pc = .ok (.ireturn, 1)) {x : Int32} (hk : k ≤ rm.cells) (hn : n ≤ rm.slots) (hq : ∀ t : State, me_R G M t.heap → Qc args s (.returned (some (.int x))) t) :
    sd_W G p l e rm s m args below meth c nL (MQ below Qc args s rm.cells rm.slots (fun q => G.2.2.1 ≤ q)) (pc, lo, [.int x], M, k, n) := by
  obtain ⟨hx, hb, hml, hown, hts, hKK, hlk, hrt, hnm⟩ := C
  intro ls H locs hl hR hf
  exact W.widen hk hn (W.iret hx hb (hrt.trans hret) (fun t ht _ => hq t (by rw [ht]; exact hR)) hf d hlk)
theorem wr_l {off : Int} {tgt D : Nat} {g : Nat → Int64} {x : Int64} (C : sd_C G p s m args meth c y cc nL ret) (hret : ret = some .int) (d2 : decode cc pc = .ok (.lastore, 1)) (d3 : decode cc (pc + 1) = .ok (.goto off, 3)) (ht : ((pc + 1 : Nat) : Int) + off = (tgt : Int)) (d4 : decode cc tgt = .ok (.iconst 0, 1)) (d5 : decode cc (tgt + 1) = .ok (.ireturn, 1))
    (hD : M.2 D = some (.inl (1, 1, .inr (.inl g)))) (hk : k ≤ rm.cells) (hn : n ≤ rm.slots) (hq : ∀ t : State, me_R G (me_set M D (.inl (1, 1, .inr (.inl (vp_updL g 0 x))))) t.heap → Qc args s (.returned (some (.int 0))) t) :
    sd_W G p l e rm s m args below meth c nL (MQ below Qc args s rm.cells rm.slots (fun q => G.2.2.1 ≤ q)) (pc, lo, [.long x, .int 0, .ref D], M, k, n) := by
  refine x_step (x_lst d2) C (st := (pc + 1, lo, [], me_set M D (.inl (1, 1, .inr (.inl (vp_updL g 0 x)))), k, n)) (fun K => ?_) (x_step (x_goto d3 ht) C (fun K => rfl) (x_step (x_iconst d4 (v := 0) (by decide)) C (fun K => rfl) (wr_ret C hret d5 hk hn hq)))
  show ((me_long M D).bind fun f => if (0 : Int32) < 0 ∨ f.1 ≤ (0 : Int32).toNatClampNeg then none else K (pc + 1, lo, [], me_set M D (.inl (1, f.1, .inr (.inl (vp_updL f.2 (0 : Int32).toNatClampNeg x)))), k, n)) = _
  rw [me_long_of hD, show (0 : Int32).toNatClampNeg = 0 from by decide]
  show (if (0 : Int32) < 0 ∨ 1 ≤ 0 then none else K (pc + 1, lo, [], me_set M D (.inl (1, 1, .inr (.inl (vp_updL g 0 x)))), k, n)) = _
  rw [if_neg (by decide)]
theorem wr_i {off : Int} {tgt D : Nat} {g : Nat → Int64} {x : Int32} (C : sd_C G p s m args meth c y cc nL ret) (hret : ret = some .int) (d1 : decode cc pc = .ok (.i2l, 1)) (d2 : decode cc (pc + 1) = .ok (.lastore, 1)) (d3 : decode cc (pc + 2) = .ok (.goto off, 3)) (ht : ((pc + 2 : Nat) : Int) + off = (tgt : Int)) (d4 : decode cc tgt = .ok (.iconst 0, 1)) (d5 : decode cc (tgt + 1) = .ok (.ireturn, 1))
    (hD : M.2 D = some (.inl (1, 1, .inr (.inl g)))) (hk : k ≤ rm.cells) (hn : n ≤ rm.slots) (hq : ∀ t : State, me_R G (me_set M D (.inl (1, 1, .inr (.inl (vp_updL g 0 x.toInt64))))) t.heap → Qc args s (.returned (some (.int 0))) t) :
    sd_W G p l e rm s m args below meth c nL (MQ below Qc args s rm.cells rm.slots (fun q => G.2.2.1 ≤ q)) (pc, lo, [.int x, .int 0, .ref D], M, k, n) :=
  x_step (x_i2l d1) C (fun K => rfl) (wr_l C hret d2 d3 ht d4 d5 hD hk hn hq)
/-- the handler: the exception put away, its number -/
theorem wr_h {i q : Nat} {x : Int32} {v : Int} (C : sd_C G p s m args meth c y cc nL ret) (hret : ret = some .int) (d1 : decode cc pc = .ok (.astore i, 2)) (hi : i < nL) (d2 : decode cc (pc + 2) = .ok (.iconst v, 1)) (hv : Int32.ofInt v = x) (d3 : decode cc (pc + 3) = .ok (.ireturn, 1)) (hk : k ≤ rm.cells) (hn : n ≤ rm.slots) (hq : ∀ t : State, me_R G M t.heap → Qc args s (.returned (some (.int x))) t) :
    sd_W G p l e rm s m args below meth c nL (MQ below Qc args s rm.cells rm.slots (fun q => G.2.2.1 ≤ q)) (pc, lo, [.ref q], M, k, n) :=
  x_step (x_as d1 hi) C (fun K => rfl) (x_step (x_iconst d2 hv) C (fun K => rfl) (wr_ret C hret d3 hk hn hq))
/-- a virtual call of a method that returns or throws -/
theorem wr_call {Q : State → Prop} {z : MethodName} {cz : ByteArray} {nz np ci ix N : Nat} {T : u_T} {rz : Option FieldType} {rmz : Room} {f : List Value → me_M → Option sm_R} {as rest : List Value} {A : Nat} {r : sm_R} {fs : List Value} (C : sd_C G p s m args meth c y cc nL ret) (hst : l.stackTraces = false) (hE : xe_K G s)
    (d : decode cc pc = .ok (.invokevirtual ix, 3)) (V : xd_V z cz nz rz rmz np f) (w1 : Cond.methodLink y.cls ix z ∈ me_w) (w2 : Cond.instanceMethod z ∈ me_w) (w3 : Cond.selects z.cls z z ∈ me_w) (hc : me_cl[ci]? = some (z.cls, T, N)) (hr : rmz.frames + 1 ≤ rm.frames ∧ 8 + (nz + 11) + rmz.locals ≤ rm.locals)
    (hA : me_obj M ci A = some fs) (hlen : as.length = np) (hso : (rest.map fun v => v.category).sum ≤ 8) (e3 : f (.ref A :: as) M = some r) (e5 : k + rmz.cells ≤ rm.cells) (e6 : n + rmz.slots ≤ rm.slots)
    (kr : xd_no r → sd_W G p l e rm s m args below meth c nL Q (pc + 3, lo, r.1.toList ++ rest, r.2, k + rmz.cells, n + rmz.slots))
    (kx : ∀ (kx : UInt32) (N : Nat), r.1 = some (.float kx) → r.2.1 ≤ N → ∀ (ls : Array Slot) (H : Heap) (locs : List Loc) (q : Addr) (ce : Cell), lv_has ls nL lo → me_R G (N, r.2.2) H → (∀ q ∈ locs, G.2.2.1 ≤ q.base) → H[q]? = some ce → ce.vm = .none → s.vm.findClass (xe_C kx) = some ce.cls → vx_W p l e rm s m args below meth c H locs (k + rmz.cells) (n + rmz.slots) Q (F0 m pc ls rest) q) :
    sd_W G p l e rm s m args below meth c nL Q (pc, lo, as.reverse ++ .ref A :: rest, M, k, n) := by
  have C' := C
  obtain ⟨hx, hb, hml, hown, hts, hKK, hlk, hrt, hnm⟩ := C
  obtain ⟨hV, v1, v2, v3⟩ := V
  intro ls H locs hl hR hf T0 hT X
  rcases vx_runV (g := F0 m pc ls (as.reverse ++ .ref A :: rest)) (As := as) (rest := rest) (b := A) ⟨hx, hb, hml, hown, hts⟩ (hV l hst G _ _ _ e3) (cwV np hts (fun w hw => (by
      rcases List.mem_append.mp hw with hw | hw
      · have hm : w ∈ me_w := by
          simp only [List.mem_cons, List.not_mem_nil, or_false] at hw
          rcases hw with rfl | rfl | rfl | rfl
          · exact w1
          · exact w2
          · exact w3
          · exact v2
        exact ⟨hm, good_of_word (List.mem_filter.mp hm).2⟩
      · exact sd_in v1 w hw)) rfl rfl rfl ⟨rfl, v3⟩ hr) ⟨xd_blind _ _ _, va_recv hKK.1 (hR.one (me_obj_eq hA)) hc (q0 := 0) rfl, fun U hU hW => ⟨rfl, by rw [hU]; exact hR, me_K.moved hW hKK, xe_K.moved hW hE⟩⟩ rfl hlen hl.1 rfl (lv_room hso) d ⟨e5, e6⟩ T0 hT X with ⟨v, st₀, t, T', L, h0, X', hL, g1, g2, ⟨hv, hm, hno⟩, st⟩ | ⟨q2, st₀, t, T', L, E, ce, h0, X', hL, g1, g2, hXC, hcell, hvm, hcl, st⟩
  · cases hv
    obtain ⟨t2, a1, b1⟩ := kr hno ls T'.heap (locs ++ L) hl (by rw [g1]; exact hm) (fun q hq => by
      rcases List.mem_append.mp hq with h | h
      · exact hf q h
      · exact hL q h) T' rfl X'
    exact ⟨t2, st t2 a1, b1⟩
  · obtain ⟨kx', N', x1, x2, x3, x4⟩ := hXC
    subst x2
    obtain ⟨t2, a1, b1⟩ := kx kx' N' x1 x3 ls T'.heap (locs ++ L) q2 ce hl (by rw [g1]; exact x4) (fun q hq => by
      rcases List.mem_append.mp hq with h | h
      · exact hf q h
      · exact hL q h) (by rw [g1]; exact hcell) hvm hcl T' rfl X'
    exact ⟨t2, st.trans a1, b1⟩
end WR
