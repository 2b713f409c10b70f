/-! ===== the judgement sx_ev: the machine within a method of the claim, its world as two functions; a rule an instruction (written by program) ===== -/
def sx_ws (r : sx_R) : List Cond := Cond.code r.1 r.2.1 r.2.2.1 r.2.2.2 :: sx_T
def sx_ty (G : sx_G) : List (ClassId × FieldType) := [(G.2.2.1, .int), (G.2.2.2.1, .long), (G.2.2.2.2, .object "SixBeds$Sheet")]
def sx_ne (U : State) : Prop := ∀ q ∈ sx_nl, va_Nw (.methodLinkNest q.1 q.2.1 q.2.2.1 q.2.2.2) U
theorem sx_ne.warm {s U : State} (hW : s.WarmedH U.vm) (h : sx_ne s) : sx_ne U := fun q hq => va_Nw.warmM hW (h q hq)
theorem sx_ne.same {s U : State} (hv : s.vm = U.vm) (h : sx_ne s) : sx_ne U := fun q hq => va_Nw.same rfl hv (h q hq)
def sx_rm (d : Nat) : Room := { frames := d, cells := 0, slots := 0, locals := 60 * d }
def sx_cx (p : Program) (s : State) (m : MethodId) (args : Array Value) (meth : Method) (c : Code) (r : sx_R) : Prop := p.tables.exec = Jvm.exec ∧ c.code = r.2.1 ∧ c.maxLocals = r.2.2.1 ∧ s.vm.findClass r.1.cls = some m.cls ∧ (∀ w ∈ sx_ws r, w.before args s = true) ∧ meth.sig.returnType = r.2.2.2 ∧ meth.locks = false ∧ sx_ne s
def sx_wl (G : sx_G) (w : sx_W) : va_W := sx_wsF G w 0 sx_sh
theorem sx_wl_get (G : sx_G) (w : sx_W) {k : Nat} {s : sx_S} (h : sx_nth sx_sh k = some s) : (sx_wl G w)[k]? = some (G.2.1 k, sx_e G w k s) := by
  unfold sx_wl
  rw [sx_wsF_get, h, Nat.zero_add]
  rfl
theorem sx_wl_set (G : sx_G) (w w2 : sx_W) {k : Nat} {s : sx_S} (hk : sx_nth sx_sh k = some s) (h1 : ∀ a, a ≠ k → w2.1 a = w.1 a) (h2 : ∀ a, a ≠ k → w2.2 a = w.2 a) : (sx_wl G w).set k (G.2.1 k, sx_e G w2 k s) = sx_wl G w2 := sx_wsF_set G w w2 sx_sh k s hk h1 h2
def sx_B (G : sx_G) (A : Nat → Prop) (w : sx_W) (t : State) : Prop := va_P G.1 vwCl (sx_wl G w) t.heap ∧ va_D A (sx_wl G w)
def sx_Qc (G : sx_G) (A : Nat → Prop) (rt : Option FieldType) (Q : sx_Q) : Array Value → State → Outcome → State → Prop := match rt with
  | none => va_Qv (fun w => Q 0 0 w) (sx_B G A) A
  | some .long => va_Ql (fun r w => Q 0 r w) (sx_B G A) A
  | some _ => va_Qi (fun r w => Q r 0 w) (sx_B G A) A
def sx_ev (d : Nat) (r : sx_R) (pc : Nat) (lo st : List Value) (w : sx_W) (Q : sx_Q) : Prop :=
  ∀ (l : Launch) (G : sx_G) (A : Nat → Prop) (p : Program) (e : Env) (s : State) (m : MethodId) (args : Array Value) (below : List Frame) (meth : Method) (c : Code) (H : Heap) (locs : List Loc) (ls : Array Slot),
    sx_cx p s m args meth c r → va_K G.1 vwCl (sx_ty G) s → (∀ q : Nat, s.heap.size ≤ q → A q) → va_P G.1 vwCl (sx_wl G w) H → va_D A (sx_wl G w) → va_S A s.heap H locs → sx_L G.2.1 ls r.2.2.1 lo →
    W p l e (sx_rm d) s m args below meth c H locs 0 0 (MQ below (sx_Qc G A r.2.2.2 Q) args s 0 0 A) (F0 m pc ls (st.map (sx_v G.2.1)))
abbrev sx_I : Type := Nat × Instr × Nat × Nat
def sx_ok (r : sx_R) (l : List sx_I) : Prop := ∀ q ∈ l, decode r.2.1 q.1 = .ok (q.2.1, q.2.2.1) ∧ q.1 + q.2.2.1 = q.2.2.2
theorem sx_ok.at {r : sx_R} {l : List sx_I} (h : sx_ok r l) (i : Nat) {pc n pc' : Nat} {ins : Instr} (e : l[i]? = some (pc, ins, n, pc')) : decode r.2.1 pc = .ok (ins, n) ∧ pc + n = pc' := h (pc, ins, n, pc') (List.mem_of_getElem? e)
theorem sx_L.at {ad : Nat → Nat} {ls : Array Slot} {nL : Nat} {lo : List Value} (h : sx_L ad ls nL lo) {i : Nat} {v : Value} (hv : sx_nth lo i = some v) (hn : v ≠ .null) : ls[i]? = some (.val (sx_v ad v)) := h.2.2.2 i v hv hn
theorem sx_sto_of {ad : Nat → Nat} {ls' : Array Slot} {nL i : Nat} {lo : List Value} {x : Value} (hlen : lo.length = nL) (h : lv_has ls' nL ((i, sx_v ad x) :: (sx_lp ad 0 lo).filter (fun q => !(q.1 == i) && !(q.1 + 1 == i && q.2.category == 2)))) : sx_L ad ls' nL (sx_sto lo i x) := by
  obtain ⟨h1, h2, h3⟩ := h
  refine ⟨h1, h2, by rw [sx_sto, sx_put_len, sx_kill_len]; exact hlen, fun j v hj hn => ?_⟩
  rw [sx_sto, sx_put_get] at hj
  by_cases hji : j = i
  · subst hji
    rw [if_pos rfl] at hj
    split at hj
    · cases hj; exact h3 _ List.mem_cons_self
    · cases hj
  · rw [if_neg hji] at hj
    obtain ⟨g1, g2⟩ := sx_kill_get lo i j v hj hn
    refine h3 (j, sx_v ad v) (List.mem_cons_of_mem _ (List.mem_filter.mpr ⟨(sx_lp_mem ad lo 0 _).mpr ⟨j, v, g1, hn, by rw [Nat.zero_add]⟩, ?_⟩))
    simp only [Bool.and_eq_true, Bool.not_eq_true', beq_eq_false_iff_ne, Bool.and_eq_false_iff]
    refine ⟨hji, ?_⟩
    by_cases hj1 : j + 1 = i
    · exact Or.inr (fun q => g2 ⟨hj1, (sx_is2_cat v).mpr (by rw [← sx_v_cat ad v]; exact q)⟩)
    · exact Or.inl hj1
theorem sx_st2_of {ad : Nat → Nat} {ls' : Array Slot} {nL i : Nat} {lo : List Value} {x : Value} (hlen : lo.length = nL) (h : lv_has ls' nL ((i, sx_v ad x) :: (sx_lp ad 0 lo).filter (fun q => !(q.1 == i) && (!(q.1 == i + 1) && !(q.1 + 1 == i && q.2.category == 2))))) : sx_L ad ls' nL (sx_st2 lo i x) := by
  obtain ⟨h1, h2, h3⟩ := h
  refine ⟨h1, h2, by rw [sx_st2, sx_put_len, sx_put_len, sx_kill_len]; exact hlen, fun j v hj hn => ?_⟩
  rw [sx_st2, sx_put_get] at hj
  by_cases hj2 : j = i + 1
  · rw [if_pos hj2] at hj
    split at hj
    · cases hj; exact absurd rfl hn
    · cases hj
  · rw [if_neg hj2, sx_put_get] at hj
    by_cases hji : j = i
    · subst hji
      rw [if_pos rfl] at hj
      split at hj
      · cases hj; exact h3 _ List.mem_cons_self
      · cases hj
    · rw [if_neg hji] at hj
      obtain ⟨g1, g2⟩ := sx_kill_get lo i j v hj hn
      refine h3 (j, sx_v ad v) (List.mem_cons_of_mem _ (List.mem_filter.mpr ⟨(sx_lp_mem ad lo 0 _).mpr ⟨j, v, g1, hn, by rw [Nat.zero_add]⟩, ?_⟩))
      simp only [Bool.and_eq_true, Bool.not_eq_true', beq_eq_false_iff_ne, Bool.and_eq_false_iff]
      refine ⟨hji, hj2, ?_⟩
      by_cases hj1 : j + 1 = i
      · exact Or.inr (fun q => g2 ⟨hj1, (sx_is2_cat v).mpr (by rw [← sx_v_cat ad v]; exact q)⟩)
      · exact Or.inl hj1
section
variable {d pc pc' : Nat} {r : sx_R} {lo st : List Value} {w : sx_W} {Q : sx_Q}

theorem ev_iadd {x y : Int32} (hd : decode r.2.1 pc = .ok (.iadd, 1) ∧ pc + 1 = pc') (k : sx_ev d r pc' lo (.int (x + y) :: st) w Q) : sx_ev d r pc lo (.int y :: .int x :: st) w Q := by
  intro l G A p e s m args below meth c H locs ls hc hK hA hP hD hS hl
  obtain ⟨hd, rfl⟩ := hd
  exact lv_iadd hc.1 hc.2.1 hd (k l G A p e s m args below meth c H locs ls hc hK hA hP hD hS hl)
theorem ev_isub {x y : Int32} (hd : decode r.2.1 pc = .ok (.isub, 1) ∧ pc + 1 = pc') (k : sx_ev d r pc' lo (.int (x - y) :: st) w Q) : sx_ev d r pc lo (.int y :: .int x :: st) w Q := by
  intro l G A p e s m args below meth c H locs ls hc hK hA hP hD hS hl
  obtain ⟨hd, rfl⟩ := hd
  exact lv_isub hc.1 hc.2.1 hd (k l G A p e s m args below meth c H locs ls hc hK hA hP hD hS hl)
theorem ev_imul {x y : Int32} (hd : decode r.2.1 pc = .ok (.imul, 1) ∧ pc + 1 = pc') (k : sx_ev d r pc' lo (.int (x * y) :: st) w Q) : sx_ev d r pc lo (.int y :: .int x :: st) w Q := by
  intro l G A p e s m args below meth c H locs ls hc hK hA hP hD hS hl
  obtain ⟨hd, rfl⟩ := hd
  exact lv_imul hc.1 hc.2.1 hd (k l G A p e s m args below meth c H locs ls hc hK hA hP hD hS hl)
theorem ev_iand {x y : Int32} (hd : decode r.2.1 pc = .ok (.iand, 1) ∧ pc + 1 = pc') (k : sx_ev d r pc' lo (.int (x &&& y) :: st) w Q) : sx_ev d r pc lo (.int y :: .int x :: st) w Q := by
  intro l G A p e s m args below meth c H locs ls hc hK hA hP hD hS hl
  obtain ⟨hd, rfl⟩ := hd
  exact lv_iand hc.1 hc.2.1 hd (k l G A p e s m args below meth c H locs ls hc hK hA hP hD hS hl)
theorem ev_ior {x y : Int32} (hd : decode r.2.1 pc = .ok (.ior, 1) ∧ pc + 1 = pc') (k : sx_ev d r pc' lo (.int (x ||| y) :: st) w Q) : sx_ev d r pc lo (.int y :: .int x :: st) w Q := by
  intro l G A p e s m args below meth c H locs ls hc hK hA hP hD hS hl
  obtain ⟨hd, rfl⟩ := hd
  exact lv_ior hc.1 hc.2.1 hd (k l G A p e s m args below meth c H locs ls hc hK hA hP hD hS hl)
theorem ev_ixor {x y : Int32} (hd : decode r.2.1 pc = .ok (.ixor, 1) ∧ pc + 1 = pc') (k : sx_ev d r pc' lo (.int (x ^^^ y) :: st) w Q) : sx_ev d r pc lo (.int y :: .int x :: st) w Q := by
  intro l G A p e s m args below meth c H locs ls hc hK hA hP hD hS hl
  obtain ⟨hd, rfl⟩ := hd
  exact lv_ixor hc.1 hc.2.1 hd (k l G A p e s m args below meth c H locs ls hc hK hA hP hD hS hl)
theorem ev_ishl {x y : Int32} (hd : decode r.2.1 pc = .ok (.ishl, 1) ∧ pc + 1 = pc') (k : sx_ev d r pc' lo (.int (x <<< (y &&& 31)) :: st) w Q) : sx_ev d r pc lo (.int y :: .int x :: st) w Q := by
  intro l G A p e s m args below meth c H locs ls hc hK hA hP hD hS hl
  obtain ⟨hd, rfl⟩ := hd
  exact lv_ishl hc.1 hc.2.1 hd (k l G A p e s m args below meth c H locs ls hc hK hA hP hD hS hl)
theorem ev_ishr {x y : Int32} (hd : decode r.2.1 pc = .ok (.ishr, 1) ∧ pc + 1 = pc') (k : sx_ev d r pc' lo (.int (x >>> (y &&& 31)) :: st) w Q) : sx_ev d r pc lo (.int y :: .int x :: st) w Q := by
  intro l G A p e s m args below meth c H locs ls hc hK hA hP hD hS hl
  obtain ⟨hd, rfl⟩ := hd
  exact lv_ishr hc.1 hc.2.1 hd (k l G A p e s m args below meth c H locs ls hc hK hA hP hD hS hl)
theorem ev_idiv {x y : Int32} (hd : decode r.2.1 pc = .ok (.idiv, 1) ∧ pc + 1 = pc') (hne : ¬ y = 0) (k : sx_ev d r pc' lo (.int (x / y) :: st) w Q) : sx_ev d r pc lo (.int y :: .int x :: st) w Q := by
  intro l G A p e s m args below meth c H locs ls hc hK hA hP hD hS hl
  obtain ⟨hd, rfl⟩ := hd
  exact lv_idiv hc.1 hc.2.1 hd hne (k l G A p e s m args below meth c H locs ls hc hK hA hP hD hS hl)
theorem ev_irem {x y : Int32} (hd : decode r.2.1 pc = .ok (.irem, 1) ∧ pc + 1 = pc') (hne : ¬ y = 0) (k : sx_ev d r pc' lo (.int (x - x / y * y) :: st) w Q) : sx_ev d r pc lo (.int y :: .int x :: st) w Q := by
  intro l G A p e s m args below meth c H locs ls hc hK hA hP hD hS hl
  obtain ⟨hd, rfl⟩ := hd
  exact lv_irem hc.1 hc.2.1 hd hne (k l G A p e s m args below meth c H locs ls hc hK hA hP hD hS hl)
theorem ev_ladd {x y : Int64} (hd : decode r.2.1 pc = .ok (.ladd, 1) ∧ pc + 1 = pc') (k : sx_ev d r pc' lo (.long (x + y) :: st) w Q) : sx_ev d r pc lo (.long y :: .long x :: st) w Q := by
  intro l G A p e s m args below meth c H locs ls hc hK hA hP hD hS hl
  obtain ⟨hd, rfl⟩ := hd
  exact lv_ladd hc.1 hc.2.1 hd (k l G A p e s m args below meth c H locs ls hc hK hA hP hD hS hl)
theorem ev_lsub {x y : Int64} (hd : decode r.2.1 pc = .ok (.lsub, 1) ∧ pc + 1 = pc') (k : sx_ev d r pc' lo (.long (x - y) :: st) w Q) : sx_ev d r pc lo (.long y :: .long x :: st) w Q := by
  intro l G A p e s m args below meth c H locs ls hc hK hA hP hD hS hl
  obtain ⟨hd, rfl⟩ := hd
  exact lv_lsub hc.1 hc.2.1 hd (k l G A p e s m args below meth c H locs ls hc hK hA hP hD hS hl)
theorem ev_lmul {x y : Int64} (hd : decode r.2.1 pc = .ok (.lmul, 1) ∧ pc + 1 = pc') (k : sx_ev d r pc' lo (.long (x * y) :: st) w Q) : sx_ev d r pc lo (.long y :: .long x :: st) w Q := by
  intro l G A p e s m args below meth c H locs ls hc hK hA hP hD hS hl
  obtain ⟨hd, rfl⟩ := hd
  exact lv_lmul hc.1 hc.2.1 hd (k l G A p e s m args below meth c H locs ls hc hK hA hP hD hS hl)
theorem ev_land {x y : Int64} (hd : decode r.2.1 pc = .ok (.land, 1) ∧ pc + 1 = pc') (k : sx_ev d r pc' lo (.long (x &&& y) :: st) w Q) : sx_ev d r pc lo (.long y :: .long x :: st) w Q := by
  intro l G A p e s m args below meth c H locs ls hc hK hA hP hD hS hl
  obtain ⟨hd, rfl⟩ := hd
  exact lv_land hc.1 hc.2.1 hd (k l G A p e s m args below meth c H locs ls hc hK hA hP hD hS hl)
theorem ev_lor {x y : Int64} (hd : decode r.2.1 pc = .ok (.lor, 1) ∧ pc + 1 = pc') (k : sx_ev d r pc' lo (.long (x ||| y) :: st) w Q) : sx_ev d r pc lo (.long y :: .long x :: st) w Q := by
  intro l G A p e s m args below meth c H locs ls hc hK hA hP hD hS hl
  obtain ⟨hd, rfl⟩ := hd
  exact lv_lor hc.1 hc.2.1 hd (k l G A p e s m args below meth c H locs ls hc hK hA hP hD hS hl)
theorem ev_iushr {x y : Int32} (hd : decode r.2.1 pc = .ok (.iushr, 1) ∧ pc + 1 = pc') (k : sx_ev d r pc' lo (.int (x.toUInt32 >>> (y.toUInt32 &&& Int32.toUInt32 31)).toInt32 :: st) w Q) : sx_ev d r pc lo (.int y :: .int x :: st) w Q := by
  intro l G A p e s m args below meth c H locs ls hc hK hA hP hD hS hl
  obtain ⟨hd, rfl⟩ := hd
  exact lv_iushr hc.1 hc.2.1 hd rfl (k l G A p e s m args below meth c H locs ls hc hK hA hP hD hS hl)
theorem ev_lushr {x : Int64} {y : Int32} (hd : decode r.2.1 pc = .ok (.lushr, 1) ∧ pc + 1 = pc') (k : sx_ev d r pc' lo (.long (x.toUInt64 >>> (y.toInt64.toUInt64 &&& Int64.toUInt64 63)).toInt64 :: st) w Q) : sx_ev d r pc lo (.int y :: .long x :: st) w Q := by
  intro l G A p e s m args below meth c H locs ls hc hK hA hP hD hS hl
  obtain ⟨hd, rfl⟩ := hd
  exact lv_lushr hc.1 hc.2.1 hd rfl (k l G A p e s m args below meth c H locs ls hc hK hA hP hD hS hl)
theorem ev_lshl {x : Int64} {y : Int32} (hd : decode r.2.1 pc = .ok (.lshl, 1) ∧ pc + 1 = pc') (k : sx_ev d r pc' lo (.long (x <<< (y.toInt64 &&& 63)) :: st) w Q) : sx_ev d r pc lo (.int y :: .long x :: st) w Q := by
  intro l G A p e s m args below meth c H locs ls hc hK hA hP hD hS hl
  obtain ⟨hd, rfl⟩ := hd
  exact lv_lshl hc.1 hc.2.1 hd rfl (k l G A p e s m args below meth c H locs ls hc hK hA hP hD hS hl)
theorem ev_lshr {x : Int64} {y : Int32} (hd : decode r.2.1 pc = .ok (.lshr, 1) ∧ pc + 1 = pc') (k : sx_ev d r pc' lo (.long (x >>> (y.toInt64 &&& 63)) :: st) w Q) : sx_ev d r pc lo (.int y :: .long x :: st) w Q := by
  intro l G A p e s m args below meth c H locs ls hc hK hA hP hD hS hl
  obtain ⟨hd, rfl⟩ := hd
  exact lv_lshr hc.1 hc.2.1 hd rfl (k l G A p e s m args below meth c H locs ls hc hK hA hP hD hS hl)
theorem ev_lcmp {x y : Int64} (hd : decode r.2.1 pc = .ok (.lcmp, 1) ∧ pc + 1 = pc') (k : sx_ev d r pc' lo (.int (lg_cmp x y) :: st) w Q) : sx_ev d r pc lo (.long y :: .long x :: st) w Q := by
  intro l G A p e s m args below meth c H locs ls hc hK hA hP hD hS hl
  obtain ⟨hd, rfl⟩ := hd
  exact W.lcmp hc.1 hc.2.1 hd (k l G A p e s m args below meth c H locs ls hc hK hA hP hD hS hl)
theorem ev_i2l {x : Int32} (hd : decode r.2.1 pc = .ok (.i2l, 1) ∧ pc + 1 = pc') (k : sx_ev d r pc' lo (.long x.toInt64 :: st) w Q) : sx_ev d r pc lo (.int x :: st) w Q := by
  intro l G A p e s m args below meth c H locs ls hc hK hA hP hD hS hl
  obtain ⟨hd, rfl⟩ := hd
  exact lv_i2l hc.1 hc.2.1 hd rfl (k l G A p e s m args below meth c H locs ls hc hK hA hP hD hS hl)
theorem ev_l2i {x : Int64} (hd : decode r.2.1 pc = .ok (.l2i, 1) ∧ pc + 1 = pc') (k : sx_ev d r pc' lo (.int x.toInt32 :: st) w Q) : sx_ev d r pc lo (.long x :: st) w Q := by
  intro l G A p e s m args below meth c H locs ls hc hK hA hP hD hS hl
  obtain ⟨hd, rfl⟩ := hd
  exact lv_l2i hc.1 hc.2.1 hd rfl (k l G A p e s m args below meth c H locs ls hc hK hA hP hD hS hl)
theorem ev_i2b {x : Int32} (hd : decode r.2.1 pc = .ok (.i2b, 1) ∧ pc + 1 = pc') (k : sx_ev d r pc' lo (.int x.toInt8.toInt32 :: st) w Q) : sx_ev d r pc lo (.int x :: st) w Q := by
  intro l G A p e s m args below meth c H locs ls hc hK hA hP hD hS hl
  obtain ⟨hd, rfl⟩ := hd
  exact lv_i2b hc.1 hc.2.1 hd rfl (k l G A p e s m args below meth c H locs ls hc hK hA hP hD hS hl)
theorem ev_iconst {n : Int} {v : Int32} (hd : decode r.2.1 pc = .ok (.iconst n, 1) ∧ pc + 1 = pc') (hv : Int32.ofInt n = v) (k : sx_ev d r pc' lo (.int v :: st) w Q) : sx_ev d r pc lo st w Q := by
  intro l G A p e s m args below meth c H locs ls hc hK hA hP hD hS hl
  obtain ⟨hd, rfl⟩ := hd
  exact lv_iconst hc.1 hc.2.1 hd hv (k l G A p e s m args below meth c H locs ls hc hK hA hP hD hS hl)
theorem ev_bipush {n : Int} {v : Int32} (hd : decode r.2.1 pc = .ok (.bipush n, 2) ∧ pc + 2 = pc') (hv : (Int8.ofInt n).toInt32 = v) (k : sx_ev d r pc' lo (.int v :: st) w Q) : sx_ev d r pc lo st w Q := by
  intro l G A p e s m args below meth c H locs ls hc hK hA hP hD hS hl
  obtain ⟨hd, rfl⟩ := hd
  exact lv_bipush hc.1 hc.2.1 hd hv (k l G A p e s m args below meth c H locs ls hc hK hA hP hD hS hl)
theorem ev_sipush {n : Int} {v : Int32} (hd : decode r.2.1 pc = .ok (.sipush n, 3) ∧ pc + 3 = pc') (hv : (Int16.ofInt n).toInt32 = v) (k : sx_ev d r pc' lo (.int v :: st) w Q) : sx_ev d r pc lo st w Q := by
  intro l G A p e s m args below meth c H locs ls hc hK hA hP hD hS hl
  obtain ⟨hd, rfl⟩ := hd
  exact lv_sipush hc.1 hc.2.1 hd hv (k l G A p e s m args below meth c H locs ls hc hK hA hP hD hS hl)
theorem ev_lconst {n : Fin 2} {v : Int64} (hd : decode r.2.1 pc = .ok (.lconst n, 1) ∧ pc + 1 = pc') (hv : Int64.ofNat (n : Nat) = v) (k : sx_ev d r pc' lo (.long v :: st) w Q) : sx_ev d r pc lo st w Q := by
  intro l G A p e s m args below meth c H locs ls hc hK hA hP hD hS hl
  obtain ⟨hd, rfl⟩ := hd
  exact lv_lconst hc.1 hc.2.1 hd hv (k l G A p e s m args below meth c H locs ls hc hK hA hP hD hS hl)
theorem ev_ldc2 {own i : Nat} {v : Int64} (hd : decode r.2.1 pc = .ok (.ldc2_w i, 3) ∧ pc + 3 = pc') (ho : sx_cn own = r.1.cls) (hv : (i, v) ∈ sx_kl own) (k : sx_ev d r pc' lo (.long v :: st) w Q) : sx_ev d r pc lo st w Q := by
  intro l G A p e s m args below meth c H locs ls hc hK hA hP hD hS hl
  obtain ⟨hd, rfl⟩ := hd
  have h1 := sx_kl_ok own _ hv
  rw [ho] at h1
  exact lv_ldc2 hc.1 hc.2.1 hc.2.2.2.1 (hc.2.2.2.2.1 _ (List.mem_cons_of_mem _ h1)) hd (k l G A p e s m args below meth c H locs ls hc hK hA hP hD hS hl)
theorem ev_ldcw {own i : Nat} {v : Int32} (hd : decode r.2.1 pc = .ok (.ldc_w i, 3) ∧ pc + 3 = pc') (ho : sx_cn own = r.1.cls) (hv : (i, v) ∈ sx_ki own) (k : sx_ev d r pc' lo (.int v :: st) w Q) : sx_ev d r pc lo st w Q := by
  intro l G A p e s m args below meth c H locs ls hc hK hA hP hD hS hl
  obtain ⟨hd, rfl⟩ := hd
  have h1 := sx_ki_ok own _ hv
  rw [ho] at h1
  exact lv_ldcw hc.1 hc.2.1 hc.2.2.2.1 (hc.2.2.2.2.1 _ (List.mem_cons_of_mem _ h1)) hd (k l G A p e s m args below meth c H locs ls hc hK hA hP hD hS hl)
theorem ev_iload_n {i : Fin 4} {x : Int32} (hd : decode r.2.1 pc = .ok (.iload_n i, 1) ∧ pc + 1 = pc') (hv : sx_nth lo i = some (.int x)) (k : sx_ev d r pc' lo (.int x :: st) w Q) : sx_ev d r pc lo st w Q := by
  intro l G A p e s m args below meth c H locs ls hc hK hA hP hD hS hl
  obtain ⟨hd, rfl⟩ := hd
  exact lv_iload_n hc.1 hc.2.1 hd rfl (hl.at hv (fun h => by cases h)) (k l G A p e s m args below meth c H locs ls hc hK hA hP hD hS hl)
theorem ev_iload {i : Nat} {x : Int32} (hd : decode r.2.1 pc = .ok (.iload i, 2) ∧ pc + 2 = pc') (hv : sx_nth lo i = some (.int x)) (k : sx_ev d r pc' lo (.int x :: st) w Q) : sx_ev d r pc lo st w Q := by
  intro l G A p e s m args below meth c H locs ls hc hK hA hP hD hS hl
  obtain ⟨hd, rfl⟩ := hd
  exact lv_iload hc.1 hc.2.1 hd (hl.at hv (fun h => by cases h)) (k l G A p e s m args below meth c H locs ls hc hK hA hP hD hS hl)
theorem ev_lload_n {i : Fin 4} {x : Int64} (hd : decode r.2.1 pc = .ok (.lload_n i, 1) ∧ pc + 1 = pc') (hv : sx_nth lo i = some (.long x)) (k : sx_ev d r pc' lo (.long x :: st) w Q) : sx_ev d r pc lo st w Q := by
  intro l G A p e s m args below meth c H locs ls hc hK hA hP hD hS hl
  obtain ⟨hd, rfl⟩ := hd
  exact lv_lload_n hc.1 hc.2.1 hd rfl (hl.at hv (fun h => by cases h)) (k l G A p e s m args below meth c H locs ls hc hK hA hP hD hS hl)
theorem ev_lload {i : Nat} {x : Int64} (hd : decode r.2.1 pc = .ok (.lload i, 2) ∧ pc + 2 = pc') (hv : sx_nth lo i = some (.long x)) (k : sx_ev d r pc' lo (.long x :: st) w Q) : sx_ev d r pc lo st w Q := by
  intro l G A p e s m args below meth c H locs ls hc hK hA hP hD hS hl
  obtain ⟨hd, rfl⟩ := hd
  exact lv_lload hc.1 hc.2.1 hd (hl.at hv (fun h => by cases h)) (k l G A p e s m args below meth c H locs ls hc hK hA hP hD hS hl)
theorem ev_aload_n {i : Fin 4} {x : Nat} (hd : decode r.2.1 pc = .ok (.aload_n i, 1) ∧ pc + 1 = pc') (hv : sx_nth lo i = some (.ref x)) (k : sx_ev d r pc' lo (.ref x :: st) w Q) : sx_ev d r pc lo st w Q := by
  intro l G A p e s m args below meth c H locs ls hc hK hA hP hD hS hl
  obtain ⟨hd, rfl⟩ := hd
  exact lv_aload_n hc.1 hc.2.1 hd rfl (hl.at hv (fun h => by cases h)) (k l G A p e s m args below meth c H locs ls hc hK hA hP hD hS hl)
theorem ev_aload {i : Nat} {x : Nat} (hd : decode r.2.1 pc = .ok (.aload i, 2) ∧ pc + 2 = pc') (hv : sx_nth lo i = some (.ref x)) (k : sx_ev d r pc' lo (.ref x :: st) w Q) : sx_ev d r pc lo st w Q := by
  intro l G A p e s m args below meth c H locs ls hc hK hA hP hD hS hl
  obtain ⟨hd, rfl⟩ := hd
  exact lv_aload hc.1 hc.2.1 hd (hl.at hv (fun h => by cases h)) (k l G A p e s m args below meth c H locs ls hc hK hA hP hD hS hl)
theorem ev_istore_n {i : Fin 4} {x : Int32} {lo' : List Value} (hd : decode r.2.1 pc = .ok (.istore_n i, 1) ∧ pc + 1 = pc') (hi : (i : Nat) < r.2.2.1) (hv : sx_sto lo i (.int x) = lo') (k : sx_ev d r pc' lo' st w Q) : sx_ev d r pc lo (.int x :: st) w Q := by
  intro l G A p e s m args below meth c H locs ls hc hK hA hP hD hS hl
  obtain ⟨hd, rfl⟩ := hd
  subst hv
  exact lv_istore_n hc.1 hc.2.1 hd rfl hl.has hi rfl (fun ls2 h2 => k l G A p e s m args below meth c H locs ls2 hc hK hA hP hD hS (sx_sto_of (x := .int x) hl.2.2.1 h2))
theorem ev_istore {i : Nat} {x : Int32} {lo' : List Value} (hd : decode r.2.1 pc = .ok (.istore i, 2) ∧ pc + 2 = pc') (hi : i < r.2.2.1) (hv : sx_sto lo i (.int x) = lo') (k : sx_ev d r pc' lo' st w Q) : sx_ev d r pc lo (.int x :: st) w Q := by
  intro l G A p e s m args below meth c H locs ls hc hK hA hP hD hS hl
  obtain ⟨hd, rfl⟩ := hd
  subst hv
  exact lv_istore hc.1 hc.2.1 hd hl.has hi rfl (fun ls2 h2 => k l G A p e s m args below meth c H locs ls2 hc hK hA hP hD hS (sx_sto_of (x := .int x) hl.2.2.1 h2))
theorem ev_lstore_n {i : Fin 4} {x : Int64} {lo' : List Value} (hd : decode r.2.1 pc = .ok (.lstore_n i, 1) ∧ pc + 1 = pc') (hi : (i : Nat) + 1 < r.2.2.1) (hv : sx_st2 lo i (.long x) = lo') (k : sx_ev d r pc' lo' st w Q) : sx_ev d r pc lo (.long x :: st) w Q := by
  intro l G A p e s m args below meth c H locs ls hc hK hA hP hD hS hl
  obtain ⟨hd, rfl⟩ := hd
  subst hv
  exact lv_lstore_n hc.1 hc.2.1 hd rfl hl.has hi rfl (fun ls2 h2 => k l G A p e s m args below meth c H locs ls2 hc hK hA hP hD hS (sx_st2_of (x := .long x) hl.2.2.1 h2))
theorem ev_lstore {i : Nat} {x : Int64} {lo' : List Value} (hd : decode r.2.1 pc = .ok (.lstore i, 2) ∧ pc + 2 = pc') (hi : i + 1 < r.2.2.1) (hv : sx_st2 lo i (.long x) = lo') (k : sx_ev d r pc' lo' st w Q) : sx_ev d r pc lo (.long x :: st) w Q := by
  intro l G A p e s m args below meth c H locs ls hc hK hA hP hD hS hl
  obtain ⟨hd, rfl⟩ := hd
  subst hv
  exact lv_lstore hc.1 hc.2.1 hd hl.has hi rfl (fun ls2 h2 => k l G A p e s m args below meth c H locs ls2 hc hK hA hP hD hS (sx_st2_of (x := .long x) hl.2.2.1 h2))
theorem ev_astore_n {i : Fin 4} {x : Nat} {lo' : List Value} (hd : decode r.2.1 pc = .ok (.astore_n i, 1) ∧ pc + 1 = pc') (hi : (i : Nat) < r.2.2.1) (hv : sx_sto lo i (.ref x) = lo') (k : sx_ev d r pc' lo' st w Q) : sx_ev d r pc lo (.ref x :: st) w Q := by
  intro l G A p e s m args below meth c H locs ls hc hK hA hP hD hS hl
  obtain ⟨hd, rfl⟩ := hd
  subst hv
  exact lv_astore_n hc.1 hc.2.1 hd rfl hl.has hi rfl (fun ls2 h2 => k l G A p e s m args below meth c H locs ls2 hc hK hA hP hD hS (sx_sto_of (x := .ref x) hl.2.2.1 h2))
theorem ev_astore {i : Nat} {x : Nat} {lo' : List Value} (hd : decode r.2.1 pc = .ok (.astore i, 2) ∧ pc + 2 = pc') (hi : i < r.2.2.1) (hv : sx_sto lo i (.ref x) = lo') (k : sx_ev d r pc' lo' st w Q) : sx_ev d r pc lo (.ref x :: st) w Q := by
  intro l G A p e s m args below meth c H locs ls hc hK hA hP hD hS hl
  obtain ⟨hd, rfl⟩ := hd
  subst hv
  exact lv_astore hc.1 hc.2.1 hd hl.has hi rfl (fun ls2 h2 => k l G A p e s m args below meth c H locs ls2 hc hK hA hP hD hS (sx_sto_of (x := .ref x) hl.2.2.1 h2))
theorem ev_iinc {i : Nat} {n : Int} {x v : Int32} {lo' : List Value} (hd : decode r.2.1 pc = .ok (.iinc i n, 3) ∧ pc + 3 = pc') (hn : Int32.ofInt n = v) (hx : sx_nth lo i = some (.int x)) (hi : i < r.2.2.1) (hv : sx_sto lo i (.int (x + v)) = lo') (k : sx_ev d r pc' lo' st w Q) : sx_ev d r pc lo st w Q := by
  intro l G A p e s m args below meth c H locs ls hc hK hA hP hD hS hl
  obtain ⟨hd, rfl⟩ := hd
  subst hv; subst hn
  obtain ⟨j, hj⟩ := List.getElem?_of_mem ((sx_lp_mem G.2.1 lo 0 (i, .int x)).mpr ⟨i, .int x, hx, (fun h => by cases h), by rw [Nat.zero_add]; rfl⟩)
  exact lv_iinc hc.1 hc.2.1 hd hl.has hj rfl hi rfl (fun ls2 h2 => k l G A p e s m args below meth c H locs ls2 hc hK hA hP hD hS (sx_sto_of (x := .int (x + Int32.ofInt n)) hl.2.2.1 h2))
theorem ev_dup {v : Value} (hd : decode r.2.1 pc = .ok (.dup, 1) ∧ pc + 1 = pc') (hv : v.category = 1) (k : sx_ev d r pc' lo (v :: v :: st) w Q) : sx_ev d r pc lo (v :: st) w Q := by
  intro l G A p e s m args below meth c H locs ls hc hK hA hP hD hS hl
  obtain ⟨hd, rfl⟩ := hd
  exact lv_dup hc.1 hc.2.1 hd (by rw [sx_v_cat]; exact hv) (k l G A p e s m args below meth c H locs ls hc hK hA hP hD hS hl)
theorem ev_pop {v : Value} (hd : decode r.2.1 pc = .ok (.pop, 1) ∧ pc + 1 = pc') (hv : v.category = 1) (k : sx_ev d r pc' lo st w Q) : sx_ev d r pc lo (v :: st) w Q := by
  intro l G A p e s m args below meth c H locs ls hc hK hA hP hD hS hl
  obtain ⟨hd, rfl⟩ := hd
  exact lv_pop hc.1 hc.2.1 hd (by rw [sx_v_cat]; exact hv) (k l G A p e s m args below meth c H locs ls hc hK hA hP hD hS hl)
theorem ev_dup2 {v u : Value} (hd : decode r.2.1 pc = .ok (.dup2, 1) ∧ pc + 1 = pc') (hv : v.category = 1) (hu : u.category = 1) (k : sx_ev d r pc' lo (v :: u :: v :: u :: st) w Q) : sx_ev d r pc lo (v :: u :: st) w Q := by
  intro l G A p e s m args below meth c H locs ls hc hK hA hP hD hS hl
  obtain ⟨hd, rfl⟩ := hd
  exact lv_dup2_11 hc.1 hc.2.1 hd (by rw [sx_v_cat]; exact hv) (by rw [sx_v_cat]; exact hu) (k l G A p e s m args below meth c H locs ls hc hK hA hP hD hS hl)
theorem ev_goto {off : Int} {tgt : Nat} (hd : decode r.2.1 pc = .ok (.goto off, 3) ∧ pc + 3 = pc') (ht : (pc : Int) + off = (tgt : Int)) (k : sx_ev d r tgt lo st w Q) : sx_ev d r pc lo st w Q := by
  intro l G A p e s m args below meth c H locs ls hc hK hA hP hD hS hl
  exact lv_goto hc.1 hc.2.1 hd.1 ht (k l G A p e s m args below meth c H locs ls hc hK hA hP hD hS hl)
theorem ev_if_eq {x : Int32} {off : Int} {tgt : Nat} (hd : decode r.2.1 pc = .ok (.ifCond .eq off, 3) ∧ pc + 3 = pc') (ht : (pc : Int) + off = (tgt : Int)) (kt : x = 0 → sx_ev d r tgt lo st w Q) (kf : ¬ x = 0 → sx_ev d r pc' lo st w Q) : sx_ev d r pc lo (.int x :: st) w Q := by
  intro l G A p e s m args below meth c H locs ls hc hK hA hP hD hS hl
  obtain ⟨hd, rfl⟩ := hd
  exact lv_if_eq hc.1 hc.2.1 hd ht (fun h => kt h l G A p e s m args below meth c H locs ls hc hK hA hP hD hS hl) (fun h => kf h l G A p e s m args below meth c H locs ls hc hK hA hP hD hS hl)
theorem ev_icmp_eq {x y : Int32} {off : Int} {tgt : Nat} (hd : decode r.2.1 pc = .ok (.if_icmp .eq off, 3) ∧ pc + 3 = pc') (ht : (pc : Int) + off = (tgt : Int)) (kt : x = y → sx_ev d r tgt lo st w Q) (kf : ¬ x = y → sx_ev d r pc' lo st w Q) : sx_ev d r pc lo (.int y :: .int x :: st) w Q := by
  intro l G A p e s m args below meth c H locs ls hc hK hA hP hD hS hl
  obtain ⟨hd, rfl⟩ := hd
  exact lv_icmp_eq hc.1 hc.2.1 hd ht (fun h => kt h l G A p e s m args below meth c H locs ls hc hK hA hP hD hS hl) (fun h => kf h l G A p e s m args below meth c H locs ls hc hK hA hP hD hS hl)
theorem ev_if_ne {x : Int32} {off : Int} {tgt : Nat} (hd : decode r.2.1 pc = .ok (.ifCond .ne off, 3) ∧ pc + 3 = pc') (ht : (pc : Int) + off = (tgt : Int)) (kt : ¬ x = 0 → sx_ev d r tgt lo st w Q) (kf : x = 0 → sx_ev d r pc' lo st w Q) : sx_ev d r pc lo (.int x :: st) w Q := by
  intro l G A p e s m args below meth c H locs ls hc hK hA hP hD hS hl
  obtain ⟨hd, rfl⟩ := hd
  exact lv_if_ne hc.1 hc.2.1 hd ht (fun h => kt h l G A p e s m args below meth c H locs ls hc hK hA hP hD hS hl) (fun h => kf h l G A p e s m args below meth c H locs ls hc hK hA hP hD hS hl)
theorem ev_icmp_ne {x y : Int32} {off : Int} {tgt : Nat} (hd : decode r.2.1 pc = .ok (.if_icmp .ne off, 3) ∧ pc + 3 = pc') (ht : (pc : Int) + off = (tgt : Int)) (kt : ¬ x = y → sx_ev d r tgt lo st w Q) (kf : x = y → sx_ev d r pc' lo st w Q) : sx_ev d r pc lo (.int y :: .int x :: st) w Q := by
  intro l G A p e s m args below meth c H locs ls hc hK hA hP hD hS hl
  obtain ⟨hd, rfl⟩ := hd
  exact lv_icmp_ne hc.1 hc.2.1 hd ht (fun h => kt h l G A p e s m args below meth c H locs ls hc hK hA hP hD hS hl) (fun h => kf h l G A p e s m args below meth c H locs ls hc hK hA hP hD hS hl)
theorem ev_if_lt {x : Int32} {off : Int} {tgt : Nat} (hd : decode r.2.1 pc = .ok (.ifCond .lt off, 3) ∧ pc + 3 = pc') (ht : (pc : Int) + off = (tgt : Int)) (kt : x < 0 → sx_ev d r tgt lo st w Q) (kf : ¬ x < 0 → sx_ev d r pc' lo st w Q) : sx_ev d r pc lo (.int x :: st) w Q := by
  intro l G A p e s m args below meth c H locs ls hc hK hA hP hD hS hl
  obtain ⟨hd, rfl⟩ := hd
  exact lv_if_lt hc.1 hc.2.1 hd ht (fun h => kt h l G A p e s m args below meth c H locs ls hc hK hA hP hD hS hl) (fun h => kf h l G A p e s m args below meth c H locs ls hc hK hA hP hD hS hl)
theorem ev_icmp_lt {x y : Int32} {off : Int} {tgt : Nat} (hd : decode r.2.1 pc = .ok (.if_icmp .lt off, 3) ∧ pc + 3 = pc') (ht : (pc : Int) + off = (tgt : Int)) (kt : x < y → sx_ev d r tgt lo st w Q) (kf : ¬ x < y → sx_ev d r pc' lo st w Q) : sx_ev d r pc lo (.int y :: .int x :: st) w Q := by
  intro l G A p e s m args below meth c H locs ls hc hK hA hP hD hS hl
  obtain ⟨hd, rfl⟩ := hd
  exact lv_icmp_lt hc.1 hc.2.1 hd ht (fun h => kt h l G A p e s m args below meth c H locs ls hc hK hA hP hD hS hl) (fun h => kf h l G A p e s m args below meth c H locs ls hc hK hA hP hD hS hl)
theorem ev_if_ge {x : Int32} {off : Int} {tgt : Nat} (hd : decode r.2.1 pc = .ok (.ifCond .ge off, 3) ∧ pc + 3 = pc') (ht : (pc : Int) + off = (tgt : Int)) (kt : 0 ≤ x → sx_ev d r tgt lo st w Q) (kf : ¬ 0 ≤ x → sx_ev d r pc' lo st w Q) : sx_ev d r pc lo (.int x :: st) w Q := by
  intro l G A p e s m args below meth c H locs ls hc hK hA hP hD hS hl
  obtain ⟨hd, rfl⟩ := hd
  exact lv_if_ge hc.1 hc.2.1 hd ht (fun h => kt h l G A p e s m args below meth c H locs ls hc hK hA hP hD hS hl) (fun h => kf h l G A p e s m args below meth c H locs ls hc hK hA hP hD hS hl)
theorem ev_icmp_ge {x y : Int32} {off : Int} {tgt : Nat} (hd : decode r.2.1 pc = .ok (.if_icmp .ge off, 3) ∧ pc + 3 = pc') (ht : (pc : Int) + off = (tgt : Int)) (kt : y ≤ x → sx_ev d r tgt lo st w Q) (kf : ¬ y ≤ x → sx_ev d r pc' lo st w Q) : sx_ev d r pc lo (.int y :: .int x :: st) w Q := by
  intro l G A p e s m args below meth c H locs ls hc hK hA hP hD hS hl
  obtain ⟨hd, rfl⟩ := hd
  exact lv_icmp_ge hc.1 hc.2.1 hd ht (fun h => kt h l G A p e s m args below meth c H locs ls hc hK hA hP hD hS hl) (fun h => kf h l G A p e s m args below meth c H locs ls hc hK hA hP hD hS hl)
theorem ev_if_gt {x : Int32} {off : Int} {tgt : Nat} (hd : decode r.2.1 pc = .ok (.ifCond .gt off, 3) ∧ pc + 3 = pc') (ht : (pc : Int) + off = (tgt : Int)) (kt : 0 < x → sx_ev d r tgt lo st w Q) (kf : ¬ 0 < x → sx_ev d r pc' lo st w Q) : sx_ev d r pc lo (.int x :: st) w Q := by
  intro l G A p e s m args below meth c H locs ls hc hK hA hP hD hS hl
  obtain ⟨hd, rfl⟩ := hd
  exact lv_if_gt hc.1 hc.2.1 hd ht (fun h => kt h l G A p e s m args below meth c H locs ls hc hK hA hP hD hS hl) (fun h => kf h l G A p e s m args below meth c H locs ls hc hK hA hP hD hS hl)
theorem ev_icmp_gt {x y : Int32} {off : Int} {tgt : Nat} (hd : decode r.2.1 pc = .ok (.if_icmp .gt off, 3) ∧ pc + 3 = pc') (ht : (pc : Int) + off = (tgt : Int)) (kt : y < x → sx_ev d r tgt lo st w Q) (kf : ¬ y < x → sx_ev d r pc' lo st w Q) : sx_ev d r pc lo (.int y :: .int x :: st) w Q := by
  intro l G A p e s m args below meth c H locs ls hc hK hA hP hD hS hl
  obtain ⟨hd, rfl⟩ := hd
  exact lv_icmp_gt hc.1 hc.2.1 hd ht (fun h => kt h l G A p e s m args below meth c H locs ls hc hK hA hP hD hS hl) (fun h => kf h l G A p e s m args below meth c H locs ls hc hK hA hP hD hS hl)
theorem ev_if_le {x : Int32} {off : Int} {tgt : Nat} (hd : decode r.2.1 pc = .ok (.ifCond .le off, 3) ∧ pc + 3 = pc') (ht : (pc : Int) + off = (tgt : Int)) (kt : x ≤ 0 → sx_ev d r tgt lo st w Q) (kf : ¬ x ≤ 0 → sx_ev d r pc' lo st w Q) : sx_ev d r pc lo (.int x :: st) w Q := by
  intro l G A p e s m args below meth c H locs ls hc hK hA hP hD hS hl
  obtain ⟨hd, rfl⟩ := hd
  exact lv_if_le hc.1 hc.2.1 hd ht (fun h => kt h l G A p e s m args below meth c H locs ls hc hK hA hP hD hS hl) (fun h => kf h l G A p e s m args below meth c H locs ls hc hK hA hP hD hS hl)
theorem ev_icmp_le {x y : Int32} {off : Int} {tgt : Nat} (hd : decode r.2.1 pc = .ok (.if_icmp .le off, 3) ∧ pc + 3 = pc') (ht : (pc : Int) + off = (tgt : Int)) (kt : x ≤ y → sx_ev d r tgt lo st w Q) (kf : ¬ x ≤ y → sx_ev d r pc' lo st w Q) : sx_ev d r pc lo (.int y :: .int x :: st) w Q := by
  intro l G A p e s m args below meth c H locs ls hc hK hA hP hD hS hl
  obtain ⟨hd, rfl⟩ := hd
  exact lv_icmp_le hc.1 hc.2.1 hd ht (fun h => kt h l G A p e s m args below meth c H locs ls hc hK hA hP hD hS hl) (fun h => kf h l G A p e s m args below meth c H locs ls hc hK hA hP hD hS hl)
theorem ev_tsw {x : Int32} {dflt tlo thi : Int} {offs : Array Int} {len td : Nat} (hd : decode r.2.1 pc = .ok (.tableswitch dflt tlo thi offs, len) ∧ pc + len = pc') (ht : (pc : Int) + dflt = (td : Int)) (hs : tlo + offs.size = thi + 1)
    (kc : ∀ (k : Nat) (off : Int), offs[k]? = some off → x.toInt = tlo + k → ∃ tgt : Nat, (pc : Int) + off = (tgt : Int) ∧ sx_ev d r tgt lo st w Q) (kd : (x.toInt < tlo ∨ thi < x.toInt) → sx_ev d r td lo st w Q) : sx_ev d r pc lo (.int x :: st) w Q := by
  intro l G A p e s m args below meth c H locs ls hc hK hA hP hD hS hl
  by_cases h1 : x.toInt < tlo
  · exact lv_tableOut hc.1 hc.2.1 hd.1 (Or.inl h1) ht (kd (Or.inl h1) l G A p e s m args below meth c H locs ls hc hK hA hP hD hS hl)
  · by_cases h2 : thi < x.toInt
    · exact lv_tableOut hc.1 hc.2.1 hd.1 (Or.inr h2) ht (kd (Or.inr h2) l G A p e s m args below meth c H locs ls hc hK hA hP hD hS hl)
    · have hk : (x.toInt - tlo).toNat < offs.size := by omega
      have ho : offs[(x.toInt - tlo).toNat]? = some offs[(x.toInt - tlo).toNat] := Array.getElem?_eq_getElem hk
      obtain ⟨tgt, e1, e2⟩ := kc _ _ ho (by omega)
      exact lv_tableIn hc.1 hc.2.1 hd.1 h1 h2 ho e1 (e2 l G A p e s m args below meth c H locs ls hc hK hA hP hD hS hl)
theorem ev_kp {lo' : List Value} (bs : List Bool) (h : sx_kp bs lo = lo') (k : sx_ev d r pc lo' st w Q) : sx_ev d r pc lo st w Q := by
  subst h
  intro l G A p e s m args below meth c H locs ls hc hK hA hP hD hS hl
  exact k l G A p e s m args below meth c H locs ls hc hK hA hP hD hS (hl.kp bs)
theorem sx_Qi_of {G : sx_G} {A : Nat → Prop} {rt : Option FieldType} {x : Int32} {args : Array Value} {s t : State} {H : Heap} {locs : List Loc} (hr : rt = some .int ∨ rt = some .boolean) (q : Q x 0 w) (hP : va_P G.1 vwCl (sx_wl G w) H) (hD : va_D A (sx_wl G w)) (hS : va_S A s.heap H locs) (ht : t.heap = H) : sx_Qc G A rt Q args s (.returned (some (.int x))) t := by
  rcases hr with rfl | rfl <;> exact ⟨⟨x, w, rfl, q, by rw [ht]; exact hP, hD⟩, hS.F ht⟩
theorem ev_iret {x : Int32} (hd : decode r.2.1 pc = .ok (.ireturn, 1) ∧ pc + 1 = pc') (hr : r.2.2.2 = some .int) (q : Q x 0 w) : sx_ev d r pc lo [.int x] w Q := by
  intro l G A p e s m args below meth c H locs ls hc hK hA hP hD hS hl
  exact W.iret hc.1 hc.2.1 (hc.2.2.2.2.2.1.trans hr) (fun t ht _ => sx_Qi_of (Or.inl hr) q hP hD hS ht) hS.2.2 hd.1 hc.2.2.2.2.2.2.1
theorem ev_zret {x : Int32} (hd : decode r.2.1 pc = .ok (.ireturn, 1) ∧ pc + 1 = pc') (hr : r.2.2.2 = some .boolean) (hx : x = 0 ∨ x = 1) (q : Q x 0 w) : sx_ev d r pc lo [.int x] w Q := by
  intro l G A p e s m args below meth c H locs ls hc hK hA hP hD hS hl
  exact W.zret hc.1 hc.2.1 (hc.2.2.2.2.2.1.trans hr) (by rcases hx with rfl | rfl <;> rfl) (fun t ht _ => sx_Qi_of (Or.inr hr) q hP hD hS ht) hS.2.2 hd.1 hc.2.2.2.2.2.2.1
theorem ev_lret {x : Int64} (hd : decode r.2.1 pc = .ok (.lreturn, 1) ∧ pc + 1 = pc') (hr : r.2.2.2 = some .long) (q : Q 0 x w) : sx_ev d r pc lo [.long x] w Q := by
  intro l G A p e s m args below meth c H locs ls hc hK hA hP hD hS hl
  refine W.lret hc.1 hc.2.1 (hc.2.2.2.2.2.1.trans hr) (fun t ht _ => ?_) hS.2.2 hd.1 hc.2.2.2.2.2.2.1
  rw [hr]
  exact ⟨⟨x, w, rfl, q, by rw [ht]; exact hP, hD⟩, hS.F ht⟩
theorem ev_vret (hd : decode r.2.1 pc = .ok (.return_, 1) ∧ pc + 1 = pc') (hr : r.2.2.2 = none) (q : Q 0 0 w) : sx_ev d r pc lo [] w Q := by
  intro l G A p e s m args below meth c H locs ls hc hK hA hP hD hS hl
  refine W.vret hc.1 hc.2.1 (hc.2.2.2.2.2.1.trans hr) (fun t ht _ => ?_) hS.2.2 hd.1 hc.2.2.2.2.2.2.1
  rw [hr]
  exact ⟨⟨w, rfl, q, by rw [ht]; exact hP, hD⟩, hS.F ht⟩
theorem ev_get {own idx ci j kd a : Nat} {fs : List (Option Nat)} (hd : decode r.2.1 pc = .ok (.getfield idx, 3) ∧ pc + 3 = pc') (ho : sx_cn own = r.1.cls) (hf : sx_fok own (idx, ci, j, kd)) (hs : sx_nth sx_sh a = some (0, ci, fs)) (hj : sx_nth fs j = some none) (k : sx_ev d r pc' lo (.int (w.1 a j) :: st) w Q) : sx_ev d r pc lo (.ref a :: st) w Q := by
  intro l G A p e s m args below meth c H locs ls hc hK hA hP hD hS hl
  obtain ⟨hd, rfl⟩ := hd
  obtain ⟨C, T, N, h1, h2, h3, -⟩ := hf
  rw [ho] at h3
  have hk := sx_kall _ _ h1
  exact va_get (v := .int (w.1 a j)) (Ts := sx_ws r) hc.1 hc.2.1 hc.2.2.2.2.1 (fun x hx => List.mem_cons_of_mem _ (hk.1 x hx)) hc.2.2.2.1 hK hP a (sx_wl_get G w hs) h1 j h2 (hc.2.2.2.2.1 _ (List.mem_cons_of_mem _ h3)) (fun _ h => h) (by rw [sx_f_get, hj, Nat.zero_add]; rfl) hd (k l G A p e s m args below meth c H locs ls hc hK hA hP hD hS hl)
theorem ev_getr {own idx ci j kd a b : Nat} {fs : List (Option Nat)} (hd : decode r.2.1 pc = .ok (.getfield idx, 3) ∧ pc + 3 = pc') (ho : sx_cn own = r.1.cls) (hf : sx_fok own (idx, ci, j, kd)) (hs : sx_nth sx_sh a = some (0, ci, fs)) (hj : sx_nth fs j = some (some b)) (k : sx_ev d r pc' lo (.ref b :: st) w Q) : sx_ev d r pc lo (.ref a :: st) w Q := by
  intro l G A p e s m args below meth c H locs ls hc hK hA hP hD hS hl
  obtain ⟨hd, rfl⟩ := hd
  obtain ⟨C, T, N, h1, h2, h3, -⟩ := hf
  rw [ho] at h3
  have hk := sx_kall _ _ h1
  exact va_get (v := .ref (G.2.1 b)) (Ts := sx_ws r) hc.1 hc.2.1 hc.2.2.2.2.1 (fun x hx => List.mem_cons_of_mem _ (hk.1 x hx)) hc.2.2.2.1 hK hP a (sx_wl_get G w hs) h1 j h2 (hc.2.2.2.2.1 _ (List.mem_cons_of_mem _ h3)) (fun _ h => h) (by rw [sx_f_get, hj]; rfl) hd (k l G A p e s m args below meth c H locs ls hc hK hA hP hD hS hl)
theorem sx_put_wl {G : sx_G} {a j ci : Nat} {fs : List (Option Nat)} {x : Int32} (hs : sx_nth sx_sh a = some (0, ci, fs)) (hj : sx_nth fs j = some none) : (sx_wl G w).set a (G.2.1 a, .inr (ci, (sx_f G.2.1 (w.1 a) 0 fs).set j (.int x))) = sx_wl G (sx_u w.1 a j x, w.2) := by
  rw [sx_f_set _ _ _ _ _ hj]
  have h := sx_wl_set G w (sx_u w.1 a j x, w.2) hs (fun b hb => by simp [sx_u, hb]) (fun _ _ => rfl)
  rw [← h]
  simp [sx_e, sx_u]
theorem ev_put {own idx ci j a : Nat} {x : Int32} {fs : List (Option Nat)} (hd : decode r.2.1 pc = .ok (.putfield idx, 3) ∧ pc + 3 = pc') (ho : sx_cn own = r.1.cls) (hf : sx_fok own (idx, ci, j, 0)) (hs : sx_nth sx_sh a = some (0, ci, fs)) (hj : sx_nth fs j = some none) (k : sx_ev d r pc' lo st (sx_u w.1 a j x, w.2) Q) : sx_ev d r pc lo (.int x :: .ref a :: st) w Q := by
  intro l G A p e s m args below meth c H locs ls hc hK hA hP hD hS hl
  obtain ⟨hd, rfl⟩ := hd
  obtain ⟨C, T, N, h1, h2, h3, h4, -⟩ := hf
  rw [ho] at h3
  have hk := sx_kall _ _ h1
  obtain ⟨ty0, hty⟩ := hk.2.1
  refine va_put (v := .int x) (ty := .int) (Ts := sx_ws r) hc.1 hc.2.1 hc.2.2.2.2.1 (fun x hx => List.mem_cons_of_mem _ (hk.1 x hx)) ty0 hty hk.2.2 hc.2.2.2.1 hK hP hD hS a (sx_wl_get G w hs) h1 j h2 (hc.2.2.2.2.1 _ (List.mem_cons_of_mem _ h3)) (fun _ h => h) (h4 rfl).1 (h4 rfl).2 rfl rfl (by rw [sx_f_len]; exact sx_nth_lt _ _ _ hj) hd (fun H1 locs1 hP1 hD1 hS1 => ?_)
  rw [sx_put_wl hs hj] at hP1 hD1
  exact k l G A p e s m args below meth c H1 locs1 ls hc hK hA hP1 hD1 hS1 hl
theorem ev_putz {own idx ci j a : Nat} {x : Int32} {fs : List (Option Nat)} (hd : decode r.2.1 pc = .ok (.putfield idx, 3) ∧ pc + 3 = pc') (ho : sx_cn own = r.1.cls) (hf : sx_fok own (idx, ci, j, 1)) (hs : sx_nth sx_sh a = some (0, ci, fs)) (hj : sx_nth fs j = some none) (hx : x = 0 ∨ x = 1) (k : sx_ev d r pc' lo st (sx_u w.1 a j x, w.2) Q) : sx_ev d r pc lo (.int x :: .ref a :: st) w Q := by
  intro l G A p e s m args below meth c H locs ls hc hK hA hP hD hS hl
  obtain ⟨hd, rfl⟩ := hd
  obtain ⟨C, T, N, h1, h2, h3, -, h4⟩ := hf
  rw [ho] at h3
  have hk := sx_kall _ _ h1
  obtain ⟨ty0, hty⟩ := hk.2.1
  refine va_put (v := .int x) (ty := .boolean) (Ts := sx_ws r) hc.1 hc.2.1 hc.2.2.2.2.1 (fun x hx => List.mem_cons_of_mem _ (hk.1 x hx)) ty0 hty hk.2.2 hc.2.2.2.1 hK hP hD hS a (sx_wl_get G w hs) h1 j h2 (hc.2.2.2.2.1 _ (List.mem_cons_of_mem _ h3)) (fun _ h => h) (h4 rfl).1 (h4 rfl).2 (by rcases hx with rfl | rfl <;> rfl) (by rcases hx with rfl | rfl <;> rfl) (by rw [sx_f_len]; exact sx_nth_lt _ _ _ hj) hd (fun H1 locs1 hP1 hD1 hS1 => ?_)
  rw [sx_put_wl hs hj] at hP1 hD1
  exact k l G A p e s m args below meth c H1 locs1 ls hc hK hA hP1 hD1 hS1 hl
theorem ev_iaload {a n : Nat} {i : Int32} {fs : List (Option Nat)} (hd : decode r.2.1 pc = .ok (.iaload, 1) ∧ pc + 1 = pc') (hs : sx_nth sx_sh a = some (1, n, fs)) (hi : vp_in i n) (k : sx_ev d r pc' lo (.int (w.1 a i.toNatClampNeg) :: st) w Q) : sx_ev d r pc lo (.int i :: .ref a :: st) w Q := by
  intro l G A p e s m args below meth c H locs ls hc hK hA hP hD hS hl
  obtain ⟨hd, rfl⟩ := hd
  exact va_iald hc.1 hc.2.1 hK hP a 0 (sx_wl_get G w hs) rfl hi hd (k l G A p e s m args below meth c H locs ls hc hK hA hP hD hS hl)
theorem ev_laload {a n : Nat} {i : Int32} {fs : List (Option Nat)} (hd : decode r.2.1 pc = .ok (.laload, 1) ∧ pc + 1 = pc') (hs : sx_nth sx_sh a = some (2, n, fs)) (hi : vp_in i n) (k : sx_ev d r pc' lo (.long (w.2 a i.toNatClampNeg) :: st) w Q) : sx_ev d r pc lo (.int i :: .ref a :: st) w Q := by
  intro l G A p e s m args below meth c H locs ls hc hK hA hP hD hS hl
  obtain ⟨hd, rfl⟩ := hd
  exact va_lald hc.1 hc.2.1 hK hP a 1 (sx_wl_get G w hs) rfl hi hd (k l G A p e s m args below meth c H locs ls hc hK hA hP hD hS hl)
theorem ev_aaload {a n b : Nat} {i : Int32} {fs : List (Option Nat)} (hd : decode r.2.1 pc = .ok (.aaload, 1) ∧ pc + 1 = pc') (hs : sx_nth sx_sh a = some (3, n, fs)) (hi : vp_in i n) (hb : sx_nth fs i.toNatClampNeg = some (some b)) (k : sx_ev d r pc' lo (.ref b :: st) w Q) : sx_ev d r pc lo (.int i :: .ref a :: st) w Q := by
  intro l G A p e s m args below meth c H locs ls hc hK hA hP hD hS hl
  obtain ⟨hd, rfl⟩ := hd
  refine va_aldq hc.1 hc.2.1 hK hP a 2 (sx_wl_get G w hs) rfl hi hd ?_
  have e1 : va_rf ((fun i => ((sx_nth fs i).join).map G.2.1) i.toNatClampNeg) = .ref (G.2.1 b) := by
    show va_rf (((sx_nth fs i.toNatClampNeg).join).map G.2.1) = _
    rw [hb]
    rfl
  rw [e1]
  exact k l G A p e s m args below meth c H locs ls hc hK hA hP hD hS hl
theorem ev_iastore {a n : Nat} {i x : Int32} {fs : List (Option Nat)} (hd : decode r.2.1 pc = .ok (.iastore, 1) ∧ pc + 1 = pc') (hs : sx_nth sx_sh a = some (1, n, fs)) (hi : vp_in i n) (k : sx_ev d r pc' lo st (sx_u w.1 a i.toNatClampNeg x, w.2) Q) : sx_ev d r pc lo (.int x :: .int i :: .ref a :: st) w Q := by
  intro l G A p e s m args below meth c H locs ls hc hK hA hP hD hS hl
  obtain ⟨hd, rfl⟩ := hd
  refine va_iast hc.1 hc.2.1 hK hP hD hS a 0 (sx_wl_get G w hs) rfl hi hd (fun H1 locs1 hP1 hD1 hS1 => ?_)
  have e1 : (sx_wl G w).set a (G.2.1 a, .inl (G.2.2.1, n, .inl (upd (w.1 a) i.toNatClampNeg x))) = sx_wl G (sx_u w.1 a i.toNatClampNeg x, w.2) := by
    have h := sx_wl_set G w (sx_u w.1 a i.toNatClampNeg x, w.2) hs (fun b hb => by simp [sx_u, hb]) (fun _ _ => rfl)
    rw [← h]
    simp [sx_e, sx_u]
  rw [e1] at hP1 hD1
  exact k l G A p e s m args below meth c H1 locs1 ls hc hK hA hP1 hD1 hS1 hl
theorem ev_lastore {a n : Nat} {i : Int32} {x : Int64} {fs : List (Option Nat)} (hd : decode r.2.1 pc = .ok (.lastore, 1) ∧ pc + 1 = pc') (hs : sx_nth sx_sh a = some (2, n, fs)) (hi : vp_in i n) (k : sx_ev d r pc' lo st (w.1, sx_ul w.2 a i.toNatClampNeg x) Q) : sx_ev d r pc lo (.long x :: .int i :: .ref a :: st) w Q := by
  intro l G A p e s m args below meth c H locs ls hc hK hA hP hD hS hl
  obtain ⟨hd, rfl⟩ := hd
  refine va_last hc.1 hc.2.1 hK hP hD hS a 1 (sx_wl_get G w hs) rfl hi hd (fun H1 locs1 hP1 hD1 hS1 => ?_)
  have e1 : (sx_wl G w).set a (G.2.1 a, .inl (G.2.2.2.1, n, .inr (.inl (vp_updL (w.2 a) i.toNatClampNeg x)))) = sx_wl G (w.1, sx_ul w.2 a i.toNatClampNeg x) := by
    have h := sx_wl_set G w (w.1, sx_ul w.2 a i.toNatClampNeg x) hs (fun _ _ => rfl) (fun b hb => by simp [sx_ul, hb])
    rw [← h]
    simp [sx_e, sx_ul]
  rw [e1] at hP1 hD1
  exact k l G A p e s m args below meth c H1 locs1 ls hc hK hA hP1 hD1 hS1 hl
theorem ev_copyi {own idx a b n0 n1 : Nat} {sp dp n : Int32} {fs gs : List (Option Nat)} (hd : decode r.2.1 pc = .ok (.invokestatic idx, 3) ∧ pc + 3 = pc') (ho : sx_cn own = r.1.cls) (hx : idx ∈ sx_ac own) (hs : sx_nth sx_sh a = some (1, n0, fs)) (ht : sx_nth sx_sh b = some (1, n1, gs)) (hst : (st.map fun v => v.category).sum ≤ 8) (h1 : ¬ sp < 0) (h2 : ¬ dp < 0) (h3 : ¬ n < 0) (h4 : sp.toNatClampNeg + n.toNatClampNeg ≤ n0) (h5 : dp.toNatClampNeg + n.toNatClampNeg ≤ n1)
    (k : sx_ev (d + 1) r pc' lo st (sx_cp w.1 a b sp.toNatClampNeg dp.toNatClampNeg n.toNatClampNeg, w.2) Q) : sx_ev (d + 1) r pc lo (.int n :: .int dp :: .ref b :: .int sp :: .ref a :: st) w Q := by
  intro l G A p e s m args below meth c H locs ls hc hK hA hP hD hS hl
  obtain ⟨hd, rfl⟩ := hd
  have hl1 := sx_ac_ok own idx hx
  rw [ho] at hl1
  have mem : ∀ x ∈ sx_T, x.before args s = true := fun x h => hc.2.2.2.2.1 x (List.mem_cons_of_mem _ h)
  refine va_copyi hc.1 hc.2.1 (by rw [hl.1]; exact hc.2.2.1) hc.2.2.2.1 (mem _ hl1) (mem _ sx_acN.1) (mem _ sx_acN.2.1) (mem _ sx_acN.2.2) hK hP hD hS a b 0 0 (sx_wl_get G w hs) (sx_wl_get G w ht) rfl rfl rfl h1 h2 h3 h4 h5 (fun _ _ => rfl) (Nat.le_add_left 1 d) ?_ hd (fun H1 locs1 hP1 hD1 hS1 => ?_)
  · have e1 : ((st.map (sx_v G.2.1)).map fun v => v.category) = st.map fun v => v.category := by
      rw [List.map_map]
      exact List.map_congr_left (fun v _ => sx_v_cat _ v)
    show _ ≤ 60 * (d + 1)
    have e2 : nativeFrameWords "java/lang/System" "arraycopy" 5 + 11 ≤ 50 := by decide
    exact Nat.le_trans (Nat.add_le_add (by rw [e1]; exact hst) e2) (by omega)
  · have e1 : (sx_wl G w).set b (G.2.1 b, .inl (G.2.2.1, n1, .inl (va_cpy (w.1 a) (w.1 b) sp.toNatClampNeg dp.toNatClampNeg n.toNatClampNeg))) = sx_wl G (sx_cp w.1 a b sp.toNatClampNeg dp.toNatClampNeg n.toNatClampNeg, w.2) := by
      have h := sx_wl_set G w (sx_cp w.1 a b sp.toNatClampNeg dp.toNatClampNeg n.toNatClampNeg, w.2) ht (fun c hb => by simp [sx_cp, hb]) (fun _ _ => rfl)
      rw [← h]
      simp [sx_e, sx_cp]
    rw [e1] at hP1 hD1
    exact k l G A p e s m args below meth c H1 locs1 ls hc hK hA hP1 hD1 hS1 hl
theorem ev_copyl {own idx a b n0 n1 : Nat} {sp dp n : Int32} {fs gs : List (Option Nat)} (hd : decode r.2.1 pc = .ok (.invokestatic idx, 3) ∧ pc + 3 = pc') (ho : sx_cn own = r.1.cls) (hx : idx ∈ sx_ac own) (hs : sx_nth sx_sh a = some (2, n0, fs)) (ht : sx_nth sx_sh b = some (2, n1, gs)) (hst : (st.map fun v => v.category).sum ≤ 8) (h1 : ¬ sp < 0) (h2 : ¬ dp < 0) (h3 : ¬ n < 0) (h4 : sp.toNatClampNeg + n.toNatClampNeg ≤ n0) (h5 : dp.toNatClampNeg + n.toNatClampNeg ≤ n1)
    (k : sx_ev (d + 1) r pc' lo st (w.1, sx_cpl w.2 a b sp.toNatClampNeg dp.toNatClampNeg n.toNatClampNeg) Q) : sx_ev (d + 1) r pc lo (.int n :: .int dp :: .ref b :: .int sp :: .ref a :: st) w Q := by
  intro l G A p e s m args below meth c H locs ls hc hK hA hP hD hS hl
  obtain ⟨hd, rfl⟩ := hd
  have hl1 := sx_ac_ok own idx hx
  rw [ho] at hl1
  have mem : ∀ x ∈ sx_T, x.before args s = true := fun x h => hc.2.2.2.2.1 x (List.mem_cons_of_mem _ h)
  refine va_copyl hc.1 hc.2.1 (by rw [hl.1]; exact hc.2.2.1) hc.2.2.2.1 (mem _ hl1) (mem _ sx_acN.1) (mem _ sx_acN.2.1) (mem _ sx_acN.2.2) hK hP hD hS a b 1 1 (sx_wl_get G w hs) (sx_wl_get G w ht) rfl rfl rfl h1 h2 h3 h4 h5 (fun _ _ => rfl) (Nat.le_add_left 1 d) ?_ hd (fun H1 locs1 hP1 hD1 hS1 => ?_)
  · have e1 : ((st.map (sx_v G.2.1)).map fun v => v.category) = st.map fun v => v.category := by
      rw [List.map_map]
      exact List.map_congr_left (fun v _ => sx_v_cat _ v)
    show _ ≤ 60 * (d + 1)
    have e2 : nativeFrameWords "java/lang/System" "arraycopy" 5 + 11 ≤ 50 := by decide
    exact Nat.le_trans (Nat.add_le_add (by rw [e1]; exact hst) e2) (by omega)
  · have e1 : (sx_wl G w).set b (G.2.1 b, .inl (G.2.2.2.1, n1, .inr (.inl (va_cpy (w.2 a) (w.2 b) sp.toNatClampNeg dp.toNatClampNeg n.toNatClampNeg)))) = sx_wl G (w.1, sx_cpl w.2 a b sp.toNatClampNeg dp.toNatClampNeg n.toNatClampNeg) := by
      have h := sx_wl_set G w (w.1, sx_cpl w.2 a b sp.toNatClampNeg dp.toNatClampNeg n.toNatClampNeg) ht (fun _ _ => rfl) (fun c hb => by simp [sx_cpl, hb])
      rw [← h]
      simp [sx_e, sx_cpl]
    rw [e1] at hP1 hD1
    exact k l G A p e s m args below meth c H1 locs1 ls hc hK hA hP1 hD1 hS1 hl
/-- a method's contract: any heap that holds the world w, the arguments As: it returns, and Q of its answer and its world -/
def sx_met (d : Nat) (r : sx_R) (As : List Value) (w : sx_W) (Q : sx_Q) : Prop := ∀ (l : Launch) (G : sx_G) (A : Nat → Prop), Met l r.1 (sx_ws r) (sx_rm d) (va_Pc (As.map (sx_v G.2.1)) (fun U => va_P G.1 vwCl (sx_wl G w) U.heap ∧ va_D A (sx_wl G w) ∧ va_K G.1 vwCl (sx_ty G) U ∧ sx_ne U ∧ ∀ q : Nat, U.heap.size ≤ q → A q)) (sx_Qc G A r.2.2.2 Q) 0 0 A
def sx_en : List Value → List Value
  | [] => []
  | .long x :: t => .long x :: .null :: sx_en t
  | v :: t => v :: sx_en t
theorem sx_en_args (ad : Nat → Nat) : ∀ (As : List Value) (n k : Nat) (i : Nat) (v : Value), (∀ x ∈ As, ∀ y, x ≠ .double y) → sx_nth (sx_en As ++ List.replicate n .null) i = some v → v ≠ .null → (k + i, sx_v ad v) ∈ lv_args k (As.map (sx_v ad))
  | [], n, k, i, v, _, h, hn => by
    exfalso
    have : ∀ (m j : Nat), sx_nth (List.replicate m Value.null) j = some v → v = .null := by
      intro m
      induction m with
      | zero => intro j h; cases h
      | succ m ih =>
        intro j h
        cases j with
        | zero => exact (Option.some.inj h).symm
        | succ j => exact ih j h
    exact hn (this n i h)
  | a :: t, n, k, i, v, hdb, h, hn => by
    have ih := fun (k i : Nat) (v : Value) => sx_en_args ad t n k i v (fun x hx => hdb x (List.mem_cons_of_mem _ hx))
    have two : ∀ (a : Value), a.category = 1 → sx_nth (a :: (sx_en t ++ List.replicate n .null)) i = some v → (k + i, sx_v ad v) ∈ lv_args k (sx_v ad a :: t.map (sx_v ad)) := by
      intro a ha h
      have e : ¬ (sx_v ad a).category = 2 := by rw [sx_v_cat, ha]; decide
      unfold lv_args
      rw [if_neg e]
      cases i with
      | zero => cases h; exact List.mem_cons_self
      | succ i =>
        have h2 := ih (k + 1) i v h hn
        rw [Nat.add_assoc, Nat.add_comm 1 i] at h2
        exact List.mem_cons_of_mem _ h2
    cases a with
    | long x =>
      show (k + i, sx_v ad v) ∈ (k, Value.long x) :: lv_args (k + 2) (t.map (sx_v ad))
      match i, h with
      | 0, h => cases h; exact List.mem_cons_self
      | 1, h => exact absurd (Option.some.inj h).symm hn
      | i + 2, h =>
        have h2 := ih (k + 2) i v h hn
        rw [show k + 2 + i = k + (i + 2) by omega] at h2
        exact List.mem_cons_of_mem _ h2
    | double x => exact absurd rfl (hdb _ List.mem_cons_self x)
    | int x => exact two _ rfl h
    | float x => exact two _ rfl h
    | null => exact two _ rfl h
    | ref x => exact two _ rfl h
    | retAddr x => exact two _ rfl h
theorem sx_en_len (ad : Nat → Nat) : ∀ (As : List Value), (∀ x ∈ As, ∀ y, x ≠ .double y) → (lg_sl (As.map (sx_v ad))).length = (sx_en As).length
  | [], _ => rfl
  | a :: t, h => by
    have ih := sx_en_len ad t (fun x hx => h x (List.mem_cons_of_mem _ hx))
    have e : lg_sl ((a :: t).map (sx_v ad)) = (if (sx_v ad a).category = 2 then [.val (sx_v ad a), .second] else [.val (sx_v ad a)]) ++ lg_sl (t.map (sx_v ad)) := by simp [lg_sl]
    rw [e, List.length_append, ih]
    cases a <;> first | exact absurd rfl (h _ List.mem_cons_self _) | (simp [sx_en, sx_v, Value.category]; try omega)
theorem sx_met_of {As : List Value} (hpl : plainName r.1.cls = true) (hdb : As.all (fun x => match x with | .double _ => false | _ => true) = true) (hn : (sx_en As ++ List.replicate (r.2.2.1 - (sx_en As).length) .null) = lo) (hle : Nat.ble (sx_en As).length r.2.2.1 = true) (h : sx_ev d r 0 lo [] w Q) : sx_met d r As w Q := by
  intro l G A
  have hdb2 : ∀ x ∈ As, ∀ y, x ≠ .double y := fun x hx y he => by have := List.all_eq_true.mp hdb x hx; rw [he] at this; cases this
  refine Met.ofW (cc := r.2.1) (maxL := r.2.2.1) (ret := r.2.2.2) hpl rfl ?_
  intro p e s m args below meth c s₁ B hml hv
  obtain ⟨rfl, hP, hD, hK, hne, hA⟩ := hv
  have hts := atoms_spec (ws := sx_ws r) B.pre
  have hle2 : (lg_sl (As.map (sx_v G.2.1))).length ≤ r.2.2.1 := by rw [sx_en_len G.2.1 As hdb2]; exact Nat.le_of_ble_eq_true hle
  have hl := lv_entry (As.map (sx_v G.2.1)) (n := r.2.2.1) hle2
  rw [lg_entry_eq]
  generalize (lg_sl (As.map (sx_v G.2.1)) ++ List.replicate (r.2.2.1 - (lg_sl (As.map (sx_v G.2.1))).length) Slot.unset).toArray = ls at hl ⊢
  refine h l G A p e s m _ below meth c s.heap [] ls ⟨B.exec, B.bytes, hml, findClass_of_methodNamed B.named, hts, B.returns, B.notSynchronized, hne⟩ hK hA hP hD va_S.rf ⟨hl.1, hl.2.1, ?_, ?_⟩
  · rw [← hn, List.length_append, List.length_replicate]
    have := Nat.le_of_ble_eq_true hle
    omega
  · intro i v hi hv
    rw [← hn] at hi
    have h2 := sx_en_args G.2.1 As _ 0 i v hdb2 hi hv
    rw [Nat.zero_add] at h2
    exact hl.2.2 _ h2
theorem sx_blind {G : sx_G} {A : Nat → Prop} {As : List Value} : FrameBlind (va_Pc As (fun U => va_P G.1 vwCl (sx_wl G w) U.heap ∧ va_D A (sx_wl G w) ∧ va_K G.1 vwCl (sx_ty G) U ∧ sx_ne U ∧ ∀ q : Nat, U.heap.size ≤ q → A q)) := by
  intro a U g mk q
  obtain ⟨q0, qP, qD, qK, qn, qA⟩ := q
  exact ⟨q0, qP, qD, va_K.moved (u := U) (U := U.calling g mk a) (Vm.Alike.refl U.vm) qK, sx_ne.same (s := U) (U := U.calling g mk a) rfl qn, qA⟩
theorem sx_room_ok {d n : Nat} (h : n ≤ 40) : (sx_rm d).frames + 1 ≤ (sx_rm (d + 1)).frames ∧ 8 + (n + 11) + (sx_rm d).locals ≤ (sx_rm (d + 1)).locals := by
  show d + 1 ≤ d + 1 ∧ 8 + (n + 11) + 60 * d ≤ 60 * (d + 1)
  omega
theorem sx_cat8 {ad : Nat → Nat} (h : (st.map fun v => v.category).sum ≤ 8) : ((st.map (sx_v ad)).map fun v => v.category).sum ≤ 8 := by
  have e1 : ((st.map (sx_v ad)).map fun v => v.category) = st.map fun v => v.category := by
    rw [List.map_map]
    exact List.map_congr_left (fun v _ => sx_v_cat _ v)
  rw [e1]
  exact h
/-- the run of a call: virtual, static, static of a nest mate -/
theorem sx_runV {r2 : sx_R} {own idx ci na a : Nat} {As st0 : List Value} {Q2 : sx_Q} {fs : List (Option Nat)} (ho : sx_cn own = r.1.cls) (hcl : sx_cok own (idx, 0, na, ci, r2)) (hs : sx_nth sx_sh a = some (0, ci, fs)) (hAs : As.length = na) (hst : (st.map fun v => v.category).sum ≤ 8) (he : st0 = As.reverse ++ .ref a :: st) (hd : decode r.2.1 pc = .ok (.invokevirtual idx, 3)) (hM : sx_met d r2 (.ref a :: As) w Q2)
    {l : Launch} {G : sx_G} {A : Nat → Prop} {p : Program} {e : Env} {s : State} {m : MethodId} {args : Array Value} {below : List Frame} {meth : Method} {c : Code} {H : Heap} {locs : List Loc} {ls : Array Slot} (hc : sx_cx p s m args meth c r) (hK : va_K G.1 vwCl (sx_ty G) s) (hA : ∀ q : Nat, s.heap.size ≤ q → A q) (hP : va_P G.1 vwCl (sx_wl G w) H) (hD : va_D A (sx_wl G w)) (hS : va_S A s.heap H locs) (hl : sx_L G.2.1 ls r.2.2.1 lo) :
    va_Run p l e (sx_rm (d + 1)) s m args below meth c H locs 0 0 0 0 (F0 m pc ls (st0.map (sx_v G.2.1))) (st.map (sx_v G.2.1)) (sx_Qc G A r2.2.2.2 Q2 (Value.ref (G.2.1 a) :: As.map (sx_v G.2.1)).toArray) A := by
  obtain ⟨⟨k1, k2, k3, k4⟩, k5, k6, k7, k8, k9⟩ := hcl
  have k1 : Cond.methodLink r.1.cls idx r2.1 ∈ sx_T := ho ▸ k1
  have mem : ∀ x ∈ sx_T, x.before args s = true := fun x h => hc.2.2.2.2.1 x (List.mem_cons_of_mem _ h)
  obtain ⟨q, hq, hq1⟩ : ∃ q, vwCl[ci]? = some q ∧ q.1 = r2.1.cls := by
    cases h : vwCl[ci]? with
    | none => rw [h] at k4; cases k4
    | some q => rw [h] at k4; exact ⟨q, rfl, Option.some.inj k4⟩
  have hall : ∀ x ∈ wsV r.1.cls idx r2.1.cls r2.1 (sx_ws r2), x ∈ sx_T := by
    intro x hx
    simp only [wsV, sx_ws, List.cons_append, List.nil_append, List.mem_cons] at hx
    rcases hx with rfl | rfl | rfl | rfl | rfl | hx
    · exact k1
    · exact k2
    · exact k3
    · exact k6
    · exact k5
    · exact hx
  refine va_runV (b := G.2.1 a) (As := As.map (sx_v G.2.1)) (C := r2.1.cls) (n := na) (Ts := sx_ws r) ⟨hc.1, hc.2.1, hc.2.2.1, hc.2.2.2.1, hc.2.2.2.2.1⟩ (hM l G A) (cwV na hc.2.2.2.2.1 (sx_gi hall) rfl rfl rfl ⟨rfl, k7⟩ (sx_room_ok k8)) ⟨sx_blind, hq1 ▸ va_recv hK hP hq (sx_wl_get G w hs), fun U hU hW => ⟨rfl, by rw [hU]; exact hP, hD, va_K.moved hW.alike hK, hc.2.2.2.2.2.2.2.warm hW, fun q hq => hA q (Nat.le_trans hS.1 (by rw [hU] at hq; exact hq))⟩⟩ rfl (by rw [List.length_map]; exact hAs) hl.1 ?_ (lv_room (sx_cat8 hst)) hd ⟨Nat.le_refl 0, Nat.le_refl 0⟩
  show st0.map (sx_v G.2.1) = _
  rw [he, List.map_append, List.map_reverse]
  rfl
theorem sx_runS {r2 : sx_R} {own idx ci na : Nat} {As st0 : List Value} {Q2 : sx_Q} (ho : sx_cn own = r.1.cls) (hcl : sx_cok own (idx, 1, na, ci, r2)) (hAs : As.length = na) (hst : (st.map fun v => v.category).sum ≤ 8) (he : st0 = As.reverse ++ st) (hd : decode r.2.1 pc = .ok (.invokestatic idx, 3)) (hM : sx_met d r2 As w Q2)
    {l : Launch} {G : sx_G} {A : Nat → Prop} {p : Program} {e : Env} {s : State} {m : MethodId} {args : Array Value} {below : List Frame} {meth : Method} {c : Code} {H : Heap} {locs : List Loc} {ls : Array Slot} (hc : sx_cx p s m args meth c r) (hK : va_K G.1 vwCl (sx_ty G) s) (hA : ∀ q : Nat, s.heap.size ≤ q → A q) (hP : va_P G.1 vwCl (sx_wl G w) H) (hD : va_D A (sx_wl G w)) (hS : va_S A s.heap H locs) (hl : sx_L G.2.1 ls r.2.2.1 lo) :
    va_Run p l e (sx_rm (d + 1)) s m args below meth c H locs 0 0 0 0 (F0 m pc ls (st0.map (sx_v G.2.1))) (st.map (sx_v G.2.1)) (sx_Qc G A r2.2.2.2 Q2 (As.map (sx_v G.2.1)).toArray) A := by
  obtain ⟨⟨k1, k2⟩, k5, k6, k7, k8, k9⟩ := hcl
  have k1 : Cond.methodLink r.1.cls idx r2.1 ∈ sx_T := ho ▸ k1
  have mem : ∀ x ∈ sx_T, x.before args s = true := fun x h => hc.2.2.2.2.1 x (List.mem_cons_of_mem _ h)
  have hall : ∀ x ∈ sx_ws r2, x ∈ sx_T := by
    intro x hx
    rcases List.mem_cons.mp hx with rfl | hx
    · exact k5
    · exact hx
  refine va_runS (As := As.map (sx_v G.2.1)) (n := na) (Ts := sx_ws r) ⟨hc.1, hc.2.1, hc.2.2.1, hc.2.2.2.1, hc.2.2.2.2.1⟩ (hM l G A) ⟨callB_of na hc.2.2.2.2.1 (sx_gi hall) rfl rfl rfl (mem _ k6) (mem _ k1) k7 (sx_room_ok k8), mem _ k2⟩ ⟨sx_blind, fun U hU hW => ⟨rfl, by rw [hU]; exact hP, hD, va_K.moved hW.alike hK, hc.2.2.2.2.2.2.2.warm hW, fun q hq => hA q (Nat.le_trans hS.1 (by rw [hU] at hq; exact hq))⟩⟩ rfl (by rw [List.length_map]; exact hAs) hl.1 ?_ (lv_room (sx_cat8 hst)) hd ⟨Nat.le_refl 0, Nat.le_refl 0⟩
  show st0.map (sx_v G.2.1) = _
  rw [he, List.map_append, List.map_reverse]
theorem sx_runN {r2 : sx_R} {own idx ci na : Nat} {As st0 : List Value} {Q2 : sx_Q} (ho : sx_cn own = r.1.cls) (hcl : sx_cok own (idx, 2, na, ci, r2)) (hAs : As.length = na) (hst : (st.map fun v => v.category).sum ≤ 8) (he : st0 = As.reverse ++ st) (hd : decode r.2.1 pc = .ok (.invokestatic idx, 3)) (hM : sx_met d r2 As w Q2)
    {l : Launch} {G : sx_G} {A : Nat → Prop} {p : Program} {e : Env} {s : State} {m : MethodId} {args : Array Value} {below : List Frame} {meth : Method} {c : Code} {H : Heap} {locs : List Loc} {ls : Array Slot} (hc : sx_cx p s m args meth c r) (hK : va_K G.1 vwCl (sx_ty G) s) (hA : ∀ q : Nat, s.heap.size ≤ q → A q) (hP : va_P G.1 vwCl (sx_wl G w) H) (hD : va_D A (sx_wl G w)) (hS : va_S A s.heap H locs) (hl : sx_L G.2.1 ls r.2.2.1 lo) :
    va_Run p l e (sx_rm (d + 1)) s m args below meth c H locs 0 0 0 0 (F0 m pc ls (st0.map (sx_v G.2.1))) (st.map (sx_v G.2.1)) (sx_Qc G A r2.2.2.2 Q2 (As.map (sx_v G.2.1)).toArray) A := by
  obtain ⟨⟨⟨host, k1⟩, k2⟩, k5, k6, k7, k8, k9⟩ := hcl
  have mem : ∀ x ∈ sx_T, x.before args s = true := fun x h => hc.2.2.2.2.1 x (List.mem_cons_of_mem _ h)
  have k1 : va_Nw (.methodLinkNest r.1.cls idx r2.1 host) s := ho ▸ hc.2.2.2.2.2.2.2 _ k1
  have hall : ∀ x ∈ sx_ws r2, x ∈ sx_T := by
    intro x hx
    rcases List.mem_cons.mp hx with rfl | hx
    · exact k5
    · exact hx
  refine va_runSN (As := As.map (sx_v G.2.1)) (n := na) (Ts := sx_ws r) ⟨hc.1, hc.2.1, hc.2.2.1, hc.2.2.2.1, hc.2.2.2.2.1⟩ (hM l G A) ⟨va_cnB na hc.2.2.2.2.1 (sx_gi hall) rfl rfl rfl k1 (mem _ k6) k7 (sx_room_ok k8), mem _ k2, trivial⟩ ⟨sx_blind, fun U hU hW => ⟨rfl, by rw [hU]; exact hP, hD, va_K.moved hW.alike hK, hc.2.2.2.2.2.2.2.warm hW, fun q hq => hA q (Nat.le_trans hS.1 (by rw [hU] at hq; exact hq))⟩⟩ rfl (by rw [List.length_map]; exact hAs) hl.1 ?_ (lv_room (sx_cat8 hst)) hd ⟨Nat.le_refl 0, Nat.le_refl 0⟩
  show st0.map (sx_v G.2.1) = _
  rw [he, List.map_append, List.map_reverse]
theorem ev_callVi {r2 : sx_R} {own idx ci na : Nat} {As st0 : List Value} {Q2 : sx_Q} {a : Nat} {fs : List (Option Nat)} (hd : decode r.2.1 pc = .ok (.invokevirtual idx, 3) ∧ pc + 3 = pc') (ho : sx_cn own = r.1.cls) (hcl : sx_cok own (idx, 0, na, ci, r2)) (hs : sx_nth sx_sh a = some (0, ci, fs)) (hr : (r2.2.2.2 = some .int ∨ r2.2.2.2 = some .boolean)) (hAs : As.length = na) (hst : (st.map fun v => v.category).sum ≤ 8) (he : st0 = As.reverse ++ .ref a :: st) (hM : sx_met d r2 (.ref a :: As) w Q2) (k : ∀ (x : Int32) (w2 : sx_W), Q2 x 0 w2 → sx_ev (d + 1) r pc' lo (.int x :: st) w2 Q) : sx_ev (d + 1) r pc lo st0 w Q := by
  intro l G A p e s m args below meth c H locs ls hc hK hA hP hD hS hl
  obtain ⟨hd, rfl⟩ := hd
  have hr2 := sx_runV (lo := lo) ho hcl hs hAs hst he hd hM (l := l) (e := e) (below := below) hc hK hA hP hD hS hl
  rcases hr with hr | hr
  · rw [hr] at hr2
    exact va_calli (a := (Value.ref (G.2.1 a) :: As.map (sx_v G.2.1)).toArray) hr2 hS (fun _ _ h => h) (fun _ h => h) (fun x u t H1 locs1 ht hvm hw hB hz hk hS1 => k x u hw l G A p e s m args below meth c H1 locs1 ls hc hK hA (ht ▸ hB.1) hB.2 hS1 hl)
  · rw [hr] at hr2
    exact va_calli (a := (Value.ref (G.2.1 a) :: As.map (sx_v G.2.1)).toArray) hr2 hS (fun _ _ h => h) (fun _ h => h) (fun x u t H1 locs1 ht hvm hw hB hz hk hS1 => k x u hw l G A p e s m args below meth c H1 locs1 ls hc hK hA (ht ▸ hB.1) hB.2 hS1 hl)
theorem ev_callVl {r2 : sx_R} {own idx ci na : Nat} {As st0 : List Value} {Q2 : sx_Q} {a : Nat} {fs : List (Option Nat)} (hd : decode r.2.1 pc = .ok (.invokevirtual idx, 3) ∧ pc + 3 = pc') (ho : sx_cn own = r.1.cls) (hcl : sx_cok own (idx, 0, na, ci, r2)) (hs : sx_nth sx_sh a = some (0, ci, fs)) (hr : r2.2.2.2 = some .long) (hAs : As.length = na) (hst : (st.map fun v => v.category).sum ≤ 8) (he : st0 = As.reverse ++ .ref a :: st) (hM : sx_met d r2 (.ref a :: As) w Q2) (k : ∀ (x : Int64) (w2 : sx_W), Q2 0 x w2 → sx_ev (d + 1) r pc' lo (.long x :: st) w2 Q) : sx_ev (d + 1) r pc lo st0 w Q := by
  intro l G A p e s m args below meth c H locs ls hc hK hA hP hD hS hl
  obtain ⟨hd, rfl⟩ := hd
  have hr2 := sx_runV (lo := lo) ho hcl hs hAs hst he hd hM (l := l) (e := e) (below := below) hc hK hA hP hD hS hl
  rw [hr] at hr2
  exact va_calll (a := (Value.ref (G.2.1 a) :: As.map (sx_v G.2.1)).toArray) hr2 hS (fun _ _ h => h) (fun _ h => h) (fun x u t H1 locs1 ht hvm hw hB hz hk hS1 => k x u hw l G A p e s m args below meth c H1 locs1 ls hc hK hA (ht ▸ hB.1) hB.2 hS1 hl)
theorem ev_callVv {r2 : sx_R} {own idx ci na : Nat} {As st0 : List Value} {Q2 : sx_Q} {a : Nat} {fs : List (Option Nat)} (hd : decode r.2.1 pc = .ok (.invokevirtual idx, 3) ∧ pc + 3 = pc') (ho : sx_cn own = r.1.cls) (hcl : sx_cok own (idx, 0, na, ci, r2)) (hs : sx_nth sx_sh a = some (0, ci, fs)) (hr : r2.2.2.2 = none) (hAs : As.length = na) (hst : (st.map fun v => v.category).sum ≤ 8) (he : st0 = As.reverse ++ .ref a :: st) (hM : sx_met d r2 (.ref a :: As) w Q2) (k : ∀ (w2 : sx_W), Q2 0 0 w2 → sx_ev (d + 1) r pc' lo (st) w2 Q) : sx_ev (d + 1) r pc lo st0 w Q := by
  intro l G A p e s m args below meth c H locs ls hc hK hA hP hD hS hl
  obtain ⟨hd, rfl⟩ := hd
  have hr2 := sx_runV (lo := lo) ho hcl hs hAs hst he hd hM (l := l) (e := e) (below := below) hc hK hA hP hD hS hl
  rw [hr] at hr2
  exact va_callv (a := (Value.ref (G.2.1 a) :: As.map (sx_v G.2.1)).toArray) hr2 hS (fun _ _ h => h) (fun _ h => h) (fun u t H1 locs1 ht hvm hw hB hz hk hS1 => k u hw l G A p e s m args below meth c H1 locs1 ls hc hK hA (ht ▸ hB.1) hB.2 hS1 hl)
theorem ev_callSi {r2 : sx_R} {own idx ci na : Nat} {As st0 : List Value} {Q2 : sx_Q}  (hd : decode r.2.1 pc = .ok (.invokestatic idx, 3) ∧ pc + 3 = pc') (ho : sx_cn own = r.1.cls) (hcl : sx_cok own (idx, 1, na, ci, r2)) (hr : (r2.2.2.2 = some .int ∨ r2.2.2.2 = some .boolean)) (hAs : As.length = na) (hst : (st.map fun v => v.category).sum ≤ 8) (he : st0 = As.reverse ++ st) (hM : sx_met d r2 As w Q2) (k : ∀ (x : Int32) (w2 : sx_W), Q2 x 0 w2 → sx_ev (d + 1) r pc' lo (.int x :: st) w2 Q) : sx_ev (d + 1) r pc lo st0 w Q := by
  intro l G A p e s m args below meth c H locs ls hc hK hA hP hD hS hl
  obtain ⟨hd, rfl⟩ := hd
  have hr2 := sx_runS (lo := lo) ho hcl hAs hst he hd hM (l := l) (e := e) (below := below) hc hK hA hP hD hS hl
  rcases hr with hr | hr
  · rw [hr] at hr2
    exact va_calli (a := (As.map (sx_v G.2.1)).toArray) hr2 hS (fun _ _ h => h) (fun _ h => h) (fun x u t H1 locs1 ht hvm hw hB hz hk hS1 => k x u hw l G A p e s m args below meth c H1 locs1 ls hc hK hA (ht ▸ hB.1) hB.2 hS1 hl)
  · rw [hr] at hr2
    exact va_calli (a := (As.map (sx_v G.2.1)).toArray) hr2 hS (fun _ _ h => h) (fun _ h => h) (fun x u t H1 locs1 ht hvm hw hB hz hk hS1 => k x u hw l G A p e s m args below meth c H1 locs1 ls hc hK hA (ht ▸ hB.1) hB.2 hS1 hl)
theorem ev_callSl {r2 : sx_R} {own idx ci na : Nat} {As st0 : List Value} {Q2 : sx_Q}  (hd : decode r.2.1 pc = .ok (.invokestatic idx, 3) ∧ pc + 3 = pc') (ho : sx_cn own = r.1.cls) (hcl : sx_cok own (idx, 1, na, ci, r2)) (hr : r2.2.2.2 = some .long) (hAs : As.length = na) (hst : (st.map fun v => v.category).sum ≤ 8) (he : st0 = As.reverse ++ st) (hM : sx_met d r2 As w Q2) (k : ∀ (x : Int64) (w2 : sx_W), Q2 0 x w2 → sx_ev (d + 1) r pc' lo (.long x :: st) w2 Q) : sx_ev (d + 1) r pc lo st0 w Q := by
  intro l G A p e s m args below meth c H locs ls hc hK hA hP hD hS hl
  obtain ⟨hd, rfl⟩ := hd
  have hr2 := sx_runS (lo := lo) ho hcl hAs hst he hd hM (l := l) (e := e) (below := below) hc hK hA hP hD hS hl
  rw [hr] at hr2
  exact va_calll (a := (As.map (sx_v G.2.1)).toArray) hr2 hS (fun _ _ h => h) (fun _ h => h) (fun x u t H1 locs1 ht hvm hw hB hz hk hS1 => k x u hw l G A p e s m args below meth c H1 locs1 ls hc hK hA (ht ▸ hB.1) hB.2 hS1 hl)
theorem ev_callSv {r2 : sx_R} {own idx ci na : Nat} {As st0 : List Value} {Q2 : sx_Q}  (hd : decode r.2.1 pc = .ok (.invokestatic idx, 3) ∧ pc + 3 = pc') (ho : sx_cn own = r.1.cls) (hcl : sx_cok own (idx, 1, na, ci, r2)) (hr : r2.2.2.2 = none) (hAs : As.length = na) (hst : (st.map fun v => v.category).sum ≤ 8) (he : st0 = As.reverse ++ st) (hM : sx_met d r2 As w Q2) (k : ∀ (w2 : sx_W), Q2 0 0 w2 → sx_ev (d + 1) r pc' lo (st) w2 Q) : sx_ev (d + 1) r pc lo st0 w Q := by
  intro l G A p e s m args below meth c H locs ls hc hK hA hP hD hS hl
  obtain ⟨hd, rfl⟩ := hd
  have hr2 := sx_runS (lo := lo) ho hcl hAs hst he hd hM (l := l) (e := e) (below := below) hc hK hA hP hD hS hl
  rw [hr] at hr2
  exact va_callv (a := (As.map (sx_v G.2.1)).toArray) hr2 hS (fun _ _ h => h) (fun _ h => h) (fun u t H1 locs1 ht hvm hw hB hz hk hS1 => k u hw l G A p e s m args below meth c H1 locs1 ls hc hK hA (ht ▸ hB.1) hB.2 hS1 hl)
theorem ev_callNi {r2 : sx_R} {own idx ci na : Nat} {As st0 : List Value} {Q2 : sx_Q}  (hd : decode r.2.1 pc = .ok (.invokestatic idx, 3) ∧ pc + 3 = pc') (ho : sx_cn own = r.1.cls) (hcl : sx_cok own (idx, 2, na, ci, r2)) (hr : (r2.2.2.2 = some .int ∨ r2.2.2.2 = some .boolean)) (hAs : As.length = na) (hst : (st.map fun v => v.category).sum ≤ 8) (he : st0 = As.reverse ++ st) (hM : sx_met d r2 As w Q2) (k : ∀ (x : Int32) (w2 : sx_W), Q2 x 0 w2 → sx_ev (d + 1) r pc' lo (.int x :: st) w2 Q) : sx_ev (d + 1) r pc lo st0 w Q := by
  intro l G A p e s m args below meth c H locs ls hc hK hA hP hD hS hl
  obtain ⟨hd, rfl⟩ := hd
  have hr2 := sx_runN (lo := lo) ho hcl hAs hst he hd hM (l := l) (e := e) (below := below) hc hK hA hP hD hS hl
  rcases hr with hr | hr
  · rw [hr] at hr2
    exact va_calli (a := (As.map (sx_v G.2.1)).toArray) hr2 hS (fun _ _ h => h) (fun _ h => h) (fun x u t H1 locs1 ht hvm hw hB hz hk hS1 => k x u hw l G A p e s m args below meth c H1 locs1 ls hc hK hA (ht ▸ hB.1) hB.2 hS1 hl)
  · rw [hr] at hr2
    exact va_calli (a := (As.map (sx_v G.2.1)).toArray) hr2 hS (fun _ _ h => h) (fun _ h => h) (fun x u t H1 locs1 ht hvm hw hB hz hk hS1 => k x u hw l G A p e s m args below meth c H1 locs1 ls hc hK hA (ht ▸ hB.1) hB.2 hS1 hl)
theorem ev_callNl {r2 : sx_R} {own idx ci na : Nat} {As st0 : List Value} {Q2 : sx_Q}  (hd : decode r.2.1 pc = .ok (.invokestatic idx, 3) ∧ pc + 3 = pc') (ho : sx_cn own = r.1.cls) (hcl : sx_cok own (idx, 2, na, ci, r2)) (hr : r2.2.2.2 = some .long) (hAs : As.length = na) (hst : (st.map fun v => v.category).sum ≤ 8) (he : st0 = As.reverse ++ st) (hM : sx_met d r2 As w Q2) (k : ∀ (x : Int64) (w2 : sx_W), Q2 0 x w2 → sx_ev (d + 1) r pc' lo (.long x :: st) w2 Q) : sx_ev (d + 1) r pc lo st0 w Q := by
  intro l G A p e s m args below meth c H locs ls hc hK hA hP hD hS hl
  obtain ⟨hd, rfl⟩ := hd
  have hr2 := sx_runN (lo := lo) ho hcl hAs hst he hd hM (l := l) (e := e) (below := below) hc hK hA hP hD hS hl
  rw [hr] at hr2
  exact va_calll (a := (As.map (sx_v G.2.1)).toArray) hr2 hS (fun _ _ h => h) (fun _ h => h) (fun x u t H1 locs1 ht hvm hw hB hz hk hS1 => k x u hw l G A p e s m args below meth c H1 locs1 ls hc hK hA (ht ▸ hB.1) hB.2 hS1 hl)
theorem ev_callNv {r2 : sx_R} {own idx ci na : Nat} {As st0 : List Value} {Q2 : sx_Q}  (hd : decode r.2.1 pc = .ok (.invokestatic idx, 3) ∧ pc + 3 = pc') (ho : sx_cn own = r.1.cls) (hcl : sx_cok own (idx, 2, na, ci, r2)) (hr : r2.2.2.2 = none) (hAs : As.length = na) (hst : (st.map fun v => v.category).sum ≤ 8) (he : st0 = As.reverse ++ st) (hM : sx_met d r2 As w Q2) (k : ∀ (w2 : sx_W), Q2 0 0 w2 → sx_ev (d + 1) r pc' lo (st) w2 Q) : sx_ev (d + 1) r pc lo st0 w Q := by
  intro l G A p e s m args below meth c H locs ls hc hK hA hP hD hS hl
  obtain ⟨hd, rfl⟩ := hd
  have hr2 := sx_runN (lo := lo) ho hcl hAs hst he hd hM (l := l) (e := e) (below := below) hc hK hA hP hD hS hl
  rw [hr] at hr2
  exact va_callv (a := (As.map (sx_v G.2.1)).toArray) hr2 hS (fun _ _ h => h) (fun _ h => h) (fun u t H1 locs1 ht hvm hw hB hz hk hS1 => k u hw l G A p e s m args below meth c H1 locs1 ls hc hK hA (ht ▸ hB.1) hB.2 hS1 hl)
/-- a method whose answer and world are known -/
def sx_de (d : Nat) (r : sx_R) (As : List Value) (w : sx_W) (fi : Int32) (fl : Int64) (w' : sx_W) : Prop := ∀ Q : sx_Q, Q fi fl w' → sx_met d r As w Q
theorem ev_cVi {r2 : sx_R} {own idx ci na : Nat} {As st0 : List Value} {w2 : sx_W} {x : Int32} {fl : Int64} {a : Nat} {fs : List (Option Nat)} (hd : decode r.2.1 pc = .ok (.invokevirtual idx, 3) ∧ pc + 3 = pc') (ho : sx_cn own = r.1.cls) (hcl : sx_cok own (idx, 0, na, ci, r2)) (hs : sx_nth sx_sh a = some (0, ci, fs)) (hr : (r2.2.2.2 = some .int ∨ r2.2.2.2 = some .boolean)) (hAs : As.length = na) (hst : (st.map fun v => v.category).sum ≤ 8) (he : st0 = As.reverse ++ .ref a :: st) (hM : sx_de d r2 (.ref a :: As) w x fl w2) (k : sx_ev (d + 1) r pc' lo (.int x :: st) w2 Q) : sx_ev (d + 1) r pc lo st0 w Q :=
  ev_callVi (Q2 := fun u _ v => x = u ∧ w2 = v) hd ho hcl hs hr hAs hst he (hM _ ⟨rfl, rfl⟩) (fun u v h => by obtain ⟨rfl, rfl⟩ := h; exact k)
theorem ev_cVl {r2 : sx_R} {own idx ci na : Nat} {As st0 : List Value} {w2 : sx_W} {x : Int64} {fi : Int32} {a : Nat} {fs : List (Option Nat)} (hd : decode r.2.1 pc = .ok (.invokevirtual idx, 3) ∧ pc + 3 = pc') (ho : sx_cn own = r.1.cls) (hcl : sx_cok own (idx, 0, na, ci, r2)) (hs : sx_nth sx_sh a = some (0, ci, fs)) (hr : r2.2.2.2 = some .long) (hAs : As.length = na) (hst : (st.map fun v => v.category).sum ≤ 8) (he : st0 = As.reverse ++ .ref a :: st) (hM : sx_de d r2 (.ref a :: As) w fi x w2) (k : sx_ev (d + 1) r pc' lo (.long x :: st) w2 Q) : sx_ev (d + 1) r pc lo st0 w Q :=
  ev_callVl (Q2 := fun _ u v => x = u ∧ w2 = v) hd ho hcl hs hr hAs hst he (hM _ ⟨rfl, rfl⟩) (fun u v h => by obtain ⟨rfl, rfl⟩ := h; exact k)
theorem ev_cVv {r2 : sx_R} {own idx ci na : Nat} {As st0 : List Value} {w2 : sx_W} {fi : Int32} {fl : Int64} {a : Nat} {fs : List (Option Nat)} (hd : decode r.2.1 pc = .ok (.invokevirtual idx, 3) ∧ pc + 3 = pc') (ho : sx_cn own = r.1.cls) (hcl : sx_cok own (idx, 0, na, ci, r2)) (hs : sx_nth sx_sh a = some (0, ci, fs)) (hr : r2.2.2.2 = none) (hAs : As.length = na) (hst : (st.map fun v => v.category).sum ≤ 8) (he : st0 = As.reverse ++ .ref a :: st) (hM : sx_de d r2 (.ref a :: As) w fi fl w2) (k : sx_ev (d + 1) r pc' lo (st) w2 Q) : sx_ev (d + 1) r pc lo st0 w Q :=
  ev_callVv (Q2 := fun _ _ v => w2 = v) hd ho hcl hs hr hAs hst he (hM _ rfl) (fun v h => by subst h; exact k)
theorem ev_cSi {r2 : sx_R} {own idx ci na : Nat} {As st0 : List Value} {w2 : sx_W} {x : Int32} {fl : Int64}  (hd : decode r.2.1 pc = .ok (.invokestatic idx, 3) ∧ pc + 3 = pc') (ho : sx_cn own = r.1.cls) (hcl : sx_cok own (idx, 1, na, ci, r2)) (hr : (r2.2.2.2 = some .int ∨ r2.2.2.2 = some .boolean)) (hAs : As.length = na) (hst : (st.map fun v => v.category).sum ≤ 8) (he : st0 = As.reverse ++ st) (hM : sx_de d r2 As w x fl w2) (k : sx_ev (d + 1) r pc' lo (.int x :: st) w2 Q) : sx_ev (d + 1) r pc lo st0 w Q :=
  ev_callSi (Q2 := fun u _ v => x = u ∧ w2 = v) hd ho hcl hr hAs hst he (hM _ ⟨rfl, rfl⟩) (fun u v h => by obtain ⟨rfl, rfl⟩ := h; exact k)
theorem ev_cSl {r2 : sx_R} {own idx ci na : Nat} {As st0 : List Value} {w2 : sx_W} {x : Int64} {fi : Int32}  (hd : decode r.2.1 pc = .ok (.invokestatic idx, 3) ∧ pc + 3 = pc') (ho : sx_cn own = r.1.cls) (hcl : sx_cok own (idx, 1, na, ci, r2)) (hr : r2.2.2.2 = some .long) (hAs : As.length = na) (hst : (st.map fun v => v.category).sum ≤ 8) (he : st0 = As.reverse ++ st) (hM : sx_de d r2 As w fi x w2) (k : sx_ev (d + 1) r pc' lo (.long x :: st) w2 Q) : sx_ev (d + 1) r pc lo st0 w Q :=
  ev_callSl (Q2 := fun _ u v => x = u ∧ w2 = v) hd ho hcl hr hAs hst he (hM _ ⟨rfl, rfl⟩) (fun u v h => by obtain ⟨rfl, rfl⟩ := h; exact k)
theorem ev_cSv {r2 : sx_R} {own idx ci na : Nat} {As st0 : List Value} {w2 : sx_W} {fi : Int32} {fl : Int64}  (hd : decode r.2.1 pc = .ok (.invokestatic idx, 3) ∧ pc + 3 = pc') (ho : sx_cn own = r.1.cls) (hcl : sx_cok own (idx, 1, na, ci, r2)) (hr : r2.2.2.2 = none) (hAs : As.length = na) (hst : (st.map fun v => v.category).sum ≤ 8) (he : st0 = As.reverse ++ st) (hM : sx_de d r2 As w fi fl w2) (k : sx_ev (d + 1) r pc' lo (st) w2 Q) : sx_ev (d + 1) r pc lo st0 w Q :=
  ev_callSv (Q2 := fun _ _ v => w2 = v) hd ho hcl hr hAs hst he (hM _ rfl) (fun v h => by subst h; exact k)
theorem ev_cNi {r2 : sx_R} {own idx ci na : Nat} {As st0 : List Value} {w2 : sx_W} {x : Int32} {fl : Int64}  (hd : decode r.2.1 pc = .ok (.invokestatic idx, 3) ∧ pc + 3 = pc') (ho : sx_cn own = r.1.cls) (hcl : sx_cok own (idx, 2, na, ci, r2)) (hr : (r2.2.2.2 = some .int ∨ r2.2.2.2 = some .boolean)) (hAs : As.length = na) (hst : (st.map fun v => v.category).sum ≤ 8) (he : st0 = As.reverse ++ st) (hM : sx_de d r2 As w x fl w2) (k : sx_ev (d + 1) r pc' lo (.int x :: st) w2 Q) : sx_ev (d + 1) r pc lo st0 w Q :=
  ev_callNi (Q2 := fun u _ v => x = u ∧ w2 = v) hd ho hcl hr hAs hst he (hM _ ⟨rfl, rfl⟩) (fun u v h => by obtain ⟨rfl, rfl⟩ := h; exact k)
theorem ev_cNl {r2 : sx_R} {own idx ci na : Nat} {As st0 : List Value} {w2 : sx_W} {x : Int64} {fi : Int32}  (hd : decode r.2.1 pc = .ok (.invokestatic idx, 3) ∧ pc + 3 = pc') (ho : sx_cn own = r.1.cls) (hcl : sx_cok own (idx, 2, na, ci, r2)) (hr : r2.2.2.2 = some .long) (hAs : As.length = na) (hst : (st.map fun v => v.category).sum ≤ 8) (he : st0 = As.reverse ++ st) (hM : sx_de d r2 As w fi x w2) (k : sx_ev (d + 1) r pc' lo (.long x :: st) w2 Q) : sx_ev (d + 1) r pc lo st0 w Q :=
  ev_callNl (Q2 := fun _ u v => x = u ∧ w2 = v) hd ho hcl hr hAs hst he (hM _ ⟨rfl, rfl⟩) (fun u v h => by obtain ⟨rfl, rfl⟩ := h; exact k)
theorem ev_cNv {r2 : sx_R} {own idx ci na : Nat} {As st0 : List Value} {w2 : sx_W} {fi : Int32} {fl : Int64}  (hd : decode r.2.1 pc = .ok (.invokestatic idx, 3) ∧ pc + 3 = pc') (ho : sx_cn own = r.1.cls) (hcl : sx_cok own (idx, 2, na, ci, r2)) (hr : r2.2.2.2 = none) (hAs : As.length = na) (hst : (st.map fun v => v.category).sum ≤ 8) (he : st0 = As.reverse ++ st) (hM : sx_de d r2 As w fi fl w2) (k : sx_ev (d + 1) r pc' lo (st) w2 Q) : sx_ev (d + 1) r pc lo st0 w Q :=
  ev_callNv (Q2 := fun _ _ v => w2 = v) hd ho hcl hr hAs hst he (hM _ rfl) (fun v h => by subst h; exact k)
theorem sx_four {i : Int32} (h : vp_in i 4) : i = (0 : Int32) ∨ i = (1 : Int32) ∨ i = (2 : Int32) ∨ i = (3 : Int32) := by
  obtain ⟨j, hj, rfl⟩ := vp_in_of h (by decide)
  match j, hj with
  | 0, _ => exact Or.inl rfl
  | 1, _ => exact Or.inr (Or.inl rfl)
  | 2, _ => exact Or.inr (Or.inr (Or.inl rfl))
  | 3, _ => exact Or.inr (Or.inr (Or.inr rfl))
  | n + 4, h => omega
end
