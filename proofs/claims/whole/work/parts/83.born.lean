/-! ===== constructors: the machine over a world that grows ===== -/
abbrev dx_K : Type := va_G × ClassId × ClassId × ClassId
def dx_ty (K : dx_K) : List (ClassId × FieldType) := [(K.2.1, .int), (K.2.2.1, .long), (K.2.2.2, .object "SixBeds$Sheet")]
def dx_nl : List (String × Nat × MethodName × String) := [("SixBeds", 9, ⟨"SixBeds$House", "<init>", "()V"⟩, "SixBeds"), ("SixBeds", 57, ⟨"SixBeds$Tape", "<init>", "()V"⟩, "SixBeds"), ("SixBeds", 72, ⟨"SixBeds$Sheet", "<init>", "()V"⟩, "SixBeds")]
def dx_ne (U : State) : Prop := (∀ q ∈ dx_nl, va_Nw (.methodLinkNest q.1 q.2.1 q.2.2.1 q.2.2.2) U) ∧ va_AO "SixBeds$Sheet" U
theorem dx_ne.warm {s U : State} (hW : s.WarmedH U.vm) (h : dx_ne s) : dx_ne U := ⟨fun q hq => va_Nw.warmM hW (h.1 q hq), va_AO.moved hW.alike h.2⟩
theorem dx_ne.same {s U : State} (hv : s.vm = U.vm) (ha : s.vm.Alike U.vm) (h : dx_ne s) : dx_ne U := ⟨fun q hq => va_Nw.same rfl hv (h.1 q hq), va_AO.moved ha h.2⟩
def dx_cx (p : Program) (s : State) (m : MethodId) (args : Array Value) (meth : Method) (c : Code) (r : sx_R) : Prop := p.tables.exec = Jvm.exec ∧ c.code = r.2.1 ∧ c.maxLocals = r.2.2.1 ∧ s.vm.findClass r.1.cls = some m.cls ∧ (∀ w ∈ sx_ws r, w.before args s = true) ∧ meth.sig.returnType = r.2.2.2 ∧ meth.locks = false ∧ dx_ne s ∧ meth.name = r.1.name
def dx_B (K : dx_K) (A : Nat → Prop) (u : va_W) (t : State) : Prop := va_P K.1 vwCl u t.heap ∧ va_D A u
def dx_id : Nat → Nat := fun k => k
def dx_ev (K : dx_K) (r : sx_R) (rm : Room) (P : va_W → Prop) (pc : Nat) (lo st : List Value) (ws : va_W) (kc ks : Nat) : Prop :=
  ∀ (l : Launch) (A : Nat → Prop) (p : Program) (e : Env) (s : State) (m : MethodId) (args : Array Value) (below : List Frame) (meth : Method) (c : Code) (H : Heap) (locs : List Loc) (ls : Array Slot),
    dx_cx p s m args meth c r → va_K K.1 vwCl (dx_ty K) s → (∀ q : Nat, s.heap.size ≤ q → A q) → va_P K.1 vwCl ws H → va_D A ws → va_S A s.heap H locs → sx_L dx_id ls r.2.2.1 lo →
    W p l e rm s m args below meth c H locs kc ks (MQ below (va_Qv P (dx_B K A) A) args s rm.cells rm.slots A) (F0 m pc ls st)
/-- a constructor's contract: from its cells to the cells that it makes of them -/
def dx_met (K : dx_K) (r : sx_R) (rm : Room) (As : List Value) (w0 : va_W) (P : va_W → Prop) : Prop := ∀ (l : Launch) (sz : Nat), Met l r.1 (sx_ws r) rm (va_Pc As (fun U => U.heap.size = sz ∧ va_P K.1 vwCl w0 U.heap ∧ va_K K.1 vwCl (dx_ty K) U ∧ dx_ne U ∧ va_D (fun _ => True) w0)) (va_Qv P (dx_B K (va_A w0 sz)) (va_A w0 sz)) rm.cells rm.slots (va_A w0 sz)
theorem dx_map (As : List Value) : As.map (sx_v dx_id) = As := by
  have : ∀ v : Value, sx_v dx_id v = v := fun v => by cases v <;> rfl
  rw [show sx_v dx_id = fun v => v from funext this, List.map_id']
section
variable {K : dx_K} {r : sx_R} {rm : Room} {P : va_W → Prop} {pc pc' : Nat} {lo st : List Value} {ws : va_W} {kc ks : Nat}
theorem dx_met_of {As : List Value} {w0 : va_W} (hpl : plainName r.1.cls = true) (hr : r.2.2.2 = none) (hdb : As.all (fun x => match x with | .double _ => false | _ => true) = true) (hn : (sx_en As ++ List.replicate (r.2.2.1 - (sx_en As).length) .null) = lo) (hle : Nat.ble (sx_en As).length r.2.2.1 = true) (h : dx_ev K r rm P 0 lo [] w0 0 0) : dx_met K r rm As w0 P := by
  intro l sz
  have hdb2 : ∀ x ∈ As, ∀ y, x ≠ .double y := fun x hx y he => by have := List.all_eq_true.mp hdb x hx; rw [he] at this; cases this
  refine Met.ofW (cc := r.2.1) (maxL := r.2.2.1) (ret := r.2.2.2) hpl rfl ?_
  intro p e s m args below meth c s₁ B hml hv
  obtain ⟨rfl, hsz, hP, hK, hne, hD⟩ := hv
  subst hsz
  have hts := atoms_spec (ws := sx_ws r) B.pre
  have hle2 : (lg_sl (As.map (sx_v dx_id))).length ≤ r.2.2.1 := by rw [sx_en_len dx_id As hdb2]; exact Nat.le_of_ble_eq_true hle
  rw [dx_map] at hle2
  have hl := lv_entry As (n := r.2.2.1) hle2
  rw [lg_entry_eq]
  generalize (lg_sl As ++ List.replicate (r.2.2.1 - (lg_sl As).length) Slot.unset).toArray = ls at hl ⊢
  refine h l (va_A w0 s.heap.size) p e s m _ below meth c s.heap [] ls ⟨B.exec, B.bytes, hml, findClass_of_methodNamed B.named, hts, B.returns, B.notSynchronized, hne, (name_of_methodNamed B.named B.method).1⟩ hK (fun q h => Or.inr h) hP (hD.self) va_S.rf ⟨hl.1, hl.2.1, ?_, ?_⟩
  · rw [← hn, List.length_append, List.length_replicate]
    have := Nat.le_of_ble_eq_true hle
    omega
  · intro i v hi hv
    rw [← hn] at hi
    have h2 := sx_en_args dx_id As _ 0 i v hdb2 hi hv
    rw [Nat.zero_add, dx_map] at h2
    exact hl.2.2 _ h2
theorem dx_aload_n {i : Fin 4} {x : Nat} (hd : decode r.2.1 pc = .ok (.aload_n i, 1) ∧ pc + 1 = pc') (hv : sx_nth lo i = some (.ref x)) (k : dx_ev K r rm P pc' lo (.ref x :: st) ws kc ks) : dx_ev K r rm P pc lo st ws kc ks := by
  intro l A p e s m args below meth c H locs ls hc hK hA hP hD hS hl
  obtain ⟨hd, rfl⟩ := hd
  exact lv_aload_n hc.1 hc.2.1 hd rfl (hl.at hv (fun h => by cases h)) (k l A p e s m args below meth c H locs ls hc hK hA hP hD hS hl)
theorem dx_iload_n {i : Fin 4} {x : Int32} (hd : decode r.2.1 pc = .ok (.iload_n i, 1) ∧ pc + 1 = pc') (hv : sx_nth lo i = some (.int x)) (k : dx_ev K r rm P pc' lo (.int x :: st) ws kc ks) : dx_ev K r rm P pc lo st ws kc ks := by
  intro l A p e s m args below meth c H locs ls hc hK hA hP hD hS hl
  obtain ⟨hd, rfl⟩ := hd
  exact lv_iload_n hc.1 hc.2.1 hd rfl (hl.at hv (fun h => by cases h)) (k l A p e s m args below meth c H locs ls hc hK hA hP hD hS hl)
theorem dx_iconst {n : Int} {v : Int32} (hd : decode r.2.1 pc = .ok (.iconst n, 1) ∧ pc + 1 = pc') (hv : Int32.ofInt n = v) (k : dx_ev K r rm P pc' lo (.int v :: st) ws kc ks) : dx_ev K r rm P pc lo st ws kc ks := by
  intro l A p e s m args below meth c H locs ls hc hK hA hP hD hS hl
  obtain ⟨hd, rfl⟩ := hd
  exact lv_iconst hc.1 hc.2.1 hd hv (k l A p e s m args below meth c H locs ls hc hK hA hP hD hS hl)
theorem dx_bipush {n : Int} {v : Int32} (hd : decode r.2.1 pc = .ok (.bipush n, 2) ∧ pc + 2 = pc') (hv : (Int8.ofInt n).toInt32 = v) (k : dx_ev K r rm P pc' lo (.int v :: st) ws kc ks) : dx_ev K r rm P pc lo st ws kc ks := by
  intro l A p e s m args below meth c H locs ls hc hK hA hP hD hS hl
  obtain ⟨hd, rfl⟩ := hd
  exact lv_bipush hc.1 hc.2.1 hd hv (k l A p e s m args below meth c H locs ls hc hK hA hP hD hS hl)
theorem dx_dup {v : Value} (hd : decode r.2.1 pc = .ok (.dup, 1) ∧ pc + 1 = pc') (hv : v.category = 1) (k : dx_ev K r rm P pc' lo (v :: v :: st) ws kc ks) : dx_ev K r rm P pc lo (v :: st) ws kc ks := by
  intro l A p e s m args below meth c H locs ls hc hK hA hP hD hS hl
  obtain ⟨hd, rfl⟩ := hd
  exact lv_dup hc.1 hc.2.1 hd hv (k l A p e s m args below meth c H locs ls hc hK hA hP hD hS hl)
theorem dx_istore_n {i : Fin 4} {x : Int32} {lo' : List Value} (hd : decode r.2.1 pc = .ok (.istore_n i, 1) ∧ pc + 1 = pc') (hi : (i : Nat) < r.2.2.1) (hv : sx_sto lo i (.int x) = lo') (k : dx_ev K r rm P pc' lo' st ws kc ks) : dx_ev K r rm P pc lo (.int x :: st) ws kc ks := by
  intro l A p e s m args below meth c H locs ls hc hK hA hP hD hS hl
  obtain ⟨hd, rfl⟩ := hd
  subst hv
  exact lv_istore_n hc.1 hc.2.1 hd rfl hl.has hi rfl (fun ls2 h2 => k l A p e s m args below meth c H locs ls2 hc hK hA hP hD hS (sx_sto_of (x := .int x) hl.2.2.1 h2))
theorem dx_iinc {i : Nat} {n : Int} {x v : Int32} {lo' : List Value} (hd : decode r.2.1 pc = .ok (.iinc i n, 3) ∧ pc + 3 = pc') (hn : Int32.ofInt n = v) (hx : sx_nth lo i = some (.int x)) (hi : i < r.2.2.1) (hv : sx_sto lo i (.int (x + v)) = lo') (k : dx_ev K r rm P pc' lo' st ws kc ks) : dx_ev K r rm P pc lo st ws kc ks := by
  intro l A p e s m args below meth c H locs ls hc hK hA hP hD hS hl
  obtain ⟨hd, rfl⟩ := hd
  subst hv; subst hn
  obtain ⟨j, hj⟩ := List.getElem?_of_mem ((sx_lp_mem dx_id lo 0 (i, .int x)).mpr ⟨i, .int x, hx, (fun h => by cases h), by rw [Nat.zero_add]; rfl⟩)
  exact lv_iinc hc.1 hc.2.1 hd hl.has hj rfl hi rfl (fun ls2 h2 => k l A p e s m args below meth c H locs ls2 hc hK hA hP hD hS (sx_sto_of (x := .int (x + Int32.ofInt n)) hl.2.2.1 h2))
theorem dx_goto {off : Int} {tgt : Nat} (hd : decode r.2.1 pc = .ok (.goto off, 3) ∧ pc + 3 = pc') (ht : (pc : Int) + off = (tgt : Int)) (k : dx_ev K r rm P tgt lo st ws kc ks) : dx_ev K r rm P pc lo st ws kc ks := by
  intro l A p e s m args below meth c H locs ls hc hK hA hP hD hS hl
  exact lv_goto hc.1 hc.2.1 hd.1 ht (k l A p e s m args below meth c H locs ls hc hK hA hP hD hS hl)
theorem dx_icmp_ge {x y : Int32} {off : Int} {tgt : Nat} (hd : decode r.2.1 pc = .ok (.if_icmp .ge off, 3) ∧ pc + 3 = pc') (ht : (pc : Int) + off = (tgt : Int)) (kt : y ≤ x → dx_ev K r rm P tgt lo st ws kc ks) (kf : ¬ y ≤ x → dx_ev K r rm P pc' lo st ws kc ks) : dx_ev K r rm P pc lo (.int y :: .int x :: st) ws kc ks := by
  intro l A p e s m args below meth c H locs ls hc hK hA hP hD hS hl
  obtain ⟨hd, rfl⟩ := hd
  exact lv_icmp_ge hc.1 hc.2.1 hd ht (fun h => kt h l A p e s m args below meth c H locs ls hc hK hA hP hD hS hl) (fun h => kf h l A p e s m args below meth c H locs ls hc hK hA hP hD hS hl)
theorem dx_objInit {idx a : Nat} (hd : decode r.2.1 pc = .ok (.invokespecial idx, 3) ∧ pc + 3 = pc') (hlink : Cond.methodLink r.1.cls idx Lib.objectInit ∈ sx_T) (hi : Cond.instanceMethod Lib.objectInit ∈ sx_T) (hcd : Cond.code Lib.objectInit ⟨#[0xb1]⟩ 1 none ∈ sx_T) (hfr : 1 ≤ rm.frames) (hlo : 20 ≤ rm.locals) (hst : (st.map fun v => v.category).sum ≤ 8) (k : dx_ev K r rm P pc' lo st ws kc ks) : dx_ev K r rm P pc lo (.ref a :: st) ws kc ks := by
  intro l A p e s m args below meth c H locs ls hc hK hA hP hD hS hl
  obtain ⟨hd, rfl⟩ := hd
  have mem : ∀ x ∈ sx_T, x.before args s = true := fun x h => hc.2.2.2.2.1 x (List.mem_cons_of_mem _ h)
  refine W.objInit hc.1 hc.2.1 hc.2.2.2.1 (mem _ hlink) (mem _ hi) (mem _ hcd) rfl (by rw [hc.2.2.1]; exact hl.1) rfl hd hfr ?_ (k l A p e s m args below meth c H locs ls hc hK hA hP hD hS hl)
  have h8 := lv_room (m := m) (pc := pc) (ls := ls) (rest := .ref a :: st) hst
  exact Nat.le_trans (Nat.add_le_add_right h8 12) hlo
theorem dx_find {t : FieldType} {x y : ClassId} {U : State} (h1 : U.vm.findClass ("[" ++ t.toString) = some x) (h2 : U.vm.findClass ("[" ++ t.toString) = some y) : x = y := Option.some.inj (h1.symm.trans h2)
theorem dx_newi {n : Int32} {N : Nat} (hd : decode r.2.1 pc = .ok (.newarray .int, 2) ∧ pc + 2 = pc') (harr : Cond.arrayClass .int ∈ sx_T) (hn : ¬ n < 0) (hN : n.toNatClampNeg = N) (hb : N ≤ 1000) (hkc : kc + 1 ≤ rm.cells) (hks : ks + N ≤ rm.slots) (k : ∀ q : Nat, dx_ev K r rm P pc' lo (.ref q :: st) (ws ++ [(q, .inl (K.2.1, N, .inl (fun _ => 0)))]) (kc + 1) (ks + N)) : dx_ev K r rm P pc lo (.int n :: st) ws kc ks := by
  intro l A p e s m args below meth c H locs ls hc hK hA hP hD hS hl
  obtain ⟨hd, rfl⟩ := hd
  refine va_newa (atype := .int) (ty := .int) (a0 := (N, .inl (fun _ => 0))) hc.1 hc.2.1 (hc.2.2.2.2.1 _ (List.mem_cons_of_mem _ harr)) rfl hK hP hD hS hA (fun _ => rfl) hn hN (by show N * 4 ≤ _; omega) hkc hks hd (fun q cA H1 hK1 hP1 hD1 hS1 => ?_)
  have e1 : cA = K.2.1 := dx_find (t := .int) (hK1.2 3 (cA, .int) rfl).2 (hK.2 0 (K.2.1, .int) rfl).2
  subst e1
  exact k q l A p e s m args below meth c H1 locs ls hc hK hA hP1 hD1 hS1 hl
theorem dx_newl {n : Int32} {N : Nat} (hd : decode r.2.1 pc = .ok (.newarray .long, 2) ∧ pc + 2 = pc') (harr : Cond.arrayClass .long ∈ sx_T) (hn : ¬ n < 0) (hN : n.toNatClampNeg = N) (hb : N ≤ 1000) (hkc : kc + 1 ≤ rm.cells) (hks : ks + N ≤ rm.slots) (k : ∀ q : Nat, dx_ev K r rm P pc' lo (.ref q :: st) (ws ++ [(q, .inl (K.2.2.1, N, .inr (.inl (fun _ => 0))))]) (kc + 1) (ks + N)) : dx_ev K r rm P pc lo (.int n :: st) ws kc ks := by
  intro l A p e s m args below meth c H locs ls hc hK hA hP hD hS hl
  obtain ⟨hd, rfl⟩ := hd
  refine va_newa (atype := .long) (ty := .long) (a0 := (N, .inr (.inl (fun _ => 0)))) hc.1 hc.2.1 (hc.2.2.2.2.1 _ (List.mem_cons_of_mem _ harr)) rfl hK hP hD hS hA (fun _ => rfl) hn hN (by show N * 8 ≤ _; omega) hkc hks hd (fun q cA H1 hK1 hP1 hD1 hS1 => ?_)
  have e1 : cA = K.2.2.1 := dx_find (t := .long) (hK1.2 3 (cA, .long) rfl).2 (hK.2 1 (K.2.2.1, .long) rfl).2
  subst e1
  exact k q l A p e s m args below meth c H1 locs ls hc hK hA hP1 hD1 hS1 hl
theorem dx_newq {n : Int32} {N idx : Nat} (hd : decode r.2.1 pc = .ok (.anewarray idx, 3) ∧ pc + 3 = pc') (hlink : Cond.classLink r.1.cls idx "SixBeds$Sheet" ∈ sx_T) (hn : ¬ n < 0) (hN : n.toNatClampNeg = N) (hb : N ≤ 1000) (hkc : kc + 1 ≤ rm.cells) (hks : ks + N ≤ rm.slots) (k : ∀ q : Nat, dx_ev K r rm P pc' lo (.ref q :: st) (ws ++ [(q, .inl (K.2.2.2, N, .inr (.inr (.inr (.inr (fun _ => none))))))]) (kc + 1) (ks + N)) : dx_ev K r rm P pc lo (.int n :: st) ws kc ks := by
  intro l A p e s m args below meth c H locs ls hc hK hA hP hD hS hl
  obtain ⟨hd, rfl⟩ := hd
  refine va_newq hc.1 hc.2.1 hc.2.2.2.1 (hc.2.2.2.2.1 _ (List.mem_cons_of_mem _ hlink)) hc.2.2.2.2.2.2.2.1.2 hK hP hD hS hA hn hN (by omega) hkc hks hd (fun q cA H1 hK1 hP1 hD1 hS1 => ?_)
  have e1 : cA = K.2.2.2 := by
    obtain ⟨_, _, _, _, _, h1⟩ := (hK1.2 3 (cA, .object "SixBeds$Sheet") rfl).2
    obtain ⟨_, _, _, _, _, h2⟩ := (hK.2 2 (K.2.2.2, .object "SixBeds$Sheet") rfl).2
    exact dx_find h1 h2
  subst e1
  exact k q l A p e s m args below meth c H1 locs ls hc hK hA hP1 hD1 hS1 hl
theorem dx_new {idx ci N : Nat} {C : String} {T : u_T} {ty : Nat → FieldType} {fs : List Value} (hd : decode r.2.1 pc = .ok (.new idx, 3) ∧ pc + 3 = pc') (hlink : Cond.classLink r.1.cls idx C ∈ sx_T) (hinst : Cond.instantiable C N ∈ sx_T) (hini : Cond.initialized C ∈ sx_T) (hq : vwCl[ci]? = some (C, T, N)) (hty : ∀ k, k < N → parseFieldDescriptor (T k).2.2.1 = some (ty k)) (hfs : ∀ j, j < N → defaultValue (ty j) = vp_V fs j) (hkc : kc + 1 ≤ rm.cells) (hks : ks + N ≤ rm.slots) (k : ∀ q : Nat, dx_ev K r rm P pc' lo (.ref q :: st) (ws ++ [(q, .inr (ci, fs))]) (kc + 1) (ks + N)) : dx_ev K r rm P pc lo st ws kc ks := by
  intro l A p e s m args below meth c H locs ls hc hK hA hP hD hS hl
  obtain ⟨hd, rfl⟩ := hd
  have mem : ∀ x ∈ sx_T, x.before args s = true := fun x h => hc.2.2.2.2.1 x (List.mem_cons_of_mem _ h)
  have hk := sx_kall _ _ hq
  exact va_new (Ts := sx_ws r) hc.1 hc.2.1 hc.2.2.2.2.1 (fun x hx => List.mem_cons_of_mem _ (hk.1 x hx)) ty hty hc.2.2.2.1 (mem _ hlink) (mem _ hinst) (mem _ hini) hK hP hD hS hA hq hfs hkc hks hd (fun q H1 hP1 hD1 hS1 => k q l A p e s m args below meth c H1 locs ls hc hK hA hP1 hD1 hS1 hl)
theorem dx_put {own idx ci j q0 a : Nat} {x : Int32} {fs : List Value} {ws' : va_W} (hd : decode r.2.1 pc = .ok (.putfield idx, 3) ∧ pc + 3 = pc') (ho : sx_cn own = r.1.cls) (hf : sx_fok own (idx, ci, j, 0)) (he : ws[q0]? = some (a, .inr (ci, fs))) (hl0 : j < fs.length) (hw : ws.set q0 (a, .inr (ci, fs.set j (.int x))) = ws') (k : dx_ev K r rm P pc' lo st ws' kc ks) : dx_ev K r rm P pc lo (.int x :: .ref a :: st) ws kc ks := by
  intro l A p e s m args below meth c H locs ls hc hK hA hP hD hS hl
  obtain ⟨hd, rfl⟩ := hd
  obtain ⟨C, T, N, h1, h2, h3, h4, -⟩ := hf
  rw [ho] at h3
  have hk := sx_kall _ _ h1
  obtain ⟨ty0, hty⟩ := hk.2.1
  subst hw
  exact va_put (v := .int x) (ty := .int) (Ts := sx_ws r) hc.1 hc.2.1 hc.2.2.2.2.1 (fun x hx => List.mem_cons_of_mem _ (hk.1 x hx)) ty0 hty hk.2.2 hc.2.2.2.1 hK hP hD hS q0 he h1 j h2 (hc.2.2.2.2.1 _ (List.mem_cons_of_mem _ h3)) (fun _ h => h) (h4 rfl).1 (h4 rfl).2 rfl rfl hl0 hd (fun H1 locs1 hP1 hD1 hS1 => k l A p e s m args below meth c H1 locs1 ls hc hK hA hP1 hD1 hS1 hl)
theorem dx_putz {own idx ci j q0 a : Nat} {x : Int32} {fs : List Value} {ws' : va_W} (hd : decode r.2.1 pc = .ok (.putfield idx, 3) ∧ pc + 3 = pc') (ho : sx_cn own = r.1.cls) (hf : sx_fok own (idx, ci, j, 1)) (hx : x = 0 ∨ x = 1) (he : ws[q0]? = some (a, .inr (ci, fs))) (hl0 : j < fs.length) (hw : ws.set q0 (a, .inr (ci, fs.set j (.int x))) = ws') (k : dx_ev K r rm P pc' lo st ws' kc ks) : dx_ev K r rm P pc lo (.int x :: .ref a :: st) ws kc ks := by
  intro l A p e s m args below meth c H locs ls hc hK hA hP hD hS hl
  obtain ⟨hd, rfl⟩ := hd
  obtain ⟨C, T, N, h1, h2, h3, -, h4⟩ := hf
  rw [ho] at h3
  have hk := sx_kall _ _ h1
  obtain ⟨ty0, hty⟩ := hk.2.1
  subst hw
  exact va_put (v := .int x) (ty := .boolean) (Ts := sx_ws r) hc.1 hc.2.1 hc.2.2.2.2.1 (fun x hx => List.mem_cons_of_mem _ (hk.1 x hx)) ty0 hty hk.2.2 hc.2.2.2.1 hK hP hD hS q0 he h1 j h2 (hc.2.2.2.2.1 _ (List.mem_cons_of_mem _ h3)) (fun _ h => h) (h4 rfl).1 (h4 rfl).2 (by rcases hx with rfl | rfl <;> rfl) (by rcases hx with rfl | rfl <;> rfl) hl0 hd (fun H1 locs1 hP1 hD1 hS1 => k l A p e s m args below meth c H1 locs1 ls hc hK hA hP1 hD1 hS1 hl)
theorem dx_putF {own idx ci j kd q0 a v N : Nat} {C : String} {T : u_T} {ty : FieldType} {fs : List Value} {ws' : va_W} (hd : decode r.2.1 pc = .ok (.putfield idx, 3) ∧ pc + 3 = pc') (ho : sx_cn own = r.1.cls) (hf : sx_fok own (idx, ci, j, kd)) (hq : vwCl[ci]? = some (C, T, N)) (hnm : r.1.name = "<init>") (hfin : (T j).2.2.2 = true) (hcl : (T j).1 = r.1.cls) (hty1 : parseFieldDescriptor (T j).2.2.1 = some ty) (hna : narrow ty (.ref v) = .ref v) (hfit : fits ty (.ref v) = true) (he : ws[q0]? = some (a, .inr (ci, fs))) (hl0 : j < fs.length) (hw : ws.set q0 (a, .inr (ci, fs.set j (.ref v))) = ws') (k : dx_ev K r rm P pc' lo st ws' kc ks) : dx_ev K r rm P pc lo (.ref v :: .ref a :: st) ws kc ks := by
  intro l A p e s m args below meth c H locs ls hc hK hA hP hD hS hl
  obtain ⟨hd, rfl⟩ := hd
  obtain ⟨C', T', N', h1, h2, h3, -⟩ := hf
  rw [hq] at h1
  cases h1
  rw [ho] at h3
  have hk := sx_kall _ _ hq
  obtain ⟨ty0, hty⟩ := hk.2.1
  subst hw
  exact va_putF (v := .ref v) (ty := ty) (own := r.1.cls) (Ts := sx_ws r) hc.1 hc.2.1 hc.2.2.2.2.1 (fun x hx => List.mem_cons_of_mem _ (hk.1 x hx)) ty0 hty hk.2.2 hc.2.2.2.1 hK hP hD hS q0 he hq j h2 (hc.2.2.2.2.1 _ (List.mem_cons_of_mem _ h3)) (fun _ h => h) hfin (hc.2.2.2.2.2.2.2.2.trans hnm) hcl hty1 hna hfit hl0 hd (fun H1 locs1 hP1 hD1 hS1 => k l A p e s m args below meth c H1 locs1 ls hc hK hA hP1 hD1 hS1 hl)
theorem dx_getr {own idx ci j kd q0 a v : Nat} {fs : List Value} (hd : decode r.2.1 pc = .ok (.getfield idx, 3) ∧ pc + 3 = pc') (ho : sx_cn own = r.1.cls) (hf : sx_fok own (idx, ci, j, kd)) (he : ws[q0]? = some (a, .inr (ci, fs))) (hj : fs[j]? = some (.ref v)) (k : dx_ev K r rm P pc' lo (.ref v :: st) ws kc ks) : dx_ev K r rm P pc lo (.ref a :: st) ws kc ks := by
  intro l A p e s m args below meth c H locs ls hc hK hA hP hD hS hl
  obtain ⟨hd, rfl⟩ := hd
  obtain ⟨C, T, N, h1, h2, h3, -⟩ := hf
  rw [ho] at h3
  have hk := sx_kall _ _ h1
  exact va_get (v := .ref v) (Ts := sx_ws r) hc.1 hc.2.1 hc.2.2.2.2.1 (fun x hx => List.mem_cons_of_mem _ (hk.1 x hx)) hc.2.2.2.1 hK hP q0 he h1 j h2 (hc.2.2.2.2.1 _ (List.mem_cons_of_mem _ h3)) (fun _ h => h) hj hd (k l A p e s m args below meth c H locs ls hc hK hA hP hD hS hl)
theorem dx_iast {q0 a n j : Nat} {i x : Int32} {f : Nat → Int32} {ws' : va_W} (hd : decode r.2.1 pc = .ok (.iastore, 1) ∧ pc + 1 = pc') (he : ws[q0]? = some (a, .inl (K.2.1, n, .inl f))) (hi : vp_in i n) (hj : i.toNatClampNeg = j) (hw : ws.set q0 (a, .inl (K.2.1, n, .inl (upd f j x))) = ws') (k : dx_ev K r rm P pc' lo st ws' kc ks) : dx_ev K r rm P pc lo (.int x :: .int i :: .ref a :: st) ws kc ks := by
  intro l A p e s m args below meth c H locs ls hc hK hA hP hD hS hl
  obtain ⟨hd, rfl⟩ := hd
  subst hw; subst hj
  exact va_iast hc.1 hc.2.1 hK hP hD hS q0 0 he rfl hi hd (fun H1 locs1 hP1 hD1 hS1 => k l A p e s m args below meth c H1 locs1 ls hc hK hA hP1 hD1 hS1 hl)
theorem dx_astq {q0 qk a n j v : Nat} {i : Int32} {f : Nat → Option Nat} {vs : List Value} {ws' : va_W} (hd : decode r.2.1 pc = .ok (.aastore, 1) ∧ pc + 1 = pc') (he : ws[q0]? = some (a, .inl (K.2.2.2, n, .inr (.inr (.inr (.inr f)))))) (hv : ws[qk]? = some (v, .inr (4, vs))) (hi : vp_in i n) (hj : i.toNatClampNeg = j) (hw : ws.set q0 (a, .inl (K.2.2.2, n, .inr (.inr (.inr (.inr (va_up f j (some v))))))) = ws') (k : dx_ev K r rm P pc' lo st ws' kc ks) : dx_ev K r rm P pc lo (.ref v :: .int i :: .ref a :: st) ws kc ks := by
  intro l A p e s m args below meth c H locs ls hc hK hA hP hD hS hl
  obtain ⟨hd, rfl⟩ := hd
  subst hw; subst hj
  exact va_astq (r := (RSh, TSh, 4)) hc.1 hc.2.1 hK hP hD hS q0 2 qk 4 he rfl hv rfl hi hd (fun H1 locs1 hP1 hD1 hS1 => k l A p e s m args below meth c H1 locs1 ls hc hK hA hP1 hD1 hS1 hl)
theorem dx_vret (hd : decode r.2.1 pc = .ok (.return_, 1) ∧ pc + 1 = pc') (hr : r.2.2.2 = none) (hkc : kc = rm.cells) (hks : ks = rm.slots) (q : P ws) : dx_ev K r rm P pc lo [] ws kc ks := by
  intro l A p e s m args below meth c H locs ls hc hK hA hP hD hS hl
  subst hkc; subst hks
  refine W.vret hc.1 hc.2.1 (hc.2.2.2.2.2.1.trans hr) (fun t ht _ => ?_) hS.2.2 hd.1 hc.2.2.2.2.2.2.1
  exact ⟨⟨ws, rfl, q, by rw [ht]; exact hP, hD⟩, hS.F ht⟩
/-! a constructor called -/
theorem dx_join {A0 : Nat → Prop} {D : va_G} {cl : List vw_C} {q : Nat} {x : va_E} {w1 : va_W} {H H1 : Heap} (hP : va_P D cl (ws ++ [(q, x)]) H) (hD : va_D A0 (ws ++ [(q, x)])) (hk : ∀ q' : Nat, q' < H.size → ¬ va_A [(q, x)] H.size q' → H1[q']? = H[q']?) (hF : ∀ q', va_A [(q, x)] H.size q' → A0 q') (hP1 : va_P D cl w1 H1) (hD1 : va_D (va_A [(q, x)] H.size) w1) : va_P D cl (ws ++ w1) H1 ∧ va_D A0 (ws ++ w1) := by
  have hat : ∀ (k : Nat) (y : Nat × va_E), ws[k]? = some y → (ws ++ [(q, x)])[k]? = some y := fun k y h => by
    rw [List.getElem?_append_left (List.getElem?_eq_some_iff.mp h).1]; exact h
  have hlast : (ws ++ [(q, x)])[ws.length]? = some (q, x) := by
    rw [List.getElem?_append_right (Nat.le_refl _), Nat.sub_self]; rfl
  have hold : ∀ (k : Nat) (y : Nat × va_E), ws[k]? = some y → y.1 < H.size ∧ ¬ va_A [(q, x)] H.size y.1 := fun k y h => by
    have hlt := (hP k y (hat k y h)).lt
    refine ⟨hlt, fun c => ?_⟩
    rcases c with ⟨j, e, hj⟩ | c
    · have hj0 : j = 0 := by
        have := (List.getElem?_eq_some_iff.mp hj).1
        simp only [List.length_cons, List.length_nil] at this
        omega
      subst hj0
      have e1 : (q, x) = (y.1, e) := Option.some.inj hj
      have := hD.1 k ws.length y (q, x) (hat k y h) hlast (by rw [e1])
      have := (List.getElem?_eq_some_iff.mp h).1
      omega
    · omega
  have hPw : va_P D cl ws H1 := va_P.kept (H := H) (fun k y h => hP k y (hat k y h)) (fun k y h => hk y.1 (hold k y h).1 (hold k y h).2)
  refine ⟨hPw.app hP1, fun i j y z hi hj he => ?_, fun k y h => ?_⟩
  · by_cases c1 : i < ws.length
    · rw [List.getElem?_append_left c1] at hi
      by_cases c2 : j < ws.length
      · rw [List.getElem?_append_left c2] at hj
        exact hD.1 i j y z (hat i y hi) (hat j z hj) he
      · rw [List.getElem?_append_right (by omega)] at hj
        exact absurd (by rw [he]; exact hD1.2 _ z hj) (hold i y hi).2
    · rw [List.getElem?_append_right (by omega)] at hi
      by_cases c2 : j < ws.length
      · rw [List.getElem?_append_left c2] at hj
        exact absurd (by rw [← he]; exact hD1.2 _ y hi) (hold j z hj).2
      · rw [List.getElem?_append_right (by omega)] at hj
        have := hD1.1 _ _ y z hi hj he
        omega
  · by_cases c1 : k < ws.length
    · rw [List.getElem?_append_left c1] at h
      exact hD.2 k y (hat k y h)
    · rw [List.getElem?_append_right (by omega)] at h
      exact hF _ (hD1.2 _ y h)
theorem dx_blind {As : List Value} {w0 : va_W} {sz : Nat} : FrameBlind (va_Pc As (fun U => U.heap.size = sz ∧ va_P K.1 vwCl w0 U.heap ∧ va_K K.1 vwCl (dx_ty K) U ∧ dx_ne U ∧ va_D (fun _ => True) w0)) := by
  intro a U g mk q
  obtain ⟨q0, q1, qP, qK, qn, qD⟩ := q
  exact ⟨q0, q1, qP, va_K.moved (u := U) (U := U.calling g mk a) (Vm.Alike.refl U.vm) qK, dx_ne.same (s := U) (U := U.calling g mk a) rfl (Vm.Alike.refl U.vm) qn, qD⟩
/-- what a constructor that is called must be: its code, its class, its name, an instance method -/
def dx_rok (na : Nat) (r2 : sx_R) : Prop := Cond.code r2.1 r2.2.1 r2.2.2.1 none ∈ sx_T ∧ Cond.initialized r2.1.cls ∈ sx_T ∧ Cond.instanceMethod r2.1 ∈ sx_T ∧ r2.1.name = "<init>" ∧ (r2.1.cls ≠ "java/lang/invoke/MethodHandle" ∧ r2.1.cls ≠ "java/lang/invoke/VarHandle" ∧ (parseMethodDescriptor r2.1.desc).map (fun d => d.parameters.length) = some na) ∧ r2.2.2.1 ≤ 40 ∧ r2.2.2.2 = none
def dx_room (rm rm2 : Room) (kc ks : Nat) : Prop := rm2.frames + 1 ≤ rm.frames ∧ rm2.locals + 60 ≤ rm.locals ∧ kc + rm2.cells ≤ rm.cells ∧ ks + rm2.slots ≤ rm.slots
theorem dx_init {r2 : sx_R} {rm2 : Room} {idx na q : Nat} {As st0 : List Value} {x : va_E} {P2 : va_W → Prop} (hd : decode r.2.1 pc = .ok (.invokespecial idx, 3) ∧ pc + 3 = pc') (hlk : Cond.methodLink r.1.cls idx r2.1 ∈ sx_T) (hrk : dx_rok na r2) (hAs : As.length = na) (hst : (st.map fun v => v.category).sum ≤ 8) (he : st0 = As.reverse ++ .ref q :: st) (hrm : dx_room rm rm2 kc ks) (hM : dx_met K r2 rm2 (.ref q :: As) [(q, x)] P2) (k : ∀ u : va_W, P2 u → dx_ev K r rm P pc' lo st (ws ++ u) (kc + rm2.cells) (ks + rm2.slots)) : dx_ev K r rm P pc lo st0 (ws ++ [(q, x)]) kc ks := by
  intro l A p e s m args below meth c H locs ls hc hK hA hP hD hS hl
  obtain ⟨hd, rfl⟩ := hd
  obtain ⟨k1, k2, k3, k4, k5, k6, k7⟩ := hrk
  have mem : ∀ x ∈ sx_T, x.before args s = true := fun x h => hc.2.2.2.2.1 x (List.mem_cons_of_mem _ h)
  have hall : ∀ x ∈ sx_ws r2, x ∈ sx_T := by
    intro x hx
    rcases List.mem_cons.mp hx with rfl | hx
    · rw [k7]; exact k1
    · exact hx
  have hlast : (ws ++ [(q, x)])[ws.length]? = some (q, x) := by
    rw [List.getElem?_append_right (Nat.le_refl _), Nat.sub_self]; rfl
  have hPc : va_P K.1 vwCl [(q, x)] H := fun k y h => by
    have hk0 : k = 0 := by
      have := (List.getElem?_eq_some_iff.mp h).1
      simp only [List.length_cons, List.length_nil] at this
      omega
    subst hk0
    cases h
    exact hP _ _ hlast
  have hDc : va_D (fun _ => True) [(q, x)] := ⟨fun i j y z hi hj _ => by
    have h1 := (List.getElem?_eq_some_iff.mp hi).1
    have h2 := (List.getElem?_eq_some_iff.mp hj).1
    simp only [List.length_cons, List.length_nil] at h1 h2
    omega, fun _ _ _ => trivial⟩
  have hFc : ∀ q', va_A [(q, x)] H.size q' → A q' := fun q' h => by
    rcases h with ⟨j, e, hj⟩ | h
    · have hk0 : j = 0 := by
        have := (List.getElem?_eq_some_iff.mp hj).1
        simp only [List.length_cons, List.length_nil] at this
        omega
      subst hk0
      cases hj
      exact hD.2 _ _ hlast
    · exact hA q' (Nat.le_trans hS.1 h)
  refine va_callv (va_runI (As := As) (rest := st) (Ts := sx_ws r) (b := q) (maxL := r2.2.2.1) (bytes := r2.2.1) ⟨hc.1, hc.2.1, hc.2.2.1, hc.2.2.2.1, hc.2.2.2.2.1⟩ (hM l H.size) (cwI na hc.2.2.2.2.1 (sx_gi hall) (by unfold sx_ws; rw [k7]) rfl rfl (mem _ k2) (mem _ hlk) (mem _ k3) k4 k5 ⟨hrm.1, by have := hrm.2.1; omega⟩) ⟨dx_blind, fun U hU hW => ⟨rfl, by rw [hU], by rw [hU]; exact hPc, va_K.moved hW.alike hK, hc.2.2.2.2.2.2.2.1.warm hW, hDc⟩⟩ rfl hAs hl.1 he (lv_room hst) hd ⟨hrm.2.2.1, hrm.2.2.2⟩) hS (fun q' _ h => hFc q' h) hFc (fun u t H1 locs1 ht hvm hw hB hz hk hS1 => ?_)
  obtain ⟨hP1, hD1⟩ := hB
  rw [ht] at hP1
  obtain ⟨hP2, hD2⟩ := dx_join hP hD hk hFc hP1 hD1
  exact k u hw l A p e s m args below meth c H1 locs1 ls hc hK hA hP2 hD2 hS1 hl
theorem dx_initN {r2 : sx_R} {rm2 : Room} {idx na q : Nat} {host : String} {As st0 : List Value} {x : va_E} {P2 : va_W → Prop} (hd : decode r.2.1 pc = .ok (.invokespecial idx, 3) ∧ pc + 3 = pc') (hlk : (r.1.cls, idx, r2.1, host) ∈ dx_nl) (hrk : dx_rok na r2) (hAs : As.length = na) (hst : (st.map fun v => v.category).sum ≤ 8) (he : st0 = As.reverse ++ .ref q :: st) (hrm : dx_room rm rm2 kc ks) (hM : dx_met K r2 rm2 (.ref q :: As) [(q, x)] P2) (k : ∀ u : va_W, P2 u → dx_ev K r rm P pc' lo st (ws ++ u) (kc + rm2.cells) (ks + rm2.slots)) : dx_ev K r rm P pc lo st0 (ws ++ [(q, x)]) kc ks := by
  intro l A p e s m args below meth c H locs ls hc hK hA hP hD hS hl
  obtain ⟨hd, rfl⟩ := hd
  obtain ⟨k1, k2, k3, k4, k5, k6, k7⟩ := hrk
  have mem : ∀ x ∈ sx_T, x.before args s = true := fun x h => hc.2.2.2.2.1 x (List.mem_cons_of_mem _ h)
  have hall : ∀ x ∈ sx_ws r2, x ∈ sx_T := by
    intro x hx
    rcases List.mem_cons.mp hx with rfl | hx
    · rw [k7]; exact k1
    · exact hx
  have hlast : (ws ++ [(q, x)])[ws.length]? = some (q, x) := by
    rw [List.getElem?_append_right (Nat.le_refl _), Nat.sub_self]; rfl
  have hPc : va_P K.1 vwCl [(q, x)] H := fun k y h => by
    have hk0 : k = 0 := by
      have := (List.getElem?_eq_some_iff.mp h).1
      simp only [List.length_cons, List.length_nil] at this
      omega
    subst hk0
    cases h
    exact hP _ _ hlast
  have hDc : va_D (fun _ => True) [(q, x)] := ⟨fun i j y z hi hj _ => by
    have h1 := (List.getElem?_eq_some_iff.mp hi).1
    have h2 := (List.getElem?_eq_some_iff.mp hj).1
    simp only [List.length_cons, List.length_nil] at h1 h2
    omega, fun _ _ _ => trivial⟩
  have hFc : ∀ q', va_A [(q, x)] H.size q' → A q' := fun q' h => by
    rcases h with ⟨j, e, hj⟩ | h
    · have hk0 : j = 0 := by
        have := (List.getElem?_eq_some_iff.mp hj).1
        simp only [List.length_cons, List.length_nil] at this
        omega
      subst hk0
      cases hj
      exact hD.2 _ _ hlast
    · exact hA q' (Nat.le_trans hS.1 h)
  refine va_callv (va_runIN (As := As) (rest := st) (Ts := sx_ws r) (b := q) (host := host) (own := r.1.cls) (maxL := r2.2.2.1) (bytes := r2.2.1) ⟨hc.1, hc.2.1, hc.2.2.1, hc.2.2.2.1, hc.2.2.2.2.1⟩ (hM l H.size) ⟨va_cnB na hc.2.2.2.2.1 (sx_gi hall) (by unfold sx_ws; rw [k7]) rfl rfl (hc.2.2.2.2.2.2.2.1.1 _ hlk) (mem _ k2) k5 ⟨hrm.1, by have := hrm.2.1; omega⟩, k4, mem _ k3⟩ ⟨dx_blind, fun U hU hW => ⟨rfl, by rw [hU], by rw [hU]; exact hPc, va_K.moved hW.alike hK, hc.2.2.2.2.2.2.2.1.warm hW, hDc⟩⟩ rfl hAs hl.1 he (lv_room hst) hd ⟨hrm.2.2.1, hrm.2.2.2⟩) hS (fun q' _ h => hFc q' h) hFc (fun u t H1 locs1 ht hvm hw hB hz hk hS1 => ?_)
  obtain ⟨hP1, hD1⟩ := hB
  rw [ht] at hP1
  obtain ⟨hP2, hD2⟩ := dx_join hP hD hk hFc hP1 hD1
  exact k u hw l A p e s m args below meth c H1 locs1 ls hc hK hA hP2 hD2 hS1 hl
end
