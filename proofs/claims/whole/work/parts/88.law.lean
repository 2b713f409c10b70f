/-! THE CLAIM OUT OF ONE WALK OF THE LAW'S BODY. Your part is whole_start (and what it stands on); all else here is the same for every law, but numbers. -/
def R_law : String := "SixBedsLaw"
def lw_P (b : Addr) (xs : List Int32) (args : Array Value) (s : State) : Prop := args = #[.ref b] ∧ s.IntsAt b xs ∧ xs.length ≤ 3072 ∧ (Jvm.Cond.and given_1 narrow_1).before args s = true
def lw_Q (_ : Array Value) (s : State) (o : Outcome) (t : State) : Prop := o = .returned (some (.int 1)) ∧ Framed s o t [] 600000 7302250
def lw_Z (below : List Frame) (a : Array Value) (s : State) : State → Prop := fun t => ∃ o, t.status = .running ∧ Ended t below o ∧ lw_Q a s o t
/-- the law's own end, with 1 on the stack, nothing written that was there before, its room as the claim has it -/
theorem lw_ret {p : Program} {l : Launch} {e : Env} {s : State} {m : MethodId} {below : List Frame} {meth : Method} {c : Code} {b : Nat} (hx : p.tables.exec = Jvm.exec) (hb : c.code = code) (hr : meth.sig.returnType = ret) (hlocks : meth.locks = false) {pc : Nat} {H : Heap} {ls : Array Slot} (hdg : decode code pc = .ok (.ireturn, 1)) : W p l e room_1 s m #[Value.ref b] below meth c H [] 600000 7302250 (lw_Z below #[Value.ref b] s) (F0 m pc ls [.int 1]) := by
  intro T hT X
  obtain ⟨fs, hret, hrun, hended, hW, hframe⟩ := X.leave (v := some (.int 1)) (hlocks := hlocks) (fun h => by rw [hr] at h; cases h)
  have hmeth' : T.vm.method? m = some meth := X.method'
  refine ⟨T.setFrames fs, ?_, .returned (some (.int 1)), hrun, hended, rfl, ⟨_, rfl⟩, hW, hframe⟩
  jvm_step X.here [X.here.top, hx, hb, hdg, hmeth', hr, ret, narrow_b1]
  (try refine ⟨rfl, ?_⟩); (try refine ⟨rfl, ?_⟩)
  first | (intro acts; rw [hret _ acts rfl rfl rfl]) | rw [hret _ _ rfl rfl rfl]
  exact Steps.refl _
/-- what holds at the law's entry: the machine, the code, the tables' words (any of lw_tbl by 'hts w (by decide +kernel)'), the script of L ints xs at the cell b, what the Statement gives of the start (any of its parts by flat_of_before) -/
def lw_At (p : Program) (s : State) (m : MethodId) (meth : Method) (c : Code) (b L : Nat) (xs : Nat → Int32) : Prop :=
  p.tables.exec = Jvm.exec ∧ c.code = code ∧ meth.sig.returnType = ret ∧ c.maxLocals = 4 ∧ s.vm.findClass R_law = some m.cls ∧ (∀ w ∈ lw_tbl, w.before #[Value.ref b] s = true) ∧ va_X b L xs s s.heap ∧ b < s.heap.size ∧ meth.locks = false ∧ (Jvm.Cond.and given_1 narrow_1).before #[Value.ref b] s = true
/-! ===== the law behind its constructors ===== -/
def lx_ev (b L : Nat) (xs : Nat → Int32) (i : Int32) (pc : Nat) (st : List Value) (w : sx_W) : Prop :=
  ∀ (l : Launch) (G : sx_G) (p : Program) (e : Env) (s : State) (m : MethodId) (below : List Frame) (meth : Method) (c : Code) (H : Heap) (locs : List Loc) (ls : Array Slot),
    lw_At p s m meth c b L xs → va_K G.1 vwCl (sx_ty G) s → sx_ne s → va_P G.1 vwCl (sx_wl G w) H → va_D (fun q : Nat => s.heap.size ≤ q) (sx_wl G w) → va_S (fun q : Nat => s.heap.size ≤ q) s.heap H locs → lv_has ls 4 [(0, .ref b), (1, .ref (G.2.1 0)), (2, .ref (G.2.1 48)), (3, .int i)] →
    W p l e room_1 s m #[Value.ref b] below meth c H locs 65 1142 (lw_Z below #[Value.ref b] s) (F0 m pc ls (st.map (sx_v G.2.1)))
def rLaw : sx_R := (x, code, 4, ret)
/-- a call's words: the link out of the law, an instance method, which it selects, its class among the cells' classes, its code -/
def lx_cok (q : Nat × Nat × Nat × sx_R) : Prop := (Cond.methodLink R_law q.1 q.2.2.2.1 ∈ sx_T ∧ Cond.instanceMethod q.2.2.2.1 ∈ sx_T ∧ Cond.selects q.2.2.2.1.cls q.2.2.2.1 q.2.2.2.1 ∈ sx_T ∧ (vwCl[q.2.2.1]?).map (fun z => z.1) = some q.2.2.2.1.cls) ∧ sx_rok q.2.1 q.2.2.2
def lx_lg (y z : Int32) : Int64 := (y.toInt64 <<< ((32 : Int32).toInt64 &&& 63)) ||| (z.toInt64 &&& 4294967295)
theorem sx_T_in {w : Cond} (h : w ∈ sx_T) : w ∈ lw_tbl := (List.mem_filter.mp h).1
section
variable {b L : Nat} {xs : Nat → Int32} {i : Int32} {pc pc' : Nat} {st : List Value} {w : sx_W}
theorem lx_x (hd : decode rLaw.2.1 pc = .ok (.aload_n 1, 1) ∧ pc + 1 = pc') (k : lx_ev b L xs i pc' (.ref 0 :: st) w) : lx_ev b L xs i pc st w := by
  intro l G p e s m below meth c H locs ls hC hK hne hP hD hS hl
  obtain ⟨hd, rfl⟩ := hd
  exact lv_aload_n hC.1 hC.2.1 hd rfl (lv_at hl 1 rfl) (k l G p e s m below meth c H locs ls hC hK hne hP hD hS hl)
theorem lx_m (hd : decode rLaw.2.1 pc = .ok (.aload_n 2, 1) ∧ pc + 1 = pc') (k : lx_ev b L xs i pc' (.ref 48 :: st) w) : lx_ev b L xs i pc st w := by
  intro l G p e s m below meth c H locs ls hC hK hne hP hD hS hl
  obtain ⟨hd, rfl⟩ := hd
  exact lv_aload_n hC.1 hC.2.1 hd rfl (lv_at hl 2 rfl) (k l G p e s m below meth c H locs ls hC hK hne hP hD hS hl)
/-- an int of the script -/
theorem lx_arg {n : Int} {v : Int32} {p1 p2 p3 p4 : Nat} (h0 : decode rLaw.2.1 pc = .ok (.aload_n 0, 1) ∧ pc + 1 = p1) (h1 : decode rLaw.2.1 p1 = .ok (.iload_n 3, 1) ∧ p1 + 1 = p2) (h2 : decode rLaw.2.1 p2 = .ok (.iconst n, 1) ∧ p2 + 1 = p3) (h3 : decode rLaw.2.1 p3 = .ok (.iadd, 1) ∧ p3 + 1 = p4) (h4 : decode rLaw.2.1 p4 = .ok (.iaload, 1) ∧ p4 + 1 = pc') (hv : Int32.ofInt n = v) (hin : vp_in (i + v) L) (k : lx_ev b L xs i pc' (.int (xs (i + v).toNatClampNeg) :: st) w) : lx_ev b L xs i pc st w := by
  intro l G p e s m below meth c H locs ls hC hK hne hP hD hS hl
  obtain ⟨h0, rfl⟩ := h0
  obtain ⟨h1, rfl⟩ := h1
  obtain ⟨h2, rfl⟩ := h2
  obtain ⟨h3, rfl⟩ := h3
  obtain ⟨h4, rfl⟩ := h4
  have hbl := hC.2.2.2.2.2.2.2.1
  refine lv_aload_n hC.1 hC.2.1 h0 rfl (lv_at hl 0 rfl) ?_
  refine lv_iload_n hC.1 hC.2.1 h1 rfl (lv_at hl 3 rfl) ?_
  refine lv_iconst hC.1 hC.2.1 h2 hv ?_
  refine lv_iadd hC.1 hC.2.1 h3 ?_
  exact va_sld hC.1 hC.2.1 hC.2.2.2.2.2.2.1 hbl (Nat.not_le.mpr hbl) hS hin h4 (k l G p e s m below meth c H locs ls hC hK hne hP hD hS hl)
/-- a long of two ints of the script: its upper half lies on the stack -/
theorem lx_up {y : Int32} {p1 p2 : Nat} (h0 : decode rLaw.2.1 pc = .ok (.i2l, 1) ∧ pc + 1 = p1) (h1 : decode rLaw.2.1 p1 = .ok (.bipush 32, 2) ∧ p1 + 2 = p2) (h2 : decode rLaw.2.1 p2 = .ok (.lshl, 1) ∧ p2 + 1 = pc') (k : lx_ev b L xs i pc' (.long (y.toInt64 <<< ((32 : Int32).toInt64 &&& 63)) :: st) w) : lx_ev b L xs i pc (.int y :: st) w := by
  intro l G p e s m below meth c H locs ls hC hK hne hP hD hS hl
  obtain ⟨h0, rfl⟩ := h0
  obtain ⟨h1, rfl⟩ := h1
  obtain ⟨h2, rfl⟩ := h2
  refine lv_i2l hC.1 hC.2.1 h0 rfl ?_
  refine lv_bipush (v := 32) hC.1 hC.2.1 h1 (by decide) ?_
  exact lv_lshl hC.1 hC.2.1 h2 rfl (k l G p e s m below meth c H locs ls hC hK hne hP hD hS hl)
theorem lx_low {y z : Int32} {p1 p2 p3 idx : Nat} (h0 : decode rLaw.2.1 pc = .ok (.i2l, 1) ∧ pc + 1 = p1) (h1 : decode rLaw.2.1 p1 = .ok (.ldc2_w idx, 3) ∧ p1 + 3 = p2) (h2 : decode rLaw.2.1 p2 = .ok (.land, 1) ∧ p2 + 1 = p3) (h3 : decode rLaw.2.1 p3 = .ok (.lor, 1) ∧ p3 + 1 = pc') (hc : Cond.constantLong R_law idx 4294967295 ∈ sx_T) (k : lx_ev b L xs i pc' (.long (lx_lg y z) :: st) w) : lx_ev b L xs i pc (.int z :: .long (y.toInt64 <<< ((32 : Int32).toInt64 &&& 63)) :: st) w := by
  intro l G p e s m below meth c H locs ls hC hK hne hP hD hS hl
  obtain ⟨h0, rfl⟩ := h0
  obtain ⟨h1, rfl⟩ := h1
  obtain ⟨h2, rfl⟩ := h2
  obtain ⟨h3, rfl⟩ := h3
  refine lv_i2l hC.1 hC.2.1 h0 rfl ?_
  refine lv_ldc2 hC.1 hC.2.1 hC.2.2.2.2.1 (hC.2.2.2.2.2.1 _ (sx_T_in hc)) h1 ?_
  refine lv_land hC.1 hC.2.1 h2 ?_
  exact lv_lor hC.1 hC.2.1 h3 (k l G p e s m below meth c H locs ls hC hK hne hP hD hS hl)
theorem lx_call {r2 : sx_R} {idx ci na a : Nat} {As st0 : List Value} {fs : List (Option Nat)} {f : Int32} {w2 : sx_W} (hd : decode rLaw.2.1 pc = .ok (.invokevirtual idx, 3) ∧ pc + 3 = pc') (hcl : lx_cok (idx, na, ci, r2)) (hs : sx_nth sx_sh a = some (0, ci, fs)) (hr : r2.2.2.2 = some .int) (hAs : As.length = na) (hst : (st.map fun v => v.category).sum ≤ 8) (he : st0 = As.reverse ++ .ref a :: st) (hM : sx_de 30 r2 (.ref a :: As) w f 0 w2) (k : lx_ev b L xs i pc' (.int f :: st) w2) : lx_ev b L xs i pc st0 w := by
  intro l G p e s m below meth c H locs ls hC hK hne hP hD hS hl
  obtain ⟨hd, rfl⟩ := hd
  obtain ⟨⟨k1, k2, k3, k4⟩, k5, k6, k7, k8, k9⟩ := hcl
  have hts := hC.2.2.2.2.2.1
  obtain ⟨q, hq, hq1⟩ : ∃ q, vwCl[ci]? = some q ∧ q.1 = r2.1.cls := by
    cases h : vwCl[ci]? with
    | none => rw [h] at k4; cases k4
    | some q => rw [h] at k4; exact ⟨q, rfl, Option.some.inj k4⟩
  have hall : ∀ x ∈ wsV R_law idx r2.1.cls r2.1 (sx_ws r2), x ∈ sx_T := by
    intro x hx
    simp only [wsV, sx_ws, List.cons_append, List.nil_append, List.mem_cons] at hx
    rcases hx with rfl | rfl | rfl | rfl | rfl | hx
    · exact k1
    · exact k2
    · exact k3
    · exact k6
    · exact k5
    · exact hx
  have hG : GoodIn lw_tbl (wsV R_law idx r2.1.cls r2.1 (sx_ws r2)) := fun x hx => ⟨sx_T_in (hall x hx), good_of_word (List.mem_filter.mp (hall x hx)).2⟩
  have hM2 : sx_met 30 r2 (.ref a :: As) w (fun u _ v => f = u ∧ w2 = v) := hM _ ⟨rfl, rfl⟩
  have hM3 := hM2 l G (fun q : Nat => s.heap.size ≤ q)
  rw [hr] at hM3
  have k8 : r2.2.2.1 ≤ 40 := k8
  refine va_calli (va_runV (b := G.2.1 a) (As := As.map (sx_v G.2.1)) (rest := st.map (sx_v G.2.1)) (C := r2.1.cls) (n := na) (Ts := lw_tbl) (maxL := r2.2.2.1) (bytes := r2.2.1) ⟨hC.1, hC.2.1, hC.2.2.2.1, hC.2.2.2.2.1, hts⟩ hM3 (cwV na hts hG (by unfold sx_ws; rw [hr]) rfl rfl ⟨rfl, k7⟩ ⟨Nat.le_of_ble_eq_true rfl, by show 8 + (r2.2.2.1 + 11) + 1800 ≤ 84000; omega⟩) ⟨sx_blind, hq1 ▸ va_recv hK hP hq (sx_wl_get G w hs), fun U hU hW => ⟨rfl, by rw [hU]; exact hP, hD, va_K.moved hW.alike hK, hne.warm hW, fun q hq => Nat.le_trans hS.1 (by rw [hU] at hq; exact hq)⟩⟩ rfl (by rw [List.length_map]; exact hAs) hl.1 ?_ (lv_room (sx_cat8 hst)) hd ⟨Nat.le_of_ble_eq_true rfl, Nat.le_of_ble_eq_true rfl⟩) hS (fun _ _ h => h) (fun _ h => h) (fun x u t H1 locs1 ht hvm hw hB hz hk hS1 => ?_)
  · show st0.map (sx_v G.2.1) = _
    rw [he, List.map_append, List.map_reverse]
    rfl
  · obtain ⟨rfl, rfl⟩ := hw
    exact k l G p e s m below meth c H1 locs1 ls hC hK hne (ht ▸ hB.1) hB.2 hS1 hl
theorem lx_eq {f : Int32} {off : Int} {tgt : Nat} (hd : decode rLaw.2.1 pc = .ok (.if_icmp .eq off, 3) ∧ pc + 3 = pc') (ht : (pc : Int) + off = (tgt : Int)) (k : lx_ev b L xs i tgt st w) : lx_ev b L xs i pc (.int f :: .int f :: st) w := by
  intro l G p e s m below meth c H locs ls hC hK hne hP hD hS hl
  obtain ⟨hd, rfl⟩ := hd
  exact lv_icmp_eq hC.1 hC.2.1 hd ht (fun _ => k l G p e s m below meth c H locs ls hC hK hne hP hD hS hl) (fun c => absurd rfl c)
/-- both calls with their comparison -/
theorem lx_two {r1 r2 : sx_R} {As : List Value} {A tgt : Nat} (hok : sa_ok r1 r2 As) (hA : A < 100000) (hR : sa_R A w) (hgo : ∀ (f : Int32) (w1 w2 : sx_W), sx_de 30 r1 (.ref 0 :: As) w f 0 w1 → sx_de 30 r2 (.ref 48 :: As) w1 f 0 w2 → lx_ev b L xs i tgt [] w2 → lx_ev b L xs i pc [] w) (k : ∀ w2, sa_R (A + 8) w2 → lx_ev b L xs i tgt [] w2) : lx_ev b L xs i pc [] w := by
  obtain ⟨f, w1, w2, m1, m2, h⟩ := hok A w hA hR
  exact hgo f w1 w2 m1 m2 (k w2 h)
end
