/-! ===== the law's entry ===== -/
set_option maxRecDepth 100000 in
theorem ni_Sb : Cond.instantiable RSb 10 ∈ sx_T := sx_in 67 (by decide +kernel) rfl
set_option maxRecDepth 100000 in
theorem ni_Mo : Cond.instantiable RMo 24 ∈ sx_T := sx_in 802 (by decide +kernel) rfl
set_option maxRecDepth 100000 in
theorem nn_Sb : Cond.initialized RSb ∈ sx_T := sx_in 55 (by decide +kernel) rfl
set_option maxRecDepth 100000 in
theorem nn_Mo : Cond.initialized RMo ∈ sx_T := sx_in 63 (by decide +kernel) rfl
set_option maxRecDepth 100000 in
theorem nl_Sb : Cond.classLink R_law 7 RSb ∈ sx_T := sx_in 66 (by decide +kernel) rfl
set_option maxRecDepth 100000 in
theorem nl_Mo : Cond.classLink R_law 10 RMo ∈ sx_T := sx_in 801 (by decide +kernel) rfl
set_option maxRecDepth 100000 in
theorem ml_Sb : Cond.methodLink R_law 9 rSb_init.1 ∈ sx_T := sx_in 68 (by decide +kernel) rfl
set_option maxRecDepth 100000 in
theorem ml_Mo : Cond.methodLink R_law 12 rMo_init.1 ∈ sx_T := sx_in 803 (by decide +kernel) rfl
theorem nf_Sb : ∀ j, j < 10 → defaultValue (ySb j) = vp_V [.null, .null, .int 0, .null, .null, .null, .null, .null, .null, .null] j := by
  intro j hj
  match j, hj with
  | 0, _ => rfl
  | 1, _ => rfl
  | 2, _ => rfl
  | 3, _ => rfl
  | 4, _ => rfl
  | 5, _ => rfl
  | 6, _ => rfl
  | 7, _ => rfl
  | 8, _ => rfl
  | 9, _ => rfl
  | n + 10, h => omega
theorem nf_Mo : ∀ j, j < 24 → defaultValue (yMo j) = vp_V [.int 0, .null, .null, .null, .null, .int 0, .int 0, .int 0, .null, .null, .null, .null, .null, .null, .int 0, .int 0, .int 0, .null, .null, .int 0, .null, .null, .null, .null] j := by
  intro j hj
  match j, hj with
  | 0, _ => rfl
  | 1, _ => rfl
  | 2, _ => rfl
  | 3, _ => rfl
  | 4, _ => rfl
  | 5, _ => rfl
  | 6, _ => rfl
  | 7, _ => rfl
  | 8, _ => rfl
  | 9, _ => rfl
  | 10, _ => rfl
  | 11, _ => rfl
  | 12, _ => rfl
  | 13, _ => rfl
  | 14, _ => rfl
  | 15, _ => rfl
  | 16, _ => rfl
  | 17, _ => rfl
  | 18, _ => rfl
  | 19, _ => rfl
  | 20, _ => rfl
  | 21, _ => rfl
  | 22, _ => rfl
  | 23, _ => rfl
  | n + 24, h => omega
theorem ly_inst : ∀ (ci : Nat) (q : vw_C), vwCl[ci]? = some q → ∃ n, Cond.instantiable q.1 n ∈ sx_T := by
  intro ci q h
  match ci, h with
  | 0, h => cases h; exact ⟨_, ni_Ho⟩
  | 1, h => cases h; exact ⟨_, ni_Ma⟩
  | 2, h => cases h; exact ⟨_, ni_Ni⟩
  | 3, h => cases h; exact ⟨_, ni_Se⟩
  | 4, h => cases h; exact ⟨_, ni_Sh⟩
  | 5, h => cases h; exact ⟨_, ni_St⟩
  | 6, h => cases h; exact ⟨_, ni_Ta⟩
  | 7, h => cases h; exact ⟨_, ni_Sb⟩
  | 8, h => cases h; exact ⟨_, ni_Mo⟩
  | n + 9, h => simp [vwCl] at h
set_option maxRecDepth 100000 in
theorem ly_ov : Cond.arrayOver (.object "SixBeds$Sheet") ∈ lw_tbl := List.mem_of_getElem? (i := 314) (by decide +kernel)
set_option maxRecDepth 100000 in
theorem ly_nl : ∀ q ∈ dx_nl, Cond.methodLinkNest q.1 q.2.1 q.2.2.1 q.2.2.2 ∈ lw_tbl := List.forall_mem_cons.mpr ⟨List.mem_of_getElem? (i := 76) (by decide +kernel), List.forall_mem_cons.mpr ⟨List.mem_of_getElem? (i := 281) (by decide +kernel), List.forall_mem_cons.mpr ⟨List.mem_of_getElem? (i := 316) (by decide +kernel), fun _ h => absurd h List.not_mem_nil⟩⟩⟩
section
variable {s : State} {args : Array Value}
theorem ly_sx (hts : ∀ w ∈ lw_tbl, w.before args s = true) : sx_ne s := fun q hq => va_tabs rfl rfl (hts _ (sx_nl_ok q hq))
theorem ly_dx (hts : ∀ w ∈ lw_tbl, w.before args s = true) : dx_ne s := ⟨fun q hq => va_tabs rfl rfl (hts _ (ly_nl q hq)), va_AO.of (hts _ ly_ov)⟩
theorem ly_K (hts : ∀ w ∈ lw_tbl, w.before args s = true) : ∃ K : dx_K, va_K K.1 vwCl (dx_ty K) s := by
  have hex : ∀ ci : Nat, ∃ (c : ClassId) (iS : Nat → Nat), ∀ q, vwCl[ci]? = some q → u_Kn s q.1 q.2.1 q.2.2 c iS := fun ci => by
    cases h : vwCl[ci]? with
    | none => exact ⟨default, fun _ => 0, fun q hq => by cases hq⟩
    | some q =>
      obtain ⟨n, hn⟩ := ly_inst ci q h
      obtain ⟨c, iS, hk⟩ := u_known (C := q.1) (T := q.2.1) (N := q.2.2) (n := n) hts (fun w hw => sx_T_in ((sx_kall ci q h).1 w hw)) (hts _ (sx_T_in hn))
      exact ⟨c, iS, fun q' hq' => by cases hq'; exact hk⟩
  obtain ⟨cI, kI, oI, i1, i2, i3⟩ := Cond.arrayClass_spec (hts _ (sx_T_in dx_ai))
  obtain ⟨cL, kL, oL, l1, l2, l3⟩ := Cond.arrayClass_spec (hts _ (sx_T_in dx_al))
  obtain ⟨oS, cS, kS, s1, s2, s3, s4, s5⟩ := Cond.arrayOver_spec (hts _ ly_ov)
  refine ⟨((fun ci => Classical.choose (hex ci), fun ci => Classical.choose (Classical.choose_spec (hex ci))), cI, cL, cS), fun ci q h => Classical.choose_spec (Classical.choose_spec (hex ci)) q h, fun k q h => ?_⟩
  match k, h with
  | 0, h => cases h; exact ⟨fun n z => ⟨fun k h => (by cases h), kI, i2, oI, i3⟩, i1⟩
  | 1, h => cases h; exact ⟨fun n z => ⟨fun k h => (by cases h), kL, l2, oL, l3⟩, l1⟩
  | 2, h => cases h; exact ⟨fun n z => ⟨fun k h => (by cases h), kS, s3, oS, s4⟩, kS, oS, s3, s4, s1, s5⟩
  | n + 3, h => simp [dx_ty] at h
end
def cLe : List sx_I := [(0, .new 7, 3, 3), (3, .dup, 1, 4), (4, .invokespecial 9, 3, 7), (7, .astore_n 1, 1, 8), (8, .new 10, 3, 11), (11, .dup, 1, 12), (12, .invokespecial 12, 3, 15), (15, .astore_n 2, 1, 16), (16, .iconst 0, 1, 17), (17, .istore_n 3, 1, 18)]
set_option maxRecDepth 100000 in
theorem dLe : sx_ok rLaw cLe := by unfold sx_ok; decide +kernel
/-- the law calls a constructor -/
theorem ly_init {p : Program} {l : Launch} {e : Env} {s : State} {m : MethodId} {below : List Frame} {meth : Method} {c : Code} {b L : Nat} {xs : Nat → Int32} {K : dx_K} {r2 : sx_R} {rm2 : Room} {pc idx q kc ks : Nat} {st : List Value} {ws : va_W} {x : va_E} {P2 : va_W → Prop} {H : Heap} {locs : List Loc} {ls : Array Slot} {lv : List (Nat × Value)} (hC : lw_At p s m meth c b L xs) (hK : va_K K.1 vwCl (dx_ty K) s) (hne : dx_ne s) (hP : va_P K.1 vwCl (ws ++ [(q, x)]) H) (hD : va_D (fun q : Nat => s.heap.size ≤ q) (ws ++ [(q, x)])) (hS : va_S (fun q : Nat => s.heap.size ≤ q) s.heap H locs) (hl : lv_has ls 4 lv) (hd : decode code pc = .ok (.invokespecial idx, 3)) (hlk : Cond.methodLink R_law idx r2.1 ∈ sx_T) (hrk : dx_rok 0 r2) (hst : (st.map fun v => v.category).sum ≤ 8) (hrm : rm2.frames + 1 ≤ 2048 ∧ rm2.locals + 60 ≤ 84000 ∧ kc + rm2.cells ≤ 600000 ∧ ks + rm2.slots ≤ 7302250) (hM : dx_met K r2 rm2 [.ref q] [(q, x)] P2)
    (k : ∀ (u : va_W) (H1 : Heap) (locs1 : List Loc), P2 u → va_P K.1 vwCl (ws ++ u) H1 → va_D (fun q : Nat => s.heap.size ≤ q) (ws ++ u) → va_S (fun q : Nat => s.heap.size ≤ q) s.heap H1 locs1 → W p l e room_1 s m #[Value.ref b] below meth c H1 locs1 (kc + rm2.cells) (ks + rm2.slots) (lw_Z below #[Value.ref b] s) (F0 m (pc + 3) ls st)) : W p l e room_1 s m #[Value.ref b] below meth c H locs kc ks (lw_Z below #[Value.ref b] s) (F0 m pc ls (.ref q :: st)) := by
  obtain ⟨k1, k2, k3, k4, k5, k6, k7⟩ := hrk
  have hts := hC.2.2.2.2.2.1
  have hall : ∀ x ∈ sx_ws r2, x ∈ sx_T := by
    intro x hx
    rcases List.mem_cons.mp hx with rfl | hx
    · rw [k7]; exact k1
    · exact hx
  have hG : GoodIn lw_tbl (sx_ws r2) := fun x hx => ⟨sx_T_in (hall x hx), good_of_word (List.mem_filter.mp (hall x hx)).2⟩
  have hlast : (ws ++ [(q, x)])[ws.length]? = some (q, x) := by
    rw [List.getElem?_append_right (Nat.le_refl _), Nat.sub_self]; rfl
  have hPc : va_P K.1 vwCl [(q, x)] H := fun k y h => by
    have hk0 : k = 0 := by
      have := (List.getElem?_eq_some_iff.mp h).1
      simp only [List.length_cons, List.length_nil] at this
      omega
    subst hk0
    cases h
    exact hP _ _ hlast
  have hDc : va_D (fun _ => True) [(q, x)] := ⟨fun i j y z hi hj _ => by
    have h1 := (List.getElem?_eq_some_iff.mp hi).1
    have h2 := (List.getElem?_eq_some_iff.mp hj).1
    simp only [List.length_cons, List.length_nil] at h1 h2
    omega, fun _ _ _ => trivial⟩
  have hFc : ∀ q', va_A [(q, x)] H.size q' → s.heap.size ≤ q' := fun q' h => by
    rcases h with ⟨j, e, hj⟩ | h
    · have hk0 : j = 0 := by
        have := (List.getElem?_eq_some_iff.mp hj).1
        simp only [List.length_cons, List.length_nil] at this
        omega
      subst hk0
      cases hj
      exact hD.2 _ _ hlast
    · exact Nat.le_trans hS.1 h
  refine va_callv (va_runI (As := []) (rest := st) (Ts := lw_tbl) (b := q) (maxL := r2.2.2.1) (bytes := r2.2.1) ⟨hC.1, hC.2.1, hC.2.2.2.1, hC.2.2.2.2.1, hts⟩ (hM l H.size) (cwI 0 hts hG (by unfold sx_ws; rw [k7]) rfl rfl (hts _ (sx_T_in k2)) (hts _ (sx_T_in hlk)) (hts _ (sx_T_in k3)) k4 k5 ⟨hrm.1, by have := hrm.2.1; show 8 + (r2.2.2.1 + 11) + rm2.locals ≤ 84000; omega⟩) ⟨dx_blind, fun U hU hW => ⟨rfl, by rw [hU], by rw [hU]; exact hPc, va_K.moved hW.alike hK, hne.warm hW, hDc⟩⟩ rfl rfl hl.1 rfl (lv_room hst) hd ⟨hrm.2.2.1, hrm.2.2.2⟩) hS (fun q' _ h => hFc q' h) hFc (fun u t H1 locs1 ht hvm hw hB hz hk hS1 => ?_)
  obtain ⟨hP1, hD1⟩ := hB
  rw [ht] at hP1
  obtain ⟨hP2, hD2⟩ := dx_join (A0 := fun q : Nat => s.heap.size ≤ q) hP hD hk hFc hP1 hD1
  exact k u H1 locs1 hw hP2 hD2 hS1
set_option maxHeartbeats 4000000 in
/-- the law, from its entry -/
theorem whole_start {p : Program} {e : Env} {s : State} {m : MethodId} {below : List Frame} {meth : Method} {c : Code} (l : Launch) (hflags : l.flags = flags0) {b L : Nat} {xs : Nat → Int32} (hL : L ≤ 3072) (C0 : lw_At p s m meth c b L xs) : W p l e room_1 s m #[Value.ref b] below meth c s.heap [] 0 0 (lw_Z below #[Value.ref b] s) (entryFrame m ([Value.ref b] : List Value).toArray 4) := by
  obtain ⟨hx, hb, hr, hml, hown, hts, hX, hbl, hlocks, hgv⟩ := id C0
  obtain ⟨K, hK⟩ := ly_K hts
  have hA : ∀ q : Nat, s.heap.size ≤ q → (fun q : Nat => s.heap.size ≤ q) q := fun _ h => h
  have hS : va_S (fun q : Nat => s.heap.size ≤ q) s.heap s.heap [] := va_S.rf
  have hP : va_P K.1 vwCl [] s.heap := fun k q h => by simp at h
  have hD : va_D (fun q : Nat => s.heap.size ≤ q) [] := ⟨fun i j p q h => by simp at h, fun k q h => by simp at h⟩
  have hl := lv_entry ([.ref b]) (n := 4) (Nat.le_of_ble_eq_true rfl)
  rw [lg_entry_eq]
  generalize (lg_sl ([.ref b]) ++ List.replicate (4 - (lg_sl ([.ref b])).length) Slot.unset).toArray = ls at hl ⊢
  have hl : lv_has ls 4 [(0, .ref b)] := hl
  refine va_new (ci := 7) (fs := [.null, .null, .int 0, .null, .null, .null, .null, .null, .null, .null]) (C := RSb) (T := TSb) (N := 10) hx hb hts (fun w hw => sx_T_in ((sx_kall 7 _ rfl).1 w hw)) ySb ykSb hown (hts _ (sx_T_in nl_Sb)) (hts _ (sx_T_in ni_Sb)) (hts _ (sx_T_in nn_Sb)) hK hP hD hS hA rfl nf_Sb (Nat.le_of_ble_eq_true rfl) (Nat.le_of_ble_eq_true rfl) (dLe.at 0 rfl).1 (fun q0 H hP hD hS => ?_)
  refine lv_dup hx hb (dLe.at 1 rfl).1 rfl ?_
  refine ly_init (ws := []) (rm2 := rmSb) C0 hK (ly_dx hts) hP hD hS hl (dLe.at 2 rfl).1 ml_Sb kSb_init (Nat.le_of_ble_eq_true rfl) ⟨by decide, by decide, by decide, by decide⟩ nSb (fun u H locs hu hP hD hS => ?_)
  refine lv_astore_n (lv' := [(1, .ref q0), (0, .ref b)]) hx hb (dLe.at 3 rfl).1 rfl hl (by decide) rfl (fun ls hl => ?_)
  refine va_new (ci := 8) (fs := [.int 0, .null, .null, .null, .null, .int 0, .int 0, .int 0, .null, .null, .null, .null, .null, .null, .int 0, .int 0, .int 0, .null, .null, .int 0, .null, .null, .null, .null]) (C := RMo) (T := TMo) (N := 24) hx hb hts (fun w hw => sx_T_in ((sx_kall 8 _ rfl).1 w hw)) yMo ykMo hown (hts _ (sx_T_in nl_Mo)) (hts _ (sx_T_in ni_Mo)) (hts _ (sx_T_in nn_Mo)) hK hP hD hS hA rfl nf_Mo (by decide) (by decide) (dLe.at 4 rfl).1 (fun q1 H hP hD hS => ?_)
  refine lv_dup hx hb (dLe.at 5 rfl).1 rfl ?_
  refine ly_init (ws := [] ++ u) (rm2 := rmMo) C0 hK (ly_dx hts) hP hD hS hl (dLe.at 6 rfl).1 ml_Mo kMo_init (Nat.le_of_ble_eq_true rfl) ⟨by decide, by decide, by decide, by decide⟩ nMo (fun v H2 locs2 hv hP2 hD2 hS2 => ?_)
  refine lv_astore_n (lv' := [(2, .ref q1), (1, .ref q0), (0, .ref b)]) hx hb (dLe.at 7 rfl).1 rfl hl (by decide) rfl (fun ls hl => ?_)
  refine lv_iconst (v := 0) hx hb (dLe.at 8 rfl).1 (by decide) ?_
  refine lv_istore_n (lv' := [(3, .int 0), (2, .ref q1), (1, .ref q0), (0, .ref b)]) hx hb (dLe.at 9 rfl).1 rfl hl (by decide) rfl (fun ls4 hl4 => ?_)
  obtain ⟨ad, e0, e48, ew⟩ := zz_all hu hv
  have ew : [] ++ u ++ v = sx_wl (K.1, ad, K.2.1, K.2.2.1, K.2.2.2) zz_w := ew
  rw [ew] at hP2 hD2
  subst e0; subst e48
  exact lx_loop hL (L + 1) 0 (by omega) (by omega) zz_w zz_R l (K.1, ad, K.2.1, K.2.2.1, K.2.2.2) p e s m below meth c H2 locs2 ls4 C0 hK (ly_sx hts) hP2 hD2 hS2 (lv_sub hl4 [3, 2, 1, 0] rfl)
