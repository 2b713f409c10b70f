/-! ===== the law's loop ===== -/
def cLh : List sx_I := [(18, .iload_n 3, 1, 19), (19, .aload_n 0, 1, 20), (20, .arraylength, 1, 21), (21, .bipush 6, 2, 23), (23, .isub, 1, 24), (24, .if_icmp .gt 1127, 3, 27), (27, .aload_n 0, 1, 28), (28, .iload_n 3, 1, 29), (29, .iaload, 1, 30), (30, .bipush 31, 2, 32), (32, .iand, 1, 33), (1145, .iinc 3 6, 3, 1148), (1148, .goto (-1130), 3, 1151), (1151, .iconst 1, 1, 1152), (1152, .ireturn, 1, 1153)]
set_option maxRecDepth 100000 in
theorem dLh : sx_ok rLaw cLh := by unfold sx_ok; decide +kernel
def lx_of : Array Int := #[139, 182, 205, 238, 271, 304, 327, 350, 413, 426, 449, 472, 485, 498, 511, 544, 567, 590, 623, 636, 669, 702, 715, 728, 771, 814, 857, 900, 923, 1006, 1049]
set_option maxRecDepth 100000 in
theorem dLs : decode rLaw.2.1 33 = .ok (.tableswitch 1112 0 30 lx_of, 139) := by decide +kernel
def lx_tg (k : Nat) : Nat := [172, 215, 238, 271, 304, 337, 360, 383, 446, 459, 482, 505, 518, 531, 544, 577, 600, 623, 656, 669, 702, 735, 748, 761, 804, 847, 890, 933, 956, 1039, 1082].getD k 0
theorem lx_tg_ok : ∀ k, k < 31 → (lx_of[k]?).map (fun o => (33 : Int) + o) = some (lx_tg k : Int) := by decide +kernel
theorem lx_31 (v : Int32) : ∃ k, k < 32 ∧ v &&& 31 = nI k := by
  have e : v = nI v.toBitVec.toNat := by
    apply Int32.toBitVec_inj.mp
    simp [nI]
  refine ⟨v.toBitVec.toNat % 2 ^ 5, Nat.mod_lt _ (by decide), ?_⟩
  rw [← fa_mask, ← e]
  rfl
theorem lx_6 {n : Nat} (h : n ≤ 3072) : (Int32.ofNat n - 6).toInt = (n : Int) - 6 := by
  have h1 : (Int32.ofNat n).toInt = (n : Int) := nI_toInt (by omega)
  rw [Int32.toInt_sub, h1, show (6 : Int32).toInt = 6 from rfl]
  exact Int.bmod_eq_of_le (by omega) (by omega)
section
variable {b L A : Nat} {xs : Nat → Int32} {i : Int32} {w : sx_W}
theorem lx_head (hL : L ≤ 3072) (kend : (L : Int) - 6 < i.toInt → lx_ev b L xs i 1151 [] w) (kgo : ¬ (L : Int) - 6 < i.toInt → lx_ev b L xs i 27 [] w) : lx_ev b L xs i 18 [] w := by
  intro l G p e s m below meth c H locs ls hC hK hne hP hD hS hl
  have hbl := hC.2.2.2.2.2.2.2.1
  refine lv_iload_n hC.1 hC.2.1 (dLh.at 0 rfl).1 rfl (lv_at hl 3 rfl) ?_
  refine lv_aload_n hC.1 hC.2.1 (dLh.at 1 rfl).1 rfl (lv_at hl 0 rfl) ?_
  refine va_slen hC.1 hC.2.1 hC.2.2.2.2.2.2.1 hbl (Nat.not_le.mpr hbl) hS (dLh.at 2 rfl).1 ?_
  refine lv_bipush (v := 6) hC.1 hC.2.1 (dLh.at 3 rfl).1 (by decide) ?_
  refine lv_isub hC.1 hC.2.1 (dLh.at 4 rfl).1 ?_
  refine lv_icmp_gt (tgt := 1151) hC.1 hC.2.1 (dLh.at 5 rfl).1 rfl (fun c0 => kend ?_ l G p e s m below meth c H locs ls hC hK hne hP hD hS hl) (fun c0 => kgo ?_ l G p e s m below meth c H locs ls hC hK hne hP hD hS hl)
  · rw [fa_lt, lx_6 hL] at c0; exact c0
  · rw [fa_lt, lx_6 hL] at c0; exact c0
theorem lx_switch (hin : vp_in i L) (hk : ∀ k, k < 31 → lx_ev b L xs i (lx_tg k) [] w) (ho : lx_ev b L xs i 1145 [] w) : lx_ev b L xs i 27 [] w := by
  intro l G p e s m below meth c H locs ls hC hK hne hP hD hS hl
  have hbl := hC.2.2.2.2.2.2.2.1
  refine lv_aload_n hC.1 hC.2.1 (dLh.at 6 rfl).1 rfl (lv_at hl 0 rfl) ?_
  refine lv_iload_n hC.1 hC.2.1 (dLh.at 7 rfl).1 rfl (lv_at hl 3 rfl) ?_
  refine va_sld hC.1 hC.2.1 hC.2.2.2.2.2.2.1 hbl (Nat.not_le.mpr hbl) hS hin (dLh.at 8 rfl).1 ?_
  refine lv_bipush (v := 31) hC.1 hC.2.1 (dLh.at 9 rfl).1 (by decide) ?_
  refine lv_iand hC.1 hC.2.1 (dLh.at 10 rfl).1 ?_
  obtain ⟨k, hk32, ek⟩ := lx_31 (xs i.toNatClampNeg)
  rw [ek]
  have ht : (nI k).toInt = (k : Int) := nI_toInt (by omega)
  by_cases h31 : k < 31
  · have h2 := lx_tg_ok k h31
    cases ho : lx_of[k]? with
    | none => rw [ho] at h2; cases h2
    | some off =>
      rw [ho] at h2
      have h3 : (33 : Int) + off = (lx_tg k : Int) := Option.some.inj h2
      exact lv_tableIn (tgt := lx_tg k) hC.1 hC.2.1 dLs (by rw [ht]; omega) (by rw [ht]; omega) (by rw [ht, Int.sub_zero, Int.toNat_natCast]; exact ho) h3 (hk k h31 l G p e s m below meth c H locs ls hC hK hne hP hD hS hl)
  · exact lv_tableOut (tgt := 1145) hC.1 hC.2.1 dLs (Or.inr (by rw [ht]; omega)) rfl (ho l G p e s m below meth c H locs ls hC hK hne hP hD hS hl)
theorem lx_next (k : lx_ev b L xs (i + 6) 18 [] w) : lx_ev b L xs i 1145 [] w := by
  intro l G p e s m below meth c H locs ls hC hK hne hP hD hS hl
  refine lv_iinc (v := i + 6) (lv' := [(3, .int (i + 6)), (0, .ref b), (1, .ref (G.2.1 0)), (2, .ref (G.2.1 48))]) hC.1 hC.2.1 (dLh.at 11 rfl).1 hl (k := 3) rfl rfl (by decide) rfl (fun ls2 hl2 => ?_)
  refine lv_goto (tgt := 18) hC.1 hC.2.1 (dLh.at 12 rfl).1 rfl ?_
  exact k l G p e s m below meth c H locs ls2 hC hK hne hP hD hS (lv_sub hl2 [1, 2, 3, 0] rfl)
theorem lx_end : lx_ev b L xs i 1151 [] w := by
  intro l G p e s m below meth c H locs ls hC hK hne hP hD hS hl
  refine lv_iconst (v := 1) hC.1 hC.2.1 (dLh.at 13 rfl).1 (by decide) ?_
  refine va_forget (fun q hq => hS.2.2 q hq) ?_
  refine W.widen (k := 600000) (n := 7302250) (Nat.le_of_ble_eq_true rfl) (Nat.le_of_ble_eq_true rfl) ?_
  exact lw_ret hC.1 hC.2.1 hC.2.2.1 hC.2.2.2.2.2.2.2.2.1 (dLh.at 14 rfl).1
theorem lx_case (h : lx_in i L) (hA : A < 100000) (hR : sa_R A w) (k : ∀ w2, sa_R (A + 8) w2 → lx_ev b L xs i 1145 [] w2) : ∀ n, n < 31 → lx_ev b L xs i (lx_tg n) [] w := by
  intro n hn
  match n, hn with
  | 0, _ => exact lc_0 h hA hR k
  | 1, _ => exact lc_1 h hA hR k
  | 2, _ => exact lc_2 h hA hR k
  | 3, _ => exact lc_3 h hA hR k
  | 4, _ => exact lc_4 h hA hR k
  | 5, _ => exact lc_5 h hA hR k
  | 6, _ => exact lc_6 h hA hR k
  | 7, _ => exact lc_7 h hA hR k
  | 8, _ => exact lc_8 h hA hR k
  | 9, _ => exact lc_9 h hA hR k
  | 10, _ => exact lc_10 h hA hR k
  | 11, _ => exact lc_11 h hA hR k
  | 12, _ => exact lc_12 h hA hR k
  | 13, _ => exact lc_13 h hA hR k
  | 14, _ => exact lc_14 h hA hR k
  | 15, _ => exact lc_15 h hA hR k
  | 16, _ => exact lc_16 h hA hR k
  | 17, _ => exact lc_17 h hA hR k
  | 18, _ => exact lc_18 h hA hR k
  | 19, _ => exact lc_19 h hA hR k
  | 20, _ => exact lc_20 h hA hR k
  | 21, _ => exact lc_21 h hA hR k
  | 22, _ => exact lc_22 h hA hR k
  | 23, _ => exact lc_23 h hA hR k
  | 24, _ => exact lc_24 h hA hR k
  | 25, _ => exact lc_25 h hA hR k
  | 26, _ => exact lc_26 h hA hR k
  | 27, _ => exact lc_27 h hA hR k
  | 28, _ => exact lc_28 h hA hR k
  | 29, _ => exact lc_29 h hA hR k
  | 30, _ => exact lc_30 h hA hR k
  | n + 31, h => omega
theorem sa_R.up {A' : Nat} (h : sa_R A w) (hA : A ≤ A') : sa_R A' w := by
  obtain ⟨S, a, h1, h2⟩ := h
  exact ⟨S, a, by omega, h2⟩
/-- the loop: from its head, t calls behind it -/
theorem lx_loop (hL : L ≤ 3072) : ∀ (n t : Nat), L < 6 * t + 6 * n + 6 → 6 * t ≤ L → ∀ w, sa_R (8 * t) w → lx_ev b L xs (nI (6 * t)) 18 [] w := by
  intro n
  induction n with
  | zero =>
    intro t h1 h2 w hR
    refine lx_head hL (fun _ => lx_end) (fun c => absurd ?_ c)
    rw [nI_toInt (by omega)]
    omega
  | succ n ih =>
    intro t h1 h2 w hR
    refine lx_head hL (fun _ => lx_end) (fun c => ?_)
    rw [nI_toInt (by omega)] at c
    have h6 : 6 * t + 6 ≤ L := by omega
    have hv : ∀ j, j < 6 → vp_in (nI (6 * t) + nI j) L := fun j hj => by rw [nI_add]; exact vp_in_nI (by omega) (by omega)
    have hin : lx_in (nI (6 * t)) L := ⟨vp_in_nI (by omega) (by omega), hv 1 (by decide), hv 2 (by decide), hv 3 (by decide), hv 4 (by decide), hv 5 (by decide)⟩
    have go : ∀ w2, sa_R (8 * t + 8) w2 → lx_ev b L xs (nI (6 * t)) 1145 [] w2 := fun w2 hR2 => by
      refine lx_next ?_
      rw [show nI (6 * t) + (6 : Int32) = nI (6 * (t + 1)) from nI_add (6 * t) 6]
      exact ih (t + 1) (by omega) (by omega) w2 (hR2.up (by omega))
    exact lx_switch hin.1 (lx_case hin (by omega) hR go) (go w (hR.up (by omega)))
end
