/-! ===== typing ===== -/
def tp_by (y : Int64) (k : Nat) : Nat := y.toBitVec.toNat / 2 ^ (8 * k) % 256
theorem tp_ofy (y : Int64) : y = lN y.toBitVec.toNat := wb_inj (by rw [wb_tb]; simp)
theorem tp_cby (y : Int64) {k : Nat} (hk : k < 8) : (y.toUInt64 >>> (((8 : Int32) * nI k).toInt64.toUInt64 &&& Int64.toUInt64 63)).toInt64.toInt32 &&& (255 : Int32) = nI (tp_by y k) := by
  have h := wb_shr (n := y.toBitVec.toNat) (k := 8 * k) y.toBitVec.isLt (by omega)
  rw [← tp_ofy y] at h
  rw [nI_8, h, lN_i, show (255 : Int32) = nI (2 ^ 8 - 1) from rfl, fa_and, Nat.and_two_pow_sub_one_eq_mod]
  rfl
theorem tp_mby (y : Int64) {k : Nat} (hk : k < 8) : (y >>> (((8 : Int32) * nI k).toInt64 &&& 63)) &&& lN 255 = lN (tp_by y k) := by
  rw [nI_8, wb_c (8 * k) (by omega)]
  apply wb_inj
  rw [Int64.toBitVec_and, Int64.toBitVec_shiftRight, wb_tb, wb_tb, wb_tb, wb_sm (8 * k) (by omega)]
  apply BitVec.eq_of_getLsbD_eq
  intro i hi
  have e1 : (BitVec.ofNat 64 (8 * k)).toNat = 8 * k := by rw [BitVec.toNat_ofNat, Nat.mod_eq_of_lt (by omega)]
  rw [BitVec.getLsbD_and]
  show ((y.toBitVec.sshiftRight (BitVec.ofNat 64 (8 * k)).toNat).getLsbD i && (BitVec.ofNat 64 255).getLsbD i) = _
  rw [e1, BitVec.getLsbD_sshiftRight, BitVec.getLsbD_ofNat, BitVec.getLsbD_ofNat, show (255 : Nat) = 2 ^ 8 - 1 from rfl, Nat.testBit_two_pow_sub_one]
  unfold tp_by
  rw [show (256 : Nat) = 2 ^ 8 from rfl, Nat.testBit_mod_two_pow, Nat.testBit_div_two_pow]
  by_cases h8 : i < 8
  · have c1 : 8 * k + i < 64 := by omega
    have c2 : ¬ 64 ≤ i := by omega
    have c3 : i + 8 * k < 64 := by omega
    simp [h8, hi, c2, c3, BitVec.getLsbD, Nat.add_comm]
  · simp [h8]
def tp_sg (y : Int64) (k : Nat) : Bool := decide (32 ≤ tp_by y k ∧ tp_by y k ≤ 126)
def tp_n8 (x : Int32) : Bool := decide (1 ≤ x.toInt ∧ x.toInt ≤ 8)
def tp_can (y : Int64) (x : Int32) : Bool := tp_n8 x && sz_all (tp_sg y) x.toNatClampNeg
theorem tp_n8_of {x : Int32} (h : tp_n8 x = true) : ∃ n : Nat, 1 ≤ n ∧ n ≤ 8 ∧ x = nI n := by
  have h1 : 1 ≤ x.toInt ∧ x.toInt ≤ 8 := by simpa [tp_n8] using h
  obtain ⟨n, hn, rfl⟩ := sz_in_of (x := x) (n := 9) (sz_in_iff.mpr ⟨by omega, by omega⟩) (by decide)
  have : (nI n).toInt = (n : Int) := nI_toInt (by omega)
  exact ⟨n, by omega, by omega, rfl⟩
/-- the tape with n signs more -/
def tp_app (T : Nat) (t : Nat → Nat) (y : Int64) (n : Nat) : Nat → Nat := fun i => if i < T then t i else tp_by y (n - 1 - (i - T))
section
variable {d : Nat} {w : sx_W} {T : Nat} {t : Nat → Nat}
theorem spTa_byteAt {y : Int64} {k : Nat} (hk : k < 8) : sx_de d rTa_byteAt [.long y, .int (nI k)] w (nI (tp_by y k)) 0 w := by
  intro Q z
  refine sx_met_of rfl rfl rfl rfl (bTa_byteAt_0 ?_)
  rw [tp_cby y hk]; exact z
theorem tp_by_lt (y : Int64) (k : Nat) : tp_by y k < 256 := Nat.mod_lt _ (by decide)
theorem spTa_canHold {y : Int64} {x : Int32} : sx_de (d + 1) rTa_canHold [.long y, .int x] w (sz_b (tp_can y x)) 0 w := by
  intro Q z
  have hi : (8 : Int32).toInt = 8 := rfl
  have h1 : (1 : Int32).toInt = 1 := rfl
  cases h8 : tp_n8 x with
  | false =>
    have hn : ¬ (1 ≤ x.toInt ∧ x.toInt ≤ 8) := by simpa [tp_n8] using h8
    have e : tp_can y x = false := by unfold tp_can; rw [h8]; rfl
    rw [e] at z
    refine sx_met_of rfl rfl rfl rfl (bTa_canHold_0 (fun _ => z) (fun c1 c2 => ?_) (fun _ _ => z))
    rw [fa_lt] at c1; rw [fa_le] at c2
    exact absurd ⟨by omega, by omega⟩ hn
  | true =>
    obtain ⟨n, hn1, hn8, rfl⟩ := tp_n8_of h8
    have hc : (nI n).toNatClampNeg = n := nI_clamp (by omega)
    have loop : ∀ k, k ≤ n → sz_all (tp_sg y) k = true → sx_ev (d + 1) rTa_canHold 15 [.long y, .null, .int (nI n), .int (nI k), .null] [] w Q := by
      refine sx_for n (fun ha => ?_) (fun k hk ih ha => ?_)
      · have e : tp_can y (nI n) = true := by unfold tp_can; rw [h8, hc, ha]; rfl
        rw [e] at z
        have c : nI n ≤ nI n := nI_le (Nat.le_refl _) (by omega)
        exact bTa_canHold_15 (f1 := 0) (fun _ => z) (fun x => absurd c x) (fun x => absurd c x) (fun x => absurd c x) (fun x => absurd c x)
      · have nn : ¬ nI n ≤ nI k := nI_ge hk (by omega)
        have hb := tp_by_lt y k
        cases hs : tp_sg y k with
        | true =>
          have h2 : 32 ≤ tp_by y k ∧ tp_by y k ≤ 126 := by simpa [tp_sg] using hs
          have c1 : ¬ nI (tp_by y k) < (32 : Int32) := by rw [show (32 : Int32) = nI 32 from rfl, nI_ltI (by omega) (by omega)]; omega
          have c2 : nI (tp_by y k) ≤ (126 : Int32) := by rw [show (126 : Int32) = nI 126 from rfl, nI_leI (by omega) (by omega)]; omega
          refine bTa_canHold_15 (fun x => absurd x nn) (fun _ => spTa_byteAt (by omega)) (fun _ x => absurd x c1) (fun _ _ _ => ?_) (fun _ _ x => absurd c2 x)
          rw [nI_1]; exact ih (by rw [sz_all, ha, hs]; rfl)
        | false =>
          have h2 : ¬ (32 ≤ tp_by y k ∧ tp_by y k ≤ 126) := by simpa [tp_sg] using hs
          have e : tp_can y (nI n) = false := by unfold tp_can; rw [hc, sz_all_no hk hs, Bool.and_false]
          rw [e] at z
          refine bTa_canHold_15 (fun x => absurd x nn) (fun _ => spTa_byteAt (by omega)) (fun _ _ => z) (fun _ c1 c2 => ?_) (fun _ _ _ => z)
          rw [show (32 : Int32) = nI 32 from rfl, nI_ltI (by omega) (by omega)] at c1
          rw [show (126 : Int32) = nI 126 from rfl, nI_leI (by omega) (by omega)] at c2
          exact absurd ⟨by omega, c2⟩ h2
    have g1 : ¬ nI n < (1 : Int32) := by rw [show (1 : Int32) = nI 1 from rfl, nI_ltI (by omega) (by omega)]; omega
    have g2 : nI n ≤ (8 : Int32) := by rw [show (8 : Int32) = nI 8 from rfl, nI_leI (by omega) (by omega)]; omega
    exact sx_met_of rfl rfl rfl rfl (bTa_canHold_0 (fun c => absurd c g1) (fun _ _ => loop 0 (Nat.zero_le _) rfl) (fun _ c => absurd g2 c))
theorem spTa_hasRoom {n : Nat} (hw : w.1 33 1 = nI T) (hT : T ≤ 100) (hn : n ≤ 8) : sx_de d rTa_hasRoom [.ref 33, .int (nI n)] w (sz_b (decide (T + n ≤ 100))) 0 w := by
  intro Q z
  have e : (100 : Int32) - w.1 33 1 = nI (100 - T) := by
    have : ∀ T, T ≤ 100 → (100 : Int32) - nI T = nI (100 - T) := by decide +kernel
    rw [hw]; exact this T hT
  refine sx_met_of rfl rfl rfl rfl (bTa_hasRoom_0 (fun c => ?_) (fun c => ?_))
  · rw [e, nI_ltI (by omega) (by omega)] at c
    rw [decide_eq_false (by omega)] at z; exact z
  · rw [e, nI_ltI (by omega) (by omega)] at c
    rw [decide_eq_true (by omega)] at z; exact z
theorem tp_app_step {y : Int64} {n i : Nat} (hi : i < n) : tp_app T t y n (T + i) = tp_by y (n - 1 - i) := by
  unfold tp_app
  rw [if_neg (by omega)]
  congr 1
  omega
theorem tp_app_ok {y : Int64} {n i : Nat} (h : tp_b T t) (hs : sz_all (tp_sg y) n = true) (hi : i < T + n) : 32 ≤ tp_app T t y n i ∧ tp_app T t y n i ≤ 126 := by
  unfold tp_app
  by_cases c : i < T
  · rw [if_pos c]; exact h.2 i c
  · rw [if_neg c]
    have := sz_all_iff.mp hs (n - 1 - (i - T)) (by omega)
    simpa [tp_sg] using this
theorem spTa_append {y : Int64} {n : Nat} (h : tp_T 33 1 34 T t w) (hn : n ≤ 8) (h1 : 1 ≤ n) (hr : T + n ≤ 100) (hs : sz_all (tp_sg y) n = true) : sx_x (d + 1) rTa_append [.ref 33, .long y, .int (nI n)] w (fun f fl w' => f = 0 ∧ fl = 0 ∧ tp_T 33 1 34 (T + n) (tp_app T t y n) w' ∧ sg_fr [33, 34] w w' ∧ ∀ j, j ≠ 1 → w'.1 33 j = w.1 33 j) := by
  have loop : ∀ i, i ≤ n → ∀ u, u.1 33 1 = nI (T + i) → (∀ j, j < T + i → u.1 34 j = nI (tp_app T t y n j)) → sg_fr [33, 34] w u → (∀ j, j ≠ 1 → u.1 33 j = w.1 33 j) → sx_xe (d + 1) rTa_append 5 [.ref 33, .long y, .null, .null, .int (nI n - 1 - nI i)] u (fun f fl w' => f = 0 ∧ fl = 0 ∧ tp_T 33 1 34 (T + n) (tp_app T t y n) w' ∧ sg_fr [33, 34] w w' ∧ ∀ j, j ≠ 1 → w'.1 33 j = w.1 33 j) := by
    have em : ∀ n, n ≤ 8 → ∀ i, i < n → nI n - 1 - nI i = nI (n - 1 - i) := by decide +kernel
    have en : ∀ n, n ≤ 8 → nI n - 1 - nI n < 0 := by decide +kernel
    have ep : ∀ n, n ≤ 8 → ∀ i, i < n → nI n - 1 - nI i + (-1) = nI n - 1 - nI (i + 1) := by decide +kernel
    refine sx_for n (fun u h1u hu hf hj => ?_) (fun i hi ih u h1u hu hf hj => ?_)
    · have c := en n hn
      exact ⟨0, 0, u, fun Q z => bTa_append_5 (f1 := 0) (fun _ => z) (fun x => absurd c x) (fun x => absurd c x) (fun x => absurd c x) (fun x => absurd c x), rfl, rfl, ⟨h1u, hr, fun j hj2 => ⟨hu j hj2, tp_app_ok h.b hs hj2⟩⟩, hf, hj⟩
    · have e := em n hn i hi
      have c : ¬ nI n - 1 - nI i < 0 := by rw [e]; exact nI_pos (by omega)
      have c2 : ¬ (100 : Int32) ≤ u.1 33 1 := by rw [h1u]; exact nI_ge (b := 100) (by omega) (by omega)
      have m1 := spTa_byteAt (d := d) (w := u) (y := y) (k := n - 1 - i) (by omega)
      rw [← e] at m1
      have hc : (nI (T + i)).toNatClampNeg = T + i := nI_clamp (by omega)
      obtain ⟨f, fl, w', hev, hpost⟩ := ih (sx_u (sx_u u.1 34 (T + i) (nI (tp_by y (n - 1 - i)))) 33 1 (nI (T + (i + 1))), u.2) (by
        show sx_u (sx_u u.1 34 (T + i) (nI (tp_by y (n - 1 - i)))) 33 1 (nI (T + (i + 1))) 33 1 = _
        rw [sx_u_s, if_pos rfl]) (fun j hj2 => by
        show sx_u (sx_u u.1 34 (T + i) (nI (tp_by y (n - 1 - i)))) 33 1 (nI (T + (i + 1))) 34 j = _
        rw [sx_u_o (by decide), sx_u_s]
        by_cases ej : j = T + i
        · rw [if_pos ej, ej, tp_app_step hi]
        · rw [if_neg ej]; exact hu j (by omega)) (hf.trans (fun a ha => ⟨by
        simp only [List.mem_cons, List.not_mem_nil, or_false, not_or] at ha
        show sx_u (sx_u u.1 34 (T + i) (nI (tp_by y (n - 1 - i)))) 33 1 (nI (T + (i + 1))) a = u.1 a
        rw [sx_u_o ha.1, sx_u_o ha.2], rfl⟩)) (fun j hj2 => by
        show sx_u (sx_u u.1 34 (T + i) (nI (tp_by y (n - 1 - i)))) 33 1 (nI (T + (i + 1))) 33 j = _
        rw [sx_u_s, if_neg hj2, sx_u_o (by decide)]; exact hj j hj2)
      refine ⟨f, fl, w', fun Q z => bTa_append_5 (fun x => absurd x c) (fun _ x => absurd x c2) (fun _ _ => m1) (fun _ _ => by rw [h1u]; exact vp_in_nI (by omega) (by decide)) (fun _ _ => ?_), hpost⟩
      rw [h1u, hc, nI_1, ep n hn i hi]; exact hev Q z
  obtain ⟨f, fl, w', hev, hpost⟩ := loop 0 (Nat.zero_le _) w h.1 (fun j hj => by rw [(h.2.2 j hj).1]; congr 1; unfold tp_app; rw [if_pos (show j < T from hj)]) sg_fr.rfl' (fun _ _ => rfl)
  refine ⟨f, fl, w', fun Q z => sx_met_of rfl rfl rfl rfl (bTa_append_0 ?_), hpost⟩
  have := hev Q z
  rw [show nI n - 1 - nI 0 = nI n - 1 from Int32.sub_zero _] at this
  exact this
theorem spSb_type {y : Int64} {x : Int32} (h : tp_T 33 1 34 T t w) : sx_x (d + 2) rSb_type [.ref 0, .long y, .int x] w (fun f fl w' => fl = 0 ∧ f = (if tp_can y x then (if T + x.toNatClampNeg ≤ 100 then nI (T + x.toNatClampNeg) else -3) else -1) ∧ tp_T 33 1 34 (if tp_can y x ∧ T + x.toNatClampNeg ≤ 100 then T + x.toNatClampNeg else T) (if tp_can y x ∧ T + x.toNatClampNeg ≤ 100 then tp_app T t y x.toNatClampNeg else t) w' ∧ sg_fr [33, 34] w w' ∧ ∀ j, j ≠ 1 → w'.1 33 j = w.1 33 j) := by
  have m1 := spTa_canHold (d := d) (w := w) (y := y) (x := x)
  cases hc : tp_can y x with
  | false =>
    rw [hc] at m1
    refine ⟨-1, 0, w, fun Q z => sx_met_of rfl rfl rfl rfl (bSb_type_0 (f2 := 0) (w3 := w) m1 (fun c => absurd rfl c) (fun c => absurd rfl c) (fun c => absurd rfl c) (fun c => absurd rfl c) (fun _ => z)), rfl, rfl, ?_, sg_fr.rfl', fun _ _ => rfl⟩
    rw [if_neg (fun c => absurd c.1 Bool.false_ne_true), if_neg (fun c => absurd c.1 Bool.false_ne_true)]; exact h
  | true =>
    rw [hc] at m1
    have y1 : ¬ sz_b true = 0 := by decide
    unfold tp_can at hc
    rw [Bool.and_eq_true] at hc
    obtain ⟨n, hn1, hn8, rfl⟩ := tp_n8_of hc.1
    rw [nI_clamp (by omega)] at hc ⊢
    have m2 := spTa_hasRoom (d := d + 1) (n := n) h.1 h.2.1 hn8
    by_cases hr : T + n ≤ 100
    · rw [decide_eq_true hr] at m2
      obtain ⟨f, fl, w3, m3, rfl, rfl, p1, p2, p3⟩ := spTa_append (d := d) (y := y) h hn8 hn1 hr hc.2
      refine ⟨_, 0, w3, fun Q z => sx_met_of rfl rfl rfl rfl (bSb_type_0 m1 (fun _ => m2) (fun _ _ => m3) (fun _ _ => z) (fun _ c => absurd c y1) (fun c => absurd c y1)), rfl, ?_, ?_, p2, p3⟩
      · rw [if_pos rfl, if_pos hr]; exact p1.1
      · rw [if_pos ⟨rfl, hr⟩, if_pos ⟨rfl, hr⟩]; exact p1
    · rw [decide_eq_false hr] at m2
      refine ⟨-3, 0, w, fun Q z => sx_met_of rfl rfl rfl rfl (bSb_type_0 (w3 := w) m1 (fun _ => m2) (fun _ c => absurd rfl c) (fun _ c => absurd rfl c) (fun _ _ => z) (fun c => absurd c y1)), rfl, ?_, ?_, sg_fr.rfl', fun _ _ => rfl⟩
      · rw [if_pos rfl, if_neg hr]
      · rw [if_neg (fun c => hr c.2), if_neg (fun c => hr c.2)]; exact h
theorem spMo_type {y : Int64} {x : Int32} (h : tp_T 48 14 58 T t w) : sx_x (d + 1) rMo_type [.ref 48, .long y, .int x] w (fun f fl w' => fl = 0 ∧ f = (if tp_can y x then (if T + x.toNatClampNeg ≤ 100 then nI (T + x.toNatClampNeg) else -3) else -1) ∧ tp_T 48 14 58 (if tp_can y x ∧ T + x.toNatClampNeg ≤ 100 then T + x.toNatClampNeg else T) (if tp_can y x ∧ T + x.toNatClampNeg ≤ 100 then tp_app T t y x.toNatClampNeg else t) w' ∧ tp_Fm [14] [58] w w') := by
  have rflF : tp_Fm [14] [58] w w := ⟨sg_fr.rfl', fun _ _ => rfl⟩
  have m1 := spMo_in (d := d) (w := w) (x := x.toInt64) (y := (1 : Int64)) (z := lN 8)
  have e8 : decide ((1 : Int64).toInt ≤ x.toInt64.toInt ∧ x.toInt64.toInt ≤ (lN 8).toInt) = tp_n8 x := by
    rw [Int32.toInt_toInt64]; rfl
  rw [e8] at m1
  cases h8 : tp_n8 x with
  | false =>
    rw [h8] at m1
    have e : tp_can y x = false := by unfold tp_can; rw [h8]; rfl
    rw [e]
    refine ⟨-1, 0, w, fun Q z => sx_met_of rfl rfl rfl rfl (bMo_type_0 m1 (fun c => absurd rfl c) (fun _ => z)), rfl, rfl, ?_, rflF⟩
    rw [if_neg (fun c => absurd c.1 Bool.false_ne_true), if_neg (fun c => absurd c.1 Bool.false_ne_true)]; exact h
  | true =>
    rw [h8] at m1
    have y1 : ¬ sz_b true = 0 := by decide
    obtain ⟨n, hn1, hn8, rfl⟩ := tp_n8_of h8
    have ecan : tp_can y (nI n) = sz_all (tp_sg y) n := by unfold tp_can; rw [h8, nI_clamp (by omega)]; rfl
    rw [ecan, nI_clamp (by omega)]
    have hT := h.2.1
    -- the signs are put
    have em : ∀ n, n ≤ 8 → ∀ i, i < n → nI n - 1 - nI i = nI (n - 1 - i) := by decide +kernel
    have en : ∀ n, n ≤ 8 → nI n - 1 - nI n < 0 := by decide +kernel
    have ep : ∀ n, n ≤ 8 → ∀ i, i < n → nI n - 1 - nI i + (-1) = nI n - 1 - nI (i + 1) := by decide +kernel
    have put : sz_all (tp_sg y) n = true → T + n ≤ 100 → ∀ i, i ≤ n → ∀ u, u.1 48 14 = nI (T + i) → (∀ j, j < T + i → u.1 58 j = nI (tp_app T t y n j)) → tp_Fm [14] [58] w u → sx_xe (d + 1) rMo_type 73 [.ref 48, .long y, .null, .null, .int (nI n - 1 - nI i)] u (fun f fl w' => fl = 0 ∧ f = nI (T + n) ∧ tp_T 48 14 58 (T + n) (tp_app T t y n) w' ∧ tp_Fm [14] [58] w w') := by
      intro hs hr
      refine sx_for n (fun u h1u hu hf => ?_) (fun i hi ih u h1u hu hf => ?_)
      · have c := en n hn8
        exact ⟨_, 0, u, fun Q z => bMo_type_73 (fun _ => z) (fun x => absurd c x) (fun x => absurd c x), rfl, h1u, ⟨h1u, hr, fun j hj2 => ⟨hu j hj2, tp_app_ok h.b hs hj2⟩⟩, hf⟩
      · have e := em n hn8 i hi
        have c : ¬ nI n - 1 - nI i < 0 := by rw [e]; exact nI_pos (by omega)
        have hc : (nI (T + i)).toNatClampNeg = T + i := nI_clamp (by omega)
        have hby := tp_by_lt y (n - 1 - i)
        obtain ⟨f, fl, w', hev, hpost⟩ := ih (sx_u (sx_u u.1 58 (T + i) (nI (tp_by y (n - 1 - i)))) 48 14 (nI (T + (i + 1))), u.2) (by
          show sx_u (sx_u u.1 58 (T + i) (nI (tp_by y (n - 1 - i)))) 48 14 (nI (T + (i + 1))) 48 14 = _
          rw [sx_u_s, if_pos rfl]) (fun j hj2 => by
          show sx_u (sx_u u.1 58 (T + i) (nI (tp_by y (n - 1 - i)))) 48 14 (nI (T + (i + 1))) 58 j = _
          rw [sx_u_o (by decide), sx_u_s]
          by_cases ej : j = T + i
          · rw [if_pos ej, ej, tp_app_step hi]
          · rw [if_neg ej]; exact hu j (by omega)) (hf.trans (tp_Fm.trans (tp_Fm.c (c := 58) (i := T + i) (v := nI (tp_by y (n - 1 - i))) (by decide) (by decide)) (tp_Fm.u (w := (sx_u u.1 58 (T + i) (nI (tp_by y (n - 1 - i))), u.2)) (i := 14) (v := nI (T + (i + 1))) (by decide))))
        refine ⟨f, fl, w', fun Q z => bMo_type_73 (fun x => absurd x c) (fun _ => by rw [h1u]; exact vp_in_nI (by omega) (by decide)) (fun _ => ?_), hpost⟩
        rw [ep n hn8 i hi, e, tp_mby y (by omega), lN_i, h1u, hc, nI_1]; exact hev Q z
    have loop : ∀ k, k ≤ n → sz_all (tp_sg y) k = true → sx_xe (d + 1) rMo_type 17 [.ref 48, .long y, .null, .int (nI n), .int (nI k)] w (fun f fl w' => fl = 0 ∧ f = (if sz_all (tp_sg y) n then (if T + n ≤ 100 then nI (T + n) else -3) else -1) ∧ tp_T 48 14 58 (if sz_all (tp_sg y) n ∧ T + n ≤ 100 then T + n else T) (if sz_all (tp_sg y) n ∧ T + n ≤ 100 then tp_app T t y n else t) w' ∧ tp_Fm [14] [58] w w') := by
      refine sx_for n (fun ha => ?_) (fun k hk ih ha => ?_)
      · have c : ¬ ¬ nI n ≤ nI n := fun c => c (nI_le (Nat.le_refl _) (by omega))
        have es : (w.1 48 14) + nI n = nI (T + n) := by rw [h.1, nI_add]
        by_cases hr : T + n ≤ 100
        · have c2 : (w.1 48 14) + nI n ≤ (100 : Int32) := by rw [es]; exact nI_le (b := 100) hr (by omega)
          rw [ha, if_pos rfl, if_pos hr, if_pos ⟨rfl, hr⟩, if_pos ⟨rfl, hr⟩]
          obtain ⟨f, fl, w', hev, hpost⟩ := put ha hr 0 (Nat.zero_le _) w h.1 (fun j hj => by rw [(h.2.2 j hj).1]; congr 1; unfold tp_app; rw [if_pos (show j < T from hj)]) rflF
          refine ⟨f, fl, w', fun Q z => bMo_type_17 (f1 := 0) (fun _ _ => ?_) (fun _ x => absurd c2 x) (fun x => absurd x c) (fun x => absurd x c) (fun x => absurd x c), hpost⟩
          have := hev Q z
          rw [show nI n - 1 - nI 0 = nI n - 1 from Int32.sub_zero _] at this
          exact this
        · have c2 : ¬ (w.1 48 14) + nI n ≤ (100 : Int32) := by rw [es]; exact nI_ge (a := 100) (by omega) (by omega)
          rw [ha, if_pos rfl, if_neg hr, if_neg (fun c => hr c.2), if_neg (fun c => hr c.2)]
          exact ⟨-3, 0, w, fun Q z => bMo_type_17 (f1 := 0) (fun _ x => absurd x c2) (fun _ _ => z) (fun x => absurd x c) (fun x => absurd x c) (fun x => absurd x c), rfl, rfl, h, rflF⟩
      · have nn : ¬ nI n ≤ nI k := nI_ge hk (by omega)
        have hb := tp_by_lt y k
        have m2 := spMo_in (d := d) (w := w) (x := (y >>> (((8 : Int32) * nI k).toInt64 &&& 63)) &&& lN 255) (y := lN 32) (z := lN 126)
        have es : decide ((lN 32).toInt ≤ ((y >>> (((8 : Int32) * nI k).toInt64 &&& 63)) &&& lN 255).toInt ∧ ((y >>> (((8 : Int32) * nI k).toInt64 &&& 63)) &&& lN 255).toInt ≤ (lN 126).toInt) = tp_sg y k := by
          rw [tp_mby y (by omega), lN_toInt (by omega), lN_toInt (by omega), lN_toInt (by omega)]
          unfold tp_sg
          apply decide_eq_decide.mpr
          omega
        rw [es] at m2
        cases hs : tp_sg y k with
        | true =>
          rw [hs] at m2
          obtain ⟨f, fl, w', hev, hpost⟩ := ih (by rw [sz_all, ha, hs]; rfl)
          refine ⟨f, fl, w', fun Q z => bMo_type_17 (fun x => absurd x nn) (fun x => absurd x nn) (fun _ => m2) (fun _ _ => ?_) (fun _ x => absurd x y1), hpost⟩
          rw [nI_1]; exact hev Q z
        | false =>
          rw [hs] at m2
          rw [sz_all_no hk hs, if_neg Bool.false_ne_true, if_neg (fun c => absurd c.1 Bool.false_ne_true), if_neg (fun c => absurd c.1 Bool.false_ne_true)]
          exact ⟨-1, 0, w, fun Q z => bMo_type_17 (fun x => absurd x nn) (fun x => absurd x nn) (fun _ => m2) (fun _ x => absurd rfl x) (fun _ _ => z), rfl, rfl, h, rflF⟩
    obtain ⟨f, fl, w', hev, hpost⟩ := loop 0 (Nat.zero_le _) rfl
    exact ⟨f, fl, w', fun Q z => sx_met_of rfl rfl rfl rfl (bMo_type_0 m1 (fun _ => hev Q z) (fun c => absurd c y1)), hpost⟩
end
