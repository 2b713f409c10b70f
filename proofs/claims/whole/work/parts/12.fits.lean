/-! ===== the model's fits, wrongBy, isGood ===== -/
def sz_all (f : Nat → Bool) : Nat → Bool
  | 0 => true
  | n + 1 => sz_all f n && f n
theorem sz_all_iff {f : Nat → Bool} : ∀ {n : Nat}, sz_all f n = true ↔ ∀ i, i < n → f i = true
  | 0 => by simp [sz_all]
  | n + 1 => by
    rw [sz_all, Bool.and_eq_true, sz_all_iff (n := n)]
    constructor
    · intro h i hi
      by_cases e : i = n
      · rw [e]; exact h.2
      · exact h.1 i (by omega)
    · intro h
      exact ⟨fun i hi => h i (by omega), h n (by omega)⟩
theorem sz_all_no {f : Nat → Bool} {n k : Nat} (hk : k < n) (h : f k = false) : sz_all f n = false := by
  cases e : sz_all f n with
  | false => rfl
  | true => rw [sz_all_iff.mp e k hk] at h; cases h
def sg_ct (L : sg_L) (ρ : Nat → Nat) (m p : Nat) : Nat := fb_ct (fun l => (sg_sl L l (ρ l)).testBit p) m
def sg_qu (L : sg_L) (l n : Nat) : Bool := (L.2.1 l == 2 && L.2.1 n == 3) || (L.2.1 l == 3 && L.2.1 n == 2)
def sg_fP (L : sg_L) (b : Nat) (ρ : Nat → Nat) (n p : Nat) : Bool := !(sg_sl L n (ρ n)).testBit p || decide (sg_ct L ρ (n + 1) p ≤ b)
def sg_fQ (L : sg_L) (ρ : Nat → Nat) (n l : Nat) : Bool := !sg_qu L l n || (sg_sl L l (ρ l) &&& sg_sl L n (ρ n)) == 0
def sg_fit (L : sg_L) (b : Nat) (ρ : Nat → Nat) (n : Nat) : Bool := sg_may L n (ρ n) && (sz_all (sg_fP L b ρ n) 8 && sz_all (sg_fQ L ρ n) n)
section
variable {d : Nat} {w : sx_W} {L : sg_L}
theorem spMo_fits_53 {ρ : Nat → Nat} {n b : Nat} (h : sg_M L w) (hb : w.1 48 6 = nI b) (hb7 : b ≤ 7) (hn : n < L.1) (hρ : ∀ l, l ≤ n → w.1 53 l = nI (ρ l) ∧ ρ l < 8) : sx_de (d + 1) rMo_fits [.ref 48, .ref 53, .int (nI n)] w (sz_b (sg_fit L b ρ n)) 0 w := by
  intro Q q
  have h0 := h
  obtain ⟨⟨h7, hr⟩, hcn, hv⟩ := h
  have cl : ∀ l, l ≤ n → (nI l).toNatClampNeg = l := fun l hl => nI_clamp (by omega)
  have hi : ∀ l, l ≤ n → vp_in (nI l) 7 := fun l hl => vp_in_nI (by omega) (by decide)
  have hkd : ∀ l, l ≤ n → w.1 49 (nI l).toNatClampNeg = nI (L.2.1 l) := fun l hl => by rw [cl l hl]; exact (hv l (by omega)).1
  have k2 : ∀ l, l ≤ n → (nI (L.2.1 l) = (2 : Int32) ↔ L.2.1 l = 2) := fun l hl => by rw [show (2 : Int32) = nI 2 from rfl]; exact nI_eq (by have := (hr l (by omega)).1; omega) (by omega)
  have k3 : ∀ l, l ≤ n → (nI (L.2.1 l) = (3 : Int32) ↔ L.2.1 l = 3) := fun l hl => by rw [show (3 : Int32) = nI 3 from rfl]; exact nI_eq (by have := (hr l (by omega)).1; omega) (by omega)
  have slp : ∀ l, l ≤ n → sx_de d rMo_sleep [.ref 48, .int (nI l), .int (w.1 53 (nI l).toNatClampNeg)] w (nI (sg_sl L l (ρ l))) 0 w := fun l hl => by
    rw [cl l hl, (hρ l hl).1]
    exact spMo_sleep h0 (by omega) (hρ l hl).2
  have own := sg_sl_lt L n (ρ n)
  have e : (nI (sg_sl L n (ρ n)) &&& w.1 51 (nI n).toNatClampNeg = 0) ↔ sg_may L n (ρ n) = true := by
    rw [cl n (Nat.le_refl n), (hv n hn).2.2, sz_and0 (by omega)]
    simp [sg_may]
  refine sx_met_of rfl rfl rfl rfl (bMo_fits_53_0 (hi n (Nat.le_refl n)) (slp n (Nat.le_refl n)) (fun c => ?_) (fun c => ?_))
  · have hm := e.mp c
    -- the third loop
    have third : sz_all (sg_fP L b ρ n) 8 = true → sx_ev (d + 1) rMo_fits 105 [.ref 48, .ref 53, .int (nI n), .int (nI (sg_sl L n (ρ n))), .int (nI 0), .null, .null] [] w Q := by
      intro hall
      refine sx_for (P := fun l => sz_all (sg_fQ L ρ n) l = true → sx_ev (d + 1) rMo_fits 105 [.ref 48, .ref 53, .int (nI n), .int (nI (sg_sl L n (ρ n))), .int (nI l), .null, .null] [] w Q) n (fun ha => ?_) (fun l hl ih ha => ?_) 0 (Nat.zero_le _) rfl
      · have q1 : Q 1 0 w := by
          have : sg_fit L b ρ n = true := by simp [sg_fit, hm, hall, ha]
          rw [this] at q; exact q
        have nc : ¬ ¬ nI n ≤ nI n := fun c => c (nI_le (Nat.le_refl _) (by omega))
        exact bMo_fits_53_105 (f1 := 0) (f2 := 0) (fun _ => q1) (fun c => absurd c nc) (fun c => absurd c nc) (fun c => absurd c nc) (fun c => absurd c nc) (fun c => absurd c nc) (fun c => absurd c nc) (fun c => absurd c nc) (fun c => absurd c nc) (fun c => absurd c nc) (fun c => absurd c nc) (fun c => absurd c nc) (fun c => absurd c nc)
      · have nx : sg_fQ L ρ n l = true → sx_ev (d + 1) rMo_fits 105 [.ref 48, .ref 53, .int (nI n), .int (nI (sg_sl L n (ρ n))), .int (nI l + 1), .null, .null] [] w Q := fun hf => by
          rw [nI_1]
          exact ih (by rw [sz_all, ha, hf]; rfl)
        have q0 : sg_fQ L ρ n l = false → Q 0 0 w := fun hf => by
          have : sg_fit L b ρ n = false := by simp [sg_fit, sz_all_no hl hf]
          rw [this] at q; exact q
        have ad : (nI (sg_sl L l (ρ l)) &&& nI (sg_sl L n (ρ n)) = 0) ↔ (sg_sl L l (ρ l) &&& sg_sl L n (ρ n)) = 0 := sz_and0 (by have := sg_sl_lt L l (ρ l); omega)
        have hl' : l ≤ n := by omega
        refine bMo_fits_53_105 (fun c => absurd c (nI_ge hl (by omega))) (fun _ => hi l hl') (fun _ c1 c2 => ?_) (fun _ _ _ => hi n (Nat.le_refl n)) (fun _ c1 c2 c3 => ?_) (fun _ _ _ _ => slp l hl') (fun _ c1 c2 c3 c4 => ?_) (fun _ c1 c2 c3 c4 => ?_) (fun _ _ => hi n (Nat.le_refl n)) (fun _ _ _ => slp l hl') (fun _ c1 c2 c3 => ?_) (fun _ c1 c2 c3 => ?_) (fun _ c1 c2 => ?_)
        · rw [hkd l hl', k2 l hl'] at c1
          rw [hkd l hl', k3 l hl'] at c2
          exact nx (by simp [sg_fQ, sg_qu, c1, c2])
        · rw [hkd l hl', k3 l hl'] at c2
          rw [hkd n (Nat.le_refl n), k2 n (Nat.le_refl n)] at c3
          exact nx (by simp [sg_fQ, sg_qu, c2, c3])
        · exact nx (by simp [sg_fQ, ad.mp c4])
        · rw [hkd l hl', k3 l hl'] at c2
          rw [hkd n (Nat.le_refl n), k2 n (Nat.le_refl n)] at c3
          rw [ad] at c4
          exact q0 (by simp [sg_fQ, sg_qu, c2, c3, c4])
        · exact nx (by simp [sg_fQ, ad.mp c3])
        · rw [hkd l hl', k2 l hl'] at c1
          rw [hkd n (Nat.le_refl n), k3 n (Nat.le_refl n)] at c2
          rw [ad] at c3
          exact q0 (by simp [sg_fQ, sg_qu, c1, c2, c3])
        · rw [hkd l hl', k2 l hl'] at c1
          rw [hkd n (Nat.le_refl n), k3 n (Nat.le_refl n)] at c2
          exact nx (by simp [sg_fQ, sg_qu, c1, c2])
    refine sx_for (P := fun p => sz_all (sg_fP L b ρ n) p = true → sx_ev (d + 1) rMo_fits 25 [.ref 48, .ref 53, .int (nI n), .int (nI (sg_sl L n (ρ n))), .int (nI p), .null, .null] [] w Q) 8 (fun ha => ?_) (fun p hp ih ha => ?_) 0 (Nat.zero_le _) rfl
    · exact bMo_fits_53_25 (fun _ => third ha) (fun c => absurd (by decide) c)
    · refine bMo_fits_53_25 (fun c => absurd c (nI_ge (b := 8) hp (by omega))) (fun _ => ?_)
      rw [sz_bit (by omega) (by omega)]
      have bo : sg_sl L n (ρ n) / 2 ^ p % 2 < 2 := Nat.mod_lt _ (by decide)
      have tb : (sg_sl L n (ρ n)).testBit p = decide (sg_sl L n (ρ n) / 2 ^ p % 2 = 1) := Nat.testBit_eq_decide_div_mod_eq
      have ctn : sg_ct L ρ (n + 1) p = sg_ct L ρ n p + sg_sl L n (ρ n) / 2 ^ p % 2 := by
        rw [sg_ct, fb_ct_succ, tb]
        by_cases h1 : sg_sl L n (ρ n) / 2 ^ p % 2 = 1
        · simp [h1, sg_ct]
        · have : sg_sl L n (ρ n) / 2 ^ p % 2 = 0 := by omega
          simp [this, sg_ct]
      have cle : ∀ m, sg_ct L ρ m p ≤ m := fun m => fb_ct_le _ m
      refine sx_for (P := fun l => sx_ev (d + 1) rMo_fits 43 [.ref 48, .ref 53, .int (nI n), .int (nI (sg_sl L n (ρ n))), .int (nI p), .int (nI (sg_sl L n (ρ n) / 2 ^ p % 2 + sg_ct L ρ l p)), .int (nI l)] [] w Q) n ?_ (fun l hl ih2 => ?_) 0 (Nat.zero_le _)
      · have nc : ¬ ¬ nI n ≤ nI n := fun c => c (nI_le (Nat.le_refl _) (by omega))
        have hle : (nI (sg_sl L n (ρ n) / 2 ^ p % 2 + sg_ct L ρ n p) ≤ w.1 48 6) ↔ sg_ct L ρ (n + 1) p ≤ b := by
          rw [hb, nI_leI (by have := cle n; omega) (by omega), ctn]
          omega
        have nx : sg_fP L b ρ n p = true → sx_ev (d + 1) rMo_fits 25 [.ref 48, .ref 53, .int (nI n), .int (nI (sg_sl L n (ρ n))), .int (nI p + 1), .null, .null] [] w Q := fun hf => by
          rw [nI_1]
          exact ih (by rw [sz_all, ha, hf]; rfl)
        refine bMo_fits_53_43 (f1 := 0) (fun _ c1 => ?_) (fun _ c1 c2 => ?_) (fun _ c1 c2 => ?_) (fun c => absurd c nc) (fun c => absurd c nc) (fun c => absurd c nc)
        · exact nx (by simp [sg_fP, hle.mp c1])
        · rw [sz_bit (by omega) (by omega), show (1 : Int32) = nI 1 from rfl, nI_eq (by omega) (by omega)] at c2
          exact nx (by simp [sg_fP, tb, c2])
        · rw [sz_bit (by omega) (by omega), show (1 : Int32) = nI 1 from rfl, nI_eq (by omega) (by omega)] at c2
          rw [hle] at c1
          have : sg_fit L b ρ n = false := by
            have hf : sg_fP L b ρ n p = false := by simp [sg_fP, tb, c2, c1]
            simp [sg_fit, sz_all_no hp hf]
          rw [this] at q; exact q
      · have nl : ¬ nI n ≤ nI l := nI_ge hl (by omega)
        refine bMo_fits_53_43 (fun c => absurd c nl) (fun c => absurd c nl) (fun c => absurd c nl) (fun _ => hi l (by omega)) (fun _ => slp l (by omega)) (fun _ => ?_)
        rw [sz_bit (by have := sg_sl_lt L l (ρ l); omega) (by omega), nI_add, nI_1]
        have e2 : sg_ct L ρ (l + 1) p = sg_ct L ρ l p + sg_sl L l (ρ l) / 2 ^ p % 2 := by
          have tb2 : (sg_sl L l (ρ l)).testBit p = decide (sg_sl L l (ρ l) / 2 ^ p % 2 = 1) := Nat.testBit_eq_decide_div_mod_eq
          have := Nat.mod_lt (sg_sl L l (ρ l) / 2 ^ p) (show 0 < 2 by decide)
          rw [sg_ct, fb_ct_succ, tb2]
          by_cases h1 : sg_sl L l (ρ l) / 2 ^ p % 2 = 1
          · simp [h1, sg_ct]
          · have : sg_sl L l (ρ l) / 2 ^ p % 2 = 0 := by omega
            simp [this, sg_ct]
        rw [e2, ← Nat.add_assoc] at ih2
        exact ih2
  · have : sg_fit L b ρ n = false := by
      have : sg_may L n (ρ n) = false := by rw [e] at c; simpa using c
      simp [sg_fit, this]
    rw [this] at q; exact q
theorem spMo_fits_52 {ρ : Nat → Nat} {n b : Nat} (h : sg_M L w) (hb : w.1 48 6 = nI b) (hb7 : b ≤ 7) (hn : n < L.1) (hρ : ∀ l, l ≤ n → w.1 52 l = nI (ρ l) ∧ ρ l < 8) : sx_de (d + 1) rMo_fits [.ref 48, .ref 52, .int (nI n)] w (sz_b (sg_fit L b ρ n)) 0 w := by
  intro Q q
  have h0 := h
  obtain ⟨⟨h7, hr⟩, hcn, hv⟩ := h
  have cl : ∀ l, l ≤ n → (nI l).toNatClampNeg = l := fun l hl => nI_clamp (by omega)
  have hi : ∀ l, l ≤ n → vp_in (nI l) 7 := fun l hl => vp_in_nI (by omega) (by decide)
  have hkd : ∀ l, l ≤ n → w.1 49 (nI l).toNatClampNeg = nI (L.2.1 l) := fun l hl => by rw [cl l hl]; exact (hv l (by omega)).1
  have k2 : ∀ l, l ≤ n → (nI (L.2.1 l) = (2 : Int32) ↔ L.2.1 l = 2) := fun l hl => by rw [show (2 : Int32) = nI 2 from rfl]; exact nI_eq (by have := (hr l (by omega)).1; omega) (by omega)
  have k3 : ∀ l, l ≤ n → (nI (L.2.1 l) = (3 : Int32) ↔ L.2.1 l = 3) := fun l hl => by rw [show (3 : Int32) = nI 3 from rfl]; exact nI_eq (by have := (hr l (by omega)).1; omega) (by omega)
  have slp : ∀ l, l ≤ n → sx_de d rMo_sleep [.ref 48, .int (nI l), .int (w.1 52 (nI l).toNatClampNeg)] w (nI (sg_sl L l (ρ l))) 0 w := fun l hl => by
    rw [cl l hl, (hρ l hl).1]
    exact spMo_sleep h0 (by omega) (hρ l hl).2
  have own := sg_sl_lt L n (ρ n)
  have e : (nI (sg_sl L n (ρ n)) &&& w.1 51 (nI n).toNatClampNeg = 0) ↔ sg_may L n (ρ n) = true := by
    rw [cl n (Nat.le_refl n), (hv n hn).2.2, sz_and0 (by omega)]
    simp [sg_may]
  refine sx_met_of rfl rfl rfl rfl (bMo_fits_52_0 (hi n (Nat.le_refl n)) (slp n (Nat.le_refl n)) (fun c => ?_) (fun c => ?_))
  · have hm := e.mp c
    -- the third loop
    have third : sz_all (sg_fP L b ρ n) 8 = true → sx_ev (d + 1) rMo_fits 105 [.ref 48, .ref 52, .int (nI n), .int (nI (sg_sl L n (ρ n))), .int (nI 0), .null, .null] [] w Q := by
      intro hall
      refine sx_for (P := fun l => sz_all (sg_fQ L ρ n) l = true → sx_ev (d + 1) rMo_fits 105 [.ref 48, .ref 52, .int (nI n), .int (nI (sg_sl L n (ρ n))), .int (nI l), .null, .null] [] w Q) n (fun ha => ?_) (fun l hl ih ha => ?_) 0 (Nat.zero_le _) rfl
      · have q1 : Q 1 0 w := by
          have : sg_fit L b ρ n = true := by simp [sg_fit, hm, hall, ha]
          rw [this] at q; exact q
        have nc : ¬ ¬ nI n ≤ nI n := fun c => c (nI_le (Nat.le_refl _) (by omega))
        exact bMo_fits_52_105 (f1 := 0) (f2 := 0) (fun _ => q1) (fun c => absurd c nc) (fun c => absurd c nc) (fun c => absurd c nc) (fun c => absurd c nc) (fun c => absurd c nc) (fun c => absurd c nc) (fun c => absurd c nc) (fun c => absurd c nc) (fun c => absurd c nc) (fun c => absurd c nc) (fun c => absurd c nc) (fun c => absurd c nc)
      · have nx : sg_fQ L ρ n l = true → sx_ev (d + 1) rMo_fits 105 [.ref 48, .ref 52, .int (nI n), .int (nI (sg_sl L n (ρ n))), .int (nI l + 1), .null, .null] [] w Q := fun hf => by
          rw [nI_1]
          exact ih (by rw [sz_all, ha, hf]; rfl)
        have q0 : sg_fQ L ρ n l = false → Q 0 0 w := fun hf => by
          have : sg_fit L b ρ n = false := by simp [sg_fit, sz_all_no hl hf]
          rw [this] at q; exact q
        have ad : (nI (sg_sl L l (ρ l)) &&& nI (sg_sl L n (ρ n)) = 0) ↔ (sg_sl L l (ρ l) &&& sg_sl L n (ρ n)) = 0 := sz_and0 (by have := sg_sl_lt L l (ρ l); omega)
        have hl' : l ≤ n := by omega
        refine bMo_fits_52_105 (fun c => absurd c (nI_ge hl (by omega))) (fun _ => hi l hl') (fun _ c1 c2 => ?_) (fun _ _ _ => hi n (Nat.le_refl n)) (fun _ c1 c2 c3 => ?_) (fun _ _ _ _ => slp l hl') (fun _ c1 c2 c3 c4 => ?_) (fun _ c1 c2 c3 c4 => ?_) (fun _ _ => hi n (Nat.le_refl n)) (fun _ _ _ => slp l hl') (fun _ c1 c2 c3 => ?_) (fun _ c1 c2 c3 => ?_) (fun _ c1 c2 => ?_)
        · rw [hkd l hl', k2 l hl'] at c1
          rw [hkd l hl', k3 l hl'] at c2
          exact nx (by simp [sg_fQ, sg_qu, c1, c2])
        · rw [hkd l hl', k3 l hl'] at c2
          rw [hkd n (Nat.le_refl n), k2 n (Nat.le_refl n)] at c3
          exact nx (by simp [sg_fQ, sg_qu, c2, c3])
        · exact nx (by simp [sg_fQ, ad.mp c4])
        · rw [hkd l hl', k3 l hl'] at c2
          rw [hkd n (Nat.le_refl n), k2 n (Nat.le_refl n)] at c3
          rw [ad] at c4
          exact q0 (by simp [sg_fQ, sg_qu, c2, c3, c4])
        · exact nx (by simp [sg_fQ, ad.mp c3])
        · rw [hkd l hl', k2 l hl'] at c1
          rw [hkd n (Nat.le_refl n), k3 n (Nat.le_refl n)] at c2
          rw [ad] at c3
          exact q0 (by simp [sg_fQ, sg_qu, c1, c2, c3])
        · rw [hkd l hl', k2 l hl'] at c1
          rw [hkd n (Nat.le_refl n), k3 n (Nat.le_refl n)] at c2
          exact nx (by simp [sg_fQ, sg_qu, c1, c2])
    refine sx_for (P := fun p => sz_all (sg_fP L b ρ n) p = true → sx_ev (d + 1) rMo_fits 25 [.ref 48, .ref 52, .int (nI n), .int (nI (sg_sl L n (ρ n))), .int (nI p), .null, .null] [] w Q) 8 (fun ha => ?_) (fun p hp ih ha => ?_) 0 (Nat.zero_le _) rfl
    · exact bMo_fits_52_25 (fun _ => third ha) (fun c => absurd (by decide) c)
    · refine bMo_fits_52_25 (fun c => absurd c (nI_ge (b := 8) hp (by omega))) (fun _ => ?_)
      rw [sz_bit (by omega) (by omega)]
      have bo : sg_sl L n (ρ n) / 2 ^ p % 2 < 2 := Nat.mod_lt _ (by decide)
      have tb : (sg_sl L n (ρ n)).testBit p = decide (sg_sl L n (ρ n) / 2 ^ p % 2 = 1) := Nat.testBit_eq_decide_div_mod_eq
      have ctn : sg_ct L ρ (n + 1) p = sg_ct L ρ n p + sg_sl L n (ρ n) / 2 ^ p % 2 := by
        rw [sg_ct, fb_ct_succ, tb]
        by_cases h1 : sg_sl L n (ρ n) / 2 ^ p % 2 = 1
        · simp [h1, sg_ct]
        · have : sg_sl L n (ρ n) / 2 ^ p % 2 = 0 := by omega
          simp [this, sg_ct]
      have cle : ∀ m, sg_ct L ρ m p ≤ m := fun m => fb_ct_le _ m
      refine sx_for (P := fun l => sx_ev (d + 1) rMo_fits 43 [.ref 48, .ref 52, .int (nI n), .int (nI (sg_sl L n (ρ n))), .int (nI p), .int (nI (sg_sl L n (ρ n) / 2 ^ p % 2 + sg_ct L ρ l p)), .int (nI l)] [] w Q) n ?_ (fun l hl ih2 => ?_) 0 (Nat.zero_le _)
      · have nc : ¬ ¬ nI n ≤ nI n := fun c => c (nI_le (Nat.le_refl _) (by omega))
        have hle : (nI (sg_sl L n (ρ n) / 2 ^ p % 2 + sg_ct L ρ n p) ≤ w.1 48 6) ↔ sg_ct L ρ (n + 1) p ≤ b := by
          rw [hb, nI_leI (by have := cle n; omega) (by omega), ctn]
          omega
        have nx : sg_fP L b ρ n p = true → sx_ev (d + 1) rMo_fits 25 [.ref 48, .ref 52, .int (nI n), .int (nI (sg_sl L n (ρ n))), .int (nI p + 1), .null, .null] [] w Q := fun hf => by
          rw [nI_1]
          exact ih (by rw [sz_all, ha, hf]; rfl)
        refine bMo_fits_52_43 (f1 := 0) (fun _ c1 => ?_) (fun _ c1 c2 => ?_) (fun _ c1 c2 => ?_) (fun c => absurd c nc) (fun c => absurd c nc) (fun c => absurd c nc)
        · exact nx (by simp [sg_fP, hle.mp c1])
        · rw [sz_bit (by omega) (by omega), show (1 : Int32) = nI 1 from rfl, nI_eq (by omega) (by omega)] at c2
          exact nx (by simp [sg_fP, tb, c2])
        · rw [sz_bit (by omega) (by omega), show (1 : Int32) = nI 1 from rfl, nI_eq (by omega) (by omega)] at c2
          rw [hle] at c1
          have : sg_fit L b ρ n = false := by
            have hf : sg_fP L b ρ n p = false := by simp [sg_fP, tb, c2, c1]
            simp [sg_fit, sz_all_no hp hf]
          rw [this] at q; exact q
      · have nl : ¬ nI n ≤ nI l := nI_ge hl (by omega)
        refine bMo_fits_52_43 (fun c => absurd c nl) (fun c => absurd c nl) (fun c => absurd c nl) (fun _ => hi l (by omega)) (fun _ => slp l (by omega)) (fun _ => ?_)
        rw [sz_bit (by have := sg_sl_lt L l (ρ l); omega) (by omega), nI_add, nI_1]
        have e2 : sg_ct L ρ (l + 1) p = sg_ct L ρ l p + sg_sl L l (ρ l) / 2 ^ p % 2 := by
          have tb2 : (sg_sl L l (ρ l)).testBit p = decide (sg_sl L l (ρ l) / 2 ^ p % 2 = 1) := Nat.testBit_eq_decide_div_mod_eq
          have := Nat.mod_lt (sg_sl L l (ρ l) / 2 ^ p) (show 0 < 2 by decide)
          rw [sg_ct, fb_ct_succ, tb2]
          by_cases h1 : sg_sl L l (ρ l) / 2 ^ p % 2 = 1
          · simp [h1, sg_ct]
          · have : sg_sl L l (ρ l) / 2 ^ p % 2 = 0 := by omega
            simp [this, sg_ct]
        rw [e2, ← Nat.add_assoc] at ih2
        exact ih2
  · have : sg_fit L b ρ n = false := by
      have : sg_may L n (ρ n) = false := by rw [e] at c; simpa using c
      simp [sg_fit, this]
    rw [this] at q; exact q
/-- the first by whom a row is not good; how many there are, if there is none -/
def sg_wr (L : sg_L) (b : Nat) (ρ : Nat → Nat) : Nat → Nat
  | 0 => 0
  | n + 1 => if sg_wr L b ρ n < n then sg_wr L b ρ n else if sg_fit L b ρ n then n + 1 else n
theorem sg_wr_le (L : sg_L) (b : Nat) (ρ : Nat → Nat) : ∀ n, sg_wr L b ρ n ≤ n
  | 0 => Nat.le_refl 0
  | n + 1 => by
    have ih := sg_wr_le L b ρ n
    rw [sg_wr]
    split
    · omega
    · split <;> omega
theorem sg_wr_of {L : sg_L} {b : Nat} {ρ : Nat → Nat} {k : Nat} (ha : ∀ i, i < k → sg_fit L b ρ i = true) : ∀ n, n ≤ k → sg_wr L b ρ n = n
  | 0, _ => rfl
  | n + 1, h => by
    rw [sg_wr, sg_wr_of ha n (by omega), if_neg (by omega), ha n (by omega), if_pos rfl]
theorem sg_wr_at {L : sg_L} {b : Nat} {ρ : Nat → Nat} {k : Nat} (ha : ∀ i, i < k → sg_fit L b ρ i = true) (hk : sg_fit L b ρ k = false) : ∀ n, k < n → sg_wr L b ρ n = k
  | 0, h => by omega
  | n + 1, h => by
    by_cases e : n = k
    · rw [e, sg_wr, sg_wr_of ha k (Nat.le_refl k), if_neg (by omega), hk]
      simp
    · rw [sg_wr, sg_wr_at ha hk n (by omega), if_pos (by omega)]
def sg_good (L : sg_L) (b : Nat) (ρ : Nat → Nat) : Bool := sz_all (sg_fit L b ρ) L.1
theorem sg_good_wr {L : sg_L} {b : Nat} {ρ : Nat → Nat} : sg_good L b ρ = true ↔ sg_wr L b ρ L.1 = L.1 := by
  constructor
  · intro h
    exact sg_wr_of (sz_all_iff.mp h) _ (Nat.le_refl _)
  · intro h
    cases e : sg_good L b ρ with
    | true => rfl
    | false =>
      exfalso
      have : ∃ i, i < L.1 ∧ sg_fit L b ρ i = false := by
        apply Classical.byContradiction
        intro hc
        have : sg_good L b ρ = true := sz_all_iff.mpr (fun i hi => by
          cases e2 : sg_fit L b ρ i with
          | true => rfl
          | false => exact absurd ⟨i, hi, e2⟩ hc)
        rw [e] at this; cases this
      obtain ⟨i, hi, h1, h2⟩ := fb_first (p := fun i => sg_fit L b ρ i = false) this
      have h3 := sg_wr_at (fun j hj => by cases e3 : sg_fit L b ρ j with
        | true => rfl
        | false => exact absurd e3 (h2 j hj)) h1 L.1 hi
      omega
theorem spMo_wrongBy {ρ : Nat → Nat} {b : Nat} (h : sg_M L w) (hb : w.1 48 6 = nI b) (hb7 : b ≤ 7) (hρ : ∀ l, l < L.1 → w.1 52 l = nI (ρ l) ∧ ρ l < 8) : sx_de (d + 2) rMo_wrongBy [.ref 48, .ref 52] w (if sg_good L b ρ then (-4 : Int32) else nI (sg_wr L b ρ L.1)) 0 w := by
  intro Q q
  have h0 := h
  obtain ⟨⟨h7, hr⟩, hcn, hv⟩ := h
  refine sx_met_of rfl rfl rfl rfl (bMo_wrongBy_52_0 ?_)
  refine sx_for (P := fun i => (∀ j, j < i → sg_fit L b ρ j = true) → sx_ev (d + 2) rMo_wrongBy 2 [.ref 48, .ref 52, .int (nI i)] [] w Q) L.1 (fun ha => ?_) (fun i hi ih ha => ?_) 0 (Nat.zero_le _) (fun j hj => by omega)
  · have nc : ¬ ¬ w.1 48 0 ≤ nI L.1 := fun c => c (by rw [hcn]; exact nI_le (Nat.le_refl _) (by omega))
    rw [show sg_good L b ρ = true from sz_all_iff.mpr ha, if_pos rfl] at q
    exact bMo_wrongBy_52_2 (f1 := 0) (fun _ => q) (fun c => absurd c nc) (fun c => absurd c nc) (fun c => absurd c nc)
  · refine bMo_wrongBy_52_2 (fun c => absurd c (by rw [hcn]; exact nI_ge hi (by omega))) (fun _ => spMo_fits_52 h0 hb hb7 hi (fun l hl => hρ l (by omega))) (fun _ c => ?_) (fun _ c => ?_)
    · rw [nI_1]
      exact ih (fun j hj => by
        by_cases e : j = i
        · rw [e]; exact sz_b1.mp c
        · exact ha j (by omega))
    · have hf := sz_b0.mp c
      rw [show sg_good L b ρ = false from sz_all_no hi hf, sg_wr_at ha hf L.1 hi] at q
      exact q
/-- the row that is told, as the model has it -/
theorem spMo_isGood {ρ : Nat → Nat} {b : Nat} {t : Bool} (h : sg_M L w) (hb : w.1 48 6 = nI b) (hb7 : b ≤ 7) (ht : w.1 48 5 = sz_b t) (hρ : t = true → ∀ l, l < L.1 → w.1 52 l = nI (ρ l) ∧ ρ l < 8) : sx_de (d + 3) rMo_isGood [.ref 48] w (sz_b (t && sg_good L b ρ)) 0 w := by
  intro Q q
  have h7 := h.1.1
  cases t with
  | false =>
    refine sx_met_of rfl rfl rfl rfl (bMo_isGood_0 (f1 := 0) (fun _ => q) (fun c => absurd ht c) (fun c => absurd ht c) (fun c => absurd ht c))
  | true =>
    have hn : ¬ w.1 48 5 = 0 := by rw [ht]; decide
    refine sx_met_of rfl rfl rfl rfl (bMo_isGood_0 (fun c => absurd c hn) (fun _ => spMo_wrongBy h hb hb7 (hρ rfl)) (fun _ c => ?_) (fun _ c => ?_))
    · cases e : sg_good L b ρ with
      | true => rw [e] at c; exact absurd rfl c
      | false => rw [e] at q; exact q
    · cases e : sg_good L b ρ with
      | true => rw [e] at q; exact q
      | false =>
        rw [e] at c
        exfalso
        have h1 := sg_wr_le L b ρ L.1
        have h2 : nI (sg_wr L b ρ L.1) = (-4 : Int32) := c
        have h3 : ∀ k, k ≤ 7 → ¬ nI k = (-4 : Int32) := by decide +kernel
        exact h3 _ (by omega) h2
end
