/-! ===== judged, the model ===== -/
theorem fa_first_at {p : Nat → Bool} {n l : Nat} (hl : l < n) (h1 : ∀ j, j < l → p j = false) (h2 : p l = true) : fa_first p n = l := by
  rcases Nat.lt_trichotomy (fa_first p n) l with c | c | c
  · have := fa_first_yes p n (by omega)
    rw [h1 _ c] at this; cases this
  · exact c
  · have := fa_first_no p n l c
    rw [h2] at this; cases this
theorem fa_first_none {p : Nat → Bool} {n : Nat} (h1 : ∀ j, j < n → p j = false) : ¬ fa_first p n < n := fun c => by
  have := fa_first_yes p n c
  rw [h1 _ c] at this; cases this
section
variable {d : Nat} {w : sx_W} {s : sh_T} {L : sg_L} {b : Nat} {r : Nat → Nat}
theorem sh_isPart {y : Int64} : sx_de (d + 1) rMo_isPart [.long y] w (sz_b (decide (sh_v 7 y ≤ 7))) 0 w := by
  have := spMo_isPartL (d := d) (w := w) (y := y)
  have e : decide (sh_v 7 y ≤ 7) = decide (0 ≤ y.toInt ∧ y.toInt ≤ 7) := decide_eq_decide.mpr (sh_v_in (by decide))
  rw [e]; exact this
theorem spMo_judged {x1 x2 x3 : Int32} {t : Bool} (hs : sh_M s w) (h : sg_Mo L b t r w) : sx_x (d + 2) rMo_judged [.ref 48, .int x1, .int x2, .int x3] w (fun f fl w' => f = sh_judged s L b x1 x2 x3 ∧ fl = 0 ∧ sg_fr [53] w w') := by
  have h7 := h.1.1.1
  have m1 := spMo_isSheet (d := d) (w := w) (x := x1)
  have m2 := spMo_isLane (d := d) (w := w) (x := x2)
  have y1 : ¬ sz_b true = 0 := by decide
  unfold sh_judged
  cases h1 : sz_in x1 4 with
  | false =>
    rw [h1] at m1
    exact ⟨-1, 0, w, fun Q z => sx_met_of rfl rfl rfl rfl (bMo_judged_0 (f2 := 0) (f3 := 0) m1 (fun _ => z) (fun c => absurd rfl c) (fun c => absurd rfl c) (fun c => absurd rfl c) (fun c => absurd rfl c) (fun c => absurd rfl c)), rfl, rfl, sg_fr.rfl'⟩
  | true =>
    rw [h1] at m1
    cases h2 : sz_in x2 3 with
    | false =>
      rw [h2] at m2
      exact ⟨-1, 0, w, fun Q z => sx_met_of rfl rfl rfl rfl (bMo_judged_0 (f3 := 0) m1 (fun c => absurd c y1) (fun _ => m2) (fun _ c => absurd rfl c) (fun _ c => absurd rfl c) (fun _ c => absurd rfl c) (fun _ _ => z)), rfl, rfl, sg_fr.rfl'⟩
    | true =>
      rw [h2] at m2
      rw [if_pos (show (true && true) = true from rfl)]
      obtain ⟨k, hk, rfl⟩ := sz_in_of h1 (by decide)
      have hck : (nI k).toNatClampNeg = k := nI_clamp (by omega)
      have m3 := spMo_why (d := d + 1) (x2 := x2) (x3 := x3) (n := nI L.1) hs hk (by rw [nI_toInt (by omega)]; omega)
      rw [hck]
      by_cases h0 : sh_rf s k x2 x3 (nI L.1) = 0
      · rw [if_pos h0]
        have p0 : 0 ≤ sh_rf s k x2 x3 (nI L.1) := sh_rf_neg.mpr h0
        obtain ⟨hl, -, i, m, rfl, e1, him⟩ := sh_rf_0 hs.1 hk h0
        have hz := (hs.1 k hk).2
        have hm : L.1 = m := (nI_eq (by omega) (by omega)).mp e1
        rw [nI_clamp (show i < 2 ^ 31 by omega)]
        have loop : ∀ l, l ≤ L.1 → ∀ u, sg_fr [53] w u → (∀ j, j < l → sg_bad L b (sh_row s k i) j = false ∧ u.1 53 j = nI (sh_row s k i j) ∧ sh_row s k i j < 8) → sx_xe (d + 2) rMo_judged 40 [.ref 48, .int (nI k), .null, .int (nI i), .null, .int (nI l), .null, .null] u (fun f fl w' => f = (if fa_first (sg_bad L b (sh_row s k i)) L.1 < L.1 then nI (fa_first (sg_bad L b (sh_row s k i)) L.1) else -4) ∧ fl = 0 ∧ sg_fr [53] w w') := by
          refine sx_for L.1 (fun u hf hu => ?_) (fun l hl2 ih u hf hu => ?_)
          · have hCu := h.fr' hf (by decide)
            have nc : ¬ ¬ u.1 48 0 ≤ nI L.1 := fun c => c (by rw [hCu.1.2.1]; exact nI_le (Nat.le_refl _) (by omega))
            rw [if_neg (fa_first_none (fun j hj => (hu j hj).1))]
            exact ⟨_, 0, u, fun Q z => bMo_judged_40 (f1 := 0) (f2 := 0) (f3 := 0) (f4 := 0) (f5 := 0) (fun _ => z) (fun c => absurd c nc) (fun c => absurd c nc) (fun c => absurd c nc) (fun c => absurd c nc) (fun c => absurd c nc) (fun c => absurd c nc) (fun c => absurd c nc) (fun c => absurd c nc) (fun c => absurd c nc) (fun c => absurd c nc) (fun c => absurd c nc) (fun c => absurd c nc) (fun c => absurd c nc) (fun c => absurd c nc), rfl, rfl, hf⟩
          · have hCu := h.fr' hf (by decide)
            have nn : ¬ u.1 48 0 ≤ nI l := by rw [hCu.1.2.1]; exact nI_ge hl2 (by omega)
            have hcl : (nI l).toNatClampNeg = l := nI_clamp (by omega)
            obtain ⟨f1, f2, f3⟩ := sh_163 (k := k) (i := i) (m := l) hk (by omega)
            have e63 : u.2 63 ((16 : Int32) * nI k + nI i + nI l).toNatClampNeg = s.2.2 k (i + l) := by
              rw [f1, f2, (hf 63 (by decide)).2]; exact (hs.2 k hk).2.2 (i + l) (by omega)
            have v1 : vp_in ((16 : Int32) * nI k + nI i + nI l) 64 := by rw [f1]; exact f3
            have v2 : vp_in (nI l) 7 := vp_in_nI (by omega) (by decide)
            have erow : sh_row s k i l = sh_v 7 (s.2.2 k (i + l)) := rfl
            have fr2 : ∀ {v : Int32}, sg_fr [53] w (sx_u u.1 53 l v, u.2) := fun {v} => hf.trans (fun a ha => ⟨sx_u_o (fun e => ha (by rw [e]; decide)), rfl⟩)
            by_cases hp : sh_v 7 (s.2.2 k (i + l)) ≤ 7
            · have g1 : ∀ u' : sx_W, sx_de (d + 1) rMo_isPart [.long (u.2 63 ((16 : Int32) * nI k + nI i + nI l).toNatClampNeg)] u' (sz_b true) 0 u' := fun u' => by
                have := sh_isPart (d := d) (w := u') (y := s.2.2 k (i + l))
                rw [decide_eq_true hp] at this
                rw [e63]; exact this
              have e32 : (u.2 63 ((16 : Int32) * nI k + nI i + nI l).toNatClampNeg).toInt32 = nI (sh_row s k i l) := by rw [e63, erow]; exact sh_v_I (by decide) hp
              have hrow : ∀ j, j ≤ l → sx_u u.1 53 l (nI (sh_row s k i l)) 53 j = nI (sh_row s k i j) ∧ sh_row s k i j < 8 := fun j hj => by
                rw [sx_u_s]
                by_cases c : j = l
                · rw [if_pos c, c, erow]; exact ⟨rfl, by omega⟩
                · rw [if_neg c]; exact (hu j (by omega)).2
              have hMu := hCu.fr' (w' := (sx_u u.1 53 l (nI (sh_row s k i l)), u.2)) (cs := [53]) (fun a ha => ⟨sx_u_o (fun e => ha (by rw [e]; decide)), rfl⟩) (by decide)
              have m5 := spMo_fits_53 (d := d) (ρ := sh_row s k i) hMu.1 hMu.2.1 hMu.2.2.1 hl2 hrow
              cases hfit : sg_fit L b (sh_row s k i) l with
              | true =>
                rw [hfit] at m5
                have hnb : sg_bad L b (sh_row s k i) l = false := by unfold sg_bad; rw [hfit, decide_eq_true (show sh_row s k i l < 8 by rw [erow]; omega)]; rfl
                obtain ⟨f, fl, w', hev, hpost⟩ := ih (sx_u u.1 53 l (nI (sh_row s k i l)), u.2) fr2 (fun j hj => by
                  by_cases c : j = l
                  · rw [c]; exact ⟨hnb, hrow l (Nat.le_refl _)⟩
                  · exact ⟨(hu j (by omega)).1, hrow j (by omega)⟩)
                refine ⟨f, fl, w', fun Q z => bMo_judged_40 (f1 := sz_b true) (f2 := 0) (f3 := 0) (f4 := sz_b true) (f5 := sz_b true) (fun c => absurd c nn) (fun _ => v1) (fun _ => g1 _) (fun _ c => absurd c y1) (fun _ c => absurd c y1) (fun _ c => absurd c y1) (fun _ c => absurd c y1) (fun _ c => absurd c y1) (fun _ c => absurd c y1) (fun _ _ => v2) (fun _ _ => g1 _) (fun _ _ c => absurd c y1) (fun _ _ _ => by rw [e32, hcl]; exact m5) (fun _ _ _ _ => ?_) (fun _ _ _ c => absurd c y1), hpost⟩
                rw [e32, hcl, nI_1]; exact hev Q z
              | false =>
                rw [hfit] at m5
                have hbad : sg_bad L b (sh_row s k i) l = true := by unfold sg_bad; rw [hfit, Bool.and_false]; rfl
                have ef := fa_first_at hl2 (fun j hj => (hu j hj).1) hbad
                rw [ef, if_pos hl2]
                refine ⟨nI l, 0, (sx_u u.1 53 l (nI (sh_row s k i l)), u.2), fun Q z => bMo_judged_40 (f1 := sz_b true) (f2 := 0) (f3 := 0) (f4 := sz_b true) (f5 := sz_b false) (fun c => absurd c nn) (fun _ => v1) (fun _ => g1 _) (fun _ c => absurd c y1) (fun _ c => absurd c y1) (fun _ c => absurd c y1) (fun _ c => absurd c y1) (fun _ c => absurd c y1) (fun _ c => absurd c y1) (fun _ _ => v2) (fun _ _ => g1 _) (fun _ _ c => absurd c y1) (fun _ _ _ => by rw [e32, hcl]; exact m5) (fun _ _ _ c => absurd rfl c) (fun _ _ _ _ => ?_), rfl, rfl, fr2⟩
                rw [e32, hcl]; exact z
            · have g1 : ∀ u' : sx_W, sx_de (d + 1) rMo_isPart [.long (u.2 63 ((16 : Int32) * nI k + nI i + nI l).toNatClampNeg)] u' (sz_b false) 0 u' := fun u' => by
                have := sh_isPart (d := d) (w := u') (y := s.2.2 k (i + l))
                rw [decide_eq_false hp] at this
                rw [e63]; exact this
              have hbad : sg_bad L b (sh_row s k i) l = true := by
                unfold sg_bad
                rw [decide_eq_false (show ¬ sh_row s k i l < 8 by rw [erow]; omega)]; rfl
              have ef := fa_first_at hl2 (fun j hj => (hu j hj).1) hbad
              rw [ef, if_pos hl2]
              refine ⟨nI l, 0, (sx_u u.1 53 l 0, u.2), fun Q z => bMo_judged_40 (f1 := sz_b false) (f2 := sz_b false) (f3 := 0) (f4 := 0) (f5 := 0) (fun c => absurd c nn) (fun _ => v1) (fun _ => g1 _) (fun _ _ => v2) (fun _ _ => g1 _) (fun _ _ _ => ?_) (fun _ _ c => absurd rfl c) (fun _ _ c => absurd rfl c) (fun _ _ c => absurd rfl c) (fun _ c => absurd rfl c) (fun _ c => absurd rfl c) (fun _ c => absurd rfl c) (fun _ c => absurd rfl c) (fun _ c => absurd rfl c) (fun _ c => absurd rfl c), rfl, rfl, fr2⟩
              rw [hcl]; exact z
        obtain ⟨f, fl, w', hev, hp⟩ := loop 0 (Nat.zero_le _) w sg_fr.rfl' (fun j hj => by omega)
        exact ⟨f, fl, w', fun Q z => sx_met_of rfl rfl rfl rfl (bMo_judged_0 m1 (fun c => absurd c y1) (fun _ => m2) (fun _ _ => by rw [h.1.2.1]; exact m3) (fun _ _ _ => hev Q z) (fun _ _ c => absurd p0 c) (fun _ c => absurd c y1)), hp⟩
      · rw [if_neg h0]
        have p0 : ¬ 0 ≤ sh_rf s k x2 x3 (nI L.1) := fun c => h0 (sh_rf_neg.mp c)
        exact ⟨_, 0, w, fun Q z => sx_met_of rfl rfl rfl rfl (bMo_judged_0 m1 (fun c => absurd c y1) (fun _ => m2) (fun _ _ => by rw [h.1.2.1]; exact m3) (fun _ _ c => absurd c p0) (fun _ _ _ => z) (fun _ c => absurd c y1)), rfl, rfl, sg_fr.rfl'⟩
end
