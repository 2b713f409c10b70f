/-! ===== sick and brought of the class ===== -/
section
variable {d : Nat} {w : sx_W} {L : sg_L} {b : Nat} {r : Nat → Nat}
theorem spSb_sick {x y : Int32} {t : Bool} (h : sg_Co L b r w) (ht : w.1 1 7 = sz_b t) (hk : w.1 27 5 = w.1 1 8 → na_NS L r w) : sx_x (d + 5) rSb_sick [.ref 0, .int x, .int y] w (fun f fl w' => f = (if sz_in x (2 ^ L.1) && sz_day y then (if t && sg_good L b r then nI (na_sick L r (w.1 1 6) x.toNatClampNeg y.toNatClampNeg) else -2) else -1) ∧ fl = 0 ∧ (w'.1 27 5 = w'.1 1 8 → na_NS L r w') ∧ (w'.1 27 5 = w.1 27 5 ∨ w'.1 27 5 = w.1 1 8) ∧ sg_fr [27, 28, 29, 30, 31, 32] w w') := by
  have h7 := h.1.1.1
  have m1 := spHo_isSetOfLodgers (d := d + 4) (x := x) h.1.2.1 h7
  have m2 := spSb_isDay (d := d + 4) (w := w) (x := y)
  have m3 := spSb_rowIsGood (d := d + 2) h ht
  have y1 : ¬ sz_b true = 0 := by decide
  cases h1 : sz_in x (2 ^ L.1) with
  | false =>
    rw [h1] at m1
    exact ⟨-1, 0, w, fun Q z => sx_met_of rfl rfl rfl rfl (bSb_sick_0 (f2 := 0) (f3 := 0) (f4 := 0) (w4 := w) m1 (fun _ => z) (fun c => absurd rfl c) (fun c => absurd rfl c) (fun c => absurd rfl c) (fun c => absurd rfl c) (fun c => absurd rfl c) (fun c => absurd rfl c)), rfl, rfl, hk, Or.inl rfl, sg_fr.rfl'⟩
  | true =>
    rw [h1] at m1
    cases h2 : sz_day y with
    | false =>
      rw [h2] at m2
      exact ⟨-1, 0, w, fun Q z => sx_met_of rfl rfl rfl rfl (bSb_sick_0 (f3 := 0) (f4 := 0) (w4 := w) m1 (fun c => absurd c y1) (fun _ => m2) (fun _ c => absurd rfl c) (fun _ c => absurd rfl c) (fun _ c => absurd rfl c) (fun _ c => absurd rfl c) (fun _ _ => z)), rfl, rfl, hk, Or.inl rfl, sg_fr.rfl'⟩
    | true =>
      rw [h2] at m2
      cases hg : (t && sg_good L b r) with
      | false =>
        rw [hg] at m3
        exact ⟨-2, 0, w, fun Q z => sx_met_of rfl rfl rfl rfl (bSb_sick_0 (f4 := 0) (w4 := w) m1 (fun c => absurd c y1) (fun _ => m2) (fun _ _ => m3) (fun _ _ _ => z) (fun _ _ c => absurd rfl c) (fun _ _ c => absurd rfl c) (fun _ c => absurd c y1)), rfl, rfl, hk, Or.inl rfl, sg_fr.rfl'⟩
      | true =>
        rw [hg] at m3
        rw [Bool.and_eq_true] at hg
        have h2n : 2 ^ L.1 ≤ 2 ^ 7 := Nat.pow_le_pow_right (by decide) h7
        obtain ⟨s, hs, rfl⟩ := sz_in_of h1 (by omega)
        obtain ⟨n, hn1, hn, rfl⟩ := sz_day_of h2
        rw [nI_clamp (show s < 2 ^ 31 by omega), nI_clamp (show n < 2 ^ 31 by omega)]
        obtain ⟨f4, fl, w4, m4, rfl, rfl, hN, ha, hf⟩ := spNi_sickAfter (d := d) (s := s) (n := n) h (na_good_cap h.2.2.2.1 hg.2) hk (by omega) hn
        exact ⟨_, 0, w4, fun Q z => sx_met_of rfl rfl rfl rfl (bSb_sick_0 m1 (fun c => absurd c y1) (fun _ => m2) (fun _ _ => m3) (fun _ _ c => absurd c y1) (fun _ _ _ => m4) (fun _ _ _ => z) (fun _ c => absurd c y1)), rfl, rfl, fun _ => hN, Or.inr ha, hf⟩
theorem spSb_brought {x y : Int32} {t : Bool} (h : sg_Co L b r w) (ht : w.1 1 7 = sz_b t) (hk : w.1 27 5 = w.1 1 8 → na_NS L r w) : sx_x (d + 6) rSb_brought [.ref 0, .int x, .int y] w (fun f fl w' => f = (if sz_in x (2 ^ L.1) && sz_day y then (if t && sg_good L b r then nI (na_br L r (w.1 1 6) x.toNatClampNeg y.toNatClampNeg) else -2) else -1) ∧ fl = 0 ∧ (w'.1 27 5 = w'.1 1 8 → na_NS L r w') ∧ (w'.1 27 5 = w.1 27 5 ∨ w'.1 27 5 = w.1 1 8) ∧ sg_fr [27, 28, 29, 30, 31, 32] w w') := by
  have h7 := h.1.1.1
  have m1 := spHo_isSetOfLodgers (d := d + 5) (x := x) h.1.2.1 h7
  have m2 := spSb_isDay (d := d + 5) (w := w) (x := y)
  have m3 := spSb_rowIsGood (d := d + 3) h ht
  have y1 : ¬ sz_b true = 0 := by decide
  cases h1 : sz_in x (2 ^ L.1) with
  | false =>
    rw [h1] at m1
    exact ⟨-1, 0, w, fun Q z => sx_met_of rfl rfl rfl rfl (bSb_brought_0 (f2 := 0) (f3 := 0) (f4 := 0) (w4 := w) m1 (fun _ => z) (fun c => absurd rfl c) (fun c => absurd rfl c) (fun c => absurd rfl c) (fun c => absurd rfl c) (fun c => absurd rfl c) (fun c => absurd rfl c)), rfl, rfl, hk, Or.inl rfl, sg_fr.rfl'⟩
  | true =>
    rw [h1] at m1
    cases h2 : sz_day y with
    | false =>
      rw [h2] at m2
      exact ⟨-1, 0, w, fun Q z => sx_met_of rfl rfl rfl rfl (bSb_brought_0 (f3 := 0) (f4 := 0) (w4 := w) m1 (fun c => absurd c y1) (fun _ => m2) (fun _ c => absurd rfl c) (fun _ c => absurd rfl c) (fun _ c => absurd rfl c) (fun _ c => absurd rfl c) (fun _ _ => z)), rfl, rfl, hk, Or.inl rfl, sg_fr.rfl'⟩
    | true =>
      rw [h2] at m2
      cases hg : (t && sg_good L b r) with
      | false =>
        rw [hg] at m3
        exact ⟨-2, 0, w, fun Q z => sx_met_of rfl rfl rfl rfl (bSb_brought_0 (f4 := 0) (w4 := w) m1 (fun c => absurd c y1) (fun _ => m2) (fun _ _ => m3) (fun _ _ _ => z) (fun _ _ c => absurd rfl c) (fun _ _ c => absurd rfl c) (fun _ c => absurd c y1)), rfl, rfl, hk, Or.inl rfl, sg_fr.rfl'⟩
      | true =>
        rw [hg] at m3
        rw [Bool.and_eq_true] at hg
        have h2n : 2 ^ L.1 ≤ 2 ^ 7 := Nat.pow_le_pow_right (by decide) h7
        obtain ⟨s, hs, rfl⟩ := sz_in_of h1 (by omega)
        obtain ⟨n, hn1, hn, rfl⟩ := sz_day_of h2
        rw [nI_clamp (show s < 2 ^ 31 by omega), nI_clamp (show n < 2 ^ 31 by omega)]
        obtain ⟨f4, fl, w4, m4, rfl, rfl, hN, ha, hf⟩ := spNi_bringersOf (d := d) (s := s) (n := n) h (na_good_cap h.2.2.2.1 hg.2) hk (by omega) hn
        have e8 : w4.1 1 8 = w.1 1 8 := by rw [(hf 1 (by decide)).1]
        exact ⟨_, 0, w4, fun Q z => sx_met_of rfl rfl rfl rfl (bSb_brought_0 m1 (fun c => absurd c y1) (fun _ => m2) (fun _ _ => m3) (fun _ _ c => absurd c y1) (fun _ _ _ => m4) (fun _ _ _ => z) (fun _ c => absurd c y1)), rfl, rfl, fun c => hN (c.trans e8), ha, hf⟩
end
