/-! ===== bed and linen of the class ===== -/
section
variable {d : Nat} {w : sx_W} {L : sg_L} {b : Nat} {r : Nat → Nat}
theorem na_bI_lI {x : Nat} : (if na_bI x = (-1 : Int32) then (-4 : Int32) else na_bI x) = na_lI x := by
  unfold na_lI
  by_cases h : x < 7
  · rw [if_neg (fun c => na_bI_m1.mp c h), if_pos h, na_bI, if_pos h]
  · rw [if_pos (na_bI_m1.mpr h), if_neg h]
theorem spSb_bed {x y : Int32} {t : Bool} (h : sg_Co L b r w) (ht : w.1 1 7 = sz_b t) (hk : w.1 27 5 = w.1 1 8 → na_NS L r w) : sx_x (d + 5) rSb_bed [.ref 0, .int x, .int y] w (fun f fl w' => f = (if sz_in x L.1 && sz_in y 8 then (if t && sg_good L b r then na_lI (na_B L r (y.toNatClampNeg + 1) x.toNatClampNeg) else -2) else -1) ∧ fl = 0 ∧ (w'.1 27 5 = w'.1 1 8 → na_NS L r w') ∧ (w'.1 27 5 = w.1 27 5 ∨ w'.1 27 5 = w.1 1 8) ∧ sg_fr [27, 28, 29, 30, 31, 32] w w') := by
  have h7 := h.1.1.1
  have m1 := spHo_has (d := d + 4) (x := x) h.1.2.1 h7
  have m2 := spSb_isPart (d := d + 4) (w := w) (x := y)
  have m3 := spSb_rowIsGood (d := d + 2) h ht
  have y1 : ¬ sz_b true = 0 := by decide
  cases h1 : sz_in x L.1 with
  | false =>
    rw [h1] at m1
    exact ⟨-1, 0, w, fun Q z => sx_met_of rfl rfl rfl rfl (bSb_bed_0 (f2 := 0) (f3 := 0) (f4 := 0) (w4 := w) m1 (fun _ => z) (fun c => absurd rfl c) (fun c => absurd rfl c) (fun c => absurd rfl c) (fun c => absurd rfl c) (fun c => absurd rfl c) (fun c => absurd rfl c) (fun c => absurd rfl c)), rfl, rfl, hk, Or.inl rfl, sg_fr.rfl'⟩
  | true =>
    rw [h1] at m1
    cases h2 : sz_in y 8 with
    | false =>
      rw [h2] at m2
      exact ⟨-1, 0, w, fun Q z => sx_met_of rfl rfl rfl rfl (bSb_bed_0 (f3 := 0) (f4 := 0) (w4 := w) m1 (fun c => absurd c y1) (fun _ => m2) (fun _ c => absurd rfl c) (fun _ c => absurd rfl c) (fun _ c => absurd rfl c) (fun _ c => absurd rfl c) (fun _ c => absurd rfl c) (fun _ _ => z)), rfl, rfl, hk, Or.inl rfl, sg_fr.rfl'⟩
    | true =>
      rw [h2] at m2
      cases hg : (t && sg_good L b r) with
      | false =>
        rw [hg] at m3
        exact ⟨-2, 0, w, fun Q z => sx_met_of rfl rfl rfl rfl (bSb_bed_0 (f4 := 0) (w4 := w) m1 (fun c => absurd c y1) (fun _ => m2) (fun _ _ => m3) (fun _ _ c => absurd rfl c) (fun _ _ c => absurd rfl c) (fun _ _ c => absurd rfl c) (fun _ _ _ => z) (fun _ c => absurd c y1)), rfl, rfl, hk, Or.inl rfl, sg_fr.rfl'⟩
      | true =>
        rw [hg] at m3
        rw [Bool.and_eq_true] at hg
        obtain ⟨l, hl, rfl⟩ := sz_in_of h1 (by omega)
        obtain ⟨p, hp, rfl⟩ := sz_in_of h2 (by decide)
        rw [nI_clamp (show l < 2 ^ 31 by omega), nI_clamp (show p < 2 ^ 31 by omega)]
        obtain ⟨f4, fl, w4, m4, rfl, rfl, hN, ha, hf⟩ := spNi_bedOf (d := d) h (na_good_cap h.2.2.2.1 hg.2) hk hl hp
        have e : (if na_bI (na_B L r (p + 1) l) = (-1 : Int32) then (-4 : Int32) else na_bI (na_B L r (p + 1) l)) = na_lI (na_B L r (p + 1) l) := na_bI_lI
        refine ⟨na_lI (na_B L r (p + 1) l), 0, w4, fun Q z => sx_met_of rfl rfl rfl rfl (bSb_bed_0 m1 (fun c => absurd c y1) (fun _ => m2) (fun _ _ => m3) (fun _ _ _ => m4) (fun _ _ _ c => ?_) (fun _ _ _ c => ?_) (fun _ _ c => absurd c y1) (fun _ c => absurd c y1)), rfl, rfl, fun _ => hN, Or.inr ha, hf.mono (by decide)⟩
        · rw [if_neg c] at e; rw [e]; exact z
        · rw [if_pos c] at e; rw [e]; exact z
theorem spSb_linen {t : Bool} (h : sg_Co L b r w) (ht : w.1 1 7 = sz_b t) (hk : w.1 27 5 = w.1 1 8 → na_NS L r w) : sx_x (d + 5) rSb_linen [.ref 0] w (fun f fl w' => f = (if t && sg_good L b r then na_lin L r else -2) ∧ fl = 0 ∧ (w'.1 27 5 = w'.1 1 8 → na_NS L r w') ∧ (w'.1 27 5 = w.1 27 5 ∨ w'.1 27 5 = w.1 1 8) ∧ sg_fr [27, 28, 29, 30, 31, 32] w w') := by
  have m3 := spSb_rowIsGood (d := d + 2) h ht
  have y1 : ¬ sz_b true = 0 := by decide
  cases hg : (t && sg_good L b r) with
  | false =>
    rw [hg] at m3
    exact ⟨-2, 0, w, fun Q z => sx_met_of rfl rfl rfl rfl (bSb_linen_0 (f2 := 0) (w2 := w) m3 (fun _ => z) (fun c => absurd rfl c) (fun c => absurd rfl c)), rfl, rfl, hk, Or.inl rfl, sg_fr.rfl'⟩
  | true =>
    rw [hg] at m3
    rw [Bool.and_eq_true] at hg
    obtain ⟨f4, fl, w4, m4, rfl, rfl, hN, ha, hf⟩ := spNi_linenChanges (d := d) h (na_good_cap h.2.2.2.1 hg.2) hk
    exact ⟨_, 0, w4, fun Q z => sx_met_of rfl rfl rfl rfl (bSb_linen_0 m3 (fun c => absurd c y1) (fun _ => m4) (fun _ => z)), rfl, rfl, fun _ => hN, Or.inr ha, hf.mono (by decide)⟩
end
