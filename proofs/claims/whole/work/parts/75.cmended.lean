/-! ===== mended of the class ===== -/
/-- the class's caches are right -/
def sg_ks (L : sg_L) (b : Nat) (r : Nat → Nat) (w : sx_W) : Prop := (w.1 16 9 = w.1 1 9 → sg_kF L b (w.1 16 8) (w.1 22)) ∧ (w.1 16 13 = w.1 1 8 → sg_kM L b r (w.1 16 12) (w.1 16 11) (w.1 23))
/-- a cached age is as it was, or the house's -/
def sg_ao (w w' : sx_W) (c j h : Nat) : Prop := w'.1 c j = w.1 c j ∨ w'.1 c j = w.1 1 h
section
variable {d : Nat} {w : sx_W} {L : sg_L} {b : Nat} {t : Bool} {r : Nat → Nat}
def sg_sks (L : sg_L) (b : Nat) (r : Nat → Nat) (w w' : sx_W) : Prop := sg_ks L b r w' ∧ sg_ao w w' 16 9 9 ∧ sg_ao w w' 16 13 8 ∧ sg_fr [16, 17, 18, 19, 20, 21, 22, 23] w w'
theorem sg_sks.rfl' (h : sg_ks L b r w) : sg_sks L b r w w := ⟨h, Or.inl rfl, Or.inl rfl, sg_fr.rfl'⟩
/-- both questions together -/
theorem spSe_mend (h : sg_Co L b r w) (hk : sg_ks L b r w) : ∃ (f : Int32) (w1 : sx_W), sx_de (d + 12) rSe_knowsFirst [.ref 16] w f 0 w1 ∧ ((f = 0 ∧ (∀ σ, ¬ sg_gd L b σ) ∧ sg_sks L b r w w1) ∨ (f = 1 ∧ ∃ (g : Int32) (w2 : sx_W), sx_de (d + 12) rSe_knowsMended [.ref 16] w1 g 0 w2 ∧ sg_kM L b r g (w2.1 16 11) (w2.1 23) ∧ sg_sks L b r w w2)) := by
  obtain ⟨f2, fl, w1, m1, rfl, p1, p2, p3, p4, p5⟩ := spSe_knowsFirst (d := d) h hk.1
  have hkF : sg_kF L b (w1.1 16 8) (w1.1 22) := by rw [p2]; exact p1
  have e1 : w1.1 1 = w.1 1 := (p5 1 (by decide)).1
  have e23 : w1.1 23 = w.1 23 := (p5 23 (by decide)).1
  have hk1 : sg_ks L b r w1 := ⟨fun _ => hkF, fun c => by
    rw [p4 13 (by decide) (by decide), e1] at c
    rw [p4 12 (by decide) (by decide), p4 11 (by decide) (by decide), e23]
    exact hk.2 c⟩
  have s1 : sg_sks L b r w w1 := ⟨hk1, Or.inr p3, Or.inl (p4 13 (by decide) (by decide)), p5.mono (by decide)⟩
  refine ⟨f2, w1, m1, ?_⟩
  rcases p1 with ⟨rfl, _⟩ | ⟨rfl, hn⟩
  · refine Or.inr ⟨rfl, ?_⟩
    obtain ⟨g, fl, w2, m2, rfl, q1, q2, q3, q4, q5⟩ := spSe_knowsMended (d := d) (h.fr p5 (by decide)) hk1.2
    have e2 : w2.1 1 = w1.1 1 := (q5 1 (by decide)).1
    have e22 : w2.1 22 = w1.1 22 := (q5 22 (by decide)).1
    refine ⟨g, w2, m2, q1, ⟨fun _ => ?_, fun _ => ?_⟩, Or.inr ?_, Or.inr ?_, (p5.mono (by decide)).trans (q5.mono (by decide))⟩
    · rw [q4 8 (by decide) (by decide) (by decide), e22]; exact hkF
    · rw [q2]; exact q1
    · rw [q4 9 (by decide) (by decide) (by decide)]; exact p3
    · rw [q3, e1]
  · exact Or.inl ⟨rfl, hn, s1⟩
theorem spSb_mended {x : Int32} (h : sg_Co L b r w) (ht : w.1 1 7 = sz_b t) (hk : sg_ks L b r w) : sx_x (d + 13) rSb_mended [.ref 0, .int x] w (fun f fl w' => fl = 0 ∧ sl_men L b t r x f ∧ sg_sks L b r w w') := by
  have h7 := h.1.1.1
  have m3 := spHo_has (d := d + 12) (x := x) h.1.2.1 h7
  have y1 : ¬ sz_b true = 0 := by decide
  cases t with
  | false =>
    have t0 : w.1 1 7 = 0 := ht
    by_cases hx : x = -1
    · skip
      exact ⟨-2, 0, w, fun Q z => sx_met_of rfl rfl rfl rfl (bSb_mended_0 (f1 := 0) (f2 := 0) (f3 := 0) (f4 := 0) (f5 := 0) (w1 := w) (w2 := w) (w4 := w) (w5 := w) (fun _ c => absurd t0 c) (fun _ c => absurd t0 c) (fun _ c => absurd t0 c) (fun _ c => absurd t0 c) (fun _ c => absurd t0 c) (fun _ _ => z) (fun c => absurd hx c) (fun c => absurd hx c) (fun c => absurd hx c) (fun c => absurd hx c) (fun c => absurd hx c) (fun c => absurd hx c) (fun c => absurd hx c) (fun c => absurd hx c) (fun c => absurd hx c)), rfl, sl_men_2 (Or.inl hx), sg_sks.rfl' hk⟩
    · cases h1 : sz_in x L.1 with
      | false =>
        rw [h1] at m3
        exact ⟨-1, 0, w, fun Q z => sx_met_of rfl rfl rfl rfl (bSb_mended_0 (f1 := 0) (f2 := 0) (f4 := 0) (f5 := 0) (w1 := w) (w2 := w) (w4 := w) (w5 := w) (fun c => absurd c hx) (fun c => absurd c hx) (fun c => absurd c hx) (fun c => absurd c hx) (fun c => absurd c hx) (fun c => absurd c hx) (fun _ => m3) (fun _ c => absurd rfl c) (fun _ c => absurd rfl c) (fun _ c => absurd rfl c) (fun _ c => absurd rfl c) (fun _ c => absurd rfl c) (fun _ c => absurd rfl c) (fun _ c => absurd rfl c) (fun _ _ => z)), rfl, sl_men_3 hx h1, sg_sks.rfl' hk⟩
      | true =>
        rw [h1] at m3
        exact ⟨-2, 0, w, fun Q z => sx_met_of rfl rfl rfl rfl (bSb_mended_0 (f1 := 0) (f2 := 0) (f4 := 0) (f5 := 0) (w1 := w) (w2 := w) (w4 := w) (w5 := w) (fun c => absurd c hx) (fun c => absurd c hx) (fun c => absurd c hx) (fun c => absurd c hx) (fun c => absurd c hx) (fun c => absurd c hx) (fun _ => m3) (fun _ _ c => absurd t0 c) (fun _ _ c => absurd t0 c) (fun _ _ c => absurd t0 c) (fun _ _ c => absurd t0 c) (fun _ _ c => absurd t0 c) (fun _ _ c => absurd t0 c) (fun _ _ _ => z) (fun _ c => absurd c y1)), rfl, sl_men_2 (Or.inr h1), sg_sks.rfl' hk⟩
  | true =>
    have t0 : ¬ w.1 1 7 = 0 := by rw [ht]; exact y1
    have y2 : ¬ (1 : Int32) = 0 := by decide
    obtain ⟨f, w1, m1, hf⟩ := spSe_mend (d := d) h hk
    by_cases hx : x = -1
    · skip
      rcases hf with ⟨rfl, hn, hs⟩ | ⟨rfl, g, w2, m2, hM, hs⟩
      · exact ⟨-4, 0, w1, fun Q z => sx_met_of rfl rfl rfl rfl (bSb_mended_0 (f2 := 0) (f3 := 0) (f4 := 0) (f5 := 0) (w2 := w) (w4 := w) (w5 := w) (fun _ _ => m1) (fun _ _ _ => z) (fun _ _ c => absurd rfl c) (fun _ _ c => absurd rfl c) (fun _ _ c => absurd rfl c) (fun _ c => absurd c t0) (fun c => absurd hx c) (fun c => absurd hx c) (fun c => absurd hx c) (fun c => absurd hx c) (fun c => absurd hx c) (fun c => absurd hx c) (fun c => absurd hx c) (fun c => absurd hx c) (fun c => absurd hx c)), rfl, sl_men_1 (Or.inl hx) (Or.inr ⟨rfl, hn⟩), hs⟩
      · rcases hM with ⟨rfl, c, σ, e11, hc, hM, hj⟩ | ⟨rfl, hn⟩
        · refine ⟨nI c, 0, w2, fun Q z => sx_met_of rfl rfl rfl rfl (bSb_mended_0 (f3 := 0) (f4 := 0) (f5 := 0) (w4 := w) (w5 := w) (fun _ _ => m1) (fun _ _ c => absurd c y2) (fun _ _ _ => m2) (fun _ _ _ _ => by rw [e11]; exact z) (fun _ _ _ c => absurd c y2) (fun _ c => absurd c t0) (fun c => absurd hx c) (fun c => absurd hx c) (fun c => absurd hx c) (fun c => absurd hx c) (fun c => absurd hx c) (fun c => absurd hx c) (fun c => absurd hx c) (fun c => absurd hx c) (fun c => absurd hx c)), rfl, sl_men_1 (Or.inl hx) (Or.inl ⟨c, σ, hM, Or.inl ⟨hx, rfl⟩⟩), hs⟩
        · exact ⟨-4, 0, w2, fun Q z => sx_met_of rfl rfl rfl rfl (bSb_mended_0 (f3 := 0) (f4 := 0) (f5 := 0) (w4 := w) (w5 := w) (fun _ _ => m1) (fun _ _ c => absurd c y2) (fun _ _ _ => m2) (fun _ _ _ c => absurd rfl c) (fun _ _ _ _ => z) (fun _ c => absurd c t0) (fun c => absurd hx c) (fun c => absurd hx c) (fun c => absurd hx c) (fun c => absurd hx c) (fun c => absurd hx c) (fun c => absurd hx c) (fun c => absurd hx c) (fun c => absurd hx c) (fun c => absurd hx c)), rfl, sl_men_1 (Or.inl hx) (Or.inr ⟨rfl, hn⟩), hs⟩
    · cases h1 : sz_in x L.1 with
      | false =>
        rw [h1] at m3
        exact ⟨-1, 0, w, fun Q z => sx_met_of rfl rfl rfl rfl (bSb_mended_0 (f1 := 0) (f2 := 0) (f4 := 0) (f5 := 0) (w1 := w) (w2 := w) (w4 := w) (w5 := w) (fun c => absurd c hx) (fun c => absurd c hx) (fun c => absurd c hx) (fun c => absurd c hx) (fun c => absurd c hx) (fun c => absurd c hx) (fun _ => m3) (fun _ c => absurd rfl c) (fun _ c => absurd rfl c) (fun _ c => absurd rfl c) (fun _ c => absurd rfl c) (fun _ c => absurd rfl c) (fun _ c => absurd rfl c) (fun _ c => absurd rfl c) (fun _ _ => z)), rfl, sl_men_3 hx h1, sg_sks.rfl' hk⟩
      | true =>
        rw [h1] at m3
        obtain ⟨l, hl, rfl⟩ := sz_in_of h1 (by omega)
        have hcl : (nI l).toNatClampNeg = l := nI_clamp (by omega)
        rcases hf with ⟨rfl, hn, hs⟩ | ⟨rfl, g, w2, m2, hM, hs⟩
        · exact ⟨-4, 0, w1, fun Q z => sx_met_of rfl rfl rfl rfl (bSb_mended_0 (f1 := 0) (f2 := 0) (f5 := 0) (w1 := w) (w2 := w) (w5 := w) (fun c => absurd c hx) (fun c => absurd c hx) (fun c => absurd c hx) (fun c => absurd c hx) (fun c => absurd c hx) (fun c => absurd c hx) (fun _ => m3) (fun _ _ _ => m1) (fun _ _ _ _ => z) (fun _ _ _ c => absurd rfl c) (fun _ _ _ c => absurd rfl c) (fun _ _ _ c => absurd rfl c) (fun _ _ _ c => absurd rfl c) (fun _ _ c => absurd c t0) (fun _ c => absurd c y1)), rfl, sl_men_1 (Or.inr h1) (Or.inr ⟨rfl, hn⟩), hs⟩
        · rcases hM with ⟨rfl, c, σ, e11, hc, hM, hj⟩ | ⟨rfl, hn⟩
          · refine ⟨nI (σ l), 0, w2, fun Q z => sx_met_of rfl rfl rfl rfl (bSb_mended_0 (f1 := 0) (f2 := 0) (w1 := w) (w2 := w) (fun c => absurd c hx) (fun c => absurd c hx) (fun c => absurd c hx) (fun c => absurd c hx) (fun c => absurd c hx) (fun c => absurd c hx) (fun _ => m3) (fun _ _ _ => m1) (fun _ _ _ c => absurd c y2) (fun _ _ _ _ => m2) (fun _ _ _ _ _ => vp_in_nI (by omega) (by decide)) (fun _ _ _ _ _ => by rw [hcl, hj l hl]; exact z) (fun _ _ _ _ c => absurd c y2) (fun _ _ c => absurd c t0) (fun _ c => absurd c y1)), rfl, sl_men_1 (Or.inr h1) (Or.inl ⟨c, σ, hM, Or.inr ⟨l, hl, rfl, rfl⟩⟩), hs⟩
          · exact ⟨-4, 0, w2, fun Q z => sx_met_of rfl rfl rfl rfl (bSb_mended_0 (f1 := 0) (f2 := 0) (w1 := w) (w2 := w) (fun c => absurd c hx) (fun c => absurd c hx) (fun c => absurd c hx) (fun c => absurd c hx) (fun c => absurd c hx) (fun c => absurd c hx) (fun _ => m3) (fun _ _ _ => m1) (fun _ _ _ c => absurd c y2) (fun _ _ _ _ => m2) (fun _ _ _ _ c => absurd rfl c) (fun _ _ _ _ c => absurd rfl c) (fun _ _ _ _ _ => z) (fun _ _ c => absurd c t0) (fun _ c => absurd c y1)), rfl, sl_men_1 (Or.inr h1) (Or.inr ⟨rfl, hn⟩), hs⟩
end
