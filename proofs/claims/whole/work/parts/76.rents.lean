/-! ===== rents, both sides ===== -/
def sl_rn (L : sg_L) (b : Nat) (x f : Int32) : Prop := if x = -1 ∨ sz_in x 8 = true then sg_rA L b x f else f = -1
section
variable {d : Nat} {w : sx_W} {L : sg_L} {b : Nat} {t : Bool} {r : Nat → Nat}
theorem sl_m1 {p : Nat} (hp : p < 8) (e : (-1 : Int32) = nI p) : False := (by decide +kernel : ∀ k, k < 8 → ¬ (-1 : Int32) = nI k) p hp e
theorem sg_rA_one {x f g : Int32} (h1 : sg_rA L b x f) (h2 : sg_rA L b x g) : f = g := by
  rcases h1 with ⟨R, hR, h1⟩ | ⟨rfl, hn⟩
  · rcases h2 with ⟨T, hT, h2⟩ | ⟨rfl, hn⟩
    · obtain ⟨e, ej⟩ := sg_isL_one hR hT
      rcases h1 with ⟨rfl, rfl⟩ | ⟨p, hp, rfl, rfl⟩
      · rcases h2 with ⟨_, rfl⟩ | ⟨p, hp, e2, _⟩
        · rw [e]
        · exact absurd e2 (fun c => sl_m1 hp c)
      · rcases h2 with ⟨e2, _⟩ | ⟨q, hq, e2, rfl⟩
        · exact absurd e2.symm (fun c => sl_m1 hp c)
        · have := (nI_eq (show p < 2 ^ 31 by omega) (show q < 2 ^ 31 by omega)).mp e2
          subst this
          rw [ej p hp]
    · exact absurd hR.2.1 (by rw [hn R hR.1]; decide)
  · rcases h2 with ⟨T, hT, h2⟩ | ⟨rfl, _⟩
    · exact absurd hT.2.1 (by rw [hn T hT.1]; decide)
    · rfl
theorem sl_rn_one {x f g : Int32} (h1 : sl_rn L b x f) (h2 : sl_rn L b x g) : f = g := by
  unfold sl_rn at h1 h2
  by_cases c : x = -1 ∨ sz_in x 8 = true
  · rw [if_pos c] at h1 h2
    exact sg_rA_one h1 h2
  · rw [if_neg c] at h1 h2
    rw [h1, h2]
theorem sl_rn_1 {x f : Int32} (h : x = -1 ∨ sz_in x 8 = true) (hm : sg_rA L b x f) : sl_rn L b x f := by
  unfold sl_rn
  rw [if_pos h]; exact hm
theorem sl_rn_2 {x : Int32} (hx : ¬ x = -1) (h : sz_in x 8 = false) : sl_rn L b x (-1) := by
  unfold sl_rn
  rw [if_neg (fun c => c.elim hx (fun e => by rw [h] at e; exact Bool.false_ne_true e))]
theorem spMo_rentsA {x : Int32} (h : sg_Mo L b t r w) : sx_x (d + 3) rMo_rents [.ref 48, .int x] w (fun f fl w' => fl = 0 ∧ sl_rn L b x f ∧ sg_fr [53, 54] w w') := by
  by_cases hx : x = -1 ∨ sz_in x 8 = true
  · obtain ⟨f, fl, w', m, p1, p2, p3⟩ := spMo_rents (d := d) (x := x) h (hx.elim Or.inl (fun e => Or.inr (sz_in_of e (by decide))))
    exact ⟨f, fl, w', m, p1, sl_rn_1 hx p2, p3⟩
  · have hx1 : ¬ x = -1 := fun e => hx (Or.inl e)
    have hx2 : sz_in x 8 = false := by
      cases h1 : sz_in x 8 with
      | false => rfl
      | true => exact absurd (Or.inr h1) hx
    have hin : sx_de (d + 2) rMo_in [.long x.toInt64, .long (-1 : Int64), .long (lN 7)] w 0 0 w := by
      have := spMo_in (d := d + 2) (w := w) (x := x.toInt64) (y := -1) (z := lN 7)
      rw [decide_eq_false (by
        rw [Int32.toInt_toInt64, show (-1 : Int64).toInt = -1 from rfl, show (lN 7).toInt = 7 from rfl]
        intro c
        have n1 := sz_in_no.mp hx2
        have n2 : ¬ x.toInt = -1 := fun e => hx1 (Int32.toInt_inj.mp e)
        omega)] at this
      exact this
    exact ⟨-1, 0, w, fun Q z => sx_met_of rfl rfl rfl rfl (bMo_rents_0 hin (fun c => absurd rfl c) (fun _ => z)), rfl, sl_rn_2 hx1 hx2, sg_fr.rfl'⟩
theorem sg_clr_gd {R : Nat → Nat} (h : sg_clr L b R = true) : sg_gd L b (sg_best L R) := by
  have h1 := sz_all_iff.mp h
  have h2 : ∀ l, l < L.1 → sg_best L R l < 8 ∧ sg_fit L b (sg_best L R) l = true := fun l hl => sg_bad_no (by
    have := h1 l hl
    simpa using this)
  exact ⟨fun l hl => (h2 l hl).1, sz_all_iff.mpr (fun l hl => (h2 l hl).2)⟩
def sg_kr (L : sg_L) (b : Nat) (w : sx_W) : Prop := (w.1 16 9 = w.1 1 9 → sg_kF L b (w.1 16 8) (w.1 22)) ∧ (w.1 24 6 = w.1 1 9 → sg_kL L b (w.1 24 5) (w.1 24 4) (w.1 26))
def sg_rks (L : sg_L) (b : Nat) (w w' : sx_W) : Prop := sg_kr L b w' ∧ sg_ao w w' 16 9 9 ∧ sg_ao w w' 24 6 9 ∧ (∀ j, j ≠ 8 → j ≠ 9 → w'.1 16 j = w.1 16 j) ∧ sg_fr [16, 17, 18, 19, 20, 21, 22, 24, 25, 26] w w'
theorem spMa_both (h : sg_Co L b r w) (hk : sg_kr L b w) : ∃ (f : Int32) (w1 : sx_W), sx_de (d + 13) rSe_knowsFirst [.ref 16] w f 0 w1 ∧ ((f = 0 ∧ (∀ σ, ¬ sg_gd L b σ) ∧ sg_rks L b w w1) ∨ (f = 1 ∧ ∃ (g : Int32) (w2 : sx_W), sx_de (d + 13) rMa_knowsLeast [.ref 24] w1 g 0 w2 ∧ sg_kL L b g (w2.1 24 4) (w2.1 26) ∧ sg_rks L b w w2)) := by
  obtain ⟨f2, fl, w1, m1, rfl, p1, p2, p3, p4, p5⟩ := spSe_knowsFirst (d := d + 1) h hk.1
  have hkF : sg_kF L b (w1.1 16 8) (w1.1 22) := by rw [p2]; exact p1
  have e1 : w1.1 1 = w.1 1 := (p5 1 (by decide)).1
  have e24 : w1.1 24 = w.1 24 := (p5 24 (by decide)).1
  have e26 : w1.1 26 = w.1 26 := (p5 26 (by decide)).1
  have hk1 : sg_kr L b w1 := ⟨fun _ => hkF, fun c => by
    rw [e24, e1] at c
    rw [e24, e26]
    exact hk.2 c⟩
  have s1 : sg_rks L b w w1 := ⟨hk1, Or.inr p3, Or.inl (by rw [e24]), p4, p5.mono (by decide)⟩
  refine ⟨f2, w1, m1, ?_⟩
  rcases p1 with ⟨rfl, _⟩ | ⟨rfl, hn⟩
  · refine Or.inr ⟨rfl, ?_⟩
    obtain ⟨g, fl, w2, m2, rfl, q1, q2, q3, q5⟩ := spMa_knowsLeast (d := d) (h.fr p5 (by decide)) hk1.2
    have e2 : w2.1 1 = w1.1 1 := (q5 1 (by decide)).1
    have e16 : w2.1 16 = w1.1 16 := (q5 16 (by decide)).1
    have e22 : w2.1 22 = w1.1 22 := (q5 22 (by decide)).1
    refine ⟨g, w2, m2, q1, ⟨fun _ => ?_, fun _ => ?_⟩, Or.inr ?_, Or.inr ?_, fun j c1 c2 => ?_, (p5.mono (by decide)).trans (q5.mono (by decide))⟩
    · rw [e16, e22]; exact hkF
    · rw [q2]; exact q1
    · rw [e16]; exact p3
    · rw [q3, e1]
    · rw [e16]; exact p4 j c1 c2
  · exact Or.inl ⟨rfl, hn, s1⟩
theorem sg_no_rents (hn : ∀ σ, ¬ sg_gd L b σ) : ∀ R, (∀ p, p < 8 → R p ≤ 2) → sg_clr L b R = false := fun R _ => by
  cases h1 : sg_clr L b R with
  | false => rfl
  | true => exact absurd (sg_clr_gd h1) (hn _)
theorem spSb_rents {x : Int32} (h : sg_Co L b r w) (hk : sg_kr L b w) : sx_x (d + 14) rSb_rents [.ref 0, .int x] w (fun f fl w' => fl = 0 ∧ sl_rn L b x f ∧ sg_rks L b w w') := by
  have m3 := spSb_isPart (d := d + 13) (w := w) (x := x)
  have y1 : ¬ sz_b true = 0 := by decide
  have y2 : ¬ (1 : Int32) = 0 := by decide
  obtain ⟨f, w1, m1, hf⟩ := spMa_both (d := d) h hk
  by_cases hx : x = -1
  · rcases hf with ⟨rfl, hn, hs⟩ | ⟨rfl, g, w2, m2, hL, hs⟩
    · exact ⟨-4, 0, w1, fun Q z => sx_met_of rfl rfl rfl rfl (bSb_rents_0 (f2 := 0) (f3 := 0) (f4 := 0) (f5 := 0) (w2 := w) (w4 := w) (w5 := w) (fun _ => m1) (fun _ _ => z) (fun _ c => absurd rfl c) (fun _ c => absurd rfl c) (fun _ c => absurd rfl c) (fun c => absurd hx c) (fun c => absurd hx c) (fun c => absurd hx c) (fun c => absurd hx c) (fun c => absurd hx c) (fun c => absurd hx c) (fun c => absurd hx c) (fun c => absurd hx c)), rfl, sl_rn_1 (Or.inl hx) (Or.inr ⟨rfl, sg_no_rents hn⟩), hs⟩
    · rcases hL with ⟨rfl, R, hR, e4, hj⟩ | ⟨rfl, hn⟩
      · exact ⟨nI (fb_sm R 8), 0, w2, fun Q z => sx_met_of rfl rfl rfl rfl (bSb_rents_0 (f3 := 0) (f4 := 0) (f5 := 0) (w4 := w) (w5 := w) (fun _ => m1) (fun _ c => absurd c y2) (fun _ _ => m2) (fun _ _ _ => by rw [e4]; exact z) (fun _ _ c => absurd c y2) (fun c => absurd hx c) (fun c => absurd hx c) (fun c => absurd hx c) (fun c => absurd hx c) (fun c => absurd hx c) (fun c => absurd hx c) (fun c => absurd hx c) (fun c => absurd hx c)), rfl, sl_rn_1 (Or.inl hx) (Or.inl ⟨R, hR, Or.inl ⟨hx, rfl⟩⟩), hs⟩
      · exact ⟨-4, 0, w2, fun Q z => sx_met_of rfl rfl rfl rfl (bSb_rents_0 (f3 := 0) (f4 := 0) (f5 := 0) (w4 := w) (w5 := w) (fun _ => m1) (fun _ c => absurd c y2) (fun _ _ => m2) (fun _ _ c => absurd rfl c) (fun _ _ _ => z) (fun c => absurd hx c) (fun c => absurd hx c) (fun c => absurd hx c) (fun c => absurd hx c) (fun c => absurd hx c) (fun c => absurd hx c) (fun c => absurd hx c) (fun c => absurd hx c)), rfl, sl_rn_1 (Or.inl hx) (Or.inr ⟨rfl, hn⟩), hs⟩
  · cases h1 : sz_in x 8 with
    | false =>
      rw [h1] at m3
      refine ⟨-1, 0, w, fun Q z => sx_met_of rfl rfl rfl rfl (bSb_rents_0 (f1 := 0) (f2 := 0) (f4 := 0) (f5 := 0) (w1 := w) (w2 := w) (w4 := w) (w5 := w) (fun c => absurd c hx) (fun c => absurd c hx) (fun c => absurd c hx) (fun c => absurd c hx) (fun c => absurd c hx) (fun _ => m3) (fun _ c => absurd rfl c) (fun _ c => absurd rfl c) (fun _ c => absurd rfl c) (fun _ c => absurd rfl c) (fun _ c => absurd rfl c) (fun _ c => absurd rfl c) (fun _ _ => z)), rfl, sl_rn_2 hx h1, hk, Or.inl rfl, Or.inl rfl, fun _ _ _ => rfl, sg_fr.rfl'⟩
    | true =>
      rw [h1] at m3
      obtain ⟨p, hp, e⟩ := sz_in_of h1 (by decide)
      have hcl : x.toNatClampNeg = p := by rw [e]; exact nI_clamp (by omega)
      rcases hf with ⟨rfl, hn, hs⟩ | ⟨rfl, g, w2, m2, hL, hs⟩
      · exact ⟨-4, 0, w1, fun Q z => sx_met_of rfl rfl rfl rfl (bSb_rents_0 (f1 := 0) (f2 := 0) (f5 := 0) (w1 := w) (w2 := w) (w5 := w) (fun c => absurd c hx) (fun c => absurd c hx) (fun c => absurd c hx) (fun c => absurd c hx) (fun c => absurd c hx) (fun _ => m3) (fun _ _ => m1) (fun _ _ _ => z) (fun _ _ c => absurd rfl c) (fun _ _ c => absurd rfl c) (fun _ _ c => absurd rfl c) (fun _ _ c => absurd rfl c) (fun _ c => absurd c y1)), rfl, sl_rn_1 (Or.inr h1) (Or.inr ⟨rfl, sg_no_rents hn⟩), hs⟩
      · rcases hL with ⟨rfl, R, hR, e4, hj⟩ | ⟨rfl, hn⟩
        · exact ⟨nI (R p), 0, w2, fun Q z => sx_met_of rfl rfl rfl rfl (bSb_rents_0 (f1 := 0) (f2 := 0) (w1 := w) (w2 := w) (fun c => absurd c hx) (fun c => absurd c hx) (fun c => absurd c hx) (fun c => absurd c hx) (fun c => absurd c hx) (fun _ => m3) (fun _ _ => m1) (fun _ _ c => absurd c y2) (fun _ _ _ => m2) (fun _ _ _ _ => sz_in_vp h1) (fun _ _ _ _ => by rw [hcl, hj p hp]; exact z) (fun _ _ _ c => absurd c y2) (fun _ c => absurd c y1)), rfl, sl_rn_1 (Or.inr h1) (Or.inl ⟨R, hR, Or.inr ⟨p, hp, e, rfl⟩⟩), hs⟩
        · exact ⟨-4, 0, w2, fun Q z => sx_met_of rfl rfl rfl rfl (bSb_rents_0 (f1 := 0) (f2 := 0) (w1 := w) (w2 := w) (fun c => absurd c hx) (fun c => absurd c hx) (fun c => absurd c hx) (fun c => absurd c hx) (fun c => absurd c hx) (fun _ => m3) (fun _ _ => m1) (fun _ _ c => absurd c y2) (fun _ _ _ => m2) (fun _ _ _ c => absurd rfl c) (fun _ _ _ c => absurd rfl c) (fun _ _ _ _ => z) (fun _ c => absurd c y1)), rfl, sl_rn_1 (Or.inr h1) (Or.inr ⟨rfl, hn⟩), hs⟩
end
