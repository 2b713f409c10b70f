/-! ===== mended, both sides ===== -/
def sl_mn (L : sg_L) (b : Nat) (r : Nat → Nat) (x f : Int32) : Prop := (∃ c σ, sg_isM L b r c σ ∧ ((x = -1 ∧ f = nI c) ∨ ∃ l, l < L.1 ∧ x = nI l ∧ f = nI (σ l))) ∨ (f = -4 ∧ ∀ σ, ¬ sg_gd L b σ)
def sl_men (L : sg_L) (b : Nat) (t : Bool) (r : Nat → Nat) (x f : Int32) : Prop := if x = -1 ∨ sz_in x L.1 = true then (if t then sl_mn L b r x f else f = -2) else f = -1
section
variable {d : Nat} {w : sx_W} {L : sg_L} {b : Nat} {t : Bool} {r : Nat → Nat}
theorem sg_gr_le {c c' : Nat} {σ : Nat → Nat} (h : sg_gr L b r c σ) (hc : c ≤ c') : sg_gr L b r c' σ := ⟨h.1, h.2.1, Nat.le_trans h.2.2 hc⟩
theorem sl_mn_one {x f g : Int32} (h7 : L.1 ≤ 7) (h1 : sl_mn L b r x f) (h2 : sl_mn L b r x g) : f = g := by
  rcases h1 with ⟨c, σ, hM, h1⟩ | ⟨rfl, hn⟩
  · rcases h2 with ⟨c2, τ, hM2, h2⟩ | ⟨rfl, hn⟩
    · obtain ⟨e, ej⟩ := sg_isM_one hM hM2
      rcases h1 with ⟨rfl, rfl⟩ | ⟨l, hl, rfl, rfl⟩
      · rcases h2 with ⟨_, rfl⟩ | ⟨l, hl, e2, _⟩
        · rw [e]
        · exact absurd e2 ((by decide +kernel : ∀ k, k < 7 → ¬ (-1 : Int32) = nI k) l (by omega))
      · rcases h2 with ⟨e2, _⟩ | ⟨l2, hl2, e2, rfl⟩
        · exact absurd e2.symm ((by decide +kernel : ∀ k, k < 7 → ¬ (-1 : Int32) = nI k) l (by omega))
        · have := (nI_eq (show l < 2 ^ 31 by omega) (show l2 < 2 ^ 31 by omega)).mp e2
          subst this
          rw [ej l hl]
    · exact absurd ⟨hM.1.1.1, hM.1.1.2.1⟩ (hn σ)
  · rcases h2 with ⟨c2, τ, hM2, h2⟩ | ⟨rfl, _⟩
    · exact absurd ⟨hM2.1.1.1, hM2.1.1.2.1⟩ (hn τ)
    · rfl
theorem sl_men_one {x f g : Int32} (h7 : L.1 ≤ 7) (h1 : sl_men L b t r x f) (h2 : sl_men L b t r x g) : f = g := by
  unfold sl_men at h1 h2
  by_cases c : x = -1 ∨ sz_in x L.1 = true
  · rw [if_pos c] at h1 h2
    cases t with
    | true => exact sl_mn_one h7 h1 h2
    | false => exact (show f = -2 from h1).trans (show g = -2 from h2).symm
  · rw [if_neg c] at h1 h2
    rw [h1, h2]
theorem sl_men_1 {x f : Int32} (h : x = -1 ∨ sz_in x L.1 = true) (hm : sl_mn L b r x f) : sl_men L b true r x f := by
  unfold sl_men
  rw [if_pos h]; exact hm
theorem sl_men_2 {x : Int32} (h : x = -1 ∨ sz_in x L.1 = true) : sl_men L b false r x (-2) := by
  unfold sl_men
  rw [if_pos h]; rfl
theorem sl_men_3 {x : Int32} (hx : ¬ x = -1) (h : sz_in x L.1 = false) : sl_men L b t r x (-1) := by
  unfold sl_men
  rw [if_neg (fun c => c.elim hx (fun e => by rw [h] at e; exact Bool.false_ne_true e))]
/-- the model's search for one row that is at most so far from the told one -/
theorem spMo_goesN {n : Nat} (h : sg_Mo L b true r w) (hn : n < 100) : sx_x (d + 2) rMo_goes [.ref 48, .int (1 : Int32), .int (nI n)] w (fun f fl w' => fl = 0 ∧ sg_fr [53] w w' ∧ ((f = 1 ∧ ∃ σ, (sg_gr L b r n σ ∧ ∀ τ, sg_gr L b r n τ → sg_le L.1 σ τ) ∧ ∀ j, j < L.1 → w'.1 53 j = nI (σ j) ∧ σ j < 8) ∨ (f = 0 ∧ ∀ σ, ¬ sg_gr L b r n σ))) := by
  obtain ⟨f, fl, w1, m1, rfl, p1, p2⟩ := spMo_goes (d := d) (bd := 1) (o := n) h (by decide) (by decide) (by omega)
  refine ⟨f, 0, w1, m1, rfl, p1, ?_⟩
  rcases p2 with ⟨hN, e⟩ | ⟨hN, e, hF⟩
  · refine Or.inr ⟨by rw [e, show sg_N L b true r n L.1 0 (fun _ => 0) = 0 by omega]; rfl, fun σ hg => ?_⟩
    have := (sg_N_pos (L := L) (b := b) (t := true) (r := r) (o := n) L.1 0 (fun _ => 0)).mpr ⟨σ, by rw [Nat.zero_add]; exact sg_E_gr.mpr hg⟩
    omega
  · obtain ⟨σ, hs, hj⟩ := hF rfl
    exact Or.inl ⟨e, σ, ⟨sg_E_gr.mp hs.1, fun τ hτ => hs.2 τ (sg_E_gr.mpr hτ)⟩, hj⟩
theorem spMo_mended {x : Int32} (h : sg_Mo L b t r w) : sx_x (d + 3) rMo_mended [.ref 48, .int x] w (fun f fl w' => fl = 0 ∧ sl_men L b t r x f ∧ sg_fr [53] w w') := by
  have h7 := h.1.1.1
  have m1 := spMo_isLodger (d := d + 1) (x := x) h.1.2.1 h7
  have y1 : ¬ sz_b true = 0 := by decide
  have loop : t = true → (x = -1 ∨ sz_in x L.1 = true) → ∀ n, n ≤ L.1 + 1 → ∀ u, sg_fr [53] w u → (∀ c, c < n → ∀ τ, ¬ sg_gr L b r c τ) → sx_xe (d + 3) rMo_mended 27 [.ref 48, .int x, .int (nI n)] u (fun f fl w' => fl = 0 ∧ sl_mn L b r x f ∧ sg_fr [53] w w') := by
    intro ht hx
    subst ht
    refine sx_for (L.1 + 1) (fun u hF hc => ?_) (fun n hn ih u hF hc => ?_)
    · have hu := h.fr' hF (by decide)
      have c : u.1 48 0 < nI (L.1 + 1) := by rw [hu.1.2.1, nI_ltI (by omega) (by omega)]; omega
      refine ⟨-4, 0, u, fun Q z => bMo_mended_27 (f1 := 0) (w1 := u) (fun _ => z) (fun x => absurd c x) (fun x => absurd c x) (fun x => absurd c x) (fun x => absurd c x) (fun x => absurd c x), rfl, Or.inr ⟨rfl, fun σ hg => hc L.1 (by omega) σ ((sg_gr_gd (Nat.le_refl _)).mpr hg)⟩, hF⟩
    · have hu := h.fr' hF (by decide)
      have c : ¬ u.1 48 0 < nI n := by rw [hu.1.2.1, nI_ltI (by omega) (by omega)]; omega
      obtain ⟨f2, fl, u2, m2, rfl, p1, p2⟩ := spMo_goesN (d := d) (n := n) hu (by omega)
      rcases p2 with ⟨rfl, σ, hs, hj⟩ | ⟨rfl, hno⟩
      · have hM : sg_isM L b r n σ := ⟨hs, hc⟩
        rcases hx with rfl | hx
        · exact ⟨nI n, 0, u2, fun Q z => bMo_mended_27 (fun x => absurd x c) (fun _ => m2) (fun _ x => absurd x (by decide)) (fun _ _ x => absurd x (by decide)) (fun _ _ x => absurd x (by decide)) (fun _ _ _ => z), rfl, Or.inl ⟨n, σ, hM, Or.inl ⟨rfl, rfl⟩⟩, hF.trans p1⟩
        · obtain ⟨l, hl, rfl⟩ := sz_in_of hx (by omega)
          have hcl : (nI l).toNatClampNeg = l := nI_clamp (by omega)
          have c0 : (0 : Int32) ≤ nI l := (by decide +kernel : ∀ k, k < 7 → (0 : Int32) ≤ nI k) l (by omega)
          refine ⟨nI (σ l), 0, u2, fun Q z => bMo_mended_27 (fun x => absurd x c) (fun _ => m2) (fun _ x => absurd x (by decide)) (fun _ _ _ => vp_in_nI (by omega) (by decide)) (fun _ _ _ => ?_) (fun _ _ x => absurd c0 x), rfl, Or.inl ⟨n, σ, hM, Or.inr ⟨l, hl, rfl, rfl⟩⟩, hF.trans p1⟩
          rw [hcl, (hj l hl).1]; exact z
      · obtain ⟨f, fl, w', hev, hp⟩ := ih u2 (hF.trans p1) (fun c' hc' => by
          by_cases e : c' = n
          · rw [e]; exact hno
          · exact hc c' (by omega))
        refine ⟨f, fl, w', fun Q z => bMo_mended_27 (fun x => absurd x c) (fun _ => m2) (fun _ _ => ?_) (fun _ x => absurd (by decide) x) (fun _ x => absurd (by decide) x) (fun _ x => absurd (by decide) x), hp⟩
        rw [nI_1]; exact hev Q z
  cases t with
  | false =>
    have t0 : w.1 48 5 = 0 := h.2.2.2.1
    by_cases hx : x = -1
    · skip
      exact ⟨-2, 0, w, fun Q z => sx_met_of rfl rfl rfl rfl (bMo_mended_0 (f1 := 0) (fun _ c => absurd t0 c) (fun _ _ => z) (fun c => absurd hx c) (fun c => absurd hx c) (fun c => absurd hx c) (fun c => absurd hx c)), rfl, sl_men_2 (Or.inl hx), sg_fr.rfl'⟩
    · cases h1 : sz_in x L.1 with
      | false =>
        rw [h1] at m1
        exact ⟨-1, 0, w, fun Q z => sx_met_of rfl rfl rfl rfl (bMo_mended_0 (fun c => absurd c hx) (fun c => absurd c hx) (fun _ => m1) (fun _ c => absurd rfl c) (fun _ c => absurd rfl c) (fun _ _ => z)), rfl, sl_men_3 hx h1, sg_fr.rfl'⟩
      | true =>
        rw [h1] at m1
        exact ⟨-2, 0, w, fun Q z => sx_met_of rfl rfl rfl rfl (bMo_mended_0 (fun c => absurd c hx) (fun c => absurd c hx) (fun _ => m1) (fun _ _ c => absurd t0 c) (fun _ _ _ => z) (fun _ c => absurd c y1)), rfl, sl_men_2 (Or.inr h1), sg_fr.rfl'⟩
  | true =>
    have t0 : ¬ w.1 48 5 = 0 := by rw [h.2.2.2.1]; exact y1
    by_cases hx : x = -1
    · skip
      obtain ⟨f, fl, w', hev, hp⟩ := loop rfl (Or.inl hx) 0 (by omega) w sg_fr.rfl' (fun c hc => absurd hc (Nat.not_lt_zero c))
      exact ⟨f, fl, w', fun Q z => sx_met_of rfl rfl rfl rfl (bMo_mended_0 (f1 := 0) (fun _ _ => hev Q z) (fun _ c => absurd c t0) (fun c => absurd hx c) (fun c => absurd hx c) (fun c => absurd hx c) (fun c => absurd hx c)), hp.1, sl_men_1 (Or.inl hx) hp.2.1, hp.2.2⟩
    · cases h1 : sz_in x L.1 with
      | false =>
        rw [h1] at m1
        exact ⟨-1, 0, w, fun Q z => sx_met_of rfl rfl rfl rfl (bMo_mended_0 (fun c => absurd c hx) (fun c => absurd c hx) (fun _ => m1) (fun _ c => absurd rfl c) (fun _ c => absurd rfl c) (fun _ _ => z)), rfl, sl_men_3 hx h1, sg_fr.rfl'⟩
      | true =>
        rw [h1] at m1
        obtain ⟨f, fl, w', hev, hp⟩ := loop rfl (Or.inr h1) 0 (by omega) w sg_fr.rfl' (fun c hc => absurd hc (Nat.not_lt_zero c))
        exact ⟨f, fl, w', fun Q z => sx_met_of rfl rfl rfl rfl (bMo_mended_0 (fun c => absurd c hx) (fun c => absurd c hx) (fun _ => m1) (fun _ _ _ => hev Q z) (fun _ _ c => absurd c t0) (fun _ c => absurd c y1)), hp.1, sl_men_1 (Or.inr h1) hp.2.1, hp.2.2⟩
end
