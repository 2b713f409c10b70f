/-! ===== first, both sides ===== -/
def sg_f1 (L : sg_L) (b : Nat) (x f : Int32) : Prop := (sz_in x L.1 = false ∧ f = -1) ∨ ∃ l, l < L.1 ∧ x = nI l ∧ ((∃ σ, sg_is1 L b σ ∧ f = nI (σ l)) ∨ (f = -4 ∧ ∀ σ, ¬ sg_gd L b σ))
section
variable {d : Nat} {w : sx_W} {L : sg_L} {b : Nat} {t : Bool} {r : Nat → Nat}
theorem sg_ch_7 {σ : Nat → Nat} (h7 : L.1 ≤ 7) : sg_ch t r σ L.1 ≤ 7 := by
  unfold sg_ch
  split
  · exact Nat.le_trans (fb_ct_le _ _) h7
  · omega
/-- the model's search for one row tells the first, or that there is none -/
theorem spMo_goes1 (h : sg_Mo L b t r w) : sx_x (d + 2) rMo_goes [.ref 48, .int (1 : Int32), .int (7 : Int32)] w (fun f fl w' => fl = 0 ∧ sg_fr [53] w w' ∧ ((f = 1 ∧ ∃ σ, sg_is1 L b σ ∧ ∀ j, j < L.1 → w'.1 53 j = nI (σ j) ∧ σ j < 8) ∨ (f = 0 ∧ ∀ σ, ¬ sg_gd L b σ))) := by
  have h7 := h.1.1.1
  obtain ⟨f, fl, w1, m1, rfl, p1, p2⟩ := spMo_goes (d := d) (bd := 1) (o := 7) h (by decide) (by decide) (by decide)
  refine ⟨f, 0, w1, m1, rfl, p1, ?_⟩
  rcases p2 with ⟨hN, e⟩ | ⟨hN, e, hF⟩
  · refine Or.inr ⟨by rw [e, show sg_N L b t r 7 L.1 0 (fun _ => 0) = 0 by omega]; rfl, fun σ hg => ?_⟩
    have := (sg_N_pos (L := L) (b := b) (t := t) (r := r) (o := 7) L.1 0 (fun _ => 0)).mpr ⟨σ, by rw [Nat.zero_add]; exact sg_E_iff.mpr ⟨hg, sg_ch_7 h7⟩⟩
    omega
  · obtain ⟨σ, hs, hj⟩ := hF rfl
    exact Or.inl ⟨e, σ, ⟨(sg_E_iff.mp hs.1).1, fun τ hτ => hs.2 τ (sg_E_iff.mpr ⟨hτ, sg_ch_7 h7⟩)⟩, hj⟩
theorem spMo_first {x : Int32} (h : sg_Mo L b t r w) : sx_x (d + 3) rMo_first [.ref 48, .int x] w (fun f fl w' => fl = 0 ∧ sg_f1 L b x f ∧ sg_fr [53] w w') := by
  have h7 := h.1.1.1
  have m1 := spMo_isLodger (d := d + 1) (x := x) h.1.2.1 h7
  have y1 : ¬ sz_b true = 0 := by decide
  cases h1 : sz_in x L.1 with
  | false =>
    rw [h1] at m1
    exact ⟨-1, 0, w, fun Q z => sx_met_of rfl rfl rfl rfl (bMo_first_0 (f2 := 0) (w2 := w) m1 (fun c => absurd rfl c) (fun c => absurd rfl c) (fun c => absurd rfl c) (fun c => absurd rfl c) (fun _ => z)), rfl, Or.inl ⟨h1, rfl⟩, sg_fr.rfl'⟩
  | true =>
    rw [h1] at m1
    obtain ⟨l, hl, rfl⟩ := sz_in_of h1 (by omega)
    have hcl : (nI l).toNatClampNeg = l := nI_clamp (by omega)
    obtain ⟨f2, fl, w2, m2, rfl, p1, p2⟩ := spMo_goes1 (d := d) h
    rcases p2 with ⟨rfl, σ, hs, hj⟩ | ⟨rfl, hn⟩
    · refine ⟨nI (σ l), 0, w2, fun Q z => sx_met_of rfl rfl rfl rfl (bMo_first_0 m1 (fun _ => m2) (fun _ _ => vp_in_nI (by omega) (by decide)) (fun _ _ => ?_) (fun _ c => absurd c (by decide)) (fun c => absurd c y1)), rfl, Or.inr ⟨l, hl, rfl, Or.inl ⟨σ, hs, rfl⟩⟩, p1⟩
      rw [hcl, (hj l hl).1]; exact z
    · exact ⟨-4, 0, w2, fun Q z => sx_met_of rfl rfl rfl rfl (bMo_first_0 m1 (fun _ => m2) (fun _ c => absurd rfl c) (fun _ c => absurd rfl c) (fun _ _ => z) (fun c => absurd c y1)), rfl, Or.inr ⟨l, hl, rfl, Or.inr ⟨rfl, hn⟩⟩, p1⟩
end
