/-! ===== take, both sides ===== -/
section
variable {d : Nat} {w : sx_W} {L : sg_L} {b : Nat} {t : Bool} {r : Nat → Nat}
theorem spMo_take (h : sg_Mo L b t r w) : sx_x (d + 3) rMo_take [.ref 48] w (fun f fl w' => fl = 0 ∧ ((∃ σ, sg_is1 L b σ ∧ f = nI L.1 ∧ ∃ w1, sg_fr [53] w w1 ∧ sg_mtell L b σ w1 w') ∨ (f = -4 ∧ (∀ σ, ¬ sg_gd L b σ) ∧ sg_fr [53] w w'))) := by
  obtain ⟨f2, fl, w1, m1, rfl, p1, p2⟩ := spMo_goes1 (d := d) h
  rcases p2 with ⟨rfl, σ, hs, hj⟩ | ⟨rfl, hn⟩
  · have h1 := h.fr' p1 (by decide)
    obtain ⟨f, fl, w2, m2, rfl, rfl, q1⟩ := spMo_takes (d := d + 2) h1 hj
    refine ⟨nI L.1, 0, w2, fun Q z => sx_met_of rfl rfl rfl rfl (bMo_take_0 m1 (fun _ => m2) (fun _ => ?_) (fun c => absurd c (by decide))), rfl, Or.inl ⟨σ, hs, rfl, w1, p1, q1⟩⟩
    rw [q1.1.1.2.1]; exact z
  · exact ⟨-4, 0, w1, fun Q z => sx_met_of rfl rfl rfl rfl (bMo_take_0 (w2 := w1) m1 (fun c => absurd rfl c) (fun c => absurd rfl c) (fun _ => z)), rfl, Or.inr ⟨rfl, hn, p1⟩⟩
theorem spSb_take (h : sg_Co L b r w) (hk : w.1 16 9 = w.1 1 9 → sg_kF L b (w.1 16 8) (w.1 22)) : sx_x (d + 13) rSb_take [.ref 0] w (fun f fl w' => fl = 0 ∧ ∃ w1, sg_kF L b (w1.1 16 8) (w1.1 22) ∧ w1.1 16 9 = w.1 1 9 ∧ (∀ j, j ≠ 8 → j ≠ 9 → w1.1 16 j = w.1 16 j) ∧ sg_fr [16, 17, 18, 19, 20, 21, 22] w w1 ∧ ((∃ σ, sg_is1 L b σ ∧ f = nI L.1 ∧ sg_tell L b σ r w1 w') ∨ (f = -4 ∧ (∀ σ, ¬ sg_gd L b σ) ∧ w' = w1))) := by
  obtain ⟨f2, fl, w1, m1, rfl, p1, p2, p3, p4, p5⟩ := spSe_knowsFirst (d := d) h hk
  have hkF : sg_kF L b (w1.1 16 8) (w1.1 22) := by rw [p2]; exact p1
  rcases p1 with ⟨rfl, σ, hs, hj⟩ | ⟨rfl, hn⟩
  · have h1 := h.fr p5 (by decide)
    obtain ⟨f, fl, w2, m2, rfl, rfl, q1⟩ := spHo_tellRow_22 (d := d + 11) (q := σ) h1 (fun l hl => ⟨hj l hl, hs.1.1 l hl⟩)
    refine ⟨nI L.1, 0, w2, fun Q z => sx_met_of rfl rfl rfl rfl (bSb_take_0 m1 (fun _ => m2) (fun _ => ?_) (fun c => absurd c (by decide))), rfl, w1, hkF, p3, p4, p5, Or.inl ⟨σ, hs, rfl, q1⟩⟩
    rw [q1.1.1.2.1]; exact z
  · exact ⟨-4, 0, w1, fun Q z => sx_met_of rfl rfl rfl rfl (bSb_take_0 (w2 := w1) m1 (fun c => absurd rfl c) (fun c => absurd rfl c) (fun _ => z)), rfl, w1, hkF, p3, p4, p5, Or.inr ⟨rfl, hn, rfl⟩⟩
end
