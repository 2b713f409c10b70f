/-! ===== first of the class ===== -/
section
variable {d : Nat} {w : sx_W} {L : sg_L} {b : Nat} {r : Nat → Nat}
theorem spSb_first {x : Int32} (h : sg_Co L b r w) (hk : w.1 16 9 = w.1 1 9 → sg_kF L b (w.1 16 8) (w.1 22)) : sx_x (d + 13) rSb_first [.ref 0, .int x] w (fun f fl w' => fl = 0 ∧ sg_f1 L b x f ∧ (w'.1 16 9 = w'.1 1 9 → sg_kF L b (w'.1 16 8) (w'.1 22)) ∧ (w'.1 16 9 = w.1 16 9 ∨ w'.1 16 9 = w.1 1 9) ∧ (∀ j, j ≠ 8 → j ≠ 9 → w'.1 16 j = w.1 16 j) ∧ sg_fr [16, 17, 18, 19, 20, 21, 22] w w') := by
  have h7 := h.1.1.1
  have m1 := spHo_has (d := d + 12) (x := x) h.1.2.1 h7
  have y1 : ¬ sz_b true = 0 := by decide
  cases h1 : sz_in x L.1 with
  | false =>
    rw [h1] at m1
    exact ⟨-1, 0, w, fun Q z => sx_met_of rfl rfl rfl rfl (bSb_first_0 (f2 := 0) (w2 := w) m1 (fun c => absurd rfl c) (fun c => absurd rfl c) (fun c => absurd rfl c) (fun c => absurd rfl c) (fun _ => z)), rfl, Or.inl ⟨h1, rfl⟩, hk, Or.inl rfl, fun _ _ _ => rfl, sg_fr.rfl'⟩
  | true =>
    rw [h1] at m1
    obtain ⟨l, hl, rfl⟩ := sz_in_of h1 (by omega)
    have hcl : (nI l).toNatClampNeg = l := nI_clamp (by omega)
    obtain ⟨f2, fl, w2, m2, rfl, p1, p2, p3, p4, p5⟩ := spSe_knowsFirst (d := d) h hk
    have hk2 : w2.1 16 9 = w2.1 1 9 → sg_kF L b (w2.1 16 8) (w2.1 22) := fun _ => by rw [p2]; exact p1
    rcases p1 with ⟨rfl, σ, hs, hj⟩ | ⟨rfl, hn⟩
    · refine ⟨nI (σ l), 0, w2, fun Q z => sx_met_of rfl rfl rfl rfl (bSb_first_0 m1 (fun _ => m2) (fun _ c => absurd c (by decide)) (fun _ _ => vp_in_nI (by omega) (by decide)) (fun _ _ => ?_) (fun c => absurd c y1)), rfl, Or.inr ⟨l, hl, rfl, Or.inl ⟨σ, hs, rfl⟩⟩, hk2, Or.inr p3, p4, p5⟩
      rw [hcl, hj l hl]; exact z
    · exact ⟨-4, 0, w2, fun Q z => sx_met_of rfl rfl rfl rfl (bSb_first_0 m1 (fun _ => m2) (fun _ _ => z) (fun _ c => absurd rfl c) (fun _ c => absurd rfl c) (fun c => absurd c y1)), rfl, Or.inr ⟨l, hl, rfl, Or.inr ⟨rfl, hn⟩⟩, hk2, Or.inr p3, p4, p5⟩
end
