/-! ===== take, the model ===== -/
section
variable {d : Nat} {w : sx_W} {L : sg_L} {b : Nat} {t : Bool} {r : Nat → Nat}
theorem spMo_takes {q : Nat → Nat} (h : sg_Mo L b t r w) (hq : ∀ j, j < L.1 → w.1 53 j = nI (q j) ∧ q j < 8) : sx_x d rMo_takes [.ref 48] w (fun f fl w' => f = 0 ∧ fl = 0 ∧ sg_mtell L b q w w') := by
  have h7 := h.1.1.1
  have loop : ∀ l, l ≤ L.1 → ∀ u, sg_fr [52] w u → (∀ j, j < l → u.1 52 j = nI (q j)) → sx_xe d rMo_takes 2 [.ref 48, .int (nI l)] u (fun f fl w' => f = 0 ∧ fl = 0 ∧ sg_mtell L b q w w') := by
    refine sx_for L.1 (fun u hf hu => ?_) (fun l hl ih u hf hu => ?_)
    · have hM : sg_M L u := h.1.fr hf (by decide) (by decide) (by decide) (by decide)
      have c : u.1 48 0 ≤ nI L.1 := by rw [hM.2.1]; exact nI_le (Nat.le_refl _) (by omega)
      have e48 : ∀ j, j ≠ 5 → sx_u u.1 48 5 1 48 j = w.1 48 j := fun j hj => by rw [sx_u_s, if_neg hj, (hf 48 (by decide)).1]
      have fr2 : sg_fr [48, 52] w (sx_u u.1 48 5 1, u.2) := (hf.mono (by decide)).trans (fun a ha2 => ⟨sx_u_o (fun e => ha2 (by rw [e]; decide)), rfl⟩)
      refine ⟨0, 0, (sx_u u.1 48 5 1, u.2), fun Q z => bMo_takes_2 (fun _ => z) (fun x => absurd c x) (fun x => absurd c x), rfl, rfl, ⟨⟨h.1.1, ?_, fun j hj => ?_⟩, ?_, h.2.2.1, ?_, fun _ j hj => ?_⟩, fr2, e48⟩
      · show sx_u u.1 48 5 1 48 0 = _
        rw [e48 0 (by decide)]; exact h.1.2.1
      · rw [(fr2 49 (by decide)).1, (fr2 50 (by decide)).1, (fr2 51 (by decide)).1]; exact h.1.2.2 j hj
      · show sx_u u.1 48 5 1 48 6 = _
        rw [e48 6 (by decide)]; exact h.2.1
      · show sx_u u.1 48 5 1 48 5 = _
        rw [sx_u_s, if_pos rfl]; rfl
      · show sx_u u.1 48 5 1 52 j = _ ∧ _
        rw [sx_u_o (by decide)]
        exact ⟨hu j hj, (hq j hj).2⟩
    · have hM : sg_M L u := h.1.fr hf (by decide) (by decide) (by decide) (by decide)
      have nn : ¬ u.1 48 0 ≤ nI l := by rw [hM.2.1]; exact nI_ge hl (by omega)
      have hcl : (nI l).toNatClampNeg = l := nI_clamp (by omega)
      have e53 : u.1 53 l = nI (q l) := by rw [(hf 53 (by decide)).1]; exact (hq l hl).1
      obtain ⟨f, fl, w', hev, hp⟩ := ih (sx_u u.1 52 l (nI (q l)), u.2) (hf.trans (fun a ha2 => ⟨sx_u_o (fun e => ha2 (by rw [e]; decide)), rfl⟩)) (fun j hj => by
        show sx_u u.1 52 l (nI (q l)) 52 j = _
        rw [sx_u_s]
        by_cases c : j = l
        · rw [if_pos c, c]
        · rw [if_neg c]; exact hu j (by omega))
      refine ⟨f, fl, w', fun Q z => bMo_takes_2 (fun c => absurd c nn) (fun _ => vp_in_nI (by omega) (by decide)) (fun _ => ?_), hp⟩
      rw [hcl, e53, nI_1]; exact hev Q z
  obtain ⟨f, fl, w', hev, hp⟩ := loop 0 (Nat.zero_le _) w sg_fr.rfl' (fun j hj => by omega)
  exact ⟨f, fl, w', fun Q z => sx_met_of rfl rfl rfl rfl (bMo_takes_0 (hev Q z)), hp⟩
end
