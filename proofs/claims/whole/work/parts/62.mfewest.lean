/-! ===== fewest of the model ===== -/
section
variable {d : Nat} {w : sx_W} {L : sg_L} {b : Nat} {t : Bool} {r : Nat → Nat}
def sg_fw (L : sg_L) (c : Nat) (f : Int32) : Prop := (∃ e, c < e ∧ e ≤ 7 ∧ f = nI e ∧ (∃ σ, sg_gd L e σ) ∧ ∀ c', c < c' → c' < e → ∀ σ, ¬ sg_gd L c' σ) ∨ (f = -4 ∧ ∀ c', c < c' → c' ≤ 7 → ∀ σ, ¬ sg_gd L c' σ)
theorem sg_fw_0 {f : Int32} (h : sg_fw L 0 f) : sg_few L f := by
  rcases h with ⟨e, h1, h2, h3, h4, h5⟩ | ⟨h1, h2⟩
  · exact Or.inl ⟨e, h1, h2, h3, h4, fun c' a b => h5 c' a b⟩
  · exact Or.inr ⟨h1, fun c a b => h2 c a b⟩
theorem sg_fw_yes {c : Nat} {f : Int32} (hc : 1 ≤ c) (h7 : c ≤ 7) (hg : ∃ σ, sg_gd L c σ) : sg_fw L (c - 1) (nI c) := Or.inl ⟨c, by omega, h7, rfl, hg, fun c' a b => by omega⟩
theorem sg_fw_no {c : Nat} {f : Int32} (hc : 1 ≤ c) (h : sg_fw L c f) (hg : ∀ σ, ¬ sg_gd L c σ) : sg_fw L (c - 1) f := by
  rcases h with ⟨e, h1, h2, h3, h4, h5⟩ | ⟨h1, h2⟩
  · refine Or.inl ⟨e, by omega, h2, h3, h4, fun c' a b => ?_⟩
    by_cases e1 : c' = c
    · rw [e1]; exact hg
    · exact h5 c' (by omega) b
  · refine Or.inr ⟨h1, fun c' a b => ?_⟩
    by_cases e1 : c' = c
    · rw [e1]; exact hg
    · exact h2 c' (by omega) b
theorem spMo_fewest (h : sg_Mo L b t r w) : sx_x (d + 3) rMo_fewest [.ref 48] w (fun f fl w' => fl = 0 ∧ sg_few L f ∧ sg_Mo L b t r w' ∧ sg_fr [48, 53] w w' ∧ ∀ j, w'.1 48 j = w.1 48 j) := by
  have h7 := h.1.1.1
  have loop : ∀ c, c ≤ 7 → ∀ u f, sg_fr [48, 53] w u → (∀ j, j ≠ 6 → u.1 48 j = w.1 48 j) → sg_fw L c f → sx_xe (d + 3) rMo_fewest 11 [.ref 48, .int (nI b), .int f, .int (nI c)] u (fun f fl w' => fl = 0 ∧ sg_few L f ∧ sg_fr [48, 53] w w' ∧ ∀ j, w'.1 48 j = w.1 48 j) := by
    intro c
    induction c with
    | zero =>
      intro _ u f hf hj hw
      have y : nI 0 ≤ 0 := by decide
      refine ⟨f, 0, (sx_u u.1 48 6 (nI b), u.2), fun Q z => bMo_fewest_11 (f1 := 0) (w1 := u) (fun _ => z) (fun c => absurd y c) (fun c => absurd y c) (fun c => absurd y c), rfl, sg_fw_0 hw, hf.trans (fun a ha => ⟨sx_u_o (fun e => ha (by rw [e]; decide)), rfl⟩), fun j => ?_⟩
      show sx_u u.1 48 6 (nI b) 48 j = _
      rw [sx_u_s]
      by_cases e : j = 6
      · rw [if_pos e, e]; exact h.2.1.symm
      · rw [if_neg e]; exact hj j e
    | succ c ih =>
      intro hc u f hf hj hw
      have n0 : ¬ nI (c + 1) ≤ 0 := nI_ge (a := 0) (by omega) (by omega)
      have hMo : sg_Mo L (c + 1) t r (sx_u u.1 48 6 (nI (c + 1)), u.2) := by
        have e48 : ∀ j, j ≠ 6 → sx_u u.1 48 6 (nI (c + 1)) 48 j = w.1 48 j := fun j e => by rw [sx_u_s, if_neg e]; exact hj j e
        have ea : ∀ a, a ≠ 48 → a ≠ 53 → sx_u u.1 48 6 (nI (c + 1)) a = w.1 a := fun a e1 e2 => by
          rw [sx_u_o e1]
          exact (hf a (by simp only [List.mem_cons, List.not_mem_nil, or_false, not_or]; exact ⟨e1, e2⟩)).1
        refine ⟨⟨h.1.1, ?_, fun j hj2 => ?_⟩, ?_, hc, ?_, fun ht l hl => ?_⟩
        · show sx_u u.1 48 6 (nI (c + 1)) 48 0 = _
          rw [e48 0 (by decide)]; exact h.1.2.1
        · show sx_u u.1 48 6 (nI (c + 1)) 49 j = _ ∧ sx_u u.1 48 6 (nI (c + 1)) 50 j = _ ∧ sx_u u.1 48 6 (nI (c + 1)) 51 j = _
          rw [ea 49 (by decide) (by decide), ea 50 (by decide) (by decide), ea 51 (by decide) (by decide)]; exact h.1.2.2 j hj2
        · show sx_u u.1 48 6 (nI (c + 1)) 48 6 = _
          rw [sx_u_s, if_pos rfl]
        · show sx_u u.1 48 6 (nI (c + 1)) 48 5 = _
          rw [e48 5 (by decide)]; exact h.2.2.2.1
        · show sx_u u.1 48 6 (nI (c + 1)) 52 l = _ ∧ _
          rw [ea 52 (by decide) (by decide)]; exact h.2.2.2.2 ht l hl
      obtain ⟨f1, fl, w1, m1, rfl, p1, p2⟩ := spMo_goes (d := d) (bd := 1) (o := 7) hMo (by decide) (by decide) (by decide)
      have fr0 : sg_fr [48, 53] u (sx_u u.1 48 6 (nI (c + 1)), u.2) := fun a ha => ⟨sx_u_o (fun e => ha (by rw [e]; decide)), rfl⟩
      have fr1 : sg_fr [48, 53] w w1 := (hf.trans fr0).trans (p1.mono (by decide))
      have j1 : ∀ j, j ≠ 6 → w1.1 48 j = w.1 48 j := fun j e => by
        rw [(p1 48 (by decide)).1]
        show sx_u u.1 48 6 (nI (c + 1)) 48 j = _
        rw [sx_u_s, if_neg e]; exact hj j e
      have ed : nI (c + 1) + (-1) = nI c := by
        rw [show nI (c + 1) + (-1 : Int32) = nI (c + 1) - 1 from (Int32.sub_eq_add_neg ..).symm]; exact nI_pred c
      rcases p2 with ⟨hN, e⟩ | ⟨hN, e, hF⟩
      · have hno : ∀ σ, ¬ sg_gd L (c + 1) σ := fun σ hg => by
          have hE : sg_E L (c + 1) t r 7 0 L.1 (fun _ => 0) σ := sg_E_iff.mpr ⟨hg, by
            unfold sg_ch
            split
            · exact Nat.le_trans (fb_ct_le _ _) h7
            · omega⟩
          have := (sg_N_pos L.1 0 (fun _ => 0)).mpr ⟨σ, by rw [Nat.zero_add]; exact hE⟩
          omega
        have ez : f1 = 0 := by rw [e, show sg_N L (c + 1) t r 7 L.1 0 (fun _ => 0) = 0 by omega]; rfl
        obtain ⟨f', fl, w', hev, hp⟩ := ih (by omega) w1 f fr1 j1 (sg_fw_no (c := c + 1) (by omega) hw hno)
        refine ⟨f', fl, w', fun Q z => bMo_fewest_11 (fun x => absurd x n0) (fun _ => m1) (fun _ _ => ?_) (fun _ x => absurd (by rw [ez]; decide) x), hp⟩
        rw [ed]; exact hev Q z
      · obtain ⟨σ, hs, -⟩ := hF rfl
        obtain ⟨f', fl, w', hev, hp⟩ := ih (by omega) w1 (nI (c + 1)) fr1 j1 (sg_fw_yes (f := f) (c := c + 1) (by omega) hc ⟨σ, (sg_E_iff.mp hs.1).1⟩)
        refine ⟨f', fl, w', fun Q z => bMo_fewest_11 (fun x => absurd x n0) (fun _ => m1) (fun _ x => absurd x (by rw [e]; decide)) (fun _ _ => ?_), hp⟩
        rw [ed]; exact hev Q z
  obtain ⟨f, fl, w', hev, q1, q2, q3, q4⟩ := loop 7 (by decide) w (-4) sg_fr.rfl' (fun _ _ => rfl) (Or.inr ⟨rfl, fun c' a b => by omega⟩)
  refine ⟨f, fl, w', fun Q z => sx_met_of rfl rfl rfl rfl (bMo_fewest_0 (by rw [h.2.1]; exact hev Q z)), q1, q2, ?_, q3, q4⟩
  obtain ⟨a1, a2, a3, a4, a5⟩ := h
  refine ⟨⟨a1.1, by rw [q4]; exact a1.2.1, fun i hi => ?_⟩, by rw [q4]; exact a2, a3, by rw [q4]; exact a4, fun ht l hl => ?_⟩
  · rw [(q3 49 (by decide)).1, (q3 50 (by decide)).1, (q3 51 (by decide)).1]; exact a1.2.2 i hi
  · rw [(q3 52 (by decide)).1]; exact a5 ht l hl
end
