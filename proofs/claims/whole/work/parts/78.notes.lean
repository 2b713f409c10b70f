/-! ===== image and restore of the model ===== -/
def sg_im (L : sg_L) (b : Nat) (k : Int32) (t : Bool) (r : Nat → Nat) (w : sx_W) : Prop := sg_ok L ∧ w.1 60 28 = nI L.1 ∧ w.1 60 29 = nI b ∧ b ≤ 7 ∧ w.1 60 30 = k ∧ w.1 60 31 = sz_b t ∧ (∀ i, i < L.1 → w.1 60 i = nI (L.2.1 i) ∧ w.1 60 (7 + i) = nI (L.2.2.1 i) ∧ w.1 60 (14 + i) = nI (L.2.2.2 i)) ∧ (t = true → ∀ i, i < L.1 → w.1 60 (21 + i) = nI (r i) ∧ r i < 8)
section
variable {d : Nat} {w : sx_W} {L : sg_L} {b : Nat} {k : Int32} {t : Bool} {r : Nat → Nat}
theorem spMo_notes_49 {a : Nat} (ha : a ≤ 21) : sx_x d rMo_notes [.ref 48, .ref 49, .int (nI a)] w (fun f fl w' => f = nI (a + 7) ∧ fl = 0 ∧ (∀ i, i < 7 → w'.1 60 (a + i) = w.1 49 i) ∧ (∀ i, (i < a ∨ a + 7 ≤ i) → w'.1 60 i = w.1 60 i) ∧ sg_fr [60] w w') := by
  have loop : ∀ m, m ≤ 7 → ∀ u, (∀ i, i < m → u.1 60 (a + i) = w.1 49 i) → (∀ i, (i < a ∨ a + 7 ≤ i) → u.1 60 i = w.1 60 i) → sg_fr [60] w u → sx_xe d rMo_notes 2 [.ref 48, .ref 49, .int (nI a), .int (nI m)] u (fun f fl w' => f = nI (a + 7) ∧ fl = 0 ∧ (∀ i, i < 7 → w'.1 60 (a + i) = w.1 49 i) ∧ (∀ i, (i < a ∨ a + 7 ≤ i) → w'.1 60 i = w.1 60 i) ∧ sg_fr [60] w w') := by
    refine sx_for 7 (fun u h1 h2 hF => ?_) (fun m hm ih u h1 h2 hF => ?_)
    · have c0 : (7 : Int32) ≤ nI 7 := by decide
      refine ⟨nI (a + 7), 0, u, fun Q z => bMo_notes_49_2 (fun _ => ?_) (fun x => absurd c0 x) (fun x => absurd c0 x) (fun x => absurd c0 x), rfl, rfl, h1, h2, hF⟩
      rw [show nI a + (7 : Int32) = nI (a + 7) from nI_add a 7]; exact z
    · have c0 : ¬ (7 : Int32) ≤ nI m := nI_ge (b := 7) hm (by omega)
      have hcm : (nI m).toNatClampNeg = m := nI_clamp (by omega)
      have hca : (nI (a + m)).toNatClampNeg = a + m := nI_clamp (by omega)
      obtain ⟨f, fl, w', hev, hp⟩ := ih (sx_u u.1 60 (a + m) (u.1 49 m), u.2) (fun i hi => by
          show sx_u u.1 60 (a + m) (u.1 49 m) 60 (a + i) = _
          rw [sx_u_s]
          by_cases e : i = m
          · rw [if_pos (by omega), (hF 49 (by decide)).1, e]
          · rw [if_neg (by omega)]; exact h1 i (by omega)) (fun i hi => by
          show sx_u u.1 60 (a + m) (u.1 49 m) 60 i = _
          rw [sx_u_s, if_neg (by omega)]; exact h2 i hi) (hF.trans (fun e he => ⟨sx_u_o (fun c => he (by rw [c]; decide)), rfl⟩))
      refine ⟨f, fl, w', fun Q z => bMo_notes_49_2 (fun x => absurd x c0) (fun _ => vp_in_nI (by omega) (by decide)) (fun _ => by rw [nI_add]; exact vp_in_nI (by omega) (by decide)) (fun _ => ?_), hp⟩
      rw [nI_1, nI_add, hcm, hca]; exact hev Q z
  obtain ⟨f, fl, w', hev, hp⟩ := loop 0 (Nat.zero_le _) w (fun i hi => absurd hi (Nat.not_lt_zero i)) (fun _ _ => rfl) sg_fr.rfl'
  exact ⟨f, fl, w', fun Q z => sx_met_of rfl rfl rfl rfl (bMo_notes_49_0 (hev Q z)), hp⟩
theorem spMo_notes_50 {a : Nat} (ha : a ≤ 21) : sx_x d rMo_notes [.ref 48, .ref 50, .int (nI a)] w (fun f fl w' => f = nI (a + 7) ∧ fl = 0 ∧ (∀ i, i < 7 → w'.1 60 (a + i) = w.1 50 i) ∧ (∀ i, (i < a ∨ a + 7 ≤ i) → w'.1 60 i = w.1 60 i) ∧ sg_fr [60] w w') := by
  have loop : ∀ m, m ≤ 7 → ∀ u, (∀ i, i < m → u.1 60 (a + i) = w.1 50 i) → (∀ i, (i < a ∨ a + 7 ≤ i) → u.1 60 i = w.1 60 i) → sg_fr [60] w u → sx_xe d rMo_notes 2 [.ref 48, .ref 50, .int (nI a), .int (nI m)] u (fun f fl w' => f = nI (a + 7) ∧ fl = 0 ∧ (∀ i, i < 7 → w'.1 60 (a + i) = w.1 50 i) ∧ (∀ i, (i < a ∨ a + 7 ≤ i) → w'.1 60 i = w.1 60 i) ∧ sg_fr [60] w w') := by
    refine sx_for 7 (fun u h1 h2 hF => ?_) (fun m hm ih u h1 h2 hF => ?_)
    · have c0 : (7 : Int32) ≤ nI 7 := by decide
      refine ⟨nI (a + 7), 0, u, fun Q z => bMo_notes_50_2 (fun _ => ?_) (fun x => absurd c0 x) (fun x => absurd c0 x) (fun x => absurd c0 x), rfl, rfl, h1, h2, hF⟩
      rw [show nI a + (7 : Int32) = nI (a + 7) from nI_add a 7]; exact z
    · have c0 : ¬ (7 : Int32) ≤ nI m := nI_ge (b := 7) hm (by omega)
      have hcm : (nI m).toNatClampNeg = m := nI_clamp (by omega)
      have hca : (nI (a + m)).toNatClampNeg = a + m := nI_clamp (by omega)
      obtain ⟨f, fl, w', hev, hp⟩ := ih (sx_u u.1 60 (a + m) (u.1 50 m), u.2) (fun i hi => by
          show sx_u u.1 60 (a + m) (u.1 50 m) 60 (a + i) = _
          rw [sx_u_s]
          by_cases e : i = m
          · rw [if_pos (by omega), (hF 50 (by decide)).1, e]
          · rw [if_neg (by omega)]; exact h1 i (by omega)) (fun i hi => by
          show sx_u u.1 60 (a + m) (u.1 50 m) 60 i = _
          rw [sx_u_s, if_neg (by omega)]; exact h2 i hi) (hF.trans (fun e he => ⟨sx_u_o (fun c => he (by rw [c]; decide)), rfl⟩))
      refine ⟨f, fl, w', fun Q z => bMo_notes_50_2 (fun x => absurd x c0) (fun _ => vp_in_nI (by omega) (by decide)) (fun _ => by rw [nI_add]; exact vp_in_nI (by omega) (by decide)) (fun _ => ?_), hp⟩
      rw [nI_1, nI_add, hcm, hca]; exact hev Q z
  obtain ⟨f, fl, w', hev, hp⟩ := loop 0 (Nat.zero_le _) w (fun i hi => absurd hi (Nat.not_lt_zero i)) (fun _ _ => rfl) sg_fr.rfl'
  exact ⟨f, fl, w', fun Q z => sx_met_of rfl rfl rfl rfl (bMo_notes_50_0 (hev Q z)), hp⟩
theorem spMo_notes_51 {a : Nat} (ha : a ≤ 21) : sx_x d rMo_notes [.ref 48, .ref 51, .int (nI a)] w (fun f fl w' => f = nI (a + 7) ∧ fl = 0 ∧ (∀ i, i < 7 → w'.1 60 (a + i) = w.1 51 i) ∧ (∀ i, (i < a ∨ a + 7 ≤ i) → w'.1 60 i = w.1 60 i) ∧ sg_fr [60] w w') := by
  have loop : ∀ m, m ≤ 7 → ∀ u, (∀ i, i < m → u.1 60 (a + i) = w.1 51 i) → (∀ i, (i < a ∨ a + 7 ≤ i) → u.1 60 i = w.1 60 i) → sg_fr [60] w u → sx_xe d rMo_notes 2 [.ref 48, .ref 51, .int (nI a), .int (nI m)] u (fun f fl w' => f = nI (a + 7) ∧ fl = 0 ∧ (∀ i, i < 7 → w'.1 60 (a + i) = w.1 51 i) ∧ (∀ i, (i < a ∨ a + 7 ≤ i) → w'.1 60 i = w.1 60 i) ∧ sg_fr [60] w w') := by
    refine sx_for 7 (fun u h1 h2 hF => ?_) (fun m hm ih u h1 h2 hF => ?_)
    · have c0 : (7 : Int32) ≤ nI 7 := by decide
      refine ⟨nI (a + 7), 0, u, fun Q z => bMo_notes_51_2 (fun _ => ?_) (fun x => absurd c0 x) (fun x => absurd c0 x) (fun x => absurd c0 x), rfl, rfl, h1, h2, hF⟩
      rw [show nI a + (7 : Int32) = nI (a + 7) from nI_add a 7]; exact z
    · have c0 : ¬ (7 : Int32) ≤ nI m := nI_ge (b := 7) hm (by omega)
      have hcm : (nI m).toNatClampNeg = m := nI_clamp (by omega)
      have hca : (nI (a + m)).toNatClampNeg = a + m := nI_clamp (by omega)
      obtain ⟨f, fl, w', hev, hp⟩ := ih (sx_u u.1 60 (a + m) (u.1 51 m), u.2) (fun i hi => by
          show sx_u u.1 60 (a + m) (u.1 51 m) 60 (a + i) = _
          rw [sx_u_s]
          by_cases e : i = m
          · rw [if_pos (by omega), (hF 51 (by decide)).1, e]
          · rw [if_neg (by omega)]; exact h1 i (by omega)) (fun i hi => by
          show sx_u u.1 60 (a + m) (u.1 51 m) 60 i = _
          rw [sx_u_s, if_neg (by omega)]; exact h2 i hi) (hF.trans (fun e he => ⟨sx_u_o (fun c => he (by rw [c]; decide)), rfl⟩))
      refine ⟨f, fl, w', fun Q z => bMo_notes_51_2 (fun x => absurd x c0) (fun _ => vp_in_nI (by omega) (by decide)) (fun _ => by rw [nI_add]; exact vp_in_nI (by omega) (by decide)) (fun _ => ?_), hp⟩
      rw [nI_1, nI_add, hcm, hca]; exact hev Q z
  obtain ⟨f, fl, w', hev, hp⟩ := loop 0 (Nat.zero_le _) w (fun i hi => absurd hi (Nat.not_lt_zero i)) (fun _ _ => rfl) sg_fr.rfl'
  exact ⟨f, fl, w', fun Q z => sx_met_of rfl rfl rfl rfl (bMo_notes_51_0 (hev Q z)), hp⟩
theorem spMo_notes_52 {a : Nat} (ha : a ≤ 21) : sx_x d rMo_notes [.ref 48, .ref 52, .int (nI a)] w (fun f fl w' => f = nI (a + 7) ∧ fl = 0 ∧ (∀ i, i < 7 → w'.1 60 (a + i) = w.1 52 i) ∧ (∀ i, (i < a ∨ a + 7 ≤ i) → w'.1 60 i = w.1 60 i) ∧ sg_fr [60] w w') := by
  have loop : ∀ m, m ≤ 7 → ∀ u, (∀ i, i < m → u.1 60 (a + i) = w.1 52 i) → (∀ i, (i < a ∨ a + 7 ≤ i) → u.1 60 i = w.1 60 i) → sg_fr [60] w u → sx_xe d rMo_notes 2 [.ref 48, .ref 52, .int (nI a), .int (nI m)] u (fun f fl w' => f = nI (a + 7) ∧ fl = 0 ∧ (∀ i, i < 7 → w'.1 60 (a + i) = w.1 52 i) ∧ (∀ i, (i < a ∨ a + 7 ≤ i) → w'.1 60 i = w.1 60 i) ∧ sg_fr [60] w w') := by
    refine sx_for 7 (fun u h1 h2 hF => ?_) (fun m hm ih u h1 h2 hF => ?_)
    · have c0 : (7 : Int32) ≤ nI 7 := by decide
      refine ⟨nI (a + 7), 0, u, fun Q z => bMo_notes_52_2 (fun _ => ?_) (fun x => absurd c0 x) (fun x => absurd c0 x) (fun x => absurd c0 x), rfl, rfl, h1, h2, hF⟩
      rw [show nI a + (7 : Int32) = nI (a + 7) from nI_add a 7]; exact z
    · have c0 : ¬ (7 : Int32) ≤ nI m := nI_ge (b := 7) hm (by omega)
      have hcm : (nI m).toNatClampNeg = m := nI_clamp (by omega)
      have hca : (nI (a + m)).toNatClampNeg = a + m := nI_clamp (by omega)
      obtain ⟨f, fl, w', hev, hp⟩ := ih (sx_u u.1 60 (a + m) (u.1 52 m), u.2) (fun i hi => by
          show sx_u u.1 60 (a + m) (u.1 52 m) 60 (a + i) = _
          rw [sx_u_s]
          by_cases e : i = m
          · rw [if_pos (by omega), (hF 52 (by decide)).1, e]
          · rw [if_neg (by omega)]; exact h1 i (by omega)) (fun i hi => by
          show sx_u u.1 60 (a + m) (u.1 52 m) 60 i = _
          rw [sx_u_s, if_neg (by omega)]; exact h2 i hi) (hF.trans (fun e he => ⟨sx_u_o (fun c => he (by rw [c]; decide)), rfl⟩))
      refine ⟨f, fl, w', fun Q z => bMo_notes_52_2 (fun x => absurd x c0) (fun _ => vp_in_nI (by omega) (by decide)) (fun _ => by rw [nI_add]; exact vp_in_nI (by omega) (by decide)) (fun _ => ?_), hp⟩
      rw [nI_1, nI_add, hcm, hca]; exact hev Q z
  obtain ⟨f, fl, w', hev, hp⟩ := loop 0 (Nat.zero_le _) w (fun i hi => absurd hi (Nat.not_lt_zero i)) (fun _ _ => rfl) sg_fr.rfl'
  exact ⟨f, fl, w', fun Q z => sx_met_of rfl rfl rfl rfl (bMo_notes_52_0 (hev Q z)), hp⟩
theorem spMo_gives_49 {a : Nat} (ha : a ≤ 21) : sx_x d rMo_gives [.ref 48, .int (nI a), .ref 49] w (fun f fl w' => f = nI (a + 7) ∧ fl = 0 ∧ (∀ i, i < 7 → w'.1 49 i = w.1 60 (a + i)) ∧ sg_fr [49] w w') := by
  have loop : ∀ m, m ≤ 7 → ∀ u, (∀ i, i < m → u.1 49 i = w.1 60 (a + i)) → sg_fr [49] w u → sx_xe d rMo_gives 2 [.ref 48, .int (nI a), .ref 49, .int (nI m)] u (fun f fl w' => f = nI (a + 7) ∧ fl = 0 ∧ (∀ i, i < 7 → w'.1 49 i = w.1 60 (a + i)) ∧ sg_fr [49] w w') := by
    refine sx_for 7 (fun u h1 hF => ?_) (fun m hm ih u h1 hF => ?_)
    · have c0 : (7 : Int32) ≤ nI 7 := by decide
      refine ⟨nI (a + 7), 0, u, fun Q z => bMo_gives_49_2 (fun _ => ?_) (fun x => absurd c0 x) (fun x => absurd c0 x) (fun x => absurd c0 x), rfl, rfl, h1, hF⟩
      rw [show nI a + (7 : Int32) = nI (a + 7) from nI_add a 7]; exact z
    · have c0 : ¬ (7 : Int32) ≤ nI m := nI_ge (b := 7) hm (by omega)
      have hcm : (nI m).toNatClampNeg = m := nI_clamp (by omega)
      have hca : (nI (a + m)).toNatClampNeg = a + m := nI_clamp (by omega)
      obtain ⟨f, fl, w', hev, hp⟩ := ih (sx_u u.1 49 m (u.1 60 (a + m)), u.2) (fun i hi => by
          show sx_u u.1 49 m (u.1 60 (a + m)) 49 i = _
          rw [sx_u_s]
          by_cases e : i = m
          · rw [if_pos e, (hF 60 (by decide)).1, e]
          · rw [if_neg e]; exact h1 i (by omega)) (hF.trans (fun e he => ⟨sx_u_o (fun c => he (by rw [c]; decide)), rfl⟩))
      refine ⟨f, fl, w', fun Q z => bMo_gives_49_2 (fun x => absurd x c0) (fun _ => by rw [nI_add]; exact vp_in_nI (by omega) (by decide)) (fun _ => vp_in_nI (by omega) (by decide)) (fun _ => ?_), hp⟩
      rw [nI_1, nI_add, hcm, hca]; exact hev Q z
  obtain ⟨f, fl, w', hev, hp⟩ := loop 0 (Nat.zero_le _) w (fun i hi => absurd hi (Nat.not_lt_zero i)) sg_fr.rfl'
  exact ⟨f, fl, w', fun Q z => sx_met_of rfl rfl rfl rfl (bMo_gives_49_0 (hev Q z)), hp⟩
theorem spMo_gives_50 {a : Nat} (ha : a ≤ 21) : sx_x d rMo_gives [.ref 48, .int (nI a), .ref 50] w (fun f fl w' => f = nI (a + 7) ∧ fl = 0 ∧ (∀ i, i < 7 → w'.1 50 i = w.1 60 (a + i)) ∧ sg_fr [50] w w') := by
  have loop : ∀ m, m ≤ 7 → ∀ u, (∀ i, i < m → u.1 50 i = w.1 60 (a + i)) → sg_fr [50] w u → sx_xe d rMo_gives 2 [.ref 48, .int (nI a), .ref 50, .int (nI m)] u (fun f fl w' => f = nI (a + 7) ∧ fl = 0 ∧ (∀ i, i < 7 → w'.1 50 i = w.1 60 (a + i)) ∧ sg_fr [50] w w') := by
    refine sx_for 7 (fun u h1 hF => ?_) (fun m hm ih u h1 hF => ?_)
    · have c0 : (7 : Int32) ≤ nI 7 := by decide
      refine ⟨nI (a + 7), 0, u, fun Q z => bMo_gives_50_2 (fun _ => ?_) (fun x => absurd c0 x) (fun x => absurd c0 x) (fun x => absurd c0 x), rfl, rfl, h1, hF⟩
      rw [show nI a + (7 : Int32) = nI (a + 7) from nI_add a 7]; exact z
    · have c0 : ¬ (7 : Int32) ≤ nI m := nI_ge (b := 7) hm (by omega)
      have hcm : (nI m).toNatClampNeg = m := nI_clamp (by omega)
      have hca : (nI (a + m)).toNatClampNeg = a + m := nI_clamp (by omega)
      obtain ⟨f, fl, w', hev, hp⟩ := ih (sx_u u.1 50 m (u.1 60 (a + m)), u.2) (fun i hi => by
          show sx_u u.1 50 m (u.1 60 (a + m)) 50 i = _
          rw [sx_u_s]
          by_cases e : i = m
          · rw [if_pos e, (hF 60 (by decide)).1, e]
          · rw [if_neg e]; exact h1 i (by omega)) (hF.trans (fun e he => ⟨sx_u_o (fun c => he (by rw [c]; decide)), rfl⟩))
      refine ⟨f, fl, w', fun Q z => bMo_gives_50_2 (fun x => absurd x c0) (fun _ => by rw [nI_add]; exact vp_in_nI (by omega) (by decide)) (fun _ => vp_in_nI (by omega) (by decide)) (fun _ => ?_), hp⟩
      rw [nI_1, nI_add, hcm, hca]; exact hev Q z
  obtain ⟨f, fl, w', hev, hp⟩ := loop 0 (Nat.zero_le _) w (fun i hi => absurd hi (Nat.not_lt_zero i)) sg_fr.rfl'
  exact ⟨f, fl, w', fun Q z => sx_met_of rfl rfl rfl rfl (bMo_gives_50_0 (hev Q z)), hp⟩
theorem spMo_gives_51 {a : Nat} (ha : a ≤ 21) : sx_x d rMo_gives [.ref 48, .int (nI a), .ref 51] w (fun f fl w' => f = nI (a + 7) ∧ fl = 0 ∧ (∀ i, i < 7 → w'.1 51 i = w.1 60 (a + i)) ∧ sg_fr [51] w w') := by
  have loop : ∀ m, m ≤ 7 → ∀ u, (∀ i, i < m → u.1 51 i = w.1 60 (a + i)) → sg_fr [51] w u → sx_xe d rMo_gives 2 [.ref 48, .int (nI a), .ref 51, .int (nI m)] u (fun f fl w' => f = nI (a + 7) ∧ fl = 0 ∧ (∀ i, i < 7 → w'.1 51 i = w.1 60 (a + i)) ∧ sg_fr [51] w w') := by
    refine sx_for 7 (fun u h1 hF => ?_) (fun m hm ih u h1 hF => ?_)
    · have c0 : (7 : Int32) ≤ nI 7 := by decide
      refine ⟨nI (a + 7), 0, u, fun Q z => bMo_gives_51_2 (fun _ => ?_) (fun x => absurd c0 x) (fun x => absurd c0 x) (fun x => absurd c0 x), rfl, rfl, h1, hF⟩
      rw [show nI a + (7 : Int32) = nI (a + 7) from nI_add a 7]; exact z
    · have c0 : ¬ (7 : Int32) ≤ nI m := nI_ge (b := 7) hm (by omega)
      have hcm : (nI m).toNatClampNeg = m := nI_clamp (by omega)
      have hca : (nI (a + m)).toNatClampNeg = a + m := nI_clamp (by omega)
      obtain ⟨f, fl, w', hev, hp⟩ := ih (sx_u u.1 51 m (u.1 60 (a + m)), u.2) (fun i hi => by
          show sx_u u.1 51 m (u.1 60 (a + m)) 51 i = _
          rw [sx_u_s]
          by_cases e : i = m
          · rw [if_pos e, (hF 60 (by decide)).1, e]
          · rw [if_neg e]; exact h1 i (by omega)) (hF.trans (fun e he => ⟨sx_u_o (fun c => he (by rw [c]; decide)), rfl⟩))
      refine ⟨f, fl, w', fun Q z => bMo_gives_51_2 (fun x => absurd x c0) (fun _ => by rw [nI_add]; exact vp_in_nI (by omega) (by decide)) (fun _ => vp_in_nI (by omega) (by decide)) (fun _ => ?_), hp⟩
      rw [nI_1, nI_add, hcm, hca]; exact hev Q z
  obtain ⟨f, fl, w', hev, hp⟩ := loop 0 (Nat.zero_le _) w (fun i hi => absurd hi (Nat.not_lt_zero i)) sg_fr.rfl'
  exact ⟨f, fl, w', fun Q z => sx_met_of rfl rfl rfl rfl (bMo_gives_51_0 (hev Q z)), hp⟩
theorem spMo_gives_52 {a : Nat} (ha : a ≤ 21) : sx_x d rMo_gives [.ref 48, .int (nI a), .ref 52] w (fun f fl w' => f = nI (a + 7) ∧ fl = 0 ∧ (∀ i, i < 7 → w'.1 52 i = w.1 60 (a + i)) ∧ sg_fr [52] w w') := by
  have loop : ∀ m, m ≤ 7 → ∀ u, (∀ i, i < m → u.1 52 i = w.1 60 (a + i)) → sg_fr [52] w u → sx_xe d rMo_gives 2 [.ref 48, .int (nI a), .ref 52, .int (nI m)] u (fun f fl w' => f = nI (a + 7) ∧ fl = 0 ∧ (∀ i, i < 7 → w'.1 52 i = w.1 60 (a + i)) ∧ sg_fr [52] w w') := by
    refine sx_for 7 (fun u h1 hF => ?_) (fun m hm ih u h1 hF => ?_)
    · have c0 : (7 : Int32) ≤ nI 7 := by decide
      refine ⟨nI (a + 7), 0, u, fun Q z => bMo_gives_52_2 (fun _ => ?_) (fun x => absurd c0 x) (fun x => absurd c0 x) (fun x => absurd c0 x), rfl, rfl, h1, hF⟩
      rw [show nI a + (7 : Int32) = nI (a + 7) from nI_add a 7]; exact z
    · have c0 : ¬ (7 : Int32) ≤ nI m := nI_ge (b := 7) hm (by omega)
      have hcm : (nI m).toNatClampNeg = m := nI_clamp (by omega)
      have hca : (nI (a + m)).toNatClampNeg = a + m := nI_clamp (by omega)
      obtain ⟨f, fl, w', hev, hp⟩ := ih (sx_u u.1 52 m (u.1 60 (a + m)), u.2) (fun i hi => by
          show sx_u u.1 52 m (u.1 60 (a + m)) 52 i = _
          rw [sx_u_s]
          by_cases e : i = m
          · rw [if_pos e, (hF 60 (by decide)).1, e]
          · rw [if_neg e]; exact h1 i (by omega)) (hF.trans (fun e he => ⟨sx_u_o (fun c => he (by rw [c]; decide)), rfl⟩))
      refine ⟨f, fl, w', fun Q z => bMo_gives_52_2 (fun x => absurd x c0) (fun _ => by rw [nI_add]; exact vp_in_nI (by omega) (by decide)) (fun _ => vp_in_nI (by omega) (by decide)) (fun _ => ?_), hp⟩
      rw [nI_1, nI_add, hcm, hca]; exact hev Q z
  obtain ⟨f, fl, w', hev, hp⟩ := loop 0 (Nat.zero_le _) w (fun i hi => absurd hi (Nat.not_lt_zero i)) sg_fr.rfl'
  exact ⟨f, fl, w', fun Q z => sx_met_of rfl rfl rfl rfl (bMo_gives_52_0 (hev Q z)), hp⟩
end
