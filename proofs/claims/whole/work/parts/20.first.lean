/-! ===== earliest, findFirst ===== -/
/-- what is open as the first k are settled -/
def ff_op (L : sg_L) (σ : Nat → Nat) (k j : Nat) : Nat := if j < k then 2 ^ σ j else sg_mays L j
theorem nb_one {p q : Nat} : (2 ^ p).testBit q = true ↔ q = p := by
  rw [Nat.testBit_two_pow]
  simp only [decide_eq_true_eq]
  exact eq_comm
section
variable {L : sg_L} {b : Nat} {op r : Nat → Nat}
theorem ff_op_lt {σ : Nat → Nat} {k j : Nat} (h8 : ∀ l, l < L.1 → σ l < 8) (hj : j < L.1) : ff_op L σ k j < 256 := by
  unfold ff_op
  split
  · exact Nat.lt_of_lt_of_le (Nat.pow_lt_pow_right (by decide) (h8 j hj)) (by decide)
  · exact sg_mays_lt L j
theorem ff_sol {σ τ : Nat → Nat} {k c : Nat} (hσ : sg_gr L b r c σ) (hk : k ≤ L.1) : sg_sol L b (ff_op L σ k) r (List.range L.1) [] c τ ↔ sg_gr L b r c τ ∧ ∀ j, j < k → τ j = σ j := by
  have hm : sg_gr L b r c τ ↔ sg_sol L b (sg_mays L) r (List.range L.1) [] c τ := sg_sol_mays.symm
  have hs := sg_sol_mays.mpr hσ
  rw [hm]
  unfold sg_sol
  constructor
  · rintro ⟨h1, h2, h3⟩
    have ag : ∀ j, j < k → τ j = σ j := fun j hj => by
      have := (h1 j (List.mem_range.mpr (by omega))).2
      unfold ff_op at this
      rw [if_pos hj] at this
      exact nb_one.mp this
    refine ⟨⟨fun o ho => ⟨(h1 o ho).1, ?_⟩, h2, h3⟩, ag⟩
    by_cases e : o < k
    · rw [ag o e]; exact (hs.1 o ho).2
    · have := (h1 o ho).2
      unfold ff_op at this
      rw [if_neg e] at this
      exact this
  · rintro ⟨⟨h1, h2, h3⟩, ag⟩
    refine ⟨fun o ho => ⟨(h1 o ho).1, ?_⟩, h2, h3⟩
    unfold ff_op
    by_cases e : o < k
    · rw [if_pos e, ag o e]; exact nb_one.mpr rfl
    · rw [if_neg e]; exact (h1 o ho).2
theorem er_sol {k q c : Nat} {τ : Nat → Nat} (hk : k < L.1) (hb : (op k).testBit q = true) : sg_sol L b (sg_up op k (2 ^ q)) r (List.range L.1) [] c τ ↔ sg_sol L b op r (List.range L.1) [] c τ ∧ τ k = q := by
  unfold sg_sol
  constructor
  · rintro ⟨h1, h2, h3⟩
    have e : τ k = q := by
      have := (h1 k (List.mem_range.mpr hk)).2
      rw [sg_up_s] at this
      exact nb_one.mp this
    refine ⟨⟨fun o ho => ⟨(h1 o ho).1, ?_⟩, h2, h3⟩, e⟩
    by_cases eo : o = k
    · rw [eo, e]; exact hb
    · have := (h1 o ho).2
      rw [sg_up_o eo] at this
      exact this
  · rintro ⟨⟨h1, h2, h3⟩, e⟩
    refine ⟨fun o ho => ⟨(h1 o ho).1, ?_⟩, h2, h3⟩
    by_cases eo : o = k
    · rw [eo, sg_up_s, e]; exact nb_one.mpr rfl
    · rw [sg_up_o eo]; exact (h1 o ho).2
end
/-- what findFirst finds, into the row z -/
def se_ff (z : Nat) (L : sg_L) (b : Nat) (r : Nat → Nat) (c : Nat) (w : sx_W) (f : Int32) (fl : Int64) (w' : sx_W) : Prop := fl = 0 ∧ sg_fr [17, 18, 19, 20, 21, z] w w' ∧ ((f = 1 ∧ ∃ σ, sg_gr L b r c σ ∧ (∀ τ, sg_gr L b r c τ → sg_le L.1 σ τ) ∧ ∀ j, j < L.1 → w'.1 z j = nI (σ j)) ∨ (f = 0 ∧ ∀ σ, ¬ sg_gr L b r c σ))
section
variable {d : Nat} {w : sx_W} {L : sg_L} {b : Nat} {op r : Nat → Nat}
theorem spSe_earliest {k c : Nat} {σ : Nat → Nat} (h : sg_Co L b r w) (hc : c < 100) (hk : k < L.1) (hop : ∀ j, j < L.1 → w.1 17 j = nI (op j) ∧ op j < 256) (hfo : ∀ o, o < L.1 → w.1 21 o = nI (σ o)) (hsol : sg_sol L b op r (List.range L.1) [] c σ) :
    sx_x (d + 10) rSe_earliest [.ref 16, .int (nI k), .int (nI c)] w (fun f fl w' => fl = 0 ∧ ∃ q, q < 8 ∧ f = nI q ∧ ∃ σ', sg_sol L b op r (List.range L.1) [] c σ' ∧ σ' k = q ∧ (∀ τ, sg_sol L b op r (List.range L.1) [] c τ → q ≤ τ k) ∧ (∀ o, o < L.1 → w'.1 21 o = nI (σ' o)) ∧ (∀ j, j < L.1 → j ≠ k → w'.1 17 j = nI (op j)) ∧ sg_fr [17, 18, 19, 20, 21] w w') := by
  have h7 := h.1.1.1
  have hcl : (nI k).toNatClampNeg = k := nI_clamp (by omega)
  have hσ8 := (hsol.1 k (List.mem_range.mpr hk)).1
  have loop : ∀ q, q ≤ σ k → ∀ u, sg_fr [17, 18, 19, 20] w u → (∀ j, j < L.1 → j ≠ k → u.1 17 j = nI (op j)) → (∀ τ, sg_sol L b op r (List.range L.1) [] c τ → q ≤ τ k) →
      sx_xe (d + 10) rSe_earliest 18 [.ref 16, .int (nI k), .int (nI c), .int (nI (op k)), .int (nI (σ k)), .int (nI q)] u (fun f fl w' => fl = 0 ∧ ∃ q, q < 8 ∧ f = nI q ∧ ∃ σ', sg_sol L b op r (List.range L.1) [] c σ' ∧ σ' k = q ∧ (∀ τ, sg_sol L b op r (List.range L.1) [] c τ → q ≤ τ k) ∧ (∀ o, o < L.1 → w'.1 21 o = nI (σ' o)) ∧ (∀ j, j < L.1 → j ≠ k → w'.1 17 j = nI (op j)) ∧ sg_fr [17, 18, 19, 20, 21] w w') := by
    refine sx_for (σ k) (fun u hfr hopn hmin => ?_) (fun q hq ih u hfr hopn hmin => ?_)
    · have nc : ¬ ¬ nI (σ k) ≤ nI (σ k) := fun c => c (nI_le (Nat.le_refl _) (by omega))
      refine ⟨nI (σ k), 0, u, fun Q z => bSe_earliest_18 (f1 := 0) (w2 := u) (f3 := 0) (w3 := u) (fun _ => z) (fun c => absurd c nc) (fun c => absurd c nc) (fun c => absurd c nc) (fun c => absurd c nc) (fun c => absurd c nc) (fun c => absurd c nc) (fun c => absurd c nc), rfl, σ k, hσ8, rfl, σ, hsol, rfl, hmin, fun o ho => by rw [(hfr 21 (by decide)).1]; exact hfo o ho, hopn, hfr.mono (by decide)⟩
    · have nn : ¬ nI (σ k) ≤ nI q := nI_ge hq (by omega)
      have hhold : sx_de (d + 9) rSb_holds [.int (nI (op k)), .int (nI q)] u (sz_b ((op k).testBit q)) 0 u := spSb_holds (by have := (hop k hk).2; omega) (by omega)
      have next : ∀ u2, sg_fr [17, 18, 19, 20] w u2 → (∀ j, j < L.1 → j ≠ k → u2.1 17 j = nI (op j)) → (∀ τ, sg_sol L b op r (List.range L.1) [] c τ → τ k ≠ q) → _ := fun u2 a1 a2 a3 => ih u2 a1 a2 (fun τ hτ => by
        have := hmin τ hτ
        have := a3 τ hτ
        omega)
      cases hb : (op k).testBit q with
      | false =>
        rw [hb] at hhold
        obtain ⟨f, fl, w', hev, hp⟩ := next u hfr hopn (fun τ hτ e => by
          have := (hτ.1 k (List.mem_range.mpr hk)).2
          rw [e, hb] at this; cases this)
        refine ⟨f, fl, w', fun Q z => bSe_earliest_18 (w2 := u) (f3 := 0) (w3 := u) (fun c => absurd c nn) (fun _ => hhold) (fun _ _ => ?_) (fun _ c => absurd rfl c) (fun _ c => absurd rfl c) (fun _ c => absurd rfl c) (fun _ c => absurd rfl c) (fun _ c => absurd rfl c), hp⟩
        rw [nI_1]; exact hev Q z
      | true =>
        rw [hb] at hhold
        have hfu : sg_fr [17, 18, 19, 20] w (sx_u u.1 17 k (nI (2 ^ q)), u.2) := hfr.trans (fun a ha => ⟨sx_u_o (fun e => ha (by rw [e]; decide)), rfl⟩)
        have hCo1 := h.fr hfu (by decide)
        have h17 : ∀ j, (sx_u u.1 17 k (nI (2 ^ q))) 17 j = if j = k then nI (2 ^ q) else u.1 17 j := fun j => sx_u_s _ _ _ _ _
        obtain ⟨g1, g2, w2, hde2, e1, e2, ⟨os, hse⟩, hfr2⟩ := spSe_sortLodgers (d := d + 7) (op := sg_up op k (2 ^ q)) hCo1 (fun j hj => by
          show (sx_u u.1 17 k (nI (2 ^ q))) 17 j = _ ∧ _
          rw [h17]
          by_cases e : j = k
          · rw [if_pos e, e, sg_up_s]
            exact ⟨rfl, Nat.lt_of_lt_of_le (Nat.pow_lt_pow_right (by decide) (show q < 8 by omega)) (by decide)⟩
          · rw [if_neg e, sg_up_o e]
            exact ⟨hopn j hj e, (hop j hj).2⟩)
        subst e1; subst e2
        have hCo2 := hCo1.fr hfr2 (by decide)
        have hfw2 : sg_fr [17, 18, 19, 20] w w2 := hfu.trans (hfr2.mono (by decide))
        have hopn2 : ∀ j, j < L.1 → j ≠ k → w2.1 17 j = nI (op j) := fun j hj e => by
          rw [(hfr2 17 (by decide)).1]
          show (sx_u u.1 17 k (nI (2 ^ q))) 17 j = _
          rw [h17, if_neg e]; exact hopn j hj e
        obtain ⟨f3, fl3, w3, hde3, hfl, hcase⟩ := spSe_exists (d := d) hCo2 hse h.2.2.2.1 hc
        subst hfl
        have e17 : sx_u u.1 17 (nI k).toNatClampNeg ((1 : Int32) <<< (nI q &&& 31)) = sx_u u.1 17 k (nI (2 ^ q)) := by rw [hcl, sz_one q (by omega)]
        rcases hcase with ⟨hf, σ2, hs2, hfr3, hfo3⟩ | ⟨hf, hw, hnos⟩
        · subst hf
          obtain ⟨hs3, hk3⟩ := (er_sol hk hb).mp hs2
          refine ⟨nI q, 0, w3, fun Q z => bSe_earliest_18 (fun c => absurd c nn) (fun _ => hhold) (fun _ c => absurd c (by decide)) (fun _ _ => vp_in_nI (by omega) (by decide)) (fun _ _ => by rw [e17]; exact hde2) (fun _ _ => by rw [hCo2.2.2.1]; exact hde3) (fun _ _ c => absurd c (by decide)) (fun _ _ _ => z), rfl, q, by omega, rfl, σ2, hs3, hk3, hmin, hfo3, fun j hj e => by rw [(hfr3 17 (by decide)).1]; exact hopn2 j hj e, (hfw2.mono (by decide)).trans (hfr3.mono (by decide))⟩
        · subst hf
          subst hw
          obtain ⟨f, fl, w', hev, hp⟩ := next w3 hfw2 hopn2 (fun τ hτ e => hnos τ ((er_sol hk hb).mpr ⟨hτ, e⟩))
          refine ⟨f, fl, w', fun Q z => bSe_earliest_18 (fun c => absurd c nn) (fun _ => hhold) (fun _ c => absurd c (by decide)) (fun _ _ => vp_in_nI (by omega) (by decide)) (fun _ _ => by rw [e17]; exact hde2) (fun _ _ => by rw [hCo2.2.2.1]; exact hde3) (fun _ _ _ => ?_) (fun _ _ c => absurd rfl c), hp⟩
          rw [nI_1]; exact hev Q z
  obtain ⟨f, fl, w', hev, hp⟩ := loop 0 (Nat.zero_le _) w sg_fr.rfl' (fun j hj _ => (hop j hj).1) (fun τ _ => Nat.zero_le _)
  refine ⟨f, fl, w', fun Q z => sx_met_of rfl rfl rfl rfl (bSe_earliest_0 (vp_in_nI (by omega) (by decide)) ?_), hp⟩
  rw [hcl, (hop k hk).1, hfo k hk]
  exact hev Q z
theorem spSe_findFirst_22 {c : Nat} (h : sg_Co L b r w) (hc : c < 100) : sx_x (d + 11) rSe_findFirst [.ref 16, .int (nI c), .ref 22] w (se_ff 22 L b r c w) := by
  have h7 := h.1.1.1
  obtain ⟨f1, fl1, w1, hde1, e1, e2, ⟨os, hse⟩, hfr1⟩ := spSe_openAll (d := d + 7) h
  subst e1; subst e2
  have hCo1 := h.fr hfr1 (by decide)
  obtain ⟨f2, fl2, w2, hde2, hfl, hcase⟩ := spSe_exists (d := d + 1) hCo1 hse h.2.2.2.1 hc
  subst hfl
  have hb1 : w1.1 1 5 = nI b := hCo1.2.2.1
  rcases hcase with ⟨hf, σ, hsol, hfr2, hfound⟩ | ⟨hf, hw, hnos⟩
  · subst hf
    have hfr12 : sg_fr [17, 18, 19, 20, 21, 22] w w2 := (hfr1.mono (by decide)).trans (hfr2.mono (by decide))
    have hgr : sg_gr L b r c σ := sg_sol_mays.mp hsol
    have loop : ∀ k, k ≤ L.1 → ∀ (σ : Nat → Nat) (u : sx_W), sg_fr [17, 18, 19, 20, 21, 22] w u → sg_gr L b r c σ → (∀ τ, sg_gr L b r c τ → sg_le k σ τ) → (∀ o, o < L.1 → u.1 21 o = nI (σ o)) → (∀ j, j < L.1 → u.1 17 j = nI (ff_op L σ k j)) →
        sx_xe (d + 11) rSe_findFirst 23 [.ref 16, .int (nI c), .ref 22, .int (nI k)] u (se_ff 22 L b r c w) := by
      refine sx_for L.1 (fun σ u hfr hg hmin hfo hopn => ?_) (fun k hk ih σ u hfr hg hmin hfo hopn => ?_)
      · have hCo := h.fr hfr (by decide)
        have hn := hCo.1.2.1
        have nc : ¬ ¬ u.1 1 4 ≤ nI L.1 := fun c => c (by rw [hn]; exact nI_le (Nat.le_refl _) (by omega))
        have hcl : (u.1 1 4).toNatClampNeg = L.1 := by rw [hn]; exact nI_clamp (by omega)
        refine ⟨1, 0, (sx_cp u.1 21 22 0 0 L.1, u.2), fun Q z => bSe_findFirst_22_23 (f1 := 0) (w1 := u) (fun _ => by rw [hn]; exact nI_pos (by omega)) (fun _ => by rw [hcl]; omega) (fun _ => by rw [hcl]; exact z) (fun c => absurd c nc) (fun c => absurd c nc) (fun c => absurd c nc), rfl, ?_, Or.inl ⟨rfl, σ, hg, hmin, fun j hj => ?_⟩⟩
        · refine hfr.trans (fun a ha => ⟨?_, rfl⟩)
          have : a ≠ 22 := fun e => ha (by rw [e]; decide)
          show sx_cp u.1 21 22 0 0 L.1 a = _
          simp [sx_cp, this]
        · show sx_cp u.1 21 22 0 0 L.1 22 j = _
          simp only [sx_cp, if_true]
          rw [pk_cpy_in (Nat.zero_le _) (by omega), Nat.zero_add, Nat.sub_zero]
          exact hfo j hj
      · have hCo := h.fr hfr (by decide)
        have hn := hCo.1.2.1
        have nn : ¬ u.1 1 4 ≤ nI k := by rw [hn]; exact nI_ge hk (by omega)
        have hcl : (nI k).toNatClampNeg = k := nI_clamp (by omega)
        have hsolk : sg_sol L b (ff_op L σ k) r (List.range L.1) [] c σ := (ff_sol hg (by omega)).mpr ⟨hg, fun j hj => rfl⟩
        obtain ⟨f, fl, w', hde, hfl, q, hq8, hfq, σ', hs', hsk, hmn, hfo', hopn', hfr'⟩ := spSe_earliest (d := d) hCo hc hk (fun j hj => ⟨hopn j hj, ff_op_lt hg.1 hj⟩) hfo hsolk
        subst hfl
        obtain ⟨hg', hag⟩ := (ff_sol hg (by omega)).mp hs'
        have hA : ∀ τ, sg_gr L b r c τ → sg_le (k + 1) σ' τ := fun τ hτ => by
          rcases hmin τ hτ with hx | ⟨j, hj, hx, hlt⟩
          · have h1 := hmn τ ((ff_sol hg (by omega)).mpr ⟨hτ, fun j hj => (hx j hj).symm⟩)
            rcases Nat.lt_or_ge q (τ k) with hl | hl
            · exact Or.inr ⟨k, by omega, fun j hj => by rw [hag j hj]; exact hx j hj, by rw [hsk]; exact hl⟩
            · refine Or.inl (fun j hj => ?_)
              by_cases e : j = k
              · rw [e, hsk]; omega
              · rw [hag j (by omega)]; exact hx j (by omega)
          · exact Or.inr ⟨j, by omega, fun i hi => by rw [hag i (by omega)]; exact hx i hi, by rw [hag j hj]; exact hlt⟩
        have hB : ∀ o, o < L.1 → (sx_u w'.1 17 k (nI (2 ^ q))) 21 o = nI (σ' o) := fun o ho => by
          rw [sx_u_o (by decide)]; exact hfo' o ho
        have hC : ∀ j, j < L.1 → (sx_u w'.1 17 k (nI (2 ^ q))) 17 j = nI (ff_op L σ' (k + 1) j) := fun j hj => by
          rw [sx_u_s]
          by_cases e : j = k
          · rw [if_pos e, e]
            unfold ff_op
            rw [if_pos (by omega), hsk]
          · rw [if_neg e, hopn' j hj e]
            unfold ff_op
            by_cases e2 : j < k
            · rw [if_pos e2, if_pos (by omega), hag j e2]
            · rw [if_neg e2, if_neg (by omega)]
        obtain ⟨g, gl, w'', hev, hp⟩ := ih σ' (sx_u w'.1 17 k (nI (2 ^ q)), w'.2) ((hfr.trans (hfr'.mono (by decide))).trans (fun a ha => ⟨sx_u_o (fun e => ha (by rw [e]; decide)), rfl⟩)) hg' hA hB hC
        refine ⟨g, gl, w'', fun Q z => bSe_findFirst_22_23 (fun c => absurd c nn) (fun c => absurd c nn) (fun c => absurd c nn) (fun _ => hde) (fun _ => vp_in_nI (by omega) (by decide)) (fun _ => ?_), hp⟩
        rw [hcl, nI_1, hfq, sz_one q hq8]
        exact hev Q z
    obtain ⟨g, gl, w', hev, hp⟩ := loop 0 (Nat.zero_le _) σ w2 hfr12 hgr (fun τ _ => Or.inl (fun j hj => by omega)) hfound (fun j hj => by
      rw [(hfr2 17 (by decide)).1]
      unfold ff_op
      rw [if_neg (by omega)]
      exact (hse.1 j hj).1)
    refine ⟨g, gl, w', fun Q z => sx_met_of rfl rfl rfl rfl (bSe_findFirst_22_0 hde1 (by rw [hb1]; exact hde2) (fun _ => hev Q z) (fun c => absurd c (by decide))), hp⟩
  · subst hf
    subst hw
    refine ⟨0, 0, w2, fun Q z => sx_met_of rfl rfl rfl rfl (bSe_findFirst_22_0 hde1 (by rw [hb1]; exact hde2) (fun c => absurd rfl c) (fun _ => z)), rfl, hfr1.mono (by decide), Or.inr ⟨rfl, fun σ hσ => hnos σ (sg_sol_mays.mpr hσ)⟩⟩
theorem spSe_findFirst_23 {c : Nat} (h : sg_Co L b r w) (hc : c < 100) : sx_x (d + 11) rSe_findFirst [.ref 16, .int (nI c), .ref 23] w (se_ff 23 L b r c w) := by
  have h7 := h.1.1.1
  obtain ⟨f1, fl1, w1, hde1, e1, e2, ⟨os, hse⟩, hfr1⟩ := spSe_openAll (d := d + 7) h
  subst e1; subst e2
  have hCo1 := h.fr hfr1 (by decide)
  obtain ⟨f2, fl2, w2, hde2, hfl, hcase⟩ := spSe_exists (d := d + 1) hCo1 hse h.2.2.2.1 hc
  subst hfl
  have hb1 : w1.1 1 5 = nI b := hCo1.2.2.1
  rcases hcase with ⟨hf, σ, hsol, hfr2, hfound⟩ | ⟨hf, hw, hnos⟩
  · subst hf
    have hfr12 : sg_fr [17, 18, 19, 20, 21, 23] w w2 := (hfr1.mono (by decide)).trans (hfr2.mono (by decide))
    have hgr : sg_gr L b r c σ := sg_sol_mays.mp hsol
    have loop : ∀ k, k ≤ L.1 → ∀ (σ : Nat → Nat) (u : sx_W), sg_fr [17, 18, 19, 20, 21, 23] w u → sg_gr L b r c σ → (∀ τ, sg_gr L b r c τ → sg_le k σ τ) → (∀ o, o < L.1 → u.1 21 o = nI (σ o)) → (∀ j, j < L.1 → u.1 17 j = nI (ff_op L σ k j)) →
        sx_xe (d + 11) rSe_findFirst 23 [.ref 16, .int (nI c), .ref 23, .int (nI k)] u (se_ff 23 L b r c w) := by
      refine sx_for L.1 (fun σ u hfr hg hmin hfo hopn => ?_) (fun k hk ih σ u hfr hg hmin hfo hopn => ?_)
      · have hCo := h.fr hfr (by decide)
        have hn := hCo.1.2.1
        have nc : ¬ ¬ u.1 1 4 ≤ nI L.1 := fun c => c (by rw [hn]; exact nI_le (Nat.le_refl _) (by omega))
        have hcl : (u.1 1 4).toNatClampNeg = L.1 := by rw [hn]; exact nI_clamp (by omega)
        refine ⟨1, 0, (sx_cp u.1 21 23 0 0 L.1, u.2), fun Q z => bSe_findFirst_23_23 (f1 := 0) (w1 := u) (fun _ => by rw [hn]; exact nI_pos (by omega)) (fun _ => by rw [hcl]; omega) (fun _ => by rw [hcl]; exact z) (fun c => absurd c nc) (fun c => absurd c nc) (fun c => absurd c nc), rfl, ?_, Or.inl ⟨rfl, σ, hg, hmin, fun j hj => ?_⟩⟩
        · refine hfr.trans (fun a ha => ⟨?_, rfl⟩)
          have : a ≠ 23 := fun e => ha (by rw [e]; decide)
          show sx_cp u.1 21 23 0 0 L.1 a = _
          simp [sx_cp, this]
        · show sx_cp u.1 21 23 0 0 L.1 23 j = _
          simp only [sx_cp, if_true]
          rw [pk_cpy_in (Nat.zero_le _) (by omega), Nat.zero_add, Nat.sub_zero]
          exact hfo j hj
      · have hCo := h.fr hfr (by decide)
        have hn := hCo.1.2.1
        have nn : ¬ u.1 1 4 ≤ nI k := by rw [hn]; exact nI_ge hk (by omega)
        have hcl : (nI k).toNatClampNeg = k := nI_clamp (by omega)
        have hsolk : sg_sol L b (ff_op L σ k) r (List.range L.1) [] c σ := (ff_sol hg (by omega)).mpr ⟨hg, fun j hj => rfl⟩
        obtain ⟨f, fl, w', hde, hfl, q, hq8, hfq, σ', hs', hsk, hmn, hfo', hopn', hfr'⟩ := spSe_earliest (d := d) hCo hc hk (fun j hj => ⟨hopn j hj, ff_op_lt hg.1 hj⟩) hfo hsolk
        subst hfl
        obtain ⟨hg', hag⟩ := (ff_sol hg (by omega)).mp hs'
        have hA : ∀ τ, sg_gr L b r c τ → sg_le (k + 1) σ' τ := fun τ hτ => by
          rcases hmin τ hτ with hx | ⟨j, hj, hx, hlt⟩
          · have h1 := hmn τ ((ff_sol hg (by omega)).mpr ⟨hτ, fun j hj => (hx j hj).symm⟩)
            rcases Nat.lt_or_ge q (τ k) with hl | hl
            · exact Or.inr ⟨k, by omega, fun j hj => by rw [hag j hj]; exact hx j hj, by rw [hsk]; exact hl⟩
            · refine Or.inl (fun j hj => ?_)
              by_cases e : j = k
              · rw [e, hsk]; omega
              · rw [hag j (by omega)]; exact hx j (by omega)
          · exact Or.inr ⟨j, by omega, fun i hi => by rw [hag i (by omega)]; exact hx i hi, by rw [hag j hj]; exact hlt⟩
        have hB : ∀ o, o < L.1 → (sx_u w'.1 17 k (nI (2 ^ q))) 21 o = nI (σ' o) := fun o ho => by
          rw [sx_u_o (by decide)]; exact hfo' o ho
        have hC : ∀ j, j < L.1 → (sx_u w'.1 17 k (nI (2 ^ q))) 17 j = nI (ff_op L σ' (k + 1) j) := fun j hj => by
          rw [sx_u_s]
          by_cases e : j = k
          · rw [if_pos e, e]
            unfold ff_op
            rw [if_pos (by omega), hsk]
          · rw [if_neg e, hopn' j hj e]
            unfold ff_op
            by_cases e2 : j < k
            · rw [if_pos e2, if_pos (by omega), hag j e2]
            · rw [if_neg e2, if_neg (by omega)]
        obtain ⟨g, gl, w'', hev, hp⟩ := ih σ' (sx_u w'.1 17 k (nI (2 ^ q)), w'.2) ((hfr.trans (hfr'.mono (by decide))).trans (fun a ha => ⟨sx_u_o (fun e => ha (by rw [e]; decide)), rfl⟩)) hg' hA hB hC
        refine ⟨g, gl, w'', fun Q z => bSe_findFirst_23_23 (fun c => absurd c nn) (fun c => absurd c nn) (fun c => absurd c nn) (fun _ => hde) (fun _ => vp_in_nI (by omega) (by decide)) (fun _ => ?_), hp⟩
        rw [hcl, nI_1, hfq, sz_one q hq8]
        exact hev Q z
    obtain ⟨g, gl, w', hev, hp⟩ := loop 0 (Nat.zero_le _) σ w2 hfr12 hgr (fun τ _ => Or.inl (fun j hj => by omega)) hfound (fun j hj => by
      rw [(hfr2 17 (by decide)).1]
      unfold ff_op
      rw [if_neg (by omega)]
      exact (hse.1 j hj).1)
    refine ⟨g, gl, w', fun Q z => sx_met_of rfl rfl rfl rfl (bSe_findFirst_23_0 hde1 (by rw [hb1]; exact hde2) (fun _ => hev Q z) (fun c => absurd c (by decide))), hp⟩
  · subst hf
    subst hw
    refine ⟨0, 0, w2, fun Q z => sx_met_of rfl rfl rfl rfl (bSe_findFirst_23_0 hde1 (by rw [hb1]; exact hde2) (fun c => absurd rfl c) (fun _ => z)), rfl, hfr1.mono (by decide), Or.inr ⟨rfl, fun σ hσ => hnos σ (sg_sol_mays.mpr hσ)⟩⟩
end
