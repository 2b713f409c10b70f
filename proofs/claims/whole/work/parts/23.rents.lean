/-! ===== the model's clear; least rents on both sides ===== -/
theorem sg_bt_eq (s p : Nat) : sg_bt s p = s / 2 ^ p % 2 := by
  have h := Nat.mod_lt (s / 2 ^ p) (show 0 < 2 by decide)
  unfold sg_bt
  rw [Nat.testBit_eq_decide_div_mod_eq]
  by_cases e : s / 2 ^ p % 2 = 1
  · simp [e]
  · have : s / 2 ^ p % 2 = 0 := by omega
    simp [this]
section
variable {d : Nat} {w : sx_W} {L : sg_L} {b : Nat} {r : Nat → Nat} {t : Bool}
theorem spMo_clear {R : Nat → Nat} (h : sg_Mo L b t r w) (hR : ∀ p, p < 8 → w.1 54 p = nI (R p) ∧ R p ≤ 2) : sx_x (d + 2) rMo_clear [.ref 48] w (fun f fl w' => f = sz_b (sg_clr L b R) ∧ fl = 0 ∧ sg_fr [53] w w') := by
  have h7 := h.1.1.1
  have hR2 : ∀ p, p < 8 → R p ≤ 2 := fun p hp => (hR p hp).2
  have outer : ∀ l, l ≤ L.1 → ∀ u, sg_fr [53] w u → (∀ j, j < l → u.1 53 j = nI (sg_best L R j) ∧ sg_bad L b (sg_best L R) j = false) → sx_xe (d + 2) rMo_clear 2 [.ref 48, .int (nI l), .null, .null, .null, .null, .null, .null] u (fun f fl w' => f = sz_b (sg_clr L b R) ∧ fl = 0 ∧ sg_fr [53] w w') := by
    refine sx_for L.1 (fun u hf ha => ?_) (fun l hl ih u hf ha => ?_)
    · have hMo := h.fr hf (by decide) (by decide) (by decide) (by decide) (by decide)
      have nc : ¬ ¬ u.1 48 0 ≤ nI L.1 := fun c => c (by rw [hMo.1.2.1]; exact nI_le (Nat.le_refl _) (by omega))
      have hc : sg_clr L b R = true := sz_all_iff.mpr (fun l hl => by rw [(ha l hl).2]; rfl)
      exact ⟨1, 0, u, fun Q z => bMo_clear_2 (fun _ => z) (fun c => absurd c nc), by rw [hc]; rfl, rfl, hf⟩
    · have hMo := h.fr hf (by decide) (by decide) (by decide) (by decide) (by decide)
      have nn : ¬ u.1 48 0 ≤ nI l := by rw [hMo.1.2.1]; exact nI_ge hl (by omega)
      have hcl : (nI l).toNatClampNeg = l := nI_clamp (by omega)
      have hC : ∀ q, sg_cst R (L.2.1 l) (L.2.2.1 l) q ≤ 8 := fun q => sg_cst_le hR2 (h.1.1.2 l hl).2.2.1 q
      have h54 : ∀ p, p < 8 → u.1 54 p = nI (R p) := fun p hp => by rw [(hf 54 (by decide)).1]; exact (hR p hp).1
      have inner : ∀ p, p ≤ 8 → sx_xe (d + 2) rMo_clear 18 [.ref 48, .int (nI l), .int (if (sg_bs L (sg_cst R (L.2.1 l) (L.2.2.1 l)) l p).1 < 8 then nI (sg_bs L (sg_cst R (L.2.1 l) (L.2.2.1 l)) l p).1 else (-1 : Int32)), .int (nI (sg_bs L (sg_cst R (L.2.1 l) (L.2.2.1 l)) l p).2), .int (nI p), .null, .null, .null] u (fun f fl w' => f = sz_b (sg_clr L b R) ∧ fl = 0 ∧ sg_fr [53] w w') := by
        refine sx_for 8 ?_ (fun p hp ih2 => ?_)
        · show sx_xe (d + 2) rMo_clear 18 [.ref 48, .int (nI l), .int (if sg_best L R l < 8 then nI (sg_best L R l) else (-1 : Int32)), .int (nI (sg_bs L (sg_cst R (L.2.1 l) (L.2.2.1 l)) l 8).2), .int (nI 8), .null, .null, .null] u _
          by_cases h8 : sg_best L R l < 8
          · rw [if_pos h8]
            have np : ¬ nI (sg_best L R l) < 0 := nI_pos (by omega)
            obtain ⟨w1, hw1⟩ : ∃ w1 : sx_W, w1 = (sx_u u.1 53 l (nI (sg_best L R l)), u.2) := ⟨_, rfl⟩
            have hf1 : sg_fr [53] w w1 := by
              rw [hw1]
              exact hf.trans (fun a ha => ⟨sx_u_o (fun e => ha (by rw [e]; decide)), rfl⟩)
            have hMo1 := h.fr hf1 (by decide) (by decide) (by decide) (by decide) (by decide)
            have hall : ∀ j, j ≤ l → w1.1 53 j = nI (sg_best L R j) ∧ sg_best L R j < 8 := fun j hj => by
              rw [hw1]
              show sx_u u.1 53 l _ 53 j = _ ∧ _
              rw [sx_u_s]
              by_cases e : j = l
              · rw [if_pos e, e]; exact ⟨rfl, h8⟩
              · rw [if_neg e]; exact ⟨(ha j (by omega)).1, (sg_bad_no (ha j (by omega)).2).1⟩
            have hft := spMo_fits_53 (d := d) (b := b) hMo1.1 hMo1.2.1 hMo1.2.2.1 hl hall
            cases hfit : sg_fit L b (sg_best L R) l with
            | true =>
              rw [hfit] at hft
              obtain ⟨f, fl, w', hev, hp⟩ := ih w1 hf1 (fun j hj => ⟨(hall j (by omega)).1, by
                by_cases e : j = l
                · rw [e, sg_bad, hfit, decide_eq_true h8]; rfl
                · exact (ha j (by omega)).2⟩)
              refine ⟨f, fl, w', fun Q z => bMo_clear_18 (f2 := 0) (fun _ => vp_in_nI (by omega) (by decide)) (fun _ c => absurd c np) (fun _ _ => by rw [hcl, ← hw1]; exact hft) (fun _ _ _ => ?_) (fun _ _ c => absurd c (by decide)) (fun c => absurd (by decide) c) (fun c => absurd (by decide) c), hp⟩
              rw [hcl, ← hw1, nI_1]; exact hev Q z
            | false =>
              rw [hfit] at hft
              have hc : sg_clr L b R = false := sz_all_no hl (by rw [sg_bad, hfit]; simp)
              refine ⟨0, 0, w1, fun Q z => bMo_clear_18 (f2 := 0) (fun _ => vp_in_nI (by omega) (by decide)) (fun _ c => absurd c np) (fun _ _ => by rw [hcl, ← hw1]; exact hft) (fun _ _ c => absurd rfl c) (fun _ _ _ => by rw [hcl, ← hw1]; exact z) (fun c => absurd (by decide) c) (fun c => absurd (by decide) c), by rw [hc]; rfl, rfl, hf1⟩
          · rw [if_neg h8]
            have hc : sg_clr L b R = false := sz_all_no hl (by simp [sg_bad, h8])
            refine ⟨0, 0, (sx_u u.1 53 l (-1), u.2), fun Q z => bMo_clear_18 (f1 := 0) (f2 := 0) (fun _ => vp_in_nI (by omega) (by decide)) (fun _ _ => by rw [hcl]; exact z) (fun _ c => absurd (by decide) c) (fun _ c => absurd (by decide) c) (fun _ c => absurd (by decide) c) (fun c => absurd (by decide) c) (fun c => absurd (by decide) c), by rw [hc]; rfl, rfl, hf.trans (fun a ha => ⟨sx_u_o (fun e => ha (by rw [e]; decide)), rfl⟩)⟩
        · have n8 : ¬ (8 : Int32) ≤ nI p := nI_ge (b := 8) hp (by omega)
          have hok := sg_bs_ok L l hC p (by omega)
          rw [sg_bs] at ih2
          generalize hs : sg_bs L (sg_cst R (L.2.1 l) (L.2.2.1 l)) l p = s at ih2 hok ⊢
          have slt := sg_sl_lt L l p
          have hcs := hC p
          have inmost : ∀ k, k ≤ 8 → sx_xe (d + 2) rMo_clear 40 [.ref 48, .int (nI l), .int (if s.1 < 8 then nI s.1 else (-1 : Int32)), .int (nI s.2), .int (nI p), .int (nI (sg_sl L l p)), .int (nI (fb_sm (fun p2 => sg_bt (sg_sl L l p) p2 * R p2) k)), .int (nI k)] u (fun f fl w' => f = sz_b (sg_clr L b R) ∧ fl = 0 ∧ sg_fr [53] w w') := by
            refine sx_for 8 ?_ (fun k hk ih3 => ?_)
            · rw [sg_cst_eq h.1.1 R hl hp]
              have hmay := spMo_may (d := d) hMo.1 hl hp
              have ecmp : (nI s.2 ≤ nI (sg_cst R (L.2.1 l) (L.2.2.1 l) p)) ↔ ¬ sg_cst R (L.2.1 l) (L.2.2.1 l) p < s.2 := by
                rw [nI_leI (by omega) (by omega)]; omega
              cases hm : sg_may L l p with
              | false =>
                rw [hm] at hmay ih2
                obtain ⟨f, fl, w', hev, hp2⟩ := ih2
                refine ⟨f, fl, w', fun Q z => bMo_clear_40 (fun _ => hmay) (fun _ _ => ?_) (fun _ c => absurd rfl c) (fun _ c => absurd rfl c) (fun c => absurd (by decide) c) (fun c => absurd (by decide) c), hp2⟩
                rw [nI_1]; exact hev Q z
              | true =>
                rw [hm] at hmay ih2
                by_cases hlt : sg_cst R (L.2.1 l) (L.2.2.1 l) p < s.2
                · rw [decide_eq_true hlt] at ih2
                  simp only [Bool.and_self, if_true, hp] at ih2
                  obtain ⟨f, fl, w', hev, hp2⟩ := ih2
                  refine ⟨f, fl, w', fun Q z => bMo_clear_40 (fun _ => hmay) (fun _ c => absurd c (by decide)) (fun _ _ c => absurd hlt (ecmp.mp c)) (fun _ _ _ => ?_) (fun c => absurd (by decide) c) (fun c => absurd (by decide) c), hp2⟩
                  rw [nI_1]; exact hev Q z
                · rw [decide_eq_false hlt] at ih2
                  obtain ⟨f, fl, w', hev, hp2⟩ := ih2
                  refine ⟨f, fl, w', fun Q z => bMo_clear_40 (fun _ => hmay) (fun _ c => absurd c (by decide)) (fun _ _ _ => ?_) (fun _ _ c => absurd (ecmp.mpr hlt) c) (fun c => absurd (by decide) c) (fun c => absurd (by decide) c), hp2⟩
                  rw [nI_1]; exact hev Q z
            · obtain ⟨f, fl, w', hev, hp2⟩ := ih3
              have hck : (nI k).toNatClampNeg = k := nI_clamp (by omega)
              refine ⟨f, fl, w', fun Q z => bMo_clear_40 (f1 := 0) (fun c => absurd c (nI_ge (b := 8) hk (by omega))) (fun c => absurd c (nI_ge (b := 8) hk (by omega))) (fun c => absurd c (nI_ge (b := 8) hk (by omega))) (fun c => absurd c (nI_ge (b := 8) hk (by omega))) (fun _ => vp_in_nI hk (by decide)) (fun _ => ?_), hp2⟩
              rw [hck, h54 k hk, sz_bit (by omega) (by omega), ← sg_bt_eq, pk_mul, nI_add, nI_1]
              exact hev Q z
          obtain ⟨f, fl, w', hev, hp2⟩ := inmost 0 (by omega)
          exact ⟨f, fl, w', fun Q z => bMo_clear_18 (f1 := 0) (fun c => absurd c n8) (fun c => absurd c n8) (fun c => absurd c n8) (fun c => absurd c n8) (fun c => absurd c n8) (fun _ => spMo_sleep hMo.1 hl hp) (fun _ => hev Q z), hp2⟩
      obtain ⟨f, fl, w', hev, hp⟩ := inner 0 (by omega)
      exact ⟨f, fl, w', fun Q z => bMo_clear_2 (fun c => absurd c nn) (fun _ => hev Q z), hp⟩
  obtain ⟨f, fl, w', hev, hp⟩ := outer 0 (Nat.zero_le _) w sg_fr.rfl' (fun j hj => by omega)
  exact ⟨f, fl, w', fun Q z => sx_met_of rfl rfl rfl rfl (bMo_clear_0 (hev Q z)), hp⟩
/-! rents told by a number -/
def sg_dg (c p : Nat) : Nat := c / 3 ^ (7 - p) % 3
theorem spMo_tells {c : Nat} (hc : c < 6561) : sx_x d rMo_tells [.ref 48, .int (nI c)] w (fun f fl w' => f = 0 ∧ fl = 0 ∧ sg_fr [54] w w' ∧ ∀ p, p < 8 → w'.1 54 p = nI (sg_dg c p)) := by
  have loop : ∀ k, k ≤ 8 → ∀ u, sg_fr [54] w u → (∀ p, k ≤ p → p < 8 → u.1 54 p = nI (sg_dg c p)) → sx_xe d rMo_tells 5 [.ref 48, .null, .int (nI (c / 3 ^ (8 - k))), .int (nI k - 1)] u (fun f fl w' => f = 0 ∧ fl = 0 ∧ sg_fr [54] w w' ∧ ∀ p, p < 8 → w'.1 54 p = nI (sg_dg c p)) := by
    intro k
    induction k with
    | zero =>
      intro _ u hf ha
      exact ⟨0, 0, u, fun Q z => bMo_tells_5 (fun _ => z) (fun c => absurd (by decide) c) (fun c => absurd (by decide) c), rfl, rfl, hf, fun p hp => ha p (Nat.zero_le _) hp⟩
    | succ k ih =>
      intro hk u hf ha
      have e1 : nI (k + 1) - 1 = nI k := nI_pred k
      have hck : (nI k).toNatClampNeg = k := nI_clamp (by omega)
      have hle : c / 3 ^ (8 - (k + 1)) ≤ c := Nat.div_le_self _ _
      have ediv : nI (c / 3 ^ (8 - (k + 1))) / (3 : Int32) = nI (c / 3 ^ (8 - k)) := by
        rw [show (3 : Int32) = nI 3 from rfl, pk_div (by omega) (by omega) (by omega), Nat.div_div_eq_div_mul, ← Nat.pow_succ, show (8 - (k + 1)).succ = 8 - k by omega]
      have erem : nI (c / 3 ^ (8 - (k + 1))) - nI (c / 3 ^ (8 - (k + 1))) / (3 : Int32) * (3 : Int32) = nI (sg_dg c k) := by
        rw [show (3 : Int32) = nI 3 from rfl, pk_rem (by omega) (by omega) (by omega), sg_dg, show 8 - (k + 1) = 7 - k by omega]
      obtain ⟨f, fl, w', hev, hp⟩ := ih (by omega) (sx_u u.1 54 k (nI (sg_dg c k)), u.2) (hf.trans (fun a ha => ⟨sx_u_o (fun e => ha (by rw [e]; decide)), rfl⟩)) (fun p h1 h2 => by
        show sx_u u.1 54 k _ 54 p = _
        rw [sx_u_s]
        by_cases e : p = k
        · rw [if_pos e, e]
        · rw [if_neg e]; exact ha p (by omega) h2)
      rw [e1]
      refine ⟨f, fl, w', fun Q z => bMo_tells_5 (fun c => absurd c (nI_pos (by omega))) (fun _ => vp_in_nI (by omega) (by decide)) (fun _ => ?_), hp⟩
      rw [erem, ediv, hck, show nI k + (-1 : Int32) = nI k - 1 by rw [Int32.sub_eq_add_neg]]
      exact hev Q z
  obtain ⟨f, fl, w', hev, hp⟩ := loop 8 (Nat.le_refl _) w sg_fr.rfl' (fun p h1 h2 => by omega)
  rw [show (8 - 8) = 0 from rfl, Nat.pow_zero, Nat.div_one] at hev
  exact ⟨f, fl, w', fun Q z => sx_met_of rfl rfl rfl rfl (bMo_tells_0 (hev Q z)), hp⟩
end
theorem sg_dg_le (c p : Nat) : sg_dg c p ≤ 2 := by
  have := Nat.mod_lt (c / 3 ^ (7 - p)) (show 0 < 3 by decide)
  unfold sg_dg; omega
def sg_eR (R : Nat → Nat) : Nat := 2187 * R 0 + 729 * R 1 + 243 * R 2 + 81 * R 3 + 27 * R 4 + 9 * R 5 + 3 * R 6 + R 7
theorem sg_eR_ok {R : Nat → Nat} (h : ∀ p, p < 8 → R p ≤ 2) : sg_eR R < 6561 ∧ ∀ p, p < 8 → sg_dg (sg_eR R) p = R p := by
  have h0 := h 0 (by omega)
  have h1 := h 1 (by omega)
  have h2 := h 2 (by omega)
  have h3 := h 3 (by omega)
  have h4 := h 4 (by omega)
  have h5 := h 5 (by omega)
  have h6 := h 6 (by omega)
  have h7 := h 7 (by omega)
  refine ⟨by unfold sg_eR; omega, fun p hp => ?_⟩
  unfold sg_dg sg_eR
  match p, hp with
  | 0, _ => simp only [Nat.reduceSub, Nat.reducePow]; omega
  | 1, _ => simp only [Nat.reduceSub, Nat.reducePow]; omega
  | 2, _ => simp only [Nat.reduceSub, Nat.reducePow]; omega
  | 3, _ => simp only [Nat.reduceSub, Nat.reducePow]; omega
  | 4, _ => simp only [Nat.reduceSub, Nat.reducePow]; omega
  | 5, _ => simp only [Nat.reduceSub, Nat.reducePow]; omega
  | 6, _ => simp only [Nat.reduceSub, Nat.reducePow]; omega
  | 7, _ => simp only [Nat.reduceSub, Nat.reducePow]; omega
  | n + 8, hp => omega
theorem sg_dg_pre {c c' : Nat} (hc : c < 6561) (hc' : c' < 6561) : ∀ p, p ≤ 8 → (∀ j, j < p → sg_dg c j = sg_dg c' j) → c / 3 ^ (8 - p) = c' / 3 ^ (8 - p)
  | 0, _, _ => by rw [Nat.div_eq_of_lt (by simpa using hc), Nat.div_eq_of_lt (by simpa using hc')]
  | p + 1, hp, h => by
    have ih := sg_dg_pre hc hc' p (by omega) (fun j hj => h j (by omega))
    have h1 := h p (by omega)
    unfold sg_dg at h1
    have e : ∀ c : Nat, c / 3 ^ (8 - p) = c / 3 ^ (7 - p) / 3 := fun c => by
      rw [Nat.div_div_eq_div_mul, ← Nat.pow_succ, show (7 - p).succ = 8 - p by omega]
    rw [e, e] at ih
    rw [show 8 - (p + 1) = 7 - p by omega]
    omega
theorem sg_dg_lex {c c' : Nat} (hc : c < 6561) (hc' : c' < 6561) (h : c ≤ c') : sg_le 8 (sg_dg c) (sg_dg c') := by
  by_cases ha : ∀ j, j < 8 → sg_dg c j = sg_dg c' j
  · exact Or.inl ha
  · have : ∃ j, j < 8 ∧ ¬ sg_dg c j = sg_dg c' j := by
      apply Classical.byContradiction
      intro hn
      exact ha (fun j hj => Classical.byContradiction fun hx => hn ⟨j, hj, hx⟩)
    obtain ⟨p, hp, h1, h2⟩ := fb_first (p := fun j => ¬ sg_dg c j = sg_dg c' j) this
    have hpre : ∀ j, j < p → sg_dg c j = sg_dg c' j := fun j hj => Classical.byContradiction fun hx => h2 j hj hx
    refine Or.inr ⟨p, hp, hpre, ?_⟩
    have e := sg_dg_pre hc hc' p (by omega) hpre
    have e2 : ∀ c : Nat, c / 3 ^ (8 - p) = c / 3 ^ (7 - p) / 3 := fun c => by
      rw [Nat.div_div_eq_div_mul, ← Nat.pow_succ, show (7 - p).succ = 8 - p by omega]
    rw [e2, e2] at e
    have hd : c / 3 ^ (7 - p) ≤ c' / 3 ^ (7 - p) := Nat.div_le_div_right h
    unfold sg_dg at h1 ⊢
    omega
theorem sg_clr_cong {L : sg_L} {b : Nat} {R R' : Nat → Nat} (h : ∀ p, p < 8 → R p = R' p) : sg_clr L b R = sg_clr L b R' := by
  have e : sg_best L R = sg_best L R' := funext fun l => by
    have ec : ∀ k nd, sg_cst R k nd = sg_cst R' k nd := fun k nd => funext fun q => by
      have hn : ∀ m, sg_cN R m q = sg_cN R' m q := fun m => fb_sm_cong (fun j _ => h _ (Nat.mod_lt _ (by decide)))
      unfold sg_cst
      rw [hn, hn, h _ (Nat.mod_lt _ (by decide))]
    unfold sg_best
    rw [ec]
  unfold sg_clr
  rw [e]
/-- least rents -/
def sg_isL (L : sg_L) (b : Nat) (R : Nat → Nat) : Prop := (∀ p, p < 8 → R p ≤ 2) ∧ sg_clr L b R = true ∧ ∀ T, (∀ p, p < 8 → T p ≤ 2) → sg_clr L b T = true → fb_sm R 8 < fb_sm T 8 ∨ (fb_sm R 8 = fb_sm T 8 ∧ sg_le 8 R T)
theorem sg_isL_one {L : sg_L} {b : Nat} {R T : Nat → Nat} (h1 : sg_isL L b R) (h2 : sg_isL L b T) : fb_sm R 8 = fb_sm T 8 ∧ ∀ p, p < 8 → R p = T p := by
  rcases h1.2.2 T h2.1 h2.2.1 with a | ⟨a, a2⟩
  · rcases h2.2.2 R h1.1 h1.2.1 with c | ⟨c, -⟩ <;> omega
  · rcases h2.2.2 R h1.1 h1.2.1 with c | ⟨c, c2⟩
    · omega
    · exact ⟨a, sg_le_anti a2 c2⟩
/-- what rents answers, of a part or -1 -/
def sg_rA (L : sg_L) (b : Nat) (x f : Int32) : Prop := (∃ R, sg_isL L b R ∧ ((x = -1 ∧ f = nI (fb_sm R 8)) ∨ ∃ p, p < 8 ∧ x = nI p ∧ f = nI (R p))) ∨ (f = -4 ∧ ∀ R, (∀ p, p < 8 → R p ≤ 2) → sg_clr L b R = false)
section
variable {d : Nat} {w : sx_W} {L : sg_L} {b : Nat} {r : Nat → Nat} {t : Bool}
def sg_mb (L : sg_L) (b : Nat) : Nat → Nat × Nat
  | 0 => (6561, 17)
  | c + 1 => if decide (fb_sm (sg_dg c) 8 < (sg_mb L b c).2) && sg_clr L b (sg_dg c) then (c, fb_sm (sg_dg c) 8) else sg_mb L b c
theorem sg_mb_ok (L : sg_L) (b : Nat) : ∀ c, c ≤ 6561 → ((sg_mb L b c).1 = 6561 ∧ (sg_mb L b c).2 = 17 ∧ ∀ c', c' < c → sg_clr L b (sg_dg c') = false) ∨ ((sg_mb L b c).1 < c ∧ sg_clr L b (sg_dg (sg_mb L b c).1) = true ∧ (sg_mb L b c).2 = fb_sm (sg_dg (sg_mb L b c).1) 8 ∧ ∀ c', c' < c → sg_clr L b (sg_dg c') = true → (sg_mb L b c).2 < fb_sm (sg_dg c') 8 ∨ ((sg_mb L b c).2 = fb_sm (sg_dg c') 8 ∧ (sg_mb L b c).1 ≤ c'))
  | 0, _ => Or.inl ⟨rfl, rfl, fun c' hc => by omega⟩
  | c + 1, hc => by
    have ih := sg_mb_ok L b c (by omega)
    have h16 : fb_sm (sg_dg c) 8 ≤ 8 * 2 := fb_sm_bound (fun p _ => sg_dg_le c p)
    rw [sg_mb]
    by_cases hlt : fb_sm (sg_dg c) 8 < (sg_mb L b c).2
    · rw [decide_eq_true hlt, Bool.true_and]
      cases hcl : sg_clr L b (sg_dg c) with
      | true =>
        rw [if_pos rfl]
        refine Or.inr ⟨by show c < c + 1; omega, hcl, rfl, fun c' h1 h2 => ?_⟩
        show fb_sm (sg_dg c) 8 < _ ∨ (fb_sm (sg_dg c) 8 = _ ∧ c ≤ c')
        by_cases e : c' = c
        · rw [e]; exact Or.inr ⟨rfl, Nat.le_refl _⟩
        · rcases ih with ⟨-, -, a3⟩ | ⟨-, -, -, a4⟩
          · rw [a3 c' (by omega)] at h2; cases h2
          · rcases a4 c' (by omega) h2 with x | x
            · exact Or.inl (by omega)
            · exact Or.inl (by omega)
      | false =>
        rw [if_neg (by decide)]
        rcases ih with ⟨a1, a2, a3⟩ | ⟨a1, a2, a3, a4⟩
        · exact Or.inl ⟨a1, a2, fun c' h => by
            by_cases e : c' = c
            · rw [e]; exact hcl
            · exact a3 c' (by omega)⟩
        · exact Or.inr ⟨by omega, a2, a3, fun c' h h2 => by
            by_cases e : c' = c
            · rw [e, hcl] at h2; cases h2
            · exact a4 c' (by omega) h2⟩
    · rw [decide_eq_false hlt, Bool.false_and, if_neg (by decide)]
      rcases ih with ⟨a1, a2, a3⟩ | ⟨a1, a2, a3, a4⟩
      · omega
      · exact Or.inr ⟨by omega, a2, a3, fun c' h h2 => by
          by_cases e : c' = c
          · rw [e]
            rcases Nat.lt_or_ge (sg_mb L b c).2 (fb_sm (sg_dg c) 8) with x | x
            · exact Or.inl x
            · exact Or.inr ⟨by omega, by omega⟩
          · exact a4 c' (by omega) h2⟩
theorem sg_mb_isL {c : Nat} (h1 : (sg_mb L b 6561).1 = c) (h2 : c < 6561) : sg_isL L b (sg_dg c) ∧ (sg_mb L b 6561).2 = fb_sm (sg_dg c) 8 := by
  rcases sg_mb_ok L b 6561 (Nat.le_refl _) with ⟨a1, -, -⟩ | ⟨a1, a2, a3, a4⟩
  · omega
  · rw [h1] at a2 a3 a4
    refine ⟨⟨fun p _ => sg_dg_le c p, a2, fun T hT hcl => ?_⟩, a3⟩
    obtain ⟨e1, e2⟩ := sg_eR_ok hT
    have hs : fb_sm (sg_dg (sg_eR T)) 8 = fb_sm T 8 := fb_sm_cong e2
    rcases a4 (sg_eR T) e1 (by rw [sg_clr_cong e2]; exact hcl) with x | ⟨x, y⟩
    · rw [hs, a3] at x; exact Or.inl x
    · rw [hs, a3] at x
      refine Or.inr ⟨x, ?_⟩
      rcases sg_dg_lex h2 e1 y with z | ⟨k, z1, z2, z3⟩
      · exact Or.inl (fun j hj => by rw [z j hj, e2 j hj])
      · exact Or.inr ⟨k, z1, fun j hj => by rw [z2 j hj, e2 j (by omega)], by rw [e2 k z1] at z3; exact z3⟩
theorem spMo_rents {x : Int32} (h : sg_Mo L b t r w) (hx : x = -1 ∨ ∃ p, p < 8 ∧ x = nI p) : sx_x (d + 3) rMo_rents [.ref 48, .int x] w (fun f fl w' => fl = 0 ∧ sg_rA L b x f ∧ sg_fr [53, 54] w w') := by
  have h7 := h.1.1.1
  have hin : sx_de (d + 2) rMo_in [.long x.toInt64, .long (-1 : Int64), .long (lN 7)] w 1 0 w := by
    have := spMo_in (d := d + 2) (w := w) (x := x.toInt64) (y := -1) (z := lN 7)
    rw [decide_eq_true (by
      rw [Int32.toInt_toInt64, show (-1 : Int64).toInt = -1 from rfl, show (lN 7).toInt = 7 from rfl]
      rcases hx with rfl | ⟨p, hp, rfl⟩
      · decide
      · rw [nI_toInt (by omega)]; omega)] at this
    exact this
  have loop : ∀ c, c ≤ 6561 → ∀ u, sg_fr [53, 54] w u → sx_xe (d + 3) rMo_rents 25 [.ref 48, .int x, .int (if (sg_mb L b c).1 < 6561 then nI (sg_mb L b c).1 else (-4 : Int32)), .int (nI (sg_mb L b c).2), .int (nI c), .null, .null] u (fun f fl w' => fl = 0 ∧ sg_rA L b x f ∧ sg_fr [53, 54] w w') := by
    refine sx_for 6561 (fun u hf => ?_) (fun c hc ih u hf => ?_)
    · have c0 : (6561 : Int32) ≤ nI 6561 := by decide
      by_cases hb : (sg_mb L b 6561).1 < 6561
      · rw [if_pos hb]
        obtain ⟨isl, es⟩ := sg_mb_isL (L := L) (b := b) rfl hb
        obtain ⟨g, gl, w1, hde, e1, e2, hf1, ht⟩ := spMo_tells (d := d + 2) (w := u) hb
        subst e1; subst e2
        have ne : ¬ nI (sg_mb L b 6561).1 = (-4 : Int32) := fun hc => by
          have h1 := nI_toInt (n := (sg_mb L b 6561).1) (by omega)
          rw [hc] at h1
          have h2 : (-4 : Int32).toInt = -4 := rfl
          omega
        have hf2 : sg_fr [53, 54] w w1 := hf.trans (hf1.mono (by decide))
        rcases hx with rfl | ⟨p, hp, rfl⟩
        · exact ⟨_, 0, w1, fun Q z => bMo_rents_25 (w2 := u) (fun _ _ => hde) (fun _ _ c => absurd c (by decide)) (fun _ _ c => absurd c (by decide)) (fun _ _ _ => z) (fun _ c => absurd c ne) (fun c => absurd c0 c) (fun c => absurd c0 c), rfl, Or.inl ⟨_, isl, Or.inl ⟨rfl, by rw [es]⟩⟩, hf2⟩
        · have np : ¬ ¬ (0 : Int32) ≤ nI p := fun c => c (nI_pos' (by omega))
          have hcp : (nI p).toNatClampNeg = p := nI_clamp (by omega)
          exact ⟨_, 0, w1, fun Q z => bMo_rents_25 (w2 := u) (fun _ _ => hde) (fun _ _ _ => vp_in_nI hp (by decide)) (fun _ _ _ => z) (fun _ _ c => absurd c np) (fun _ c => absurd c ne) (fun c => absurd c0 c) (fun c => absurd c0 c), rfl, Or.inl ⟨_, isl, Or.inr ⟨p, hp, rfl, by rw [hcp, ht p hp]⟩⟩, hf2⟩
      · rw [if_neg hb]
        refine ⟨-4, 0, u, fun Q z => bMo_rents_25 (w1 := u) (w2 := u) (fun _ c => absurd rfl c) (fun _ c => absurd rfl c) (fun _ c => absurd rfl c) (fun _ c => absurd rfl c) (fun _ _ => z) (fun c => absurd c0 c) (fun c => absurd c0 c), rfl, Or.inr ⟨rfl, fun R hR => ?_⟩, hf⟩
        rcases sg_mb_ok L b 6561 (Nat.le_refl _) with ⟨-, -, a3⟩ | ⟨a1, -⟩
        · obtain ⟨e1, e2⟩ := sg_eR_ok hR
          rw [← sg_clr_cong e2]
          exact a3 _ e1
        · omega
    · have nc : ¬ (6561 : Int32) ≤ nI c := nI_ge (b := 6561) hc (by omega)
      obtain ⟨g, gl, w2, hde, e1, e2, hf1, ht⟩ := spMo_tells (d := d + 2) (w := u) hc
      subst e1; subst e2
      have hf2 : sg_fr [53, 54] w w2 := hf.trans (hf1.mono (by decide))
      have hMo2 := h.fr hf2 (by decide) (by decide) (by decide) (by decide) (by decide)
      have h16 : fb_sm (sg_dg c) 8 ≤ 8 * 2 := fb_sm_bound (fun p _ => sg_dg_le c p)
      have hl17 : (sg_mb L b c).2 ≤ 17 := by
        rcases sg_mb_ok L b c (by omega) with ⟨-, a2, -⟩ | ⟨-, -, a3, -⟩
        · omega
        · have : fb_sm (sg_dg (sg_mb L b c).1) 8 ≤ 8 * 2 := fb_sm_bound (fun p _ => sg_dg_le _ p)
          omega
      have inner : ∀ k, k ≤ 8 → sx_xe (d + 3) rMo_rents 45 [.ref 48, .int x, .int (if (sg_mb L b c).1 < 6561 then nI (sg_mb L b c).1 else (-4 : Int32)), .int (nI (sg_mb L b c).2), .int (nI c), .int (nI (fb_sm (sg_dg c) k)), .int (nI k)] w2 (fun f fl w' => fl = 0 ∧ sg_rA L b x f ∧ sg_fr [53, 54] w w') := by
        refine sx_for 8 ?_ (fun k hk ih2 => ?_)
        · have ecmp : (nI (sg_mb L b c).2 ≤ nI (fb_sm (sg_dg c) 8)) ↔ ¬ fb_sm (sg_dg c) 8 < (sg_mb L b c).2 := by rw [nI_leI (by omega) (by omega)]; omega
          by_cases hlt : fb_sm (sg_dg c) 8 < (sg_mb L b c).2
          · obtain ⟨g, gl, w3, hde3, e1, e2, hf3⟩ := spMo_clear (d := d) hMo2 (fun p hp => ⟨ht p hp, sg_dg_le c p⟩)
            subst e1; subst e2
            obtain ⟨f, fl, w', hev, hp⟩ := ih w3 (hf2.trans (hf3.mono (by decide)))
            rw [sg_mb, decide_eq_true hlt, Bool.true_and] at hev
            cases hcl : sg_clr L b (sg_dg c) with
            | true =>
              rw [hcl, if_pos rfl] at hev
              rw [hcl] at hde3
              refine ⟨f, fl, w', fun Q z => bMo_rents_45 (fun _ c => absurd hlt (ecmp.mp c)) (fun _ _ => hde3) (fun _ _ c => absurd c (by decide)) (fun _ _ _ => ?_) (fun c => absurd (by decide) c) (fun c => absurd (by decide) c), hp⟩
              have := hev Q z
              rw [if_pos hc] at this
              rw [nI_1]; exact this
            | false =>
              rw [hcl, if_neg Bool.false_ne_true] at hev
              rw [hcl] at hde3
              refine ⟨f, fl, w', fun Q z => bMo_rents_45 (fun _ c => absurd hlt (ecmp.mp c)) (fun _ _ => hde3) (fun _ _ _ => ?_) (fun _ _ c => absurd rfl c) (fun c => absurd (by decide) c) (fun c => absurd (by decide) c), hp⟩
              rw [nI_1]; exact hev Q z
          · obtain ⟨f, fl, w', hev, hp⟩ := ih w2 hf2
            rw [sg_mb, decide_eq_false hlt, Bool.false_and, if_neg Bool.false_ne_true] at hev
            refine ⟨f, fl, w', fun Q z => bMo_rents_45 (f1 := 0) (w1 := w2) (fun _ _ => ?_) (fun _ c => absurd (ecmp.mpr hlt) c) (fun _ c => absurd (ecmp.mpr hlt) c) (fun _ c => absurd (ecmp.mpr hlt) c) (fun c => absurd (by decide) c) (fun c => absurd (by decide) c), hp⟩
            rw [nI_1]; exact hev Q z
        · obtain ⟨f, fl, w', hev, hp⟩ := ih2
          have hck : (nI k).toNatClampNeg = k := nI_clamp (by omega)
          refine ⟨f, fl, w', fun Q z => bMo_rents_45 (f1 := 0) (w1 := w2) (fun c => absurd c (nI_ge (b := 8) hk (by omega))) (fun c => absurd c (nI_ge (b := 8) hk (by omega))) (fun c => absurd c (nI_ge (b := 8) hk (by omega))) (fun c => absurd c (nI_ge (b := 8) hk (by omega))) (fun _ => vp_in_nI hk (by decide)) (fun _ => ?_), hp⟩
          rw [hck, ht k hk, nI_add, nI_1]
          exact hev Q z
      obtain ⟨f, fl, w', hev, hp⟩ := inner 0 (by omega)
      exact ⟨f, fl, w', fun Q z => bMo_rents_25 (w1 := u) (fun c => absurd c nc) (fun c => absurd c nc) (fun c => absurd c nc) (fun c => absurd c nc) (fun c => absurd c nc) (fun _ => hde) (fun _ => hev Q z), hp⟩
  obtain ⟨f, fl, w', hev, hp⟩ := loop 0 (by omega) w sg_fr.rfl'
  exact ⟨f, fl, w', fun Q z => sx_met_of rfl rfl rfl rfl (bMo_rents_0 hin (fun _ => hev Q z) (fun c => absurd c (by decide))), hp⟩
end
