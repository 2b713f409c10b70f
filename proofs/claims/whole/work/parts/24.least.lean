/-! ===== the class's least rents ===== -/
def sg_ts (R : Nat → Nat) : Nat → Nat → Nat
  | 0, _ => 0
  | k + 1, p => R p + sg_ts R k (p + 1)
theorem sg_ts_cong {R T : Nat → Nat} : ∀ k p, (∀ j, p ≤ j → j < p + k → R j = T j) → sg_ts R k p = sg_ts T k p
  | 0, _, _ => rfl
  | k + 1, p, h => by rw [sg_ts, sg_ts, h p (Nat.le_refl _) (by omega), sg_ts_cong k (p + 1) (fun j h1 h2 => h j (by omega) (by omega))]
theorem sg_ts_le {R : Nat → Nat} : ∀ k p, (∀ j, p ≤ j → j < p + k → R j ≤ 2) → sg_ts R k p ≤ 2 * k
  | 0, _, _ => Nat.le_refl _
  | k + 1, p, h => by
    have h1 := sg_ts_le k (p + 1) (fun j h1 h2 => h j (by omega) (by omega))
    have h2 := h p (Nat.le_refl _) (by omega)
    rw [sg_ts]; omega
theorem sg_ts_sm (R : Nat → Nat) : sg_ts R 8 0 = fb_sm R 8 := by
  simp only [sg_ts, fb_sm, Nat.zero_add, Nat.reduceAdd]
  omega
/-- rents with a told beginning and a told sum of the rest -/
def sg_rt (ρ : Nat → Nat) (k p s : Nat) (R : Nat → Nat) : Prop := (∀ j, j < p → R j = ρ j) ∧ (∀ j, j < 8 → R j ≤ 2) ∧ sg_ts R k p = s
section
variable {d : Nat} {w : sx_W} {L : sg_L} {b : Nat} {r : Nat → Nat}
def sg_cfP (L : sg_L) (b : Nat) (ρ : Nat → Nat) (k p s : Nat) (w : sx_W) (f : Int32) (fl : Int64) (w' : sx_W) : Prop := fl = 0 ∧ sg_fr [25, 26] w w' ∧ (∀ j, j < p → w'.1 26 j = nI (ρ j)) ∧ ((f = 1 ∧ ∃ R, sg_rt ρ k p s R ∧ sg_clr L b R = true ∧ (∀ T, sg_rt ρ k p s T → sg_clr L b T = true → sg_le 8 R T) ∧ ∀ j, j < 8 → w'.1 26 j = nI (R j)) ∨ (f = 0 ∧ ∀ R, sg_rt ρ k p s R → sg_clr L b R = false))
theorem spMa_clearFrom : ∀ (k p : Nat), p + k = 8 → ∀ (ρ : Nat → Nat) (s : Nat) (w : sx_W), sg_Co L b r w → (∀ j, j < p → w.1 26 j = nI (ρ j) ∧ ρ j ≤ 2) → s < 100 → (k = 0 → s = 0) → sx_x (d + 3 + k) rMa_clearFrom [.ref 24, .int (nI p), .int (nI s)] w (sg_cfP L b ρ k p s w) := by
  intro k
  induction k with
  | zero =>
    intro p hp ρ s w h hρ hs h0
    have hp8 : p = 8 := by omega
    subst hp8
    have hs0 := h0 rfl
    subst hs0
    obtain ⟨f, fl, w1, hde, e1, e2, hw1, hw2⟩ := spMa_areCleared_26 (d := d) (R := ρ) h hρ
    subst e1; subst e2
    have hfr : sg_fr [25, 26] w w1 := fun a ha => ⟨by rw [hw1], hw2 a (fun e => ha (by rw [e]; decide))⟩
    have nl : ¬ nI 8 < (8 : Int32) := by decide
    refine ⟨sz_b (sg_clr L b ρ), 0, w1, fun Q z => sx_met_of rfl rfl rfl rfl (bMa_clearFrom_0 (fun c => absurd c nl) (fun _ => hde) (fun _ => z) (fun _ => sz_b01 _)), rfl, hfr, fun j hj => by rw [hw1]; exact (hρ j hj).1, ?_⟩
    cases hc : sg_clr L b ρ with
    | true => exact Or.inl ⟨rfl, ρ, ⟨fun _ _ => rfl, fun j hj => (hρ j hj).2, rfl⟩, hc, fun T hT _ => Or.inl (fun j hj => (hT.1 j hj).symm), fun j hj => by rw [hw1]; exact (hρ j hj).1⟩
    | false => exact Or.inr ⟨rfl, fun R hR => by rw [sg_clr_cong hR.1]; exact hc⟩
  | succ k ih =>
    intro p hp ρ s w h hρ hs h0
    have l8 : nI p < (8 : Int32) := nI_lt (b := 8) (by omega) (by omega)
    have hcp : (nI p).toNatClampNeg = p := nI_clamp (by omega)
    have emb : ((7 : Int32) - nI p) * (2 : Int32) = nI (2 * k) := by
      rw [show (7 : Int32) = nI 7 from rfl, pk_sub (by omega), show (2 : Int32) = nI 2 from rfl, pk_mul]
      congr 1
      omega
    have loop : ∀ q, q ≤ 3 → ∀ u, sg_fr [25, 26] w u → (∀ j, j < p → u.1 26 j = nI (ρ j)) → (∀ R, sg_rt ρ (k + 1) p s R → R p < q → sg_clr L b R = false) → sx_xe (d + 3 + (k + 1)) rMa_clearFrom 25 [.ref 24, .int (nI p), .int (nI s), .int (nI (2 * k)), .int (nI q), .null] u (sg_cfP L b ρ (k + 1) p s w) := by
      refine sx_for 3 (fun u hf hpre hno => ?_) (fun q hq ih2 u hf hpre hno => ?_)
      · refine ⟨0, 0, u, fun Q z => bMa_clearFrom_25 (f1 := 0) (w1 := u) (fun _ => z) (fun c => absurd (by decide) c) (fun c => absurd (by decide) c) (fun c => absurd (by decide) c) (fun c => absurd (by decide) c) (fun c => absurd (by decide) c) (fun c => absurd (by decide) c), rfl, hf, hpre, Or.inr ⟨rfl, fun R hR => hno R hR (by have := hR.2.1 p (by omega); omega)⟩⟩
      · have n2 : ¬ (2 : Int32) < nI q := nI_nlt (a := 2) (by omega) (by omega)
        have tail : ∀ R, sg_rt ρ (k + 1) p s R → R p + sg_ts R k (p + 1) = s ∧ sg_ts R k (p + 1) ≤ 2 * k := fun R hR => ⟨hR.2.2, sg_ts_le k (p + 1) (fun j h1 h2 => hR.2.1 j (by omega))⟩
        have next : ∀ u2, sg_fr [25, 26] w u2 → (∀ j, j < p → u2.1 26 j = nI (ρ j)) → (∀ R, sg_rt ρ (k + 1) p s R → R p = q → sg_clr L b R = false) → sx_xe (d + 3 + (k + 1)) rMa_clearFrom 25 [.ref 24, .int (nI p), .int (nI s), .int (nI (2 * k)), .int (nI (q + 1)), .null] u2 (sg_cfP L b ρ (k + 1) p s w) := fun u2 a1 a2 a3 => ih2 u2 a1 a2 (fun R hR hl => by
          by_cases e : R p = q
          · exact a3 R hR e
          · exact hno R hR (by omega))
        by_cases hsq : q ≤ s
        · have esub : nI s - nI q = nI (s - q) := pk_sub hsq
          have np : ¬ nI s - nI q < 0 := by rw [esub]; exact nI_pos (by omega)
          by_cases hmb : s - q ≤ 2 * k
          · have nm : ¬ nI (2 * k) < nI s - nI q := by rw [esub]; exact nI_nlt hmb (by omega)
            obtain ⟨w1, hw1⟩ : ∃ w1 : sx_W, w1 = (sx_u u.1 26 p (nI q), u.2) := ⟨_, rfl⟩
            have hf1 : sg_fr [25, 26] w w1 := by
              rw [hw1]
              exact hf.trans (fun a ha => ⟨sx_u_o (fun e => ha (by rw [e]; decide)), rfl⟩)
            have hup : ∀ j, j < p + 1 → w1.1 26 j = nI (sg_up ρ p q j) ∧ sg_up ρ p q j ≤ 2 := fun j hj => by
              rw [hw1]
              show sx_u u.1 26 p (nI q) 26 j = _ ∧ _
              rw [sx_u_s]
              by_cases e : j = p
              · rw [if_pos e, e, sg_up_s]; exact ⟨rfl, by omega⟩
              · rw [if_neg e, sg_up_o e]; exact ⟨hpre j (by omega), (hρ j (by omega)).2⟩
            obtain ⟨f, fl, w2, hde, hfl, hf2, hpre2, hcase⟩ := ih (p + 1) (by omega) (sg_up ρ p q) (s - q) w1 (h.fr hf1 (by decide)) hup (by omega) (fun hk => by omega)
            subst hfl
            have hf3 : sg_fr [25, 26] w w2 := hf1.trans hf2
            have hpre3 : ∀ j, j < p → w2.1 26 j = nI (ρ j) := fun j hj => by rw [hpre2 j (by omega), sg_up_o (by omega)]
            have conv : ∀ R, sg_rt ρ (k + 1) p s R → R p = q → sg_rt (sg_up ρ p q) k (p + 1) (s - q) R := fun R hR hq2 => by
              refine ⟨fun j hj => ?_, hR.2.1, by have := (tail R hR).1; omega⟩
              by_cases e : j = p
              · rw [e, sg_up_s]; exact hq2
              · rw [sg_up_o e]; exact hR.1 j (by omega)
            rcases hcase with ⟨hf1', R, hR, hcl, hmin, hfin⟩ | ⟨hf1', hnone⟩
            · subst hf1'
              have hRp : R p = q := by rw [hR.1 p (by omega), sg_up_s]
              have hR0 : sg_rt ρ (k + 1) p s R := ⟨fun j hj => by rw [hR.1 j (by omega), sg_up_o (by omega)], hR.2.1, by rw [sg_ts, hRp, hR.2.2]; omega⟩
              refine ⟨1, 0, w2, fun Q z => bMa_clearFrom_25 (f1 := 1) (w1 := w2) (fun c => absurd c n2) (fun _ c => absurd c np) (fun _ _ c => absurd c nm) (fun _ _ _ => vp_in_nI (by omega) (by decide)) (fun _ _ _ => ?_) (fun _ _ _ c => absurd c (by decide)) (fun _ _ _ _ => z), rfl, hf3, hpre3, Or.inl ⟨rfl, R, hR0, hcl, fun T hT hcT => ?_, hfin⟩⟩
              · rw [hcp, nI_1, esub, ← hw1]; exact hde
              · rcases Nat.lt_trichotomy (T p) q with c | c | c
                · rw [hno T hT c] at hcT; cases hcT
                · exact hmin T (conv T hT c) hcT
                · exact Or.inr ⟨p, by omega, fun j hj => by rw [hR0.1 j hj, hT.1 j hj], by rw [hRp]; exact c⟩
            · subst hf1'
              obtain ⟨g, gl, w', hev, hp2⟩ := next w2 hf3 hpre3 (fun R hR hq2 => hnone R (conv R hR hq2))
              refine ⟨g, gl, w', fun Q z => bMa_clearFrom_25 (f1 := 0) (w1 := w2) (fun c => absurd c n2) (fun _ c => absurd c np) (fun _ _ c => absurd c nm) (fun _ _ _ => vp_in_nI (by omega) (by decide)) (fun _ _ _ => ?_) (fun _ _ _ _ => ?_) (fun _ _ _ c => absurd rfl c), hp2⟩
              · rw [hcp, nI_1, esub, ← hw1]; exact hde
              · rw [nI_1]; exact hev Q z
          · have ym : nI (2 * k) < nI s - nI q := by rw [esub]; exact nI_lt (by omega) (by omega)
            obtain ⟨g, gl, w', hev, hp2⟩ := next u hf hpre (fun R hR hq2 => by have := tail R hR; omega)
            refine ⟨g, gl, w', fun Q z => bMa_clearFrom_25 (f1 := 0) (w1 := u) (fun c => absurd c n2) (fun _ c => absurd c np) (fun _ _ _ => ?_) (fun _ _ c => absurd ym c) (fun _ _ c => absurd ym c) (fun _ _ c => absurd ym c) (fun _ _ c => absurd ym c), hp2⟩
            rw [nI_1]; exact hev Q z
        · have yn : nI s - nI q < 0 := pk_sneg (by omega) (by omega)
          obtain ⟨g, gl, w', hev, hp2⟩ := next u hf hpre (fun R hR hq2 => by have := tail R hR; omega)
          refine ⟨g, gl, w', fun Q z => bMa_clearFrom_25 (f1 := 0) (w1 := u) (fun c => absurd c n2) (fun _ _ => ?_) (fun _ c => absurd yn c) (fun _ c => absurd yn c) (fun _ c => absurd yn c) (fun _ c => absurd yn c) (fun _ c => absurd yn c), hp2⟩
          rw [nI_1]; exact hev Q z
    obtain ⟨g, gl, w', hev, hp2⟩ := loop 0 (by omega) w sg_fr.rfl' (fun j hj => (hρ j hj).1) (fun R hR hl => by omega)
    refine ⟨g, gl, w', fun Q z => sx_met_of rfl rfl rfl rfl (bMa_clearFrom_0 (f1 := 0) (w1 := w) (fun _ => ?_) (fun c => absurd l8 c) (fun c => absurd l8 c) (fun c => absurd l8 c)), hp2⟩
    rw [emb]; exact hev Q z
/-- least rents as they are kept -/
def sg_kL (L : sg_L) (b : Nat) (s sum : Int32) (row : Nat → Int32) : Prop := (s = 1 ∧ ∃ R, sg_isL L b R ∧ sum = nI (fb_sm R 8) ∧ ∀ p, p < 8 → row p = nI (R p)) ∨ (s = 0 ∧ ∀ R, (∀ p, p < 8 → R p ≤ 2) → sg_clr L b R = false)
theorem sg_kL.b01 {s m : Int32} {row : Nat → Int32} (h : sg_kL L b s m row) : s = 0 ∨ s = 1 := by
  rcases h with h | h
  · exact Or.inr h.1
  · exact Or.inl h.1
theorem spMa_findLeast (h : sg_Co L b r w) : sx_x (d + 12) rMa_findLeast [.ref 24] w (fun f fl w' => fl = 0 ∧ sg_kL L b f (w'.1 24 4) (w'.1 26) ∧ (∀ j, j ≠ 4 → w'.1 24 j = w.1 24 j) ∧ sg_fr [24, 25, 26] w w') := by
  have loop : ∀ s, s ≤ 17 → ∀ u, sg_fr [25, 26] w u → (∀ R, (∀ p, p < 8 → R p ≤ 2) → fb_sm R 8 < s → sg_clr L b R = false) → sx_xe (d + 12) rMa_findLeast 2 [.ref 24, .int (nI s)] u (fun f fl w' => fl = 0 ∧ sg_kL L b f (w'.1 24 4) (w'.1 26) ∧ (∀ j, j ≠ 4 → w'.1 24 j = w.1 24 j) ∧ sg_fr [24, 25, 26] w w') := by
    refine sx_for 17 (fun u hf hno => ?_) (fun s hs ih u hf hno => ?_)
    · refine ⟨0, 0, u, fun Q z => bMa_findLeast_2 (f1 := 0) (w1 := u) (fun _ => z) (fun c => absurd (by decide) c) (fun c => absurd (by decide) c) (fun c => absurd (by decide) c), rfl, Or.inr ⟨rfl, fun R hR => hno R hR ?_⟩, fun j _ => by rw [(hf 24 (by decide)).1], hf.mono (by decide)⟩
      have : fb_sm R 8 ≤ 8 * 2 := fb_sm_bound hR
      omega
    · have nc : ¬ (16 : Int32) < nI s := nI_nlt (a := 16) (by omega) (by omega)
      obtain ⟨f, fl, w1, hde, hfl, hf1, -, hcase⟩ := spMa_clearFrom (d := d) (L := L) (b := b) (r := r) 8 0 rfl (fun _ => 0) s u (h.fr hf (by decide)) (fun j hj => by omega) (by omega) (fun hk => by omega)
      subst hfl
      have hf2 : sg_fr [25, 26] w w1 := hf.trans hf1
      rcases hcase with ⟨e, R, hR, hcl, hmin, hfin⟩ | ⟨e, hnone⟩
      · subst e
        have hsR : fb_sm R 8 = s := by rw [← sg_ts_sm]; exact hR.2.2
        refine ⟨1, 0, (sx_u w1.1 24 4 (nI s), w1.2), fun Q z => bMa_findLeast_2 (fun c => absurd c nc) (fun _ => hde) (fun _ c => absurd c (by decide)) (fun _ _ => z), rfl, ?_, fun j hj => ?_, (hf2.mono (by decide)).trans (fun a ha => ⟨sx_u_o (fun e => ha (by rw [e]; decide)), rfl⟩)⟩
        · show sg_kL L b 1 (sx_u w1.1 24 4 (nI s) 24 4) (sx_u w1.1 24 4 (nI s) 26)
          rw [sx_u_s, if_pos rfl, sx_u_o (by decide)]
          refine Or.inl ⟨rfl, R, ⟨hR.2.1, hcl, fun T hT hcT => ?_⟩, by rw [hsR], hfin⟩
          rcases Nat.lt_trichotomy (fb_sm T 8) s with c | c | c
          · rw [hno T hT c] at hcT; cases hcT
          · exact Or.inr ⟨by omega, hmin T ⟨fun j hj => by omega, hT, by rw [sg_ts_sm]; exact c⟩ hcT⟩
          · exact Or.inl (by omega)
        · show sx_u w1.1 24 4 (nI s) 24 j = _
          rw [sx_u_s, if_neg hj, (hf2 24 (by decide)).1]
      · subst e
        obtain ⟨g, gl, w', hev, hp⟩ := ih w1 hf2 (fun R hR hl => by
          by_cases e : fb_sm R 8 = s
          · exact hnone R ⟨fun j hj => by omega, hR, by rw [sg_ts_sm]; exact e⟩
          · exact hno R hR (by omega))
        refine ⟨g, gl, w', fun Q z => bMa_findLeast_2 (fun c => absurd c nc) (fun _ => hde) (fun _ _ => ?_) (fun _ c => absurd rfl c), hp⟩
        rw [nI_1]; exact hev Q z
  obtain ⟨g, gl, w', hev, hp⟩ := loop 0 (by omega) w sg_fr.rfl' (fun R hR hl => by omega)
  exact ⟨g, gl, w', fun Q z => sx_met_of rfl rfl rfl rfl (bMa_findLeast_0 (hev Q z)), hp⟩
theorem spMa_knowsLeast (h : sg_Co L b r w) (hk : w.1 24 6 = w.1 1 9 → sg_kL L b (w.1 24 5) (w.1 24 4) (w.1 26)) : sx_x (d + 13) rMa_knowsLeast [.ref 24] w (fun f fl w' => fl = 0 ∧ sg_kL L b f (w'.1 24 4) (w'.1 26) ∧ w'.1 24 5 = f ∧ w'.1 24 6 = w.1 1 9 ∧ sg_fr [24, 25, 26] w w') := by
  have h7 := h.1.1.1
  by_cases hc : w.1 24 6 = w.1 1 9
  · exact ⟨w.1 24 5, 0, w, fun Q z => sx_met_of rfl rfl rfl rfl (bMa_knowsLeast_0 (f1 := 0) (f2 := 0) (w2 := w) (fun _ => z) (fun _ => (hk hc).b01) (fun c => absurd hc c) (fun c => absurd hc c) (fun c => absurd hc c) (fun c => absurd hc c) (fun c => absurd hc c) (fun c => absurd hc c) (fun c => absurd hc c) (fun c => absurd hc c)), rfl, hk hc, rfl, hc, sg_fr.rfl'⟩
  · have hall := spSt_allMayBegin (d := d + 12) h.1 h.2.1
    have fin : ∀ (s : Int32) (u : sx_W), sg_kL L b s (u.1 24 4) (u.1 26) → u.1 1 9 = w.1 1 9 → sg_fr [24, 25, 26] w u → (fun (f : Int32) (fl : Int64) (w' : sx_W) => fl = 0 ∧ sg_kL L b f (w'.1 24 4) (w'.1 26) ∧ w'.1 24 5 = f ∧ w'.1 24 6 = w.1 1 9 ∧ sg_fr [24, 25, 26] w w') s 0 (sx_u (sx_u u.1 24 5 s) 24 6 (u.1 1 9), u.2) := by
      intro s u hkl h9 hf
      refine ⟨rfl, ?_, ?_, ?_, hf.trans (fun a ha => ?_)⟩
      · show sg_kL L b s (sx_u (sx_u u.1 24 5 s) 24 6 (u.1 1 9) 24 4) (sx_u (sx_u u.1 24 5 s) 24 6 (u.1 1 9) 26)
        rw [sx_u_s, if_neg (by decide), sx_u_s, if_neg (by decide), sx_u_o (by decide), sx_u_o (by decide)]
        exact hkl
      · show sx_u (sx_u u.1 24 5 s) 24 6 (u.1 1 9) 24 5 = s
        rw [sx_u_s, if_neg (by decide), sx_u_s, if_pos rfl]
      · show sx_u (sx_u u.1 24 5 s) 24 6 (u.1 1 9) 24 6 = w.1 1 9
        rw [sx_u_s, if_pos rfl, h9]
      · have : a ≠ 24 := fun e => ha (by rw [e]; decide)
        exact ⟨by show sx_u (sx_u u.1 24 5 s) 24 6 (u.1 1 9) a = _; rw [sx_u_o this, sx_u_o this], rfl⟩
    cases ham : sz_all (fun l => !(sg_mays L l == 0)) L.1 with
    | false =>
      rw [ham] at hall
      have hkl : sg_kL L b 0 (w.1 24 4) (w.1 26) := by
        refine Or.inr ⟨rfl, fun R hR => ?_⟩
        have : ∃ l, l < L.1 ∧ sg_mays L l = 0 := by
          apply Classical.byContradiction
          intro hn
          have : sz_all (fun l => !(sg_mays L l == 0)) L.1 = true := sz_all_iff.mpr (fun l hl => by
            cases e : (sg_mays L l == 0) with
            | false => rfl
            | true => exact absurd ⟨l, hl, beq_iff_eq.mp e⟩ hn)
          rw [ham] at this; cases this
        obtain ⟨l, hl, hz⟩ := this
        refine sz_all_no hl ?_
        have hC : ∀ q, sg_cst R (L.2.1 l) (L.2.2.1 l) q ≤ 8 := fun q => sg_cst_le hR (h.1.1.2 l hl).2.2.1 q
        rcases sg_bs_ok L l hC 8 (by omega) with hx | hx
        · have : ¬ sg_best L R l < 8 := by unfold sg_best; omega
          simp [sg_bad, this]
        · have := sg_mays_bit L l hx.1
          rw [hz, hx.2.2, Nat.zero_testBit] at this
          cases this
      exact ⟨0, 0, _, fun Q z => sx_met_of rfl rfl rfl rfl (bMa_knowsLeast_0 (f2 := 0) (w2 := w) (fun c => absurd c hc) (fun c => absurd c hc) (fun _ => hall) (fun _ _ => z) (fun _ _ => Or.inl rfl) (fun _ c => absurd rfl c) (fun _ c => absurd rfl c) (fun _ c => absurd rfl c) (fun _ c => absurd rfl c) (fun _ c => absurd rfl c)), fin 0 w hkl rfl sg_fr.rfl'⟩
    | true =>
      rw [ham] at hall
      obtain ⟨f, fl, w2, hde, hfl, hkl, -, hf2⟩ := spMa_findLeast (d := d) h
      subst hfl
      have h9 : w2.1 1 9 = w.1 1 9 := by rw [(hf2 1 (by decide)).1]
      rcases hkl.b01 with e | e
      · subst e
        exact ⟨0, 0, _, fun Q z => sx_met_of rfl rfl rfl rfl (bMa_knowsLeast_0 (fun c => absurd c hc) (fun c => absurd c hc) (fun _ => hall) (fun _ c => absurd c (by decide)) (fun _ c => absurd c (by decide)) (fun _ _ => hde) (fun _ _ _ => z) (fun _ _ _ => Or.inl rfl) (fun _ _ c => absurd rfl c) (fun _ _ c => absurd rfl c)), fin 0 w2 hkl h9 hf2⟩
      · subst e
        exact ⟨1, 0, _, fun Q z => sx_met_of rfl rfl rfl rfl (bMa_knowsLeast_0 (fun c => absurd c hc) (fun c => absurd c hc) (fun _ => hall) (fun _ c => absurd c (by decide)) (fun _ c => absurd c (by decide)) (fun _ _ => hde) (fun _ _ c => absurd c (by decide)) (fun _ _ c => absurd c (by decide)) (fun _ _ _ => z) (fun _ _ _ => Or.inr rfl)), fin 1 w2 hkl h9 hf2⟩
end
