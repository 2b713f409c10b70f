/-! ===== a row is told; lay ===== -/
section
variable {d : Nat} {w : sx_W} {s : sh_T} {L : sg_L} {b : Nat} {r : Nat → Nat}
theorem sg_bad_good (hr : ∀ l, l < L.1 → r l < 8) : (fa_first (sg_bad L b r) L.1 < L.1) ↔ sg_good L b r = false := by
  constructor
  · intro c
    have hb := fa_first_yes (sg_bad L b r) L.1 c
    generalize fa_first (sg_bad L b r) L.1 = j at *
    unfold sg_bad at hb
    rw [decide_eq_true (hr _ c), Bool.true_and] at hb
    have hf : sg_fit L b r j = false := by simpa using hb
    exact sz_all_no c hf
  · intro c
    rcases Nat.lt_or_ge (fa_first (sg_bad L b r) L.1) L.1 with h | h
    · exact h
    · exfalso
      have : sg_good L b r = true := sz_all_iff.mpr (fun j hj => (sg_bad_no (fa_first_no (sg_bad L b r) L.1 j (by omega))).2)
      rw [c] at this; cases this
theorem spSb_rowIsGood {t : Bool} (h : sg_Co L b r w) (ht : w.1 1 7 = sz_b t) : sx_de (d + 2) rSb_rowIsGood [.ref 0] w (sz_b (t && sg_good L b r)) 0 w := by
  intro Q z
  have h7 := h.1.1.1
  cases t with
  | false =>
    have y0 : w.1 1 7 = 0 := ht
    exact sx_met_of rfl rfl rfl rfl (bSb_rowIsGood_0 (f1 := 0) (fun _ => z) (fun c => absurd y0 c) (fun c => absurd y0 c) (fun c => absurd y0 c))
  | true =>
    have n0 : ¬ w.1 1 7 = 0 := by rw [ht]; decide
    have m1 := spSt_firstSpoiler_5 (d := d) (ρ := r) h.1 h.2.1 h.2.2.1 h.2.2.2.1 (fun l hl => by
      obtain ⟨e, e8⟩ := h.2.2.2.2 l (by omega)
      rw [e, if_pos e8])
    have hiff := sg_bad_good (L := L) (b := b) (r := r) (fun l hl => (h.2.2.2.2 l (by omega)).2)
    cases hg : sg_good L b r with
    | false =>
      rw [hg] at z
      have hlt := hiff.mpr hg
      rw [if_pos hlt] at m1
      have nm : ¬ nI (fa_first (sg_bad L b r) L.1) = (-1 : Int32) := by
        have h3 : ∀ k, k < 7 → ¬ nI k = (-1 : Int32) := by decide +kernel
        exact h3 _ (by omega)
      exact sx_met_of rfl rfl rfl rfl (bSb_rowIsGood_0 (fun c => absurd c n0) (fun _ => m1) (fun _ _ => z) (fun _ c => absurd c nm))
    | true =>
      rw [hg] at z
      have hlt : ¬ fa_first (sg_bad L b r) L.1 < L.1 := fun c => by rw [hiff.mp c] at hg; cases hg
      rw [if_neg hlt] at m1
      exact sx_met_of rfl rfl rfl rfl (bSb_rowIsGood_0 (fun c => absurd c n0) (fun _ => m1) (fun _ c => absurd rfl c) (fun _ _ => z))
/-- a row over another -/
def sg_over (n : Nat) (q r : Nat → Nat) : Nat → Nat := fun l => if l < n then q l else r l
/-- what telling a row leaves -/
def sg_tell (L : sg_L) (b : Nat) (q r : Nat → Nat) (w w' : sx_W) : Prop := sg_Co L b (sg_over L.1 q r) w' ∧ w'.1 1 7 = 1 ∧ w'.1 1 8 = w.1 1 8 + 1 ∧ (∀ j, j ≠ 7 → j ≠ 8 → w'.1 1 j = w.1 1 j) ∧ sg_fr [1, 5] w w'
theorem sg_tell_of {q : Nat → Nat} {c : Nat} (h : sg_Co L b r w) (hq : ∀ l, l < L.1 → w.1 c l = nI (q l) ∧ q l < 8) : sg_tell L b q r w (sx_u (sx_u (sx_cp w.1 c 5 0 0 L.1) 1 7 (1 : Int32)) 1 8 (w.1 1 8 + (1 : Int32)), w.2) := by
  have h7 := h.1.1.1
  have fr : sg_fr [1, 5] w (sx_u (sx_u (sx_cp w.1 c 5 0 0 L.1) 1 7 (1 : Int32)) 1 8 (w.1 1 8 + (1 : Int32)), w.2) := fun a ha => ⟨by
    simp only [List.mem_cons, List.not_mem_nil, or_false, not_or] at ha
    show sx_u (sx_u (sx_cp w.1 c 5 0 0 L.1) 1 7 (1 : Int32)) 1 8 (w.1 1 8 + (1 : Int32)) a = w.1 a
    rw [sx_u_o ha.1, sx_u_o ha.1]
    unfold sx_cp
    rw [if_neg ha.2], rfl⟩
  have e1 : ∀ j, j ≠ 7 → j ≠ 8 → sx_u (sx_u (sx_cp w.1 c 5 0 0 L.1) 1 7 (1 : Int32)) 1 8 (w.1 1 8 + (1 : Int32)) 1 j = w.1 1 j := fun j c1 c2 => by
    rw [sx_u_s, if_neg c2, sx_u_s, if_neg c1]
    unfold sx_cp
    rw [if_neg (by decide)]
  refine ⟨⟨⟨h.1.1, ?_, fun i hi => ?_⟩, ?_, ?_, h.2.2.2.1, fun i hi => ?_⟩, ?_, ?_, e1, fr⟩
  · show sx_u (sx_u (sx_cp w.1 c 5 0 0 L.1) 1 7 (1 : Int32)) 1 8 (w.1 1 8 + (1 : Int32)) 1 4 = _
    rw [e1 4 (by decide) (by decide)]; exact h.1.2.1
  · rw [(fr 2 (by decide)).1, (fr 3 (by decide)).1, (fr 4 (by decide)).1]; exact h.1.2.2 i hi
  · exact h.2.1.fr fr (by decide) (by decide) (by decide) (by decide)
  · show sx_u (sx_u (sx_cp w.1 c 5 0 0 L.1) 1 7 (1 : Int32)) 1 8 (w.1 1 8 + (1 : Int32)) 1 5 = _
    rw [e1 5 (by decide) (by decide)]; exact h.2.2.1
  · show sx_u (sx_u (sx_cp w.1 c 5 0 0 L.1) 1 7 (1 : Int32)) 1 8 (w.1 1 8 + (1 : Int32)) 5 i = nI (sg_over L.1 q r i) ∧ sg_over L.1 q r i < 8
    rw [sx_u_o (by decide), sx_u_o (by decide)]
    unfold sx_cp sg_over
    rw [if_pos rfl]
    by_cases ci : i < L.1
    · rw [pk_cpy_in (Nat.zero_le _) (by omega), if_pos ci, show 0 + (i - 0) = i by omega]; exact hq i ci
    · rw [pk_cpy_out (by omega), if_neg ci]; exact h.2.2.2.2 i hi
  · show sx_u (sx_u (sx_cp w.1 c 5 0 0 L.1) 1 7 (1 : Int32)) 1 8 (w.1 1 8 + (1 : Int32)) 1 7 = 1
    rw [sx_u_s, if_neg (by decide), sx_u_s, if_pos rfl]
  · show sx_u (sx_u (sx_cp w.1 c 5 0 0 L.1) 1 7 (1 : Int32)) 1 8 (w.1 1 8 + (1 : Int32)) 1 8 = _
    rw [sx_u_s, if_pos rfl]
theorem spHo_tellRow_39 {q : Nat → Nat} (h : sg_Co L b r w) (hq : ∀ l, l < L.1 → w.1 39 l = nI (q l) ∧ q l < 8) : sx_x (d + 1) rHo_tellRow [.ref 1, .ref 39] w (fun f fl w' => f = 0 ∧ fl = 0 ∧ sg_tell L b q r w w') := by
  have h7 := h.1.1.1
  have hc : (w.1 1 4).toNatClampNeg = L.1 := by rw [h.1.2.1]; exact nI_clamp (by omega)
  refine ⟨0, 0, _, fun Q z => sx_met_of rfl rfl rfl rfl (bHo_tellRow_39_0 (by rw [h.1.2.1]; exact nI_pos (by omega)) (by rw [hc]; omega) (by rw [hc]; omega) ?_), rfl, rfl, sg_tell_of h hq⟩
  rw [hc]; exact z
theorem spHo_tellRow_22 {q : Nat → Nat} (h : sg_Co L b r w) (hq : ∀ l, l < L.1 → w.1 22 l = nI (q l) ∧ q l < 8) : sx_x (d + 1) rHo_tellRow [.ref 1, .ref 22] w (fun f fl w' => f = 0 ∧ fl = 0 ∧ sg_tell L b q r w w') := by
  have h7 := h.1.1.1
  have hc : (w.1 1 4).toNatClampNeg = L.1 := by rw [h.1.2.1]; exact nI_clamp (by omega)
  refine ⟨0, 0, _, fun Q z => sx_met_of rfl rfl rfl rfl (bHo_tellRow_22_0 (by rw [h.1.2.1]; exact nI_pos (by omega)) (by rw [hc]; omega) ?_), rfl, rfl, sg_tell_of h hq⟩
  rw [hc]; exact z
def sh_laid (s : sh_T) (L : sg_L) (x1 x2 x3 : Int32) : Bool := (sz_in x1 4 && sz_in x2 3) && (decide (sh_rf s x1.toNatClampNeg x2 x3 (nI L.1) = 0) && (!(L.1 == 0) && sz_all (fun l => decide (sh_v 7 (s.2.2 x1.toNatClampNeg (x3.toNatClampNeg + l)) ≤ 7)) L.1))
def sh_lay (s : sh_T) (L : sg_L) (b : Nat) (x1 x2 x3 : Int32) : Int32 := if sz_in x1 4 && sz_in x2 3 then (if sh_rf s x1.toNatClampNeg x2 x3 (nI L.1) = 0 then (if !(L.1 == 0) && sz_all (fun l => decide (sh_v 7 (s.2.2 x1.toNatClampNeg (x3.toNatClampNeg + l)) ≤ 7)) L.1 then sz_b (sg_good L b (sh_row s x1.toNatClampNeg x3.toNatClampNeg)) else -2) else sh_rf s x1.toNatClampNeg x2 x3 (nI L.1)) else -1
theorem sg_ct_cong {ρ σ : Nat → Nat} {m p : Nat} (h : ∀ j, j < m → ρ j = σ j) : sg_ct L ρ m p = sg_ct L σ m p := by
  unfold sg_ct
  exact fb_ct_cong (fun k hk => by rw [h k hk])
theorem sg_good_cong {ρ σ : Nat → Nat} (h : ∀ j, j < L.1 → ρ j = σ j) : sg_good L b ρ = sg_good L b σ := sz_all_cong (fun i hi => sg_fit_cong (fun j hj => h j (by omega)))
theorem sg_over_good {q : Nat → Nat} : sg_good L b (sg_over L.1 q r) = sg_good L b q := sg_good_cong (fun j hj => if_pos hj)
theorem spSb_lay {x1 x2 x3 : Int32} (hs : sh_C s w) (h : sg_Co L b r w) : sx_x (d + 3) rSb_lay [.ref 0, .int x1, .int x2, .int x3] w (fun f fl w' => f = sh_lay s L b x1 x2 x3 ∧ fl = 0 ∧ (sh_laid s L x1 x2 x3 = false → sg_fr [39] w w') ∧ (sh_laid s L x1 x2 x3 = true → ∃ w2, sg_fr [39] w w2 ∧ sg_tell L b (sh_row s x1.toNatClampNeg x3.toNatClampNeg) r w2 w')) := by
  have h7 := h.1.1.1
  have y1 : ¬ sz_b true = 0 := by decide
  have m1 := spSb_refusalOfItems (d := d + 1) (x1 := x1) (x2 := x2) (x3 := x3) (n := nI L.1) hs
  by_cases h0 : sh_ref s x1 x2 x3 (nI L.1) = 0
  · rw [h0] at m1
    rw [← h.1.2.1] at m1
    obtain ⟨k, hk, rfl, h1⟩ := sh_ref_0 h0
    obtain ⟨hl, -, i, m, rfl, e1, him⟩ := sh_rf_0 hs.1 hk h1
    have hz := (hs.1 k hk).2
    have hm : L.1 = m := (nI_eq (by omega) (by omega)).mp e1
    have hck : (nI k).toNatClampNeg = k := nI_clamp (by omega)
    have hci : (nI i).toNatClampNeg = i := nI_clamp (by omega)
    have hin : (sz_in (nI k) 4 && sz_in x2 3) = true := by
      cases e : (sz_in (nI k) 4 && sz_in x2 3) with
      | true => rfl
      | false => unfold sh_ref at h0; rw [e, if_neg Bool.false_ne_true] at h0; exact absurd h0 (by decide)
    unfold sh_lay sh_laid
    rw [hin, if_pos rfl, hck, hci, if_pos h1, decide_eq_true h1, Bool.true_and, Bool.true_and]
    by_cases hL0 : L.1 = 0
    · have y0 : w.1 1 4 = 0 := by rw [h.1.2.1, hL0]; rfl
      rw [hL0]
      exact ⟨-2, 0, w, fun Q z => sx_met_of rfl rfl rfl rfl (bSb_lay_0 (f2 := 0) (w2 := w) (w3 := w) (f4 := 0) m1 (fun _ _ => z) (fun _ c => absurd y0 c) (fun _ c => absurd y0 c) (fun _ c => absurd y0 c) (fun _ c => absurd y0 c) (fun _ c => absurd y0 c) (fun _ c => absurd y0 c) (fun c => absurd rfl c)), rfl, rfl, fun _ => sg_fr.rfl', fun c => absurd c Bool.false_ne_true⟩
    · have n0 : ¬ w.1 1 4 = 0 := by rw [h.1.2.1]; exact nI_ne0 (by omega) (by omega)
      rw [beq_eq_false_iff_ne.mpr hL0, Bool.not_false, Bool.true_and]
      obtain ⟨f2, fl, w2, m2, e2, rfl, p1, p2⟩ := spSb_takeItems (d := d + 2) (k := k) (i := i) (n := L.1) (m := 7) hs hk (by omega) (by omega) (by decide)
      subst e2
      rw [← h.1.2.1] at m2
      cases ha : sz_all (fun l => decide (sh_v 7 (s.2.2 k (i + l)) ≤ 7)) L.1 with
      | false =>
        rw [h.1.2.1] at m2
        rw [ha] at m2
        exact ⟨-2, 0, w2, fun Q z => sx_met_of rfl rfl rfl rfl (bSb_lay_0 (f2 := sz_b false) (w3 := w) (f4 := 0) m1 (fun _ c => absurd c n0) (fun _ _ => by rw [h.1.2.1]; exact m2) (fun _ _ c => absurd rfl c) (fun _ _ c => absurd rfl c) (fun _ _ c => absurd rfl c) (fun _ _ c => absurd rfl c) (fun _ _ _ => z) (fun c => absurd rfl c)), rfl, rfl, fun _ => p2, fun c => absurd c Bool.false_ne_true⟩
      | true =>
        rw [h.1.2.1] at m2
        rw [ha] at m2
        have hC2 := h.fr p2 (by decide)
        obtain ⟨f3, fl, w3, m3, rfl, rfl, ht⟩ := spHo_tellRow_39 (d := d + 1) (q := sh_row s k i) hC2 (fun l hl2 => by
          have hv : sh_row s k i l ≤ 7 := of_decide_eq_true (sz_all_iff.mp ha l hl2)
          refine ⟨?_, by omega⟩
          rw [p1 l hl2]
          show sh_tI (sh_row s k i l) = _
          rw [sh_tI, if_pos (by omega)])
        have m4 := spSb_rowIsGood (d := d) (t := true) ht.1 ht.2.1
        rw [Bool.true_and, sg_over_good] at m4
        cases hg : sg_good L b (sh_row s k i) with
        | false =>
          rw [hg] at m4
          exact ⟨0, 0, w3, fun Q z => sx_met_of rfl rfl rfl rfl (bSb_lay_0 (f2 := sz_b true) (f4 := sz_b false) m1 (fun _ c => absurd c n0) (fun _ _ => by rw [h.1.2.1]; exact m2) (fun _ _ _ => m3) (fun _ _ _ => m4) (fun _ _ _ _ => z) (fun _ _ _ c => absurd rfl c) (fun _ _ c => absurd c y1) (fun c => absurd rfl c)), rfl, rfl, fun c => absurd c.symm Bool.false_ne_true, fun _ => ⟨w2, p2, ht⟩⟩
        | true =>
          rw [hg] at m4
          exact ⟨1, 0, w3, fun Q z => sx_met_of rfl rfl rfl rfl (bSb_lay_0 (f2 := sz_b true) (f4 := sz_b true) m1 (fun _ c => absurd c n0) (fun _ _ => by rw [h.1.2.1]; exact m2) (fun _ _ _ => m3) (fun _ _ _ => m4) (fun _ _ _ c => absurd c y1) (fun _ _ _ _ => z) (fun _ _ c => absurd c y1) (fun c => absurd rfl c)), rfl, rfl, fun c => absurd c.symm Bool.false_ne_true, fun _ => ⟨w2, p2, ht⟩⟩
  · have e : sh_lay s L b x1 x2 x3 = sh_ref s x1 x2 x3 (nI L.1) := by
      unfold sh_lay sh_ref at *
      split
      · rename_i c
        rw [if_pos c] at h0
        rw [if_neg h0]
      · rfl
    have e2 : sh_laid s L x1 x2 x3 = false := by
      unfold sh_laid sh_ref at *
      cases c : (sz_in x1 4 && sz_in x2 3) with
      | false => rfl
      | true =>
        rw [if_pos c] at h0
        rw [decide_eq_false h0]; rfl
    rw [e, e2]
    exact ⟨_, 0, w, fun Q z => sx_met_of rfl rfl rfl rfl (bSb_lay_0 (f2 := 0) (w2 := w) (w3 := w) (f4 := 0) (by rw [h.1.2.1]; exact m1) (fun c => absurd c h0) (fun c => absurd c h0) (fun c => absurd c h0) (fun c => absurd c h0) (fun c => absurd c h0) (fun c => absurd c h0) (fun c => absurd c h0) (fun _ => z)), rfl, rfl, fun _ => sg_fr.rfl', fun c => absurd c Bool.false_ne_true⟩
end
