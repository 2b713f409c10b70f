/-! ===== item, drop, sheet ===== -/
theorem sh_rf_0 {s : sh_T} {k : Nat} {y x n : Int32} (h : sh_ok s) (hk : k < 4) (h0 : sh_rf s k y x n = 0) : s.1 k < 3 ∧ nI (s.1 k) = y ∧ ∃ i m, x = nI i ∧ n = nI m ∧ i + m ≤ s.2.1 k := by
  unfold sh_rf at h0
  have hz := (h k hk).2
  by_cases h9 : s.1 k = 9
  · rw [if_pos h9] at h0; exact absurd h0 (by decide)
  · rw [if_neg h9] at h0
    have hl : s.1 k < 3 := by rcases (h k hk).1 with c | c <;> omega
    by_cases hy : nI (s.1 k) = y
    · rw [if_neg (fun c => c hy)] at h0
      cases hr : sh_rch x n (s.2.1 k) with
      | false => rw [hr] at h0; exact absurd h0 (by decide)
      | true =>
        have hr2 : 0 ≤ x.toInt ∧ 0 ≤ n.toInt ∧ x.toInt + n.toInt ≤ (s.2.1 k : Int) := by simpa [sh_rch] using hr
        obtain ⟨i, hi, rfl⟩ := sz_in_of (x := x) (n := 17) (sz_in_iff.mpr ⟨hr2.1, by omega⟩) (by decide)
        obtain ⟨m, hm, rfl⟩ := sz_in_of (x := n) (n := 17) (sz_in_iff.mpr ⟨hr2.2.1, by omega⟩) (by decide)
        rw [nI_toInt (by omega), nI_toInt (by omega)] at hr2
        exact ⟨hl, hy, i, m, rfl, rfl, by omega⟩
    · rw [if_pos hy] at h0; exact absurd h0 (by decide)
theorem sh_rf_neg {s : sh_T} {k : Nat} {y x n : Int32} : (0 ≤ sh_rf s k y x n) ↔ sh_rf s k y x n = 0 := by
  unfold sh_rf
  split
  · decide
  · split
    · decide
    · split
      · decide
      · decide
def sh_item (s : sh_T) (x1 x2 x3 : Int32) (y : Int64) : Int32 × sh_T := if sh_ref s x1 x2 x3 1 = 0 then (1, sh_put s x1.toNatClampNeg x3.toNatClampNeg y) else (sh_ref s x1 x2 x3 1, s)
def sh_drop (s : sh_T) (x1 : Int32) : Int32 × sh_T := if sz_in x1 4 then (if s.1 x1.toNatClampNeg = 9 then (-11, s) else (nI (s.2.1 x1.toNatClampNeg), (sg_up s.1 x1.toNatClampNeg 9, s.2))) else (-1, s)
def sh_new (s : sh_T) (k l n : Nat) : sh_T := (sg_up s.1 k l, sg_up s.2.1 k n, fun k' j => if k' = k then 0 else s.2.2 k' j)
def sh_sheet (s : sh_T) (x1 x2 x3 : Int32) : Int32 × sh_T := if sz_in x1 4 && sz_in x2 3 then (if x3 ≤ 16 then (if 0 ≤ x3 then (x3, sh_new s x1.toNatClampNeg x2.toNatClampNeg x3.toNatClampNeg) else (-14, s)) else (-1, s)) else (-1, s)
section
variable {d : Nat} {w : sx_W} {s : sh_T}
theorem sh_ref_0 {x1 x2 x3 n : Int32} (h0 : sh_ref s x1 x2 x3 n = 0) : ∃ k, k < 4 ∧ x1 = nI k ∧ sh_rf s k x2 x3 n = 0 := by
  unfold sh_ref at h0
  cases h1 : (sz_in x1 4 && sz_in x2 3) with
  | false => rw [h1, if_neg Bool.false_ne_true] at h0; exact absurd h0 (by decide)
  | true =>
    rw [h1, if_pos rfl] at h0
    rw [Bool.and_eq_true] at h1
    obtain ⟨k, hk, rfl⟩ := sz_in_of h1.1 (by decide)
    rw [nI_clamp (by omega)] at h0
    exact ⟨k, hk, rfl, h0⟩
/-- what a change of the sheets leaves, in the class -/
def sh_FC (w w' : sx_W) : Prop := ∀ a, a ∉ [40, 41, 42, 43, 44, 45, 46, 47] → w'.1 a = w.1 a ∧ w'.2 a = w.2 a
theorem spSb_item {x1 x2 x3 : Int32} {y : Int64} (h : sh_C s w) : sx_x (d + 2) rSb_item [.ref 0, .int x1, .int x2, .int x3, .long y] w (fun f fl w' => f = (sh_item s x1 x2 x3 y).1 ∧ fl = 0 ∧ sh_C (sh_item s x1 x2 x3 y).2 w' ∧ sg_fr [40, 41, 42, 43, 44, 45, 46, 47] w w') := by
  have m1 := spSb_refusalOfItems (d := d) (x1 := x1) (x2 := x2) (x3 := x3) (n := 1) h
  unfold sh_item
  by_cases h0 : sh_ref s x1 x2 x3 1 = 0
  · rw [h0] at m1
    rw [if_pos h0]
    obtain ⟨k, hk, rfl, h1⟩ := sh_ref_0 h0
    obtain ⟨hl, -, i, m, rfl, e1, him⟩ := sh_rf_0 h.1 hk h1
    have hz := (h.1 k hk).2
    have hm : m = 1 := by
      have : (nI m).toInt = (m : Int) := by
        rcases wb_of32 (nI m) with ⟨q, _, _⟩
        exact nI_toInt (by omega)
      rw [← e1] at this
      have h2 : (1 : Int32).toInt = 1 := rfl
      omega
    have hck : (nI k).toNatClampNeg = k := nI_clamp (by omega)
    have hci : (nI i).toNatClampNeg = i := nI_clamp (by omega)
    have m2 := spSh_put (d := d + 1) (y := y) h hk hl (show i < 16 by omega)
    refine ⟨1, 0, (w.1, sx_ul w.2 (41 + 2 * k) i (sh_cut (s.1 k) y)), fun Q z => sx_met_of rfl rfl rfl rfl (bSb_item_0 m1 (fun _ => vp_in_nI hk (by decide)) (fun _ => by rw [hck]; exact m2) (fun _ => z) (fun c => absurd rfl c)), rfl, rfl, ?_, fun a ha => ⟨rfl, sx_ul_o (fun e => ha ?_)⟩⟩
    · rw [hck, hci]; exact sh_put_C h hk
    · rw [e]
      rcases (by omega : k = 0 ∨ k = 1 ∨ k = 2 ∨ k = 3) with c | c | c | c <;> rw [c] <;> decide
  · rw [if_neg h0]
    exact ⟨_, 0, w, fun Q z => sx_met_of rfl rfl rfl rfl (bSb_item_0 (w2 := w) m1 (fun c => absurd c h0) (fun c => absurd c h0) (fun c => absurd c h0) (fun _ => z)), rfl, rfl, h, sg_fr.rfl'⟩
theorem spMo_item {x1 x2 x3 : Int32} {y : Int64} (h : sh_M s w) : sx_x (d + 2) rMo_item [.ref 48, .int x1, .int x2, .int x3, .long y] w (fun f fl w' => f = (sh_item s x1 x2 x3 y).1 ∧ fl = 0 ∧ sh_M (sh_item s x1 x2 x3 y).2 w' ∧ sg_fr [61, 62, 63] w w') := by
  have m1 := spMo_isSheet (d := d) (w := w) (x := x1)
  have m2 := spMo_isLane (d := d) (w := w) (x := x2)
  have y1 : ¬ sz_b true = 0 := by decide
  unfold sh_item
  cases h1 : sz_in x1 4 with
  | false =>
    have e : sh_ref s x1 x2 x3 1 = -1 := by unfold sh_ref; rw [h1]; rfl
    rw [e, if_neg (by decide)]
    rw [h1] at m1
    exact ⟨-1, 0, w, fun Q z => sx_met_of rfl rfl rfl rfl (bMo_item_0 (f2 := 0) (f3 := 0) (w4 := w) m1 (fun _ => z) (fun c => absurd rfl c) (fun c => absurd rfl c) (fun c => absurd rfl c) (fun c => absurd rfl c) (fun c => absurd rfl c) (fun c => absurd rfl c)), rfl, rfl, h, sg_fr.rfl'⟩
  | true =>
    rw [h1] at m1
    cases h2 : sz_in x2 3 with
    | false =>
      have e : sh_ref s x1 x2 x3 1 = -1 := by unfold sh_ref; rw [h1, h2]; rfl
      rw [e, if_neg (by decide)]
      rw [h2] at m2
      exact ⟨-1, 0, w, fun Q z => sx_met_of rfl rfl rfl rfl (bMo_item_0 (f3 := 0) (w4 := w) m1 (fun c => absurd c y1) (fun _ => m2) (fun _ c => absurd rfl c) (fun _ c => absurd rfl c) (fun _ c => absurd rfl c) (fun _ c => absurd rfl c) (fun _ _ => z)), rfl, rfl, h, sg_fr.rfl'⟩
    | true =>
      rw [h2] at m2
      obtain ⟨k, hk, rfl⟩ := sz_in_of h1 (by decide)
      have hck : (nI k).toNatClampNeg = k := nI_clamp (by omega)
      have e : sh_ref s (nI k) x2 x3 1 = sh_rf s k x2 x3 1 := by unfold sh_ref; rw [h1, h2, hck]; rfl
      have m3 := spMo_why (d := d + 1) (x2 := x2) (x3 := x3) (n := 1) h hk (by decide)
      rw [e]
      by_cases h0 : sh_rf s k x2 x3 1 = 0
      · rw [if_pos h0]
        obtain ⟨hl, -, i, m, rfl, e1, him⟩ := sh_rf_0 h.1 hk h0
        have hz := (h.1 k hk).2
        have hm : m = 1 := by
          have : (nI m).toInt = (m : Int) := nI_toInt (by omega)
          rw [← e1] at this
          have h2 : (1 : Int32).toInt = 1 := rfl
          omega
        have hci : (nI i).toNatClampNeg = i := nI_clamp (by omega)
        have m4 := spMo_puts (d := d + 1) (y := y) h hk hl (show i < 16 by omega)
        have y0 : 0 ≤ sh_rf s k x2 (nI i) 1 := sh_rf_neg.mpr h0
        refine ⟨1, 0, (w.1, sx_ul w.2 63 (16 * k + i) (sh_cut (s.1 k) y)), fun Q z => sx_met_of rfl rfl rfl rfl (bMo_item_0 m1 (fun c => absurd c y1) (fun _ => m2) (fun _ _ => m3) (fun _ _ _ => m4) (fun _ _ _ => z) (fun _ _ c => absurd y0 c) (fun _ c => absurd c y1)), rfl, rfl, ?_, fun a ha => ⟨rfl, sx_ul_o (fun e => ha (by rw [e]; decide))⟩⟩
        rw [hck, hci]; exact sh_put_M h hk (by omega)
      · rw [if_neg h0]
        have n0 : ¬ 0 ≤ sh_rf s k x2 x3 1 := fun c => h0 (sh_rf_neg.mp c)
        exact ⟨_, 0, w, fun Q z => sx_met_of rfl rfl rfl rfl (bMo_item_0 (w4 := w) m1 (fun c => absurd c y1) (fun _ => m2) (fun _ _ => m3) (fun _ _ c => absurd c n0) (fun _ _ c => absurd c n0) (fun _ _ _ => z) (fun _ c => absurd c y1)), rfl, rfl, h, sg_fr.rfl'⟩
theorem spSb_drop {x : Int32} (h : sh_C s w) : sx_x (d + 1) rSb_drop [.ref 0, .int x] w (fun f fl w' => f = (sh_drop s x).1 ∧ fl = 0 ∧ sh_C (sh_drop s x).2 w' ∧ sg_fr [40, 41, 42, 43, 44, 45, 46, 47] w w') := by
  have m1 := spSb_isBadSheet (d := d) (w := w) (x := x)
  have y1 : ¬ sz_b true = 0 := by decide
  unfold sh_drop
  cases h1 : sz_in x 4 with
  | false =>
    rw [h1] at m1
    exact ⟨-1, 0, w, fun Q z => sx_met_of rfl rfl rfl rfl (bSb_drop_0 m1 (fun c => absurd c y1) (fun c => absurd c y1) (fun c => absurd c y1) (fun _ => z)), rfl, rfl, h, sg_fr.rfl'⟩
  | true =>
    rw [h1] at m1
    obtain ⟨k, hk, rfl⟩ := sz_in_of h1 (by decide)
    have hck : (nI k).toNatClampNeg = k := nI_clamp (by omega)
    obtain ⟨g1, g2, g3, g4⟩ := h.2 k hk
    rw [if_pos rfl, hck]
    by_cases h9 : s.1 k = 9
    · rw [if_pos h9]
      have n0 : ¬ w.1 (40 + 2 * (nI k).toNatClampNeg) 1 = 0 := by rw [hck, g1, h9]; decide
      exact ⟨-11, 0, w, fun Q z => sx_met_of rfl rfl rfl rfl (bSb_drop_0 m1 (fun _ => vp_in_nI hk (by decide)) (fun _ c => absurd c n0) (fun _ _ => z) (fun c => absurd rfl c)), rfl, rfl, h, sg_fr.rfl'⟩
    · rw [if_neg h9]
      have y0 : w.1 (40 + 2 * (nI k).toNatClampNeg) 1 = 0 := by rw [hck, g1, beq_eq_false_iff_ne.mpr h9]; rfl
      refine ⟨nI (s.2.1 k), 0, (sx_u w.1 (40 + 2 * k) 1 1, w.2), fun Q z => sx_met_of rfl rfl rfl rfl (bSb_drop_0 m1 (fun _ => vp_in_nI hk (by decide)) (fun _ _ => ?_) (fun _ c => absurd y0 c) (fun c => absurd rfl c)), rfl, rfl, ⟨fun k' hk' => ?_, fun k' hk' => ?_⟩, fun a ha => ⟨sx_u_o (fun e => ha ?_), rfl⟩⟩
      · rw [hck, sx_u_s, if_neg (by decide), g3]; exact z
      · show (sg_up s.1 k 9 k' < 3 ∨ sg_up s.1 k 9 k' = 9) ∧ _
        by_cases e : k' = k
        · rw [e, sg_up_s]; exact ⟨Or.inr rfl, (h.1 k hk).2⟩
        · rw [sg_up_o e]; exact h.1 k' hk'
      · obtain ⟨q1, q2, q3, q4⟩ := h.2 k' hk'
        show sx_u w.1 (40 + 2 * k) 1 1 (40 + 2 * k') 1 = sz_b (sg_up s.1 k 9 k' == 9) ∧ (sg_up s.1 k 9 k' < 3 → sx_u w.1 (40 + 2 * k) 1 1 (40 + 2 * k') 2 = nI (sg_up s.1 k 9 k')) ∧ sx_u w.1 (40 + 2 * k) 1 1 (40 + 2 * k') 3 = _ ∧ _
        by_cases e : k' = k
        · subst e
          rw [sg_up_s, sx_u_s, sx_u_s, sx_u_s, if_pos rfl, if_neg (by decide), if_neg (by decide)]
          exact ⟨rfl, fun c => by omega, q3, q4⟩
        · rw [sg_up_o e, sx_u_o (by omega)]; exact ⟨q1, q2, q3, q4⟩
      · rw [e]
        rcases (by omega : k = 0 ∨ k = 1 ∨ k = 2 ∨ k = 3) with c | c | c | c <;> rw [c] <;> decide
theorem spMo_drop {x : Int32} (h : sh_M s w) : sx_x (d + 2) rMo_drop [.ref 48, .int x] w (fun f fl w' => f = (sh_drop s x).1 ∧ fl = 0 ∧ sh_M (sh_drop s x).2 w' ∧ sg_fr [61, 62, 63] w w') := by
  have m1 := spMo_isSheet (d := d) (w := w) (x := x)
  have y1 : ¬ sz_b true = 0 := by decide
  unfold sh_drop
  cases h1 : sz_in x 4 with
  | false =>
    rw [h1] at m1
    exact ⟨-1, 0, w, fun Q z => sx_met_of rfl rfl rfl rfl (bMo_drop_0 m1 (fun c => absurd rfl c) (fun c => absurd rfl c) (fun c => absurd rfl c) (fun _ => z)), rfl, rfl, h, sg_fr.rfl'⟩
  | true =>
    rw [h1] at m1
    obtain ⟨k, hk, rfl⟩ := sz_in_of h1 (by decide)
    have hck : (nI k).toNatClampNeg = k := nI_clamp (by omega)
    obtain ⟨g1, g2, g3⟩ := h.2 k hk
    rw [if_pos rfl, hck]
    by_cases h9 : s.1 k = 9
    · rw [if_pos h9]
      have n0 : ¬ 0 ≤ w.1 61 (nI k).toNatClampNeg := by rw [hck, g1, h9]; decide
      exact ⟨-11, 0, w, fun Q z => sx_met_of rfl rfl rfl rfl (bMo_drop_0 m1 (fun _ => vp_in_nI hk (by decide)) (fun _ c => absurd c n0) (fun _ _ => z) (fun c => absurd c y1)), rfl, rfl, h, sg_fr.rfl'⟩
    · rw [if_neg h9]
      have hl : s.1 k < 3 := by rcases (h.1 k hk).1 with c | c <;> omega
      have y0 : 0 ≤ w.1 61 (nI k).toNatClampNeg := by rw [hck, g1, sh_lI, if_pos hl]; exact nI_pos' (by omega)
      refine ⟨nI (s.2.1 k), 0, (sx_u w.1 61 k (-1), w.2), fun Q z => sx_met_of rfl rfl rfl rfl (bMo_drop_0 m1 (fun _ => vp_in_nI hk (by decide)) (fun _ _ => ?_) (fun _ c => absurd y0 c) (fun c => absurd c y1)), rfl, rfl, ⟨fun k' hk' => ?_, fun k' hk' => ?_⟩, fun a ha => ⟨sx_u_o (fun e => ha (by rw [e]; decide)), rfl⟩⟩
      · rw [hck, g2]; exact z
      · show (sg_up s.1 k 9 k' < 3 ∨ sg_up s.1 k 9 k' = 9) ∧ _
        by_cases e : k' = k
        · rw [e, sg_up_s]; exact ⟨Or.inr rfl, (h.1 k hk).2⟩
        · rw [sg_up_o e]; exact h.1 k' hk'
      · obtain ⟨q1, q2, q3⟩ := h.2 k' hk'
        show sx_u w.1 61 k (-1) 61 k' = sh_lI (sg_up s.1 k 9 k') ∧ sx_u w.1 61 k (-1) 62 k' = _ ∧ _
        rw [sx_u_s, sx_u_o (by decide)]
        by_cases e : k' = k
        · rw [if_pos e, e, sg_up_s]; rw [e] at q2 q3; exact ⟨rfl, q2, q3⟩
        · rw [if_neg e, sg_up_o e]; exact ⟨q1, q2, q3⟩
end
