/-! ===== the sheets ===== -/
/-- lanes (9: missing), sizes, items -/
abbrev sh_T : Type := (Nat → Nat) × (Nat → Nat) × (Nat → Nat → Int64)
def sh_ok (s : sh_T) : Prop := ∀ k, k < 4 → (s.1 k < 3 ∨ s.1 k = 9) ∧ s.2.1 k ≤ 16
def sh_C (s : sh_T) (w : sx_W) : Prop := sh_ok s ∧ ∀ k, k < 4 → w.1 (40 + 2 * k) 1 = sz_b (s.1 k == 9) ∧ (s.1 k < 3 → w.1 (40 + 2 * k) 2 = nI (s.1 k)) ∧ w.1 (40 + 2 * k) 3 = nI (s.2.1 k) ∧ ∀ i, i < 16 → w.2 (41 + 2 * k) i = s.2.2 k i
def sh_lI (l : Nat) : Int32 := if l < 3 then nI l else (-1 : Int32)
def sh_M (s : sh_T) (w : sx_W) : Prop := sh_ok s ∧ ∀ k, k < 4 → w.1 61 k = sh_lI (s.1 k) ∧ w.1 62 k = nI (s.2.1 k) ∧ ∀ i, i < 16 → w.2 63 (16 * k + i) = s.2.2 k i
def sh_cut (l : Nat) (y : Int64) : Int64 := if l = 0 then y.toInt32.toInt8.toInt32.toInt64 else if l = 1 then y.toInt32.toInt64 else y
def sh_rch (x n : Int32) (z : Nat) : Bool := decide (0 ≤ x.toInt ∧ 0 ≤ n.toInt ∧ x.toInt + n.toInt ≤ (z : Int))
/-- what refuses items of a lane -/
def sh_rf (s : sh_T) (k : Nat) (y x n : Int32) : Int32 := if s.1 k = 9 then -11 else if ¬ nI (s.1 k) = y then -12 else if sh_rch x n (s.2.1 k) then 0 else -13
def sh_ref (s : sh_T) (x1 x2 x3 n : Int32) : Int32 := if sz_in x1 4 && sz_in x2 3 then sh_rf s x1.toNatClampNeg x2 x3 n else -1
def sh_put (s : sh_T) (k i : Nat) (y : Int64) : sh_T := (s.1, s.2.1, fun k' j => if k' = k ∧ j = i then sh_cut (s.1 k) y else s.2.2 k' j)
section
variable {d : Nat} {w : sx_W} {s : sh_T}
theorem sh_put_ok {k i : Nat} {y : Int64} (h : sh_ok s) : sh_ok (sh_put s k i y) := h
theorem spSh_reaches {k : Nat} {x n : Int32} (h : sh_C s w) (hk : k < 4) : sx_de d rSh_reaches [.ref (40 + 2 * k), .int x, .int n] w (sz_b (sh_rch x n (s.2.1 k))) 0 w := by
  intro Q z
  have h3 := (h.2 k hk).2.2.1
  have hz := (h.1 k hk).2
  have e3 : (w.1 (40 + 2 * k) 3).toInt = (s.2.1 k : Int) := by rw [h3]; exact nI_toInt (by omega)
  have h0 : (0 : Int32).toInt = 0 := rfl
  have no : ¬ (0 ≤ x.toInt ∧ 0 ≤ n.toInt ∧ x.toInt + n.toInt ≤ (s.2.1 k : Int)) → Q 0 0 w := fun c => by
    unfold sh_rch at z
    rw [decide_eq_false c] at z; exact z
  refine sx_met_of rfl rfl rfl rfl (bSh_reaches_0 hk (fun c => ?_) (fun c1 c2 => ?_) (fun c1 c2 c3 => ?_) (fun c1 c2 c3 c4 => ?_) (fun c1 c2 c3 c4 => ?_))
  · rw [fa_lt] at c; exact no (by omega)
  · rw [fa_lt] at c2; exact no (by omega)
  · rw [fa_lt, e3] at c3; exact no (by omega)
  · rw [fa_lt] at c1 c2; rw [fa_lt, e3] at c3
    have es : (w.1 (40 + 2 * k) 3 - n).toInt = (s.2.1 k : Int) - n.toInt := by
      rw [Int32.toInt_sub, e3]
      exact Int.bmod_eq_of_le (by omega) (by omega)
    rw [fa_lt, es] at c4
    exact no (by omega)
  · rw [fa_lt] at c1 c2; rw [fa_lt, e3] at c3
    have es : (w.1 (40 + 2 * k) 3 - n).toInt = (s.2.1 k : Int) - n.toInt := by
      rw [Int32.toInt_sub, e3]
      exact Int.bmod_eq_of_le (by omega) (by omega)
    rw [fa_lt, es] at c4
    unfold sh_rch at z
    rw [decide_eq_true (by omega)] at z; exact z
theorem sh_beq (h : sh_ok s) {k : Nat} (hk : k < 4) : (s.1 k == 9) = decide (¬ s.1 k < 3) := by
  rcases (h k hk).1 with c | c
  · rw [decide_eq_false (by omega), beq_eq_false_iff_ne]; omega
  · rw [c]; rfl
theorem spSb_refusalOfItems {x1 x2 x3 n : Int32} (h : sh_C s w) : sx_de (d + 1) rSb_refusalOfItems [.ref 0, .int x1, .int x2, .int x3, .int n] w (sh_ref s x1 x2 x3 n) 0 w := by
  intro Q z
  have m1 := spSb_isBadSheet (d := d) (w := w) (x := x1)
  have m2 := spSb_isBadLane (d := d) (w := w) (x := x2)
  have y1 : ¬ sz_b true = 0 := by decide
  unfold sh_ref at z
  cases h1 : sz_in x1 4 with
  | false =>
    rw [h1] at m1 z
    exact sx_met_of rfl rfl rfl rfl (bSb_refusalOfItems_0 (f2 := 0) (f3 := 0) m1 (fun _ => z) (fun c => absurd c y1) (fun c => absurd c y1) (fun c => absurd c y1) (fun c => absurd c y1) (fun c => absurd c y1) (fun c => absurd c y1) (fun c => absurd c y1) (fun c => absurd c y1))
  | true =>
    rw [h1] at m1 z
    cases h2 : sz_in x2 3 with
    | false =>
      rw [h2] at m2 z
      exact sx_met_of rfl rfl rfl rfl (bSb_refusalOfItems_0 (f3 := 0) m1 (fun c => absurd rfl c) (fun _ => m2) (fun _ c => absurd c y1) (fun _ c => absurd c y1) (fun _ c => absurd c y1) (fun _ c => absurd c y1) (fun _ c => absurd c y1) (fun _ c => absurd c y1) (fun _ _ => z))
    | true =>
      rw [h2] at m2 z
      obtain ⟨k, hk, rfl⟩ := sz_in_of h1 (by decide)
      have hc : (nI k).toNatClampNeg = k := nI_clamp (by omega)
      rw [hc] at z
      obtain ⟨g1, g2, g3, g4⟩ := h.2 k hk
      have z : Q (sh_rf s k x2 x3 n) 0 w := z
      have v : vp_in (nI k) 4 := vp_in_nI hk (by decide)
      have m3 := spSh_reaches (d := d) (x := x3) (n := n) h hk
      unfold sh_rf at z
      by_cases h9 : s.1 k = 9
      · rw [if_pos h9] at z
        have n0 : ¬ w.1 (40 + 2 * (nI k).toNatClampNeg) 1 = 0 := by rw [hc, g1, h9]; decide
        exact sx_met_of rfl rfl rfl rfl (bSb_refusalOfItems_0 (f3 := 0) m1 (fun c => absurd rfl c) (fun _ => m2) (fun _ _ => v) (fun _ _ c => absurd c n0) (fun _ _ c => absurd c n0) (fun _ _ c => absurd c n0) (fun _ _ c => absurd c n0) (fun _ _ _ => z) (fun _ c => absurd rfl c))
      · rw [if_neg h9] at z
        have hl : s.1 k < 3 := by rcases (h.1 k hk).1 with c | c <;> omega
        have y0 : w.1 (40 + 2 * (nI k).toNatClampNeg) 1 = 0 := by rw [hc, g1, beq_eq_false_iff_ne.mpr h9]; rfl
        have e2 : w.1 (40 + 2 * (nI k).toNatClampNeg) 2 = nI (s.1 k) := by rw [hc]; exact g2 hl
        refine sx_met_of rfl rfl rfl rfl (bSb_refusalOfItems_0 m1 (fun c => absurd rfl c) (fun _ => m2) (fun _ _ => v) (fun _ _ _ _ => by rw [hc]; exact m3) (fun _ _ _ c f => ?_) (fun _ _ _ c f => ?_) (fun _ _ _ c => ?_) (fun _ _ c => absurd y0 c) (fun _ c => absurd rfl c))
        · rw [e2] at c
          rw [if_neg (fun x => x c)] at z
          cases hr : sh_rch x3 n (s.2.1 k) with
          | false => rw [hr] at z; exact z
          | true => rw [hr] at f; exact absurd f y1
        · rw [e2] at c
          rw [if_neg (fun x => x c)] at z
          cases hr : sh_rch x3 n (s.2.1 k) with
          | false => rw [hr] at f; exact absurd rfl f
          | true => rw [hr] at z; exact z
        · rw [e2] at c
          rw [if_pos c] at z; exact z
theorem spMo_why {k : Nat} {x2 x3 n : Int32} (h : sh_M s w) (hk : k < 4) (hn : 0 ≤ n.toInt) : sx_de d rMo_why [.ref 48, .int (nI k), .int x2, .int x3, .int n] w (sh_rf s k x2 x3 n) 0 w := by
  intro Q z
  have hc : (nI k).toNatClampNeg = k := nI_clamp (by omega)
  obtain ⟨g1, g2, g3⟩ := h.2 k hk
  have hz := (h.1 k hk).2
  have v : vp_in (nI k) 4 := vp_in_nI hk (by decide)
  unfold sh_rf at z
  by_cases h9 : s.1 k = 9
  · rw [if_pos h9] at z
    have n0 : ¬ 0 ≤ w.1 61 (nI k).toNatClampNeg := by rw [hc, g1, h9]; decide
    exact sx_met_of rfl rfl rfl rfl (bMo_why_0 v (fun c => absurd c n0) (fun c => absurd c n0) (fun c => absurd c n0) (fun c => absurd c n0) (fun _ => z))
  · rw [if_neg h9] at z
    have hl : s.1 k < 3 := by rcases (h.1 k hk).1 with c | c <;> omega
    have e1 : w.1 61 (nI k).toNatClampNeg = nI (s.1 k) := by rw [hc, g1]; exact if_pos hl
    have y0 : 0 ≤ w.1 61 (nI k).toNatClampNeg := by rw [e1]; exact nI_pos' (by omega)
    have h0 : (0 : Int32).toInt = 0 := rfl
    have bx := x3.toInt_lt
    have bx' := x3.le_toInt
    have bn := n.toInt_lt
    have es : (x3.toInt64 + n.toInt64).toInt = x3.toInt + n.toInt := by
      rw [Int64.toInt_add, Int32.toInt_toInt64, Int32.toInt_toInt64]
      exact Int.bmod_eq_of_le (by omega) (by omega)
    have e2 : (w.1 62 (nI k).toNatClampNeg).toInt64.toInt = (s.2.1 k : Int) := by rw [hc, g2, Int32.toInt_toInt64]; exact nI_toInt (by omega)
    have no : nI (s.1 k) = x2 → ¬ (0 ≤ x3.toInt ∧ 0 ≤ n.toInt ∧ x3.toInt + n.toInt ≤ (s.2.1 k : Int)) → Q (-13) 0 w := fun c c2 => by
      rw [if_neg (fun x => x c)] at z
      unfold sh_rch at z
      rw [decide_eq_false c2] at z; exact z
    refine sx_met_of rfl rfl rfl rfl (bMo_why_0 v (fun _ c1 c2 => ?_) (fun _ c1 c2 c3 => ?_) (fun _ c1 c2 c3 => ?_) (fun _ c1 => ?_) (fun c => absurd y0 c))
    · rw [e1] at c1; rw [fa_lt] at c2; exact no c1 (by omega)
    · rw [e1] at c1; rw [fa_lt] at c2; rw [fa_le64, es, e2] at c3
      rw [if_neg (fun x => x c1)] at z
      unfold sh_rch at z
      rw [decide_eq_true (by omega)] at z; exact z
    · rw [e1] at c1; rw [fa_lt] at c2; rw [fa_le64, es, e2] at c3
      exact no c1 (by omega)
    · rw [e1] at c1
      rw [if_pos c1] at z; exact z
theorem sh_put_C {k i : Nat} {y : Int64} (h : sh_C s w) (hk : k < 4) : sh_C (sh_put s k i y) (w.1, sx_ul w.2 (41 + 2 * k) i (sh_cut (s.1 k) y)) := by
  refine ⟨h.1, fun k' hk' => ?_⟩
  obtain ⟨g1, g2, g3, g4⟩ := h.2 k' hk'
  refine ⟨g1, g2, g3, fun j hj => ?_⟩
  show sx_ul w.2 (41 + 2 * k) i (sh_cut (s.1 k) y) (41 + 2 * k') j = if k' = k ∧ j = i then sh_cut (s.1 k) y else s.2.2 k' j
  by_cases e : k' = k
  · rw [e, sx_ul_s]
    by_cases e2 : j = i
    · rw [if_pos e2, if_pos ⟨rfl, e2⟩]
    · rw [if_neg e2, if_neg (fun c => e2 c.2), ← e]; exact g4 j hj
  · rw [sx_ul_o (by omega), if_neg (fun c => e c.1)]; exact g4 j hj
theorem sh_put_M {k i : Nat} {y : Int64} (h : sh_M s w) (hk : k < 4) (hi : i < 16) : sh_M (sh_put s k i y) (w.1, sx_ul w.2 63 (16 * k + i) (sh_cut (s.1 k) y)) := by
  refine ⟨h.1, fun k' hk' => ?_⟩
  obtain ⟨g1, g2, g3⟩ := h.2 k' hk'
  refine ⟨g1, g2, fun j hj => ?_⟩
  show sx_ul w.2 63 (16 * k + i) (sh_cut (s.1 k) y) 63 (16 * k' + j) = if k' = k ∧ j = i then sh_cut (s.1 k) y else s.2.2 k' j
  rw [sx_ul_s]
  by_cases e : k' = k ∧ j = i
  · rw [if_pos (by omega), if_pos e]
  · rw [if_neg (by omega), if_neg e]; exact g3 j hj
theorem sh_l0 {l v : Nat} (hl : l < 3) (hv : v < 3) : (nI l = nI v) ↔ l = v := nI_eq (by omega) (by omega)
theorem spSh_put {k i : Nat} {y : Int64} (h : sh_C s w) (hk : k < 4) (hl : s.1 k < 3) (hi : i < 16) : sx_de d rSh_put [.ref (40 + 2 * k), .int (nI i), .long y] w 0 0 (w.1, sx_ul w.2 (41 + 2 * k) i (sh_cut (s.1 k) y)) := by
  intro Q z
  have hc : (nI i).toNatClampNeg = i := nI_clamp (by omega)
  have v : vp_in (nI i) 16 := vp_in_nI hi (by decide)
  have e := (h.2 k hk).2.1 hl
  unfold sh_cut at z
  refine sx_met_of rfl rfl rfl rfl (bSh_put_0 hk (fun _ _ => v) (fun c1 c2 => ?_) (fun _ _ => v) (fun c1 c2 => ?_) (fun _ => v) (fun c1 => ?_))
  · rw [e] at c1 c2
    rw [if_neg (fun x => c1 ((sh_l0 hl (v := 0) (by decide)).mpr x)), if_neg (fun x => c2 ((sh_l0 hl (v := 1) (by decide)).mpr x))] at z
    rw [hc]; exact z
  · rw [e] at c1 c2
    rw [if_neg (fun x => c1 ((sh_l0 hl (v := 0) (by decide)).mpr x)), if_pos ((sh_l0 hl (v := 1) (by decide)).mp c2)] at z
    rw [hc]; exact z
  · rw [e] at c1
    rw [if_pos ((sh_l0 hl (v := 0) (by decide)).mp c1)] at z
    rw [hc]; exact z
theorem sh_16 {k i : Nat} (hk : k < 4) (hi : i < 16) : (16 : Int32) * nI k + nI i = nI (16 * k + i) ∧ (nI (16 * k + i)).toNatClampNeg = 16 * k + i ∧ vp_in (nI (16 * k + i)) 64 := by
  refine ⟨?_, nI_clamp (by omega), vp_in_nI (by omega) (by decide)⟩
  rw [show (16 : Int32) = nI 16 from rfl, pk_mul, nI_add]
theorem spMo_puts {k i : Nat} {y : Int64} (h : sh_M s w) (hk : k < 4) (hl : s.1 k < 3) (hi : i < 16) : sx_de d rMo_puts [.ref 48, .int (nI k), .int (nI i), .long y] w 0 0 (w.1, sx_ul w.2 63 (16 * k + i) (sh_cut (s.1 k) y)) := by
  intro Q z
  have hc : (nI k).toNatClampNeg = k := nI_clamp (by omega)
  have v : vp_in (nI k) 4 := vp_in_nI hk (by decide)
  obtain ⟨e1, e2, e3⟩ := sh_16 hk hi
  have v2 : vp_in ((16 : Int32) * nI k + nI i) 64 := by rw [e1]; exact e3
  have e : w.1 61 (nI k).toNatClampNeg = nI (s.1 k) := by rw [hc, (h.2 k hk).1]; exact if_pos hl
  unfold sh_cut at z
  refine sx_met_of rfl rfl rfl rfl (bMo_puts_0 v (fun _ _ => v2) (fun c1 c2 => ?_) (fun _ _ => v2) (fun c1 c2 => ?_) (fun _ => v2) (fun c1 => ?_))
  · rw [e] at c1 c2
    rw [if_neg (fun x => c1 ((sh_l0 hl (v := 0) (by decide)).mpr x)), if_neg (fun x => c2 ((sh_l0 hl (v := 1) (by decide)).mpr x))] at z
    rw [e1, e2]; exact z
  · rw [e] at c1 c2
    rw [if_neg (fun x => c1 ((sh_l0 hl (v := 0) (by decide)).mpr x)), if_pos ((sh_l0 hl (v := 1) (by decide)).mp c2)] at z
    rw [e1, e2]; exact z
  · rw [e] at c1
    rw [if_pos ((sh_l0 hl (v := 0) (by decide)).mp c1)] at z
    rw [e1, e2]; exact z
end
