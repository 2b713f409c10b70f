/-! ===== rents: costs in a long, whom they bring where ===== -/
def sg_d2 (f : Nat → Nat) : Nat := f 0 + 256 * f 1 + 65536 * f 2 + 16777216 * f 3 + 4294967296 * f 4 + 1099511627776 * f 5 + 281474976710656 * f 6 + 72057594037927936 * f 7
theorem sg_d2_add (f g : Nat → Nat) : sg_d2 f + sg_d2 g = sg_d2 (fun p => f p + g p) := by
  simp only [sg_d2]
  omega
theorem sg_d2_lt {f : Nat → Nat} (h : ∀ p, p < 8 → f p < 32) : sg_d2 f < 2 ^ 62 := by
  have h0 := h 0 (by omega)
  have h1 := h 1 (by omega)
  have h2 := h 2 (by omega)
  have h3 := h 3 (by omega)
  have h4 := h 4 (by omega)
  have h5 := h 5 (by omega)
  have h6 := h 6 (by omega)
  have h7 := h 7 (by omega)
  unfold sg_d2
  omega
theorem sg_d2_cong {f g : Nat → Nat} (h : ∀ p, p < 8 → f p = g p) : sg_d2 f = sg_d2 g := by
  unfold sg_d2
  rw [h 0 (by omega), h 1 (by omega), h 2 (by omega), h 3 (by omega), h 4 (by omega), h 5 (by omega), h 6 (by omega), h 7 (by omega)]
theorem sg_d2_byte {f : Nat → Nat} (h : ∀ p, p < 8 → f p < 32) {p : Nat} (hp : p < 8) : sg_d2 f / 2 ^ (8 * p) % 256 = f p := by
  have h0 := h 0 (by omega)
  have h1 := h 1 (by omega)
  have h2 := h 2 (by omega)
  have h3 := h 3 (by omega)
  have h4 := h 4 (by omega)
  have h5 := h 5 (by omega)
  have h6 := h 6 (by omega)
  have h7 := h 7 (by omega)
  unfold sg_d2
  match p, hp with
  | 0, _ => omega
  | 1, _ => omega
  | 2, _ => omega
  | 3, _ => omega
  | 4, _ => omega
  | 5, _ => omega
  | 6, _ => omega
  | 7, _ => omega
  | n + 8, hp => omega
theorem sg_d2_rot {f : Nat → Nat} (h : ∀ p, p < 8 → f p < 32) {k : Nat} (hk : k ≤ 4) (h1 : 1 ≤ k) : sg_d2 f / 2 ^ (8 * k) + sg_d2 f % 2 ^ (8 * k) * 2 ^ (64 - 8 * k) = sg_d2 (fun p => f ((p + k) % 8)) := by
  have h0 := h 0 (by omega)
  have h1 := h 1 (by omega)
  have h2 := h 2 (by omega)
  have h3 := h 3 (by omega)
  have h4 := h 4 (by omega)
  have h5 := h 5 (by omega)
  have h6 := h 6 (by omega)
  have h7 := h 7 (by omega)
  simp only [sg_d2]
  match k, hk with
  | 0, _ => omega
  | 1, _ => simp only [Nat.reduceAdd, Nat.reduceMod, Nat.reduceMul, Nat.reducePow, Nat.reduceSub]; omega
  | 2, _ => simp only [Nat.reduceAdd, Nat.reduceMod, Nat.reduceMul, Nat.reducePow, Nat.reduceSub]; omega
  | 3, _ => simp only [Nat.reduceAdd, Nat.reduceMod, Nat.reduceMul, Nat.reducePow, Nat.reduceSub]; omega
  | 4, _ => simp only [Nat.reduceAdd, Nat.reduceMod, Nat.reduceMul, Nat.reducePow, Nat.reduceSub]; omega
  | n + 5, hk => omega
theorem sg_d2_sm (f : Nat → Nat) : fb_sm (fun p => f p * 2 ^ (8 * p)) 8 = sg_d2 f := by
  simp only [fb_sm, sg_d2, Nat.reduceMul, Nat.reducePow]
  omega
/-- the sum of some rents behind one another -/
def sg_cN (R : Nat → Nat) (m q : Nat) : Nat := fb_sm (fun j => R ((q + j) % 8)) m
def sg_cst (R : Nat → Nat) (k nd q : Nat) : Nat := if k = 1 ∧ 1 < nd then sg_cN R (nd - 1) q + R ((q + 4) % 8) else sg_cN R nd q
theorem sg_cN_le {R : Nat → Nat} (hR : ∀ p, p < 8 → R p ≤ 2) (m q : Nat) : sg_cN R m q ≤ m * 2 := fb_sm_bound (fun k _ => hR _ (Nat.mod_lt _ (by decide)))
theorem sg_cst_le {R : Nat → Nat} (hR : ∀ p, p < 8 → R p ≤ 2) {k nd : Nat} (hn : nd ≤ 4) (q : Nat) : sg_cst R k nd q ≤ 8 := by
  unfold sg_cst
  split
  · have h1 := sg_cN_le hR (nd - 1) q
    have h2 := hR ((q + 4) % 8) (Nat.mod_lt _ (by decide))
    omega
  · have h1 := sg_cN_le hR nd q
    omega
theorem fb_sm_hit (R : Nat → Nat) (a : Nat) : ∀ n, fb_sm (fun p => (if a = p then 1 else 0) * R p) n = if a < n then R a else 0
  | 0 => rfl
  | n + 1 => by
    rw [fb_sm_succ, fb_sm_hit R a n]
    by_cases e : a = n
    · rw [if_neg (by omega), if_pos e, if_pos (by omega), e]; omega
    · rw [if_neg e]
      by_cases e2 : a < n
      · rw [if_pos e2, if_pos (by omega)]; omega
      · rw [if_neg e2, if_neg (by omega)]; omega
theorem fb_sm_mulr (f : Nat → Nat) (c : Nat) : ∀ n, fb_sm f n * c = fb_sm (fun j => f j * c) n
  | 0 => by simp [fb_sm]
  | n + 1 => by rw [fb_sm_succ, fb_sm_succ, Nat.add_mul, fb_sm_mulr f c n]
theorem sg_cf1 : ∀ nd, nd < 5 → ∀ q, q < 8 → ∀ p, p < 8 → sg_bt (sg_slp 0 nd q) p = fb_sm (fun j => if (q + j) % 8 = p then 1 else 0) nd := by decide +kernel
theorem sg_cf2 : ∀ m, m < 3 → ∀ q, q < 8 → ∀ p, p < 8 → sg_bt (sg_slp 1 (m + 2) q) p = fb_sm (fun j => if (q + j) % 8 = p then 1 else 0) (m + 1) + (if (q + 4) % 8 = p then 1 else 0) := by decide +kernel
theorem sg_cf_sum (R : Nat → Nat) (m q : Nat) : fb_sm (fun p => fb_sm (fun j => if (q + j) % 8 = p then 1 else 0) m * R p) 8 = sg_cN R m q := by
  have e : (fun p => fb_sm (fun j => if (q + j) % 8 = p then 1 else 0) m * R p) = fun p => fb_sm (fun j => (if (q + j) % 8 = p then 1 else 0) * R p) m := funext fun p => fb_sm_mulr _ _ _
  rw [e, fb_sm_swap]
  unfold sg_cN
  congr 1
  funext j
  rw [fb_sm_hit, if_pos (Nat.mod_lt _ (by decide))]
/-- the parts in which one sleeps cost together -/
theorem sg_cst_eq {L : sg_L} (h : sg_ok L) (R : Nat → Nat) {l q : Nat} (hl : l < L.1) (hq : q < 8) : fb_sm (fun p => sg_bt (sg_sl L l q) p * R p) 8 = sg_cst R (L.2.1 l) (L.2.2.1 l) q := by
  obtain ⟨h1, h2, h3, -⟩ := h.2 l hl
  unfold sg_sl sg_cst
  by_cases hk : L.2.1 l = 1 ∧ 1 < L.2.2.1 l
  · obtain ⟨m, hm⟩ : ∃ m, L.2.2.1 l = m + 2 := ⟨L.2.2.1 l - 2, by omega⟩
    rw [if_pos hk, hk.1, hm, show m + 2 - 1 = m + 1 from rfl]
    have e : fb_sm (fun p => sg_bt (sg_slp 1 (m + 2) q) p * R p) 8 = fb_sm (fun p => fb_sm (fun j => if (q + j) % 8 = p then 1 else 0) (m + 1) * R p + (if (q + 4) % 8 = p then 1 else 0) * R p) 8 := fb_sm_cong (fun p hp => by rw [sg_cf2 m (by omega) q hq p hp, Nat.add_mul])
    rw [e, fb_sm_add, sg_cf_sum, fb_sm_hit, if_pos (Nat.mod_lt _ (by decide))]
  · rw [if_neg hk, sg_slp_n1 hk]
    have e : fb_sm (fun p => sg_bt (sg_slp 0 (L.2.2.1 l) q) p * R p) 8 = fb_sm (fun p => fb_sm (fun j => if (q + j) % 8 = p then 1 else 0) (L.2.2.1 l) * R p) 8 := fb_sm_cong (fun p hp => by rw [sg_cf1 _ (by omega) q hq p hp])
    rw [e, sg_cf_sum]
/-! where one begins who looks to oneself -/
def sg_bs (L : sg_L) (C : Nat → Nat) (l : Nat) : Nat → Nat × Nat
  | 0 => (8, 99)
  | p + 1 => if sg_may L l p && decide (C p < (sg_bs L C l p).2) then (p, C p) else sg_bs L C l p
theorem sg_bs_ok (L : sg_L) {C : Nat → Nat} (l : Nat) (hC : ∀ q, C q ≤ 8) : ∀ p, p ≤ 8 → ((sg_bs L C l p).1 = 8 ∧ (sg_bs L C l p).2 = 99) ∨ ((sg_bs L C l p).1 < p ∧ (sg_bs L C l p).2 ≤ 8 ∧ sg_may L l (sg_bs L C l p).1 = true)
  | 0, _ => Or.inl ⟨rfl, rfl⟩
  | p + 1, hp => by
    have ih := sg_bs_ok L l hC p (by omega)
    rw [sg_bs]
    split
    · rename_i h
      rw [Bool.and_eq_true] at h
      exact Or.inr ⟨by omega, hC p, h.1⟩
    · rcases ih with h | h
      · exact Or.inl h
      · exact Or.inr ⟨by omega, h.2⟩
def sg_best (L : sg_L) (R : Nat → Nat) (l : Nat) : Nat := (sg_bs L (sg_cst R (L.2.1 l) (L.2.2.1 l)) l 8).1
def sg_clr (L : sg_L) (b : Nat) (R : Nat → Nat) : Bool := sz_all (fun l => !sg_bad L b (sg_best L R) l) L.1
section
variable {d : Nat} {w : sx_W} {L : sg_L} {b : Nat} {r : Nat → Nat}
theorem nI_8 {k : Nat} : (8 : Int32) * nI k = nI (8 * k) := by rw [show (8 : Int32) = nI 8 from rfl, pk_mul]
theorem spMa_later {f : Nat → Nat} {k : Nat} (h : ∀ p, p < 8 → f p < 32) (hk : k ≤ 4) : sx_de d rMa_later [.long (lN (sg_d2 f)), .int (nI k)] w 0 (lN (sg_d2 (fun p => f ((p + k) % 8)))) w := by
  intro Q z
  have hX := sg_d2_lt h
  have e0 : ((8 : Int32) * nI k = 0) ↔ k = 0 := by rw [nI_8, show (0 : Int32) = nI 0 from rfl, nI_eq (by omega) (by omega)]; omega
  refine sx_met_of rfl rfl rfl rfl (bMa_later_0 (fun c => ?_) (fun c => ?_))
  · rw [e0] at c
    have e2 : (64 : Int32) - (8 : Int32) * nI k = nI (64 - 8 * k) := by rw [nI_8, show (64 : Int32) = nI 64 from rfl, pk_sub (by omega)]
    rw [e2, nI_8, wb_shr (by omega) (by omega), wb_shl _ (by omega)]
    have e3 : lN (sg_d2 f * 2 ^ (64 - 8 * k)) = lN (sg_d2 f % 2 ^ (8 * k) * 2 ^ (64 - 8 * k)) := by
      rw [wb_mod (sg_d2 f * 2 ^ (64 - 8 * k))]
      congr 1
      rw [show (2 : Nat) ^ 64 = 2 ^ (8 * k) * 2 ^ (64 - 8 * k) by rw [← Nat.pow_add]; congr 1; omega, Nat.mul_mod_mul_right]
    have e4 : sg_d2 f / 2 ^ (8 * k) < 2 ^ (64 - 8 * k) := by
      rw [Nat.div_lt_iff_lt_mul (Nat.two_pow_pos _), ← Nat.pow_add, show 64 - 8 * k + 8 * k = 64 by omega]
      omega
    rw [e3, fb_orL, Nat.mul_comm (sg_d2 f % 2 ^ (8 * k)), Nat.or_comm, ← Nat.two_pow_add_eq_or_of_lt e4, Nat.mul_comm, Nat.add_comm, sg_d2_rot h hk (by omega)]
    exact z
  · rw [e0] at c
    subst c
    rw [sg_d2_cong (g := f) (fun p hp => by show f ((p + 0) % 8) = f p; rw [Nat.add_zero, Nat.mod_eq_of_lt hp])] at z
    exact z
/-- the costs, as they are reckoned -/
def sg_kc (R : Nat → Nat) (w : sx_W) : Prop := ∀ k nd, 1 ≤ nd → nd ≤ 4 → w.2 25 (nd + if k = 1 then 4 else 0) = lN (sg_d2 (sg_cst R k nd))
theorem spMa_reckonCosts_39 {R : Nat → Nat} (hR : ∀ p, p < 8 → w.1 39 p = nI (R p) ∧ R p ≤ 2) : sx_x (d + 1) rMa_reckonCosts [.ref 24, .ref 39] w (fun f fl w' => f = 0 ∧ fl = 0 ∧ sg_kc R w' ∧ w'.1 = w.1 ∧ ∀ a, a ≠ 25 → w'.2 a = w.2 a) := by
  have hR2 : ∀ p, p < 8 → R p ≤ 2 := fun p hp => (hR p hp).2
  have h32 : ∀ p, p < 8 → R p < 32 := fun p hp => by have := hR2 p hp; omega
  have eR1 : sg_d2 (sg_cN R 1) = sg_d2 R := sg_d2_cong (fun p hp => by show 0 + R ((p + 0) % 8) = R p; rw [Nat.add_zero, Nat.mod_eq_of_lt hp, Nat.zero_add])
  -- the third loop
  have third : ∀ i, i ≤ 5 → 2 ≤ i → ∀ u : sx_W, u.1 = w.1 → (∀ a, a ≠ 25 → u.2 a = w.2 a) → (∀ m, m ≤ 4 → u.2 25 m = lN (sg_d2 (sg_cN R m))) → (u.2 25 5 = lN (sg_d2 R)) → (∀ m, 2 ≤ m → m < i → u.2 25 (4 + m) = lN (sg_d2 (fun q => sg_cN R (m - 1) q + R ((q + 4) % 8)))) →
      sx_xe (d + 1) rMa_reckonCosts 89 [.ref 24, .null, .long (lN (sg_d2 R)), .null, .int (nI i)] u (fun f fl w' => f = 0 ∧ fl = 0 ∧ sg_kc R w' ∧ w'.1 = w.1 ∧ ∀ a, a ≠ 25 → w'.2 a = w.2 a) := by
    refine sx_for 5 (fun _ u h1 h2 h3 h4 h5 => ?_) (fun i hi ih h2i u h1 h2 h3 h4 h5 => ?_)
    · refine ⟨0, 0, u, fun Q z => bMa_reckonCosts_39_89 (f1 := 0) (fun _ => z) (fun c => absurd (by decide) c) (fun c => absurd (by decide) c) (fun c => absurd (by decide) c) (fun c => absurd (by decide) c), rfl, rfl, fun k nd a1 a2 => ?_, h1, h2⟩
      by_cases hk : k = 1
      · rw [if_pos hk]
        by_cases hn : 1 < nd
        · have e : sg_cst R k nd = fun q => sg_cN R (nd - 1) q + R ((q + 4) % 8) := funext fun q => by unfold sg_cst; rw [if_pos ⟨hk, hn⟩]
          rw [e, Nat.add_comm]
          exact h5 nd (by omega) (by omega)
        · have hn1 : nd = 1 := by omega
          have e : sg_cst R k nd = sg_cN R 1 := funext fun q => by unfold sg_cst; rw [if_neg (by omega), hn1]
          rw [e, hn1, eR1]
          exact h4
      · rw [if_neg hk]
        have e : sg_cst R k nd = sg_cN R nd := funext fun q => by unfold sg_cst; rw [if_neg (by omega)]
        rw [e]
        exact h3 nd a2
    · have nc : ¬ (4 : Int32) < nI i := nI_nlt (a := 4) (by omega) (by omega)
      obtain ⟨j, rfl⟩ : ∃ j, i = j + 1 := ⟨i - 1, by omega⟩
      have e1 : nI (j + 1) - 1 = nI j := nI_pred j
      have e2 : (4 : Int32) + nI (j + 1) = nI (4 + (j + 1)) := by rw [show (4 : Int32) = nI 4 from rfl, nI_add]
      have c1 : (nI j).toNatClampNeg = j := nI_clamp (by omega)
      have c2 : (nI (4 + (j + 1))).toNatClampNeg = 4 + (j + 1) := nI_clamp (by omega)
      have lat := spMa_later (d := d) (w := u) (f := R) (k := 4) h32 (by omega)
      obtain ⟨f, fl, w', hev, hp⟩ := ih (by omega) (u.1, sx_ul u.2 25 (4 + (j + 1)) (lN (sg_d2 (fun q => sg_cN R j q + R ((q + 4) % 8))))) h1 (fun a ha => by show sx_ul u.2 25 _ _ a = _; rw [sx_ul_o ha]; exact h2 a ha) (fun m hm => by
        show sx_ul u.2 25 _ _ 25 m = _
        rw [sx_ul_s, if_neg (by omega)]; exact h3 m hm) (by
        show sx_ul u.2 25 _ _ 25 5 = _
        rw [sx_ul_s, if_neg (by omega)]; exact h4) (fun m m1 m2 => by
        show sx_ul u.2 25 _ _ 25 (4 + m) = _
        rw [sx_ul_s]
        by_cases e : m = j + 1
        · rw [if_pos (by omega), e]; rfl
        · rw [if_neg (by omega)]; exact h5 m m1 (by omega))
      refine ⟨f, fl, w', fun Q z => bMa_reckonCosts_39_89 (fun c => absurd c nc) (fun _ => by rw [e1]; exact vp_in_nI (by omega) (by decide)) (fun _ => lat) (fun _ => by rw [e2]; exact vp_in_nI (by omega) (by decide)) (fun _ => ?_), hp⟩
      rw [e1, e2, c1, c2, h3 j (by omega), lN_add, sg_d2_add, nI_1]
      exact hev Q z
  have second : ∀ i, i ≤ 5 → 1 ≤ i → ∀ u : sx_W, u.1 = w.1 → (∀ a, a ≠ 25 → u.2 a = w.2 a) → (∀ m, m < i → u.2 25 m = lN (sg_d2 (sg_cN R m))) →
      sx_xe (d + 1) rMa_reckonCosts 42 [.ref 24, .null, .long (lN (sg_d2 R)), .null, .int (nI i)] u (fun f fl w' => f = 0 ∧ fl = 0 ∧ sg_kc R w' ∧ w'.1 = w.1 ∧ ∀ a, a ≠ 25 → w'.2 a = w.2 a) := by
    refine sx_for 5 (fun _ u h1 h2 h3 => ?_) (fun i hi ih h1i u h1 h2 h3 => ?_)
    · obtain ⟨f, fl, w', hev, hp⟩ := third 2 (by omega) (by omega) (u.1, sx_ul u.2 25 5 (lN (sg_d2 R))) h1 (fun a ha => by show sx_ul u.2 25 _ _ a = _; rw [sx_ul_o ha]; exact h2 a ha) (fun m hm => by
        show sx_ul u.2 25 _ _ 25 m = _
        rw [sx_ul_s, if_neg (by omega)]; exact h3 m (by omega)) (by show sx_ul u.2 25 5 (lN (sg_d2 R)) 25 5 = _; rw [sx_ul_s, if_pos rfl]) (fun m m1 m2 => by omega)
      exact ⟨f, fl, w', fun Q z => bMa_reckonCosts_39_42 (f1 := 0) (fun _ => hev Q z) (fun c => absurd (by decide) c) (fun c => absurd (by decide) c) (fun c => absurd (by decide) c) (fun c => absurd (by decide) c), hp⟩
    · have nc : ¬ (4 : Int32) < nI i := nI_nlt (a := 4) (by omega) (by omega)
      obtain ⟨j, rfl⟩ : ∃ j, i = j + 1 := ⟨i - 1, by omega⟩
      have e1 : nI (j + 1) - 1 = nI j := nI_pred j
      have c1 : (nI j).toNatClampNeg = j := nI_clamp (by omega)
      have c2 : (nI (j + 1)).toNatClampNeg = j + 1 := nI_clamp (by omega)
      have lat := spMa_later (d := d) (w := u) (f := R) (k := j) h32 (by omega)
      have es : sg_d2 (sg_cN R (j + 1)) = sg_d2 (fun p => sg_cN R j p + R ((p + j) % 8)) := rfl
      obtain ⟨f, fl, w', hev, hp⟩ := ih (by omega) (u.1, sx_ul u.2 25 (j + 1) (lN (sg_d2 (sg_cN R (j + 1))))) h1 (fun a ha => by show sx_ul u.2 25 _ _ a = _; rw [sx_ul_o ha]; exact h2 a ha) (fun m hm => by
        show sx_ul u.2 25 _ _ 25 m = _
        rw [sx_ul_s]
        by_cases e : m = j + 1
        · rw [if_pos e, e]
        · rw [if_neg e]; exact h3 m (by omega))
      refine ⟨f, fl, w', fun Q z => bMa_reckonCosts_39_42 (fun c => absurd c nc) (fun _ => by rw [e1]; exact vp_in_nI (by omega) (by decide)) (fun _ => by rw [e1]; exact lat) (fun _ => vp_in_nI (by omega) (by decide)) (fun _ => ?_), hp⟩
      rw [e1, c1, c2, h3 j (by omega), lN_add, sg_d2_add, nI_1, ← es]
      exact hev Q z
  have first : ∀ i, i ≤ 8 → sx_xe (d + 1) rMa_reckonCosts 5 [.ref 24, .ref 39, .long (lN (fb_sm (fun p => R p * 2 ^ (8 * p)) i)), .null, .int (nI i)] w (fun f fl w' => f = 0 ∧ fl = 0 ∧ sg_kc R w' ∧ w'.1 = w.1 ∧ ∀ a, a ≠ 25 → w'.2 a = w.2 a) := by
    have lt : ∀ i, i ≤ 8 → fb_sm (fun p => R p * 2 ^ (8 * p)) i < 2 ^ (8 * i) := by
      intro i
      induction i with
      | zero => intro _; exact Nat.one_pos
      | succ i ih =>
        intro hi
        have h1 := ih (by omega)
        have h2 : R i * 2 ^ (8 * i) ≤ 2 * 2 ^ (8 * i) := Nat.mul_le_mul_right _ (hR2 i (by omega))
        rw [fb_sm_succ, show 8 * (i + 1) = 8 * i + 8 by omega, Nat.pow_add]
        omega
    refine sx_for 8 ?_ (fun i hi ih => ?_)
    · rw [sg_d2_sm]
      obtain ⟨f, fl, w', hev, hp⟩ := second 1 (by omega) (by omega) (w.1, sx_ul w.2 25 0 0) rfl (fun a ha => sx_ul_o ha) (fun m hm => by
        show sx_ul w.2 25 0 0 25 m = _
        rw [sx_ul_s, if_pos (by omega), show m = 0 by omega]
        rfl)
      exact ⟨f, fl, w', fun Q z => bMa_reckonCosts_39_5 (fun _ => hev Q z) (fun c => absurd (by decide) c) (fun c => absurd (by decide) c), hp⟩
    · obtain ⟨f, fl, w', hev, hp⟩ := ih
      have hc : (nI i).toNatClampNeg = i := nI_clamp (by omega)
      refine ⟨f, fl, w', fun Q z => bMa_reckonCosts_39_5 (fun c => absurd c (nI_ge (b := 8) hi (by omega))) (fun _ => vp_in_nI hi (by decide)) (fun _ => ?_), hp⟩
      have e3 : fb_sm (fun p => R p * 2 ^ (8 * p)) i ||| R i * 2 ^ (8 * i) = fb_sm (fun p => R p * 2 ^ (8 * p)) (i + 1) := by
        rw [fb_sm_succ, Nat.mul_comm (R i), Nat.or_comm, ← Nat.two_pow_add_eq_or_of_lt (lt i (by omega)), Nat.add_comm]
      rw [hc, (hR i hi).1, nI_l (by have := hR2 i hi; omega), nI_8, wb_shl _ (by omega), fb_orL, e3, nI_1]
      exact hev Q z
  obtain ⟨f, fl, w', hev, hp⟩ := first 0 (by omega)
  exact ⟨f, fl, w', fun Q z => sx_met_of rfl rfl rfl rfl (bMa_reckonCosts_39_0 (hev Q z)), hp⟩
theorem spMa_reckonCosts_26 {R : Nat → Nat} (hR : ∀ p, p < 8 → w.1 26 p = nI (R p) ∧ R p ≤ 2) : sx_x (d + 1) rMa_reckonCosts [.ref 24, .ref 26] w (fun f fl w' => f = 0 ∧ fl = 0 ∧ sg_kc R w' ∧ w'.1 = w.1 ∧ ∀ a, a ≠ 25 → w'.2 a = w.2 a) := by
  have hR2 : ∀ p, p < 8 → R p ≤ 2 := fun p hp => (hR p hp).2
  have h32 : ∀ p, p < 8 → R p < 32 := fun p hp => by have := hR2 p hp; omega
  have eR1 : sg_d2 (sg_cN R 1) = sg_d2 R := sg_d2_cong (fun p hp => by show 0 + R ((p + 0) % 8) = R p; rw [Nat.add_zero, Nat.mod_eq_of_lt hp, Nat.zero_add])
  -- the third loop
  have third : ∀ i, i ≤ 5 → 2 ≤ i → ∀ u : sx_W, u.1 = w.1 → (∀ a, a ≠ 25 → u.2 a = w.2 a) → (∀ m, m ≤ 4 → u.2 25 m = lN (sg_d2 (sg_cN R m))) → (u.2 25 5 = lN (sg_d2 R)) → (∀ m, 2 ≤ m → m < i → u.2 25 (4 + m) = lN (sg_d2 (fun q => sg_cN R (m - 1) q + R ((q + 4) % 8)))) →
      sx_xe (d + 1) rMa_reckonCosts 89 [.ref 24, .null, .long (lN (sg_d2 R)), .null, .int (nI i)] u (fun f fl w' => f = 0 ∧ fl = 0 ∧ sg_kc R w' ∧ w'.1 = w.1 ∧ ∀ a, a ≠ 25 → w'.2 a = w.2 a) := by
    refine sx_for 5 (fun _ u h1 h2 h3 h4 h5 => ?_) (fun i hi ih h2i u h1 h2 h3 h4 h5 => ?_)
    · refine ⟨0, 0, u, fun Q z => bMa_reckonCosts_26_89 (f1 := 0) (fun _ => z) (fun c => absurd (by decide) c) (fun c => absurd (by decide) c) (fun c => absurd (by decide) c) (fun c => absurd (by decide) c), rfl, rfl, fun k nd a1 a2 => ?_, h1, h2⟩
      by_cases hk : k = 1
      · rw [if_pos hk]
        by_cases hn : 1 < nd
        · have e : sg_cst R k nd = fun q => sg_cN R (nd - 1) q + R ((q + 4) % 8) := funext fun q => by unfold sg_cst; rw [if_pos ⟨hk, hn⟩]
          rw [e, Nat.add_comm]
          exact h5 nd (by omega) (by omega)
        · have hn1 : nd = 1 := by omega
          have e : sg_cst R k nd = sg_cN R 1 := funext fun q => by unfold sg_cst; rw [if_neg (by omega), hn1]
          rw [e, hn1, eR1]
          exact h4
      · rw [if_neg hk]
        have e : sg_cst R k nd = sg_cN R nd := funext fun q => by unfold sg_cst; rw [if_neg (by omega)]
        rw [e]
        exact h3 nd a2
    · have nc : ¬ (4 : Int32) < nI i := nI_nlt (a := 4) (by omega) (by omega)
      obtain ⟨j, rfl⟩ : ∃ j, i = j + 1 := ⟨i - 1, by omega⟩
      have e1 : nI (j + 1) - 1 = nI j := nI_pred j
      have e2 : (4 : Int32) + nI (j + 1) = nI (4 + (j + 1)) := by rw [show (4 : Int32) = nI 4 from rfl, nI_add]
      have c1 : (nI j).toNatClampNeg = j := nI_clamp (by omega)
      have c2 : (nI (4 + (j + 1))).toNatClampNeg = 4 + (j + 1) := nI_clamp (by omega)
      have lat := spMa_later (d := d) (w := u) (f := R) (k := 4) h32 (by omega)
      obtain ⟨f, fl, w', hev, hp⟩ := ih (by omega) (u.1, sx_ul u.2 25 (4 + (j + 1)) (lN (sg_d2 (fun q => sg_cN R j q + R ((q + 4) % 8))))) h1 (fun a ha => by show sx_ul u.2 25 _ _ a = _; rw [sx_ul_o ha]; exact h2 a ha) (fun m hm => by
        show sx_ul u.2 25 _ _ 25 m = _
        rw [sx_ul_s, if_neg (by omega)]; exact h3 m hm) (by
        show sx_ul u.2 25 _ _ 25 5 = _
        rw [sx_ul_s, if_neg (by omega)]; exact h4) (fun m m1 m2 => by
        show sx_ul u.2 25 _ _ 25 (4 + m) = _
        rw [sx_ul_s]
        by_cases e : m = j + 1
        · rw [if_pos (by omega), e]; rfl
        · rw [if_neg (by omega)]; exact h5 m m1 (by omega))
      refine ⟨f, fl, w', fun Q z => bMa_reckonCosts_26_89 (fun c => absurd c nc) (fun _ => by rw [e1]; exact vp_in_nI (by omega) (by decide)) (fun _ => lat) (fun _ => by rw [e2]; exact vp_in_nI (by omega) (by decide)) (fun _ => ?_), hp⟩
      rw [e1, e2, c1, c2, h3 j (by omega), lN_add, sg_d2_add, nI_1]
      exact hev Q z
  have second : ∀ i, i ≤ 5 → 1 ≤ i → ∀ u : sx_W, u.1 = w.1 → (∀ a, a ≠ 25 → u.2 a = w.2 a) → (∀ m, m < i → u.2 25 m = lN (sg_d2 (sg_cN R m))) →
      sx_xe (d + 1) rMa_reckonCosts 42 [.ref 24, .null, .long (lN (sg_d2 R)), .null, .int (nI i)] u (fun f fl w' => f = 0 ∧ fl = 0 ∧ sg_kc R w' ∧ w'.1 = w.1 ∧ ∀ a, a ≠ 25 → w'.2 a = w.2 a) := by
    refine sx_for 5 (fun _ u h1 h2 h3 => ?_) (fun i hi ih h1i u h1 h2 h3 => ?_)
    · obtain ⟨f, fl, w', hev, hp⟩ := third 2 (by omega) (by omega) (u.1, sx_ul u.2 25 5 (lN (sg_d2 R))) h1 (fun a ha => by show sx_ul u.2 25 _ _ a = _; rw [sx_ul_o ha]; exact h2 a ha) (fun m hm => by
        show sx_ul u.2 25 _ _ 25 m = _
        rw [sx_ul_s, if_neg (by omega)]; exact h3 m (by omega)) (by show sx_ul u.2 25 5 (lN (sg_d2 R)) 25 5 = _; rw [sx_ul_s, if_pos rfl]) (fun m m1 m2 => by omega)
      exact ⟨f, fl, w', fun Q z => bMa_reckonCosts_26_42 (f1 := 0) (fun _ => hev Q z) (fun c => absurd (by decide) c) (fun c => absurd (by decide) c) (fun c => absurd (by decide) c) (fun c => absurd (by decide) c), hp⟩
    · have nc : ¬ (4 : Int32) < nI i := nI_nlt (a := 4) (by omega) (by omega)
      obtain ⟨j, rfl⟩ : ∃ j, i = j + 1 := ⟨i - 1, by omega⟩
      have e1 : nI (j + 1) - 1 = nI j := nI_pred j
      have c1 : (nI j).toNatClampNeg = j := nI_clamp (by omega)
      have c2 : (nI (j + 1)).toNatClampNeg = j + 1 := nI_clamp (by omega)
      have lat := spMa_later (d := d) (w := u) (f := R) (k := j) h32 (by omega)
      have es : sg_d2 (sg_cN R (j + 1)) = sg_d2 (fun p => sg_cN R j p + R ((p + j) % 8)) := rfl
      obtain ⟨f, fl, w', hev, hp⟩ := ih (by omega) (u.1, sx_ul u.2 25 (j + 1) (lN (sg_d2 (sg_cN R (j + 1))))) h1 (fun a ha => by show sx_ul u.2 25 _ _ a = _; rw [sx_ul_o ha]; exact h2 a ha) (fun m hm => by
        show sx_ul u.2 25 _ _ 25 m = _
        rw [sx_ul_s]
        by_cases e : m = j + 1
        · rw [if_pos e, e]
        · rw [if_neg e]; exact h3 m (by omega))
      refine ⟨f, fl, w', fun Q z => bMa_reckonCosts_26_42 (fun c => absurd c nc) (fun _ => by rw [e1]; exact vp_in_nI (by omega) (by decide)) (fun _ => by rw [e1]; exact lat) (fun _ => vp_in_nI (by omega) (by decide)) (fun _ => ?_), hp⟩
      rw [e1, c1, c2, h3 j (by omega), lN_add, sg_d2_add, nI_1, ← es]
      exact hev Q z
  have first : ∀ i, i ≤ 8 → sx_xe (d + 1) rMa_reckonCosts 5 [.ref 24, .ref 26, .long (lN (fb_sm (fun p => R p * 2 ^ (8 * p)) i)), .null, .int (nI i)] w (fun f fl w' => f = 0 ∧ fl = 0 ∧ sg_kc R w' ∧ w'.1 = w.1 ∧ ∀ a, a ≠ 25 → w'.2 a = w.2 a) := by
    have lt : ∀ i, i ≤ 8 → fb_sm (fun p => R p * 2 ^ (8 * p)) i < 2 ^ (8 * i) := by
      intro i
      induction i with
      | zero => intro _; exact Nat.one_pos
      | succ i ih =>
        intro hi
        have h1 := ih (by omega)
        have h2 : R i * 2 ^ (8 * i) ≤ 2 * 2 ^ (8 * i) := Nat.mul_le_mul_right _ (hR2 i (by omega))
        rw [fb_sm_succ, show 8 * (i + 1) = 8 * i + 8 by omega, Nat.pow_add]
        omega
    refine sx_for 8 ?_ (fun i hi ih => ?_)
    · rw [sg_d2_sm]
      obtain ⟨f, fl, w', hev, hp⟩ := second 1 (by omega) (by omega) (w.1, sx_ul w.2 25 0 0) rfl (fun a ha => sx_ul_o ha) (fun m hm => by
        show sx_ul w.2 25 0 0 25 m = _
        rw [sx_ul_s, if_pos (by omega), show m = 0 by omega]
        rfl)
      exact ⟨f, fl, w', fun Q z => bMa_reckonCosts_26_5 (fun _ => hev Q z) (fun c => absurd (by decide) c) (fun c => absurd (by decide) c), hp⟩
    · obtain ⟨f, fl, w', hev, hp⟩ := ih
      have hc : (nI i).toNatClampNeg = i := nI_clamp (by omega)
      refine ⟨f, fl, w', fun Q z => bMa_reckonCosts_26_5 (fun c => absurd c (nI_ge (b := 8) hi (by omega))) (fun _ => vp_in_nI hi (by decide)) (fun _ => ?_), hp⟩
      have e3 : fb_sm (fun p => R p * 2 ^ (8 * p)) i ||| R i * 2 ^ (8 * i) = fb_sm (fun p => R p * 2 ^ (8 * p)) (i + 1) := by
        rw [fb_sm_succ, Nat.mul_comm (R i), Nat.or_comm, ← Nat.two_pow_add_eq_or_of_lt (lt i (by omega)), Nat.add_comm]
      rw [hc, (hR i hi).1, nI_l (by have := hR2 i hi; omega), nI_8, wb_shl _ (by omega), fb_orL, e3, nI_1]
      exact hev Q z
  obtain ⟨f, fl, w', hev, hp⟩ := first 0 (by omega)
  exact ⟨f, fl, w', fun Q z => sx_met_of rfl rfl rfl rfl (bMa_reckonCosts_26_0 (hev Q z)), hp⟩
theorem spMa_cheapest {R : Nat → Nat} {l : Nat} (h : sg_Co L b r w) (hk : sg_kc R w) (hR : ∀ p, p < 8 → R p ≤ 2) (hl : l < L.1) : sx_de (d + 1) rMa_cheapest [.ref 24, .int (nI l)] w (if sg_best L R l < 8 then nI (sg_best L R l) else (-1 : Int32)) 0 w := by
  intro Q z
  have h7 := h.1.1.1
  obtain ⟨r1, r2, r3, r4⟩ := h.1.1.2 l hl
  obtain ⟨v1, v2, v3⟩ := h.1.2.2 l hl
  have hc : (nI l).toNatClampNeg = l := nI_clamp (by omega)
  have hC : ∀ q, sg_cst R (L.2.1 l) (L.2.2.1 l) q ≤ 8 := fun q => sg_cst_le hR r3 q
  have h32 : ∀ p, p < 8 → sg_cst R (L.2.1 l) (L.2.2.1 l) p < 32 := fun p _ => by have := hC p; omega
  have hX := sg_d2_lt h32
  have one : ∀ p, p < 8 → (((lN (sg_d2 (sg_cst R (L.2.1 l) (L.2.2.1 l)))).toUInt64 >>> (((8 : Int32) * nI p).toInt64.toUInt64 &&& Int64.toUInt64 63)).toInt64.toInt32 &&& (255 : Int32)) = nI (sg_cst R (L.2.1 l) (L.2.2.1 l) p) := fun p hp => by
    rw [nI_8, wb_shr (by omega) (by omega), lN_i, show (255 : Int32) = nI (2 ^ 8 - 1) from rfl, fa_mask, sg_d2_byte h32 hp]
  have emay : w.1 12 (nI l).toNatClampNeg = nI (sg_mays L l) := by rw [hc]; exact (h.2.1 l hl).1
  -- what the class remembers: 255 where the model has 99
  have main : sx_ev (d + 1) rMa_cheapest 56 [.null, .null, .long (lN (sg_d2 (sg_cst R (L.2.1 l) (L.2.2.1 l)))), .null, .int (nI (sg_mays L l)), .int (255 : Int32), .int (-1 : Int32), .int (0 : Int32), .null] [] w Q := by
    have loop : ∀ p, p ≤ 8 → sx_ev (d + 1) rMa_cheapest 56 [.null, .null, .long (lN (sg_d2 (sg_cst R (L.2.1 l) (L.2.2.1 l)))), .null, .int (nI (sg_mays L l)), .int (if (sg_bs L (sg_cst R (L.2.1 l) (L.2.2.1 l)) l p).1 < 8 then nI (sg_bs L (sg_cst R (L.2.1 l) (L.2.2.1 l)) l p).2 else (255 : Int32)), .int (if (sg_bs L (sg_cst R (L.2.1 l) (L.2.2.1 l)) l p).1 < 8 then nI (sg_bs L (sg_cst R (L.2.1 l) (L.2.2.1 l)) l p).1 else (-1 : Int32)), .int (nI p), .null] [] w Q := by
      refine sx_for 8 ?_ (fun p hp ih => ?_)
      · exact bMa_cheapest_56 (f1 := 0) (fun _ => z) (fun c => absurd (by decide) c) (fun c => absurd (by decide) c) (fun c => absurd (by decide) c) (fun c => absurd (by decide) c)
      · have n8 : ¬ (8 : Int32) ≤ nI p := nI_ge (b := 8) hp (by omega)
        have hok := sg_bs_ok L l hC p (by omega)
        have hhold : sx_de d rSb_holds [.int (nI (sg_mays L l)), .int (nI p)] w (sz_b ((sg_mays L l).testBit p)) 0 w := spSb_holds (by have := sg_mays_lt L l; omega) (by omega)
        rw [sg_mays_bit L l hp] at hhold
        rw [sg_bs] at ih
        generalize hs : sg_bs L (sg_cst R (L.2.1 l) (L.2.2.1 l)) l p = s at ih hok ⊢
        have ecmp : ((if s.1 < 8 then nI s.2 else (255 : Int32)) ≤ nI (sg_cst R (L.2.1 l) (L.2.2.1 l) p)) ↔ ¬ sg_cst R (L.2.1 l) (L.2.2.1 l) p < s.2 := by
          have hcp := hC p
          rcases hok with ⟨a1, a2⟩ | ⟨a1, a2, a3⟩
          · rw [if_neg (by omega), a2, show (255 : Int32) = nI 255 from rfl, nI_leI (by omega) (by omega)]; omega
          · rw [if_pos (by omega), nI_leI (by omega) (by omega)]; omega
        by_cases hlt : sg_cst R (L.2.1 l) (L.2.2.1 l) p < s.2
        · have nle := fun c => (ecmp.mp c) hlt
          cases hm : sg_may L l p with
          | false =>
            rw [hm] at hhold ih
            refine bMa_cheapest_56 (fun c => absurd c n8) (fun _ c => absurd (by rw [one p hp] at c; exact c) nle) (fun _ _ => hhold) (fun _ _ _ => ?_) (fun _ _ c => absurd rfl c)
            rw [nI_1]
            exact ih
          | true =>
            rw [hm, decide_eq_true hlt] at ih
            rw [hm] at hhold
            refine bMa_cheapest_56 (fun c => absurd c n8) (fun _ c => absurd (by rw [one p hp] at c; exact c) nle) (fun _ _ => hhold) (fun _ _ c => absurd c (by decide)) (fun _ _ _ => ?_)
            rw [nI_1, one p hp]
            simp only [Bool.and_self, if_true, hp] at ih
            exact ih
        · rw [decide_eq_false hlt, Bool.and_false] at ih
          refine bMa_cheapest_56 (f1 := 0) (fun c => absurd c n8) (fun _ _ => ?_) (fun _ c => absurd (by rw [one p hp]; exact ecmp.mpr hlt) c) (fun _ c => absurd (by rw [one p hp]; exact ecmp.mpr hlt) c) (fun _ c => absurd (by rw [one p hp]; exact ecmp.mpr hlt) c)
          rw [nI_1]
          exact ih
    exact loop 0 (by omega)
  have k1 : nI (L.2.1 l) = (1 : Int32) ↔ L.2.1 l = 1 := by rw [show (1 : Int32) = nI 1 from rfl]; exact nI_eq (by omega) (by omega)
  have key := hk (L.2.1 l) (L.2.2.1 l) r2 r3
  refine sx_met_of rfl rfl rfl rfl (bMa_cheapest_0 (vp_in_nI (by omega) (by decide)) (fun _ => ?_) (fun c => ?_) (fun _ => ?_) (fun c => ?_))
  · rw [hc, v2, show (0 : Int32) = nI 0 from rfl, nI_add]; exact vp_in_nI (by omega) (by decide)
  · rw [hc, v1, k1] at c
    rw [if_neg c] at key
    rw [emay, hc, v2, show nI (L.2.2.1 l) + (0 : Int32) = nI (L.2.2.1 l + 0) from nI_add _ 0, nI_clamp (by omega), key]
    exact main
  · rw [hc, v2, show (4 : Int32) = nI 4 from rfl, nI_add]; exact vp_in_nI (by omega) (by decide)
  · rw [hc, v1, k1] at c
    rw [if_pos c] at key
    rw [emay, hc, v2, show nI (L.2.2.1 l) + (4 : Int32) = nI (L.2.2.1 l + 4) from nI_add _ 4, nI_clamp (by omega), key]
    exact main
theorem spMa_areCleared_39 {R : Nat → Nat} (h : sg_Co L b r w) (hR : ∀ p, p < 8 → w.1 39 p = nI (R p) ∧ R p ≤ 2) : sx_x (d + 2) rMa_areCleared [.ref 24, .ref 39] w (fun f fl w' => f = sz_b (sg_clr L b R) ∧ fl = 0 ∧ w'.1 = w.1 ∧ ∀ a, a ≠ 25 → w'.2 a = w.2 a) := by
  have h7 := h.1.1.1
  have hR2 : ∀ p, p < 8 → R p ≤ 2 := fun p hp => (hR p hp).2
  obtain ⟨g, gl, w1, hde, e1, e2, hkc, hw1, hw2⟩ := spMa_reckonCosts_39 (d := d) hR
  subst e1; subst e2
  have hfr : sg_fr [25] w w1 := fun a ha => ⟨by rw [hw1], hw2 a (fun e => ha (by rw [e]; decide))⟩
  have hCo := h.fr hfr (by decide)
  have hb : w1.1 1 5 = nI b := hCo.2.2.1
  have hn := hCo.1.2.1
  refine ⟨sz_b (sg_clr L b R), 0, w1, fun Q z => sx_met_of rfl rfl rfl rfl (bMa_areCleared_39_0 (f2 := lN (sg_enc L b [])) hde (by rw [hb]; exact spSt_nobodyIn h.2.2.2.1) ?_), rfl, rfl, hw1, hw2⟩
  refine sx_for (P := fun i => (∀ j, j < i → sg_bad L b (sg_best L R) j = false) → sx_ev (d + 2) rMa_areCleared 19 [.ref 24, .null, .long (lN (sg_enc L b (sg_pf (sg_best L R) i))), .null, .int (nI i), .null] [] w1 Q) L.1 (fun ha => ?_) (fun i hi ih ha => ?_) 0 (Nat.zero_le _) (fun j hj => by omega)
  · have nc : ¬ ¬ w1.1 1 4 ≤ nI L.1 := fun c => c (by rw [hn]; exact nI_le (Nat.le_refl _) (by omega))
    have : sg_clr L b R = true := sz_all_iff.mpr (fun l hl => by rw [ha l hl]; rfl)
    rw [this] at z
    exact bMa_areCleared_39_19 (f1 := 0) (f2 := 0) (fun _ => z) (fun c => absurd c nc) (fun c => absurd c nc) (fun c => absurd c nc) (fun c => absurd c nc) (fun c => absurd c nc) (fun c => absurd c nc)
  · have nn : ¬ w1.1 1 4 ≤ nI i := by rw [hn]; exact nI_ge hi (by omega)
    have che := spMa_cheapest (d := d) hCo hkc hR2 hi
    have zb : sg_bad L b (sg_best L R) i = true → Q 0 0 w1 := fun hbad => by
      have : sg_clr L b R = false := sz_all_no hi (by rw [hbad]; rfl)
      rw [this] at z; exact z
    by_cases h8 : sg_best L R i < 8
    · rw [if_pos h8] at che
      have hne : ¬ nI (sg_best L R i) = (-1 : Int32) := (by decide +kernel : ∀ k, k < 8 → ¬ nI k = (-1 : Int32)) _ h8
      have cap : ∀ p, p < 8 → sg_cS L (sg_pf (sg_best L R) i) p ≤ b := sg_pf_cap (fun j hj => (sg_bad_no (ha j hj)).2)
      have ef := sg_fit_jn (L := L) (b := b) (ρ := sg_best L R) (l := i) cap
      have hC : ∀ q, sg_cst R (L.2.1 i) (L.2.2.1 i) q ≤ 8 := fun q => sg_cst_le hR2 (h.1.1.2 i hi).2.2.1 q
      have hm : sg_may L i (sg_best L R i) = true := by
        rcases sg_bs_ok L i hC 8 (by omega) with hx | hx
        · exact absurd hx.1 (by unfold sg_best at h8; omega)
        · exact hx.2.2
      have hjoin := spSt_joined (d := d + 1) (w := w1) (S := sg_pf (sg_best L R) i) ((hCo.2.1 i hi).2 _ h8) (by rw [sg_pf_len]; omega) h.2.2.2.1 (show i < 7 by omega) h8
      cases hj : sg_jn L b (sg_pf (sg_best L R) i) i (sg_best L R i) with
      | false =>
        rw [hj] at hjoin
        exact bMa_areCleared_39_19 (fun c => absurd c nn) (fun _ => che) (fun _ _ => hjoin) (fun _ _ c => absurd rfl c) (fun _ _ _ => zb (by rw [sg_bad, ef, hj]; simp)) (fun _ c => absurd c hne) (fun _ c => absurd c hne)
      | true =>
        rw [hj, if_pos rfl] at hjoin
        have hm1 : ¬ lN (sg_enc L b ((i, sg_best L R i) :: sg_pf (sg_best L R) i)) = (-1 : Int64) := fun hc => by
          have hlt := sg_enc_lt L b (S := (i, sg_best L R i) :: sg_pf (sg_best L R) i) (by simp [sg_pf_len]; omega)
          have h1 := pk_lT (n := sg_enc L b ((i, sg_best L R i) :: sg_pf (sg_best L R) i)) (by omega)
          rw [hc] at h1
          have h2 : (-1 : Int64).toInt = -1 := rfl
          omega
        refine bMa_areCleared_39_19 (fun c => absurd c nn) (fun _ => che) (fun _ _ => hjoin) (fun _ _ _ => ?_) (fun _ _ c => absurd c hm1) (fun _ c => absurd c hne) (fun _ c => absurd c hne)
        rw [nI_1]
        refine ih (fun j hj2 => ?_)
        by_cases e : j = i
        · rw [e, sg_bad, ef, hm, hj, decide_eq_true h8]; rfl
        · exact ha j (by omega)
    · rw [if_neg h8] at che
      exact bMa_areCleared_39_19 (f2 := 0) (fun c => absurd c nn) (fun _ => che) (fun _ c => absurd rfl c) (fun _ c => absurd rfl c) (fun _ c => absurd rfl c) (fun _ _ c => absurd rfl c) (fun _ _ _ => zb (by simp [sg_bad, h8]))
theorem spMa_areCleared_26 {R : Nat → Nat} (h : sg_Co L b r w) (hR : ∀ p, p < 8 → w.1 26 p = nI (R p) ∧ R p ≤ 2) : sx_x (d + 2) rMa_areCleared [.ref 24, .ref 26] w (fun f fl w' => f = sz_b (sg_clr L b R) ∧ fl = 0 ∧ w'.1 = w.1 ∧ ∀ a, a ≠ 25 → w'.2 a = w.2 a) := by
  have h7 := h.1.1.1
  have hR2 : ∀ p, p < 8 → R p ≤ 2 := fun p hp => (hR p hp).2
  obtain ⟨g, gl, w1, hde, e1, e2, hkc, hw1, hw2⟩ := spMa_reckonCosts_26 (d := d) hR
  subst e1; subst e2
  have hfr : sg_fr [25] w w1 := fun a ha => ⟨by rw [hw1], hw2 a (fun e => ha (by rw [e]; decide))⟩
  have hCo := h.fr hfr (by decide)
  have hb : w1.1 1 5 = nI b := hCo.2.2.1
  have hn := hCo.1.2.1
  refine ⟨sz_b (sg_clr L b R), 0, w1, fun Q z => sx_met_of rfl rfl rfl rfl (bMa_areCleared_26_0 (f2 := lN (sg_enc L b [])) hde (by rw [hb]; exact spSt_nobodyIn h.2.2.2.1) ?_), rfl, rfl, hw1, hw2⟩
  refine sx_for (P := fun i => (∀ j, j < i → sg_bad L b (sg_best L R) j = false) → sx_ev (d + 2) rMa_areCleared 19 [.ref 24, .null, .long (lN (sg_enc L b (sg_pf (sg_best L R) i))), .null, .int (nI i), .null] [] w1 Q) L.1 (fun ha => ?_) (fun i hi ih ha => ?_) 0 (Nat.zero_le _) (fun j hj => by omega)
  · have nc : ¬ ¬ w1.1 1 4 ≤ nI L.1 := fun c => c (by rw [hn]; exact nI_le (Nat.le_refl _) (by omega))
    have : sg_clr L b R = true := sz_all_iff.mpr (fun l hl => by rw [ha l hl]; rfl)
    rw [this] at z
    exact bMa_areCleared_26_19 (f1 := 0) (f2 := 0) (fun _ => z) (fun c => absurd c nc) (fun c => absurd c nc) (fun c => absurd c nc) (fun c => absurd c nc) (fun c => absurd c nc) (fun c => absurd c nc)
  · have nn : ¬ w1.1 1 4 ≤ nI i := by rw [hn]; exact nI_ge hi (by omega)
    have che := spMa_cheapest (d := d) hCo hkc hR2 hi
    have zb : sg_bad L b (sg_best L R) i = true → Q 0 0 w1 := fun hbad => by
      have : sg_clr L b R = false := sz_all_no hi (by rw [hbad]; rfl)
      rw [this] at z; exact z
    by_cases h8 : sg_best L R i < 8
    · rw [if_pos h8] at che
      have hne : ¬ nI (sg_best L R i) = (-1 : Int32) := (by decide +kernel : ∀ k, k < 8 → ¬ nI k = (-1 : Int32)) _ h8
      have cap : ∀ p, p < 8 → sg_cS L (sg_pf (sg_best L R) i) p ≤ b := sg_pf_cap (fun j hj => (sg_bad_no (ha j hj)).2)
      have ef := sg_fit_jn (L := L) (b := b) (ρ := sg_best L R) (l := i) cap
      have hC : ∀ q, sg_cst R (L.2.1 i) (L.2.2.1 i) q ≤ 8 := fun q => sg_cst_le hR2 (h.1.1.2 i hi).2.2.1 q
      have hm : sg_may L i (sg_best L R i) = true := by
        rcases sg_bs_ok L i hC 8 (by omega) with hx | hx
        · exact absurd hx.1 (by unfold sg_best at h8; omega)
        · exact hx.2.2
      have hjoin := spSt_joined (d := d + 1) (w := w1) (S := sg_pf (sg_best L R) i) ((hCo.2.1 i hi).2 _ h8) (by rw [sg_pf_len]; omega) h.2.2.2.1 (show i < 7 by omega) h8
      cases hj : sg_jn L b (sg_pf (sg_best L R) i) i (sg_best L R i) with
      | false =>
        rw [hj] at hjoin
        exact bMa_areCleared_26_19 (fun c => absurd c nn) (fun _ => che) (fun _ _ => hjoin) (fun _ _ c => absurd rfl c) (fun _ _ _ => zb (by rw [sg_bad, ef, hj]; simp)) (fun _ c => absurd c hne) (fun _ c => absurd c hne)
      | true =>
        rw [hj, if_pos rfl] at hjoin
        have hm1 : ¬ lN (sg_enc L b ((i, sg_best L R i) :: sg_pf (sg_best L R) i)) = (-1 : Int64) := fun hc => by
          have hlt := sg_enc_lt L b (S := (i, sg_best L R i) :: sg_pf (sg_best L R) i) (by simp [sg_pf_len]; omega)
          have h1 := pk_lT (n := sg_enc L b ((i, sg_best L R i) :: sg_pf (sg_best L R) i)) (by omega)
          rw [hc] at h1
          have h2 : (-1 : Int64).toInt = -1 := rfl
          omega
        refine bMa_areCleared_26_19 (fun c => absurd c nn) (fun _ => che) (fun _ _ => hjoin) (fun _ _ _ => ?_) (fun _ _ c => absurd c hm1) (fun _ c => absurd c hne) (fun _ c => absurd c hne)
        rw [nI_1]
        refine ih (fun j hj2 => ?_)
        by_cases e : j = i
        · rw [e, sg_bad, ef, hm, hj, decide_eq_true h8]; rfl
        · exact ha j (by omega)
    · rw [if_neg h8] at che
      exact bMa_areCleared_26_19 (f2 := 0) (fun c => absurd c nn) (fun _ => che) (fun _ c => absurd rfl c) (fun _ c => absurd rfl c) (fun _ c => absurd rfl c) (fun _ _ c => absurd rfl c) (fun _ _ _ => zb (by simp [sg_bad, h8]))
end
