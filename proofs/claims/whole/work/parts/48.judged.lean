/-! ===== items taken; judged ===== -/
def sh_v (m : Nat) (y : Int64) : Nat := if 0 ≤ y.toInt ∧ y.toInt ≤ (m : Int) then y.toInt.toNat else 9
def sh_tI (x : Nat) : Int32 := if x < 8 then nI x else (-1 : Int32)
theorem sh_v_in {m : Nat} {y : Int64} (hm : m ≤ 7) : (sh_v m y ≤ m) ↔ (0 ≤ y.toInt ∧ y.toInt ≤ (m : Int)) := by
  unfold sh_v
  split
  · rename_i c; exact ⟨fun _ => c, fun _ => by omega⟩
  · rename_i c; exact ⟨fun h => by omega, fun h => absurd h c⟩
theorem sh_v_I {m : Nat} {y : Int64} (hm : m ≤ 7) (h : sh_v m y ≤ m) : y.toInt32 = nI (sh_v m y) := by
  have h2 := (sh_v_in hm).mp h
  have e : sh_v m y = y.toInt.toNat := if_pos h2
  have h0 : ¬ y < 0 := by rw [fa_lt64]; have : (0 : Int64).toInt = 0 := rfl; omega
  obtain ⟨k, hk, rfl⟩ := pk_lOf h0
  rw [pk_lT hk] at e
  rw [e, lN_i]; rfl
theorem sh_v_9 {m : Nat} {y : Int64} (hm : m ≤ 7) (h : ¬ sh_v m y ≤ m) : sh_v m y = 9 := by
  unfold sh_v at *
  split
  · rename_i c; rw [if_pos c] at h; omega
  · rfl
section
variable {d : Nat} {w : sx_W} {s : sh_T} {L : sg_L} {b : Nat} {r : Nat → Nat}
theorem spSb_takeItems {k i n m : Nat} (h : sh_C s w) (hk : k < 4) (hi : i + n ≤ 16) (hn : n ≤ 8) (hm : m ≤ 7) : sx_x d rSb_takeItems [.ref 0, .int (nI k), .int (nI i), .int (nI n), .int (nI m)] w (fun f fl w' => f = sz_b (sz_all (fun l => decide (sh_v m (s.2.2 k (i + l)) ≤ m)) n) ∧ fl = 0 ∧ (∀ l, l < n → w'.1 39 l = sh_tI (sh_v m (s.2.2 k (i + l)))) ∧ sg_fr [39] w w') := by
  have hck : (nI k).toNatClampNeg = k := nI_clamp (by omega)
  have loop : ∀ l, l ≤ n → ∀ u, sg_fr [39] w u → (∀ j, j < l → u.1 39 j = sh_tI (sh_v m (s.2.2 k (i + j)))) → sx_xe d rSb_takeItems 6 [.ref 0, .int (nI k), .int (nI i), .int (nI n), .int (nI m), .int (sz_b (sz_all (fun l => decide (sh_v m (s.2.2 k (i + l)) ≤ m)) l)), .int (nI l), .null, .null, .null] u (fun f fl w' => f = sz_b (sz_all (fun l => decide (sh_v m (s.2.2 k (i + l)) ≤ m)) n) ∧ fl = 0 ∧ (∀ l, l < n → w'.1 39 l = sh_tI (sh_v m (s.2.2 k (i + l)))) ∧ sg_fr [39] w w') := by
    refine sx_for n (fun u hf hu => ?_) (fun l hl ih u hf hu => ?_)
    · have c : nI n ≤ nI n := nI_le (Nat.le_refl _) (by omega)
      exact ⟨_, 0, u, fun Q z => bSb_takeItems_6 (fun _ => z) (fun _ => sz_b01 _) (fun x => absurd c x) (fun x => absurd c x) (fun x => absurd c x) (fun x => absurd c x) (fun x => absurd c x) (fun x => absurd c x) (fun x => absurd c x) (fun x => absurd c x) (fun x => absurd c x) (fun x => absurd c x) (fun x => absurd c x), rfl, rfl, hu, hf⟩
    · have nn : ¬ nI n ≤ nI l := nI_ge hl (by omega)
      have hcl : (nI l).toNatClampNeg = l := nI_clamp (by omega)
      have hci : (nI (i + l)).toNatClampNeg = i + l := nI_clamp (by omega)
      have e0 : u.2 (41 + 2 * (nI k).toNatClampNeg) (nI i + nI l).toNatClampNeg = s.2.2 k (i + l) := by
        rw [hck, nI_add, hci, (hf (41 + 2 * k) (by simp only [List.mem_cons, List.not_mem_nil, or_false]; omega)).2]
        exact (h.2 k hk).2.2.2 (i + l) (by omega)
      have v1 : vp_in (nI k) 4 := vp_in_nI hk (by decide)
      have v2 : vp_in (nI i + nI l) 16 := by rw [nI_add]; exact vp_in_nI (by omega) (by decide)
      have v3 : vp_in (nI l) 8 := vp_in_nI (by omega) (by decide)
      have em : (nI m).toInt64.toInt = (m : Int) := by rw [Int32.toInt_toInt64]; exact nI_toInt (by omega)
      have h0 : (0 : Int64).toInt = 0 := rfl
      have nxt : ∀ v : Int32, v = sh_tI (sh_v m (s.2.2 k (i + l))) → ∀ x : Int32, x = sz_b (sz_all (fun l => decide (sh_v m (s.2.2 k (i + l)) ≤ m)) (l + 1)) → sx_xe d rSb_takeItems 6 [.ref 0, .int (nI k), .int (nI i), .int (nI n), .int (nI m), .int x, .int (nI l + 1), .null, .null, .null] (sx_u u.1 39 l v, u.2) (fun f fl w' => f = sz_b (sz_all (fun l => decide (sh_v m (s.2.2 k (i + l)) ≤ m)) n) ∧ fl = 0 ∧ (∀ l, l < n → w'.1 39 l = sh_tI (sh_v m (s.2.2 k (i + l)))) ∧ sg_fr [39] w w') := fun v hv x hx => by
        rw [hx, nI_1]
        refine ih _ (hf.trans (fun a ha => ⟨sx_u_o (fun e => ha (by rw [e]; decide)), rfl⟩)) (fun j hj => ?_)
        show sx_u u.1 39 l v 39 j = _
        rw [sx_u_s]
        by_cases c : j = l
        · rw [if_pos c, c, hv]
        · rw [if_neg c]; exact hu j (by omega)
      by_cases hfit : sh_v m (s.2.2 k (i + l)) ≤ m
      · have hr := (sh_v_in hm).mp hfit
        have c1 : ¬ u.2 (41 + 2 * (nI k).toNatClampNeg) (nI i + nI l).toNatClampNeg < (0 : Int64) := by rw [e0, fa_lt64, h0]; omega
        have c2 : ¬ (nI m).toInt64 < u.2 (41 + 2 * (nI k).toNatClampNeg) (nI i + nI l).toNatClampNeg := by rw [e0, fa_lt64, em]; omega
        have ev : (u.2 (41 + 2 * (nI k).toNatClampNeg) (nI i + nI l).toNatClampNeg).toInt32 = sh_tI (sh_v m (s.2.2 k (i + l))) := by
          rw [e0, sh_v_I hm hfit, sh_tI, if_pos (by omega)]
        cases ha : sz_all (fun l => decide (sh_v m (s.2.2 k (i + l)) ≤ m)) l with
        | false =>
          obtain ⟨f, fl, w', hev, hp⟩ := nxt _ ev 0 (by rw [sz_all, ha]; rfl)
          refine ⟨f, fl, w', fun Q z => bSb_takeItems_6 (fun c => absurd c nn) (fun c => absurd c nn) (fun _ => v1) (fun _ => v2) (fun _ c => absurd c c1) (fun _ c => absurd c c1) (fun _ c => absurd c c1) (fun _ _ c => absurd c c2) (fun _ _ c => absurd c c2) (fun _ _ c => absurd c c2) (fun _ _ _ => v3) (fun _ _ _ _ => ?_) (fun _ _ _ c => absurd rfl c), hp⟩
          rw [hcl]; exact hev Q z
        | true =>
          obtain ⟨f, fl, w', hev, hp⟩ := nxt _ ev 1 (by rw [sz_all, ha, decide_eq_true hfit]; rfl)
          refine ⟨f, fl, w', fun Q z => bSb_takeItems_6 (fun c => absurd c nn) (fun c => absurd c nn) (fun _ => v1) (fun _ => v2) (fun _ c => absurd c c1) (fun _ c => absurd c c1) (fun _ c => absurd c c1) (fun _ _ c => absurd c c2) (fun _ _ c => absurd c c2) (fun _ _ c => absurd c c2) (fun _ _ _ => v3) (fun _ _ _ c => absurd c (by decide)) (fun _ _ _ _ => ?_), hp⟩
          rw [hcl]; exact hev Q z
      · have hr : ¬ (0 ≤ (s.2.2 k (i + l)).toInt ∧ (s.2.2 k (i + l)).toInt ≤ (m : Int)) := fun c => hfit ((sh_v_in hm).mpr c)
        obtain ⟨f, fl, w', hev, hp⟩ := nxt (-1) (by rw [sh_v_9 hm hfit]; rfl) 0 (by rw [sz_all, decide_eq_false hfit, Bool.and_false]; rfl)
        have go : ∀ Q : sx_Q, Q f fl w' → sx_ev d rSb_takeItems 6 [.ref 0, .int (nI k), .int (nI i), .int (nI n), .int (nI m), .int 0, .int (nI l + 1), .null, .null, .null] [] (sx_u u.1 39 (nI l).toNatClampNeg (-1), u.2) Q := fun Q z => by rw [hcl]; exact hev Q z
        refine ⟨f, fl, w', fun Q z => bSb_takeItems_6 (fun c => absurd c nn) (fun c => absurd c nn) (fun _ => v1) (fun _ => v2) (fun _ _ => v3) (fun _ _ _ => go Q z) (fun _ _ _ => go Q z) (fun _ _ _ => v3) (fun _ _ _ _ => go Q z) (fun _ _ _ _ => go Q z) (fun _ _ _ => v3) (fun _ c1 c2 => ?_) (fun _ c1 c2 => ?_), hp⟩
        · rw [e0, fa_lt64, h0] at c1
          rw [e0, fa_lt64, em] at c2
          exact absurd ⟨by omega, by omega⟩ hr
        · rw [e0, fa_lt64, h0] at c1
          rw [e0, fa_lt64, em] at c2
          exact absurd ⟨by omega, by omega⟩ hr
  obtain ⟨f, fl, w', hev, hp⟩ := loop 0 (Nat.zero_le _) w sg_fr.rfl' (fun j hj => by omega)
  exact ⟨f, fl, w', fun Q z => sx_met_of rfl rfl rfl rfl (bSb_takeItems_0 (hev Q z)), hp⟩
def sh_row (s : sh_T) (k i : Nat) : Nat → Nat := fun l => sh_v 7 (s.2.2 k (i + l))
def sh_judged (s : sh_T) (L : sg_L) (b : Nat) (x1 x2 x3 : Int32) : Int32 := if sz_in x1 4 && sz_in x2 3 then (if sh_rf s x1.toNatClampNeg x2 x3 (nI L.1) = 0 then (if fa_first (sg_bad L b (sh_row s x1.toNatClampNeg x3.toNatClampNeg)) L.1 < L.1 then nI (fa_first (sg_bad L b (sh_row s x1.toNatClampNeg x3.toNatClampNeg)) L.1) else -4) else sh_rf s x1.toNatClampNeg x2 x3 (nI L.1)) else -1
theorem spSb_judged {x1 x2 x3 : Int32} (hs : sh_C s w) (h : sg_Co L b r w) : sx_x (d + 2) rSb_judged [.ref 0, .int x1, .int x2, .int x3] w (fun f fl w' => f = sh_judged s L b x1 x2 x3 ∧ fl = 0 ∧ sg_fr [39] w w') := by
  have h7 := h.1.1.1
  have m1 := spSb_refusalOfItems (d := d) (x1 := x1) (x2 := x2) (x3 := x3) (n := nI L.1) hs
  rw [← h.1.2.1] at m1
  by_cases h0 : sh_ref s x1 x2 x3 (nI L.1) = 0
  · rw [h.1.2.1, h0, ← h.1.2.1] at m1
    obtain ⟨k, hk, rfl, h1⟩ := sh_ref_0 h0
    obtain ⟨hl, -, i, m, rfl, e1, him⟩ := sh_rf_0 hs.1 hk h1
    have hz := (hs.1 k hk).2
    have hm : L.1 = m := (nI_eq (by omega) (by omega)).mp e1
    have hck : (nI k).toNatClampNeg = k := nI_clamp (by omega)
    have hci : (nI i).toNatClampNeg = i := nI_clamp (by omega)
    have hin : (sz_in (nI k) 4 && sz_in x2 3) = true := by
      cases e : (sz_in (nI k) 4 && sz_in x2 3) with
      | true => rfl
      | false => unfold sh_ref at h0; rw [e, if_neg Bool.false_ne_true] at h0; exact absurd h0 (by decide)
    obtain ⟨f2, fl, w2, m2, -, rfl, p1, p2⟩ := spSb_takeItems (d := d + 1) (k := k) (i := i) (n := L.1) (m := 7) hs hk (by omega) (by omega) (by decide)
    rw [← h.1.2.1] at m2
    have h2 := h.fr p2 (by decide)
    have m3 := spSt_firstSpoiler_39 (d := d) (ρ := sh_row s k i) h2.1 h2.2.1 h2.2.2.1 h2.2.2.2.1 p1
    unfold sh_judged
    rw [hin, if_pos rfl, hck, hci, if_pos h1]
    by_cases hf : fa_first (sg_bad L b (sh_row s k i)) L.1 < L.1
    · rw [if_pos hf] at m3 ⊢
      have nm : ¬ nI (fa_first (sg_bad L b (sh_row s k i)) L.1) = (-1 : Int32) := by
        have h3 : ∀ k, k < 7 → ¬ nI k = (-1 : Int32) := by decide +kernel
        exact h3 _ (by omega)
      exact ⟨_, 0, w2, fun Q z => sx_met_of rfl rfl rfl rfl (bSb_judged_0 m1 (fun _ => m2) (fun _ => m3) (fun _ _ => z) (fun _ c => absurd c nm) (fun c => absurd rfl c)), rfl, rfl, p2⟩
    · rw [if_neg hf] at m3 ⊢
      exact ⟨_, 0, w2, fun Q z => sx_met_of rfl rfl rfl rfl (bSb_judged_0 m1 (fun _ => m2) (fun _ => m3) (fun _ c => absurd rfl c) (fun _ _ => z) (fun c => absurd rfl c)), rfl, rfl, p2⟩
  · have e : sh_judged s L b x1 x2 x3 = sh_ref s x1 x2 x3 (nI L.1) := by
      unfold sh_judged sh_ref at *
      split
      · rename_i c
        rw [if_pos c] at h0
        rw [if_neg h0]
      · rfl
    rw [h.1.2.1] at m1
    rw [e]
    exact ⟨_, 0, w, fun Q z => sx_met_of rfl rfl rfl rfl (bSb_judged_0 (f2 := 0) (w2 := w) (f3 := 0) (by rw [h.1.2.1]; exact m1) (fun c => absurd c h0) (fun c => absurd c h0) (fun c => absurd c h0) (fun c => absurd c h0) (fun _ => z)), rfl, rfl, sg_fr.rfl'⟩
end
