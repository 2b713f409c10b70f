/-! ===== clears ===== -/
def sh_R (s : sh_T) (k i : Nat) : Nat → Nat := fun p => sh_v 2 (s.2.2 k (i + p))
def sh_all2 (s : sh_T) (k i n : Nat) : Bool := sz_all (fun l => decide (sh_v 2 (s.2.2 k (i + l)) ≤ 2)) n
def sh_mays (L : sg_L) (n : Nat) : Bool := sz_all (fun l => !(sg_mays L l == 0)) n
def sh_clears (s : sh_T) (L : sg_L) (b : Nat) (x1 x2 x3 : Int32) : Int32 := if sz_in x1 4 && sz_in x2 3 then (if sh_rf s x1.toNatClampNeg x2 x3 (nI 8) = 0 then (if sh_all2 s x1.toNatClampNeg x3.toNatClampNeg 8 && sh_mays L L.1 then sz_b (sg_clr L b (sh_R s x1.toNatClampNeg x3.toNatClampNeg)) else -2) else sh_rf s x1.toNatClampNeg x2 x3 (nI 8)) else -1
section
variable {d : Nat} {w : sx_W} {s : sh_T} {L : sg_L} {b : Nat} {r : Nat → Nat}
theorem sh_all2_at {k i n p : Nat} (h : sh_all2 s k i n = true) (hp : p < n) : sh_R s k i p ≤ 2 := by
  have := sz_all_iff.mp h p hp
  exact of_decide_eq_true this
theorem spSb_clears {x1 x2 x3 : Int32} (hs : sh_C s w) (h : sg_Co L b r w) : sx_x (d + 3) rSb_clears [.ref 0, .int x1, .int x2, .int x3] w (fun f fl w' => f = sh_clears s L b x1 x2 x3 ∧ fl = 0 ∧ sg_fr [25, 39] w w') := by
  have h7 := h.1.1.1
  have m1 := spSb_refusalOfItems (d := d + 1) (x1 := x1) (x2 := x2) (x3 := x3) (n := nI 8) hs
  have y1 : ¬ sz_b true = 0 := by decide
  by_cases h0 : sh_ref s x1 x2 x3 (nI 8) = 0
  · rw [h0] at m1
    obtain ⟨k, hk, rfl, h1⟩ := sh_ref_0 h0
    obtain ⟨hl, -, i, m, rfl, e1, him⟩ := sh_rf_0 hs.1 hk h1
    have hz := (hs.1 k hk).2
    have hm : 8 = m := (nI_eq (by omega) (by omega)).mp e1
    have hck : (nI k).toNatClampNeg = k := nI_clamp (by omega)
    have hci : (nI i).toNatClampNeg = i := nI_clamp (by omega)
    have hin : (sz_in (nI k) 4 && sz_in x2 3) = true := by
      cases e : (sz_in (nI k) 4 && sz_in x2 3) with
      | true => rfl
      | false => unfold sh_ref at h0; rw [e, if_neg Bool.false_ne_true] at h0; exact absurd h0 (by decide)
    obtain ⟨f2, fl, w2, m2, e2, rfl, p1, p2⟩ := spSb_takeItems (d := d + 2) (k := k) (i := i) (n := 8) (m := 2) hs hk (by omega) (by omega) (by decide)
    have e2 : f2 = sz_b (sh_all2 s k i 8) := e2
    subst e2
    have hC2 := h.fr p2 (by decide)
    have m3 := spSt_allMayBegin (d := d + 2) hC2.1 hC2.2.1
    have m3 : sx_de (d + 2) rSt_allMayBegin [.ref 11] w2 (sz_b (sh_mays L L.1)) 0 w2 := m3
    unfold sh_clears
    rw [hin, if_pos rfl, hck, hci, if_pos h1]
    cases ha : sh_all2 s k i 8 with
    | false =>
      rw [ha] at m2
      exact ⟨-2, 0, w2, fun Q z => sx_met_of rfl rfl rfl rfl (bSb_clears_0 (f3 := 0) (f4 := 0) (w4 := w) m1 (fun _ => m2) (fun _ _ => z) (fun _ c => absurd rfl c) (fun _ c => absurd rfl c) (fun _ c => absurd rfl c) (fun _ c => absurd rfl c) (fun _ c => absurd rfl c) (fun c => absurd rfl c)), rfl, rfl, p2.mono (by decide)⟩
    | true =>
      rw [ha] at m2
      cases hb : sh_mays L L.1 with
      | false =>
        rw [hb] at m3
        exact ⟨-2, 0, w2, fun Q z => sx_met_of rfl rfl rfl rfl (bSb_clears_0 (f4 := 0) (w4 := w) m1 (fun _ => m2) (fun _ c => absurd c y1) (fun _ _ => m3) (fun _ _ c => absurd rfl c) (fun _ _ c => absurd rfl c) (fun _ _ c => absurd rfl c) (fun _ _ _ => z) (fun c => absurd rfl c)), rfl, rfl, p2.mono (by decide)⟩
      | true =>
        rw [hb] at m3
        rw [if_pos (show (true && true) = true from rfl)]
        obtain ⟨f4, fl, w4, m4, rfl, rfl, q1, q2⟩ := spMa_areCleared_39 (d := d) (R := sh_R s k i) hC2 (fun p hp => by
          have hR := sh_all2_at ha hp
          refine ⟨?_, hR⟩
          rw [p1 p hp]
          show sh_tI (sh_R s k i p) = _
          rw [sh_tI, if_pos (by omega)])
        have p3 : sg_fr [25, 39] w w4 := (p2.mono (by decide)).trans (fun a ha => ⟨by rw [q1], q2 a (fun e => ha (by rw [e]; decide))⟩)
        cases hc : sg_clr L b (sh_R s k i) with
        | false =>
          rw [hc] at m4
          exact ⟨0, 0, w4, fun Q z => sx_met_of rfl rfl rfl rfl (bSb_clears_0 m1 (fun _ => m2) (fun _ c => absurd c y1) (fun _ _ => m3) (fun _ _ _ => m4) (fun _ _ _ _ => z) (fun _ _ _ c => absurd rfl c) (fun _ _ c => absurd c y1) (fun c => absurd rfl c)), rfl, rfl, p3⟩
        | true =>
          rw [hc] at m4
          exact ⟨1, 0, w4, fun Q z => sx_met_of rfl rfl rfl rfl (bSb_clears_0 m1 (fun _ => m2) (fun _ c => absurd c y1) (fun _ _ => m3) (fun _ _ _ => m4) (fun _ _ _ c => absurd c y1) (fun _ _ _ _ => z) (fun _ _ c => absurd c y1) (fun c => absurd rfl c)), rfl, rfl, p3⟩
  · have e : sh_clears s L b x1 x2 x3 = sh_ref s x1 x2 x3 (nI 8) := by
      unfold sh_clears sh_ref at *
      split
      · rename_i c
        rw [if_pos c] at h0
        rw [if_neg h0]
      · rfl
    rw [e]
    exact ⟨_, 0, w, fun Q z => sx_met_of rfl rfl rfl rfl (bSb_clears_0 (f2 := 0) (w2 := w) (f3 := 0) (f4 := 0) (w4 := w) m1 (fun c => absurd c h0) (fun c => absurd c h0) (fun c => absurd c h0) (fun c => absurd c h0) (fun c => absurd c h0) (fun c => absurd c h0) (fun c => absurd c h0) (fun _ => z)), rfl, rfl, sg_fr.rfl'⟩
theorem spMo_clears {x1 x2 x3 : Int32} {t : Bool} (hs : sh_M s w) (h : sg_Mo L b t r w) : sx_x (d + 3) rMo_clears [.ref 48, .int x1, .int x2, .int x3] w (fun f fl w' => f = sh_clears s L b x1 x2 x3 ∧ fl = 0 ∧ sg_fr [53, 54] w w') := by
  have h7 := h.1.1.1
  have m1 := spMo_isSheet (d := d + 1) (w := w) (x := x1)
  have m2 := spMo_isLane (d := d + 1) (w := w) (x := x2)
  have y1 : ¬ sz_b true = 0 := by decide
  unfold sh_clears
  cases h1 : sz_in x1 4 with
  | false =>
    rw [h1] at m1
    exact ⟨-1, 0, w, fun Q z => sx_met_of rfl rfl rfl rfl (bMo_clears_0 (f2 := 0) (f3 := 0) m1 (fun _ => z) (fun c => absurd rfl c) (fun c => absurd rfl c) (fun c => absurd rfl c) (fun c => absurd rfl c) (fun c => absurd rfl c)), rfl, rfl, sg_fr.rfl'⟩
  | true =>
    rw [h1] at m1
    cases h2 : sz_in x2 3 with
    | false =>
      rw [h2] at m2
      exact ⟨-1, 0, w, fun Q z => sx_met_of rfl rfl rfl rfl (bMo_clears_0 (f3 := 0) m1 (fun c => absurd c y1) (fun _ => m2) (fun _ c => absurd rfl c) (fun _ c => absurd rfl c) (fun _ c => absurd rfl c) (fun _ _ => z)), rfl, rfl, sg_fr.rfl'⟩
    | true =>
      rw [h2] at m2
      rw [if_pos (show (true && true) = true from rfl)]
      obtain ⟨k, hk, rfl⟩ := sz_in_of h1 (by decide)
      have hck : (nI k).toNatClampNeg = k := nI_clamp (by omega)
      have m3 := spMo_why (d := d + 2) (x2 := x2) (x3 := x3) (n := nI 8) hs hk (by decide)
      rw [hck]
      by_cases h0 : sh_rf s k x2 x3 (nI 8) = 0
      · rw [if_pos h0]
        have p0 : 0 ≤ sh_rf s k x2 x3 (nI 8) := sh_rf_neg.mpr h0
        obtain ⟨hl, -, i, m, rfl, e1, him⟩ := sh_rf_0 hs.1 hk h0
        have hz := (hs.1 k hk).2
        have hm : 8 = m := (nI_eq (by omega) (by omega)).mp e1
        rw [nI_clamp (show i < 2 ^ 31 by omega)]
        -- who may begin
        have may : ∀ u, sg_fr [54] w u → (sh_all2 s k i 8 = true → ∀ j, j < 8 → u.1 54 j = nI (sh_R s k i j)) → ∀ l, l ≤ L.1 → sx_xe (d + 3) rMo_clears 124 [.ref 48, .null, .null, .null, .null, .int (sz_b (sh_all2 s k i 8 && sh_mays L l)), .int (nI l)] u (fun f fl w' => f = (if sh_all2 s k i 8 && sh_mays L L.1 then sz_b (sg_clr L b (sh_R s k i)) else -2) ∧ fl = 0 ∧ sg_fr [53, 54] w w') := by
          intro u hf hu
          have hCu := h.fr' hf (by decide)
          refine sx_for L.1 ?_ (fun l hl2 ih => ?_)
          · have c : u.1 48 0 ≤ nI L.1 := by rw [hCu.1.2.1]; exact nI_le (Nat.le_refl _) (by omega)
            have nc : ¬ ¬ u.1 48 0 ≤ nI L.1 := fun x => x c
            cases ha : (sh_all2 s k i 8 && sh_mays L L.1) with
            | false =>
              exact ⟨-2, 0, u, fun Q z => bMo_clears_124 (f1 := 0) (w1 := u) (f2 := 0) (fun _ c => absurd rfl c) (fun _ c => absurd rfl c) (fun _ c => absurd rfl c) (fun _ _ => z) (fun c => absurd c nc) (fun c => absurd c nc) (fun c => absurd c nc) (fun c => absurd c nc), rfl, rfl, hf.mono (by decide)⟩
            | true =>
              rw [Bool.and_eq_true] at ha
              rw [if_pos rfl]
              obtain ⟨f1, fl, w1, mc, rfl, rfl, q1⟩ := spMo_clear (d := d) (R := sh_R s k i) hCu (fun p hp => ⟨hu ha.1 p hp, sh_all2_at ha.1 hp⟩)
              have p3 : sg_fr [53, 54] w w1 := (hf.mono (by decide)).trans (q1.mono (by decide))
              cases hc : sg_clr L b (sh_R s k i) with
              | false =>
                rw [hc] at mc
                exact ⟨0, 0, w1, fun Q z => bMo_clears_124 (f2 := 0) (fun _ _ => mc) (fun _ _ _ => z) (fun _ _ c => absurd rfl c) (fun _ c => absurd c y1) (fun c => absurd c nc) (fun c => absurd c nc) (fun c => absurd c nc) (fun c => absurd c nc), rfl, rfl, p3⟩
              | true =>
                rw [hc] at mc
                exact ⟨1, 0, w1, fun Q z => bMo_clears_124 (f2 := 0) (fun _ _ => mc) (fun _ _ c => absurd c y1) (fun _ _ _ => z) (fun _ c => absurd c y1) (fun c => absurd c nc) (fun c => absurd c nc) (fun c => absurd c nc) (fun c => absurd c nc), rfl, rfl, p3⟩
          · have nn : ¬ u.1 48 0 ≤ nI l := by rw [hCu.1.2.1]; exact nI_ge hl2 (by omega)
            have es : sh_mays L (l + 1) = (sh_mays L l && !(sg_mays L l == 0)) := rfl
            cases ha : (sh_all2 s k i 8 && sh_mays L l) with
            | false =>
              rw [es, ← Bool.and_assoc, ha, Bool.false_and] at ih
              obtain ⟨f, fl, w', hev, hp⟩ := ih
              refine ⟨f, fl, w', fun Q z => bMo_clears_124 (f1 := 0) (w1 := u) (f2 := 0) (fun c => absurd c nn) (fun c => absurd c nn) (fun c => absurd c nn) (fun c => absurd c nn) (fun _ _ => ?_) (fun _ c => absurd rfl c) (fun _ c => absurd rfl c) (fun _ c => absurd rfl c), hp⟩
              rw [nI_1]; exact hev Q z
            | true =>
              rw [es, ← Bool.and_assoc, ha, Bool.true_and] at ih
              obtain ⟨f, fl, w', hev, hp⟩ := ih
              have mm := spMo_mays (d := d) hCu.1 hl2
              have hlt := sg_mays_lt L l
              by_cases h00 : sg_mays L l = 0
              · rw [h00] at mm hev
                refine ⟨f, fl, w', fun Q z => bMo_clears_124 (f1 := 0) (w1 := u) (fun c => absurd c nn) (fun c => absurd c nn) (fun c => absurd c nn) (fun c => absurd c nn) (fun _ c => absurd c y1) (fun _ _ => mm) (fun _ _ _ => ?_) (fun _ _ c => absurd rfl c), hp⟩
                rw [nI_1]; exact hev Q z
              · have n0 : ¬ nI (sg_mays L l) = 0 := nI_ne0 (by omega) (by omega)
                rw [beq_eq_false_iff_ne.mpr h00] at hev
                refine ⟨f, fl, w', fun Q z => bMo_clears_124 (f1 := 0) (w1 := u) (fun c => absurd c nn) (fun c => absurd c nn) (fun c => absurd c nn) (fun c => absurd c nn) (fun _ c => absurd c y1) (fun _ _ => mm) (fun _ _ c => absurd c n0) (fun _ _ _ => ?_), hp⟩
                rw [nI_1]; exact hev Q z
        -- the items
        have loop : ∀ p, p ≤ 8 → ∀ u, sg_fr [54] w u → (sh_all2 s k i p = true → ∀ j, j < p → u.1 54 j = nI (sh_R s k i j)) → sx_xe (d + 3) rMo_clears 41 [.ref 48, .int (nI k), .null, .int (nI i), .null, .int (sz_b (sh_all2 s k i p)), .int (nI p)] u (fun f fl w' => f = (if sh_all2 s k i 8 && sh_mays L L.1 then sz_b (sg_clr L b (sh_R s k i)) else -2) ∧ fl = 0 ∧ sg_fr [53, 54] w w') := by
          refine sx_for 8 (fun u hf hu => ?_) (fun p hp ih u hf hu => ?_)
          · have nc : ¬ ¬ (8 : Int32) ≤ nI 8 := by decide
            obtain ⟨f, fl, w', hev, hpost⟩ := may u hf hu 0 (Nat.zero_le _)
            rw [show sh_mays L 0 = true from rfl, Bool.and_true] at hev
            exact ⟨f, fl, w', fun Q z => bMo_clears_41 (f1 := 0) (fun _ => hev Q z) (fun c => absurd c nc) (fun c => absurd c nc) (fun c => absurd c nc) (fun c => absurd c nc) (fun c => absurd c nc) (fun c => absurd c nc) (fun c => absurd c nc) (fun c => absurd c nc), hpost⟩
          · have nn : ¬ (8 : Int32) ≤ nI p := nI_ge (b := 8) hp (by omega)
            have hcp : (nI p).toNatClampNeg = p := nI_clamp (by omega)
            have v1 : vp_in (nI p) 8 := vp_in_nI hp (by decide)
            obtain ⟨f1, f2, f3⟩ := sh_163 (k := k) (i := i) (m := p) hk (by omega)
            have v2 : vp_in ((16 : Int32) * nI k + nI i + nI p) 64 := by rw [f1]; exact f3
            have e63 : u.2 63 ((16 : Int32) * nI k + nI i + nI p).toNatClampNeg = s.2.2 k (i + p) := by
              rw [f1, f2, (hf 63 (by decide)).2]; exact (hs.2 k hk).2.2 (i + p) (by omega)
            have fr2 : ∀ {v : Int32}, sg_fr [54] w (sx_u u.1 54 p v, u.2) := fun {v} => hf.trans (fun a ha => ⟨sx_u_o (fun e => ha (by rw [e]; decide)), rfl⟩)
            have es : sh_all2 s k i (p + 1) = (sh_all2 s k i p && decide (sh_v 2 (s.2.2 k (i + p)) ≤ 2)) := rfl
            cases ha : sh_all2 s k i p with
            | false =>
              obtain ⟨f, fl, w', hev, hpost⟩ := ih (sx_u u.1 54 p 0, u.2) fr2 (fun c => by rw [es, ha] at c; cases c)
              rw [es, ha, Bool.false_and] at hev
              refine ⟨f, fl, w', fun Q z => bMo_clears_41 (f1 := 0) (fun c => absurd c nn) (fun _ _ => v1) (fun _ _ => ?_) (fun _ c => absurd rfl c) (fun _ c => absurd rfl c) (fun _ c => absurd rfl c) (fun _ c => absurd rfl c) (fun _ c => absurd rfl c) (fun _ c => absurd rfl c), hpost⟩
              rw [hcp, nI_1]; exact hev Q z
            | true =>
              have mi := spMo_in (d := d + 2) (w := u) (x := s.2.2 k (i + p)) (y := (0 : Int64)) (z := lN 2)
              have ei : decide ((0 : Int64).toInt ≤ (s.2.2 k (i + p)).toInt ∧ (s.2.2 k (i + p)).toInt ≤ (lN 2).toInt) = decide (sh_v 2 (s.2.2 k (i + p)) ≤ 2) := decide_eq_decide.mpr (sh_v_in (by decide)).symm
              rw [ei, ← e63] at mi
              rw [e63] at mi
              by_cases hv : sh_v 2 (s.2.2 k (i + p)) ≤ 2
              · rw [decide_eq_true hv] at mi
                obtain ⟨f, fl, w', hev, hpost⟩ := ih (sx_u u.1 54 p (nI (sh_R s k i p)), u.2) fr2 (fun _ j hj => by
                  show sx_u u.1 54 p (nI (sh_R s k i p)) 54 j = _
                  rw [sx_u_s]
                  by_cases c : j = p
                  · rw [if_pos c, c]
                  · rw [if_neg c]; exact hu ha j (by omega))
                rw [es, ha, decide_eq_true hv, Bool.true_and] at hev
                refine ⟨f, fl, w', fun Q z => bMo_clears_41 (fun c => absurd c nn) (fun _ c => absurd c y1) (fun _ c => absurd c y1) (fun _ _ => v2) (fun _ _ => by rw [e63]; exact mi) (fun _ _ c => absurd c y1) (fun _ _ c => absurd c y1) (fun _ _ _ => v1) (fun _ _ _ => ?_), hpost⟩
                rw [e63, sh_v_I (by decide) hv, hcp, nI_1]; exact hev Q z
              · rw [decide_eq_false hv] at mi
                obtain ⟨f, fl, w', hev, hpost⟩ := ih (sx_u u.1 54 p 0, u.2) fr2 (fun c => by rw [es, decide_eq_false hv, Bool.and_false] at c; cases c)
                rw [es, decide_eq_false hv, Bool.and_false] at hev
                refine ⟨f, fl, w', fun Q z => bMo_clears_41 (fun c => absurd c nn) (fun _ c => absurd c y1) (fun _ c => absurd c y1) (fun _ _ => v2) (fun _ _ => by rw [e63]; exact mi) (fun _ _ _ => v1) (fun _ _ _ => ?_) (fun _ _ c => absurd rfl c) (fun _ _ c => absurd rfl c), hpost⟩
                rw [hcp, nI_1]; exact hev Q z
        obtain ⟨f, fl, w', hev, hp⟩ := loop 0 (by omega) w sg_fr.rfl' (fun _ j hj => by omega)
        exact ⟨f, fl, w', fun Q z => sx_met_of rfl rfl rfl rfl (bMo_clears_0 m1 (fun c => absurd c y1) (fun _ => m2) (fun _ _ => m3) (fun _ _ _ => hev Q z) (fun _ _ c => absurd p0 c) (fun _ c => absurd c y1)), hp⟩
      · rw [if_neg h0]
        have p0 : ¬ 0 ≤ sh_rf s k x2 x3 (nI 8) := fun c => h0 (sh_rf_neg.mp c)
        exact ⟨_, 0, w, fun Q z => sx_met_of rfl rfl rfl rfl (bMo_clears_0 m1 (fun c => absurd c y1) (fun _ => m2) (fun _ _ => m3) (fun _ _ c => absurd c p0) (fun _ _ _ => z) (fun _ c => absurd c y1)), rfl, rfl, sg_fr.rfl'⟩
end
