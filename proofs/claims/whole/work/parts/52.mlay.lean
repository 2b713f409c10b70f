/-! ===== lay, the model ===== -/
section
variable {d : Nat} {w : sx_W} {s : sh_T} {L : sg_L} {b : Nat} {r : Nat → Nat}
/-- what laying leaves in the model -/
def sg_mtell (L : sg_L) (b : Nat) (q : Nat → Nat) (w w' : sx_W) : Prop := sg_Mo L b true q w' ∧ sg_fr [48, 52] w w' ∧ ∀ j, j ≠ 5 → w'.1 48 j = w.1 48 j
theorem spMo_lay {x1 x2 x3 : Int32} {t : Bool} (hs : sh_M s w) (h : sg_Mo L b t r w) : sx_x (d + 4) rMo_lay [.ref 48, .int x1, .int x2, .int x3] w (fun f fl w' => f = sh_lay s L b x1 x2 x3 ∧ fl = 0 ∧ (sh_laid s L x1 x2 x3 = false → w' = w) ∧ (sh_laid s L x1 x2 x3 = true → sg_mtell L b (sh_row s x1.toNatClampNeg x3.toNatClampNeg) w w')) := by
  have h7 := h.1.1.1
  have m1 := spMo_isSheet (d := d + 2) (w := w) (x := x1)
  have m2 := spMo_isLane (d := d + 2) (w := w) (x := x2)
  have y1 : ¬ sz_b true = 0 := by decide
  unfold sh_lay sh_laid
  cases h1 : sz_in x1 4 with
  | false =>
    rw [h1] at m1
    exact ⟨-1, 0, w, fun Q z => sx_met_of rfl rfl rfl rfl (bMo_lay_0 (f2 := 0) (f3 := 0) m1 (fun _ => z) (fun c => absurd rfl c) (fun c => absurd rfl c) (fun c => absurd rfl c) (fun c => absurd rfl c) (fun c => absurd rfl c) (fun c => absurd rfl c)), rfl, rfl, fun _ => rfl, fun c => absurd c Bool.false_ne_true⟩
  | true =>
    rw [h1] at m1
    cases h2 : sz_in x2 3 with
    | false =>
      rw [h2] at m2
      exact ⟨-1, 0, w, fun Q z => sx_met_of rfl rfl rfl rfl (bMo_lay_0 (f3 := 0) m1 (fun c => absurd c y1) (fun _ => m2) (fun _ c => absurd rfl c) (fun _ c => absurd rfl c) (fun _ c => absurd rfl c) (fun _ c => absurd rfl c) (fun _ _ => z)), rfl, rfl, fun _ => rfl, fun c => absurd c Bool.false_ne_true⟩
    | true =>
      rw [h2] at m2
      rw [if_pos (show (true && true) = true from rfl), show (true && true) = true from rfl, Bool.true_and]
      obtain ⟨k, hk, rfl⟩ := sz_in_of h1 (by decide)
      have hck : (nI k).toNatClampNeg = k := nI_clamp (by omega)
      have m3 := spMo_why (d := d + 3) (x2 := x2) (x3 := x3) (n := nI L.1) hs hk (by rw [nI_toInt (by omega)]; omega)
      rw [hck]
      by_cases h0 : sh_rf s k x2 x3 (nI L.1) = 0
      · rw [if_pos h0, decide_eq_true h0, Bool.true_and]
        have p0 : 0 ≤ sh_rf s k x2 x3 (nI L.1) := sh_rf_neg.mpr h0
        obtain ⟨hl, -, i, m, rfl, e1, him⟩ := sh_rf_0 hs.1 hk h0
        have hz := (hs.1 k hk).2
        have hm : L.1 = m := (nI_eq (by omega) (by omega)).mp e1
        rw [nI_clamp (show i < 2 ^ 31 by omega)]
        have e63 : ∀ l, l < L.1 → ∀ u : sx_W, u.2 = w.2 → u.2 63 ((16 : Int32) * nI k + nI i + nI l).toNatClampNeg = s.2.2 k (i + l) ∧ vp_in ((16 : Int32) * nI k + nI i + nI l) 64 := fun l hl2 u hu => by
          obtain ⟨f1, f2, f3⟩ := sh_163 (k := k) (i := i) (m := l) hk (by omega)
          rw [f1, f2, hu]
          exact ⟨(hs.2 k hk).2.2 (i + l) (by omega), f3⟩
        -- the row is put
        have put : sz_all (fun l => decide (sh_v 7 (s.2.2 k (i + l)) ≤ 7)) L.1 = true → ∀ l, l ≤ L.1 → ∀ u, sg_fr [52] w u → u.2 = w.2 → (∀ j, j < l → u.1 52 j = nI (sh_row s k i j)) → sx_xe (d + 4) rMo_lay 112 [.ref 48, .int (nI k), .null, .int (nI i), .null, .null, .int (nI l)] u (fun f fl w' => f = sz_b (sg_good L b (sh_row s k i)) ∧ fl = 0 ∧ sg_mtell L b (sh_row s k i) w w') := by
          intro ha
          refine sx_for L.1 (fun u hf hu2 hu => ?_) (fun l hl2 ih u hf hu2 hu => ?_)
          · have hM : sg_M L u := h.1.fr hf (by decide) (by decide) (by decide) (by decide)
            have c : u.1 48 0 ≤ nI L.1 := by rw [hM.2.1]; exact nI_le (Nat.le_refl _) (by omega)
            have nc : ¬ ¬ u.1 48 0 ≤ nI L.1 := fun x => x c
            have e48 : ∀ j, j ≠ 5 → sx_u u.1 48 5 1 48 j = w.1 48 j := fun j hj => by rw [sx_u_s, if_neg hj, (hf 48 (by decide)).1]
            have fr2 : sg_fr [48, 52] w (sx_u u.1 48 5 1, u.2) := (hf.mono (by decide)).trans (fun a ha2 => ⟨sx_u_o (fun e => ha2 (by rw [e]; decide)), rfl⟩)
            have hMo : sg_Mo L b true (sh_row s k i) (sx_u u.1 48 5 1, u.2) := by
              refine ⟨⟨h.1.1, ?_, fun j hj => ?_⟩, ?_, h.2.2.1, ?_, fun _ j hj => ?_⟩
              · show sx_u u.1 48 5 1 48 0 = _
                rw [e48 0 (by decide)]; exact h.1.2.1
              · rw [(fr2 49 (by decide)).1, (fr2 50 (by decide)).1, (fr2 51 (by decide)).1]; exact h.1.2.2 j hj
              · show sx_u u.1 48 5 1 48 6 = _
                rw [e48 6 (by decide)]; exact h.2.1
              · show sx_u u.1 48 5 1 48 5 = _
                rw [sx_u_s, if_pos rfl]; rfl
              · show sx_u u.1 48 5 1 52 j = _ ∧ _
                rw [sx_u_o (by decide)]
                have hv : sh_row s k i j ≤ 7 := of_decide_eq_true (sz_all_iff.mp ha j hj)
                exact ⟨hu j hj, by omega⟩
            have mg := spMo_isGood' (d := d) hMo
            rw [Bool.true_and] at mg
            cases hg : sg_good L b (sh_row s k i) with
            | false =>
              rw [hg] at mg
              exact ⟨0, 0, _, fun Q z => bMo_lay_112 (fun _ => mg) (fun _ _ => z) (fun _ c => absurd rfl c) (fun c => absurd c nc) (fun c => absurd c nc) (fun c => absurd c nc), rfl, rfl, hMo, fr2, e48⟩
            | true =>
              rw [hg] at mg
              exact ⟨1, 0, _, fun Q z => bMo_lay_112 (fun _ => mg) (fun _ c => absurd c y1) (fun _ _ => z) (fun c => absurd c nc) (fun c => absurd c nc) (fun c => absurd c nc), rfl, rfl, hMo, fr2, e48⟩
          · have hM : sg_M L u := h.1.fr hf (by decide) (by decide) (by decide) (by decide)
            have nn : ¬ u.1 48 0 ≤ nI l := by rw [hM.2.1]; exact nI_ge hl2 (by omega)
            have hcl : (nI l).toNatClampNeg = l := nI_clamp (by omega)
            obtain ⟨g1, g2⟩ := e63 l hl2 u hu2
            have hv : sh_row s k i l ≤ 7 := of_decide_eq_true (sz_all_iff.mp ha l hl2)
            obtain ⟨f, fl, w', hev, hp⟩ := ih (sx_u u.1 52 l (nI (sh_row s k i l)), u.2) (hf.trans (fun a ha2 => ⟨sx_u_o (fun e => ha2 (by rw [e]; decide)), rfl⟩)) hu2 (fun j hj => by
              show sx_u u.1 52 l (nI (sh_row s k i l)) 52 j = _
              rw [sx_u_s]
              by_cases c : j = l
              · rw [if_pos c, c]
              · rw [if_neg c]; exact hu j (by omega))
            refine ⟨f, fl, w', fun Q z => bMo_lay_112 (f1 := 0) (fun c => absurd c nn) (fun c => absurd c nn) (fun c => absurd c nn) (fun _ => g2) (fun _ => vp_in_nI (by omega) (by decide)) (fun _ => ?_), hp⟩
            rw [g1, sh_v_I (by decide) hv, hcl, nI_1]; exact hev Q z
        -- the items are looked at
        have look : ∀ l, l ≤ L.1 → sx_xe (d + 4) rMo_lay 54 [.ref 48, .int (nI k), .null, .int (nI i), .null, .int (sz_b (!(L.1 == 0) && sz_all (fun l => decide (sh_v 7 (s.2.2 k (i + l)) ≤ 7)) l)), .int (nI l)] w (fun f fl w' => f = (if !(L.1 == 0) && sz_all (fun l => decide (sh_v 7 (s.2.2 k (i + l)) ≤ 7)) L.1 then sz_b (sg_good L b (sh_row s k i)) else -2) ∧ fl = 0 ∧ ((!(L.1 == 0) && sz_all (fun l => decide (sh_v 7 (s.2.2 k (i + l)) ≤ 7)) L.1) = false → w' = w) ∧ ((!(L.1 == 0) && sz_all (fun l => decide (sh_v 7 (s.2.2 k (i + l)) ≤ 7)) L.1) = true → sg_mtell L b (sh_row s k i) w w')) := by
          refine sx_for L.1 ?_ (fun l hl2 ih => ?_)
          · have c : w.1 48 0 ≤ nI L.1 := by rw [h.1.2.1]; exact nI_le (Nat.le_refl _) (by omega)
            have nc : ¬ ¬ w.1 48 0 ≤ nI L.1 := fun x => x c
            cases ha : (!(L.1 == 0) && sz_all (fun l => decide (sh_v 7 (s.2.2 k (i + l)) ≤ 7)) L.1) with
            | false =>
              exact ⟨-2, 0, w, fun Q z => bMo_lay_54 (f1 := 0) (fun _ c => absurd rfl c) (fun _ _ => z) (fun c => absurd c nc) (fun c => absurd c nc) (fun c => absurd c nc) (fun c => absurd c nc) (fun c => absurd c nc), rfl, rfl, fun _ => rfl, fun c => absurd c Bool.false_ne_true⟩
            | true =>
              rw [Bool.and_eq_true] at ha
              obtain ⟨f, fl, w', hev, q1, q2, q3⟩ := put ha.2 0 (Nat.zero_le _) w sg_fr.rfl' rfl (fun j hj => by omega)
              exact ⟨f, fl, w', fun Q z => bMo_lay_54 (f1 := 0) (fun _ _ => hev Q z) (fun _ c => absurd c y1) (fun c => absurd c nc) (fun c => absurd c nc) (fun c => absurd c nc) (fun c => absurd c nc) (fun c => absurd c nc), q1, q2, fun c => absurd c.symm Bool.false_ne_true, fun _ => q3⟩
          · have nn : ¬ w.1 48 0 ≤ nI l := by rw [h.1.2.1]; exact nI_ge hl2 (by omega)
            obtain ⟨g1, g2⟩ := e63 l hl2 w rfl
            rw [sz_all, ← Bool.and_assoc] at ih
            cases ha : (!(L.1 == 0) && sz_all (fun l => decide (sh_v 7 (s.2.2 k (i + l)) ≤ 7)) l) with
            | false =>
              rw [ha, Bool.false_and] at ih
              obtain ⟨f, fl, w', hev, hp⟩ := ih
              refine ⟨f, fl, w', fun Q z => bMo_lay_54 (f1 := 0) (fun c => absurd c nn) (fun c => absurd c nn) (fun _ _ => ?_) (fun _ c => absurd rfl c) (fun _ c => absurd rfl c) (fun _ c => absurd rfl c) (fun _ c => absurd rfl c), hp⟩
              rw [nI_1]; exact hev Q z
            | true =>
              rw [ha, Bool.true_and] at ih
              obtain ⟨f, fl, w', hev, hp⟩ := ih
              have mp := sh_isPart (d := d + 2) (w := w) (y := s.2.2 k (i + l))
              by_cases hv : sh_v 7 (s.2.2 k (i + l)) ≤ 7
              · rw [decide_eq_true hv] at mp hev
                refine ⟨f, fl, w', fun Q z => bMo_lay_54 (f1 := sz_b true) (fun c => absurd c nn) (fun c => absurd c nn) (fun _ c => absurd c y1) (fun _ _ => g2) (fun _ _ => by rw [g1]; exact mp) (fun _ _ c => absurd c y1) (fun _ _ _ => ?_), hp⟩
                rw [nI_1]; exact hev Q z
              · rw [decide_eq_false hv] at mp hev
                refine ⟨f, fl, w', fun Q z => bMo_lay_54 (f1 := sz_b false) (fun c => absurd c nn) (fun c => absurd c nn) (fun _ c => absurd c y1) (fun _ _ => g2) (fun _ _ => by rw [g1]; exact mp) (fun _ _ _ => ?_) (fun _ _ c => absurd rfl c), hp⟩
                rw [nI_1]; exact hev Q z
        obtain ⟨f, fl, w', hev, hp⟩ := look 0 (Nat.zero_le _)
        rw [show sz_all (fun l => decide (sh_v 7 (s.2.2 k (i + l)) ≤ 7)) 0 = true from rfl, Bool.and_true] at hev
        by_cases hL0 : L.1 = 0
        · have c0 : w.1 48 0 ≤ 0 := by rw [h.1.2.1, hL0]; decide
          have hev' : ∀ Q : sx_Q, Q f fl w' → sx_ev (d + 4) rMo_lay 54 [.ref 48, .int (nI k), .null, .int (nI i), .null, .int 0, .int 0] [] w Q := fun Q z => by
            have := hev Q z
            rw [hL0] at this
            exact this
          exact ⟨f, fl, w', fun Q z => sx_met_of rfl rfl rfl rfl (bMo_lay_0 m1 (fun c => absurd c y1) (fun _ => m2) (fun _ _ => by rw [h.1.2.1]; exact m3) (fun _ _ _ _ => hev' Q z) (fun _ _ _ c => absurd c0 c) (fun _ _ c => absurd p0 c) (fun _ c => absurd c y1)), hp⟩
        · have c0 : ¬ w.1 48 0 ≤ 0 := by rw [h.1.2.1]; exact nI_ge (a := 0) (by omega) (by omega)
          rw [beq_eq_false_iff_ne.mpr hL0] at hev
          exact ⟨f, fl, w', fun Q z => sx_met_of rfl rfl rfl rfl (bMo_lay_0 m1 (fun c => absurd c y1) (fun _ => m2) (fun _ _ => by rw [h.1.2.1]; exact m3) (fun _ _ _ c => absurd c c0) (fun _ _ _ _ => hev Q z) (fun _ _ c => absurd p0 c) (fun _ c => absurd c y1)), hp⟩
      · rw [if_neg h0, decide_eq_false h0]
        have p0 : ¬ 0 ≤ sh_rf s k x2 x3 (nI L.1) := fun c => h0 (sh_rf_neg.mp c)
        exact ⟨_, 0, w, fun Q z => sx_met_of rfl rfl rfl rfl (bMo_lay_0 m1 (fun c => absurd c y1) (fun _ => m2) (fun _ _ => by rw [h.1.2.1]; exact m3) (fun _ _ c => absurd c p0) (fun _ _ c => absurd c p0) (fun _ _ _ => z) (fun _ c => absurd c y1)), rfl, rfl, fun _ => rfl, fun c => absurd c Bool.false_ne_true⟩
end
