/-! ===== the class's Night: the illness ===== -/
section
variable {d : Nat} {w : sx_W} {L : sg_L} {b : Nat} {r : Nat → Nat}
theorem na_RS_same {k day : Int32} {S : na_S} {l x : Nat} {u : sx_W} (h7 : L.1 ≤ 7) (hl : l < L.1) (h : na_RS L S u) (hn : ¬ na_get k day S l x) : na_RS L (na_stp k day S (l, x)) (sx_u u.1 31 x (nI l), u.2) := by
  refine ⟨fun y hy => ?_, fun j hj => ?_⟩
  · show sx_u u.1 31 x (nI l) 31 y = na_bI (sg_up S.1 x l y)
    rw [sx_u_s]
    by_cases e : y = x
    · rw [if_pos e, e, sg_up_s, na_bI, if_pos (by omega)]
    · rw [if_neg e, sg_up_o e]; exact h.1 y hy
  · show sx_u u.1 31 x (nI l) 32 j = (if na_get k day S l x then (fun i => if i = l then day else S.2.1 i) else S.2.1) j
    rw [sx_u_o (by decide), if_neg hn]; exact h.2 j hj
theorem na_RS_got {k day : Int32} {S : na_S} {l x : Nat} {u : sx_W} (h7 : L.1 ≤ 7) (hl : l < L.1) (h : na_RS L S u) (hn : na_get k day S l x) : na_RS L (na_stp k day S (l, x)) (sx_u (sx_u u.1 32 l day) 31 x (nI l), u.2) := by
  refine ⟨fun y hy => ?_, fun j hj => ?_⟩
  · show sx_u (sx_u u.1 32 l day) 31 x (nI l) 31 y = na_bI (sg_up S.1 x l y)
    rw [sx_u_s]
    by_cases e : y = x
    · rw [if_pos e, e, sg_up_s, na_bI, if_pos (by omega)]
    · rw [if_neg e, sg_up_o e, sx_u_o (by decide)]; exact h.1 y hy
  · show sx_u (sx_u u.1 32 l day) 31 x (nI l) 32 j = (if na_get k day S l x then (fun i => if i = l then day else S.2.1 i) else S.2.1) j
    rw [sx_u_o (by decide), sx_u_s, if_pos hn]
    show _ = if j = l then day else S.2.1 j
    by_cases e : j = l
    · rw [if_pos e, if_pos e]
    · rw [if_neg e, if_neg e]; exact h.2 j hj
theorem spNi_spread {n : Nat} {P : (Nat → Nat) × (Nat → Int32)} (h7 : L.1 ≤ 7) (hcap : ∀ p, p < 8 → fb_ct (fun l => na_as L r l p) L.1 ≤ 7) (hN : na_NS L r w) (hd : ¬ nI n < 0) (hv : na_vS L.1 (P.1, P.2, 0)) (hR : na_RS L (P.1, P.2, 0) w) : sx_x (d + 1) rNi_spread [.ref 27, .int (nI n)] w (fun f fl w' => f = 0 ∧ fl = 0 ∧ na_RS L ((na_day L r (w.1 1 6) n P).1, (na_day L r (w.1 1 6) n P).2, 0) w' ∧ sg_fr [31, 32] w w') := by
  have hDl : (na_D L r 8).length ≤ 56 := na_D_len h7 8
  have loop : ∀ i, i ≤ (na_D L r 8).length → ∀ u, sg_fr [31, 32] w u → na_RS L (na_fold (w.1 1 6) (nI n) ((na_D L r 8).take i) (P.1, P.2, 0)) u → sx_xe (d + 1) rNi_spread 2 [.ref 27, .int (nI n), .int (nI i), .null, .null] u (fun f fl w' => f = 0 ∧ fl = 0 ∧ na_RS L ((na_day L r (w.1 1 6) n P).1, (na_day L r (w.1 1 6) n P).2, 0) w' ∧ sg_fr [31, 32] w w') := by
    refine sx_for (na_D L r 8).length (fun u hfu hu => ?_) (fun i hi ih u hfu hu => ?_)
    · have hNu := hN.fr hfu (by decide)
      have nc : ¬ ¬ u.1 27 4 ≤ nI (na_D L r 8).length := fun c => c (by rw [hNu.2.1]; exact nI_le (Nat.le_refl _) (by omega))
      rw [List.take_length] at hu
      exact ⟨0, 0, u, fun Q z => bNi_spread_2 (f1 := 0) (fun _ => z) (fun c => absurd c nc) (fun c => absurd c nc) (fun c => absurd c nc) (fun c => absurd c nc) (fun c => absurd c nc) (fun c => absurd c nc) (fun c => absurd c nc) (fun c => absurd c nc), rfl, rfl, hu, hfu⟩
    · have hNu := hN.fr hfu (by decide)
      have nn : ¬ u.1 27 4 ≤ nI i := by rw [hNu.2.1]; exact nI_ge hi (by omega)
      have hc : (nI i).toNatClampNeg = i := nI_clamp (by omega)
      have hvi : na_vS L.1 (na_fold (w.1 1 6) (nI n) ((na_D L r 8).take i) (P.1, P.2, 0)) := na_vS_fold hd _ _ (fun e he => (na_D_mem hcap (Nat.le_refl 8) (l := e.1) (x := e.2) (List.mem_of_mem_take he)).1) hv
      obtain ⟨⟨l, x⟩, hlx⟩ : ∃ e, (na_D L r 8)[i]? = some e := ⟨(na_D L r 8)[i], List.getElem?_eq_getElem hi⟩
      obtain ⟨c2, c1⟩ := hNu.2.2 i l x hlx
      obtain ⟨hl, hx⟩ := na_D_mem hcap (Nat.le_refl 8) (List.mem_of_getElem? hlx)
      have c3 : (nI x).toNatClampNeg = x := nI_clamp (by omega)
      have c4 : (nI l).toNatClampNeg = l := nI_clamp (by omega)
      rw [na_fold_take _ _ _ _ hlx] at ih
      generalize na_fold (w.1 1 6) (nI n) ((na_D L r 8).take i) (P.1, P.2, 0) = S at *
      have k6 : u.1 1 6 = w.1 1 6 := by rw [(hfu 1 (by decide)).1]
      have same : ¬ na_get (w.1 1 6) (nI n) S l x → sx_xe (d + 1) rNi_spread 2 [.ref 27, .int (nI n), .int (nI i + 1), .null, .null] (sx_u u.1 31 x (nI l), u.2) (fun f fl w' => f = 0 ∧ fl = 0 ∧ na_RS L ((na_day L r (w.1 1 6) n P).1, (na_day L r (w.1 1 6) n P).2, 0) w' ∧ sg_fr [31, 32] w w') := fun hn => by
        rw [nI_1]
        exact ih _ (hfu.trans (fun a ha => ⟨sx_u_o (fun e => ha (by rw [e]; decide)), rfl⟩)) (na_RS_same h7 hl hu hn)
      have v1 : vp_in (nI i) 56 := vp_in_nI (by omega) (by decide)
      have v2 : vp_in (nI x) 7 := vp_in_nI hx (by decide)
      have v3 : vp_in (nI l) 7 := vp_in_nI (by omega) (by decide)
      by_cases g1 : S.2.1 l = (-1 : Int32)
      · have g1' : u.1 32 l = (-1 : Int32) := by rw [hu.2 l hl]; exact g1
        by_cases g2 : S.1 x < 7
        · have hax : S.1 x < L.1 := by rcases hvi.1 x with q | q <;> omega
          have g2' : u.1 31 x = nI (S.1 x) := by rw [hu.1 x hx, na_bI, if_pos g2]
          have g3 : ¬ u.1 31 x = (-1 : Int32) := by rw [hu.1 x hx, na_bI_m1, Classical.not_not]; exact g2
          have hh := spNi_hasIt (d := d) (w := u) (x := nI n) g2
          rw [hu.2 _ hax, k6] at hh
          by_cases g4 : na_get (w.1 1 6) (nI n) S l x
          · have e1 : (!decide (S.2.1 (S.1 x) = (-1 : Int32)) && !decide (S.2.1 (S.1 x) + w.1 1 6 < nI n)) = true := by
              rw [decide_eq_false g4.2.2.1, decide_eq_false g4.2.2.2]; rfl
            rw [e1] at hh
            obtain ⟨f, fl, w', hev, hp⟩ := ih (sx_u (sx_u u.1 32 l (nI n)) 31 x (nI l), u.2) (hfu.trans (fun a ha => ⟨by
              simp only [List.mem_cons, List.not_mem_nil, or_false, not_or] at ha
              show sx_u (sx_u u.1 32 l (nI n)) 31 x (nI l) a = u.1 a
              rw [sx_u_o ha.1, sx_u_o ha.2], rfl⟩)) (na_RS_got h7 hl hu g4)
            refine ⟨f, fl, w', fun Q z => bNi_spread_2 (f1 := sz_b true) (fun c => absurd c nn) (fun _ => v1) (fun _ => by rw [hc, c1]; exact v2) (fun _ => by rw [hc, c2]; exact v3) (fun _ c => absurd (by rw [hc, c2, c4]; exact g1') c) (fun _ _ c => absurd (by rw [hc, c1, c3] at c; exact c) g3) (fun _ _ _ => by rw [hc, c1, c3, g2']; exact hh) (fun _ _ _ c => absurd c (by decide)) (fun _ _ _ _ => ?_), hp⟩
            rw [hc, c1, c2, c3, c4, nI_1]; exact hev Q z
          · have e1 : (!decide (S.2.1 (S.1 x) = (-1 : Int32)) && !decide (S.2.1 (S.1 x) + w.1 1 6 < nI n)) = false := by
              cases e : (!decide (S.2.1 (S.1 x) = (-1 : Int32)) && !decide (S.2.1 (S.1 x) + w.1 1 6 < nI n)) with
              | false => rfl
              | true =>
                exfalso; apply g4
                simp only [Bool.and_eq_true, Bool.not_eq_true', decide_eq_false_iff_not] at e
                exact ⟨g2, g1, e.1, e.2⟩
            rw [e1] at hh
            obtain ⟨f, fl, w', hev, hp⟩ := same g4
            refine ⟨f, fl, w', fun Q z => bNi_spread_2 (f1 := sz_b false) (fun c => absurd c nn) (fun _ => v1) (fun _ => by rw [hc, c1]; exact v2) (fun _ => by rw [hc, c2]; exact v3) (fun _ c => absurd (by rw [hc, c2, c4]; exact g1') c) (fun _ _ c => absurd (by rw [hc, c1, c3] at c; exact c) g3) (fun _ _ _ => by rw [hc, c1, c3, g2']; exact hh) (fun _ _ _ _ => ?_) (fun _ _ _ c => absurd rfl c), hp⟩
            rw [hc, c1, c2, c3]; exact hev Q z
        · have g3 : u.1 31 x = (-1 : Int32) := by rw [hu.1 x hx, na_bI_m1]; exact g2
          obtain ⟨f, fl, w', hev, hp⟩ := same (fun k => g2 k.1)
          refine ⟨f, fl, w', fun Q z => bNi_spread_2 (f1 := 0) (fun c => absurd c nn) (fun _ => v1) (fun _ => by rw [hc, c1]; exact v2) (fun _ => by rw [hc, c2]; exact v3) (fun _ c => absurd (by rw [hc, c2, c4]; exact g1') c) (fun _ _ _ => ?_) (fun _ _ c => absurd (by rw [hc, c1, c3]; exact g3) c) (fun _ _ c => absurd (by rw [hc, c1, c3]; exact g3) c) (fun _ _ c => absurd (by rw [hc, c1, c3]; exact g3) c), hp⟩
          rw [hc, c1, c2, c3]; exact hev Q z
      · have g1' : ¬ u.1 32 l = (-1 : Int32) := by rw [hu.2 l hl]; exact g1
        obtain ⟨f, fl, w', hev, hp⟩ := same (fun k => g1 k.2.1)
        have nx : ¬ u.1 32 (u.1 29 (nI i).toNatClampNeg).toNatClampNeg = (-1 : Int32) := by rw [hc, c2, c4]; exact g1'
        refine ⟨f, fl, w', fun Q z => bNi_spread_2 (f1 := 0) (fun c => absurd c nn) (fun _ => v1) (fun _ => by rw [hc, c1]; exact v2) (fun _ => by rw [hc, c2]; exact v3) (fun _ _ => ?_) (fun _ c => absurd c nx) (fun _ c => absurd c nx) (fun _ c => absurd c nx) (fun _ c => absurd c nx), hp⟩
        rw [hc, c1, c2, c3]; exact hev Q z
  obtain ⟨f, fl, w', hev, hp⟩ := loop 0 (Nat.zero_le _) w sg_fr.rfl' hR
  exact ⟨f, fl, w', fun Q z => sx_met_of rfl rfl rfl rfl (bNi_spread_0 (hev Q z)), hp⟩
theorem na_vS_run (hcap : ∀ p, p < 8 → fb_ct (fun l => na_as L r l p) L.1 ≤ 7) {k : Int32} {s : Nat} : ∀ n, n ≤ 30 → na_vS L.1 ((na_run L r k s n).1, (na_run L r k s n).2, 0)
  | 0, _ => ⟨fun _ => Or.inr rfl, fun l => by
      show na_g0 s l = _ ∨ ¬ na_g0 s l < 0
      unfold na_g0
      split
      · exact Or.inr (by decide)
      · exact Or.inl rfl⟩
  | n + 1, hn => by
    have ih := na_vS_run hcap (k := k) (s := s) n (by omega)
    have := na_vS_fold (n := L.1) (k := k) (day := nI (n + 1)) (nI_pos (by omega)) (na_D L r 8) _ (fun e he => (na_D_mem hcap (Nat.le_refl 8) (l := e.1) (x := e.2) he).1) ih
    exact ⟨this.1, this.2⟩
theorem spNi_sickAfter {s n : Nat} (h : sg_Co L b r w) (hcap : ∀ p, p < 8 → fb_ct (fun l => na_as L r l p) L.1 ≤ 7) (hk : w.1 27 5 = w.1 1 8 → na_NS L r w) (hs : s < 2 ^ 31) (hn : n ≤ 30) : sx_x (d + 4) rNi_sickAfter [.ref 27, .int (nI s), .int (nI n)] w (fun f fl w' => f = nI (na_sick L r (w.1 1 6) s n) ∧ fl = 0 ∧ na_NS L r w' ∧ w'.1 27 5 = w.1 1 8 ∧ sg_fr [27, 28, 29, 30, 31, 32] w w') := by
  have h7 := h.1.1.1
  obtain ⟨f, fl, w1, hs1, rfl, rfl, hN, ha, hf⟩ := spNi_settle (d := d) h hcap hk
  obtain ⟨f, fl, w2, hs2, rfl, rfl, h31, hf2⟩ := spNi_stripBeds (d := d + 3) (w := w1)
  have hN2 := hN.fr hf2 (by decide)
  have hF2 : sg_fr [27, 28, 29, 30, 31, 32] w w2 := (hf.mono (by decide)).trans (hf2.mono (by decide))
  have hC2 := h.fr hF2 (by decide)
  have fr2 : ∀ {u : sx_W}, sg_fr [31, 32] w2 u → sg_fr [27, 28, 29, 30, 31, 32] w u := fun hu => hF2.trans (hu.mono (by decide))
  generalize hk6 : w.1 1 6 = k at *
  have hk62 : w2.1 1 6 = k := by rw [(hF2 1 (by decide)).1]; exact hk6
  -- who is ill at the end
  have last : ∀ u, sg_fr [31, 32] w2 u → na_RS L ((na_run L r k s n).1, (na_run L r k s n).2, 0) u → ∀ l, l ≤ L.1 → ∀ Q : sx_Q, Q (nI (na_sick L r k s n)) 0 u → sx_ev (d + 4) rNi_sickAfter 69 [.ref 27, .null, .int (nI n), .int (nI (na_bits (na_ill k n (na_run L r k s n).2) l)), .int (nI l)] [] u Q := by
    intro u hfu hR
    have hCu := hC2.fr hfu (by decide)
    have hu6 : u.1 1 6 = k := by rw [(hfu 1 (by decide)).1]; exact hk62
    refine sx_for L.1 (fun Q z => ?_) (fun l hl ih Q z => ?_)
    · have nc : ¬ ¬ u.1 1 4 ≤ nI L.1 := fun c => c (by rw [hCu.1.2.1]; exact nI_le (Nat.le_refl _) (by omega))
      exact bNi_sickAfter_69 (f1 := 0) (fun _ => z) (fun c => absurd c nc) (fun c => absurd c nc) (fun c => absurd c nc)
    · have nn : ¬ u.1 1 4 ≤ nI l := by rw [hCu.1.2.1]; exact nI_ge hl (by omega)
      have hh := spNi_hasIt (d := d + 3) (w := u) (x := nI n) (show l < 7 by omega)
      rw [hR.2 l hl, hu6] at hh
      have hb := na_bits_I (na_ill k n (na_run L r k s n).2) (show l < 8 by omega)
      have hh2 : sx_de (d + 3) rNi_hasIt [.ref 27, .int (nI l), .int (nI n)] u (sz_b (na_ill k n (na_run L r k s n).2 l)) 0 u := hh
      cases e : na_ill k n (na_run L r k s n).2 l with
      | true =>
        rw [e] at hh2 hb
        rw [if_pos rfl] at hb
        refine bNi_sickAfter_69 (fun c => absurd c nn) (fun _ => hh2) (fun _ c => absurd c (by decide)) (fun _ _ => ?_)
        rw [hb, nI_1]; exact ih Q z
      | false =>
        rw [e] at hh2 hb
        rw [if_neg Bool.false_ne_true] at hb
        refine bNi_sickAfter_69 (fun c => absurd c nn) (fun _ => hh2) (fun _ _ => ?_) (fun _ c => absurd rfl c)
        rw [hb, nI_1]; exact ih Q z
  -- the days
  have days : ∀ i, i ≤ n → ∀ u, sg_fr [31, 32] w2 u → na_RS L ((na_run L r k s i).1, (na_run L r k s i).2, 0) u → sx_xe (d + 4) rNi_sickAfter 48 [.ref 27, .null, .int (nI n), .int (nI (i + 1)), .null] u (fun f fl w' => f = nI (na_sick L r k s n) ∧ fl = 0 ∧ sg_fr [31, 32] w2 w') := by
    refine sx_for n (fun u hfu hR => ?_) (fun i hi ih u hfu hR => ?_)
    · have c : nI n < nI (n + 1) := by rw [nI_ltI (by omega) (by omega)]; omega
      exact ⟨_, 0, u, fun Q z => bNi_sickAfter_48 (w1 := u) (fun _ => last u hfu hR 0 (Nat.zero_le _) Q z) (fun x => absurd c x) (fun x => absurd c x), rfl, rfl, hfu⟩
    · have c : ¬ nI n < nI (i + 1) := by rw [nI_ltI (by omega) (by omega)]; omega
      have hu6 : u.1 1 6 = k := by rw [(hfu 1 (by decide)).1]; exact hk62
      obtain ⟨f, fl, u1, hsp, rfl, rfl, hR1, hf1⟩ := spNi_spread (d := d + 2) (n := i + 1) (P := na_run L r k s i) h7 hcap (hN2.fr hfu (by decide)) (nI_pos (by omega)) (na_vS_run hcap i (by omega)) hR
      rw [hu6] at hR1
      obtain ⟨f, fl, w', hev, hp⟩ := ih u1 (hfu.trans hf1) hR1
      refine ⟨f, fl, w', fun Q z => bNi_sickAfter_48 (fun x => absurd x c) (fun _ => hsp) (fun _ => ?_), hp⟩
      rw [nI_1]; exact hev Q z
  -- who brings it
  have first : ∀ l, l ≤ L.1 → ∀ u, sg_fr [32] w2 u → (∀ j, j < l → u.1 32 j = na_g0 s j) → sx_xe (d + 4) rNi_sickAfter 10 [.ref 27, .int (nI s), .int (nI n), .int (nI l), .null] u (fun f fl w' => f = nI (na_sick L r k s n) ∧ fl = 0 ∧ sg_fr [31, 32] w2 w') := by
    refine sx_for L.1 (fun u hfu hg => ?_) (fun l hl ih u hfu hg => ?_)
    · have hCu := hC2.fr hfu (by decide)
      have nc : ¬ ¬ u.1 1 4 ≤ nI L.1 := fun c => c (by rw [hCu.1.2.1]; exact nI_le (Nat.le_refl _) (by omega))
      obtain ⟨f, fl, w', hev, hp⟩ := days 0 (Nat.zero_le _) u (hfu.mono (by decide)) ⟨fun i hi => by rw [(hfu 31 (by decide)).1]; exact h31 i hi, hg⟩
      exact ⟨f, fl, w', fun Q z => bNi_sickAfter_10 (f1 := 0) (fun _ => hev Q z) (fun c => absurd c nc) (fun c => absurd c nc) (fun c => absurd c nc) (fun c => absurd c nc) (fun c => absurd c nc), hp⟩
    · have hCu := hC2.fr hfu (by decide)
      have nn : ¬ u.1 1 4 ≤ nI l := by rw [hCu.1.2.1]; exact nI_ge hl (by omega)
      have hc : (nI l).toNatClampNeg = l := nI_clamp (by omega)
      have vl : vp_in (nI l) 7 := vp_in_nI (by omega) (by decide)
      have hh := spSb_holds (d := d + 3) (w := u) (s := s) (p := l) hs (by omega)
      obtain ⟨f, fl, w', hev, hp⟩ := ih (sx_u u.1 32 l (na_g0 s l), u.2) (hfu.trans (fun a ha => ⟨sx_u_o (fun e => ha (by rw [e]; decide)), rfl⟩)) (fun j hj => by
        show sx_u u.1 32 l (na_g0 s l) 32 j = na_g0 s j
        rw [sx_u_s]
        by_cases e : j = l
        · rw [if_pos e, e]
        · rw [if_neg e]; exact hg j (by omega))
      cases e : s.testBit l with
      | true =>
        rw [e] at hh
        rw [na_g0, if_pos e] at hev
        refine ⟨f, fl, w', fun Q z => bNi_sickAfter_10 (fun c => absurd c nn) (fun _ => hh) (fun _ c => absurd c (by decide)) (fun _ c => absurd c (by decide)) (fun _ _ => vl) (fun _ _ => ?_), hp⟩
        rw [hc, nI_1]; exact hev Q z
      | false =>
        rw [e] at hh
        rw [na_g0, if_neg (by rw [e]; exact Bool.false_ne_true)] at hev
        refine ⟨f, fl, w', fun Q z => bNi_sickAfter_10 (fun c => absurd c nn) (fun _ => hh) (fun _ _ => vl) (fun _ _ => ?_) (fun _ c => absurd rfl c) (fun _ c => absurd rfl c), hp⟩
        rw [hc, nI_1]; exact hev Q z
  obtain ⟨f, fl, w', hev, hp1, hp2, hp3⟩ := first 0 (Nat.zero_le _) w2 sg_fr.rfl' (fun j hj => by omega)
  exact ⟨f, fl, w', fun Q z => sx_met_of rfl rfl rfl rfl (bNi_sickAfter_0 hs1 hs2 (hev Q z)), hp1, hp2, hN2.fr hp3 (by decide), by rw [(hp3 27 (by decide)).1, (hf2 27 (by decide)).1]; exact ha, fr2 hp3⟩
theorem spNi_bringersOf {s n : Nat} (h : sg_Co L b r w) (hcap : ∀ p, p < 8 → fb_ct (fun l => na_as L r l p) L.1 ≤ 7) (hk : w.1 27 5 = w.1 1 8 → na_NS L r w) (hs : s < 2 ^ 31) (hn : n ≤ 30) : sx_x (d + 5) rNi_bringersOf [.ref 27, .int (nI s), .int (nI n)] w (fun f fl w' => f = nI (na_br L r (w.1 1 6) s n) ∧ fl = 0 ∧ (w'.1 27 5 = w.1 1 8 → na_NS L r w') ∧ (w'.1 27 5 = w.1 27 5 ∨ w'.1 27 5 = w.1 1 8) ∧ sg_fr [27, 28, 29, 30, 31, 32] w w') := by
  have h7 := h.1.1.1
  generalize hk6 : w.1 1 6 = k at *
  have loop : ∀ l, l ≤ L.1 → ∀ u, sg_fr [27, 28, 29, 30, 31, 32] w u → (u.1 27 5 = w.1 1 8 → na_NS L r u) → (u.1 27 5 = w.1 27 5 ∨ u.1 27 5 = w.1 1 8) → sx_xe (d + 5) rNi_bringersOf 5 [.ref 27, .int (nI s), .int (nI n), .int (nI (na_bits (fun l => na_sick L r k (2 ^ l) n == s) l)), .int (nI l)] u (fun f fl w' => f = nI (na_br L r k s n) ∧ fl = 0 ∧ (w'.1 27 5 = w.1 1 8 → na_NS L r w') ∧ (w'.1 27 5 = w.1 27 5 ∨ w'.1 27 5 = w.1 1 8) ∧ sg_fr [27, 28, 29, 30, 31, 32] w w') := by
    refine sx_for L.1 (fun u hfu hku hka => ?_) (fun l hl ih u hfu hku hka => ?_)
    · have hCu := h.fr hfu (by decide)
      have nc : ¬ ¬ u.1 1 4 ≤ nI L.1 := fun c => c (by rw [hCu.1.2.1]; exact nI_le (Nat.le_refl _) (by omega))
      exact ⟨_, 0, u, fun Q z => bNi_bringersOf_5 (f1 := 0) (w1 := u) (fun _ => z) (fun c => absurd c nc) (fun c => absurd c nc) (fun c => absurd c nc), rfl, rfl, hku, hka, hfu⟩
    · have hCu := h.fr hfu (by decide)
      have nn : ¬ u.1 1 4 ≤ nI l := by rw [hCu.1.2.1]; exact nI_ge hl (by omega)
      have e8 : u.1 1 8 = w.1 1 8 := by rw [(hfu 1 (by decide)).1]
      have e6 : u.1 1 6 = k := by rw [(hfu 1 (by decide)).1]; exact hk6
      obtain ⟨f, fl, u1, hsk, rfl, rfl, hN1, ha1, hf1⟩ := spNi_sickAfter (d := d) (s := 2 ^ l) (n := n) hCu hcap (fun e => hku (e.trans e8)) (Nat.pow_lt_pow_right (by decide) (by omega)) hn
      rw [e6] at hsk
      rw [← sz_one l (by omega)] at hsk
      obtain ⟨f, fl, w', hev, hp⟩ := ih u1 (hfu.trans hf1) (fun _ => hN1) (Or.inr (ha1.trans e8))
      have hb := na_bits_I (fun l => na_sick L r k (2 ^ l) n == s) (show l < 8 by omega)
      have hlt : na_sick L r k (2 ^ l) n < 2 ^ 31 := Nat.lt_of_lt_of_le (na_bits_lt _ _) (Nat.pow_le_pow_right (by decide) (by omega))
      by_cases e : na_sick L r k (2 ^ l) n = s
      · rw [if_pos (by rw [e]; exact beq_self_eq_true s)] at hb
        refine ⟨f, fl, w', fun Q z => bNi_bringersOf_5 (fun c => absurd c nn) (fun _ => hsk) (fun _ c => absurd (by rw [e]) c) (fun _ _ => ?_), hp⟩
        rw [hb, nI_1]; exact hev Q z
      · rw [if_neg (by rw [beq_iff_eq]; exact e)] at hb
        refine ⟨f, fl, w', fun Q z => bNi_bringersOf_5 (fun c => absurd c nn) (fun _ => hsk) (fun _ _ => ?_) (fun _ c => absurd ((nI_eq hlt hs).mp c) e), hp⟩
        rw [hb, nI_1]; exact hev Q z
  obtain ⟨f, fl, w', hev, hp⟩ := loop 0 (Nat.zero_le _) w sg_fr.rfl' hk (Or.inl rfl)
  exact ⟨f, fl, w', fun Q z => sx_met_of rfl rfl rfl rfl (bNi_bringersOf_0 (hev Q z)), hp⟩
end
