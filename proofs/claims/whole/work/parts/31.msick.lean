/-! ===== the model: bed, linen, sick, brought ===== -/
section
variable {d : Nat} {w : sx_W} {L : sg_L} {b : Nat} {r : Nat → Nat}
theorem spMo_begins {s : Nat} (h : sg_Mo L b true r w) (hcap : ∀ p, p < 8 → fb_ct (fun l => na_as L r l p) L.1 ≤ 7) (hs : s < 2 ^ 31) : sx_x (d + 4) rMo_begins [.ref 48, .int (nI s)] w (fun f fl w' => f = 0 ∧ fl = 0 ∧ na_TL L r 8 w' ∧ na_RM L ((fun _ => 9), na_g0 s, 0) w' ∧ sg_fr [55, 56, 57] w w') := by
  have h7 := h.1.1.1
  obtain ⟨f, fl, w1, hs1, rfl, rfl, hT, hf⟩ := spMo_liesAll (d := d) h hcap
  have loop : ∀ i, i ≤ 7 → ∀ u, sg_fr [56, 57] w1 u → (∀ j, j < i → u.1 56 j = -1 ∧ u.1 57 j = na_g0 s j) → sx_xe (d + 4) rMo_begins 6 [.ref 48, .int (nI s), .int (nI i)] u (fun f fl w' => f = 0 ∧ fl = 0 ∧ (∀ j, j < 7 → w'.1 56 j = -1 ∧ w'.1 57 j = na_g0 s j) ∧ sg_fr [56, 57] w1 w') := by
    refine sx_for 7 (fun u hf ha => ?_) (fun i hi ih u hf ha => ?_)
    · exact ⟨0, 0, u, fun Q z => bMo_begins_6 (fun _ => z) (fun c => absurd (by decide) c) (fun c => absurd (by decide) c) (fun c => absurd (by decide) c), rfl, rfl, ha, hf⟩
    · have hc : (nI i).toNatClampNeg = i := nI_clamp (by omega)
      have nn : ¬ (7 : Int32) ≤ nI i := nI_ge (b := 7) hi (by omega)
      have vi : vp_in (nI i) 7 := vp_in_nI hi (by decide)
      obtain ⟨f, fl, w', hev, hp⟩ := ih (sx_u (sx_u u.1 56 i (-1)) 57 i (na_g0 s i), u.2) (hf.trans (fun a ha => ⟨by
        simp only [List.mem_cons, List.not_mem_nil, or_false, not_or] at ha
        show sx_u (sx_u u.1 56 i (-1)) 57 i (na_g0 s i) a = u.1 a
        rw [sx_u_o ha.2, sx_u_o ha.1], rfl⟩)) (fun j hj => by
        show sx_u (sx_u u.1 56 i (-1)) 57 i (na_g0 s i) 56 j = -1 ∧ sx_u (sx_u u.1 56 i (-1)) 57 i (na_g0 s i) 57 j = na_g0 s j
        rw [sx_u_o (by decide), sx_u_s, sx_u_s]
        by_cases e : j = i
        · rw [if_pos e, if_pos e, e]; exact ⟨rfl, rfl⟩
        · rw [if_neg e, if_neg e, sx_u_o (by decide)]; exact ha j (by omega))
      by_cases hb : s.testBit i = true
      · rw [na_g0, if_pos hb] at hev
        have c1 : ((nI s >>> (nI i &&& 31)) &&& (1 : Int32)) = 1 := (sz_bit1 hs (by omega)).mpr hb
        refine ⟨f, fl, w', fun Q z => bMo_begins_6 (fun c => absurd c nn) (fun _ => vi) (fun _ c => absurd c1 c) (fun _ _ => ?_), hp⟩
        rw [hc, nI_1]; exact hev Q z
      · rw [na_g0, if_neg hb] at hev
        have c1 : ¬ ((nI s >>> (nI i &&& 31)) &&& (1 : Int32)) = 1 := fun c => hb ((sz_bit1 hs (by omega)).mp c)
        refine ⟨f, fl, w', fun Q z => bMo_begins_6 (fun c => absurd c nn) (fun _ => vi) (fun _ _ => ?_) (fun _ c => absurd c c1), hp⟩
        rw [hc, nI_1]; exact hev Q z
  obtain ⟨f, fl, w', hev, h1, h2, h3, h4⟩ := loop 0 (by omega) w1 sg_fr.rfl' (fun j hj => by omega)
  exact ⟨f, fl, w', fun Q z => sx_met_of rfl rfl rfl rfl (bMo_begins_0 hs1 (hev Q z)), h1, h2, hT.fr h4 (by decide), ⟨fun i hi => (h3 i hi).1, fun l hl => (h3 l (by omega)).2⟩, (hf.mono (by decide)).trans (h4.mono (by decide))⟩
/-- a row that is told and good -/
theorem spMo_isGood' {t : Bool} (h : sg_Mo L b t r w) : sx_de (d + 3) rMo_isGood [.ref 48] w (sz_b (t && sg_good L b r)) 0 w := spMo_isGood h.1 h.2.1 h.2.2.1 h.2.2.2.1 h.2.2.2.2
theorem spMo_bed {x y : Int32} {t : Bool} (h : sg_Mo L b t r w) : sx_x (d + 4) rMo_bed [.ref 48, .int x, .int y] w (fun f fl w' => f = (if sz_in x L.1 && sz_in y 8 then (if t && sg_good L b r then na_lI (na_B L r (y.toNatClampNeg + 1) x.toNatClampNeg) else -2) else -1) ∧ fl = 0 ∧ sg_fr [55] w w') := by
  have h7 := h.1.1.1
  have m1 := spMo_isLodger (d := d + 2) (x := x) h.1.2.1 h7
  have m2 := spMo_isPart (d := d + 2) (w := w) (x := y)
  have m3 := spMo_isGood' (d := d) h
  cases hx : sz_in x L.1 with
  | false =>
    rw [hx] at m1
    exact ⟨-1, 0, w, fun Q z => sx_met_of rfl rfl rfl rfl (bMo_bed_0 (f2 := 0) (f3 := 0) (w4 := w) m1 (fun _ => z) (fun c => absurd rfl c) (fun c => absurd rfl c) (fun c => absurd rfl c) (fun c => absurd rfl c) (fun c => absurd rfl c) (fun c => absurd rfl c) (fun c => absurd rfl c)), rfl, rfl, sg_fr.rfl'⟩
  | true =>
    rw [hx] at m1
    have y1 : ¬ sz_b true = 0 := by decide
    cases hy : sz_in y 8 with
    | false =>
      rw [hy] at m2
      exact ⟨-1, 0, w, fun Q z => sx_met_of rfl rfl rfl rfl (bMo_bed_0 (f3 := 0) (w4 := w) m1 (fun c => absurd c y1) (fun _ => m2) (fun _ c => absurd rfl c) (fun _ c => absurd rfl c) (fun _ c => absurd rfl c) (fun _ c => absurd rfl c) (fun _ c => absurd rfl c) (fun _ _ => z)), rfl, rfl, sg_fr.rfl'⟩
    | true =>
      rw [hy] at m2
      cases hg : (t && sg_good L b r) with
      | false =>
        rw [hg] at m3
        exact ⟨-2, 0, w, fun Q z => sx_met_of rfl rfl rfl rfl (bMo_bed_0 (w4 := w) m1 (fun c => absurd c y1) (fun _ => m2) (fun _ _ => m3) (fun _ _ c => absurd rfl c) (fun _ _ c => absurd rfl c) (fun _ _ c => absurd rfl c) (fun _ _ _ => z) (fun _ c => absurd c y1)), rfl, rfl, sg_fr.rfl'⟩
      | true =>
        rw [hg] at m3
        rw [Bool.and_eq_true] at hg
        obtain ⟨rfl, hg2⟩ := hg
        obtain ⟨l, hl, rfl⟩ := sz_in_of hx (by omega)
        obtain ⟨p, hp, rfl⟩ := sz_in_of hy (by decide)
        obtain ⟨f, fl, w1, hs1, rfl, rfl, hT, hf⟩ := spMo_liesAll (d := d) h (na_good_cap h.2.2.1 hg2)
        obtain ⟨e1, e2, e3⟩ := sz_at8 (show l < 7 by omega) hp
        refine ⟨na_lI (na_B L r (p + 1) l), 0, w1, fun Q z => sx_met_of rfl rfl rfl rfl (bMo_bed_0 m1 (fun c => absurd c y1) (fun _ => m2) (fun _ _ => m3) (fun _ _ _ => hs1) (fun _ _ _ => by rw [e1]; exact e3) (fun _ _ _ => ?_) (fun _ _ c => absurd c y1) (fun _ c => absurd c y1)), ?_, rfl, hf⟩
        · rw [e1, e2, hT l hl p hp]; exact z
        · rw [nI_clamp (by omega), nI_clamp (by omega)]; rfl
theorem na_lin_eq {k day : Int32} {g : Nat → Int32} : (na_fold k day (na_D L r 8) ((fun _ => 9), g, 0)).2.2 = na_lin L r := (na_fold_ind _ _ _ _ _).2
theorem spMo_linen {t : Bool} (h : sg_Mo L b t r w) : sx_x (d + 5) rMo_linen [.ref 48] w (fun f fl w' => f = (if t && sg_good L b r then na_lin L r else -2) ∧ fl = 0 ∧ sg_fr [55, 56, 57] w w') := by
  have m1 := spMo_isGood' (d := d + 1) h
  cases hg : (t && sg_good L b r) with
  | false =>
    rw [hg] at m1
    exact ⟨-2, 0, w, fun Q z => sx_met_of rfl rfl rfl rfl (bMo_linen_0 (w2 := w) (f3 := 0) (w3 := w) m1 (fun c => absurd rfl c) (fun c => absurd rfl c) (fun c => absurd rfl c) (fun _ => z)), rfl, rfl, sg_fr.rfl'⟩
  | true =>
    rw [hg] at m1
    rw [Bool.and_eq_true] at hg
    obtain ⟨rfl, hg2⟩ := hg
    have hcap := na_good_cap h.2.2.1 hg2
    obtain ⟨f, fl, w1, hs1, rfl, rfl, hT, hR, hf⟩ := spMo_begins (d := d) (s := 0) h hcap (by decide)
    have hM1 := h.fr' hf (by decide)
    obtain ⟨f, fl, w2, hs2, h1, h2, h3, h4⟩ := spMo_days (d := d + 1) (n := 1) (P := ((fun _ => 9), na_g0 0)) hM1 hcap hT rfl (by decide) (na_vS_run hcap (k := 0) (s := 0) 0 (by decide)) hR
    rw [na_lin_eq] at h1
    subst h1 h2
    exact ⟨_, 0, w2, fun Q z => sx_met_of rfl rfl rfl rfl (bMo_linen_0 m1 (fun _ => hs1) (fun _ => hs2) (fun _ => z) (fun c => absurd c (by decide))), rfl, rfl, (hf.mono (by decide)).trans (h4.mono (by decide))⟩
theorem spMo_ill {s n : Nat} {k : Int32} (h : sg_Mo L b true r w) (hcap : ∀ p, p < 8 → fb_ct (fun l => na_as L r l p) L.1 ≤ 7) (hk6 : w.1 48 7 = k) (hs : s < 2 ^ 31) (hn : n ≤ 30) : sx_x (d + 5) rMo_ill [.ref 48, .int (nI s), .int (nI n)] w (fun f fl w' => f = nI (na_sick L r k s n) ∧ fl = 0 ∧ sg_fr [55, 56, 57] w w') := by
  have h7 := h.1.1.1
  obtain ⟨f, fl, w1, hs1, rfl, rfl, hT, hR, hf⟩ := spMo_begins (d := d) (s := s) h hcap hs
  have hM1 := h.fr' hf (by decide)
  have hk1 : w1.1 48 7 = k := by rw [(hf 48 (by decide)).1]; exact hk6
  have last : ∀ u, sg_fr [56, 57] w1 u → na_RM L ((na_run L r k s n).1, (na_run L r k s n).2, 0) u → ∀ l, l ≤ L.1 → ∀ Q : sx_Q, Q (nI (na_sick L r k s n)) 0 u → sx_ev (d + 5) rMo_ill 29 [.ref 48, .null, .int (nI n), .int (nI (na_bits (na_ill k n (na_run L r k s n).2) l)), .int (nI l)] [] u Q := by
    intro u hfu hRu
    have hCu := hM1.fr' hfu (by decide)
    have hu6 : u.1 48 7 = k := by rw [(hfu 48 (by decide)).1]; exact hk1
    refine sx_for L.1 (fun Q z => ?_) (fun l hl ih Q z => ?_)
    · have nc : ¬ ¬ u.1 48 0 ≤ nI L.1 := fun c => c (by rw [hCu.1.2.1]; exact nI_le (Nat.le_refl _) (by omega))
      exact bMo_ill_29 (fun _ => z) (fun c => absurd c nc) (fun c => absurd c nc) (fun c => absurd c nc) (fun c => absurd c nc)
    · have nn : ¬ u.1 48 0 ≤ nI l := by rw [hCu.1.2.1]; exact nI_ge hl (by omega)
      have hc : (nI l).toNatClampNeg = l := nI_clamp (by omega)
      have hb := na_bits_I (na_ill k n (na_run L r k s n).2) (show l < 8 by omega)
      have vl : vp_in (nI l) 7 := vp_in_nI (by omega) (by decide)
      have hv := (na_vS_run hcap (k := k) (s := s) n hn).2 l
      have hg : u.1 57 (nI l).toNatClampNeg = (na_run L r k s n).2 l := by rw [hc]; exact hRu.2 l hl
      have hill : na_ill k n (na_run L r k s n).2 l = (!decide ((na_run L r k s n).2 l = (-1 : Int32)) && !decide ((na_run L r k s n).2 l + k < nI n)) := rfl
      by_cases g1 : (na_run L r k s n).2 l < 0
      · have e1 : (na_run L r k s n).2 l = (-1 : Int32) := by
          rcases hv with q | q
          · exact q
          · exact absurd g1 q
        rw [if_neg (by rw [hill, decide_eq_true e1]; exact Bool.false_ne_true)] at hb
        have y1 : u.1 57 (nI l).toNatClampNeg < 0 := by rw [hg]; exact g1
        refine bMo_ill_29 (fun c => absurd c nn) (fun _ => vl) (fun _ _ => ?_) (fun _ c => absurd y1 c) (fun _ c => absurd y1 c)
        rw [hb, nI_1]; exact ih Q z
      · have n1 : ¬ u.1 57 (nI l).toNatClampNeg < 0 := by rw [hg]; exact g1
        have e1 : ¬ (na_run L r k s n).2 l = (-1 : Int32) := fun c => g1 (by rw [c]; decide)
        by_cases g2 : (na_run L r k s n).2 l + k < nI n
        · rw [if_neg (by rw [hill, decide_eq_true g2, Bool.not_true, Bool.and_false]; exact Bool.false_ne_true)] at hb
          have y2 : u.1 57 (nI l).toNatClampNeg + u.1 48 7 < nI n := by rw [hg, hu6]; exact g2
          refine bMo_ill_29 (fun c => absurd c nn) (fun _ => vl) (fun _ c => absurd c n1) (fun _ _ _ => ?_) (fun _ _ c => absurd y2 c)
          rw [hb, nI_1]; exact ih Q z
        · rw [if_pos (by rw [hill, decide_eq_false g2, decide_eq_false e1]; rfl)] at hb
          have n2 : ¬ u.1 57 (nI l).toNatClampNeg + u.1 48 7 < nI n := by rw [hg, hu6]; exact g2
          refine bMo_ill_29 (fun c => absurd c nn) (fun _ => vl) (fun _ c => absurd c n1) (fun _ _ c => absurd c n2) (fun _ _ _ => ?_)
          rw [hb, nI_1]; exact ih Q z
  have days : ∀ i, i ≤ n → ∀ u, sg_fr [56, 57] w1 u → na_RM L ((na_run L r k s i).1, (na_run L r k s i).2, 0) u → sx_xe (d + 5) rMo_ill 7 [.ref 48, .null, .int (nI n), .int (nI (i + 1)), .null] u (fun f fl w' => f = nI (na_sick L r k s n) ∧ fl = 0 ∧ sg_fr [56, 57] w1 w') := by
    refine sx_for n (fun u hfu hRu => ?_) (fun i hi ih u hfu hRu => ?_)
    · have c : nI n < nI (n + 1) := by rw [nI_ltI (by omega) (by omega)]; omega
      exact ⟨_, 0, u, fun Q z => bMo_ill_7 (f1 := 0) (w1 := u) (fun _ => last u hfu hRu 0 (Nat.zero_le _) Q z) (fun x => absurd c x) (fun x => absurd c x), rfl, rfl, hfu⟩
    · have c : ¬ nI n < nI (i + 1) := by rw [nI_ltI (by omega) (by omega)]; omega
      have hu6 : u.1 48 7 = k := by rw [(hfu 48 (by decide)).1]; exact hk1
      obtain ⟨f, fl, u1, hsp, hf1, rfl, hR1, hfr⟩ := spMo_days (d := d + 1) (n := i + 1) (P := na_run L r k s i) (hM1.fr' hfu (by decide)) hcap (hT.fr hfu (by decide)) hu6 (nI_pos (by omega)) (na_vS_run hcap i (by omega)) hRu
      obtain ⟨f', fl, w', hev, hp⟩ := ih u1 (hfu.trans hfr) hR1
      refine ⟨f', fl, w', fun Q z => bMo_ill_7 (fun x => absurd x c) (fun _ => hsp) (fun _ => ?_), hp⟩
      rw [nI_1]; exact hev Q z
  obtain ⟨f, fl, w', hev, h1, h2, h3⟩ := days 0 (Nat.zero_le _) w1 sg_fr.rfl' hR
  exact ⟨f, fl, w', fun Q z => sx_met_of rfl rfl rfl rfl (bMo_ill_0 hs1 (hev Q z)), h1, h2, hf.trans (h3.mono (by decide))⟩
theorem sz_day_of {y : Int32} (h : sz_day y = true) : ∃ n : Nat, 1 ≤ n ∧ n ≤ 30 ∧ y = nI n := by
  have h1 : 1 ≤ y.toInt ∧ y.toInt ≤ 30 := by simpa [sz_day] using h
  obtain ⟨n, hn, rfl⟩ := sz_in_of (x := y) (n := 31) (sz_in_iff.mpr ⟨by omega, by omega⟩) (by decide)
  have : (nI n).toInt = (n : Int) := nI_toInt (by omega)
  exact ⟨n, by omega, by omega, rfl⟩
theorem spMo_sick {x y : Int32} {t : Bool} (h : sg_Mo L b t r w) : sx_x (d + 6) rMo_sick [.ref 48, .int x, .int y] w (fun f fl w' => f = (if sz_in x (2 ^ L.1) && sz_day y then (if t && sg_good L b r then nI (na_sick L r (w.1 48 7) x.toNatClampNeg y.toNatClampNeg) else -2) else -1) ∧ fl = 0 ∧ sg_fr [55, 56, 57] w w') := by
  have h7 := h.1.1.1
  have m1 := spMo_isSet (d := d + 4) (x := x) (y := y) h.1.2.1 h7
  have m2 := spMo_isGood' (d := d + 2) h
  have y1 : ¬ sz_b true = 0 := by decide
  cases hx : (sz_in x (2 ^ L.1) && sz_day y) with
  | false =>
    rw [hx] at m1
    exact ⟨-1, 0, w, fun Q z => sx_met_of rfl rfl rfl rfl (bMo_sick_0 (f2 := 0) (f3 := 0) (w3 := w) m1 (fun c => absurd rfl c) (fun c => absurd rfl c) (fun c => absurd rfl c) (fun c => absurd rfl c) (fun _ => z)), rfl, rfl, sg_fr.rfl'⟩
  | true =>
    rw [hx] at m1
    cases hg : (t && sg_good L b r) with
    | false =>
      rw [hg] at m2
      exact ⟨-2, 0, w, fun Q z => sx_met_of rfl rfl rfl rfl (bMo_sick_0 (f3 := 0) (w3 := w) m1 (fun _ => m2) (fun _ _ => z) (fun _ c => absurd rfl c) (fun _ c => absurd rfl c) (fun c => absurd c y1)), rfl, rfl, sg_fr.rfl'⟩
    | true =>
      rw [hg] at m2
      rw [Bool.and_eq_true] at hg hx
      obtain ⟨rfl, hg2⟩ := hg
      have h2n : 2 ^ L.1 ≤ 2 ^ 7 := Nat.pow_le_pow_right (by decide) h7
      obtain ⟨s, hs, rfl⟩ := sz_in_of hx.1 (by omega)
      obtain ⟨n, hn1, hn, rfl⟩ := sz_day_of hx.2
      obtain ⟨f, fl, w1, hs1, rfl, rfl, hf⟩ := spMo_ill (d := d) (s := s) (n := n) h (na_good_cap h.2.2.1 hg2) rfl (by omega) hn
      refine ⟨_, 0, w1, fun Q z => sx_met_of rfl rfl rfl rfl (bMo_sick_0 m1 (fun _ => m2) (fun _ c => absurd c y1) (fun _ _ => hs1) (fun _ _ => z) (fun c => absurd c y1)), ?_, rfl, hf⟩
      rw [nI_clamp (by omega), nI_clamp (by omega)]; rfl
theorem spMo_brought {x y : Int32} {t : Bool} (h : sg_Mo L b t r w) : sx_x (d + 6) rMo_brought [.ref 48, .int x, .int y] w (fun f fl w' => f = (if sz_in x (2 ^ L.1) && sz_day y then (if t && sg_good L b r then nI (na_br L r (w.1 48 7) x.toNatClampNeg y.toNatClampNeg) else -2) else -1) ∧ fl = 0 ∧ sg_fr [55, 56, 57] w w') := by
  have h7 := h.1.1.1
  have m1 := spMo_isSet (d := d + 4) (x := x) (y := y) h.1.2.1 h7
  have m2 := spMo_isGood' (d := d + 2) h
  have y1 : ¬ sz_b true = 0 := by decide
  cases hx : (sz_in x (2 ^ L.1) && sz_day y) with
  | false =>
    rw [hx] at m1
    exact ⟨-1, 0, w, fun Q z => sx_met_of rfl rfl rfl rfl (bMo_brought_0 (f2 := 0) m1 (fun c => absurd rfl c) (fun c => absurd rfl c) (fun c => absurd rfl c) (fun _ => z)), rfl, rfl, sg_fr.rfl'⟩
  | true =>
    rw [hx] at m1
    cases hg : (t && sg_good L b r) with
    | false =>
      rw [hg] at m2
      exact ⟨-2, 0, w, fun Q z => sx_met_of rfl rfl rfl rfl (bMo_brought_0 m1 (fun _ => m2) (fun _ c => absurd rfl c) (fun _ _ => z) (fun c => absurd c y1)), rfl, rfl, sg_fr.rfl'⟩
    | true =>
      rw [hg] at m2
      rw [Bool.and_eq_true] at hg hx
      obtain ⟨rfl, hg2⟩ := hg
      have h2n : 2 ^ L.1 ≤ 2 ^ 7 := Nat.pow_le_pow_right (by decide) h7
      obtain ⟨s, hs, rfl⟩ := sz_in_of hx.1 (by omega)
      obtain ⟨n, hn1, hn, rfl⟩ := sz_day_of hx.2
      have hcap := na_good_cap h.2.2.1 hg2
      generalize hk6 : w.1 48 7 = k
      have loop : ∀ l, l ≤ L.1 → ∀ u, sg_fr [55, 56, 57] w u → sx_xe (d + 6) rMo_brought 26 [.ref 48, .int (nI s), .int (nI n), .int (nI (na_bits (fun l => na_sick L r k (2 ^ l) n == s) l)), .int (nI l)] u (fun f fl w' => f = nI (na_br L r k s n) ∧ fl = 0 ∧ sg_fr [55, 56, 57] w w') := by
        refine sx_for L.1 (fun u hfu => ?_) (fun l hl ih u hfu => ?_)
        · have hCu := h.fr' hfu (by decide)
          have nc : ¬ ¬ u.1 48 0 ≤ nI L.1 := fun c => c (by rw [hCu.1.2.1]; exact nI_le (Nat.le_refl _) (by omega))
          exact ⟨_, 0, u, fun Q z => bMo_brought_26 (f1 := 0) (w1 := u) (fun _ => z) (fun c => absurd c nc) (fun c => absurd c nc) (fun c => absurd c nc), rfl, rfl, hfu⟩
        · have hCu := h.fr' hfu (by decide)
          have nn : ¬ u.1 48 0 ≤ nI l := by rw [hCu.1.2.1]; exact nI_ge hl (by omega)
          have e6 : u.1 48 7 = k := by rw [(hfu 48 (by decide)).1]; exact hk6
          obtain ⟨f, fl, u1, hsk, rfl, rfl, hf1⟩ := spMo_ill (d := d) (s := 2 ^ l) (n := n) hCu hcap e6 (Nat.pow_lt_pow_right (by decide) (by omega)) hn
          rw [← sz_one l (by omega)] at hsk
          obtain ⟨f, fl, w', hev, hp⟩ := ih u1 (hfu.trans hf1)
          have hb := na_bits_I (fun l => na_sick L r k (2 ^ l) n == s) (show l < 8 by omega)
          have hlt : na_sick L r k (2 ^ l) n < 2 ^ 31 := Nat.lt_of_lt_of_le (na_bits_lt _ _) (Nat.pow_le_pow_right (by decide) (by omega))
          by_cases e : na_sick L r k (2 ^ l) n = s
          · rw [if_pos (by rw [e]; exact beq_self_eq_true s)] at hb
            refine ⟨f, fl, w', fun Q z => bMo_brought_26 (fun c => absurd c nn) (fun _ => hsk) (fun _ c => absurd (by rw [e]) c) (fun _ _ => ?_), hp⟩
            rw [hb, nI_1]; exact hev Q z
          · rw [if_neg (by rw [beq_iff_eq]; exact e)] at hb
            refine ⟨f, fl, w', fun Q z => bMo_brought_26 (fun c => absurd c nn) (fun _ => hsk) (fun _ _ => ?_) (fun _ c => absurd ((nI_eq hlt (by omega)).mp c) e), hp⟩
            rw [hb, nI_1]; exact hev Q z
      obtain ⟨f, fl, w', hev, h1, h2, h3⟩ := loop 0 (Nat.zero_le _) w sg_fr.rfl'
      refine ⟨f, fl, w', fun Q z => sx_met_of rfl rfl rfl rfl (bMo_brought_0 m1 (fun _ => m2) (fun _ _ => hev Q z) (fun _ c => absurd c y1) (fun c => absurd c y1)), ?_, h2, h3⟩
      rw [nI_clamp (by omega), nI_clamp (by omega)]; exact h1
end
