/-! ===== a sheet begins ===== -/
section
variable {d : Nat} {w : sx_W} {s : sh_T}
theorem sh_cells {k a : Nat} (hk : k < 4) (ha : a ∉ [40, 41, 42, 43, 44, 45, 46, 47]) : a ≠ 40 + 2 * k ∧ a ≠ 41 + 2 * k := by
  simp only [List.mem_cons, List.not_mem_nil, or_false, not_or] at ha
  omega
theorem sh_new_C {k l n : Nat} {w' : sx_W} (h : sh_C s w) (hk : k < 4) (hl : l < 3) (hn : n ≤ 16) (h1 : w'.1 (40 + 2 * k) 1 = 0) (h2 : w'.1 (40 + 2 * k) 2 = nI l) (h3 : w'.1 (40 + 2 * k) 3 = nI n) (h4 : ∀ i, i < 16 → w'.2 (41 + 2 * k) i = 0) (hf : sg_fr [40 + 2 * k, 41 + 2 * k] w w') : sh_C (sh_new s k l n) w' := by
  refine ⟨fun k' hk' => ?_, fun k' hk' => ?_⟩
  · show (sg_up s.1 k l k' < 3 ∨ sg_up s.1 k l k' = 9) ∧ sg_up s.2.1 k n k' ≤ 16
    by_cases e : k' = k
    · rw [e, sg_up_s, sg_up_s]; exact ⟨Or.inl hl, hn⟩
    · rw [sg_up_o e, sg_up_o e]; exact h.1 k' hk'
  · show w'.1 (40 + 2 * k') 1 = sz_b (sg_up s.1 k l k' == 9) ∧ (sg_up s.1 k l k' < 3 → w'.1 (40 + 2 * k') 2 = nI (sg_up s.1 k l k')) ∧ w'.1 (40 + 2 * k') 3 = nI (sg_up s.2.1 k n k') ∧ ∀ i, i < 16 → w'.2 (41 + 2 * k') i = if k' = k then 0 else s.2.2 k' i
    by_cases e : k' = k
    · rw [e, sg_up_s, sg_up_s]
      refine ⟨?_, fun _ => h2, h3, fun i hi => by rw [if_pos rfl]; exact h4 i hi⟩
      rw [h1, beq_eq_false_iff_ne.mpr (show l ≠ 9 by omega)]; rfl
    · rw [sg_up_o e, sg_up_o e]
      obtain ⟨q1, q2, q3, q4⟩ := h.2 k' hk'
      have f1 := (hf (40 + 2 * k') (by simp only [List.mem_cons, List.not_mem_nil, or_false, not_or]; omega)).1
      have f2 := (hf (41 + 2 * k') (by simp only [List.mem_cons, List.not_mem_nil, or_false, not_or]; omega)).2
      rw [f1, f2]
      exact ⟨q1, q2, q3, fun i hi => by rw [if_neg e]; exact q4 i hi⟩
theorem spSh_begin {k : Nat} {x y : Int32} (hk : k < 4) : sx_x d rSh_begin [.ref (40 + 2 * k), .int x, .int y] w (fun f fl w' => f = 0 ∧ fl = 0 ∧ w'.1 (40 + 2 * k) 1 = 0 ∧ w'.1 (40 + 2 * k) 2 = x ∧ w'.1 (40 + 2 * k) 3 = y ∧ (∀ i, i < 16 → w'.2 (41 + 2 * k) i = 0) ∧ sg_fr [40 + 2 * k, 41 + 2 * k] w w') := by
  have loop : ∀ i, i ≤ 16 → ∀ u, sg_fr [40 + 2 * k, 41 + 2 * k] w u → (∀ j, j < i → u.2 (41 + 2 * k) j = 0) → sx_xe d rSh_begin 2 [.ref (40 + 2 * k), .int x, .int y, .int (nI i)] u (fun f fl w' => f = 0 ∧ fl = 0 ∧ w'.1 (40 + 2 * k) 1 = 0 ∧ w'.1 (40 + 2 * k) 2 = x ∧ w'.1 (40 + 2 * k) 3 = y ∧ (∀ i, i < 16 → w'.2 (41 + 2 * k) i = 0) ∧ sg_fr [40 + 2 * k, 41 + 2 * k] w w') := by
    refine sx_for 16 (fun u hf hu => ?_) (fun i hi ih u hf hu => ?_)
    · refine ⟨0, 0, (sx_u (sx_u (sx_u u.1 (40 + 2 * k) 1 0) (40 + 2 * k) 2 x) (40 + 2 * k) 3 y, u.2), fun Q z => bSh_begin_2 hk (fun _ => z) (fun c => absurd (by decide) c) (fun c => absurd (by decide) c), rfl, rfl, ?_, ?_, ?_, hu, hf.trans (fun a ha => ⟨?_, rfl⟩)⟩
      · show sx_u (sx_u (sx_u u.1 (40 + 2 * k) 1 0) (40 + 2 * k) 2 x) (40 + 2 * k) 3 y (40 + 2 * k) 1 = 0
        rw [sx_u_s, if_neg (by decide), sx_u_s, if_neg (by decide), sx_u_s, if_pos rfl]
      · show sx_u (sx_u (sx_u u.1 (40 + 2 * k) 1 0) (40 + 2 * k) 2 x) (40 + 2 * k) 3 y (40 + 2 * k) 2 = x
        rw [sx_u_s, if_neg (by decide), sx_u_s, if_pos rfl]
      · show sx_u (sx_u (sx_u u.1 (40 + 2 * k) 1 0) (40 + 2 * k) 2 x) (40 + 2 * k) 3 y (40 + 2 * k) 3 = y
        rw [sx_u_s, if_pos rfl]
      · simp only [List.mem_cons, List.not_mem_nil, or_false, not_or] at ha
        show sx_u (sx_u (sx_u u.1 (40 + 2 * k) 1 0) (40 + 2 * k) 2 x) (40 + 2 * k) 3 y a = u.1 a
        rw [sx_u_o ha.1, sx_u_o ha.1, sx_u_o ha.1]
    · have hc : (nI i).toNatClampNeg = i := nI_clamp (by omega)
      obtain ⟨f, fl, w', hev, hp⟩ := ih (u.1, sx_ul u.2 (41 + 2 * k) i 0) (hf.trans (fun a ha => ⟨rfl, by
        simp only [List.mem_cons, List.not_mem_nil, or_false, not_or] at ha
        show sx_ul u.2 (41 + 2 * k) i 0 a = u.2 a
        rw [sx_ul_o ha.2]⟩)) (fun j hj => by
        show sx_ul u.2 (41 + 2 * k) i 0 (41 + 2 * k) j = 0
        rw [sx_ul_s]
        by_cases e : j = i
        · rw [if_pos e]
        · rw [if_neg e]; exact hu j (by omega))
      refine ⟨f, fl, w', fun Q z => bSh_begin_2 hk (fun c => absurd c (nI_ge (b := 16) hi (by omega))) (fun _ => vp_in_nI hi (by decide)) (fun _ => ?_), hp⟩
      rw [hc, nI_1]; exact hev Q z
  obtain ⟨f, fl, w', hev, hp⟩ := loop 0 (by omega) w sg_fr.rfl' (fun j hj => by omega)
  exact ⟨f, fl, w', fun Q z => sx_met_of rfl rfl rfl rfl (bSh_begin_0 hk (hev Q z)), hp⟩
theorem sh_n16 {x : Int32} (h1 : x ≤ (16 : Int32)) (h2 : 0 ≤ x) : ∃ n : Nat, n ≤ 16 ∧ x = nI n := by
  rw [fa_le] at h1 h2
  have e1 : (16 : Int32).toInt = 16 := rfl
  have e0 : (0 : Int32).toInt = 0 := rfl
  obtain ⟨n, hn, rfl⟩ := sz_in_of (x := x) (n := 17) (sz_in_iff.mpr ⟨by omega, by omega⟩) (by decide)
  exact ⟨n, by omega, rfl⟩
theorem spSb_sheet {x1 x2 x3 : Int32} (h : sh_C s w) : sx_x (d + 1) rSb_sheet [.ref 0, .int x1, .int x2, .int x3] w (fun f fl w' => f = (sh_sheet s x1 x2 x3).1 ∧ fl = 0 ∧ sh_C (sh_sheet s x1 x2 x3).2 w' ∧ sg_fr [40, 41, 42, 43, 44, 45, 46, 47] w w') := by
  have m1 := spSb_isBadSheet (d := d) (w := w) (x := x1)
  have m2 := spSb_isBadLane (d := d) (w := w) (x := x2)
  have y1 : ¬ sz_b true = 0 := by decide
  unfold sh_sheet
  cases h1 : sz_in x1 4 with
  | false =>
    rw [h1] at m1
    exact ⟨-1, 0, w, fun Q z => sx_met_of rfl rfl rfl rfl (bSb_sheet_0 (f2 := 0) (w3 := w) m1 (fun _ => z) (fun c => absurd c y1) (fun c => absurd c y1) (fun c => absurd c y1) (fun c => absurd c y1) (fun c => absurd c y1) (fun c => absurd c y1) (fun c => absurd c y1)), rfl, rfl, h, sg_fr.rfl'⟩
  | true =>
    rw [h1] at m1
    cases h2 : sz_in x2 3 with
    | false =>
      rw [h2] at m2
      exact ⟨-1, 0, w, fun Q z => sx_met_of rfl rfl rfl rfl (bSb_sheet_0 (w3 := w) m1 (fun c => absurd rfl c) (fun _ => m2) (fun _ _ => z) (fun _ c => absurd c y1) (fun _ c => absurd c y1) (fun _ c => absurd c y1) (fun _ c => absurd c y1) (fun _ c => absurd c y1)), rfl, rfl, h, sg_fr.rfl'⟩
    | true =>
      rw [h2] at m2
      rw [if_pos (show (true && true) = true from rfl)]
      by_cases h3 : x3 ≤ (16 : Int32)
      · rw [if_pos h3]
        by_cases h4 : 0 ≤ x3
        · rw [if_pos h4]
          obtain ⟨k, hk, rfl⟩ := sz_in_of h1 (by decide)
          obtain ⟨l, hl, rfl⟩ := sz_in_of h2 (by decide)
          obtain ⟨n, hn, rfl⟩ := sh_n16 h3 h4
          have hck : (nI k).toNatClampNeg = k := nI_clamp (by omega)
          rw [hck, nI_clamp (show l < 2 ^ 31 by omega), nI_clamp (show n < 2 ^ 31 by omega)]
          obtain ⟨f, fl, w3, m3, rfl, rfl, p1, p2, p3, p4, p5⟩ := spSh_begin (d := d) (w := w) (k := k) (x := nI l) (y := nI n) hk
          refine ⟨nI n, 0, w3, fun Q z => sx_met_of rfl rfl rfl rfl (bSb_sheet_0 m1 (fun c => absurd rfl c) (fun _ => m2) (fun _ c => absurd rfl c) (fun _ _ _ _ => vp_in_nI hk (by decide)) (fun _ _ _ _ => by rw [hck]; exact m3) (fun _ _ _ _ => z) (fun _ _ _ c => absurd h4 c) (fun _ _ c => absurd h3 c)), rfl, rfl, sh_new_C h hk hl hn p1 p2 p3 p4 p5, fun a ha => p5 a ?_⟩
          obtain ⟨c1, c2⟩ := sh_cells hk ha
          simp only [List.mem_cons, List.not_mem_nil, or_false, not_or]
          exact ⟨c1, c2⟩
        · rw [if_neg h4]
          exact ⟨-14, 0, w, fun Q z => sx_met_of rfl rfl rfl rfl (bSb_sheet_0 (w3 := w) m1 (fun c => absurd rfl c) (fun _ => m2) (fun _ c => absurd rfl c) (fun _ _ _ c => absurd c h4) (fun _ _ _ c => absurd c h4) (fun _ _ _ c => absurd c h4) (fun _ _ _ _ => z) (fun _ _ c => absurd h3 c)), rfl, rfl, h, sg_fr.rfl'⟩
      · rw [if_neg h3]
        exact ⟨-1, 0, w, fun Q z => sx_met_of rfl rfl rfl rfl (bSb_sheet_0 (w3 := w) m1 (fun c => absurd rfl c) (fun _ => m2) (fun _ c => absurd rfl c) (fun _ _ c => absurd c h3) (fun _ _ c => absurd c h3) (fun _ _ c => absurd c h3) (fun _ _ c => absurd c h3) (fun _ _ _ => z)), rfl, rfl, h, sg_fr.rfl'⟩
theorem spMo_sheet {x1 x2 x3 : Int32} (h : sh_M s w) : sx_x (d + 2) rMo_sheet [.ref 48, .int x1, .int x2, .int x3] w (fun f fl w' => f = (sh_sheet s x1 x2 x3).1 ∧ fl = 0 ∧ sh_M (sh_sheet s x1 x2 x3).2 w' ∧ sg_fr [61, 62, 63] w w') := by
  have m1 := spMo_isSheet (d := d) (w := w) (x := x1)
  have m2 := spMo_isLane (d := d) (w := w) (x := x2)
  have y1 : ¬ sz_b true = 0 := by decide
  unfold sh_sheet
  cases h1 : sz_in x1 4 with
  | false =>
    rw [h1] at m1
    exact ⟨-1, 0, w, fun Q z => sx_met_of rfl rfl rfl rfl (bMo_sheet_0 (f2 := 0) m1 (fun _ => z) (fun c => absurd rfl c) (fun c => absurd rfl c) (fun c => absurd rfl c) (fun c => absurd rfl c) (fun c => absurd rfl c) (fun c => absurd rfl c)), rfl, rfl, h, sg_fr.rfl'⟩
  | true =>
    rw [h1] at m1
    cases h2 : sz_in x2 3 with
    | false =>
      rw [h2] at m2
      exact ⟨-1, 0, w, fun Q z => sx_met_of rfl rfl rfl rfl (bMo_sheet_0 m1 (fun c => absurd c y1) (fun _ => m2) (fun _ _ => z) (fun _ c => absurd rfl c) (fun _ c => absurd rfl c) (fun _ c => absurd rfl c) (fun _ c => absurd rfl c)), rfl, rfl, h, sg_fr.rfl'⟩
    | true =>
      rw [h2] at m2
      rw [if_pos (show (true && true) = true from rfl)]
      by_cases h3 : x3 ≤ (16 : Int32)
      · rw [if_pos h3]
        by_cases h4 : 0 ≤ x3
        · rw [if_pos h4]
          obtain ⟨k, hk, rfl⟩ := sz_in_of h1 (by decide)
          obtain ⟨l, hl, rfl⟩ := sz_in_of h2 (by decide)
          obtain ⟨n, hn, rfl⟩ := sh_n16 h3 h4
          have hck : (nI k).toNatClampNeg = k := nI_clamp (by omega)
          rw [hck, nI_clamp (show l < 2 ^ 31 by omega), nI_clamp (show n < 2 ^ 31 by omega)]
          have loop : ∀ i, i ≤ 16 → ∀ u, u.1 = sx_u (sx_u w.1 61 k (nI l)) 62 k (nI n) → (∀ a, a ≠ 63 → u.2 a = w.2 a) → (∀ j, u.2 63 j = if 16 * k ≤ j ∧ j < 16 * k + i then 0 else w.2 63 j) → sx_xe (d + 2) rMo_sheet 46 [.ref 48, .int (nI k), .null, .int (nI n), .int (nI i)] u (fun f fl w' => f = nI n ∧ fl = 0 ∧ w'.1 = sx_u (sx_u w.1 61 k (nI l)) 62 k (nI n) ∧ (∀ a, a ≠ 63 → w'.2 a = w.2 a) ∧ ∀ j, w'.2 63 j = if 16 * k ≤ j ∧ j < 16 * k + 16 then 0 else w.2 63 j) := by
            refine sx_for 16 (fun u e1 e2 e3 => ?_) (fun i hi ih u e1 e2 e3 => ?_)
            · exact ⟨_, 0, u, fun Q z => bMo_sheet_46 (fun _ => z) (fun c => absurd (by decide) c) (fun c => absurd (by decide) c), rfl, rfl, e1, e2, e3⟩
            · obtain ⟨f1, f2, f3⟩ := sh_16 hk hi
              obtain ⟨f, fl, w', hev, hp⟩ := ih (u.1, sx_ul u.2 63 (16 * k + i) 0) e1 (fun a ha => by
                show sx_ul u.2 63 (16 * k + i) 0 a = _
                rw [sx_ul_o ha]; exact e2 a ha) (fun j => by
                show sx_ul u.2 63 (16 * k + i) 0 63 j = _
                rw [sx_ul_s, e3 j]
                by_cases c : j = 16 * k + i
                · rw [if_pos c, if_pos (by omega)]
                · rw [if_neg c]
                  by_cases c2 : 16 * k ≤ j ∧ j < 16 * k + i
                  · rw [if_pos c2, if_pos (by omega)]
                  · rw [if_neg c2, if_neg (by omega)])
              refine ⟨f, fl, w', fun Q z => bMo_sheet_46 (fun c => absurd c (nI_ge (b := 16) hi (by omega))) (fun _ => by rw [f1]; exact f3) (fun _ => ?_), hp⟩
              rw [f1, f2, nI_1]; exact hev Q z
          obtain ⟨f, fl, w', hev, rfl, rfl, p1, p2, p3⟩ := loop 0 (by omega) (sx_u (sx_u w.1 61 k (nI l)) 62 k (nI n), w.2) rfl (fun _ _ => rfl) (fun j => by rw [if_neg (by omega)])
          refine ⟨nI n, 0, w', fun Q z => sx_met_of rfl rfl rfl rfl (bMo_sheet_0 m1 (fun c => absurd c y1) (fun _ => m2) (fun _ c => absurd c y1) (fun _ _ _ _ => vp_in_nI hk (by decide)) (fun _ _ _ _ => by rw [hck]; exact hev Q z) (fun _ _ _ c => absurd h4 c) (fun _ _ c => absurd h3 c)), rfl, rfl, ⟨fun k' hk' => ?_, fun k' hk' => ?_⟩, fun a ha => ?_⟩
          · show (sg_up s.1 k l k' < 3 ∨ sg_up s.1 k l k' = 9) ∧ sg_up s.2.1 k n k' ≤ 16
            by_cases e : k' = k
            · rw [e, sg_up_s, sg_up_s]; exact ⟨Or.inl hl, hn⟩
            · rw [sg_up_o e, sg_up_o e]; exact h.1 k' hk'
          · obtain ⟨q1, q2, q3⟩ := h.2 k' hk'
            show w'.1 61 k' = sh_lI (sg_up s.1 k l k') ∧ w'.1 62 k' = nI (sg_up s.2.1 k n k') ∧ ∀ i, i < 16 → w'.2 63 (16 * k' + i) = if k' = k then 0 else s.2.2 k' i
            rw [p1, sx_u_o (by decide), sx_u_s, sx_u_s]
            by_cases e : k' = k
            · rw [if_pos e, if_pos e, e, sg_up_s, sg_up_s, sh_lI, if_pos hl]
              exact ⟨rfl, rfl, fun i hi => by rw [p3, if_pos (by omega), if_pos rfl]⟩
            · rw [if_neg e, if_neg e, sg_up_o e, sg_up_o e, sx_u_o (by decide)]
              exact ⟨q1, q2, fun i hi => by rw [p3, if_neg (by omega), if_neg e]; exact q3 i hi⟩
          · simp only [List.mem_cons, List.not_mem_nil, or_false, not_or] at ha
            rw [p1]
            exact ⟨by rw [sx_u_o ha.2.1, sx_u_o ha.1], p2 a ha.2.2⟩
        · rw [if_neg h4]
          exact ⟨-14, 0, w, fun Q z => sx_met_of rfl rfl rfl rfl (bMo_sheet_0 m1 (fun c => absurd c y1) (fun _ => m2) (fun _ c => absurd c y1) (fun _ _ _ c => absurd c h4) (fun _ _ _ c => absurd c h4) (fun _ _ _ _ => z) (fun _ _ c => absurd h3 c)), rfl, rfl, h, sg_fr.rfl'⟩
      · rw [if_neg h3]
        exact ⟨-1, 0, w, fun Q z => sx_met_of rfl rfl rfl rfl (bMo_sheet_0 m1 (fun c => absurd c y1) (fun _ => m2) (fun _ c => absurd c y1) (fun _ _ c => absurd c h3) (fun _ _ c => absurd c h3) (fun _ _ c => absurd c h3) (fun _ _ _ => z)), rfl, rfl, h, sg_fr.rfl'⟩
end
