/-! ===== copy, the model ===== -/
section
variable {d : Nat} {w : sx_W} {s : sh_T}
theorem sh_rf_r {k : Nat} {x n : Int32} (h9 : ¬ s.1 k = 9) : sh_rf s k (nI (s.1 k)) x n = if sh_rch x n (s.2.1 k) then 0 else -13 := by
  unfold sh_rf
  rw [if_neg h9, if_neg (fun c => c rfl)]
theorem sh_163 {k i m : Nat} (hk : k < 4) (hi : i + m < 16) : (16 : Int32) * nI k + nI i + nI m = nI (16 * k + (i + m)) ∧ (nI (16 * k + (i + m))).toNatClampNeg = 16 * k + (i + m) ∧ vp_in (nI (16 * k + (i + m))) 64 := by
  refine ⟨?_, nI_clamp (by omega), vp_in_nI (by omega) (by decide)⟩
  rw [show (16 : Int32) = nI 16 from rfl, pk_mul, nI_add, nI_add, Nat.add_assoc]
theorem spMo_copy {x1 x2 x3 x4 x5 : Int32} (h : sh_M s w) : sx_x (d + 2) rMo_copy [.ref 48, .int x1, .int x2, .int x3, .int x4, .int x5] w (fun f fl w' => f = (sh_copy s x1 x2 x3 x4 x5).1 ∧ fl = 0 ∧ sh_M (sh_copy s x1 x2 x3 x4 x5).2 w' ∧ sg_fr [61, 62, 63, 64] w w') := by
  have m1 := spMo_isSheet (d := d) (w := w) (x := x1)
  have m2 := spMo_isSheet (d := d) (w := w) (x := x3)
  have y1 : ¬ sz_b true = 0 := by decide
  unfold sh_copy
  cases h1 : sz_in x1 4 with
  | false =>
    rw [h1] at m1
    exact ⟨-1, 0, w, fun Q z => sx_met_of rfl rfl rfl rfl (bMo_copy_0 (f2 := 0) (f3 := 0) (f4 := 0) m1 (fun _ => z) (fun c => absurd rfl c) (fun c => absurd rfl c) (fun c => absurd rfl c) (fun c => absurd rfl c) (fun c => absurd rfl c) (fun c => absurd rfl c) (fun c => absurd rfl c) (fun c => absurd rfl c) (fun c => absurd rfl c) (fun c => absurd rfl c) (fun c => absurd rfl c) (fun c => absurd rfl c) (fun c => absurd rfl c)), rfl, rfl, h, sg_fr.rfl'⟩
  | true =>
    rw [h1] at m1
    cases h3 : sz_in x3 4 with
    | false =>
      rw [h3] at m2
      exact ⟨-1, 0, w, fun Q z => sx_met_of rfl rfl rfl rfl (bMo_copy_0 (f3 := 0) (f4 := 0) m1 (fun c => absurd c y1) (fun _ => m2) (fun _ c => absurd rfl c) (fun _ c => absurd rfl c) (fun _ c => absurd rfl c) (fun _ c => absurd rfl c) (fun _ c => absurd rfl c) (fun _ c => absurd rfl c) (fun _ c => absurd rfl c) (fun _ c => absurd rfl c) (fun _ c => absurd rfl c) (fun _ c => absurd rfl c) (fun _ c => absurd rfl c) (fun _ _ => z)), rfl, rfl, h, sg_fr.rfl'⟩
    | true =>
      rw [h3] at m2
      rw [if_pos (show (true && true) = true from rfl)]
      obtain ⟨a, ha, rfl⟩ := sz_in_of h1 (by decide)
      obtain ⟨b, hb, rfl⟩ := sz_in_of h3 (by decide)
      have hca : (nI a).toNatClampNeg = a := nI_clamp (by omega)
      have hcb : (nI b).toNatClampNeg = b := nI_clamp (by omega)
      have va : vp_in (nI a) 4 := vp_in_nI ha (by decide)
      have vb : vp_in (nI b) 4 := vp_in_nI hb (by decide)
      rw [hca, hcb]
      obtain ⟨a1, a2, a4⟩ := h.2 a ha
      obtain ⟨b1, b2, b4⟩ := h.2 b hb
      by_cases h9a : s.1 a = 9
      · rw [if_pos (Or.inl h9a)]
        have y0 : w.1 61 (nI a).toNatClampNeg < 0 := by rw [hca, a1, h9a]; decide
        exact ⟨-11, 0, w, fun Q z => sx_met_of rfl rfl rfl rfl (bMo_copy_0 (f3 := 0) (f4 := 0) m1 (fun c => absurd c y1) (fun _ => m2) (fun _ _ => va) (fun _ _ _ => z) (fun _ _ c => absurd y0 c) (fun _ _ c => absurd y0 c) (fun _ _ c => absurd y0 c) (fun _ _ c => absurd y0 c) (fun _ _ c => absurd y0 c) (fun _ _ c => absurd y0 c) (fun _ _ c => absurd y0 c) (fun _ _ c => absurd y0 c) (fun _ _ c => absurd y0 c) (fun _ c => absurd c y1)), rfl, rfl, h, sg_fr.rfl'⟩
      have la : s.1 a < 3 := by rcases (h.1 a ha).1 with c | c <;> omega
      have ea : w.1 61 (nI a).toNatClampNeg = nI (s.1 a) := by rw [hca, a1]; exact if_pos la
      have na : ¬ w.1 61 (nI a).toNatClampNeg < 0 := by rw [ea]; exact nI_pos (by omega)
      by_cases h9b : s.1 b = 9
      · rw [if_pos (Or.inr h9b)]
        have n0 : ¬ 0 ≤ w.1 61 (nI b).toNatClampNeg := by rw [hcb, b1, h9b]; decide
        exact ⟨-11, 0, w, fun Q z => sx_met_of rfl rfl rfl rfl (bMo_copy_0 (f3 := 0) (f4 := 0) m1 (fun c => absurd c y1) (fun _ => m2) (fun _ _ => va) (fun _ _ c => absurd c na) (fun _ _ _ => vb) (fun _ _ _ c => absurd c n0) (fun _ _ _ c => absurd c n0) (fun _ _ _ c => absurd c n0) (fun _ _ _ c => absurd c n0) (fun _ _ _ c => absurd c n0) (fun _ _ _ c => absurd c n0) (fun _ _ _ c => absurd c n0) (fun _ _ _ _ => z) (fun _ c => absurd c y1)), rfl, rfl, h, sg_fr.rfl'⟩
      have lb : s.1 b < 3 := by rcases (h.1 b hb).1 with c | c <;> omega
      have eb : w.1 61 (nI b).toNatClampNeg = nI (s.1 b) := by rw [hcb, b1]; exact if_pos lb
      have pb : 0 ≤ w.1 61 (nI b).toNatClampNeg := by rw [eb]; exact nI_pos' (by omega)
      rw [if_neg (fun c => c.elim h9a h9b)]
      by_cases hl : s.1 a = s.1 b
      · rw [if_neg (fun c => c hl)]
        have yl : w.1 61 (nI a).toNatClampNeg = w.1 61 (nI b).toNatClampNeg := by rw [ea, eb, hl]
        by_cases h5 : x5 < 0
        · have h0 : (0 : Int32).toInt = 0 := rfl
          have e : sh_rch x2 x5 (s.2.1 a) = false := by
            unfold sh_rch
            rw [fa_lt] at h5
            exact decide_eq_false (by omega)
          rw [e, if_neg (show ¬ (false && sh_rch x4 x5 (s.2.1 b)) = true from Bool.false_ne_true)]
          exact ⟨-13, 0, w, fun Q z => sx_met_of rfl rfl rfl rfl (bMo_copy_0 (f3 := 0) (f4 := 0) m1 (fun c => absurd c y1) (fun _ => m2) (fun _ _ => va) (fun _ _ c => absurd c na) (fun _ _ _ => vb) (fun _ _ _ _ _ _ => z) (fun _ _ _ _ _ c => absurd h5 c) (fun _ _ _ _ _ c => absurd h5 c) (fun _ _ _ _ _ c => absurd h5 c) (fun _ _ _ _ _ c => absurd h5 c) (fun _ _ _ _ _ c => absurd h5 c) (fun _ _ _ _ c => absurd yl c) (fun _ _ _ c => absurd pb c) (fun _ c => absurd c y1)), rfl, rfl, h, sg_fr.rfl'⟩
        have h50 : 0 ≤ x5.toInt := by
          have h0 : (0 : Int32).toInt = 0 := rfl
          rw [fa_lt] at h5; omega
        have m3 := spMo_why (d := d + 1) (x2 := nI (s.1 a)) (x3 := x2) (n := x5) h ha h50
        have m4 := spMo_why (d := d + 1) (x2 := nI (s.1 b)) (x3 := x4) (n := x5) h hb h50
        rw [sh_rf_r h9a] at m3
        rw [sh_rf_r h9b] at m4
        cases hr : sh_rch x2 x5 (s.2.1 a) with
        | false =>
          rw [hr] at m3
          have y3 : (if false = true then (0 : Int32) else -13) < 0 := by decide
          exact ⟨-13, 0, w, fun Q z => sx_met_of rfl rfl rfl rfl (bMo_copy_0 (f3 := if false = true then (0 : Int32) else -13) (f4 := 0) m1 (fun c => absurd c y1) (fun _ => m2) (fun _ _ => va) (fun _ _ c => absurd c na) (fun _ _ _ => vb) (fun _ _ _ _ _ c => absurd c h5) (fun _ _ _ _ _ _ => by rw [ea]; exact m3) (fun _ _ _ _ _ _ _ => z) (fun _ _ _ _ _ _ c => absurd y3 c) (fun _ _ _ _ _ _ c => absurd y3 c) (fun _ _ _ _ _ _ c => absurd y3 c) (fun _ _ _ _ c => absurd yl c) (fun _ _ _ c => absurd pb c) (fun _ c => absurd c y1)), rfl, rfl, h, sg_fr.rfl'⟩
        | true =>
          rw [hr] at m3
          have n3 : ¬ (if true = true then (0 : Int32) else -13) < 0 := by decide
          cases hr2 : sh_rch x4 x5 (s.2.1 b) with
          | false =>
            rw [hr2] at m4
            have n4 : ¬ 0 ≤ (if false = true then (0 : Int32) else -13) := by decide
            exact ⟨-13, 0, w, fun Q z => sx_met_of rfl rfl rfl rfl (bMo_copy_0 (f3 := if true = true then (0 : Int32) else -13) (f4 := if false = true then (0 : Int32) else -13) m1 (fun c => absurd c y1) (fun _ => m2) (fun _ _ => va) (fun _ _ c => absurd c na) (fun _ _ _ => vb) (fun _ _ _ _ _ c => absurd c h5) (fun _ _ _ _ _ _ => by rw [ea]; exact m3) (fun _ _ _ _ _ _ c => absurd c n3) (fun _ _ _ _ _ _ _ => by rw [eb]; exact m4) (fun _ _ _ _ _ _ _ c => absurd c n4) (fun _ _ _ _ _ _ _ _ => z) (fun _ _ _ _ c => absurd yl c) (fun _ _ _ c => absurd pb c) (fun _ c => absurd c y1)), rfl, rfl, h, sg_fr.rfl'⟩
          | true =>
            rw [hr2] at m4
            have p4 : 0 ≤ (if true = true then (0 : Int32) else -13) := by decide
            have hza := (h.1 a ha).2
            have hzb := (h.1 b hb).2
            obtain ⟨i, n, rfl, rfl, hin⟩ := sh_rch_of hza hr
            obtain ⟨j, n', rfl, en, hjn⟩ := sh_rch_of hzb hr2
            have hnn : n = n' := (nI_eq (by omega) (by omega)).mp en
            subst hnn
            have hci : (nI i).toNatClampNeg = i := nI_clamp (by omega)
            have hcj : (nI j).toNatClampNeg = j := nI_clamp (by omega)
            have hcn : (nI n).toNatClampNeg = n := nI_clamp (by omega)
            rw [if_pos (show (true && true) = true from rfl), hci, hcj, hcn]
            -- back
            have back : ∀ m, m ≤ n → ∀ u, u.1 = w.1 → (∀ c, c ≠ 63 → c ≠ 64 → u.2 c = w.2 c) → (∀ y, y < n → u.2 64 y = s.2.2 a (i + y)) → (∀ y, u.2 63 y = if 16 * b + j ≤ y ∧ y < 16 * b + j + m then s.2.2 a (i + (y - (16 * b + j))) else w.2 63 y) → sx_xe (d + 2) rMo_copy 138 [.ref 48, .null, .null, .int (nI b), .int (nI j), .int (nI n), .int (nI m)] u (fun f fl w' => f = nI n ∧ fl = 0 ∧ w'.1 = w.1 ∧ (∀ c, c ≠ 63 → c ≠ 64 → w'.2 c = w.2 c) ∧ ∀ y, w'.2 63 y = if 16 * b + j ≤ y ∧ y < 16 * b + j + n then s.2.2 a (i + (y - (16 * b + j))) else w.2 63 y) := by
              refine sx_for n (fun u e1 e2 e3 e4 => ?_) (fun m hm ih u e1 e2 e3 e4 => ?_)
              · have c : nI n ≤ nI n := nI_le (Nat.le_refl _) (by omega)
                exact ⟨_, 0, u, fun Q z => bMo_copy_138 (fun _ => z) (fun x => absurd c x) (fun x => absurd c x) (fun x => absurd c x), rfl, rfl, e1, e2, e4⟩
              · have nn : ¬ nI n ≤ nI m := nI_ge hm (by omega)
                have hcm : (nI m).toNatClampNeg = m := nI_clamp (by omega)
                obtain ⟨f1, f2, f3⟩ := sh_163 (k := b) (i := j) (m := m) hb (by omega)
                obtain ⟨f, fl, w', hev, hp⟩ := ih (u.1, sx_ul u.2 63 (16 * b + (j + m)) (s.2.2 a (i + m))) e1 (fun c c1 c2 => by
                  show sx_ul u.2 63 (16 * b + (j + m)) (s.2.2 a (i + m)) c = _
                  rw [sx_ul_o c1]; exact e2 c c1 c2) (fun y hy => by
                  show sx_ul u.2 63 (16 * b + (j + m)) (s.2.2 a (i + m)) 64 y = _
                  rw [sx_ul_o (by decide)]; exact e3 y hy) (fun y => by
                  show sx_ul u.2 63 (16 * b + (j + m)) (s.2.2 a (i + m)) 63 y = _
                  rw [sx_ul_s, e4 y]
                  by_cases c : y = 16 * b + (j + m)
                  · rw [if_pos c, if_pos (by omega)]
                    exact congrArg (s.2.2 a) (by omega)
                  · rw [if_neg c]
                    by_cases c2 : 16 * b + j ≤ y ∧ y < 16 * b + j + m
                    · rw [if_pos c2, if_pos (by omega)]
                    · rw [if_neg c2, if_neg (by omega)])
                refine ⟨f, fl, w', fun Q z => bMo_copy_138 (fun c => absurd c nn) (fun _ => vp_in_nI (by omega) (by decide)) (fun _ => by rw [f1]; exact f3) (fun _ => ?_), hp⟩
                rw [f1, f2, hcm, e3 m hm, nI_1]; exact hev Q z
            -- away
            have away : ∀ m, m ≤ n → ∀ u, u.1 = w.1 → (∀ c, c ≠ 64 → u.2 c = w.2 c) → (∀ y, y < m → u.2 64 y = s.2.2 a (i + y)) → sx_xe (d + 2) rMo_copy 101 [.ref 48, .int (nI a), .int (nI i), .int (nI b), .int (nI j), .int (nI n), .int (nI m)] u (fun f fl w' => f = nI n ∧ fl = 0 ∧ w'.1 = w.1 ∧ (∀ c, c ≠ 63 → c ≠ 64 → w'.2 c = w.2 c) ∧ ∀ y, w'.2 63 y = if 16 * b + j ≤ y ∧ y < 16 * b + j + n then s.2.2 a (i + (y - (16 * b + j))) else w.2 63 y) := by
              refine sx_for n (fun u e1 e2 e3 => ?_) (fun m hm ih u e1 e2 e3 => ?_)
              · have c : nI n ≤ nI n := nI_le (Nat.le_refl _) (by omega)
                obtain ⟨f, fl, w', hev, hp⟩ := back 0 (Nat.zero_le _) u e1 (fun c _ c2 => e2 c c2) e3 (fun y => by rw [if_neg (by omega), e2 63 (by decide)])
                exact ⟨f, fl, w', fun Q z => bMo_copy_101 (fun _ => hev Q z) (fun x => absurd c x) (fun x => absurd c x) (fun x => absurd c x), hp⟩
              · have nn : ¬ nI n ≤ nI m := nI_ge hm (by omega)
                have hcm : (nI m).toNatClampNeg = m := nI_clamp (by omega)
                obtain ⟨f1, f2, f3⟩ := sh_163 (k := a) (i := i) (m := m) ha (by omega)
                have e63 : u.2 63 (16 * a + (i + m)) = s.2.2 a (i + m) := by rw [e2 63 (by decide)]; exact a4 (i + m) (by omega)
                obtain ⟨f, fl, w', hev, hp⟩ := ih (u.1, sx_ul u.2 64 m (s.2.2 a (i + m))) e1 (fun c c1 => by
                  show sx_ul u.2 64 m (s.2.2 a (i + m)) c = _
                  rw [sx_ul_o c1]; exact e2 c c1) (fun y hy => by
                  show sx_ul u.2 64 m (s.2.2 a (i + m)) 64 y = _
                  rw [sx_ul_s]
                  by_cases c : y = m
                  · rw [if_pos c, c]
                  · rw [if_neg c]; exact e3 y (by omega))
                refine ⟨f, fl, w', fun Q z => bMo_copy_101 (fun c => absurd c nn) (fun _ => by rw [f1]; exact f3) (fun _ => vp_in_nI (by omega) (by decide)) (fun _ => ?_), hp⟩
                rw [f1, f2, hcm, e63, nI_1]; exact hev Q z
            obtain ⟨f, fl, w', hev, rfl, rfl, p1, p2, p3⟩ := away 0 (Nat.zero_le _) w rfl (fun _ _ => rfl) (fun y hy => by omega)
            refine ⟨nI n, 0, w', fun Q z => sx_met_of rfl rfl rfl rfl (bMo_copy_0 (f3 := if true = true then (0 : Int32) else -13) (f4 := if true = true then (0 : Int32) else -13) m1 (fun c => absurd c y1) (fun _ => m2) (fun _ _ => va) (fun _ _ c => absurd c na) (fun _ _ _ => vb) (fun _ _ _ _ _ c => absurd c h5) (fun _ _ _ _ _ _ => by rw [ea]; exact m3) (fun _ _ _ _ _ _ c => absurd c n3) (fun _ _ _ _ _ _ _ => by rw [eb]; exact m4) (fun _ _ _ _ _ _ _ _ => hev Q z) (fun _ _ _ _ _ _ _ c => absurd p4 c) (fun _ _ _ _ c => absurd yl c) (fun _ _ _ c => absurd pb c) (fun _ c => absurd c y1)), rfl, rfl, ⟨h.1, fun k hk => ?_⟩, fun c hc => ?_⟩
            · obtain ⟨q1, q2, q3⟩ := h.2 k hk
              rw [p1]
              refine ⟨q1, q2, fun x hx => ?_⟩
              show w'.2 63 (16 * k + x) = if k = b ∧ j ≤ x ∧ x < j + n then s.2.2 a (i + (x - j)) else s.2.2 k x
              rw [p3]
              by_cases e : k = b ∧ j ≤ x ∧ x < j + n
              · rw [if_pos (by omega), if_pos e]
                exact congrArg (s.2.2 a) (by omega)
              · rw [if_neg (by omega), if_neg e]; exact q3 x hx
            · simp only [List.mem_cons, List.not_mem_nil, or_false, not_or] at hc
              rw [p1]
              exact ⟨rfl, p2 c hc.2.2.1 hc.2.2.2⟩
      · rw [if_pos hl]
        have nl : ¬ w.1 61 (nI a).toNatClampNeg = w.1 61 (nI b).toNatClampNeg := by rw [ea, eb, sh_l0 la lb]; exact hl
        exact ⟨-12, 0, w, fun Q z => sx_met_of rfl rfl rfl rfl (bMo_copy_0 (f3 := 0) (f4 := 0) m1 (fun c => absurd c y1) (fun _ => m2) (fun _ _ => va) (fun _ _ c => absurd c na) (fun _ _ _ => vb) (fun _ _ _ _ c => absurd c nl) (fun _ _ _ _ c => absurd c nl) (fun _ _ _ _ c => absurd c nl) (fun _ _ _ _ c => absurd c nl) (fun _ _ _ _ c => absurd c nl) (fun _ _ _ _ c => absurd c nl) (fun _ _ _ _ _ => z) (fun _ _ _ c => absurd pb c) (fun _ c => absurd c y1)), rfl, rfl, h, sg_fr.rfl'⟩
end
