/-! ===== film ===== -/
def sh_fl (s : sh_T) (k i : Nat) (r : Nat → Nat) : Nat → sh_T
  | 0 => s
  | m + 1 => sh_put (sh_fl s k i r m) k (i + m) (nI (r m)).toInt64
theorem sh_fl_l (s : sh_T) (k i : Nat) (r : Nat → Nat) : ∀ m, (sh_fl s k i r m).1 = s.1 ∧ (sh_fl s k i r m).2.1 = s.2.1
  | 0 => ⟨rfl, rfl⟩
  | m + 1 => sh_fl_l s k i r m
def sh_film (s : sh_T) (n : Nat) (t : Bool) (r : Nat → Nat) (x1 x2 x3 : Int32) : Int32 × sh_T := if sz_in x1 4 && sz_in x2 3 then (if t then (if sh_rf s x1.toNatClampNeg x2 x3 (nI n) = 0 then (nI n, sh_fl s x1.toNatClampNeg x3.toNatClampNeg r n) else (sh_rf s x1.toNatClampNeg x2 x3 (nI n), s)) else (-2, s)) else (-1, s)
section
variable {d : Nat} {w : sx_W} {s : sh_T} {L : sg_L} {b : Nat} {r : Nat → Nat}
theorem spSb_film {x1 x2 x3 : Int32} {t : Bool} (hs : sh_C s w) (h : sg_Co L b r w) (ht : w.1 1 7 = sz_b t) : sx_x (d + 2) rSb_film [.ref 0, .int x1, .int x2, .int x3] w (fun f fl w' => f = (sh_film s L.1 t r x1 x2 x3).1 ∧ fl = 0 ∧ sh_C (sh_film s L.1 t r x1 x2 x3).2 w' ∧ sg_fr [40, 41, 42, 43, 44, 45, 46, 47] w w') := by
  have h7 := h.1.1.1
  have m1 := spSb_isBadSheet (d := d + 1) (w := w) (x := x1)
  have m2 := spSb_isBadLane (d := d + 1) (w := w) (x := x2)
  have y1 : ¬ sz_b true = 0 := by decide
  unfold sh_film
  cases h1 : sz_in x1 4 with
  | false =>
    rw [h1] at m1
    exact ⟨-1, 0, w, fun Q z => sx_met_of rfl rfl rfl rfl (bSb_film_0 (f2 := 0) (f3 := 0) m1 (fun _ => z) (fun c => absurd c y1) (fun c => absurd c y1) (fun c => absurd c y1) (fun c => absurd c y1) (fun c => absurd c y1) (fun c => absurd c y1)), rfl, rfl, hs, sg_fr.rfl'⟩
  | true =>
    rw [h1] at m1
    cases h2 : sz_in x2 3 with
    | false =>
      rw [h2] at m2
      exact ⟨-1, 0, w, fun Q z => sx_met_of rfl rfl rfl rfl (bSb_film_0 (f3 := 0) m1 (fun c => absurd rfl c) (fun _ => m2) (fun _ c => absurd c y1) (fun _ c => absurd c y1) (fun _ c => absurd c y1) (fun _ c => absurd c y1) (fun _ _ => z)), rfl, rfl, hs, sg_fr.rfl'⟩
    | true =>
      rw [h2] at m2
      rw [if_pos (show (true && true) = true from rfl)]
      cases t with
      | false =>
        have y0 : w.1 1 7 = 0 := ht
        exact ⟨-2, 0, w, fun Q z => sx_met_of rfl rfl rfl rfl (bSb_film_0 (f3 := 0) m1 (fun c => absurd rfl c) (fun _ => m2) (fun _ _ c => absurd y0 c) (fun _ _ c => absurd y0 c) (fun _ _ c => absurd y0 c) (fun _ _ _ => z) (fun _ c => absurd rfl c)), rfl, rfl, hs, sg_fr.rfl'⟩
      | true =>
        rw [if_pos rfl]
        have n0 : ¬ w.1 1 7 = 0 := by rw [ht]; exact y1
        have m3 := spSb_refusalOfItems (d := d) (x1 := x1) (x2 := x2) (x3 := x3) (n := nI L.1) hs
        obtain ⟨k, hk, rfl⟩ := sz_in_of h1 (by decide)
        have hck : (nI k).toNatClampNeg = k := nI_clamp (by omega)
        have e : sh_ref s (nI k) x2 x3 (nI L.1) = sh_rf s k x2 x3 (nI L.1) := by unfold sh_ref; rw [h1, h2, hck]; rfl
        rw [e, ← h.1.2.1] at m3
        rw [hck]
        rw [h.1.2.1] at m3
        by_cases h0 : sh_rf s k x2 x3 (nI L.1) = 0
        · rw [if_pos h0]
          obtain ⟨hl, -, i, m, rfl, e1, him⟩ := sh_rf_0 hs.1 hk h0
          have hz := (hs.1 k hk).2
          have hm : L.1 = m := (nI_eq (by omega) (by omega)).mp e1
          rw [nI_clamp (show i < 2 ^ 31 by omega)]
          have loop : ∀ l, l ≤ L.1 → ∀ u, sh_C (sh_fl s k i r l) u → sg_fr [40, 41, 42, 43, 44, 45, 46, 47] w u → sx_xe (d + 2) rSb_film 56 [.ref 0, .int (nI k), .null, .int (nI i), .null, .int (nI l)] u (fun f fl w' => f = nI L.1 ∧ fl = 0 ∧ sh_C (sh_fl s k i r L.1) w' ∧ sg_fr [40, 41, 42, 43, 44, 45, 46, 47] w w') := by
            refine sx_for L.1 (fun u hu hf => ?_) (fun l hl2 ih u hu hf => ?_)
            · have hCu := h.fr hf (by decide)
              have nc : ¬ ¬ u.1 1 4 ≤ nI L.1 := fun c => c (by rw [hCu.1.2.1]; exact nI_le (Nat.le_refl _) (by omega))
              refine ⟨nI L.1, 0, u, fun Q z => bSb_film_56 (w1 := u) (fun _ => ?_) (fun c => absurd c nc) (fun c => absurd c nc) (fun c => absurd c nc) (fun c => absurd c nc), rfl, rfl, hu, hf⟩
              rw [hCu.1.2.1]; exact z
            · have hCu := h.fr hf (by decide)
              have nn : ¬ u.1 1 4 ≤ nI l := by rw [hCu.1.2.1]; exact nI_ge hl2 (by omega)
              have hcl : (nI l).toNatClampNeg = l := nI_clamp (by omega)
              have hr := (hCu.2.2.2.2 l (by omega)).1
              have hlane : (sh_fl s k i r l).1 k < 3 := by rw [(sh_fl_l s k i r l).1]; exact hl
              have m4 := spSh_put (d := d + 1) (y := (nI (r l)).toInt64) hu hk hlane (show i + l < 16 by omega)
              obtain ⟨f, fl, w', hev, hp⟩ := ih _ (sh_put_C hu hk) (hf.trans (fun a ha => ⟨rfl, sx_ul_o (sh_cells hk ha).2⟩))
              refine ⟨f, fl, w', fun Q z => bSb_film_56 (fun c => absurd c nn) (fun _ => vp_in_nI hk (by decide)) (fun _ => vp_in_nI (by omega) (by decide)) (fun _ => by rw [hck, hcl, hr, nI_add]; exact m4) (fun _ => ?_), hp⟩
              rw [nI_1]; exact hev Q z
          obtain ⟨f, fl, w', hev, hp⟩ := loop 0 (Nat.zero_le _) w hs sg_fr.rfl'
          exact ⟨f, fl, w', fun Q z => sx_met_of rfl rfl rfl rfl (bSb_film_0 m1 (fun c => absurd rfl c) (fun _ => m2) (fun _ _ _ => by rw [h.1.2.1]; exact m3) (fun _ _ _ _ => hev Q z) (fun _ _ _ c => absurd h0 c) (fun _ _ c => absurd c n0) (fun _ c => absurd rfl c)), hp⟩
        · rw [if_neg h0]
          exact ⟨_, 0, w, fun Q z => sx_met_of rfl rfl rfl rfl (bSb_film_0 m1 (fun c => absurd rfl c) (fun _ => m2) (fun _ _ _ => by rw [h.1.2.1]; exact m3) (fun _ _ _ c => absurd c h0) (fun _ _ _ _ => z) (fun _ _ c => absurd c n0) (fun _ c => absurd rfl c)), rfl, rfl, hs, sg_fr.rfl'⟩
theorem spMo_film {x1 x2 x3 : Int32} {t : Bool} (hs : sh_M s w) (h : sg_Mo L b t r w) : sx_x (d + 2) rMo_film [.ref 48, .int x1, .int x2, .int x3] w (fun f fl w' => f = (sh_film s L.1 t r x1 x2 x3).1 ∧ fl = 0 ∧ sh_M (sh_film s L.1 t r x1 x2 x3).2 w' ∧ sg_fr [61, 62, 63] w w') := by
  have h7 := h.1.1.1
  have m1 := spMo_isSheet (d := d) (w := w) (x := x1)
  have m2 := spMo_isLane (d := d) (w := w) (x := x2)
  have y1 : ¬ sz_b true = 0 := by decide
  unfold sh_film
  cases h1 : sz_in x1 4 with
  | false =>
    rw [h1] at m1
    exact ⟨-1, 0, w, fun Q z => sx_met_of rfl rfl rfl rfl (bMo_film_0 (f2 := 0) (f3 := 0) m1 (fun _ => z) (fun c => absurd rfl c) (fun c => absurd rfl c) (fun c => absurd rfl c) (fun c => absurd rfl c) (fun c => absurd rfl c) (fun c => absurd rfl c)), rfl, rfl, hs, sg_fr.rfl'⟩
  | true =>
    rw [h1] at m1
    cases h2 : sz_in x2 3 with
    | false =>
      rw [h2] at m2
      exact ⟨-1, 0, w, fun Q z => sx_met_of rfl rfl rfl rfl (bMo_film_0 (f3 := 0) m1 (fun c => absurd c y1) (fun _ => m2) (fun _ c => absurd rfl c) (fun _ c => absurd rfl c) (fun _ c => absurd rfl c) (fun _ c => absurd rfl c) (fun _ _ => z)), rfl, rfl, hs, sg_fr.rfl'⟩
    | true =>
      rw [h2] at m2
      rw [if_pos (show (true && true) = true from rfl)]
      cases t with
      | false =>
        have y0 : w.1 48 5 = 0 := h.2.2.2.1
        exact ⟨-2, 0, w, fun Q z => sx_met_of rfl rfl rfl rfl (bMo_film_0 (f3 := 0) m1 (fun c => absurd c y1) (fun _ => m2) (fun _ _ c => absurd y0 c) (fun _ _ c => absurd y0 c) (fun _ _ c => absurd y0 c) (fun _ _ _ => z) (fun _ c => absurd c y1)), rfl, rfl, hs, sg_fr.rfl'⟩
      | true =>
        rw [if_pos rfl]
        have n0 : ¬ w.1 48 5 = 0 := by rw [h.2.2.2.1]; exact y1
        obtain ⟨k, hk, rfl⟩ := sz_in_of h1 (by decide)
        have hck : (nI k).toNatClampNeg = k := nI_clamp (by omega)
        have m3 := spMo_why (d := d + 1) (x2 := x2) (x3 := x3) (n := nI L.1) hs hk (by rw [nI_toInt (by omega)]; omega)
        rw [hck]
        by_cases h0 : sh_rf s k x2 x3 (nI L.1) = 0
        · rw [if_pos h0]
          have p0 : 0 ≤ sh_rf s k x2 x3 (nI L.1) := sh_rf_neg.mpr h0
          obtain ⟨hl, -, i, m, rfl, e1, him⟩ := sh_rf_0 hs.1 hk h0
          have hz := (hs.1 k hk).2
          have hm : L.1 = m := (nI_eq (by omega) (by omega)).mp e1
          rw [nI_clamp (show i < 2 ^ 31 by omega)]
          have loop : ∀ l, l ≤ L.1 → ∀ u, sh_M (sh_fl s k i r l) u → sg_fr [61, 62, 63] w u → sx_xe (d + 2) rMo_film 50 [.ref 48, .int (nI k), .null, .int (nI i), .null, .int (nI l)] u (fun f fl w' => f = nI L.1 ∧ fl = 0 ∧ sh_M (sh_fl s k i r L.1) w' ∧ sg_fr [61, 62, 63] w w') := by
            refine sx_for L.1 (fun u hu hf => ?_) (fun l hl2 ih u hu hf => ?_)
            · have hCu := h.fr' hf (by decide)
              have nc : ¬ ¬ u.1 48 0 ≤ nI L.1 := fun c => c (by rw [hCu.1.2.1]; exact nI_le (Nat.le_refl _) (by omega))
              refine ⟨nI L.1, 0, u, fun Q z => bMo_film_50 (w1 := u) (fun _ => ?_) (fun c => absurd c nc) (fun c => absurd c nc) (fun c => absurd c nc), rfl, rfl, hu, hf⟩
              rw [hCu.1.2.1]; exact z
            · have hCu := h.fr' hf (by decide)
              have nn : ¬ u.1 48 0 ≤ nI l := by rw [hCu.1.2.1]; exact nI_ge hl2 (by omega)
              have hcl : (nI l).toNatClampNeg = l := nI_clamp (by omega)
              have hr := (hCu.2.2.2.2 rfl l hl2).1
              have hlane : (sh_fl s k i r l).1 k < 3 := by rw [(sh_fl_l s k i r l).1]; exact hl
              have m4 := spMo_puts (d := d + 1) (y := (nI (r l)).toInt64) hu hk hlane (show i + l < 16 by omega)
              obtain ⟨f, fl, w', hev, hp⟩ := ih _ (sh_put_M hu hk (by omega)) (hf.trans (fun a ha => ⟨rfl, sx_ul_o (fun e => ha (by rw [e]; decide))⟩))
              refine ⟨f, fl, w', fun Q z => bMo_film_50 (fun c => absurd c nn) (fun _ => vp_in_nI (by omega) (by decide)) (fun _ => by rw [hcl, hr, nI_add]; exact m4) (fun _ => ?_), hp⟩
              rw [nI_1]; exact hev Q z
          obtain ⟨f, fl, w', hev, hp⟩ := loop 0 (Nat.zero_le _) w hs sg_fr.rfl'
          exact ⟨f, fl, w', fun Q z => sx_met_of rfl rfl rfl rfl (bMo_film_0 m1 (fun c => absurd c y1) (fun _ => m2) (fun _ _ _ => by rw [h.1.2.1]; exact m3) (fun _ _ _ _ => hev Q z) (fun _ _ _ c => absurd p0 c) (fun _ _ c => absurd c n0) (fun _ c => absurd c y1)), hp⟩
        · rw [if_neg h0]
          have p0 : ¬ 0 ≤ sh_rf s k x2 x3 (nI L.1) := fun c => h0 (sh_rf_neg.mp c)
          exact ⟨_, 0, w, fun Q z => sx_met_of rfl rfl rfl rfl (bMo_film_0 m1 (fun c => absurd c y1) (fun _ => m2) (fun _ _ _ => by rw [h.1.2.1]; exact m3) (fun _ _ _ c => absurd c p0) (fun _ _ _ _ => z) (fun _ _ c => absurd c n0) (fun _ c => absurd c y1)), rfl, rfl, hs, sg_fr.rfl'⟩
end
