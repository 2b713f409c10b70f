/-! ===== the model reads one lodger ===== -/
def tp_H (k : Nat) (w w' : sx_W) : Prop := sg_fr [48, 59] w w' ∧ (∀ j, j ≠ 15 → j ≠ 16 → w'.1 48 j = w.1 48 j) ∧ ∀ i, i ≠ 3 * k + 2 → w'.1 59 i = w.1 59 i
def tp_P (T : Nat) (t : Nat → Nat) (k : Nat) (v : Bool × Nat × Nat) (w : sx_W) (f : Int32) (fl : Int64) (w' : sx_W) : Prop := f = 0 ∧ fl = 0 ∧ (∃ bad : Bool, w'.1 48 16 = sz_b bad ∧ w'.1 48 15 = nI v.2.1 ∧ (bad = false → v.1 = true ∧ w'.1 59 (3 * k + 2) = nI v.2.2) ∧ (bad = true → v.1 = false ∨ (v.2.1 < T ∧ t v.2.1 ≠ 44))) ∧ tp_H k w w'
theorem tp_3 {k j : Nat} (hk : k < 7) (hj : j < 3) : (3 : Int32) * nI k + nI j = nI (3 * k + j) ∧ (nI (3 * k + j)).toNatClampNeg = 3 * k + j ∧ vp_in (nI (3 * k + j)) 21 := by
  refine ⟨?_, nI_clamp (by omega), vp_in_nI (by omega) (by decide)⟩
  rw [show (3 : Int32) = nI 3 from rfl, pk_mul, nI_add]
theorem tp_work_nb {T : Nat} {t : Nat → Nat} {y : Bool} {W p : Nat} (hp : p ≤ T) : ∀ m, tp_work T t m y W (tp_nb T t p) = tp_work T t m y W p
  | 0 => by rw [tp_work, tp_work, tp_nb_nb hp]
  | m + 1 => by rw [tp_work, tp_work, tp_nb_nb hp]
section
variable {d : Nat} {w : sx_W} {T : Nat} {t : Nat → Nat}
theorem tp_H.trans {k : Nat} {w1 w2 : sx_W} (h1 : tp_H k w w1) (h2 : tp_H k w1 w2) : tp_H k w w2 := ⟨h1.1.trans h2.1, fun j x y => (h2.2.1 j x y).trans (h1.2.1 j x y), fun i hi => (h2.2.2 i hi).trans (h1.2.2 i hi)⟩
theorem tp_G.H {k : Nat} {w' : sx_W} (h : tp_G w w') : tp_H k w w' := ⟨h.1.mono (by decide), h.2, fun i _ => by rw [(h.1 59 (by decide)).1]⟩
theorem tp_H.end {k : Nat} {v : Int32} : tp_H k w (sx_u w.1 59 (3 * k + 2) v, w.2) := by
  refine ⟨fun a ha => ⟨sx_u_o (fun e => ha (by rw [e]; decide)), rfl⟩, fun j x y => ?_, fun i hi => ?_⟩
  · show sx_u w.1 59 (3 * k + 2) v 48 j = _
    rw [sx_u_o (by decide)]
  · show sx_u w.1 59 (3 * k + 2) v 59 i = _
    rw [sx_u_s, if_neg hi]
theorem tp_H.tape {k : Nat} {w' : sx_W} (h : tp_T 48 14 58 T t w) (hf : tp_H k w w') : tp_T 48 14 58 T t w' := by
  refine ⟨by rw [hf.2.1 14 (by decide) (by decide)]; exact h.1, h.2.1, fun i hi => ?_⟩
  rw [(hf.1 58 (by decide)).1]; exact h.2.2 i hi
/-- the end of a lodger -/
theorem tp_stop {k : Nat} {x : Int32} {u : sx_W} {bad : Bool} {v : Bool × Nat × Nat} (hk : k < 7) (hH : tp_H k w u) (h16 : u.1 48 16 = sz_b bad) (h15 : u.1 48 15 = nI v.2.1) (hg : bad = false → v.1 = true ∧ x = nI v.2.2) (hb : bad = true → v.1 = false ∨ (v.2.1 < T ∧ t v.2.1 ≠ 44)) : sx_xe (d + 1) rMo_readOne 81 [.ref 48, .int (nI k), .int x, .int 0, .null] u (tp_P T t k v w) := by
  obtain ⟨e1, e2, e3⟩ := tp_3 hk (show 2 < 3 by decide)
  have e1 : (3 : Int32) * nI k + 2 = nI (3 * k + 2) := e1
  refine ⟨0, 0, (sx_u u.1 59 (3 * k + 2) x, u.2), fun Q z => bMo_readOne_81 (f1 := 0) (w1 := u) (f2 := 0) (w2 := u) (f3 := 0) (f4 := 0) (w4 := u) (f5 := 0) (fun _ => by rw [e1]; exact e3) (fun _ => ?_) (fun c => absurd rfl c) (fun c => absurd rfl c) (fun c => absurd rfl c) (fun c => absurd rfl c) (fun c => absurd rfl c) (fun c => absurd rfl c) (fun c => absurd rfl c) (fun c => absurd rfl c) (fun c => absurd rfl c) (fun c => absurd rfl c) (fun c => absurd rfl c), rfl, rfl, ⟨bad, ?_, ?_, fun hf => ⟨(hg hf).1, ?_⟩, hb⟩, hH.trans tp_H.end⟩
  · rw [e1, e2]; exact z
  · show sx_u u.1 59 (3 * k + 2) x 48 16 = _
    rw [sx_u_o (by decide)]; exact h16
  · show sx_u u.1 59 (3 * k + 2) x 48 15 = _
    rw [sx_u_o (by decide)]; exact h15
  · show sx_u u.1 59 (3 * k + 2) x 59 (3 * k + 2) = _
    rw [sx_u_s, if_pos rfl]; exact (hg hf).2
theorem tp_more {k : Nat} (h : tp_T 48 14 58 T t w) (hk : k < 7) : ∀ i, i ≤ 9 → ∀ u W p, tp_H k w u → p ≤ T → u.1 48 15 = nI p → u.1 48 16 = 0 → W < 256 → fb_ct (fun j => W.testBit j) 8 = i → (0 < i → 48 ≤ tp_c T t (tp_nb T t p) ∧ tp_c T t (tp_nb T t p) ≤ 57) → sx_xe (d + 2) rMo_readOne 81 [.ref 48, .int (nI k), .int (nI W), .int 1, .null] u (tp_P T t k (tp_work T t (9 - i) (decide (0 < i)) W p) w) := by
  have hb := h.b
  have hT := h.2.1
  refine sx_for 9 (fun u W p _ _ _ _ _ hct _ => ?_) (fun i hi ih u W p hH hp hu h16 hW8 hct hdg => ?_)
  · have := fb_ct_le (fun j => W.testBit j) 8
    omega
  · have hTu := tp_H.tape h hH
    have n1 : ¬ (1 : Int32) = 0 := by decide
    obtain ⟨f, fl, u1, m1, rfl, rfl, g1, g2, g3⟩ := spMo_digit (d := d) (a := 0) (b := 7) hTu hp hu h16 (by decide) (by decide)
    have hH1 : tp_H k w u1 := hH.trans g3.H
    have hlt := tp_c_lt (q := tp_nb T t p) hb
    rw [show 9 - i = (9 - (i + 1)) + 1 by omega, tp_work]
    by_cases hc : 48 ≤ tp_c T t (tp_nb T t p) ∧ tp_c T t (tp_nb T t p) ≤ 55
    · rw [if_pos hc]
      have hc' : 48 + 0 ≤ tp_c T t (tp_nb T t p) ∧ tp_c T t (tp_nb T t p) ≤ 48 + 7 := by omega
      rw [if_pos hc'] at g1
      rw [decide_eq_true hc'] at g2
      have g2' : u1.1 48 16 = 0 := g2
      have hq := tp_c_in (T := T) (t := t) (q := tp_nb T t p) (by omega)
      have es : nI (tp_c T t (tp_nb T t p)) - 48 = nI (tp_c T t (tp_nb T t p) - 48) := tp_d2 _ hlt hc.1
      rw [es] at m1
      have hbi := sz_bit1 (s := W) (p := tp_c T t (tp_nb T t p) - 48) (by omega) (by omega)
      cases hbit : W.testBit (tp_c T t (tp_nb T t p) - 48) with
      | true =>
        rw [if_pos rfl]
        have y := hbi.mpr hbit
        have x16 : sx_u (sx_u u1.1 48 16 1) 48 15 (u1.1 48 15 - 1) 48 16 = sz_b true := by
          rw [sx_u_s, if_neg (by decide), sx_u_s, if_pos rfl]; rfl
        have x15 : sx_u (sx_u u1.1 48 16 1) 48 15 (u1.1 48 15 - 1) 48 15 = nI (tp_nb T t p) := by
          rw [sx_u_s, if_pos rfl, g1]; exact nI_pred _
        obtain ⟨f, fl, w', hev, hpost⟩ := tp_stop (d := d + 1) (x := nI W ||| 0) (T := T) (t := t) (u := (sx_u (sx_u u1.1 48 16 1) 48 15 (u1.1 48 15 - 1), u1.2)) (v := (false, tp_nb T t p, W)) hk (hH1.trans (tp_G.trans (tp_G.u16 (v := 1)) (tp_G.u15 (w := (sx_u u1.1 48 16 1, u1.2)))).H) x16 x15 (fun c => absurd c (by decide)) (fun _ => Or.inl rfl)
        exact ⟨f, fl, w', fun Q z => bMo_readOne_81 (f2 := 0) (w2 := u) (f3 := 0) (f4 := 0) (w4 := u) (f5 := 0) (fun c => absurd c n1) (fun c => absurd c n1) (fun _ => m1) (fun _ c => absurd g2' c) (fun _ _ c => absurd y c) (fun _ _ c => absurd y c) (fun _ _ c => absurd y c) (fun _ _ c => absurd y c) (fun _ _ _ c => absurd c n1) (fun _ _ _ c => absurd c n1) (fun _ _ _ c => absurd c n1) (fun _ _ _ c => absurd c n1) (fun _ _ _ _ => hev Q z), hpost⟩
      | false =>
        rw [if_neg Bool.false_ne_true]
        have y : ¬ ((nI W >>> (nI (tp_c T t (tp_nb T t p) - 48) &&& 31)) &&& (1 : Int32)) = 1 := by rw [hbi, hbit]; exact Bool.false_ne_true
        have hW' : W ||| 2 ^ (tp_c T t (tp_nb T t p) - 48) < 256 := Nat.or_lt_two_pow (n := 8) hW8 (Nat.pow_lt_pow_right (by decide) (by omega))
        have hct' : fb_ct (fun j => (W ||| 2 ^ (tp_c T t (tp_nb T t p) - 48)).testBit j) 8 = i + 1 := by
          have e : (fun j => (W ||| 2 ^ (tp_c T t (tp_nb T t p) - 48)).testBit j) = fun j => if j = tp_c T t (tp_nb T t p) - 48 then true else W.testBit j := funext fun j => by
            rw [fb_bit_set]
            by_cases h : j = tp_c T t (tp_nb T t p) - 48 <;> simp [h]
          rw [e]
          have := fb_ct_upd (fun j => W.testBit j) true (n := 8) (i := tp_c T t (tp_nb T t p) - 48) (by omega)
          simp only [hbit] at this
          rw [if_neg Bool.false_ne_true, if_pos trivial, hct] at this
          omega
        have hTu1 := tp_H.tape h hH1
        have m2 := spMo_here (d := d + 1) hTu1 hq g1
        have hlt2 := tp_c_lt (q := tp_nb T t (tp_nb T t p + 1)) hb
        have m3 := spMo_in (d := d + 1) (w := (sx_u u1.1 48 15 (nI (tp_nb T t (tp_nb T t p + 1))), u1.2)) (x := (nI (tp_c T t (tp_nb T t (tp_nb T t p + 1)))).toInt64) (y := lN 48) (z := lN 57)
        have ec : (nI (tp_c T t (tp_nb T t (tp_nb T t p + 1)))).toInt64.toInt = ((tp_c T t (tp_nb T t (tp_nb T t p + 1)) : Nat) : Int) := by
          rw [Int32.toInt_toInt64]; exact nI_toInt (by omega)
        rw [ec, show (lN 48).toInt = 48 from rfl, show (lN 57).toInt = 57 from rfl] at m3
        have hH2 : tp_H k w (sx_u u1.1 48 15 (nI (tp_nb T t (tp_nb T t p + 1))), u1.2) := hH1.trans tp_G.u15.H
        have z15 : sx_u u1.1 48 15 (nI (tp_nb T t (tp_nb T t p + 1))) 48 15 = nI (tp_nb T t (tp_nb T t p + 1)) := by rw [sx_u_s, if_pos rfl]
        have z16 : sx_u u1.1 48 15 (nI (tp_nb T t (tp_nb T t p + 1))) 48 16 = 0 := by rw [sx_u_s, if_neg (by decide)]; exact g2'
        have hq2 : tp_nb T t (tp_nb T t p + 1) ≤ T := tp_nb_le hq
        have eor : nI W ||| ((1 : Int32) <<< (nI (tp_c T t (tp_nb T t p) - 48) &&& 31)) = nI (W ||| 2 ^ (tp_c T t (tp_nb T t p) - 48)) := by rw [sz_one _ (by omega), fa_or]
        by_cases h3 : 48 ≤ tp_c T t (tp_nb T t (tp_nb T t p + 1)) ∧ tp_c T t (tp_nb T t (tp_nb T t p + 1)) ≤ 57
        · rw [decide_eq_true (show (48 : Int) ≤ ((tp_c T t (tp_nb T t (tp_nb T t p + 1)) : Nat) : Int) ∧ ((tp_c T t (tp_nb T t (tp_nb T t p + 1)) : Nat) : Int) ≤ 57 by omega)] at m3
          obtain ⟨f, fl, w', hev, hpost⟩ := ih _ (W ||| 2 ^ (tp_c T t (tp_nb T t p) - 48)) (tp_nb T t (tp_nb T t p + 1)) hH2 hq2 z15 z16 hW' hct' (fun _ => by rw [tp_nb_nb hq]; exact h3)
          rw [tp_work_nb hq, decide_eq_true (show 0 < i + 1 by omega)] at hpost
          rw [← eor] at hev
          exact ⟨f, fl, w', fun Q z => bMo_readOne_81 (f4 := 0) (w4 := u) (f5 := 0) (fun c => absurd c n1) (fun c => absurd c n1) (fun _ => m1) (fun _ c => absurd g2' c) (fun _ _ _ => m2) (fun _ _ _ => m3) (fun _ _ _ c => absurd c (by decide)) (fun _ _ _ _ => hev Q z) (fun _ _ c => absurd c y) (fun _ _ c => absurd c y) (fun _ _ c => absurd c y) (fun _ _ c => absurd c y) (fun _ _ c => absurd c y), hpost⟩
        · rw [decide_eq_false (show ¬ ((48 : Int) ≤ ((tp_c T t (tp_nb T t (tp_nb T t p + 1)) : Nat) : Int) ∧ ((tp_c T t (tp_nb T t (tp_nb T t p + 1)) : Nat) : Int) ≤ 57) by omega)] at m3
          have hi8 : i ≠ 8 := fun e => by
            have h8 := fb_ct_all.mp (by rw [hct, e] : fb_ct (fun j => W.testBit j) 8 = 8) (tp_c T t (tp_nb T t p) - 48) (by omega)
            rw [hbit] at h8; cases h8
          rw [show 9 - (i + 1) = (9 - (i + 2)) + 1 by omega, tp_work, if_neg (fun c => h3 ⟨c.1, by omega⟩)]
          obtain ⟨f, fl, w', hev, hpost⟩ := tp_stop (d := d + 1) (x := nI (W ||| 2 ^ (tp_c T t (tp_nb T t p) - 48))) (T := T) (t := t) (u := (sx_u u1.1 48 15 (nI (tp_nb T t (tp_nb T t p + 1))), u1.2)) (bad := false) (v := (true, tp_nb T t (tp_nb T t p + 1), W ||| 2 ^ (tp_c T t (tp_nb T t p) - 48))) hk hH2 z16 z15 (fun _ => ⟨rfl, rfl⟩) (fun c => absurd c (by decide))
          rw [← eor] at hev
          exact ⟨f, fl, w', fun Q z => bMo_readOne_81 (f4 := 0) (w4 := u) (f5 := 0) (fun c => absurd c n1) (fun c => absurd c n1) (fun _ => m1) (fun _ c => absurd g2' c) (fun _ _ _ => m2) (fun _ _ _ => m3) (fun _ _ _ _ => hev Q z) (fun _ _ _ c => absurd rfl c) (fun _ _ c => absurd c y) (fun _ _ c => absurd c y) (fun _ _ c => absurd c y) (fun _ _ c => absurd c y) (fun _ _ c => absurd c y), hpost⟩
    · rw [if_neg hc]
      have hc' : ¬ (48 + 0 ≤ tp_c T t (tp_nb T t p) ∧ tp_c T t (tp_nb T t p) ≤ 48 + 7) := by omega
      rw [if_neg hc', Nat.add_zero] at g1
      rw [decide_eq_false hc'] at g2
      have g2' : ¬ u1.1 48 16 = 0 := by rw [g2]; decide
      obtain ⟨f, fl, w', hev, hpost⟩ := tp_stop (d := d + 1) (x := nI W ||| 0) (T := T) (t := t) (u := u1) (bad := true) (v := (decide (0 < i), tp_nb T t p, W)) hk hH1 g2 g1 (fun c => absurd c (by decide)) (fun _ => by
        by_cases h0 : 0 < i
        · have h3 := hdg h0
          have hq := tp_c_in (T := T) (t := t) (q := tp_nb T t p) (by omega)
          have e : tp_c T t (tp_nb T t p) = t (tp_nb T t p) := if_pos hq
          exact Or.inr ⟨hq, by show t (tp_nb T t p) ≠ 44; omega⟩
        · exact Or.inl (decide_eq_false h0))
      exact ⟨f, fl, w', fun Q z => bMo_readOne_81 (f2 := 0) (w2 := u) (f3 := 0) (f4 := 0) (w4 := u) (f5 := 0) (fun c => absurd c n1) (fun c => absurd c n1) (fun _ => m1) (fun _ _ => hev Q z) (fun _ c => absurd c g2') (fun _ c => absurd c g2') (fun _ c => absurd c g2') (fun _ c => absurd c g2') (fun _ c => absurd c g2') (fun _ c => absurd c g2') (fun _ c => absurd c g2') (fun _ c => absurd c g2') (fun _ c => absurd c g2'), hpost⟩
end
