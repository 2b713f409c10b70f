/-! ===== the class reads the tape ===== -/
def tp_kI (k : Nat) : Int32 := if k < 4 then nI k else (-1 : Int32)
def tp_b (T : Nat) (t : Nat → Nat) : Prop := T ≤ 100 ∧ ∀ i, i < T → 32 ≤ t i ∧ t i ≤ 126
theorem tp_T.b {o c a T : Nat} {t : Nat → Nat} {w : sx_W} (h : tp_T o c a T t w) : tp_b T t := ⟨h.2.1, fun i hi => (h.2.2 i hi).2⟩
theorem tp_d1 : ∀ c, c < 127 → sz_in (nI c - 48) 8 = decide (48 ≤ c ∧ c ≤ 55) := by decide +kernel
theorem tp_d2 : ∀ c, c < 127 → 48 ≤ c → nI c - 48 = nI (c - 48) := by decide +kernel
theorem tp_d3 : ∀ c, c < 127 → ((nI c - 48 < (1 : Int32)) ↔ c < 49) := by decide +kernel
theorem tp_d4 : ∀ c, c < 127 → 49 ≤ c → ((nI c - 48 ≤ (4 : Int32)) ↔ c ≤ 52) := by decide +kernel
section
variable {T : Nat} {t : Nat → Nat} {q : Nat}
theorem tp_c_lt (h : tp_b T t) : tp_c T t q < 127 := by
  unfold tp_c
  split
  · rename_i c; have := (h.2 q c).2; omega
  · omega
theorem tp_c_in (h : 1 ≤ tp_c T t q) : q < T := by
  unfold tp_c at h
  split at h
  · assumption
  · omega
theorem tp_s1 (h : tp_b T t) : sz_in (tp_s T t q - 48) 8 = decide (48 ≤ tp_c T t q ∧ tp_c T t q ≤ 55) := by
  have h1 := tp_d1 _ (tp_c_lt (q := q) h)
  unfold tp_s tp_c at *
  split
  · rename_i c; rw [if_pos c] at h1; exact h1
  · decide
theorem tp_s2 (h : tp_b T t) (h2 : 48 ≤ tp_c T t q) : tp_s T t q - 48 = nI (tp_c T t q - 48) := by
  have h1 := tp_d2 _ (tp_c_lt (q := q) h) h2
  have hq := tp_c_in (T := T) (t := t) (q := q) (by omega)
  unfold tp_s
  unfold tp_c at h1 ⊢
  rw [if_pos hq]
  rw [if_pos hq] at h1 ⊢; exact h1
theorem tp_s3 (h : tp_b T t) : (tp_s T t q - 48 < (1 : Int32)) ↔ tp_c T t q < 49 := by
  have h1 := tp_d3 _ (tp_c_lt (q := q) h)
  unfold tp_s tp_c at *
  split
  · rename_i c; rw [if_pos c] at h1; exact h1
  · exact ⟨fun _ => by omega, fun _ => by decide⟩
theorem tp_s4 (h : tp_b T t) (h2 : 49 ≤ tp_c T t q) : (tp_s T t q - 48 ≤ (4 : Int32)) ↔ tp_c T t q ≤ 52 := by
  have h1 := tp_d4 _ (tp_c_lt (q := q) h) h2
  have hq := tp_c_in (T := T) (t := t) (q := q) (by omega)
  unfold tp_s
  unfold tp_c at h1 ⊢
  rw [if_pos hq]
  rw [if_pos hq] at h1 ⊢; exact h1
theorem tp_s5 (h : tp_b T t) {v : Nat} (hv : v < 127) (hv0 : 0 < v) : (tp_s T t q = nI v) ↔ tp_c T t q = v := by
  have h1 := tp_c_lt (q := q) h
  unfold tp_s tp_c at *
  split
  · rename_i c
    rw [if_pos c] at h1
    exact nI_eq (by omega) (by omega)
  · refine ⟨fun e => ?_, fun e => by omega⟩
    have h2 : ∀ v, v < 127 → ¬ (-1 : Int32) = nI v := by decide +kernel
    exact absurd e (h2 v hv)
theorem tp_s6 (h : tp_b T t) : (tp_s T t q = (-1 : Int32)) ↔ T ≤ q := by
  have h1 := tp_c_lt (q := q) h
  unfold tp_s tp_c at *
  split
  · rename_i c
    rw [if_pos c] at h1
    have h2 : ∀ v, v < 127 → ¬ nI v = (-1 : Int32) := by decide +kernel
    exact ⟨fun e => absurd e (h2 _ h1), fun e => by omega⟩
  · exact ⟨fun _ => by omega, fun _ => rfl⟩
theorem tp_work_ok : ∀ (m : Nat) (y : Bool) (W p : Nat), p ≤ T → W < 256 → (tp_work T t m y W p).2.1 ≤ T ∧ tp_nb T t (tp_work T t m y W p).2.1 = (tp_work T t m y W p).2.1 ∧ (tp_work T t m y W p).2.2 < 256
  | 0, _, _, _, hp, hW => ⟨tp_nb_le hp, tp_nb_nb hp, hW⟩
  | m + 1, y, W, p, hp, hW => by
    rw [tp_work]
    split
    · rename_i c
      have hq := tp_c_in (T := T) (t := t) (q := tp_nb T t p) (by omega)
      split
      · exact ⟨tp_nb_le hp, tp_nb_nb hp, hW⟩
      · exact tp_work_ok m true _ _ hq (Nat.or_lt_two_pow (n := 8) hW (Nat.pow_lt_pow_right (by decide) (by omega)))
    · exact ⟨tp_nb_le hp, tp_nb_nb hp, hW⟩
end
section
variable {d : Nat} {w : sx_W} {T : Nat} {t : Nat → Nat}
theorem spTa_kindOf {q : Nat} (h : tp_b T t) : sx_de d rTa_kindOf [.int (tp_s T t q)] w (tp_kI (tp_k (tp_c T t q))) 0 w := by
  intro Q z
  have hlt := tp_c_lt (q := q) h
  by_cases hq : q < T
  · have e1 : tp_c T t q = t q := by unfold tp_c; rw [if_pos hq]
    have e2 : tp_s T t q = nI (t q) := by unfold tp_s; rw [if_pos hq]
    rw [e1] at z hlt
    rw [e2]
    have ei : (nI (t q)).toInt = (t q : Int) := nI_toInt (by omega)
    refine sx_met_of rfl rfl rfl rfl (bTa_kindOf_0 (fun c => ?_) (fun c => ?_) (fun c => ?_) (fun c => ?_) (fun c => ?_) (fun c => ?_) (fun c => ?_) (fun c => ?_) (fun c => ?_))
    · rw [show t q = 108 by omega] at z; exact z
    · rw [show t q = 109 by omega] at z; exact z
    · rw [show t q = 110 by omega] at z; exact z
    · rw [show t q = 111 by omega] at z; exact z
    · rw [show t q = 112 by omega] at z; exact z
    · rw [show t q = 113 by omega] at z; exact z
    · rw [show t q = 114 by omega] at z; exact z
    · rw [show t q = 115 by omega] at z; exact z
    · have : tp_k (t q) = 9 := by unfold tp_k; rw [if_neg (by omega), if_neg (by omega), if_neg (by omega), if_neg (by omega)]
      rw [this] at z; exact z
  · have e1 : tp_c T t q = 0 := by unfold tp_c; rw [if_neg hq]
    have e2 : tp_s T t q = (-1 : Int32) := by unfold tp_s; rw [if_neg hq]
    have ei : (-1 : Int32).toInt = -1 := rfl
    rw [e1] at z
    rw [e2]
    exact sx_met_of rfl rfl rfl rfl (bTa_kindOf_0 (fun c => by omega) (fun c => by omega) (fun c => by omega) (fun c => by omega) (fun c => by omega) (fun c => by omega) (fun c => by omega) (fun c => by omega) (fun _ => z))
/-- what reading the lodger k leaves as it is -/
def tp_F (k : Nat) (w w' : sx_W) : Prop := sg_fr [33, 35, 36, 37] w w' ∧ (∀ j, j ≠ 2 → w'.1 33 j = w.1 33 j) ∧ ∀ j, j ≠ k → w'.1 35 j = w.1 35 j ∧ w'.1 36 j = w.1 36 j ∧ w'.1 37 j = w.1 37 j
theorem tp_F.trans {k : Nat} {w1 w2 : sx_W} (h1 : tp_F k w w1) (h2 : tp_F k w1 w2) : tp_F k w w2 :=
  ⟨h1.1.trans h2.1, fun j hj => (h2.2.1 j hj).trans (h1.2.1 j hj), fun j hj => ⟨(h2.2.2 j hj).1.trans (h1.2.2 j hj).1, (h2.2.2 j hj).2.1.trans (h1.2.2 j hj).2.1, (h2.2.2 j hj).2.2.trans (h1.2.2 j hj).2.2⟩⟩
theorem tp_F.place {k : Nat} {v : Int32} : tp_F k w (sx_u w.1 33 2 v, w.2) := by
  refine ⟨fun a ha => ⟨sx_u_o (fun e => ha (by rw [e]; decide)), rfl⟩, fun j hj => ?_, fun j hj => ?_⟩
  · show sx_u w.1 33 2 v 33 j = _
    rw [sx_u_s, if_neg hj]
  · show sx_u w.1 33 2 v 35 j = _ ∧ sx_u w.1 33 2 v 36 j = _ ∧ sx_u w.1 33 2 v 37 j = _
    rw [sx_u_o (by decide), sx_u_o (by decide), sx_u_o (by decide)]; exact ⟨rfl, rfl, rfl⟩
theorem tp_F.tape {k : Nat} {w' : sx_W} (h : tp_T 33 1 34 T t w) (hf : tp_F k w w') : tp_T 33 1 34 T t w' := by
  refine ⟨by rw [hf.2.1 1 (by decide)]; exact h.1, h.2.1, fun i hi => ?_⟩
  rw [(hf.1 34 (by decide)).1]; exact h.2.2 i hi
theorem spTa_readWork {k p : Nat} (h : tp_T 33 1 34 T t w) (hk : k < 7) (hp : p ≤ T) (hw : w.1 33 2 = nI p) (h37 : w.1 37 k = 0) : sx_x (d + 1) rTa_readWork [.ref 33, .int (nI k)] w (fun f fl w' => f = sz_b (tp_work T t 9 false 0 p).1 ∧ fl = 0 ∧ w'.1 33 2 = nI (tp_work T t 9 false 0 p).2.1 ∧ w'.1 37 k = nI (tp_work T t 9 false 0 p).2.2 ∧ w'.1 35 k = w.1 35 k ∧ w'.1 36 k = w.1 36 k ∧ tp_F k w w') := by
  have hb := h.b
  have hT := h.2.1
  have hck : (nI k).toNatClampNeg = k := nI_clamp (by omega)
  have loop : ∀ i, i ≤ 9 → ∀ u W p, tp_F k w u → u.1 35 k = w.1 35 k → u.1 36 k = w.1 36 k → p ≤ T → u.1 33 2 = nI p → u.1 37 k = nI W → W < 256 → fb_ct (fun j => W.testBit j) 8 = i → sx_xe (d + 1) rTa_readWork 2 [.ref 33, .int (nI k), .int (nI i), .null] u (fun f fl w' => f = sz_b (tp_work T t (9 - i) (decide (0 < i)) W p).1 ∧ fl = 0 ∧ w'.1 33 2 = nI (tp_work T t (9 - i) (decide (0 < i)) W p).2.1 ∧ w'.1 37 k = nI (tp_work T t (9 - i) (decide (0 < i)) W p).2.2 ∧ w'.1 35 k = w.1 35 k ∧ w'.1 36 k = w.1 36 k ∧ tp_F k w w') := by
    refine sx_for 9 (fun u W p _ _ _ _ _ _ _ hct => ?_) (fun i hi ih u W p hF h5 h6 hp hu hW hW8 hct => ?_)
    · have := fb_ct_le (fun j => W.testBit j) 8
      omega
    · have hTu := tp_F.tape h hF
      have hpk := spTa_peek (d := d) hTu hp hu
      have nn : ¬ (8 : Int32) < nI i := by rw [show (8 : Int32) = nI 8 from rfl, nI_ltI (by omega) (by omega)]; omega
      have hpart := spSb_isPart (d := d) (w := (sx_u u.1 33 2 (nI (tp_nb T t p)), u.2)) (x := tp_s T t (tp_nb T t p) - 48)
      rw [tp_s1 hb] at hpart
      rw [show 9 - i = (9 - (i + 1)) + 1 by omega, tp_work]
      have F1 : tp_F k w (sx_u u.1 33 2 (nI (tp_nb T t p)), u.2) := hF.trans tp_F.place
      have e37 : (sx_u u.1 33 2 (nI (tp_nb T t p)), u.2).1 37 (nI k).toNatClampNeg = nI W := by
        show sx_u u.1 33 2 (nI (tp_nb T t p)) 37 _ = _
        rw [hck, sx_u_o (by decide)]; exact hW
      have ew : ∀ a, a ≠ 33 → (sx_u u.1 33 2 (nI (tp_nb T t p)), u.2).1 a k = u.1 a k := fun a ha => by
        show sx_u u.1 33 2 (nI (tp_nb T t p)) a k = _
        rw [sx_u_o ha]
      have e33 : (sx_u u.1 33 2 (nI (tp_nb T t p)), u.2).1 33 2 = nI (tp_nb T t p) := by
        show sx_u u.1 33 2 (nI (tp_nb T t p)) 33 2 = _
        rw [sx_u_s, if_pos rfl]
      by_cases hc : 48 ≤ tp_c T t (tp_nb T t p) ∧ tp_c T t (tp_nb T t p) ≤ 55
      · rw [if_pos hc]
        rw [decide_eq_true hc] at hpart
        have y1 : ¬ sz_b true = 0 := by decide
        have hq := tp_c_in (T := T) (t := t) (q := tp_nb T t p) (by omega)
        have es := tp_s2 hb hc.1
        have hh := spSb_holds (d := d) (w := (sx_u u.1 33 2 (nI (tp_nb T t p)), u.2)) (s := W) (p := tp_c T t (tp_nb T t p) - 48) (by omega) (by omega)
        rw [← es, ← e37] at hh
        cases hbit : W.testBit (tp_c T t (tp_nb T t p) - 48) with
        | true =>
          rw [hbit] at hh
          rw [if_pos rfl]
          exact ⟨0, 0, _, fun Q z => bTa_readWork_2 (fun c => absurd c nn) (fun _ => hpk) (fun _ => hpart) (fun _ _ => vp_in_nI hk (by decide)) (fun _ _ => hh) (fun _ _ c => absurd c y1) (fun _ _ _ => z) (fun _ c => absurd c y1) (fun _ c => absurd c y1), rfl, rfl, e33, by rw [← e37, hck], by rw [ew 35 (by decide)]; exact h5, by rw [ew 36 (by decide)]; exact h6, F1⟩
        | false =>
          rw [hbit] at hh
          rw [if_neg Bool.false_ne_true]
          have hW' : W ||| 2 ^ (tp_c T t (tp_nb T t p) - 48) < 256 := Nat.or_lt_two_pow (n := 8) hW8 (Nat.pow_lt_pow_right (by decide) (by omega))
          have hct' : fb_ct (fun j => (W ||| 2 ^ (tp_c T t (tp_nb T t p) - 48)).testBit j) 8 = i + 1 := by
            have e : (fun j => (W ||| 2 ^ (tp_c T t (tp_nb T t p) - 48)).testBit j) = fun j => if j = tp_c T t (tp_nb T t p) - 48 then true else W.testBit j := funext fun j => by
              rw [fb_bit_set]
              by_cases h : j = tp_c T t (tp_nb T t p) - 48 <;> simp [h]
            rw [e]
            have := fb_ct_upd (fun j => W.testBit j) true (n := 8) (i := tp_c T t (tp_nb T t p) - 48) (by omega)
            simp only [hbit] at this
            rw [if_neg Bool.false_ne_true, if_pos trivial, hct] at this
            omega
          obtain ⟨f, fl, w', hev, hpost⟩ := ih (sx_u (sx_u (sx_u u.1 33 2 (nI (tp_nb T t p))) 37 k (nI (W ||| 2 ^ (tp_c T t (tp_nb T t p) - 48)))) 33 2 (nI (tp_nb T t p + 1)), u.2) (W ||| 2 ^ (tp_c T t (tp_nb T t p) - 48)) (tp_nb T t p + 1) (F1.trans ⟨fun a ha => ⟨by
              simp only [List.mem_cons, List.not_mem_nil, or_false, not_or] at ha
              show sx_u (sx_u (sx_u u.1 33 2 (nI (tp_nb T t p))) 37 k (nI (W ||| 2 ^ (tp_c T t (tp_nb T t p) - 48)))) 33 2 (nI (tp_nb T t p + 1)) a = sx_u u.1 33 2 (nI (tp_nb T t p)) a
              rw [sx_u_o ha.1, sx_u_o ha.2.2.2], rfl⟩, fun j hj => by
              show sx_u (sx_u (sx_u u.1 33 2 (nI (tp_nb T t p))) 37 k (nI (W ||| 2 ^ (tp_c T t (tp_nb T t p) - 48)))) 33 2 (nI (tp_nb T t p + 1)) 33 j = sx_u u.1 33 2 (nI (tp_nb T t p)) 33 j
              rw [sx_u_s, if_neg hj, sx_u_o (by decide)], fun j hj => by
              show sx_u (sx_u (sx_u u.1 33 2 (nI (tp_nb T t p))) 37 k (nI (W ||| 2 ^ (tp_c T t (tp_nb T t p) - 48)))) 33 2 (nI (tp_nb T t p + 1)) 35 j = sx_u u.1 33 2 (nI (tp_nb T t p)) 35 j ∧ sx_u (sx_u (sx_u u.1 33 2 (nI (tp_nb T t p))) 37 k (nI (W ||| 2 ^ (tp_c T t (tp_nb T t p) - 48)))) 33 2 (nI (tp_nb T t p + 1)) 36 j = sx_u u.1 33 2 (nI (tp_nb T t p)) 36 j ∧ sx_u (sx_u (sx_u u.1 33 2 (nI (tp_nb T t p))) 37 k (nI (W ||| 2 ^ (tp_c T t (tp_nb T t p) - 48)))) 33 2 (nI (tp_nb T t p + 1)) 37 j = sx_u u.1 33 2 (nI (tp_nb T t p)) 37 j
              refine ⟨?_, ?_, ?_⟩
              · rw [sx_u_o (by decide), sx_u_o (by decide)]
              · rw [sx_u_o (by decide), sx_u_o (by decide)]
              · rw [sx_u_o (by decide), sx_u_s, if_neg hj]⟩) (by
              show sx_u (sx_u (sx_u u.1 33 2 (nI (tp_nb T t p))) 37 k (nI (W ||| 2 ^ (tp_c T t (tp_nb T t p) - 48)))) 33 2 (nI (tp_nb T t p + 1)) 35 k = w.1 35 k
              rw [sx_u_o (by decide), sx_u_o (by decide), sx_u_o (by decide)]; exact h5) (by
              show sx_u (sx_u (sx_u u.1 33 2 (nI (tp_nb T t p))) 37 k (nI (W ||| 2 ^ (tp_c T t (tp_nb T t p) - 48)))) 33 2 (nI (tp_nb T t p + 1)) 36 k = w.1 36 k
              rw [sx_u_o (by decide), sx_u_o (by decide), sx_u_o (by decide)]; exact h6) hq (by
              show sx_u (sx_u (sx_u u.1 33 2 (nI (tp_nb T t p))) 37 k (nI (W ||| 2 ^ (tp_c T t (tp_nb T t p) - 48)))) 33 2 (nI (tp_nb T t p + 1)) 33 2 = _
              rw [sx_u_s, if_pos rfl]) (by
              show sx_u (sx_u (sx_u u.1 33 2 (nI (tp_nb T t p))) 37 k (nI (W ||| 2 ^ (tp_c T t (tp_nb T t p) - 48)))) 33 2 (nI (tp_nb T t p + 1)) 37 k = _
              rw [sx_u_o (by decide), sx_u_s, if_pos rfl]) hW' hct'
          rw [decide_eq_true (show 0 < i + 1 by omega)] at hpost
          refine ⟨f, fl, w', fun Q z => bTa_readWork_2 (fun c => absurd c nn) (fun _ => hpk) (fun _ => hpart) (fun _ _ => vp_in_nI hk (by decide)) (fun _ _ => hh) (fun _ _ _ => ?_) (fun _ _ c => absurd rfl c) (fun _ c => absurd c y1) (fun _ c => absurd c y1), hpost⟩
          rw [e37, hck, e33, es, sz_one _ (by omega), fa_or, nI_1, nI_1]
          exact hev Q z
      · rw [if_neg hc]
        rw [decide_eq_false hc] at hpart
        by_cases h0 : i = 0
        · subst h0
          exact ⟨0, 0, _, fun Q z => bTa_readWork_2 (f3 := 0) (fun c => absurd c nn) (fun _ => hpk) (fun _ => hpart) (fun _ c => absurd rfl c) (fun _ c => absurd rfl c) (fun _ c => absurd rfl c) (fun _ c => absurd rfl c) (fun _ _ _ => z) (fun _ _ c => absurd (by decide) c), rfl, rfl, e33, by rw [← e37, hck], by rw [ew 35 (by decide)]; exact h5, by rw [ew 36 (by decide)]; exact h6, F1⟩
        · have n0 : ¬ nI i ≤ 0 := nI_ge (a := 0) (by omega) (by omega)
          rw [decide_eq_true (show 0 < i by omega)]
          exact ⟨1, 0, _, fun Q z => bTa_readWork_2 (f3 := 0) (fun c => absurd c nn) (fun _ => hpk) (fun _ => hpart) (fun _ c => absurd rfl c) (fun _ c => absurd rfl c) (fun _ c => absurd rfl c) (fun _ c => absurd rfl c) (fun _ _ c => absurd c n0) (fun _ _ _ => z), rfl, rfl, e33, by rw [← e37, hck], by rw [ew 35 (by decide)]; exact h5, by rw [ew 36 (by decide)]; exact h6, F1⟩
  obtain ⟨f, fl, w', hev, hpost⟩ := loop 0 (by omega) w 0 p ⟨sg_fr.rfl', fun _ _ => rfl, fun _ _ => ⟨rfl, rfl, rfl⟩⟩ rfl rfl hp hw h37 (by decide) (fb_ct_zero.mpr (fun j _ => Nat.zero_testBit j))
  exact ⟨f, fl, w', fun Q z => sx_met_of rfl rfl rfl rfl (bTa_readWork_0 (hev Q z)), hpost⟩
end
