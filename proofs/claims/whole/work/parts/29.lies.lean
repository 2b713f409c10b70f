/-! ===== the model: who lies where ===== -/
theorem sz_bit1 {s p : Nat} (hs : s < 2 ^ 31) (hp : p < 31) : ((nI s >>> (nI p &&& 31)) &&& 1 = 1) ↔ s.testBit p = true := by
  rw [sz_bit hs hp, show (1 : Int32) = nI 1 from rfl, nI_eq (by omega) (by omega), Nat.testBit_eq_decide_div_mod_eq]
  simp
theorem sz_at8 {l q : Nat} (hl : l < 7) (hq : q < 8) : (8 : Int32) * nI l + nI q = nI (8 * l + q) ∧ (nI (8 * l + q)).toNatClampNeg = 8 * l + q ∧ vp_in (nI (8 * l + q)) 56 := by
  refine ⟨?_, (sz_at hl hq).2⟩
  rw [nI_8, nI_add]
def na_lI (x : Nat) : Int32 := if x < 7 then nI x else (-4 : Int32)
def na_TL (L : sg_L) (r : Nat → Nat) (p : Nat) (w : sx_W) : Prop := ∀ l, l < L.1 → ∀ q, q < p → w.1 55 (8 * l + q) = na_lI (na_B L r (q + 1) l)
section
variable {d : Nat} {w : sx_W} {L : sg_L} {b : Nat} {r : Nat → Nat}
theorem sg_Mo.fr' {t : Bool} {w' : sx_W} {cs : List Nat} (h : sg_Mo L b t r w) (hf : sg_fr cs w w') (hc : ∀ a ∈ [48, 49, 50, 51, 52], a ∉ cs) : sg_Mo L b t r w' :=
  h.fr hf (hc 48 (by decide)) (hc 49 (by decide)) (hc 50 (by decide)) (hc 51 (by decide)) (hc 52 (by decide))
theorem spMo_isAsleep {l p : Nat} (h : sg_Mo L b true r w) (hl : l < L.1) (hp : p < 8) : sx_de (d + 1) rMo_isAsleep [.ref 48, .int (nI l), .int (nI p)] w (sz_b (na_as L r l p)) 0 w := by
  intro Q z
  have h7 := h.1.1.1
  have hc : (nI l).toNatClampNeg = l := nI_clamp (by omega)
  obtain ⟨hr, hr8⟩ := h.2.2.2.2 rfl l hl
  have hs := spMo_sleep (d := d) h.1 hl hr8
  rw [← hr] at hs
  have hlt : sg_sl L l (r l) < 2 ^ 31 := by have := sg_sl_lt L l (r l); omega
  refine sx_met_of rfl rfl rfl rfl (bMo_isAsleep_0 (vp_in_nI (by omega) (by decide)) (by rw [hc]; exact hs) (fun c => ?_) (fun c => ?_))
  · rw [sz_bit1 hlt (by omega)] at c
    have e : na_as L r l p = false := by unfold na_as; simpa using c
    rw [e] at z; exact z
  · rw [sz_bit1 hlt (by omega)] at c
    have e : na_as L r l p = true := c
    rw [e] at z; exact z
theorem spMo_liesDown {l p : Nat} (h : sg_Mo L b true r w) (hl : l < L.1) (hp : p < 8) : sx_de (d + 2) rMo_liesDown [.ref 48, .int (nI l), .int (nI p)] w (sz_b (na_ld L r l p)) 0 w := by
  intro Q z
  have h1 := spMo_isAsleep (d := d) h hl hp
  cases e : na_as L r l p with
  | false =>
    rw [e] at h1
    have e2 : na_ld L r l p = false := by unfold na_ld; rw [e]; rfl
    rw [e2] at z
    exact sx_met_of rfl rfl rfl rfl (bMo_liesDown_0 (f2 := 0) h1 (fun _ => z) (fun c => absurd rfl c) (fun c => absurd rfl c) (fun c => absurd rfl c) (fun c => absurd rfl c))
  | true =>
    rw [e] at h1
    have y : ¬ sz_b true = 0 := by decide
    by_cases hp0 : p = 0
    · subst hp0
      have e2 : na_ld L r l 0 = true := by unfold na_ld; rw [e]; rfl
      rw [e2] at z
      exact sx_met_of rfl rfl rfl rfl (bMo_liesDown_0 (f2 := 0) h1 (fun c => absurd c y) (fun _ _ => z) (fun _ c => absurd rfl c) (fun _ c => absurd rfl c) (fun _ c => absurd rfl c))
    · obtain ⟨q, rfl⟩ : ∃ q, p = q + 1 := ⟨p - 1, by omega⟩
      have nz : ¬ nI (q + 1) = 0 := nI_ne0 (by omega) (by omega)
      have h2 := spMo_isAsleep (d := d) h hl (show q < 8 by omega)
      rw [← nI_pred q] at h2
      have e2 : na_ld L r l (q + 1) = !na_as L r l q := by simp [na_ld, e]
      rw [e2] at z
      refine sx_met_of rfl rfl rfl rfl (bMo_liesDown_0 h1 (fun c => absurd c y) (fun _ c => absurd c nz) (fun _ _ => h2) (fun _ _ c => ?_) (fun _ _ c => ?_))
      · cases e3 : na_as L r l q with
        | false => rw [e3] at c; exact absurd rfl c
        | true => rw [e3] at z; exact z
      · cases e3 : na_as L r l q with
        | false => rw [e3] at z; exact z
        | true => rw [e3] at c; exact absurd c (by decide)
/-- a part's beds, as far as they are laid -/
def na_KL (L : sg_L) (r : Nat → Nat) (p m : Nat) (B : Nat → Nat) (w : sx_W) : Prop := ∀ l, l < m → w.1 55 (8 * l + p) = na_lI (B l)
theorem na_KL_put {p m l : Nat} {B : Nat → Nat} {u : sx_W} {v : Int32} {B' : Nat → Nat} (hp : p < 8) (h : ∀ j, j < m → j ≠ l → u.1 55 (8 * j + p) = na_lI (B' j)) (hv : v = na_lI (B' l)) : na_KL L r p m B' (sx_u u.1 55 (8 * l + p) v, u.2) := by
  intro j hj
  show sx_u u.1 55 (8 * l + p) v 55 (8 * j + p) = _
  rw [sx_u_s]
  by_cases e : j = l
  · rw [if_pos (by omega), hv, e]
  · rw [if_neg (by omega)]; exact h j hj e
theorem na_TL_put {p q l : Nat} {u : sx_W} {v : Int32} (hp : p < 8) (hq : q ≤ p) (h : na_TL L r q u) : na_TL L r q (sx_u u.1 55 (8 * l + p) v, u.2) := by
  intro j hj i hi
  show sx_u u.1 55 (8 * l + p) v 55 (8 * j + i) = _
  rw [sx_u_s, if_neg (by omega)]; exact h j hj i hi
theorem na_oc_lt (hcap : ∀ p, p < 8 → fb_ct (fun l => na_as L r l p) L.1 ≤ 7) {p : Nat} (hp : p < 8) : ∀ m, m ≤ L.1 → na_oc L r (na_B L r p) p m < 2 ^ 10 := by
  intro m
  have hprev : na_ok L r (p - 1) (na_B L r p) ∨ p = 0 := by
    cases p with
    | zero => exact Or.inr rfl
    | succ q => exact Or.inl (na_B_ok hcap q (by omega))
  induction m with
  | zero => intro _; exact Nat.two_pow_pos _
  | succ m ih =>
    intro hm
    rw [na_oc]
    refine Nat.or_lt_two_pow (ih (by omega)) ?_
    split
    · rename_i hk
      refine Nat.pow_lt_pow_right (by decide) ?_
      have := (na_st_ok hprev (hcap p hp) 0 (by omega)).1 m (by omega) (Or.inl hk)
      have e : (na_st L r (na_B L r p) p 0).1 m = na_B L r p m := by simp only [na_st, hk, if_true]
      rw [e] at this
      omega
    · exact Nat.two_pow_pos _
theorem spMo_liesAll (h : sg_Mo L b true r w) (hcap : ∀ p, p < 8 → fb_ct (fun l => na_as L r l p) L.1 ≤ 7) : sx_x (d + 3) rMo_liesAll [.ref 48] w (fun f fl w' => f = 0 ∧ fl = 0 ∧ na_TL L r 8 w' ∧ sg_fr [55] w w') := by
  have h7 := h.1.1.1
  have fr1 : ∀ {u : sx_W} {i : Nat} {v : Int32}, sg_fr [55] w u → sg_fr [55] w (sx_u u.1 55 i v, u.2) := fun hf => hf.trans (fun a ha => ⟨sx_u_o (fun e => ha (by rw [e]; decide)), rfl⟩)
  have parts : ∀ p, p ≤ 8 → ∀ u, sg_fr [55] w u → na_TL L r p u → sx_xe (d + 3) rMo_liesAll 2 [.ref 48, .int (nI p), .null, .null, .null] u (fun f fl w' => f = 0 ∧ fl = 0 ∧ na_TL L r 8 w' ∧ sg_fr [55] w w') := by
    refine sx_for 8 (fun u hf hT => ?_) (fun p hp ihp u0 hf0 hT0 => ?_)
    · exact ⟨0, 0, u, fun Q z => bMo_liesAll_2 (fun _ => z) (fun c => absurd (by decide) c), rfl, rfl, hT, hf⟩
    have hprev : na_ok L r (p - 1) (na_B L r p) ∨ p = 0 := by
      cases p with
      | zero => exact Or.inr rfl
      | succ q => exact Or.inl (na_B_ok hcap q (by omega))
    -- who lies down
    have down : ∀ l, l ≤ L.1 → ∀ u, sg_fr [55] w u → na_TL L r p u → na_KL L r p L.1 (na_st L r (na_B L r p) p l).1 u → (na_st L r (na_B L r p) p l).2 < 2 ^ 10 → sx_xe (d + 3) rMo_liesAll 112 [.ref 48, .int (nI p), .int (nI (na_st L r (na_B L r p) p l).2), .int (nI l), .null] u (fun f fl w' => f = 0 ∧ fl = 0 ∧ na_TL L r 8 w' ∧ sg_fr [55] w w') := by
      refine sx_for L.1 (fun u hf hT hK ho => ?_) (fun l hl ih u hf hT hK ho => ?_)
      · have hCo := h.fr' hf (by decide)
        have nc : ¬ ¬ u.1 48 0 ≤ nI L.1 := fun c => c (by rw [hCo.1.2.1]; exact nI_le (Nat.le_refl _) (by omega))
        obtain ⟨f, fl, w', hev, hp2⟩ := ihp u hf (fun j hj q hq => by
          by_cases e : q = p
          · rw [e]; exact hK j hj
          · exact hT j hj q (by omega))
        refine ⟨f, fl, w', fun Q z => bMo_liesAll_112 (f1 := 0) (fun _ => ?_) (fun c => absurd c nc) (fun c => absurd c nc) (fun c => absurd c nc), hp2⟩
        rw [nI_1]; exact hev Q z
      · have hCo := h.fr' hf (by decide)
        have nn : ¬ u.1 48 0 ≤ nI l := by rw [hCo.1.2.1]; exact nI_ge hl (by omega)
        obtain ⟨e1, e2, e3⟩ := sz_at8 (show l < 7 by omega) hp
        have hld := spMo_liesDown (d := d) hCo hl hp
        obtain ⟨i1, i2, i3, i4⟩ := na_st_ok hprev (hcap p hp) l (by omega)
        cases hd : na_ld L r l p with
        | false =>
          rw [hd] at hld
          have es : na_st L r (na_B L r p) p (l + 1) = na_st L r (na_B L r p) p l := by rw [na_st, hd, if_neg Bool.false_ne_true]
          rw [es] at ih
          obtain ⟨f, fl, w', hev, hp2⟩ := ih u hf hT hK ho
          refine ⟨f, fl, w', fun Q z => bMo_liesAll_112 (fun c => absurd c nn) (fun _ => hld) (fun _ _ => ?_) (fun _ c => absurd rfl c), hp2⟩
          rw [nI_1]; exact hev Q z
        | true =>
          rw [hd] at hld
          have tot : fb_ct (fun l => na_kp L r l p) L.1 + fb_ct (fun l => na_ld L r l p) L.1 ≤ 7 := by
            have e := fb_ct_or (p := fun l => na_kp L r l p) (q := fun l => na_ld L r l p) (n := L.1) (fun k _ h => by rw [na_apart h.1] at h; exact absurd h.2 Bool.false_ne_true)
            rw [← e]
            have e2 : (fun k => na_kp L r k p || na_ld L r k p) = fun l => na_as L r l p := funext fun l => (na_split L r l p).symm
            rw [e2]
            exact hcap p hp
          have hlt : fb_ct (fun l => na_ld L r l p) l + 1 ≤ fb_ct (fun l => na_ld L r l p) L.1 := by
            have := fb_ct_mono (fun l => na_ld L r l p) (show l + 1 ≤ L.1 by omega)
            rw [fb_ct_succ, hd, if_pos rfl] at this
            exact this
          obtain ⟨f1, f2⟩ := na_lf_free (oc := (na_st L r (na_B L r p) p l).2) (by omega)
          have es : na_st L r (na_B L r p) p (l + 1) = (sg_up (na_st L r (na_B L r p) p l).1 l (na_lf (na_st L r (na_B L r p) p l).2), (na_st L r (na_B L r p) p l).2 ||| 2 ^ na_lf (na_st L r (na_B L r p) p l).2) := by rw [na_st, hd, if_pos rfl]
          rw [es] at ih
          generalize (na_st L r (na_B L r p) p l).1 = B at *
          generalize (na_st L r (na_B L r p) p l).2 = oc at *
          generalize hxd : na_lf oc = x at *
          have hx10 : oc ||| 2 ^ x < 2 ^ 10 := Nat.or_lt_two_pow ho (Nat.pow_lt_pow_right (by decide) (by omega))
          obtain ⟨f, fl, w', hev, hp2⟩ := ih (sx_u u.1 55 (8 * l + p) (nI x), u.2) (fr1 hf) (na_TL_put hp (Nat.le_refl _) hT) (na_KL_put (B := B) hp (fun j hj e => by
            show _ = na_lI (sg_up B l x j)
            rw [sg_up_o e]; exact hK j hj) (by
            show nI x = na_lI (sg_up B l x l)
            rw [sg_up_s, na_lI, if_pos f1])) hx10
          have found : ∀ k, k ≤ x → ∀ Q : sx_Q, Q f fl w' → sx_ev (d + 3) rMo_liesAll 132 [.ref 48, .int (nI p), .int (nI oc), .int (nI l), .int (nI k)] [] u Q := by
            refine sx_for x (fun Q z => ?_) (fun k hk ih2 Q z => ?_)
            · have c : ¬ ((nI oc >>> (nI x &&& 31)) &&& (1 : Int32)) = 1 := by rw [sz_bit1 (by omega) (by omega), f2]; exact Bool.false_ne_true
              refine bMo_liesAll_132 (fun _ => by rw [e1]; exact e3) (fun _ => ?_) (fun y => absurd y c)
              rw [e1, e2, sz_one x (by omega), fa_or, nI_1]; exact hev Q z
            · have hkb : oc.testBit k = true := by
                have := fa_first_no (fun b => !oc.testBit b) 7 k (by rw [show fa_first (fun b => !oc.testBit b) 7 = x from hxd]; exact hk)
                simpa using this
              have c : ((nI oc >>> (nI k &&& 31)) &&& (1 : Int32)) = 1 := by rw [sz_bit1 (by omega) (by omega)]; exact hkb
              refine bMo_liesAll_132 (fun y => absurd c y) (fun y => absurd c y) (fun _ => ?_)
              rw [nI_1]; exact ih2 Q z
          exact ⟨f, fl, w', fun Q z => bMo_liesAll_112 (fun c => absurd c nn) (fun _ => hld) (fun _ c => absurd c (by decide)) (fun _ _ => found 0 (Nat.zero_le _) Q z), hp2⟩
    -- who stays
    have keep : ∀ l, l ≤ L.1 → ∀ u, sg_fr [55] w u → na_TL L r p u → na_KL L r p l (na_st L r (na_B L r p) p 0).1 u → sx_xe (d + 3) rMo_liesAll 12 [.ref 48, .int (nI p), .int (nI (na_oc L r (na_B L r p) p l)), .int (nI l), .null] u (fun f fl w' => f = 0 ∧ fl = 0 ∧ na_TL L r 8 w' ∧ sg_fr [55] w w') := by
      refine sx_for L.1 (fun u hf hT hK => ?_) (fun l hl ih u hf hT hK => ?_)
      · have hCo := h.fr' hf (by decide)
        have nc : ¬ ¬ u.1 48 0 ≤ nI L.1 := fun c => c (by rw [hCo.1.2.1]; exact nI_le (Nat.le_refl _) (by omega))
        obtain ⟨f, fl, w', hev, hp2⟩ := down 0 (Nat.zero_le _) u hf hT hK (na_oc_lt hcap hp L.1 (Nat.le_refl _))
        exact ⟨f, fl, w', fun Q z => bMo_liesAll_12 (f1 := 0) (f2 := 0) (fun _ => hev Q z) (fun c => absurd c nc) (fun c => absurd c nc) (fun c => absurd c nc) (fun c => absurd c nc) (fun c => absurd c nc) (fun c => absurd c nc) (fun c => absurd c nc) (fun c => absurd c nc) (fun c => absurd c nc), hp2⟩
      · have hCo := h.fr' hf (by decide)
        have nn : ¬ u.1 48 0 ≤ nI l := by rw [hCo.1.2.1]; exact nI_ge hl (by omega)
        obtain ⟨e1, e2, e3⟩ := sz_at8 (show l < 7 by omega) hp
        have has := spMo_isAsleep (d := d + 1) hCo hl hp
        have hld := spMo_liesDown (d := d) hCo hl hp
        have nxt : ∀ v : Int32, v = na_lI ((na_st L r (na_B L r p) p 0).1 l) → sx_xe (d + 3) rMo_liesAll 12 [.ref 48, .int (nI p), .int (nI (na_oc L r (na_B L r p) p (l + 1))), .int (nI (l + 1)), .null] (sx_u u.1 55 (8 * l + p) v, u.2) (fun f fl w' => f = 0 ∧ fl = 0 ∧ na_TL L r 8 w' ∧ sg_fr [55] w w') := fun v hv =>
          ih _ (fr1 hf) (na_TL_put hp (Nat.le_refl _) hT) (na_KL_put (B := (na_st L r (na_B L r p) p 0).1) hp (fun j hj e => hK j (by omega)) hv)
        have kp0 : na_kp L r l p = false → sx_xe (d + 3) rMo_liesAll 12 [.ref 48, .int (nI p), .int (nI (na_oc L r (na_B L r p) p l) ||| 0), .int (nI l + 1), .null] (sx_u u.1 55 (8 * l + p) (-4), u.2) (fun f fl w' => f = 0 ∧ fl = 0 ∧ na_TL L r 8 w' ∧ sg_fr [55] w w') := fun hk => by
          have := nxt (-4) (by simp only [na_st, hk]; rfl)
          rw [na_oc, hk, if_neg Bool.false_ne_true] at this
          rw [show nI (na_oc L r (na_B L r p) p l) ||| (0 : Int32) = nI (na_oc L r (na_B L r p) p l ||| 0) from fa_or _ 0, nI_1]
          exact this
        cases ha : na_as L r l p with
        | false =>
          rw [ha] at has
          have hk : na_kp L r l p = false := by simp [na_kp, ha]
          obtain ⟨f, fl, w', hev, hp2⟩ := kp0 hk
          refine ⟨f, fl, w', fun Q z => bMo_liesAll_12 (f2 := 0) (fun c => absurd c nn) (fun _ => has) (fun _ _ => by rw [e1]; exact e3) (fun _ _ => ?_) (fun _ c => absurd rfl c) (fun _ c => absurd rfl c) (fun _ c => absurd rfl c) (fun _ c => absurd rfl c) (fun _ c => absurd rfl c) (fun _ c => absurd rfl c), hp2⟩
          rw [e1, e2]; exact hev Q z
        | true =>
          rw [ha] at has
          have y : ¬ sz_b true = 0 := by decide
          cases hd : na_ld L r l p with
          | true =>
            rw [hd] at hld
            have hk : na_kp L r l p = false := by
              cases e : na_kp L r l p with
              | false => rfl
              | true => rw [na_apart e] at hd; cases hd
            obtain ⟨f, fl, w', hev, hp2⟩ := kp0 hk
            refine ⟨f, fl, w', fun Q z => bMo_liesAll_12 (fun c => absurd c nn) (fun _ => has) (fun _ c => absurd c y) (fun _ c => absurd c y) (fun _ _ => hld) (fun _ _ _ => by rw [e1]; exact e3) (fun _ _ _ => ?_) (fun _ _ c => absurd c y) (fun _ _ c => absurd c y) (fun _ _ c => absurd c y), hp2⟩
            rw [e1, e2]; exact hev Q z
          | false =>
            rw [hd] at hld
            have hk : na_kp L r l p = true := by
              have := na_split L r l p
              rw [ha, hd, Bool.or_false] at this
              exact this.symm
            have hp0 : p ≠ 0 := fun e => by rw [e] at hk; simp [na_kp] at hk
            obtain ⟨q, rfl⟩ : ∃ q, p = q + 1 := ⟨p - 1, by omega⟩
            have has2 : na_as L r l q = true := by simp [na_kp, ha] at hk; exact hk
            have em : nI (8 * l + (q + 1)) - 1 = nI (8 * l + q) := nI_pred (8 * l + q)
            have emc : (nI (8 * l + q)).toNatClampNeg = 8 * l + q := nI_clamp (by omega)
            have hB7 : na_B L r (q + 1) l < 7 := (na_B_ok hcap q (by omega)).1 l hl has2
            have hah : u.1 55 (8 * l + q) = nI (na_B L r (q + 1) l) := by rw [hT l hl q (by omega), na_lI, if_pos hB7]
            have upds : ∀ v : Int32, upd (u.1 55) (8 * l + (q + 1)) v (8 * l + (q + 1)) = v := fun v => by simp [upd]
            obtain ⟨f, fl, w', hev, hp2⟩ := nxt (nI (na_B L r (q + 1) l)) (by simp only [na_st, hk, if_true]; rw [na_lI, if_pos hB7])
            rw [na_oc, hk, if_pos rfl] at hev
            refine ⟨f, fl, w', fun Q z => bMo_liesAll_12 (fun c => absurd c nn) (fun _ => has) (fun _ c => absurd c y) (fun _ c => absurd c y) (fun _ _ => hld) (fun _ _ c => absurd rfl c) (fun _ _ c => absurd rfl c) (fun _ _ _ => by rw [e1, em]; exact vp_in_nI (by omega) (by decide)) (fun _ _ _ => by rw [e1]; exact e3) (fun _ _ _ => ?_), hp2⟩
            rw [e1, e2, em, emc, upds, hah, sz_one _ (by omega), fa_or, nI_1]; exact hev Q z
    obtain ⟨f, fl, w', hev, hp2⟩ := keep 0 (Nat.zero_le _) u0 hf0 hT0 (fun j hj => by omega)
    exact ⟨f, fl, w', fun Q z => bMo_liesAll_2 (fun c => absurd c (nI_ge (b := 8) hp (by omega))) (fun _ => hev Q z), hp2⟩
  obtain ⟨f, fl, w', hev, hp2⟩ := parts 0 (by omega) w sg_fr.rfl' (fun l _ q hq => by omega)
  exact ⟨f, fl, w', fun Q z => sx_met_of rfl rfl rfl rfl (bMo_liesAll_0 (hev Q z)), hp2⟩
end
