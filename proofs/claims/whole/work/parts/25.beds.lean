/-! ===== who lies where: beds by parts ===== -/
def na_as (L : sg_L) (ρ : Nat → Nat) (l p : Nat) : Bool := (sg_sl L l (ρ l)).testBit p
def na_kp (L : sg_L) (ρ : Nat → Nat) (l p : Nat) : Bool := na_as L ρ l p && (!(p == 0) && na_as L ρ l (p - 1))
def na_ld (L : sg_L) (ρ : Nat → Nat) (l p : Nat) : Bool := na_as L ρ l p && !(!(p == 0) && na_as L ρ l (p - 1))
theorem na_split (L : sg_L) (ρ : Nat → Nat) (l p : Nat) : na_as L ρ l p = (na_kp L ρ l p || na_ld L ρ l p) := by
  unfold na_kp na_ld
  cases na_as L ρ l p <;> cases (!(p == 0) && na_as L ρ l (p - 1)) <;> rfl
theorem na_apart {L : sg_L} {ρ : Nat → Nat} {l p : Nat} (h : na_kp L ρ l p = true) : na_ld L ρ l p = false := by
  unfold na_kp at h
  unfold na_ld
  rw [Bool.and_eq_true] at h
  rw [h.1, h.2]; rfl
/-- the bed of the least number that is free -/
def na_lf (oc : Nat) : Nat := fa_first (fun b => !oc.testBit b) 7
def na_oc (L : sg_L) (ρ prev : Nat → Nat) (p : Nat) : Nat → Nat
  | 0 => 0
  | m + 1 => na_oc L ρ prev p m ||| (if na_kp L ρ m p then 2 ^ prev m else 0)
def na_st (L : sg_L) (ρ prev : Nat → Nat) (p : Nat) : Nat → (Nat → Nat) × Nat
  | 0 => (fun l => if na_kp L ρ l p then prev l else 9, na_oc L ρ prev p L.1)
  | m + 1 => if na_ld L ρ m p then (sg_up (na_st L ρ prev p m).1 m (na_lf (na_st L ρ prev p m).2), (na_st L ρ prev p m).2 ||| 2 ^ na_lf (na_st L ρ prev p m).2) else na_st L ρ prev p m
def na_B (L : sg_L) (ρ : Nat → Nat) : Nat → Nat → Nat
  | 0 => fun _ => 9
  | p + 1 => (na_st L ρ (na_B L ρ p) p L.1).1
/-- what a part's beds must be -/
def na_ok (L : sg_L) (ρ : Nat → Nat) (p : Nat) (B : Nat → Nat) : Prop := (∀ l, l < L.1 → na_as L ρ l p = true → B l < 7) ∧ (∀ l, l < L.1 → na_as L ρ l p = false → B l = 9) ∧ ∀ l j, l < L.1 → j < L.1 → na_as L ρ l p = true → na_as L ρ j p = true → B l = B j → l = j
theorem na_cnt_set (oc b n : Nat) : fb_ct (fun i => (oc ||| 2 ^ b).testBit i) n ≤ fb_ct (fun i => oc.testBit i) n + 1 := by
  have e : (fun i => (oc ||| 2 ^ b).testBit i) = fun i => if i = b then true else oc.testBit i := funext fun i => by
    rw [fb_bit_set]
    by_cases h : i = b <;> simp [h]
  rw [e]
  rcases Nat.lt_or_ge b n with h | h
  · have := fb_ct_upd (fun i => oc.testBit i) true h
    rw [if_pos rfl] at this
    omega
  · rw [fb_ct_out (fun i => oc.testBit i) true h]; omega
theorem na_lf_free {oc : Nat} (h : fb_ct (fun i => oc.testBit i) 7 < 7) : na_lf oc < 7 ∧ oc.testBit (na_lf oc) = false := by
  have h1 : na_lf oc < 7 := by
    rcases Nat.lt_or_ge (na_lf oc) 7 with x | x
    · exact x
    · exfalso
      have : fb_ct (fun i => oc.testBit i) 7 = 7 := fb_ct_all.mpr (fun k hk => by
        have := fa_first_no (fun b => !oc.testBit b) 7 k (Nat.lt_of_lt_of_le hk x)
        simpa using this)
      omega
  refine ⟨h1, ?_⟩
  have h2 := fa_first_yes (fun b => !oc.testBit b) 7 h1
  show oc.testBit (fa_first (fun b => !oc.testBit b) 7) = false
  simpa using h2
section
variable {L : sg_L} {ρ : Nat → Nat}
theorem na_oc_bit {prev : Nat → Nat} {p : Nat} : ∀ {m l : Nat}, l < m → na_kp L ρ l p = true → (na_oc L ρ prev p m).testBit (prev l) = true
  | m + 1, l, hl, hk => by
    rw [na_oc, Nat.testBit_or]
    by_cases e : l = m
    · rw [← e, hk, if_pos rfl, Nat.testBit_two_pow_self, Bool.or_true]
    · rw [na_oc_bit (by omega) hk, Bool.true_or]
theorem na_oc_cnt {prev : Nat → Nat} {p : Nat} : ∀ m, fb_ct (fun i => (na_oc L ρ prev p m).testBit i) 7 ≤ fb_ct (fun l => na_kp L ρ l p) m
  | 0 => by
    have : (fun i => (na_oc L ρ prev p 0).testBit i) = fun _ => false := funext fun i => by simp [na_oc]
    rw [this, fb_ct_zero.mpr (fun _ _ => rfl)]
    exact Nat.zero_le _
  | m + 1 => by
    have ih := na_oc_cnt (prev := prev) (p := p) m
    rw [fb_ct_succ (fun l => na_kp L ρ l p) m, na_oc]
    cases hk : na_kp L ρ m p with
    | true =>
      rw [if_pos rfl, if_pos rfl]
      have := na_cnt_set (na_oc L ρ prev p m) (prev m) 7
      omega
    | false =>
      rw [if_neg Bool.false_ne_true, if_neg Bool.false_ne_true, Nat.or_zero]
      omega
/-- as far as all ahead of m lie -/
theorem na_st_ok {prev : Nat → Nat} {p : Nat} (hp : na_ok L ρ (p - 1) prev ∨ p = 0) (hb : fb_ct (fun l => na_as L ρ l p) L.1 ≤ 7) : ∀ m, m ≤ L.1 →
    (∀ l, l < L.1 → (na_kp L ρ l p = true ∨ (l < m ∧ na_ld L ρ l p = true)) → (na_st L ρ prev p m).1 l < 7 ∧ (na_st L ρ prev p m).2.testBit ((na_st L ρ prev p m).1 l) = true) ∧
    (∀ l, l < L.1 → ¬ (na_kp L ρ l p = true ∨ (l < m ∧ na_ld L ρ l p = true)) → (na_st L ρ prev p m).1 l = 9) ∧
    (∀ l j, l < L.1 → j < L.1 → (na_kp L ρ l p = true ∨ (l < m ∧ na_ld L ρ l p = true)) → (na_kp L ρ j p = true ∨ (j < m ∧ na_ld L ρ j p = true)) → (na_st L ρ prev p m).1 l = (na_st L ρ prev p m).1 j → l = j) ∧
    fb_ct (fun i => (na_st L ρ prev p m).2.testBit i) 7 ≤ fb_ct (fun l => na_kp L ρ l p) L.1 + fb_ct (fun l => na_ld L ρ l p) m
  | 0, _ => by
    have kpp : ∀ l, na_kp L ρ l p = true → p ≠ 0 ∧ na_as L ρ l (p - 1) = true := fun l h => by
      unfold na_kp at h
      simp only [Bool.and_eq_true, Bool.not_eq_true', beq_eq_false_iff_ne, ne_eq] at h
      exact ⟨h.2.1, h.2.2⟩
    have e1 : ∀ l, na_kp L ρ l p = true → (na_st L ρ prev p 0).1 l = prev l := fun l h => by simp only [na_st, h, if_true]
    refine ⟨fun l hl h => ?_, fun l hl h => ?_, fun l j hl hj h1 h2 he => ?_, ?_⟩
    · rcases h with h | ⟨h, -⟩
      · rw [e1 l h]
        obtain ⟨a1, a2⟩ := kpp l h
        rcases hp with hp | hp
        · exact ⟨hp.1 l hl a2, na_oc_bit hl h⟩
        · exact absurd hp a1
      · omega
    · have : na_kp L ρ l p = false := by
        cases e : na_kp L ρ l p with
        | false => rfl
        | true => exact absurd (Or.inl e) h
      simp only [na_st, this]
      rfl
    · rcases h1 with h1 | ⟨h1, -⟩
      · rcases h2 with h2 | ⟨h2, -⟩
        · rw [e1 l h1, e1 j h2] at he
          rcases hp with hp | hp
          · exact hp.2.2 l j hl hj (kpp l h1).2 (kpp j h2).2 he
          · exact absurd hp (kpp l h1).1
        · omega
      · omega
    · have := na_oc_cnt (L := L) (ρ := ρ) (prev := prev) (p := p) L.1
      show fb_ct (fun i => (na_oc L ρ prev p L.1).testBit i) 7 ≤ fb_ct (fun l => na_kp L ρ l p) L.1 + 0
      omega
  | m + 1, hm => by
    obtain ⟨i1, i2, i3, i4⟩ := na_st_ok hp hb m (by omega)
    cases hd : na_ld L ρ m p with
    | false =>
      have es : na_st L ρ prev p (m + 1) = na_st L ρ prev p m := by rw [na_st, hd, if_neg Bool.false_ne_true]
      have ei : ∀ l, (na_kp L ρ l p = true ∨ (l < m + 1 ∧ na_ld L ρ l p = true)) → (na_kp L ρ l p = true ∨ (l < m ∧ na_ld L ρ l p = true)) := fun l h => by
        rcases h with h | ⟨h1, h2⟩
        · exact Or.inl h
        · by_cases e : l = m
          · rw [e, hd] at h2; cases h2
          · exact Or.inr ⟨by omega, h2⟩
      rw [es, fb_ct_succ (fun l => na_ld L ρ l p) m, hd]
      refine ⟨fun l hl h => i1 l hl (ei l h), fun l hl h => i2 l hl (fun h2 => h ?_), fun l j hl hj h1 h2 => i3 l j hl hj (ei l h1) (ei j h2), by simpa using i4⟩
      rcases h2 with h2 | ⟨h2, h3⟩
      · exact Or.inl h2
      · exact Or.inr ⟨by omega, h3⟩
    | true =>
      have nk : na_kp L ρ m p = false := by
        cases e : na_kp L ρ m p with
        | false => rfl
        | true => rw [na_apart e] at hd; cases hd
      have es1 : (na_st L ρ prev p (m + 1)).1 = sg_up (na_st L ρ prev p m).1 m (na_lf (na_st L ρ prev p m).2) := by rw [na_st, hd, if_pos rfl]
      have es2 : (na_st L ρ prev p (m + 1)).2 = (na_st L ρ prev p m).2 ||| 2 ^ na_lf (na_st L ρ prev p m).2 := by rw [na_st, hd, if_pos rfl]
      have tot : fb_ct (fun l => na_kp L ρ l p) L.1 + fb_ct (fun l => na_ld L ρ l p) L.1 ≤ 7 := by
        have e := fb_ct_or (p := fun l => na_kp L ρ l p) (q := fun l => na_ld L ρ l p) (n := L.1) (fun k _ h => by rw [na_apart h.1] at h; exact absurd h.2 Bool.false_ne_true)
        rw [← e]
        have e2 : (fun k => na_kp L ρ k p || na_ld L ρ k p) = fun l => na_as L ρ l p := funext fun l => (na_split L ρ l p).symm
        rw [e2]
        exact hb
      have hlt : fb_ct (fun l => na_ld L ρ l p) m + 1 ≤ fb_ct (fun l => na_ld L ρ l p) L.1 := by
        have := fb_ct_mono (fun l => na_ld L ρ l p) (show m + 1 ≤ L.1 by omega)
        rw [fb_ct_succ, hd, if_pos rfl] at this
        exact this
      obtain ⟨f1, f2⟩ := na_lf_free (oc := (na_st L ρ prev p m).2) (by omega)
      have ei : ∀ l, l ≠ m → ((na_kp L ρ l p = true ∨ (l < m + 1 ∧ na_ld L ρ l p = true)) ↔ (na_kp L ρ l p = true ∨ (l < m ∧ na_ld L ρ l p = true))) := fun l e => by
        constructor
        · rintro (h | ⟨h1, h2⟩)
          · exact Or.inl h
          · exact Or.inr ⟨by omega, h2⟩
        · rintro (h | ⟨h1, h2⟩)
          · exact Or.inl h
          · exact Or.inr ⟨by omega, h2⟩
      rw [es1, es2, fb_ct_succ (fun l => na_ld L ρ l p) m, hd, if_pos rfl]
      refine ⟨fun l hl h => ?_, fun l hl h => ?_, fun l j hl hj h1 h2 he => ?_, ?_⟩
      · by_cases e : l = m
        · rw [e, sg_up_s, Nat.testBit_or, Nat.testBit_two_pow_self, Bool.or_true]
          exact ⟨f1, rfl⟩
        · obtain ⟨g1, g2⟩ := i1 l hl ((ei l e).mp h)
          rw [sg_up_o e, Nat.testBit_or, g2, Bool.true_or]
          exact ⟨g1, rfl⟩
      · by_cases e : l = m
        · exact absurd (Or.inr ⟨by omega, by rw [e]; exact hd⟩) h
        · rw [sg_up_o e]; exact i2 l hl (fun h2 => h ((ei l e).mpr h2))
      · by_cases el : l = m
        · by_cases ej : j = m
          · omega
          · exfalso
            rw [el, sg_up_s, sg_up_o ej] at he
            have := (i1 j hj ((ei j ej).mp h2)).2
            rw [← he, f2] at this; cases this
        · by_cases ej : j = m
          · exfalso
            rw [ej, sg_up_s, sg_up_o el] at he
            have := (i1 l hl ((ei l el).mp h1)).2
            rw [he, f2] at this; cases this
          · rw [sg_up_o el, sg_up_o ej] at he
            exact i3 l j hl hj ((ei l el).mp h1) ((ei j ej).mp h2) he
      · have := na_cnt_set (na_st L ρ prev p m).2 (na_lf (na_st L ρ prev p m).2) 7
        omega
theorem na_st_all {l p : Nat} (hl : l < L.1) : (na_kp L ρ l p = true ∨ (l < L.1 ∧ na_ld L ρ l p = true)) ↔ na_as L ρ l p = true := by
  rw [na_split, Bool.or_eq_true]
  exact ⟨fun h => by rcases h with h | h; exact Or.inl h; exact Or.inr h.2, fun h => by rcases h with h | h; exact Or.inl h; exact Or.inr ⟨hl, h⟩⟩
/-- every part's beds are as they must be, if never more than seven sleep -/
theorem na_B_ok (hb : ∀ p, p < 8 → fb_ct (fun l => na_as L ρ l p) L.1 ≤ 7) : ∀ p, p < 8 → na_ok L ρ p (na_B L ρ (p + 1))
  | p, hp => by
    have hprev : na_ok L ρ (p - 1) (na_B L ρ p) ∨ p = 0 := by
      cases p with
      | zero => exact Or.inr rfl
      | succ q => exact Or.inl (na_B_ok hb q (by omega))
    obtain ⟨i1, i2, i3, -⟩ := na_st_ok hprev (hb p hp) L.1 (Nat.le_refl _)
    refine ⟨fun l hl h => (i1 l hl ((na_st_all hl).mpr h)).1, fun l hl h => i2 l hl (fun h2 => ?_), fun l j hl hj h1 h2 => i3 l j hl hj ((na_st_all hl).mpr h1) ((na_st_all hj).mpr h2)⟩
    rw [(na_st_all hl).mp h2] at h; cases h
/-- the bed of one who lies down isn't changed by who comes behind -/
theorem na_st_keep {prev : Nat → Nat} {p m l : Nat} (h : l < m) : ∀ k, (na_st L ρ prev p (m + k)).1 l = (na_st L ρ prev p m).1 l
  | 0 => rfl
  | k + 1 => by
    rw [show m + (k + 1) = (m + k) + 1 by omega, na_st]
    split
    · show sg_up _ _ _ l = _
      rw [sg_up_o (by omega)]; exact na_st_keep h k
    · exact na_st_keep h k
theorem na_kept {p l : Nat} (hl : l < L.1) (h : na_kp L ρ l p = true) : na_B L ρ (p + 1) l = na_B L ρ p l := by
  have : ∀ m, (na_st L ρ (na_B L ρ p) p m).1 l = na_B L ρ p l := by
    intro m
    induction m with
    | zero => simp only [na_st, h, if_true]
    | succ m ih =>
      rw [na_st]
      split
      · rename_i hd
        show sg_up _ _ _ l = _
        rw [sg_up_o (fun e => by rw [← e, na_apart h] at hd; cases hd)]; exact ih
      · exact ih
  exact this L.1
theorem na_good_cap {b : Nat} (hb : b ≤ 7) (hg : sg_good L b ρ = true) : ∀ p, p < 8 → fb_ct (fun l => na_as L ρ l p) L.1 ≤ 7 := fun p hp => by
  have h1 := (sg_good_iff.mp hg).2.1 p hp
  rw [sg_pf_cS] at h1
  exact Nat.le_trans h1 hb
/-! who lies down, in the order of a day -/
def na_dl (L : sg_L) (ρ : Nat → Nat) (p : Nat) : Nat → List (Nat × Nat)
  | 0 => []
  | m + 1 => na_dl L ρ p m ++ (if na_ld L ρ m p then [(m, na_B L ρ (p + 1) m)] else [])
def na_D (L : sg_L) (ρ : Nat → Nat) : Nat → List (Nat × Nat)
  | 0 => []
  | p + 1 => na_D L ρ p ++ na_dl L ρ p L.1
theorem na_dl_len (p : Nat) : ∀ m, (na_dl L ρ p m).length ≤ m
  | 0 => Nat.le_refl _
  | m + 1 => by
    have ih := na_dl_len p m
    rw [na_dl, List.length_append]
    split
    · simp; omega
    · simp; omega
theorem na_D_len (h7 : L.1 ≤ 7) : ∀ p, (na_D L ρ p).length ≤ 7 * p
  | 0 => Nat.le_refl _
  | p + 1 => by
    have h1 := na_D_len h7 p
    have h2 := na_dl_len (L := L) (ρ := ρ) p L.1
    rw [na_D, List.length_append]
    omega
theorem na_dl_mem {p l x : Nat} : ∀ {m : Nat}, (l, x) ∈ na_dl L ρ p m → l < m ∧ na_ld L ρ l p = true ∧ x = na_B L ρ (p + 1) l
  | 0, h => by cases h
  | m + 1, h => by
    rw [na_dl, List.mem_append] at h
    rcases h with h | h
    · obtain ⟨h1, h2, h3⟩ := na_dl_mem h
      exact ⟨by omega, h2, h3⟩
    · split at h
      · rename_i hd
        rw [List.mem_singleton] at h
        cases h
        exact ⟨by omega, hd, rfl⟩
      · cases h
end
