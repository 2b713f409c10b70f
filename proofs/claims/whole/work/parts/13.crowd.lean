/-! ===== crowds: a long as eight counts and two sets ===== -/
theorem nb_and {k a b X Y : Nat} (ha : a < 2 ^ k) (hb : b < 2 ^ k) : (a + 2 ^ k * X) &&& (b + 2 ^ k * Y) = (a &&& b) + 2 ^ k * (X &&& Y) := by
  have h1 : ((a + 2 ^ k * X) &&& (b + 2 ^ k * Y)) % 2 ^ k = a &&& b := by
    rw [Nat.and_mod_two_pow, Nat.add_mul_mod_self_left, Nat.add_mul_mod_self_left, Nat.mod_eq_of_lt ha, Nat.mod_eq_of_lt hb]
  have h2 : ((a + 2 ^ k * X) &&& (b + 2 ^ k * Y)) / 2 ^ k = X &&& Y := by
    rw [Nat.and_div_two_pow, Nat.add_mul_div_left _ _ (Nat.two_pow_pos k), Nat.add_mul_div_left _ _ (Nat.two_pow_pos k), Nat.div_eq_of_lt ha, Nat.div_eq_of_lt hb, Nat.zero_add, Nat.zero_add]
  rw [← Nat.mod_add_div ((a + 2 ^ k * X) &&& (b + 2 ^ k * Y)) (2 ^ k), h1, h2]
theorem nb_or {k a b X Y : Nat} (ha : a < 2 ^ k) (hb : b < 2 ^ k) : (a + 2 ^ k * X) ||| (b + 2 ^ k * Y) = (a ||| b) + 2 ^ k * (X ||| Y) := by
  have h1 : ((a + 2 ^ k * X) ||| (b + 2 ^ k * Y)) % 2 ^ k = a ||| b := by
    rw [Nat.or_mod_two_pow, Nat.add_mul_mod_self_left, Nat.add_mul_mod_self_left, Nat.mod_eq_of_lt ha, Nat.mod_eq_of_lt hb]
  have h2 : ((a + 2 ^ k * X) ||| (b + 2 ^ k * Y)) / 2 ^ k = X ||| Y := by
    rw [Nat.or_div_two_pow, Nat.add_mul_div_left _ _ (Nat.two_pow_pos k), Nat.add_mul_div_left _ _ (Nat.two_pow_pos k), Nat.div_eq_of_lt ha, Nat.div_eq_of_lt hb, Nat.zero_add, Nat.zero_add]
  rw [← Nat.mod_add_div ((a + 2 ^ k * X) ||| (b + 2 ^ k * Y)) (2 ^ k), h1, h2]
def sg_dl (f : Nat → Nat) (hi : Nat) : Nat → Nat → Nat
  | 0, _ => hi
  | k + 1, p => f p + 16 * sg_dl f hi k (p + 1)
theorem sg_dl_add (f g : Nat → Nat) (x y : Nat) : ∀ k p, sg_dl f x k p + sg_dl g y k p = sg_dl (fun p => f p + g p) (x + y) k p
  | 0, _ => rfl
  | k + 1, p => by
    have ih := sg_dl_add f g x y k (p + 1)
    simp only [sg_dl]
    omega
theorem sg_dl_lt {f : Nat → Nat} {hi : Nat} (hf : ∀ q, f q < 16) : ∀ k p, sg_dl f hi k p < 16 ^ k * (hi + 1)
  | 0, _ => by simp [sg_dl]
  | k + 1, p => by
    have ih := sg_dl_lt (hi := hi) hf k (p + 1)
    have h := hf p
    simp only [sg_dl]
    rw [Nat.pow_succ, Nat.mul_assoc, Nat.mul_comm 16 (hi + 1), ← Nat.mul_assoc]
    omega
theorem nb_8 : ∀ f, f < 16 → ((f &&& 8 = 0) ↔ f < 8) := by decide +kernel
theorem sg_dl_8 {f : Nat → Nat} {x : Nat} (hf : ∀ q, f q < 16) : ∀ k p, (sg_dl f x k p &&& sg_dl (fun _ => 8) 0 k p = 0) ↔ ∀ i, i < k → f (p + i) < 8
  | 0, p => by simp [sg_dl]
  | k + 1, p => by
    have ih := sg_dl_8 (x := x) hf k (p + 1)
    have e := nb_and (k := 4) (a := f p) (b := 8) (X := sg_dl f x k (p + 1)) (Y := sg_dl (fun _ => 8) 0 k (p + 1)) (hf p) (by decide)
    simp only [sg_dl]
    rw [show (16 : Nat) = 2 ^ 4 from rfl, e]
    constructor
    · intro h i hi
      have h1 : f p &&& 8 = 0 := by omega
      have h2 : sg_dl f x k (p + 1) &&& sg_dl (fun _ => 8) 0 k (p + 1) = 0 := by
        rcases Nat.eq_zero_or_pos (sg_dl f x k (p + 1) &&& sg_dl (fun _ => 8) 0 k (p + 1)) with z | z
        · exact z
        · exfalso; have := Nat.mul_pos (show 0 < 2 ^ 4 by decide) z; omega
      cases i with
      | zero => exact (nb_8 _ (hf p)).mp h1
      | succ i => rw [show p + (i + 1) = p + 1 + i by omega]; exact ih.mp h2 i (by omega)
    · intro h
      rw [(nb_8 _ (hf p)).mpr (h 0 (by omega)), ih.mpr (fun i hi => by rw [show p + 1 + i = p + (i + 1) by omega]; exact h (i + 1) (by omega))]
theorem sg_dl_and {f : Nat → Nat} {x y : Nat} (hf : ∀ q, f q < 16) : ∀ k p, sg_dl f x k p &&& sg_dl (fun _ => 0) y k p = sg_dl (fun _ => 0) (x &&& y) k p
  | 0, p => rfl
  | k + 1, p => by
    have ih := sg_dl_and (x := x) (y := y) hf k (p + 1)
    have e := nb_and (k := 4) (a := f p) (b := 0) (X := sg_dl f x k (p + 1)) (Y := sg_dl (fun _ => 0) y k (p + 1)) (hf p) (by decide)
    simp only [sg_dl]
    rw [show (16 : Nat) = 2 ^ 4 from rfl, e, ih, Nat.and_zero]
theorem sg_dl_or {f : Nat → Nat} {x y : Nat} (hf : ∀ q, f q < 16) : ∀ k p, sg_dl f x k p ||| sg_dl (fun _ => 0) y k p = sg_dl f (x ||| y) k p
  | 0, p => rfl
  | k + 1, p => by
    have ih := sg_dl_or (x := x) (y := y) hf k (p + 1)
    have e := nb_or (k := 4) (a := f p) (b := 0) (X := sg_dl f x k (p + 1)) (Y := sg_dl (fun _ => 0) y k (p + 1)) (hf p) (by decide)
    simp only [sg_dl]
    rw [show (16 : Nat) = 2 ^ 4 from rfl, e, ih, Nat.or_zero]
theorem sg_dl_0 (x : Nat) : ∀ k p, sg_dl (fun _ => 0) x k p = 16 ^ k * x
  | 0, p => by simp [sg_dl]
  | k + 1, p => by
    simp only [sg_dl]
    rw [sg_dl_0 x k (p + 1), Nat.zero_add, Nat.pow_succ, Nat.mul_comm (16 ^ k) 16, Nat.mul_assoc]
def sg_bt (s p : Nat) : Nat := if s.testBit p then 1 else 0
theorem sg_bt_le (s p : Nat) : sg_bt s p ≤ 1 := by unfold sg_bt; split <;> omega
/-! who is placed: lodgers with their parts -/
def sg_cS (L : sg_L) : List (Nat × Nat) → Nat → Nat
  | [], _ => 0
  | q :: t, p => sg_cS L t p + sg_bt (sg_sl L q.1 q.2) p
def sg_lm (L : sg_L) (k : Nat) : List (Nat × Nat) → Nat
  | [] => 0
  | q :: t => if L.2.1 q.1 = k then sg_lm L k t ||| sg_sl L q.1 q.2 else sg_lm L k t
theorem sg_cS_le (L : sg_L) : ∀ (S : List (Nat × Nat)) (p : Nat), sg_cS L S p ≤ S.length
  | [], _ => Nat.le_refl 0
  | q :: t, p => by
    have h1 := sg_cS_le L t p
    have h2 := sg_bt_le (sg_sl L q.1 q.2) p
    simp only [sg_cS, List.length_cons]
    omega
theorem sg_lm_lt (L : sg_L) (k : Nat) : ∀ (S : List (Nat × Nat)), sg_lm L k S < 2 ^ 8
  | [] => by simp [sg_lm]
  | q :: t => by
    have h1 := sg_lm_lt L k t
    simp only [sg_lm]
    split
    · exact Nat.or_lt_two_pow h1 (sg_sl_lt L q.1 q.2)
    · exact h1
def sg_enc (L : sg_L) (b : Nat) (S : List (Nat × Nat)) : Nat := sg_dl (fun p => 7 - b + sg_cS L S p) (sg_lm L 2 S + 2 ^ 8 * sg_lm L 3 S) 8 0
theorem sg_enc_f (L : sg_L) (b : Nat) {S : List (Nat × Nat)} (hS : S.length ≤ 7) : ∀ q, 7 - b + sg_cS L S q < 16 := fun q => by
  have := sg_cS_le L S q
  omega
theorem sg_enc_lt (L : sg_L) (b : Nat) {S : List (Nat × Nat)} (hS : S.length ≤ 7) : sg_enc L b S < 2 ^ 48 := by
  have h := sg_dl_lt (hi := sg_lm L 2 S + 2 ^ 8 * sg_lm L 3 S) (sg_enc_f L b hS) 8 0
  have h1 := sg_lm_lt L 2 S
  have h2 := sg_lm_lt L 3 S
  have h3 : 16 ^ 8 * (sg_lm L 2 S + 2 ^ 8 * sg_lm L 3 S + 1) ≤ 16 ^ 8 * 2 ^ 16 := Nat.mul_le_mul_left _ (by omega)
  exact Nat.lt_of_lt_of_le h (Nat.le_trans h3 (by decide))
/-- one more can join -/
def sg_cl (L : sg_L) (S : List (Nat × Nat)) (l q : Nat) : Bool := if L.2.1 l = 2 then (sg_lm L 3 S &&& sg_sl L l q) == 0 else if L.2.1 l = 3 then (sg_lm L 2 S &&& sg_sl L l q) == 0 else true
def sg_jn (L : sg_L) (b : Nat) (S : List (Nat × Nat)) (l q : Nat) : Bool := sg_cl L S l q && sz_all (fun p => decide (sg_cS L ((l, q) :: S) p ≤ b)) 8
/-! what the Stays hold -/
def sg_yc (L : sg_L) (l q : Nat) : Nat := if L.2.1 l = 2 then 2 ^ 8 * sg_sl L l q else if L.2.1 l = 3 then sg_sl L l q else 0
def sg_ym (L : sg_L) (l q : Nat) : Nat := if L.2.1 l = 2 then sg_sl L l q else if L.2.1 l = 3 then 2 ^ 8 * sg_sl L l q else 0
def sg_St1 (L : sg_L) (w : sx_W) (l q : Nat) : Prop := w.2 13 (8 * l + q) = lN (sg_dl (sg_bt (sg_sl L l q)) 0 8 0) ∧ w.2 14 (8 * l + q) = lN (sg_dl (fun _ => 0) (sg_ym L l q) 8 0) ∧ w.2 15 (8 * l + q) = lN (sg_dl (fun _ => 0) (sg_yc L l q) 8 0)
def sg_St (L : sg_L) (w : sx_W) : Prop := ∀ l, l < L.1 → w.1 12 l = nI (sg_mays L l) ∧ ∀ q, q < 8 → sg_St1 L w l q
theorem lN_z {x : Nat} (h : x < 2 ^ 63) : (lN x = 0) ↔ x = 0 := by
  rw [show (0 : Int64) = lN 0 from rfl]
  exact fb_lN_inj h (by decide)
theorem sg_cl_iff (L : sg_L) (S : List (Nat × Nat)) (l q : Nat) : ((sg_lm L 2 S + 2 ^ 8 * sg_lm L 3 S) &&& sg_yc L l q = 0) ↔ sg_cl L S l q = true := by
  have h2 := sg_lm_lt L 2 S
  have hs : sg_sl L l q < 2 ^ 8 := sg_sl_lt L l q
  unfold sg_yc sg_cl
  by_cases k2 : L.2.1 l = 2
  · rw [if_pos k2, if_pos k2]
    have e := nb_and (k := 8) (a := sg_lm L 2 S) (b := 0) (X := sg_lm L 3 S) (Y := sg_sl L l q) h2 (by decide)
    rw [Nat.zero_add] at e
    rw [e, Nat.and_zero, Nat.zero_add, beq_iff_eq]
    constructor
    · intro h; omega
    · intro h; rw [h]
  · rw [if_neg k2, if_neg k2]
    by_cases k3 : L.2.1 l = 3
    · rw [if_pos k3, if_pos k3]
      have e := nb_and (k := 8) (a := sg_lm L 2 S) (b := sg_sl L l q) (X := sg_lm L 3 S) (Y := 0) h2 hs
      rw [Nat.mul_zero, Nat.add_zero] at e
      rw [e, Nat.and_zero, Nat.mul_zero, Nat.add_zero, beq_iff_eq]
    · rw [if_neg k3, if_neg k3, Nat.and_zero]
      simp
theorem sg_enc_cons (L : sg_L) (b : Nat) {S : List (Nat × Nat)} (hS : S.length ≤ 6) (l q : Nat) : (sg_enc L b S + sg_dl (sg_bt (sg_sl L l q)) 0 8 0) ||| sg_dl (fun _ => 0) (sg_ym L l q) 8 0 = sg_enc L b ((l, q) :: S) := by
  have h2 := sg_lm_lt L 2 S
  have hs : sg_sl L l q < 2 ^ 8 := sg_sl_lt L l q
  have hf : ∀ p, (fun p => 7 - b + sg_cS L S p + sg_bt (sg_sl L l q) p) p < 16 := fun p => by
    have h1 := sg_cS_le L S p
    have h2 := sg_bt_le (sg_sl L l q) p
    show 7 - b + sg_cS L S p + sg_bt (sg_sl L l q) p < 16
    omega
  rw [sg_enc, sg_dl_add, sg_dl_or hf, sg_enc]
  have e1 : (fun p => 7 - b + sg_cS L S p + sg_bt (sg_sl L l q) p) = fun p => 7 - b + sg_cS L ((l, q) :: S) p := funext fun p => by simp only [sg_cS]; omega
  have e2 : (sg_lm L 2 S + 2 ^ 8 * sg_lm L 3 S + 0) ||| sg_ym L l q = sg_lm L 2 ((l, q) :: S) + 2 ^ 8 * sg_lm L 3 ((l, q) :: S) := by
    rw [Nat.add_zero]
    unfold sg_ym
    simp only [sg_lm]
    by_cases k2 : L.2.1 l = 2
    · have e := nb_or (k := 8) (a := sg_lm L 2 S) (b := sg_sl L l q) (X := sg_lm L 3 S) (Y := 0) h2 hs
      rw [Nat.mul_zero, Nat.add_zero] at e
      rw [if_pos k2, if_pos k2, if_neg (by omega), e, Nat.or_zero]
    · rw [if_neg k2, if_neg k2]
      by_cases k3 : L.2.1 l = 3
      · have e := nb_or (k := 8) (a := sg_lm L 2 S) (b := 0) (X := sg_lm L 3 S) (Y := sg_sl L l q) h2 (by decide)
        rw [Nat.zero_add] at e
        rw [if_pos k3, if_pos k3, e, Nat.or_zero]
      · rw [if_neg k3, if_neg k3, Nat.or_zero]
  rw [e1, e2]
section
variable {d : Nat} {w : sx_W} {L : sg_L}
theorem sz_at {l q : Nat} (hl : l < 7) (hq : q < 8) : nI l * 8 + nI q = nI (8 * l + q) ∧ (nI (8 * l + q)).toNatClampNeg = 8 * l + q ∧ vp_in (nI (8 * l + q)) 56 := by
  refine ⟨?_, nI_clamp (by omega), vp_in_nI (by omega) (by decide)⟩
  rw [show (8 : Int32) = nI 8 from rfl, pk_mul, nI_add, Nat.mul_comm]
theorem spSt_joined {S : List (Nat × Nat)} {b l q : Nat} (hs : sg_St1 L w l q) (hS : S.length ≤ 6) (hb : b ≤ 7) (hl : l < 7) (hq : q < 8) :
    sx_de d rSt_joined [.ref 11, .long (lN (sg_enc L b S)), .int (nI l), .int (nI q)] w 0 (if sg_jn L b S l q then lN (sg_enc L b ((l, q) :: S)) else (-1 : Int64)) w := by
  intro Q z
  obtain ⟨e1, e2, e3⟩ := sz_at hl hq
  obtain ⟨s1, s2, s3⟩ := hs
  have hf := sg_enc_f L b (show S.length ≤ 7 by omega)
  have hX := sg_enc_lt L b (show S.length ≤ 7 by omega)
  have hX2 := sg_enc_lt L b (S := (l, q) :: S) (by simp; omega)
  have t1 : (lN (sg_enc L b S) &&& w.2 15 (nI l * 8 + nI q).toNatClampNeg = (0 : Int64)) ↔ sg_cl L S l q = true := by
    rw [e1, e2, s3, fb_andL, lN_z (Nat.lt_of_le_of_lt Nat.and_le_left (by omega)), sg_enc, sg_dl_and hf, sg_dl_0, ← sg_cl_iff L S l q]
    constructor
    · intro h
      rcases Nat.mul_eq_zero.mp h with z | z
      · exact absurd z (by decide)
      · exact z
    · intro h; rw [h, Nat.mul_zero]
  have hf2 : ∀ p, (fun p => 7 - b + sg_cS L S p + sg_bt (sg_sl L l q) p) p < 16 := fun p => by
    have h1 := sg_cS_le L S p
    have h2 := sg_bt_le (sg_sl L l q) p
    show 7 - b + sg_cS L S p + sg_bt (sg_sl L l q) p < 16
    omega
  have sum : lN (sg_enc L b S) + w.2 13 (nI l * 8 + nI q).toNatClampNeg = lN (sg_enc L b S + sg_dl (sg_bt (sg_sl L l q)) 0 8 0) := by rw [e1, e2, s1, lN_add]
  have t2 : ((lN (sg_enc L b S) + w.2 13 (nI l * 8 + nI q).toNatClampNeg) &&& lN 2290649224 = (0 : Int64)) ↔ sz_all (fun p => decide (sg_cS L ((l, q) :: S) p ≤ b)) 8 = true := by
    rw [sum, fb_andL, show (2290649224 : Nat) = sg_dl (fun _ => 8) 0 8 0 from rfl, lN_z (Nat.lt_of_le_of_lt Nat.and_le_right (by decide)), sg_enc, sg_dl_add, sg_dl_8 hf2, sz_all_iff]
    constructor
    · intro h i hi
      have h2 := h i hi
      rw [Nat.zero_add] at h2
      have h3 : 7 - b + sg_cS L S i + sg_bt (sg_sl L l q) i < 8 := h2
      have key : sg_cS L ((l, q) :: S) i = sg_cS L S i + sg_bt (sg_sl L l q) i := rfl
      exact decide_eq_true (by rw [key]; omega)
    · intro h i hi
      have h2 := of_decide_eq_true (h i hi)
      have key : sg_cS L ((l, q) :: S) i = sg_cS L S i + sg_bt (sg_sl L l q) i := rfl
      rw [Nat.zero_add]
      show 7 - b + sg_cS L S i + sg_bt (sg_sl L l q) i < 8
      omega
  refine sx_met_of rfl rfl rfl rfl (bSt_joined_0 (by rw [e1]; exact e3) (fun c => ?_) (fun c c2 => ?_) (fun c c2 => ?_))
  · have : sg_jn L b S l q = false := by rw [t1] at c; simp [sg_jn, c]
    rw [this] at z; exact z
  · have : sg_jn L b S l q = false := by rw [t2] at c2; simp only [sg_jn]; simp [c2]
    rw [this] at z; exact z
  · have : sg_jn L b S l q = true := by rw [t1] at c; rw [t2] at c2; simp only [sg_jn, c, c2]; rfl
    rw [this, if_pos rfl] at z
    rw [sum, e1, e2, s2, fb_orL, sg_enc_cons L b hS l q]
    exact z
theorem spSt_nobodyIn {b : Nat} (hb : b ≤ 7) : sx_de d rSt_nobodyIn [.int (nI b)] w 0 (lN (sg_enc L b [])) w := by
  intro Q z
  have e : ∀ b, b ≤ 7 → lN 286331153 * ((7 : Int32) - nI b).toInt64 = lN (sg_dl (fun _ => 7 - b + 0) 0 8 0) := by decide +kernel
  refine sx_met_of rfl rfl rfl rfl (bSt_nobodyIn_0 ?_)
  rw [e b hb]
  exact z
theorem spSt_oneInEach {s : Nat} (hs : s < 256) : sx_de (d + 1) rSt_oneInEach [.int (nI s)] w 0 (lN (sg_dl (sg_bt s) 0 8 0)) w := by
  intro Q z
  have e0 : ∀ s, s < 256 → sg_dl (sg_bt s) 0 8 0 = fb_sm (fun p => sg_bt s p * 16 ^ p) 8 := by decide +kernel
  rw [e0 s hs] at z
  refine sx_met_of rfl rfl rfl rfl (bSt_oneInEach_0 ?_)
  have lt : ∀ i, fb_sm (fun p => sg_bt s p * 16 ^ p) i < 16 ^ i := by
    intro i
    induction i with
    | zero => exact Nat.one_pos
    | succ i ih =>
      have := sg_bt_le s i
      rw [fb_sm_succ, Nat.pow_succ]
      have : sg_bt s i * 16 ^ i ≤ 1 * 16 ^ i := Nat.mul_le_mul_right _ this
      omega
  refine sx_for (P := fun i => sx_ev (d + 1) rSt_oneInEach 4 [.int (nI s), .long (lN (fb_sm (fun p => sg_bt s p * 16 ^ p) i)), .null, .int (nI i)] [] w Q) 8 ?_ (fun i hi ih => ?_) 0 (Nat.zero_le _)
  · exact bSt_oneInEach_4 (f1 := 0) (fun _ => z) (fun c => absurd (by decide) c) (fun c => absurd (by decide) c) (fun c => absurd (by decide) c)
  · refine bSt_oneInEach_4 (fun c => absurd c (nI_ge (b := 8) hi (by omega))) (fun _ => spSb_holds (by omega) (by omega)) (fun _ c => ?_) (fun _ c => ?_)
    · have e : sg_bt s i = 0 := by simp [sg_bt, sz_b0.mp c]
      rw [nI_1, show lN (fb_sm (fun p => sg_bt s p * 16 ^ p) i) ||| (0 : Int64) = lN (fb_sm (fun p => sg_bt s p * 16 ^ p) i ||| 0) from fb_orL _ 0, Nat.or_zero]
      rw [fb_sm_succ, e, Nat.zero_mul, Nat.add_zero] at ih
      exact ih
    · have e : sg_bt s i = 1 := by simp [sg_bt, sz_b1.mp c]
      have e2 : ∀ i, i < 8 → (1 : Int64) <<< (((4 : Int32) * nI i).toInt64 &&& 63) = lN (16 ^ i) := by decide +kernel
      have e3 : fb_sm (fun p => sg_bt s p * 16 ^ p) i ||| 16 ^ i = fb_sm (fun p => sg_bt s p * 16 ^ p) i + 16 ^ i := by
        have h := nb_or (k := 4 * i) (a := fb_sm (fun p => sg_bt s p * 16 ^ p) i) (b := 0) (X := 0) (Y := 1) (by rw [Nat.pow_mul]; exact lt i) (Nat.two_pow_pos _)
        rw [Nat.pow_mul] at h
        simpa using h
      rw [nI_1, e2 i hi, fb_orL, e3]
      rw [fb_sm_succ, e, Nat.one_mul] at ih
      exact ih
theorem spSt_allMayBegin (h : sg_C L w) (hs : sg_St L w) : sx_de d rSt_allMayBegin [.ref 11] w (sz_b (sz_all (fun l => !(sg_mays L l == 0)) L.1)) 0 w := by
  intro Q z
  obtain ⟨⟨h7, hr⟩, hn, hv⟩ := h
  refine sx_met_of rfl rfl rfl rfl (bSt_allMayBegin_0 ?_)
  refine sx_for (P := fun i => sz_all (fun l => !(sg_mays L l == 0)) i = true → sx_ev d rSt_allMayBegin 2 [.ref 11, .int (nI i)] [] w Q) L.1 (fun ha => ?_) (fun i hi ih ha => ?_) 0 (Nat.zero_le _) rfl
  · have nc : ¬ ¬ w.1 1 4 ≤ nI L.1 := fun c => c (by rw [hn]; exact nI_le (Nat.le_refl _) (by omega))
    rw [ha] at z
    exact bSt_allMayBegin_2 (fun _ => z) (fun c => absurd c nc) (fun c => absurd c nc) (fun c => absurd c nc)
  · have hc : (nI i).toNatClampNeg = i := nI_clamp (by omega)
    have e : (w.1 12 (nI i).toNatClampNeg = 0) ↔ sg_mays L i = 0 := by
      rw [hc, (hs i hi).1, show (0 : Int32) = nI 0 from rfl]
      exact nI_eq (by have := sg_mays_lt L i; omega) (by omega)
    refine bSt_allMayBegin_2 (fun c => absurd c (by rw [hn]; exact nI_ge hi (by omega))) (fun _ => vp_in_nI (by omega) (by decide)) (fun _ c => ?_) (fun _ c => ?_)
    · rw [nI_1]
      rw [e] at c
      exact ih (by rw [sz_all, ha]; simp [c])
    · rw [e] at c
      rw [sz_all_no hi (by simp [c])] at z
      exact z
end
