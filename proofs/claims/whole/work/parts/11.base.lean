/-! ===== words for what the methods answer; the first leaves ===== -/
def sz_b (b : Bool) : Int32 := if b then 1 else 0
theorem sz_b0 {b : Bool} : sz_b b = 0 ↔ b = false := by cases b <;> simp [sz_b]
theorem sz_b1 {b : Bool} : ¬ sz_b b = 0 ↔ b = true := by cases b <;> simp [sz_b]
theorem sz_b01 (b : Bool) : sz_b b = 0 ∨ sz_b b = 1 := by cases b <;> simp [sz_b]
theorem sz_bt {b : Bool} (h : b = true) : sz_b b = 1 := by rw [h]; rfl
theorem sz_bf {b : Bool} (h : b = false) : sz_b b = 0 := by rw [h]; rfl
def sz_in (x : Int32) (n : Nat) : Bool := decide (0 ≤ x.toInt ∧ x.toInt < n)
theorem sz_in_iff {x : Int32} {n : Nat} : sz_in x n = true ↔ 0 ≤ x.toInt ∧ x.toInt < n := by simp [sz_in]
theorem sz_in_no {x : Int32} {n : Nat} : sz_in x n = false ↔ ¬ (0 ≤ x.toInt ∧ x.toInt < n) := by simp [sz_in]
theorem sz_in_vp {x : Int32} {n : Nat} (h : sz_in x n = true) : vp_in x n := vp_in_iff.mpr (sz_in_iff.mp h)
theorem sz_in_of {x : Int32} {n : Nat} (h : sz_in x n = true) (hn : n < 2 ^ 31) : ∃ j : Nat, j < n ∧ x = nI j := vp_in_of (sz_in_vp h) hn
theorem sz_in_nI {j n : Nat} (h : j < n) (hn : n < 2 ^ 31) : sz_in (nI j) n = true := by
  rw [sz_in_iff, nI_toInt (by omega)]
  omega
theorem sz_0 : (0 : Int32).toInt = 0 := rfl
theorem sz_lit (n : Nat) (h : n < 2 ^ 31) : (OfNat.ofNat n : Int32).toInt = n := by rw [fa_lit]; exact nI_toInt h
theorem sx_for {P : Nat → Prop} (n : Nat) (hn : P n) (hs : ∀ i, i < n → P (i + 1) → P i) : ∀ i, i ≤ n → P i := by
  have key : ∀ k i, i + k = n → P i := by
    intro k
    induction k with
    | zero => intro i hi; have : i = n := by omega
              rw [this]; exact hn
    | succ k ih => intro i hi; exact hs i (by omega) (ih (i + 1) (by omega))
  exact fun i hi => key (n - i) i (by omega)
/-- a method of which some answer and world are known, with a property -/
def sx_x (d : Nat) (r : sx_R) (As : List Value) (w : sx_W) (P : Int32 → Int64 → sx_W → Prop) : Prop := ∃ (f : Int32) (fl : Int64) (w' : sx_W), sx_de d r As w f fl w' ∧ P f fl w'
def sx_xe (d : Nat) (r : sx_R) (pc : Nat) (lo : List Value) (w : sx_W) (P : Int32 → Int64 → sx_W → Prop) : Prop := ∃ (f : Int32) (fl : Int64) (w' : sx_W), (∀ Q : sx_Q, Q f fl w' → sx_ev d r pc lo [] w Q) ∧ P f fl w'
/-! the lodgers: how many, kinds, needs, works -/
abbrev sg_L : Type := Nat × (Nat → Nat) × (Nat → Nat) × (Nat → Nat)
def sg_ok (L : sg_L) : Prop := L.1 ≤ 7 ∧ ∀ i, i < L.1 → L.2.1 i < 4 ∧ 1 ≤ L.2.2.1 i ∧ L.2.2.1 i ≤ 4 ∧ L.2.2.2 i < 256
def sg_V (o c a b e : Nat) (L : sg_L) (w : sx_W) : Prop := sg_ok L ∧ w.1 o c = nI L.1 ∧ ∀ i, i < L.1 → w.1 a i = nI (L.2.1 i) ∧ w.1 b i = nI (L.2.2.1 i) ∧ w.1 e i = nI (L.2.2.2 i)
abbrev sg_C (L : sg_L) (w : sx_W) : Prop := sg_V 1 4 2 3 4 L w
abbrev sg_M (L : sg_L) (w : sx_W) : Prop := sg_V 48 0 49 50 51 L w
/-- the parts in which one sleeps who begins with one -/
def sg_slp (k nd p : Nat) : Nat :=
  let s := if k = 1 ∧ 1 < nd then (2 ^ (nd - 1) - 1) ||| 16 else 2 ^ nd - 1
  ((s * 2 ^ p) ||| (s * 2 ^ p / 256)) % 256
def sg_sl (L : sg_L) (l p : Nat) : Nat := sg_slp (L.2.1 l) (L.2.2.1 l) p
section
variable {d : Nat} {w : sx_W} {L : sg_L}
theorem spHo_has {x : Int32} {n : Nat} (hn : w.1 1 4 = nI n) (h7 : n ≤ 7) : sx_de d rHo_has [.ref 1, .int x] w (sz_b (sz_in x n)) 0 w := by
  intro Q q
  have hi := nI_toInt (n := n) (by omega)
  refine sx_met_of rfl rfl rfl rfl (bHo_has_0 (fun c => ?_) (fun c c2 => ?_) (fun c c2 => ?_))
  · rw [sz_bf (sz_in_no.mpr (by rw [fa_lt, sz_0] at c; omega))] at q; exact q
  · rw [sz_bf (sz_in_no.mpr (by rw [hn, fa_le, hi] at c2; omega))] at q; exact q
  · rw [sz_bt (sz_in_iff.mpr (by rw [fa_lt, sz_0] at c; rw [hn, fa_le, hi] at c2; omega))] at q; exact q
theorem spSb_isPart {x : Int32} : sx_de d rSb_isPart [.int x] w (sz_b (sz_in x 8)) 0 w := by
  intro Q q
  have hi : (8 : Int32).toInt = 8 := rfl
  refine sx_met_of rfl rfl rfl rfl (bSb_isPart_0 (fun c => ?_) (fun c c2 => ?_) (fun c c2 => ?_))
  · rw [sz_bf (sz_in_no.mpr (by rw [fa_lt, sz_0] at c; omega))] at q; exact q
  · rw [sz_bf (sz_in_no.mpr (by rw [fa_le, hi] at c2; omega))] at q; exact q
  · rw [sz_bt (sz_in_iff.mpr (by rw [fa_lt, sz_0] at c; rw [fa_le, hi] at c2; omega))] at q; exact q
theorem spSb_isSetOfParts {x : Int32} : sx_de d rSb_isSetOfParts [.int x] w (sz_b (sz_in x 256)) 0 w := by
  intro Q q
  have hi : (255 : Int32).toInt = 255 := rfl
  refine sx_met_of rfl rfl rfl rfl (bSb_isSetOfParts_0 (fun c => ?_) (fun c c2 => ?_) (fun c c2 => ?_))
  · rw [sz_bf (sz_in_no.mpr (by rw [fa_lt, sz_0] at c; omega))] at q; exact q
  · rw [sz_bf (sz_in_no.mpr (by rw [fa_lt, hi] at c2; omega))] at q; exact q
  · rw [sz_bt (sz_in_iff.mpr (by rw [fa_lt, sz_0] at c; rw [fa_lt, hi] at c2; omega))] at q; exact q
def sz_day (x : Int32) : Bool := decide (1 ≤ x.toInt ∧ x.toInt ≤ 30)
theorem spSb_isDay {x : Int32} : sx_de d rSb_isDay [.int x] w (sz_b (sz_day x)) 0 w := by
  intro Q q
  have hi : (30 : Int32).toInt = 30 := rfl
  have h1 : (1 : Int32).toInt = 1 := rfl
  refine sx_met_of rfl rfl rfl rfl (bSb_isDay_0 (fun c => ?_) (fun c c2 => ?_) (fun c c2 => ?_))
  · rw [sz_bf (b := sz_day x) (decide_eq_false (by rw [fa_lt, h1] at c; omega))] at q; exact q
  · rw [sz_bf (b := sz_day x) (decide_eq_false (by rw [fa_lt, hi] at c2; omega))] at q; exact q
  · rw [sz_bt (b := sz_day x) (decide_eq_true (by rw [fa_lt, h1] at c; rw [fa_lt, hi] at c2; omega))] at q; exact q
theorem spSb_isBadSheet {x : Int32} : sx_de d rSb_isBadSheet [.int x] w (sz_b (!sz_in x 4)) 0 w := by
  intro Q q
  have hi : (4 : Int32).toInt = 4 := rfl
  refine sx_met_of rfl rfl rfl rfl (bSb_isBadSheet_0 (fun c => ?_) (fun c c2 => ?_) (fun c c2 => ?_))
  · rw [sz_in_no.mpr (by rw [fa_lt, sz_0] at c; omega)] at q; exact q
  · rw [sz_in_iff.mpr (by rw [fa_lt, sz_0] at c; rw [fa_lt, hi] at c2; omega)] at q; exact q
  · rw [sz_in_no.mpr (by rw [fa_lt, hi] at c2; omega)] at q; exact q
theorem spSb_isBadLane {x : Int32} : sx_de d rSb_isBadLane [.int x] w (sz_b (!sz_in x 3)) 0 w := by
  intro Q q
  have hi : (2 : Int32).toInt = 2 := rfl
  refine sx_met_of rfl rfl rfl rfl (bSb_isBadLane_0 (fun c => ?_) (fun c c2 => ?_) (fun c c2 => ?_))
  · rw [sz_in_no.mpr (by rw [fa_lt, sz_0] at c; omega)] at q; exact q
  · rw [sz_in_iff.mpr (by rw [fa_lt, sz_0] at c; rw [fa_le, hi] at c2; omega)] at q; exact q
  · rw [sz_in_no.mpr (by rw [fa_le, hi] at c2; omega)] at q; exact q
/-- one bit of a set -/
theorem sz_bit {s p : Nat} (hs : s < 2 ^ 31) (hp : p < 31) : (nI s >>> (nI p &&& 31)) &&& 1 = nI (s / 2 ^ p % 2) := by
  have h1 : ∀ p, p < 31 → ((nI p &&& 31).toBitVec.smod 32).toNat = p := by decide +kernel
  rw [pk_shrN hs _ p (h1 p hp), pk_andN (m := 1) (k := 1) (by have := Nat.div_le_self s (2 ^ p); omega) rfl]
theorem sz_bit0 {s p : Nat} (hs : s < 2 ^ 31) (hp : p < 31) : ((nI s >>> (nI p &&& 31)) &&& 1 = 0) ↔ s.testBit p = false := by
  rw [sz_bit hs hp, show (0 : Int32) = nI 0 from rfl, nI_eq (by omega) (by omega), Nat.testBit_eq_decide_div_mod_eq]
  simp
theorem spSb_holds {s p : Nat} (hs : s < 2 ^ 31) (hp : p < 31) : sx_de d rSb_holds [.int (nI s), .int (nI p)] w (sz_b (s.testBit p)) 0 w := by
  intro Q q
  refine sx_met_of rfl rfl rfl rfl (bSb_holds_0 (fun c => ?_) (fun c => ?_))
  · rw [sz_bf ((sz_bit0 hs hp).mp c)] at q; exact q
  · rw [sz_bt (by rw [sz_bit0 hs hp] at c; simpa using c)] at q; exact q
theorem spMo_in {x y z : Int64} : sx_de d rMo_in [.long x, .long y, .long z] w (sz_b (decide (y.toInt ≤ x.toInt ∧ x.toInt ≤ z.toInt))) 0 w := by
  intro Q q
  refine sx_met_of rfl rfl rfl rfl (bMo_in_0 (fun c => ?_) (fun c c2 => ?_) (fun c c2 => ?_))
  · rw [sz_bf (decide_eq_false (by rw [fa_lt64] at c; omega))] at q; exact q
  · rw [sz_bf (decide_eq_false (by rw [fa_lt64] at c2; omega))] at q; exact q
  · rw [sz_bt (decide_eq_true (by rw [fa_lt64] at c c2; omega))] at q; exact q
theorem sz_in_le {x : Int32} {n : Nat} : decide ((0 : Int64).toInt ≤ x.toInt64.toInt ∧ x.toInt64.toInt ≤ (n : Int) - 1) = sz_in x n := by
  rw [Int32.toInt_toInt64, show (0 : Int64).toInt = 0 from rfl]
  unfold sz_in
  congr 1
  exact propext ⟨fun h => ⟨h.1, by omega⟩, fun h => ⟨h.1, by omega⟩⟩
theorem spMo_isLodger {x : Int32} {n : Nat} (hn : w.1 48 0 = nI n) (h7 : n ≤ 7) : sx_de (d + 1) rMo_isLodger [.ref 48, .int x] w (sz_b (sz_in x n)) 0 w := by
  intro Q q
  refine sx_met_of rfl rfl rfl rfl (bMo_isLodger_0 spMo_in ?_ (sz_b01 _))
  have e : (w.1 48 0 - 1).toInt64.toInt = (n : Int) - 1 := by
    rw [Int32.toInt_toInt64, hn]
    exact (by decide +kernel : ∀ n, n ≤ 7 → (nI n - 1).toInt = (n : Int) - 1) n h7
  rw [e, sz_in_le]
  exact q
theorem spMo_isPartL {y : Int64} : sx_de (d + 1) rMo_isPart [.long y] w (sz_b (decide (0 ≤ y.toInt ∧ y.toInt ≤ 7))) 0 w := by
  intro Q q
  exact sx_met_of rfl rfl rfl rfl (bMo_isPart_0 spMo_in q (sz_b01 _))
theorem spMo_isPart {x : Int32} : sx_de (d + 1) rMo_isPart [.long x.toInt64] w (sz_b (sz_in x 8)) 0 w := by
  intro Q q
  refine sx_met_of rfl rfl rfl rfl (bMo_isPart_0 spMo_in ?_ (sz_b01 _))
  rw [show (lN 7).toInt = ((8 : Nat) : Int) - 1 from rfl, sz_in_le]
  exact q
theorem spMo_isSheet {x : Int32} : sx_de (d + 1) rMo_isSheet [.int x] w (sz_b (sz_in x 4)) 0 w := by
  intro Q q
  refine sx_met_of rfl rfl rfl rfl (bMo_isSheet_0 spMo_in ?_ (sz_b01 _))
  rw [show (lN 3).toInt = ((4 : Nat) : Int) - 1 from rfl, sz_in_le]
  exact q
theorem spMo_isLane {x : Int32} : sx_de (d + 1) rMo_isLane [.int x] w (sz_b (sz_in x 3)) 0 w := by
  intro Q q
  refine sx_met_of rfl rfl rfl rfl (bMo_isLane_0 spMo_in ?_ (sz_b01 _))
  rw [show (lN 2).toInt = ((3 : Nat) : Int) - 1 from rfl, sz_in_le]
  exact q
theorem sz_pow : ∀ n, n ≤ 7 → ((1 : Int32) <<< (nI n &&& 31)) = nI (2 ^ n) ∧ (((1 : Int32) <<< (nI n &&& 31)) - 1).toInt = (2 ^ n : Nat) - 1 := by decide +kernel
theorem spHo_isSetOfLodgers {x : Int32} {n : Nat} (hn : w.1 1 4 = nI n) (h7 : n ≤ 7) : sx_de d rHo_isSetOfLodgers [.ref 1, .int x] w (sz_b (sz_in x (2 ^ n))) 0 w := by
  intro Q q
  have h2 : 2 ^ n ≤ 2 ^ 7 := Nat.pow_le_pow_right (by decide) h7
  have hi := nI_toInt (n := 2 ^ n) (by omega)
  refine sx_met_of rfl rfl rfl rfl (bHo_isSetOfLodgers_0 (fun c => ?_) (fun c c2 => ?_) (fun c c2 => ?_))
  · rw [sz_bf (sz_in_no.mpr (by rw [fa_lt, sz_0] at c; omega))] at q; exact q
  · rw [sz_bf (sz_in_no.mpr (by rw [hn, (sz_pow n h7).1, fa_le, hi] at c2; omega))] at q; exact q
  · rw [sz_bt (sz_in_iff.mpr (by rw [fa_lt, sz_0] at c; rw [hn, (sz_pow n h7).1, fa_le, hi] at c2; omega))] at q; exact q
theorem spMo_isSet {x y : Int32} {n : Nat} (hn : w.1 48 0 = nI n) (h7 : n ≤ 7) : sx_de (d + 1) rMo_isSet [.ref 48, .int x, .int y] w (sz_b (sz_in x (2 ^ n) && sz_day y)) 0 w := by
  intro Q q
  have e : (((1 : Int32) <<< ((w.1 48 0) &&& 31)) - (1 : Int32)).toInt64.toInt = ((2 ^ n : Nat) : Int) - 1 := by
    rw [Int32.toInt_toInt64, hn]
    exact (sz_pow n h7).2
  have e2 : (decide ((1 : Int64).toInt ≤ y.toInt64.toInt ∧ y.toInt64.toInt ≤ (lN 30).toInt)) = sz_day y := by
    rw [Int32.toInt_toInt64]
    rfl
  refine sx_met_of rfl rfl rfl rfl (bMo_isSet_0 (f1 := sz_b (sz_in x (2 ^ n))) (f2 := sz_b (sz_day y)) ?_ (fun c => ?_) (fun _ => ?_) (fun c c2 => ?_) (fun c c2 => ?_))
  · have := spMo_in (d := d) (w := w) (x := x.toInt64) (y := 0) (z := (((1 : Int32) <<< ((w.1 48 0) &&& 31)) - (1 : Int32)).toInt64)
    rw [e, sz_in_le] at this
    exact this
  · rw [sz_b0.mp c] at q; exact q
  · have := spMo_in (d := d) (w := w) (x := y.toInt64) (y := 1) (z := lN 30)
    rw [e2] at this
    exact this
  · rw [sz_b1.mp c, sz_b0.mp c2] at q; exact q
  · rw [sz_b1.mp c, sz_b1.mp c2] at q; exact q
/-! sleep -/
theorem sg_slp_C1 : ∀ nd, nd < 5 → ∀ p, p < 8 → (((((((1 : Int32) <<< ((nI nd) &&& 31)) - (1 : Int32)) ||| (0 : Int32)) <<< ((nI p) &&& 31)) ||| ((((((1 : Int32) <<< ((nI nd) &&& 31)) - (1 : Int32)) ||| (0 : Int32)) <<< ((nI p) &&& 31)) >>> ((8 : Int32) &&& 31))) &&& (255 : Int32)) = nI (sg_slp 0 nd p) := by decide +kernel
theorem sg_slp_C2 : ∀ m, m < 3 → ∀ p, p < 8 → (((((((1 : Int32) <<< (((nI (m + 2)) - (1 : Int32)) &&& 31)) - (1 : Int32)) ||| (16 : Int32)) <<< ((nI p) &&& 31)) ||| ((((((1 : Int32) <<< (((nI (m + 2)) - (1 : Int32)) &&& 31)) - (1 : Int32)) ||| (16 : Int32)) <<< ((nI p) &&& 31)) >>> ((8 : Int32) &&& 31))) &&& (255 : Int32)) = nI (sg_slp 1 (m + 2) p) := by decide +kernel
theorem sg_slp_n1 {k nd p : Nat} (h : ¬ (k = 1 ∧ 1 < nd)) : sg_slp k nd p = sg_slp 0 nd p := by
  simp only [sg_slp]
  rw [if_neg h, if_neg (by omega)]
theorem sg_slp_C : ∀ k, k < 4 → ∀ nd, nd < 5 → 1 ≤ nd → ∀ p, p < 8 →
    (¬ (nI k) = (1 : Int32) → (((((((1 : Int32) <<< ((nI nd) &&& 31)) - (1 : Int32)) ||| (0 : Int32)) <<< ((nI p) &&& 31)) ||| ((((((1 : Int32) <<< ((nI nd) &&& 31)) - (1 : Int32)) ||| (0 : Int32)) <<< ((nI p) &&& 31)) >>> ((8 : Int32) &&& 31))) &&& (255 : Int32)) = nI (sg_slp k nd p)) ∧
    (nI k = (1 : Int32) → nI nd ≤ (1 : Int32) → (((((((1 : Int32) <<< ((nI nd) &&& 31)) - (1 : Int32)) ||| (0 : Int32)) <<< ((nI p) &&& 31)) ||| ((((((1 : Int32) <<< ((nI nd) &&& 31)) - (1 : Int32)) ||| (0 : Int32)) <<< ((nI p) &&& 31)) >>> ((8 : Int32) &&& 31))) &&& (255 : Int32)) = nI (sg_slp k nd p)) ∧
    (nI k = (1 : Int32) → ¬ nI nd ≤ (1 : Int32) → (((((((1 : Int32) <<< (((nI nd) - (1 : Int32)) &&& 31)) - (1 : Int32)) ||| (16 : Int32)) <<< ((nI p) &&& 31)) ||| ((((((1 : Int32) <<< (((nI nd) - (1 : Int32)) &&& 31)) - (1 : Int32)) ||| (16 : Int32)) <<< ((nI p) &&& 31)) >>> ((8 : Int32) &&& 31))) &&& (255 : Int32)) = nI (sg_slp k nd p)) := by
  intro k hk nd hnd h1 p hp
  have ek : nI k = (1 : Int32) ↔ k = 1 := by rw [show (1 : Int32) = nI 1 from rfl]; exact nI_eq (by omega) (by omega)
  have en : nI nd ≤ (1 : Int32) ↔ nd ≤ 1 := by rw [show (1 : Int32) = nI 1 from rfl]; exact nI_leI (by omega) (by omega)
  refine ⟨fun h => ?_, fun h h2 => ?_, fun h h2 => ?_⟩
  · rw [ek] at h
    rw [sg_slp_n1 (by omega)]
    exact sg_slp_C1 nd hnd p hp
  · rw [en] at h2
    rw [sg_slp_n1 (by omega)]
    exact sg_slp_C1 nd hnd p hp
  · rw [ek] at h
    rw [en] at h2
    obtain ⟨m, rfl⟩ : ∃ m, nd = m + 2 := ⟨nd - 2, by omega⟩
    rw [h]
    exact sg_slp_C2 m (by omega) p hp
theorem spHo_sleepSet {l p : Nat} (h : sg_C L w) (hl : l < L.1) (hp : p < 8) : sx_de d rHo_sleepSet [.ref 1, .int (nI l), .int (nI p)] w (nI (sg_sl L l p)) 0 w := by
  intro Q q
  obtain ⟨⟨h7, hr⟩, hn, hv⟩ := h
  obtain ⟨r1, r2, r3, r4⟩ := hr l hl
  obtain ⟨v1, v2, v3⟩ := hv l hl
  have hc : (nI l).toNatClampNeg = l := nI_clamp (by omega)
  have key := sg_slp_C (L.2.1 l) r1 (L.2.2.1 l) (by omega) r2 p hp
  have hi : vp_in (nI l) 7 := vp_in_nI (by omega) (by decide)
  refine sx_met_of rfl rfl rfl rfl (bHo_sleepSet_0 hi (fun c => ?_) (fun c c2 => ?_) (fun c c2 => ?_))
  · rw [hc, v1] at c; rw [hc, v2, key.1 c]; exact q
  · rw [hc, v1] at c; rw [hc, v2] at c2; rw [hc, v2, key.2.1 c c2]; exact q
  · rw [hc, v1] at c; rw [hc, v2] at c2; rw [hc, v2, key.2.2 c c2]; exact q
/-! the model's sleep -/
def sg_ms (p : Nat) : Nat → Int32
  | 0 => (1 : Int32) <<< (nI p &&& 31)
  | i + 1 => sg_ms p i ||| ((1 : Int32) <<< (((nI p + nI (i + 1)) - (nI p + nI (i + 1)) / (8 : Int32) * (8 : Int32)) &&& 31))
theorem sg_ms_1 : ∀ m, m < 4 → ∀ p, p < 8 → sg_ms p m = nI (sg_slp 0 (m + 1) p) := by decide +kernel
theorem sg_ms_2 : ∀ m, m < 3 → ∀ p, p < 8 → sg_ms p m ||| ((1 : Int32) <<< (((nI p + (4 : Int32)) - (nI p + (4 : Int32)) / (8 : Int32) * (8 : Int32)) &&& 31)) = nI (sg_slp 1 (m + 2) p) := by decide +kernel
theorem spMo_sleep {l p : Nat} (h : sg_M L w) (hl : l < L.1) (hp : p < 8) : sx_de d rMo_sleep [.ref 48, .int (nI l), .int (nI p)] w (nI (sg_sl L l p)) 0 w := by
  intro Q q
  obtain ⟨⟨h7, hr⟩, hn, hv⟩ := h
  obtain ⟨r1, r2, r3, r4⟩ := hr l hl
  obtain ⟨v1, v2, v3⟩ := hv l hl
  have hc : (nI l).toNatClampNeg = l := nI_clamp (by omega)
  have hi : vp_in (nI l) 7 := vp_in_nI (by omega) (by decide)
  have ek : nI (L.2.1 l) = (1 : Int32) ↔ L.2.1 l = 1 := by rw [show (1 : Int32) = nI 1 from rfl]; exact nI_eq (by omega) (by omega)
  have en : nI (L.2.2.1 l) ≤ (1 : Int32) ↔ L.2.2.1 l ≤ 1 := by rw [show (1 : Int32) = nI 1 from rfl]; exact nI_leI (by omega) (by omega)
  unfold sg_sl at q
  have loop0 : ∀ m, m < 4 → Q (sg_ms p m) 0 w → sx_ev d rMo_sleep 58 [.null, .null, .int (nI p), .int (sg_ms p 0), .int (0 : Int32), .int (nI (m + 1)), .int (nI 1)] [] w Q := by
    intro m hm q
    refine sx_for (P := fun i => sx_ev d rMo_sleep 58 [.null, .null, .int (nI p), .int (sg_ms p i), .int (0 : Int32), .int (nI (m + 1)), .int (nI (i + 1))] [] w Q) m ?_ (fun i hi ih => ?_) 0 (Nat.zero_le _)
    · exact bMo_sleep_58 (fun _ _ => q) (fun _ c => absurd rfl c) (fun c => absurd (nI_le (Nat.le_refl _) (by omega)) c)
    · refine bMo_sleep_58 (fun c => absurd c (nI_ge (by omega) (by omega))) (fun c => absurd c (nI_ge (by omega) (by omega))) (fun c => ?_)
      rw [nI_1]
      exact ih
  have loop1 : ∀ m, m < 4 → Q (sg_ms p m ||| ((1 : Int32) <<< (((nI p + (4 : Int32)) - (nI p + (4 : Int32)) / (8 : Int32) * (8 : Int32)) &&& 31))) 0 w → sx_ev d rMo_sleep 58 [.null, .null, .int (nI p), .int (sg_ms p 0), .int (1 : Int32), .int (nI (m + 1)), .int (nI 1)] [] w Q := by
    intro m hm q
    refine sx_for (P := fun i => sx_ev d rMo_sleep 58 [.null, .null, .int (nI p), .int (sg_ms p i), .int (1 : Int32), .int (nI (m + 1)), .int (nI (i + 1))] [] w Q) m ?_ (fun i hi ih => ?_) 0 (Nat.zero_le _)
    · exact bMo_sleep_58 (fun _ c => absurd c (by decide)) (fun _ _ => q) (fun c => absurd (nI_le (Nat.le_refl _) (by omega)) c)
    · refine bMo_sleep_58 (fun c => absurd c (nI_ge (by omega) (by omega))) (fun c => absurd c (nI_ge (by omega) (by omega))) (fun c => ?_)
      rw [nI_1]
      exact ih
  refine sx_met_of rfl rfl rfl rfl (bMo_sleep_0 hi (fun c => ?_) (fun c c2 => ?_) (fun c c2 => ?_))
  · rw [hc, v1, ek] at c
    rw [hc, v2]
    obtain ⟨m, hm⟩ : ∃ m, L.2.2.1 l = m + 1 := ⟨L.2.2.1 l - 1, by omega⟩
    rw [hm] at q ⊢
    rw [sg_slp_n1 (by omega), ← sg_ms_1 m (by omega) p hp] at q
    exact loop0 m (by omega) q
  · rw [hc, v2, en] at c2
    rw [hc, v2]
    obtain ⟨m, hm⟩ : ∃ m, L.2.2.1 l = m + 1 := ⟨L.2.2.1 l - 1, by omega⟩
    rw [hm] at q ⊢
    rw [sg_slp_n1 (by omega), ← sg_ms_1 m (by omega) p hp] at q
    exact loop0 m (by omega) q
  · rw [hc, v1, ek] at c
    rw [hc, v2, en] at c2
    rw [hc, v2]
    obtain ⟨m, hm⟩ : ∃ m, L.2.2.1 l = m + 2 := ⟨L.2.2.1 l - 2, by omega⟩
    rw [hm] at q ⊢
    rw [c, ← sg_ms_2 m (by omega) p hp] at q
    rw [show nI (m + 2) - 1 = nI (m + 1) from nI_pred (m + 1)]
    exact loop1 m (by omega) q
def sg_may (L : sg_L) (l p : Nat) : Bool := (sg_sl L l p &&& L.2.2.2 l) == 0
theorem sg_sl_lt (L : sg_L) (l p : Nat) : sg_sl L l p < 256 := Nat.mod_lt _ (by decide)
theorem sz_and0 {a b : Nat} (h : a < 2 ^ 31) : (nI a &&& nI b = 0) ↔ (a &&& b) = 0 := by
  rw [fa_and, show (0 : Int32) = nI 0 from rfl]
  exact nI_eq (Nat.lt_of_le_of_lt Nat.and_le_left h) (by omega)
theorem spMo_may {l p : Nat} (h : sg_M L w) (hl : l < L.1) (hp : p < 8) : sx_de (d + 1) rMo_may [.ref 48, .int (nI l), .int (nI p)] w (sz_b (sg_may L l p)) 0 w := by
  intro Q q
  have h0 := h
  obtain ⟨⟨h7, hr⟩, hn, hv⟩ := h
  have hc : (nI l).toNatClampNeg = l := nI_clamp (by omega)
  have e : (nI (sg_sl L l p) &&& w.1 51 (nI l).toNatClampNeg = 0) ↔ sg_may L l p = true := by
    rw [hc, (hv l hl).2.2, sz_and0 (by have := sg_sl_lt L l p; omega)]
    simp [sg_may]
  refine sx_met_of rfl rfl rfl rfl (bMo_may_0 (spMo_sleep h0 hl hp) (vp_in_nI (by omega) (by decide)) (fun c => ?_) (fun c => ?_))
  · rw [sz_bf (by rw [e] at c; simpa using c)] at q; exact q
  · rw [sz_bt (e.mp c)] at q; exact q
def sg_mys (L : sg_L) (l : Nat) : Nat → Nat
  | 0 => 0
  | p + 1 => sg_mys L l p ||| (if sg_may L l p then 2 ^ p else 0)
def sg_mays (L : sg_L) (l : Nat) : Nat := sg_mys L l 8
theorem sg_mys_lt (L : sg_L) (l : Nat) : ∀ p, sg_mys L l p < 2 ^ p
  | 0 => Nat.one_pos
  | p + 1 => by
    have ih := sg_mys_lt L l p
    refine Nat.or_lt_two_pow (Nat.lt_of_lt_of_le ih (Nat.pow_le_pow_right (by decide) (Nat.le_succ p))) ?_
    split
    · exact Nat.pow_lt_pow_right (by decide) (Nat.lt_succ_self p)
    · exact Nat.two_pow_pos _
theorem sg_mys_bit (L : sg_L) (l : Nat) : ∀ m p, (sg_mys L l m).testBit p = (decide (p < m) && sg_may L l p)
  | 0, p => by simp [sg_mys]
  | m + 1, p => by
    rw [sg_mys, Nat.testBit_or, sg_mys_bit L l m p]
    by_cases hp : p = m
    · subst hp
      by_cases hm : sg_may L l p = true
      · simp [hm]
      · simp [hm]
    · by_cases hm : sg_may L l m = true
      · have e : (p < m + 1) = (p < m) := propext ⟨fun h => by omega, fun h => by omega⟩
        simp [hm, Nat.testBit_two_pow, e, show ¬ m = p from fun h => hp h.symm]
      · have e : (p < m + 1) = (p < m) := propext ⟨fun h => by omega, fun h => by omega⟩
        simp [hm, e]
theorem sg_mays_lt (L : sg_L) (l : Nat) : sg_mays L l < 256 := sg_mys_lt L l 8
theorem sg_mays_bit (L : sg_L) (l : Nat) {p : Nat} (hp : p < 8) : (sg_mays L l).testBit p = sg_may L l p := by
  rw [sg_mays, sg_mys_bit]
  simp [hp]
theorem sz_one : ∀ p, p < 8 → ((1 : Int32) <<< (nI p &&& 31)) = nI (2 ^ p) := by decide +kernel
theorem spMo_mays {l : Nat} (h : sg_M L w) (hl : l < L.1) : sx_de (d + 2) rMo_mays [.ref 48, .int (nI l)] w (nI (sg_mays L l)) 0 w := by
  intro Q q
  refine sx_met_of rfl rfl rfl rfl (bMo_mays_0 ?_)
  refine sx_for (P := fun i => sx_ev (d + 2) rMo_mays 4 [.ref 48, .int (nI l), .int (nI (sg_mys L l i)), .int (nI i)] [] w Q) 8 ?_ (fun i hi ih => ?_) 0 (Nat.zero_le _)
  · exact bMo_mays_4 (f1 := 0) (fun _ => q) (fun c => absurd (by decide) c) (fun c => absurd (by decide) c) (fun c => absurd (by decide) c)
  · refine bMo_mays_4 (fun c => absurd c (nI_ge (b := 8) hi (by omega))) (fun _ => spMo_may h hl hi) (fun _ c => ?_) (fun _ c => ?_)
    · rw [sg_mys, sz_b0.mp c] at ih
      rw [nI_1]
      rw [show nI (sg_mys L l i) ||| 0 = nI (sg_mys L l i ||| 0) from fa_or _ 0]
      exact ih
    · rw [sg_mys, sz_b1.mp c, if_pos rfl] at ih
      rw [nI_1, sz_one i hi, fa_or]
      exact ih
theorem spHo_needOfAll (h : sg_C L w) : sx_de d rHo_needOfAll [.ref 1] w (nI (fb_sm L.2.2.1 L.1)) 0 w := by
  intro Q q
  obtain ⟨⟨h7, hr⟩, hn, hv⟩ := h
  refine sx_met_of rfl rfl rfl rfl (bHo_needOfAll_0 ?_)
  refine sx_for (P := fun i => sx_ev d rHo_needOfAll 4 [.ref 1, .int (nI (fb_sm L.2.2.1 i)), .int (nI i)] [] w Q) L.1 ?_ (fun i hi ih => ?_) 0 (Nat.zero_le _)
  · exact bHo_needOfAll_4 (fun _ => q) (fun c => absurd (by rw [hn]; exact nI_le (Nat.le_refl _) (by omega)) c) (fun c => absurd (by rw [hn]; exact nI_le (Nat.le_refl _) (by omega)) c)
  · have hc : (nI i).toNatClampNeg = i := nI_clamp (by omega)
    refine bHo_needOfAll_4 (fun c => absurd c (by rw [hn]; exact nI_ge hi (by omega))) (fun _ => vp_in_nI (by omega) (by decide)) (fun _ => ?_)
    rw [hc, (hv i hi).2.1, nI_add, nI_1]
    exact ih
end
