/-! ===== beds, lasts, sleeps, work ===== -/
def sl_rg (n : Nat) (x : Int32) : Bool := decide (1 ≤ x.toInt ∧ x.toInt ≤ (n : Int))
theorem sl_rg_of {n : Nat} {x : Int32} (hn : n ≤ 9) (h : sl_rg n x = true) : ∃ m : Nat, 1 ≤ m ∧ m ≤ n ∧ x = nI m := by
  have h1 : 1 ≤ x.toInt ∧ x.toInt ≤ (n : Int) := by simpa [sl_rg] using h
  obtain ⟨m, hm, rfl⟩ := sz_in_of (x := x) (n := 10) (sz_in_iff.mpr ⟨by omega, by omega⟩) (by decide)
  have : (nI m).toInt = (m : Int) := nI_toInt (by omega)
  exact ⟨m, by omega, by omega, rfl⟩
theorem sl_rg_cmp {n : Nat} {x : Int32} (hn : n ≤ 9) : (sl_rg n x = true) ↔ (¬ x < (1 : Int32) ∧ x ≤ nI n) := by
  have i1 : (1 : Int32).toInt = 1 := rfl
  have e : (nI n).toInt = (n : Int) := nI_toInt (by omega)
  rw [fa_lt, fa_le, i1, e]
  unfold sl_rg
  rw [decide_eq_true_iff]
  omega
section
variable {d : Nat} {w : sx_W} {L : sg_L} {b : Nat} {r : Nat → Nat}
theorem spMo_in1 {x : Int32} {n : Nat} (hn : n ≤ 9) : sx_de d rMo_in [.long x.toInt64, .long (1 : Int64), .long (lN n)] w (sz_b (sl_rg n x)) 0 w := by
  have := spMo_in (d := d) (w := w) (x := x.toInt64) (y := (1 : Int64)) (z := lN n)
  have e : decide ((1 : Int64).toInt ≤ x.toInt64.toInt ∧ x.toInt64.toInt ≤ (lN n).toInt) = sl_rg n x := by
    rw [Int32.toInt_toInt64, lN_toInt (by omega)]; rfl
  rw [e] at this; exact this
theorem spSb_lasts {x : Int32} : sx_de d rSb_lasts [.ref 0, .int x] w (if sl_rg 9 x then w.1 1 6 else -1) 0 (if sl_rg 9 x then (sx_u w.1 1 6 x, w.2) else w) := by
  intro Q z
  cases h : sl_rg 9 x with
  | true =>
    rw [h] at z
    obtain ⟨c1, c2⟩ := (sl_rg_cmp (by decide)).mp h
    exact sx_met_of rfl rfl rfl rfl (bSb_lasts_0 (fun c => absurd c c1) (fun _ _ => z) (fun _ c => absurd c2 c))
  | false =>
    rw [h] at z
    refine sx_met_of rfl rfl rfl rfl (bSb_lasts_0 (fun _ => z) (fun c1 c2 => ?_) (fun _ _ => z))
    have := (sl_rg_cmp (n := 9) (x := x) (by decide)).mpr ⟨c1, c2⟩
    rw [h] at this; cases this
theorem spMo_lasts {x : Int32} : sx_de (d + 1) rMo_lasts [.ref 48, .int x] w (if sl_rg 9 x then w.1 48 7 else -1) 0 (if sl_rg 9 x then (sx_u w.1 48 7 x, w.2) else w) := by
  intro Q z
  have m1 := spMo_in1 (d := d) (w := w) (x := x) (n := 9) (by decide)
  cases h : sl_rg 9 x with
  | true =>
    rw [h] at z m1
    exact sx_met_of rfl rfl rfl rfl (bMo_lasts_0 m1 (fun _ => z) (fun c => absurd c (by decide)))
  | false =>
    rw [h] at z m1
    exact sx_met_of rfl rfl rfl rfl (bMo_lasts_0 m1 (fun c => absurd rfl c) (fun _ => z))
theorem spMo_beds {x : Int32} : sx_de (d + 1) rMo_beds [.ref 48, .int x] w (if sl_rg 7 x then w.1 48 6 else -1) 0 (if sl_rg 7 x then (sx_u w.1 48 6 x, w.2) else w) := by
  intro Q z
  have m1 := spMo_in1 (d := d) (w := w) (x := x) (n := 7) (by decide)
  cases h : sl_rg 7 x with
  | true =>
    rw [h] at z m1
    exact sx_met_of rfl rfl rfl rfl (bMo_beds_0 m1 (fun _ => z) (fun c => absurd c (by decide)))
  | false =>
    rw [h] at z m1
    exact sx_met_of rfl rfl rfl rfl (bMo_beds_0 m1 (fun c => absurd rfl c) (fun _ => z))
theorem spSb_beds {x : Int32} : sx_de (d + 2) rSb_beds [.ref 0, .int x] w (if sl_rg 7 x then w.1 1 5 else -1) 0 (if sl_rg 7 x then (sx_u (sx_u (sx_u w.1 1 5 x) 1 8 (w.1 1 8 + 1)) 1 9 (w.1 1 8 + 1), w.2) else w) := by
  intro Q z
  have m1 : sx_de (d + 1) rHo_furnish [.ref 1, .int x] w 0 0 (sx_u (sx_u (sx_u w.1 1 5 x) 1 8 (w.1 1 8 + 1)) 1 9 (w.1 1 8 + 1), w.2) := by
    intro Q z
    have m2 := spHo_lodgersChanged (d := d) (w := (sx_u w.1 1 5 x, w.2))
    have e8 : (sx_u w.1 1 5 x, w.2).1 1 8 = w.1 1 8 := by
      show sx_u w.1 1 5 x 1 8 = _
      rw [sx_u_s, if_neg (by decide)]
    rw [e8] at m2
    exact sx_met_of rfl rfl rfl rfl (bHo_furnish_0 m2 z)
  cases h : sl_rg 7 x with
  | true =>
    rw [h] at z
    obtain ⟨c1, c2⟩ := (sl_rg_cmp (by decide)).mp h
    exact sx_met_of rfl rfl rfl rfl (bSb_beds_0 (fun c => absurd c c1) (fun _ _ => m1) (fun _ _ => z) (fun _ c => absurd c2 c))
  | false =>
    rw [h] at z
    refine sx_met_of rfl rfl rfl rfl (bSb_beds_0 (fun _ => z) (fun _ _ => m1) (fun c1 c2 => ?_) (fun _ _ => z))
    have := (sl_rg_cmp (n := 7) (x := x) (by decide)).mpr ⟨c1, c2⟩
    rw [h] at this; cases this
def sl_sleeps (L : sg_L) (x y : Int32) : Int32 := if sz_in x L.1 && sz_in y 8 then nI (sg_sl L x.toNatClampNeg y.toNatClampNeg) else -1
theorem spSb_sleeps {x y : Int32} (h : sg_C L w) : sx_de (d + 1) rSb_sleeps [.ref 0, .int x, .int y] w (sl_sleeps L x y) 0 w := by
  intro Q z
  have h7 := h.1.1
  have m1 := spHo_has (d := d) (x := x) h.2.1 h7
  have m2 := spSb_isPart (d := d) (w := w) (x := y)
  have y1 : ¬ sz_b true = 0 := by decide
  unfold sl_sleeps at z
  cases h1 : sz_in x L.1 with
  | false =>
    rw [h1] at z m1
    exact sx_met_of rfl rfl rfl rfl (bSb_sleeps_0 (f2 := 0) (f3 := 0) m1 (fun _ => z) (fun c => absurd rfl c) (fun c => absurd rfl c) (fun c => absurd rfl c) (fun c => absurd rfl c))
  | true =>
    rw [h1] at z m1
    cases h2 : sz_in y 8 with
    | false =>
      rw [h2] at z m2
      exact sx_met_of rfl rfl rfl rfl (bSb_sleeps_0 (f3 := 0) m1 (fun c => absurd c y1) (fun _ => m2) (fun _ c => absurd rfl c) (fun _ c => absurd rfl c) (fun _ _ => z))
    | true =>
      rw [h2] at z m2
      obtain ⟨l, hl, rfl⟩ := sz_in_of h1 (by omega)
      obtain ⟨p, hp, rfl⟩ := sz_in_of h2 (by decide)
      rw [nI_clamp (show l < 2 ^ 31 by omega), nI_clamp (show p < 2 ^ 31 by omega)] at z
      exact sx_met_of rfl rfl rfl rfl (bSb_sleeps_0 m1 (fun c => absurd c y1) (fun _ => m2) (fun _ _ => spHo_sleepSet h hl hp) (fun _ _ => z) (fun _ c => absurd c y1))
theorem spMo_sleeps {x y : Int32} (h : sg_M L w) : sx_de (d + 2) rMo_sleeps [.ref 48, .int x, .int y] w (sl_sleeps L x y) 0 w := by
  intro Q z
  have h7 := h.1.1
  have m1 := spMo_isLodger (d := d) (x := x) h.2.1 h7
  have m2 := spMo_isPart (d := d) (w := w) (x := y)
  have y1 : ¬ sz_b true = 0 := by decide
  unfold sl_sleeps at z
  cases h1 : sz_in x L.1 with
  | false =>
    rw [h1] at z m1
    exact sx_met_of rfl rfl rfl rfl (bMo_sleeps_0 (f2 := 0) (f3 := 0) m1 (fun _ => z) (fun c => absurd rfl c) (fun c => absurd rfl c) (fun c => absurd rfl c) (fun c => absurd rfl c))
  | true =>
    rw [h1] at z m1
    cases h2 : sz_in y 8 with
    | false =>
      rw [h2] at z m2
      exact sx_met_of rfl rfl rfl rfl (bMo_sleeps_0 (f3 := 0) m1 (fun c => absurd c y1) (fun _ => m2) (fun _ _ => z) (fun _ c => absurd rfl c) (fun _ c => absurd rfl c))
    | true =>
      rw [h2] at z m2
      obtain ⟨l, hl, rfl⟩ := sz_in_of h1 (by omega)
      obtain ⟨p, hp, rfl⟩ := sz_in_of h2 (by decide)
      rw [nI_clamp (show l < 2 ^ 31 by omega), nI_clamp (show p < 2 ^ 31 by omega)] at z
      exact sx_met_of rfl rfl rfl rfl (bMo_sleeps_0 m1 (fun c => absurd c y1) (fun _ => m2) (fun _ c => absurd c y1) (fun _ _ => spMo_sleep h hl hp) (fun _ _ => z))
end
