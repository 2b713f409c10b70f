/-! ===== a lodger comes, the model; beds, lasts ===== -/
section
variable {d : Nat} {w : sx_W} {L : sg_L} {b : Nat} {r : Nat → Nat}
theorem spMo_in0 {x : Int32} {n : Nat} (hn : n < 2 ^ 31) : sx_de d rMo_in [.long x.toInt64, .long (0 : Int64), .long (lN n)] w (sz_b (sz_in x (n + 1))) 0 w := by
  have := spMo_in (d := d) (w := w) (x := x.toInt64) (y := (0 : Int64)) (z := lN n)
  have e : decide ((0 : Int64).toInt ≤ x.toInt64.toInt ∧ x.toInt64.toInt ≤ (lN n).toInt) = sz_in x (n + 1) := by
    rw [Int32.toInt_toInt64, lN_toInt hn]
    unfold sz_in
    apply decide_eq_decide.mpr
    have : (0 : Int64).toInt = 0 := rfl
    omega
  rw [e] at this; exact this
theorem spMo_comes {k n v : Nat} (h : sg_M L w) (hL : L.1 < 7) (hk : k < 4) (h1 : 1 ≤ n) (h4 : n ≤ 4) (hv : v < 256) : sx_x d rMo_comes [.ref 48, .int (nI k), .int (nI n), .int (nI v)] w (fun f fl w' => f = 0 ∧ fl = 0 ∧ sg_M (sg_add L k n v) w' ∧ w'.1 48 5 = 0 ∧ tp_Fm [0, 5] [49, 50, 51] w w') := by
  have hc : (nI L.1).toNatClampNeg = L.1 := nI_clamp (by omega)
  have f1 : ∀ i, sx_u (sx_u (sx_u (sx_u (sx_u w.1 49 L.1 (nI k)) 50 L.1 (nI n)) 51 L.1 (nI v)) 48 0 (nI (L.1 + 1))) 48 5 0 49 i = if i = L.1 then nI k else w.1 49 i := fun i => by
    rw [sx_u_o (by decide), sx_u_o (by decide), sx_u_o (by decide), sx_u_o (by decide), sx_u_s]
  have f2 : ∀ i, sx_u (sx_u (sx_u (sx_u (sx_u w.1 49 L.1 (nI k)) 50 L.1 (nI n)) 51 L.1 (nI v)) 48 0 (nI (L.1 + 1))) 48 5 0 50 i = if i = L.1 then nI n else w.1 50 i := fun i => by
    rw [sx_u_o (by decide), sx_u_o (by decide), sx_u_o (by decide), sx_u_s, sx_u_o (by decide)]
  have f3 : ∀ i, sx_u (sx_u (sx_u (sx_u (sx_u w.1 49 L.1 (nI k)) 50 L.1 (nI n)) 51 L.1 (nI v)) 48 0 (nI (L.1 + 1))) 48 5 0 51 i = if i = L.1 then nI v else w.1 51 i := fun i => by
    rw [sx_u_o (by decide), sx_u_o (by decide), sx_u_s, sx_u_o (by decide), sx_u_o (by decide)]
  have f4 : ∀ j, sx_u (sx_u (sx_u (sx_u (sx_u w.1 49 L.1 (nI k)) 50 L.1 (nI n)) 51 L.1 (nI v)) 48 0 (nI (L.1 + 1))) 48 5 0 48 j = if j = 5 then 0 else if j = 0 then nI (L.1 + 1) else w.1 48 j := fun j => by
    rw [sx_u_s, sx_u_s, sx_u_o (by decide), sx_u_o (by decide), sx_u_o (by decide)]
  refine ⟨0, 0, (sx_u (sx_u (sx_u (sx_u (sx_u w.1 49 L.1 (nI k)) 50 L.1 (nI n)) 51 L.1 (nI v)) 48 0 (nI (L.1 + 1))) 48 5 0, w.2), fun Q z => sx_met_of rfl rfl rfl rfl (bMo_comes_0 (by rw [h.2.1]; exact vp_in_nI hL (by decide)) ?_), rfl, rfl, ⟨sg_add_ok h.1 hL hk h1 h4 hv, f4 0, fun i hi => ?_⟩, f4 5, fun a ha => ⟨?_, rfl⟩, fun j hj => ?_⟩
  · rw [h.2.1, hc, nI_1]; exact z
  · have hi : i < L.1 + 1 := hi
    show sx_u (sx_u (sx_u (sx_u (sx_u w.1 49 L.1 (nI k)) 50 L.1 (nI n)) 51 L.1 (nI v)) 48 0 (nI (L.1 + 1))) 48 5 0 49 i = nI (sg_up L.2.1 L.1 k i) ∧ sx_u (sx_u (sx_u (sx_u (sx_u w.1 49 L.1 (nI k)) 50 L.1 (nI n)) 51 L.1 (nI v)) 48 0 (nI (L.1 + 1))) 48 5 0 50 i = nI (sg_up L.2.2.1 L.1 n i) ∧ sx_u (sx_u (sx_u (sx_u (sx_u w.1 49 L.1 (nI k)) 50 L.1 (nI n)) 51 L.1 (nI v)) 48 0 (nI (L.1 + 1))) 48 5 0 51 i = nI (sg_up L.2.2.2 L.1 v i)
    rw [f1, f2, f3]
    by_cases e : i = L.1
    · rw [if_pos e, if_pos e, if_pos e, e, sg_up_s, sg_up_s, sg_up_s]; exact ⟨rfl, rfl, rfl⟩
    · rw [if_neg e, if_neg e, if_neg e, sg_up_o e, sg_up_o e, sg_up_o e]; exact h.2.2 i (by omega)
  · simp only [List.mem_cons, List.not_mem_nil, or_false, not_or] at ha
    show sx_u (sx_u (sx_u (sx_u (sx_u w.1 49 L.1 (nI k)) 50 L.1 (nI n)) 51 L.1 (nI v)) 48 0 (nI (L.1 + 1))) 48 5 0 a = w.1 a
    rw [sx_u_o ha.1, sx_u_o ha.1, sx_u_o ha.2.2.2, sx_u_o ha.2.2.1, sx_u_o ha.2.1]
  · simp only [List.mem_cons, List.not_mem_nil, or_false, not_or] at hj
    have := f4 j
    rw [if_neg hj.2, if_neg hj.1] at this
    exact this
theorem spMo_lodger {x1 x2 x3 : Int32} (h : sg_M L w) : sx_x (d + 1) rMo_lodger [.ref 48, .int x1, .int x2, .int x3] w (fun f fl w' => f = sl_lodger L x1 x2 x3 ∧ fl = 0 ∧ (¬ (sl_ok x1 x2 x3 = true ∧ L.1 < 7) → w' = w) ∧ (sl_ok x1 x2 x3 = true ∧ L.1 < 7 → sg_M (sg_add L x1.toNatClampNeg x2.toNatClampNeg x3.toNatClampNeg) w' ∧ w'.1 48 5 = 0 ∧ tp_Fm [0, 5] [49, 50, 51] w w')) := by
  have h7 := h.1.1
  have y1 : ¬ sz_b true = 0 := by decide
  have m1 := spMo_in0 (d := d) (w := w) (x := x1) (n := 3) (by decide)
  have m3 := spMo_in0 (d := d) (w := w) (x := x3) (n := 255) (by decide)
  have m2 := spMo_in (d := d) (w := w) (x := x2.toInt64) (y := (1 : Int64)) (z := lN 4)
  have e4 : decide ((1 : Int64).toInt ≤ x2.toInt64.toInt ∧ x2.toInt64.toInt ≤ (lN 4).toInt) = sl_n x2 := by
    rw [Int32.toInt_toInt64]; rfl
  rw [e4] at m2
  have m1 : sx_de d rMo_in [.long x1.toInt64, .long (0 : Int64), .long (lN 3)] w (sz_b (sz_in x1 4)) 0 w := m1
  have m3 : sx_de d rMo_in [.long x3.toInt64, .long (0 : Int64), .long (lN 255)] w (sz_b (sz_in x3 256)) 0 w := m3
  unfold sl_lodger sl_ok
  cases h1 : sz_in x1 4 with
  | false =>
    rw [h1] at m1
    exact ⟨-1, 0, w, fun Q z => sx_met_of rfl rfl rfl rfl (bMo_lodger_0 (f2 := 0) (f3 := 0) (w4 := w) m1 (fun _ => z) (fun c => absurd rfl c) (fun c => absurd rfl c) (fun c => absurd rfl c) (fun c => absurd rfl c) (fun c => absurd rfl c) (fun c => absurd rfl c) (fun c => absurd rfl c)), rfl, rfl, fun _ => rfl, fun c => absurd c.1 Bool.false_ne_true⟩
  | true =>
    rw [h1] at m1
    cases h2 : sl_n x2 with
    | false =>
      rw [h2] at m2
      exact ⟨-1, 0, w, fun Q z => sx_met_of rfl rfl rfl rfl (bMo_lodger_0 (f3 := 0) (w4 := w) m1 (fun c => absurd c y1) (fun _ => m2) (fun _ _ => z) (fun _ c => absurd rfl c) (fun _ c => absurd rfl c) (fun _ c => absurd rfl c) (fun _ c => absurd rfl c) (fun _ c => absurd rfl c)), rfl, rfl, fun _ => rfl, fun c => absurd c.1 Bool.false_ne_true⟩
    | true =>
      rw [h2] at m2
      cases h3 : sz_in x3 256 with
      | false =>
        rw [h3] at m3
        exact ⟨-1, 0, w, fun Q z => sx_met_of rfl rfl rfl rfl (bMo_lodger_0 (w4 := w) m1 (fun c => absurd c y1) (fun _ => m2) (fun _ c => absurd c y1) (fun _ _ => m3) (fun _ _ c => absurd rfl c) (fun _ _ c => absurd rfl c) (fun _ _ c => absurd rfl c) (fun _ _ _ => z)), rfl, rfl, fun _ => rfl, fun c => absurd c.1 Bool.false_ne_true⟩
      | true =>
        rw [h3] at m3
        obtain ⟨k, hk, rfl⟩ := sz_in_of h1 (by decide)
        obtain ⟨n, hn1, hn4, rfl⟩ := sl_n_of h2
        obtain ⟨v, hv, rfl⟩ := sz_in_of h3 (by decide)
        rw [nI_clamp (show k < 2 ^ 31 by omega), nI_clamp (show n < 2 ^ 31 by omega), nI_clamp (show v < 2 ^ 31 by omega), if_pos (show (true && (true && true)) = true from rfl)]
        by_cases hL : L.1 < 7
        · rw [if_pos hL]
          have c7 : ¬ w.1 48 0 = (7 : Int32) := by rw [h.2.1, show (7 : Int32) = nI 7 from rfl, nI_eq (by omega) (by omega)]; omega
          obtain ⟨f, fl, w4, m4, rfl, rfl, p1, p2, p3⟩ := spMo_comes (d := d) h hL hk hn1 hn4 hv
          refine ⟨nI L.1, 0, w4, fun Q z => sx_met_of rfl rfl rfl rfl (bMo_lodger_0 m1 (fun c => absurd c y1) (fun _ => m2) (fun _ c => absurd c y1) (fun _ _ => m3) (fun _ _ _ _ => m4) (fun _ _ _ _ => ?_) (fun _ _ _ c => absurd c c7) (fun _ _ c => absurd c y1)), rfl, rfl, fun c => absurd ⟨rfl, hL⟩ c, fun _ => ⟨p1, p2, p3⟩⟩
          rw [p1.2.1, show (sg_add L k n v).1 = L.1 + 1 from rfl, nI_pred]; exact z
        · rw [if_neg hL]
          have c7 : w.1 48 0 = (7 : Int32) := by rw [h.2.1, show L.1 = 7 by omega]; rfl
          exact ⟨-3, 0, w, fun Q z => sx_met_of rfl rfl rfl rfl (bMo_lodger_0 (w4 := w) m1 (fun c => absurd c y1) (fun _ => m2) (fun _ c => absurd c y1) (fun _ _ => m3) (fun _ _ _ c => absurd c7 c) (fun _ _ _ c => absurd c7 c) (fun _ _ _ _ => z) (fun _ _ c => absurd c y1)), rfl, rfl, fun _ => rfl, fun c => absurd c.2 hL⟩
end
