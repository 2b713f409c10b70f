/-! ===== a lodger comes ===== -/
def sl_n (x : Int32) : Bool := decide (1 ≤ x.toInt ∧ x.toInt ≤ 4)
def sl_ok (x1 x2 x3 : Int32) : Bool := sz_in x1 4 && (sl_n x2 && sz_in x3 256)
theorem sl_n_of {x : Int32} (h : sl_n x = true) : ∃ n : Nat, 1 ≤ n ∧ n ≤ 4 ∧ x = nI n := by
  have h1 : 1 ≤ x.toInt ∧ x.toInt ≤ 4 := by simpa [sl_n] using h
  obtain ⟨n, hn, rfl⟩ := sz_in_of (x := x) (n := 5) (sz_in_iff.mpr ⟨by omega, by omega⟩) (by decide)
  have : (nI n).toInt = (n : Int) := nI_toInt (by omega)
  exact ⟨n, by omega, by omega, rfl⟩
section
variable {d : Nat} {w : sx_W} {L : sg_L} {b : Nat} {r : Nat → Nat}
def sl_lodger (L : sg_L) (x1 x2 x3 : Int32) : Int32 := if sl_ok x1 x2 x3 then (if L.1 < 7 then nI L.1 else -3) else -1
/-- the class behind a change of the lodgers, the Stays made anew -/
def sg_chg (L' : sg_L) (b : Nat) (r : Nat → Nat) (t : Int32) (js : List Nat) (w w' : sx_W) : Prop := sg_Co L' b r w' ∧ sg_age t js [2, 3, 4, 12, 13, 14, 15] w w'
theorem spSb_lodger {x1 x2 x3 : Int32} (h : sg_Co L b r w) : sx_x (d + 4) rSb_lodger [.ref 0, .int x1, .int x2, .int x3] w (fun f fl w' => f = sl_lodger L x1 x2 x3 ∧ fl = 0 ∧ (¬ (sl_ok x1 x2 x3 = true ∧ L.1 < 7) → w' = w) ∧ (sl_ok x1 x2 x3 = true ∧ L.1 < 7 → sg_chg (sg_add L x1.toNatClampNeg x2.toNatClampNeg x3.toNatClampNeg) b r 0 [4, 7, 8, 9] w w')) := by
  have h7 := h.1.1.1
  have m1 := spSb_isSetOfParts (d := d + 3) (w := w) (x := x3)
  have i0 : (0 : Int32).toInt = 0 := rfl
  have i1 : (1 : Int32).toInt = 1 := rfl
  have i3 : (3 : Int32).toInt = 3 := rfl
  have i4 : (4 : Int32).toInt = 4 := rfl
  unfold sl_lodger
  cases hok : sl_ok x1 x2 x3 with
  | false =>
    refine ⟨-1, 0, w, fun Q z => sx_met_of rfl rfl rfl rfl (bSb_lodger_0 (w2 := w) (w3 := w) (fun _ => z) (fun _ _ => z) (fun _ _ _ => z) (fun _ _ _ _ => z) (fun _ _ _ _ => m1) (fun c1 c2 c3 c4 c5 => ?_) (fun c1 c2 c3 c4 c5 => ?_) (fun c1 c2 c3 c4 c5 => ?_) (fun c1 c2 c3 c4 c5 => ?_) (fun _ _ _ _ _ => z)), rfl, rfl, fun _ => rfl, fun c => absurd c.1 Bool.false_ne_true⟩ <;>
    · exfalso
      rw [fa_lt] at c1 c2 c3 c4
      have e1 : sz_in x1 4 = true := sz_in_iff.mpr ⟨by omega, by omega⟩
      have e2 : sl_n x2 = true := decide_eq_true ⟨by omega, by omega⟩
      cases e3 : sz_in x3 256 with
      | false => rw [e3] at c5; exact c5 rfl
      | true => unfold sl_ok at hok; rw [e1, e2, e3] at hok; cases hok
  | true =>
    rw [if_pos rfl]
    unfold sl_ok at hok
    rw [Bool.and_eq_true, Bool.and_eq_true] at hok
    rw [hok.2.2] at m1
    obtain ⟨k, hk, rfl⟩ := sz_in_of hok.1 (by decide)
    obtain ⟨n, hn1, hn4, rfl⟩ := sl_n_of hok.2.1
    obtain ⟨v, hv, rfl⟩ := sz_in_of hok.2.2 (by decide)
    rw [nI_clamp (show k < 2 ^ 31 by omega), nI_clamp (show n < 2 ^ 31 by omega), nI_clamp (show v < 2 ^ 31 by omega)]
    have y1 : ¬ sz_b true = 0 := by decide
    have g1 : ¬ nI k < 0 := nI_pos (by omega)
    have g2 : ¬ (3 : Int32) < nI k := by rw [show (3 : Int32) = nI 3 from rfl, nI_ltI (by omega) (by omega)]; omega
    have g3 : ¬ nI n < (1 : Int32) := by rw [show (1 : Int32) = nI 1 from rfl, nI_ltI (by omega) (by omega)]; omega
    have g4 : ¬ (4 : Int32) < nI n := by rw [show (4 : Int32) = nI 4 from rfl, nI_ltI (by omega) (by omega)]; omega
    by_cases hL : L.1 < 7
    · rw [if_pos hL]
      have c7 : w.1 1 4 < (7 : Int32) := by rw [h.1.2.1, show (7 : Int32) = nI 7 from rfl, nI_ltI (by omega) (by omega)]; exact hL
      obtain ⟨f, fl, w2, m2, rfl, rfl, p1, p2⟩ := spHo_admit (d := d + 2) h.1 hL hk hn1 hn4 hv
      obtain ⟨f, fl, w3, m3, rfl, rfl, q1, q2⟩ := spSt_refreshed (d := d) p1
      have hC3 : sg_C (sg_add L k n v) w3 := p1.fr q2 (by decide) (by decide) (by decide) (by decide)
      have e1 : w3.1 1 = w2.1 1 := (q2 1 (by decide)).1
      have fr : sg_fr [1, 2, 3, 4, 12, 13, 14, 15] w w3 := (p2.2.2.2.2.mono (by decide)).trans (q2.mono (by decide))
      refine ⟨nI L.1, 0, w3, fun Q z => sx_met_of rfl rfl rfl rfl (bSb_lodger_0 (fun c => absurd c g1) (fun _ c => absurd c g2) (fun _ _ c => absurd c g3) (fun _ _ _ c => absurd c g4) (fun _ _ _ _ => m1) (fun _ _ _ _ _ _ => m2) (fun _ _ _ _ _ _ => m3) (fun _ _ _ _ _ _ => ?_) (fun _ _ _ _ _ c => absurd c7 c) (fun _ _ _ _ c => absurd c y1)), rfl, rfl, fun c => absurd ⟨rfl, hL⟩ c, fun _ => ⟨⟨hC3, q1, ?_, h.2.2.2.1, fun i hi => ?_⟩, ?_, ?_, ?_, fun j hj => ?_, fr⟩⟩
      · rw [hC3.2.1, show (sg_add L k n v).1 = L.1 + 1 from rfl, nI_pred]; exact z
      · rw [e1, p2.2.2.2.1 5 (by decide)]; exact h.2.2.1
      · rw [(fr 5 (by decide)).1]; exact h.2.2.2.2 i hi
      · rw [e1]; exact p2.1
      · rw [e1]; exact p2.2.1
      · rw [e1]; exact p2.2.2.1
      · rw [e1]; exact p2.2.2.2.1 j hj
    · rw [if_neg hL]
      have c7 : ¬ w.1 1 4 < (7 : Int32) := by rw [h.1.2.1, show (7 : Int32) = nI 7 from rfl, nI_ltI (by omega) (by omega)]; exact hL
      exact ⟨-3, 0, w, fun Q z => sx_met_of rfl rfl rfl rfl (bSb_lodger_0 (w2 := w) (w3 := w) (fun c => absurd c g1) (fun _ c => absurd c g2) (fun _ _ c => absurd c g3) (fun _ _ _ c => absurd c g4) (fun _ _ _ _ => m1) (fun _ _ _ _ _ c => absurd c c7) (fun _ _ _ _ _ c => absurd c c7) (fun _ _ _ _ _ c => absurd c c7) (fun _ _ _ _ _ _ => z) (fun _ _ _ _ c => absurd c y1)), rfl, rfl, fun _ => rfl, fun c => absurd c.2 hL⟩
end
