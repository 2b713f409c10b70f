/-! ===== count ===== -/
def sl_cnt (L : sg_L) (b : Nat) (t : Bool) (r : Nat → Nat) (p : Nat) : Int32 := if p = 0 then nI L.1 else if p = 1 then nI b else if p = 2 then nI (fb_sm L.2.2.1 L.1) else if p = 3 then sz_b t else sz_b (t && sg_good L b r)
def sl_count (L : sg_L) (b : Nat) (t : Bool) (r : Nat → Nat) (x : Int32) : Int32 := if sz_in x 5 then sl_cnt L b t r x.toNatClampNeg else -1
section
variable {d : Nat} {w : sx_W} {L : sg_L} {b : Nat} {r : Nat → Nat}
theorem spSb_count {x : Int32} {t : Bool} (h : sg_Co L b r w) (ht : w.1 1 7 = sz_b t) : sx_de (d + 3) rSb_count [.ref 0, .int x] w (sl_count L b t r x) 0 w := by
  intro Q z
  have m1 := spHo_needOfAll (d := d + 2) h.1
  have m2 := spSb_rowIsGood (d := d) h ht
  have y1 : ¬ sz_b true = 0 := by decide
  unfold sl_count at z
  cases h2 : sz_in x 5 with
  | false =>
    rw [h2] at z
    have hn : ¬ (0 ≤ x.toInt ∧ x.toInt < ((5 : Nat) : Int)) := sz_in_no.mp h2
    exact sx_met_of rfl rfl rfl rfl (bSb_count_0 (fun c => absurd ⟨by omega, by omega⟩ hn) (fun c => absurd ⟨by omega, by omega⟩ hn) (fun _ => m1) (fun c => absurd ⟨by omega, by omega⟩ hn) (fun c => absurd ⟨by omega, by omega⟩ hn) (fun c => absurd ⟨by omega, by omega⟩ hn) (fun _ => m2) (fun c => absurd ⟨by omega, by omega⟩ hn) (fun c => absurd ⟨by omega, by omega⟩ hn) (fun _ => z))
  | true =>
    rw [h2] at z
    obtain ⟨p, hp, rfl⟩ := sz_in_of h2 (by decide)
    rw [nI_clamp (show p < 2 ^ 31 by omega)] at z
    have ep : (nI p).toInt = (p : Int) := nI_toInt (by omega)
    have z : Q (sl_cnt L b t r p) 0 w := z
    refine sx_met_of rfl rfl rfl rfl (bSb_count_0 (fun c => ?_) (fun c => ?_) (fun _ => m1) (fun c => ?_) (fun c c2 => ?_) (fun c c2 => ?_) (fun _ => m2) (fun c c2 => ?_) (fun c c2 => ?_) (fun c => by omega))
    · have e : p = 0 := by omega
      subst e; rw [h.1.2.1]; exact z
    · have e : p = 1 := by omega
      subst e; rw [h.2.2.1]; exact z
    · have e : p = 2 := by omega
      subst e; exact z
    · have e : p = 3 := by omega
      subst e
      cases t with
      | false => exact z
      | true => rw [ht] at c2; exact absurd c2 y1
    · have e : p = 3 := by omega
      subst e
      cases t with
      | false => rw [ht] at c2; exact absurd rfl c2
      | true => exact z
    · have e : p = 4 := by omega
      subst e
      cases hg : (t && sg_good L b r) with
      | false =>
        have z : Q (sz_b (t && sg_good L b r)) 0 w := z
        rw [hg] at z; exact z
      | true => rw [hg] at c2; exact absurd c2 y1
    · have e : p = 4 := by omega
      subst e
      cases hg : (t && sg_good L b r) with
      | false => rw [hg] at c2; exact absurd rfl c2
      | true =>
        have z : Q (sz_b (t && sg_good L b r)) 0 w := z
        rw [hg] at z; exact z
theorem spMo_count {x : Int32} {t : Bool} (h : sg_Mo L b t r w) : sx_de (d + 4) rMo_count [.ref 48, .int x] w (sl_count L b t r x) 0 w := by
  intro Q z
  have h7 := h.1.1.1
  have m2 := spMo_isGood' (d := d) h
  have y1 : ¬ sz_b true = 0 := by decide
  have loop : ∀ l, l ≤ L.1 → sx_ev (d + 4) rMo_count 4 [.ref 48, .int x, .int (nI (fb_sm L.2.2.1 l)), .int (nI l)] [] w Q := by
    refine sx_for L.1 ?_ (fun l hl ih => ?_)
    · have c0 : w.1 48 0 ≤ nI L.1 := by rw [h.1.2.1]; exact nI_le (Nat.le_refl _) (by omega)
      have nc : ¬ ¬ w.1 48 0 ≤ nI L.1 := fun x => x c0
      unfold sl_count at z
      cases h2 : sz_in x 5 with
      | false =>
        rw [h2] at z
        have hn : ¬ (0 ≤ x.toInt ∧ x.toInt < ((5 : Nat) : Int)) := sz_in_no.mp h2
        exact bMo_count_4 (fun _ c => absurd ⟨by omega, by omega⟩ hn) (fun _ c => absurd ⟨by omega, by omega⟩ hn) (fun _ c => absurd ⟨by omega, by omega⟩ hn) (fun _ c => absurd ⟨by omega, by omega⟩ hn) (fun _ c => absurd ⟨by omega, by omega⟩ hn) (fun _ _ => m2) (fun _ c => absurd ⟨by omega, by omega⟩ hn) (fun _ c => absurd ⟨by omega, by omega⟩ hn) (fun _ _ => z) (fun c => absurd c nc) (fun c => absurd c nc)
      | true =>
        rw [h2] at z
        obtain ⟨p, hp, rfl⟩ := sz_in_of h2 (by decide)
        rw [nI_clamp (show p < 2 ^ 31 by omega)] at z
        have ep : (nI p).toInt = (p : Int) := nI_toInt (by omega)
        have z : Q (sl_cnt L b t r p) 0 w := z
        refine bMo_count_4 (fun _ c => ?_) (fun _ c => ?_) (fun _ c => ?_) (fun _ c c2 => ?_) (fun _ c c2 => ?_) (fun _ _ => m2) (fun _ c c2 => ?_) (fun _ c c2 => ?_) (fun _ c => by omega) (fun c => absurd c nc) (fun c => absurd c nc)
        · have e : p = 0 := by omega
          subst e; rw [h.1.2.1]; exact z
        · have e : p = 1 := by omega
          subst e; rw [h.2.1]; exact z
        · have e : p = 2 := by omega
          subst e; exact z
        · have e : p = 3 := by omega
          subst e
          cases t with
          | false => exact z
          | true => rw [h.2.2.2.1] at c2; exact absurd c2 y1
        · have e : p = 3 := by omega
          subst e
          cases t with
          | false => rw [h.2.2.2.1] at c2; exact absurd rfl c2
          | true => exact z
        · have e : p = 4 := by omega
          subst e
          cases hg : (t && sg_good L b r) with
          | false =>
            have z : Q (sz_b (t && sg_good L b r)) 0 w := z
            rw [hg] at z; exact z
          | true => rw [hg] at c2; exact absurd c2 y1
        · have e : p = 4 := by omega
          subst e
          cases hg : (t && sg_good L b r) with
          | false => rw [hg] at c2; exact absurd rfl c2
          | true =>
            have z : Q (sz_b (t && sg_good L b r)) 0 w := z
            rw [hg] at z; exact z
    · have nn : ¬ w.1 48 0 ≤ nI l := by rw [h.1.2.1]; exact nI_ge hl (by omega)
      have hcl : (nI l).toNatClampNeg = l := nI_clamp (by omega)
      refine bMo_count_4 (f1 := 0) (fun c => absurd c nn) (fun c => absurd c nn) (fun c => absurd c nn) (fun c => absurd c nn) (fun c => absurd c nn) (fun c => absurd c nn) (fun c => absurd c nn) (fun c => absurd c nn) (fun c => absurd c nn) (fun _ => vp_in_nI (by omega) (by decide)) (fun _ => ?_)
      rw [hcl, (h.1.2.2 l hl).2.1, nI_add, nI_1]; exact ih
  exact sx_met_of rfl rfl rfl rfl (bMo_count_0 (loop 0 (Nat.zero_le _)))
theorem spSb_ways (h : sg_Co L b r w) : sx_x (d + 12) rSb_ways [.ref 0] w (fun f fl w' => fl = 0 ∧ f = nI (min 9999 (sg_ways L b)) ∧ sg_fr [17, 18, 19, 20] w w') := by
  obtain ⟨f, fl, w1, m1, rfl, p1, p2⟩ := spSe_countGood (d := d) h
  exact ⟨f, 0, w1, fun Q z => sx_met_of rfl rfl rfl rfl (bSb_ways_0 m1 z), rfl, p1, p2⟩
theorem spSb_fewest (h : sg_Co L b r w) : sx_x (d + 12) rSb_fewest [.ref 0] w (fun f fl w' => fl = 0 ∧ sg_few L f ∧ sg_fr [17, 18, 19, 20, 21] w w') := by
  obtain ⟨f, fl, w1, m1, rfl, p1, p2⟩ := spSe_fewestBeds (d := d) h
  exact ⟨f, 0, w1, fun Q z => sx_met_of rfl rfl rfl rfl (bSb_fewest_0 m1 z), rfl, p1, p2⟩
end
