/-! ===== told ===== -/
def sl_what (L : sg_L) (t : Bool) (r : Nat → Nat) (l p : Nat) : Int32 := if p = 0 then nI (L.2.1 l) else if p = 1 then nI (L.2.2.1 l) else if p = 2 then nI (L.2.2.2 l) else if p = 3 then nI (sg_mays L l) else if t then nI (r l) else -4
def sl_told (L : sg_L) (t : Bool) (r : Nat → Nat) (x y : Int32) : Int32 := if sz_in x L.1 && sz_in y 5 then sl_what L t r x.toNatClampNeg y.toNatClampNeg else -1
section
variable {d : Nat} {w : sx_W} {L : sg_L} {b : Nat} {r : Nat → Nat}
theorem spSb_told {x y : Int32} {t : Bool} (h : sg_Co L b r w) (ht : w.1 1 7 = sz_b t) : sx_de (d + 1) rSb_told [.ref 0, .int x, .int y] w (sl_told L t r x y) 0 w := by
  intro Q z
  have h7 := h.1.1.1
  have m1 := spHo_has (d := d) (x := x) h.1.2.1 h7
  have y1 : ¬ sz_b true = 0 := by decide
  unfold sl_told at z
  cases h1 : sz_in x L.1 with
  | false =>
    rw [h1] at z m1
    exact sx_met_of rfl rfl rfl rfl (bSb_told_0 m1 (fun c => absurd rfl c) (fun c => absurd rfl c) (fun c => absurd rfl c) (fun c => absurd rfl c) (fun c => absurd rfl c) (fun c => absurd rfl c) (fun c => absurd rfl c) (fun c => absurd rfl c) (fun c => absurd rfl c) (fun c => absurd rfl c) (fun c => absurd rfl c) (fun c => absurd rfl c) (fun _ => z))
  | true =>
    rw [h1] at z m1
    obtain ⟨l, hl, rfl⟩ := sz_in_of h1 (by omega)
    have hcl : (nI l).toNatClampNeg = l := nI_clamp (by omega)
    have v : vp_in (nI l) 7 := vp_in_nI (by omega) (by decide)
    rw [hcl] at z
    obtain ⟨a1, a2, a3⟩ := h.1.2.2 l hl
    have a4 := (h.2.1 l hl).1
    have a5 := (h.2.2.2.2 l (by omega)).1
    cases h2 : sz_in y 5 with
    | false =>
      rw [h2] at z
      have hn : ¬ (0 ≤ y.toInt ∧ y.toInt < ((5 : Nat) : Int)) := sz_in_no.mp h2
      exact sx_met_of rfl rfl rfl rfl (bSb_told_0 m1 (fun _ c => absurd ⟨by omega, by omega⟩ hn) (fun _ c => absurd ⟨by omega, by omega⟩ hn) (fun _ c => absurd ⟨by omega, by omega⟩ hn) (fun _ c => absurd ⟨by omega, by omega⟩ hn) (fun _ c => absurd ⟨by omega, by omega⟩ hn) (fun _ c => absurd ⟨by omega, by omega⟩ hn) (fun _ c => absurd ⟨by omega, by omega⟩ hn) (fun _ c => absurd ⟨by omega, by omega⟩ hn) (fun _ c => absurd ⟨by omega, by omega⟩ hn) (fun _ c => absurd ⟨by omega, by omega⟩ hn) (fun _ c => absurd ⟨by omega, by omega⟩ hn) (fun _ _ => z) (fun c => absurd c y1))
    | true =>
      rw [h2] at z
      obtain ⟨p, hp, rfl⟩ := sz_in_of h2 (by decide)
      rw [nI_clamp (show p < 2 ^ 31 by omega)] at z
      have ep : (nI p).toInt = (p : Int) := nI_toInt (by omega)
      have z : Q (sl_what L t r l p) 0 w := z
      refine sx_met_of rfl rfl rfl rfl (bSb_told_0 m1 (fun _ _ => v) (fun _ c => ?_) (fun _ _ => v) (fun _ c => ?_) (fun _ _ => v) (fun _ c => ?_) (fun _ _ => v) (fun _ c => ?_) (fun _ c c2 => ?_) (fun _ _ _ => v) (fun _ c c2 => ?_) (fun _ c => by omega) (fun c => absurd c y1))
      · have e : p = 0 := by omega
        subst e; rw [hcl, a1]; exact z
      · have e : p = 1 := by omega
        subst e; rw [hcl, a2]; exact z
      · have e : p = 2 := by omega
        subst e; rw [hcl, a3]; exact z
      · have e : p = 3 := by omega
        subst e; rw [hcl, a4]; exact z
      · have e : p = 4 := by omega
        subst e
        cases t with
        | false => exact z
        | true => rw [ht] at c2; exact absurd c2 y1
      · have e : p = 4 := by omega
        subst e
        cases t with
        | false => rw [ht] at c2; exact absurd rfl c2
        | true => rw [hcl, a5]; exact z
theorem spMo_told {x y : Int32} {t : Bool} (h : sg_Mo L b t r w) : sx_de (d + 3) rMo_told [.ref 48, .int x, .int y] w (sl_told L t r x y) 0 w := by
  intro Q z
  have h7 := h.1.1.1
  have m1 := spMo_isLodger (d := d + 1) (x := x) h.1.2.1 h7
  have m2 : sx_de (d + 2) rMo_in [.long y.toInt64, .long (0 : Int64), .long (lN 4)] w (sz_b (sz_in y 5)) 0 w := spMo_in0 (n := 4) (by decide)
  have y1 : ¬ sz_b true = 0 := by decide
  unfold sl_told at z
  cases h1 : sz_in x L.1 with
  | false =>
    rw [h1] at z m1
    exact sx_met_of rfl rfl rfl rfl (bMo_told_0 (f2 := 0) (f3 := 0) m1 (fun _ => z) (fun c => absurd rfl c) (fun c => absurd rfl c) (fun c => absurd rfl c) (fun c => absurd rfl c) (fun c => absurd rfl c) (fun c => absurd rfl c) (fun c => absurd rfl c) (fun c => absurd rfl c) (fun c => absurd rfl c) (fun c => absurd rfl c) (fun c => absurd rfl c) (fun c => absurd rfl c) (fun c => absurd rfl c))
  | true =>
    rw [h1] at z m1
    obtain ⟨l, hl, rfl⟩ := sz_in_of h1 (by omega)
    have hcl : (nI l).toNatClampNeg = l := nI_clamp (by omega)
    have v : vp_in (nI l) 7 := vp_in_nI (by omega) (by decide)
    rw [hcl] at z
    obtain ⟨a1, a2, a3⟩ := h.1.2.2 l hl
    cases h2 : sz_in y 5 with
    | false =>
      rw [h2] at z m2
      exact sx_met_of rfl rfl rfl rfl (bMo_told_0 (f3 := 0) m1 (fun c => absurd c y1) (fun _ => m2) (fun _ c => absurd rfl c) (fun _ c => absurd rfl c) (fun _ c => absurd rfl c) (fun _ c => absurd rfl c) (fun _ c => absurd rfl c) (fun _ c => absurd rfl c) (fun _ c => absurd rfl c) (fun _ c => absurd rfl c) (fun _ c => absurd rfl c) (fun _ c => absurd rfl c) (fun _ c => absurd rfl c) (fun _ _ => z))
    | true =>
      rw [h2] at z m2
      obtain ⟨p, hp, rfl⟩ := sz_in_of h2 (by decide)
      rw [nI_clamp (show p < 2 ^ 31 by omega)] at z
      have ep : (nI p).toInt = (p : Int) := nI_toInt (by omega)
      have z : Q (sl_what L t r l p) 0 w := z
      have m3 := spMo_mays (d := d) h.1 hl
      refine sx_met_of rfl rfl rfl rfl (bMo_told_0 m1 (fun c => absurd c y1) (fun _ => m2) (fun _ _ _ => v) (fun _ _ c => ?_) (fun _ _ _ => v) (fun _ _ c => ?_) (fun _ _ _ => v) (fun _ _ c => ?_) (fun _ _ _ => m3) (fun _ _ c => ?_) (fun _ _ c c2 => ?_) (fun _ _ _ _ => v) (fun _ _ c c2 => ?_) (fun _ c => absurd c y1))
      · have e : p = 0 := by omega
        subst e; rw [hcl, a1]; exact z
      · have e : p = 1 := by omega
        subst e; rw [hcl, a2]; exact z
      · have e : p = 2 := by omega
        subst e; rw [hcl, a3]; exact z
      · have e : p = 3 := by omega
        subst e; exact z
      · have e : p = 4 := by omega
        subst e
        cases t with
        | false => exact z
        | true => rw [h.2.2.2.1] at c2; exact absurd c2 y1
      · have e : p = 4 := by omega
        subst e
        cases t with
        | false => rw [h.2.2.2.1] at c2; exact absurd rfl c2
        | true => rw [hcl, (h.2.2.2.2 rfl l hl).1]; exact z
end
