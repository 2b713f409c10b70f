/-! ===== copy ===== -/
def sh_cp (s : sh_T) (a i b j n : Nat) : sh_T := (s.1, s.2.1, fun k x => if k = b ∧ j ≤ x ∧ x < j + n then s.2.2 a (i + (x - j)) else s.2.2 k x)
def sh_copy (s : sh_T) (x1 x2 x3 x4 x5 : Int32) : Int32 × sh_T := if sz_in x1 4 && sz_in x3 4 then (if s.1 x1.toNatClampNeg = 9 ∨ s.1 x3.toNatClampNeg = 9 then (-11, s) else if ¬ s.1 x1.toNatClampNeg = s.1 x3.toNatClampNeg then (-12, s) else if sh_rch x2 x5 (s.2.1 x1.toNatClampNeg) && sh_rch x4 x5 (s.2.1 x3.toNatClampNeg) then (x5, sh_cp s x1.toNatClampNeg x2.toNatClampNeg x3.toNatClampNeg x4.toNatClampNeg x5.toNatClampNeg) else (-13, s)) else (-1, s)
theorem sh_rch_of {x n : Int32} {z : Nat} (hz : z ≤ 16) (h : sh_rch x n z = true) : ∃ i m, x = nI i ∧ n = nI m ∧ i + m ≤ z := by
  have hr2 : 0 ≤ x.toInt ∧ 0 ≤ n.toInt ∧ x.toInt + n.toInt ≤ (z : Int) := by simpa [sh_rch] using h
  obtain ⟨i, hi, rfl⟩ := sz_in_of (x := x) (n := 17) (sz_in_iff.mpr ⟨hr2.1, by omega⟩) (by decide)
  obtain ⟨m, hm, rfl⟩ := sz_in_of (x := n) (n := 17) (sz_in_iff.mpr ⟨hr2.2.1, by omega⟩) (by decide)
  rw [nI_toInt (by omega), nI_toInt (by omega)] at hr2
  exact ⟨i, m, rfl, rfl, by omega⟩
section
variable {d : Nat} {w : sx_W} {s : sh_T}
theorem spSb_copy {x1 x2 x3 x4 x5 : Int32} (h : sh_C s w) : sx_x (d + 1) rSb_copy [.ref 0, .int x1, .int x2, .int x3, .int x4, .int x5] w (fun f fl w' => f = (sh_copy s x1 x2 x3 x4 x5).1 ∧ fl = 0 ∧ sh_C (sh_copy s x1 x2 x3 x4 x5).2 w' ∧ sg_fr [40, 41, 42, 43, 44, 45, 46, 47] w w') := by
  have m1 := spSb_isBadSheet (d := d) (w := w) (x := x1)
  have m2 := spSb_isBadSheet (d := d) (w := w) (x := x3)
  have y1 : ¬ sz_b true = 0 := by decide
  unfold sh_copy
  cases h1 : sz_in x1 4 with
  | false =>
    rw [h1] at m1
    exact ⟨-1, 0, w, fun Q z => sx_met_of rfl rfl rfl rfl (bSb_copy_0 (f2 := 0) (f3 := 0) (f4 := 0) m1 (fun _ => z) (fun c => absurd c y1) (fun c => absurd c y1) (fun c => absurd c y1) (fun c => absurd c y1) (fun c => absurd c y1) (fun c => absurd c y1) (fun c => absurd c y1) (fun c => absurd c y1) (fun c => absurd c y1) (fun c => absurd c y1) (fun c => absurd c y1) (fun c => absurd c y1) (fun c => absurd c y1) (fun c => absurd c y1) (fun c => absurd c y1) (fun c => absurd c y1) (fun c => absurd c y1)), rfl, rfl, h, sg_fr.rfl'⟩
  | true =>
    rw [h1] at m1
    cases h3 : sz_in x3 4 with
    | false =>
      rw [h3] at m2
      exact ⟨-1, 0, w, fun Q z => sx_met_of rfl rfl rfl rfl (bSb_copy_0 (f3 := 0) (f4 := 0) m1 (fun c => absurd rfl c) (fun _ => m2) (fun _ c => absurd c y1) (fun _ c => absurd c y1) (fun _ c => absurd c y1) (fun _ c => absurd c y1) (fun _ c => absurd c y1) (fun _ c => absurd c y1) (fun _ c => absurd c y1) (fun _ c => absurd c y1) (fun _ c => absurd c y1) (fun _ c => absurd c y1) (fun _ c => absurd c y1) (fun _ c => absurd c y1) (fun _ c => absurd c y1) (fun _ c => absurd c y1) (fun _ c => absurd c y1) (fun _ _ => z)), rfl, rfl, h, sg_fr.rfl'⟩
    | true =>
      rw [h3] at m2
      rw [if_pos (show (true && true) = true from rfl)]
      obtain ⟨a, ha, rfl⟩ := sz_in_of h1 (by decide)
      obtain ⟨b, hb, rfl⟩ := sz_in_of h3 (by decide)
      have hca : (nI a).toNatClampNeg = a := nI_clamp (by omega)
      have hcb : (nI b).toNatClampNeg = b := nI_clamp (by omega)
      have va : vp_in (nI a) 4 := vp_in_nI ha (by decide)
      have vb : vp_in (nI b) 4 := vp_in_nI hb (by decide)
      rw [hca, hcb]
      obtain ⟨a1, a2, a3, a4⟩ := h.2 a ha
      obtain ⟨b1, b2, b3, b4⟩ := h.2 b hb
      have m3 := spSh_reaches (d := d) (x := x2) (n := x5) h ha
      have m4 := spSh_reaches (d := d) (x := x4) (n := x5) h hb
      rw [← hca] at a1 a2 m3
      rw [← hcb] at b1 b2 m4
      rw [hca] at a1 a2 m3
      rw [hcb] at b1 b2 m4
      by_cases h9a : s.1 a = 9
      · rw [if_pos (Or.inl h9a)]
        have n0 : ¬ w.1 (40 + 2 * (nI a).toNatClampNeg) 1 = 0 := by rw [hca, a1, h9a]; decide
        exact ⟨-11, 0, w, fun Q z => sx_met_of rfl rfl rfl rfl (bSb_copy_0 (f3 := 0) (f4 := 0) m1 (fun c => absurd rfl c) (fun _ => m2) (fun _ _ => va) (fun _ _ => vb) (fun _ _ _ => z) (fun _ _ c => absurd c n0) (fun _ _ c => absurd c n0) (fun _ _ c => absurd c n0) (fun _ _ c => absurd c n0) (fun _ _ c => absurd c n0) (fun _ _ c => absurd c n0) (fun _ _ c => absurd c n0) (fun _ _ c => absurd c n0) (fun _ _ c => absurd c n0) (fun _ _ c => absurd c n0) (fun _ _ c => absurd c n0) (fun _ _ c => absurd c n0) (fun _ c => absurd rfl c)), rfl, rfl, h, sg_fr.rfl'⟩
      have ya : w.1 (40 + 2 * (nI a).toNatClampNeg) 1 = 0 := by rw [hca, a1, beq_eq_false_iff_ne.mpr h9a]; rfl
      by_cases h9b : s.1 b = 9
      · rw [if_pos (Or.inr h9b)]
        have n0 : ¬ w.1 (40 + 2 * (nI b).toNatClampNeg) 1 = 0 := by rw [hcb, b1, h9b]; decide
        exact ⟨-11, 0, w, fun Q z => sx_met_of rfl rfl rfl rfl (bSb_copy_0 (f3 := 0) (f4 := 0) m1 (fun c => absurd rfl c) (fun _ => m2) (fun _ _ => va) (fun _ _ => vb) (fun _ _ c => absurd ya c) (fun _ _ _ c => absurd c n0) (fun _ _ _ c => absurd c n0) (fun _ _ _ c => absurd c n0) (fun _ _ _ c => absurd c n0) (fun _ _ _ c => absurd c n0) (fun _ _ _ c => absurd c n0) (fun _ _ _ c => absurd c n0) (fun _ _ _ c => absurd c n0) (fun _ _ _ c => absurd c n0) (fun _ _ _ c => absurd c n0) (fun _ _ _ c => absurd c n0) (fun _ _ _ _ => z) (fun _ c => absurd rfl c)), rfl, rfl, h, sg_fr.rfl'⟩
      have yb : w.1 (40 + 2 * (nI b).toNatClampNeg) 1 = 0 := by rw [hcb, b1, beq_eq_false_iff_ne.mpr h9b]; rfl
      rw [if_neg (fun c => c.elim h9a h9b)]
      have la : s.1 a < 3 := by rcases (h.1 a ha).1 with c | c <;> omega
      have lb : s.1 b < 3 := by rcases (h.1 b hb).1 with c | c <;> omega
      have ea : w.1 (40 + 2 * (nI a).toNatClampNeg) 2 = nI (s.1 a) := by rw [hca]; exact a2 la
      have eb : w.1 (40 + 2 * (nI b).toNatClampNeg) 2 = nI (s.1 b) := by rw [hcb]; exact b2 lb
      by_cases hl : s.1 a = s.1 b
      · rw [if_neg (fun c => c hl)]
        have yl : w.1 (40 + 2 * (nI a).toNatClampNeg) 2 = w.1 (40 + 2 * (nI b).toNatClampNeg) 2 := by rw [ea, eb, hl]
        cases hr : sh_rch x2 x5 (s.2.1 a) with
        | false =>
          rw [hr] at m3
          exact ⟨-13, 0, w, fun Q z => sx_met_of rfl rfl rfl rfl (bSb_copy_0 (f3 := 0) (f4 := 0) m1 (fun c => absurd rfl c) (fun _ => m2) (fun _ _ => va) (fun _ _ => vb) (fun _ _ c => absurd ya c) (fun _ _ _ _ _ => by rw [hca]; exact m3) (fun _ _ _ _ _ _ => z) (fun _ _ _ _ _ c => absurd rfl c) (fun _ _ _ _ _ c => absurd rfl c) (fun _ _ _ _ _ c => absurd rfl c) (fun _ _ _ _ _ c => absurd rfl c) (fun _ _ _ _ _ c => absurd rfl c) (fun _ _ _ _ _ c => absurd rfl c) (fun _ _ _ _ _ c => absurd rfl c) (fun _ _ _ _ _ c => absurd rfl c) (fun _ _ _ _ c => absurd yl c) (fun _ _ _ c => absurd yb c) (fun _ c => absurd rfl c)), rfl, rfl, h, sg_fr.rfl'⟩
        | true =>
          rw [hr] at m3
          cases hr2 : sh_rch x4 x5 (s.2.1 b) with
          | false =>
            rw [hr2] at m4
            exact ⟨-13, 0, w, fun Q z => sx_met_of rfl rfl rfl rfl (bSb_copy_0 (f3 := sz_b true) (f4 := 0) m1 (fun c => absurd rfl c) (fun _ => m2) (fun _ _ => va) (fun _ _ => vb) (fun _ _ c => absurd ya c) (fun _ _ _ _ _ => by rw [hca]; exact m3) (fun _ _ _ _ _ c => absurd c y1) (fun _ _ _ _ _ _ => by rw [hcb]; exact m4) (fun _ _ _ _ _ _ c => absurd rfl c) (fun _ _ _ _ _ _ c => absurd rfl c) (fun _ _ _ _ _ _ c => absurd rfl c) (fun _ _ _ _ _ _ c => absurd rfl c) (fun _ _ _ _ _ _ c => absurd rfl c) (fun _ _ _ _ _ _ c => absurd rfl c) (fun _ _ _ _ _ _ _ => z) (fun _ _ _ _ c => absurd yl c) (fun _ _ _ c => absurd yb c) (fun _ c => absurd rfl c)), rfl, rfl, h, sg_fr.rfl'⟩
          | true =>
            rw [hr2] at m4
            have hza := (h.1 a ha).2
            have hzb := (h.1 b hb).2
            obtain ⟨i, n, rfl, rfl, hin⟩ := sh_rch_of hza hr
            obtain ⟨j, n', rfl, en, hjn⟩ := sh_rch_of hzb hr2
            have hnn : n = n' := (nI_eq (by omega) (by omega)).mp en
            subst hnn
            have hci : (nI i).toNatClampNeg = i := nI_clamp (by omega)
            have hcj : (nI j).toNatClampNeg = j := nI_clamp (by omega)
            have hcn : (nI n).toNatClampNeg = n := nI_clamp (by omega)
            rw [if_pos (show (true && true) = true from rfl), hci, hcj, hcn]
            refine ⟨nI n, 0, (w.1, sx_cpl w.2 (41 + 2 * a) (41 + 2 * b) i j n), fun Q z => sx_met_of rfl rfl rfl rfl (bSb_copy_0 (f3 := sz_b true) (f4 := sz_b true) m1 (fun c => absurd rfl c) (fun _ => m2) (fun _ _ => va) (fun _ _ => vb) (fun _ _ c => absurd ya c) (fun _ _ _ _ _ => by rw [hca]; exact m3) (fun _ _ _ _ _ c => absurd c y1) (fun _ _ _ _ _ _ => by rw [hcb]; exact m4) (fun _ _ _ _ _ _ _ => nI_pos (by omega)) (fun _ _ _ _ _ _ _ => nI_pos (by omega)) (fun _ _ _ _ _ _ _ => nI_pos (by omega)) (fun _ _ _ _ _ _ _ => by rw [hci, hcn]; omega) (fun _ _ _ _ _ _ _ => by rw [hcj, hcn]; omega) (fun _ _ _ _ _ _ _ => by rw [hca, hcb, hci, hcj, hcn]; exact z) (fun _ _ _ _ _ _ c => absurd c y1) (fun _ _ _ _ c => absurd yl c) (fun _ _ _ c => absurd yb c) (fun _ c => absurd rfl c)), rfl, rfl, ⟨h.1, fun k hk => ?_⟩, fun c hc => ⟨rfl, ?_⟩⟩
            · obtain ⟨q1, q2, q3, q4⟩ := h.2 k hk
              refine ⟨q1, q2, q3, fun x hx => ?_⟩
              show sx_cpl w.2 (41 + 2 * a) (41 + 2 * b) i j n (41 + 2 * k) x = if k = b ∧ j ≤ x ∧ x < j + n then s.2.2 a (i + (x - j)) else s.2.2 k x
              unfold sx_cpl
              by_cases e : k = b
              · subst e
                rw [if_pos rfl]
                by_cases e2 : j ≤ x ∧ x < j + n
                · rw [pk_cpy_in e2.1 e2.2, if_pos ⟨rfl, e2⟩]
                  exact a4 _ (by omega)
                · rw [pk_cpy_out (by omega), if_neg (fun c => e2 c.2)]; exact q4 x hx
              · rw [if_neg (by omega), if_neg (fun c => e c.1)]; exact q4 x hx
            · show sx_cpl w.2 (41 + 2 * a) (41 + 2 * b) i j n c = w.2 c
              unfold sx_cpl
              rw [if_neg (sh_cells hb hc).2]
      · rw [if_pos hl]
        have nl : ¬ w.1 (40 + 2 * (nI a).toNatClampNeg) 2 = w.1 (40 + 2 * (nI b).toNatClampNeg) 2 := by rw [ea, eb, sh_l0 la lb]; exact hl
        exact ⟨-12, 0, w, fun Q z => sx_met_of rfl rfl rfl rfl (bSb_copy_0 (f3 := 0) (f4 := 0) m1 (fun c => absurd rfl c) (fun _ => m2) (fun _ _ => va) (fun _ _ => vb) (fun _ _ c => absurd ya c) (fun _ _ _ _ c => absurd c nl) (fun _ _ _ _ c => absurd c nl) (fun _ _ _ _ c => absurd c nl) (fun _ _ _ _ c => absurd c nl) (fun _ _ _ _ c => absurd c nl) (fun _ _ _ _ c => absurd c nl) (fun _ _ _ _ c => absurd c nl) (fun _ _ _ _ c => absurd c nl) (fun _ _ _ _ c => absurd c nl) (fun _ _ _ _ c => absurd c nl) (fun _ _ _ _ _ => z) (fun _ _ _ c => absurd yb c) (fun _ c => absurd rfl c)), rfl, rfl, h, sg_fr.rfl'⟩
end
