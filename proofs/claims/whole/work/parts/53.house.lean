/-! ===== the house changes ===== -/
section
variable {d : Nat} {w : sx_W} {L : sg_L} {b : Nat} {r : Nat → Nat}
theorem spSt_refreshed (h : sg_C L w) : sx_x (d + 3) rSt_refresh [.ref 11] w (fun f fl w' => f = 0 ∧ fl = 0 ∧ sg_St L w' ∧ sg_fr [12, 13, 14, 15] w w') := by
  have h7 := h.1.1
  have outer : ∀ i, i ≤ L.1 → ∀ u, sg_rf L w i 0 u → sx_xe (d + 3) rSt_refresh 2 [.ref 11, .int (nI i), .null] u (fun f fl w' => f = 0 ∧ fl = 0 ∧ sg_St L w' ∧ sg_fr [12, 13, 14, 15] w w') := by
    refine sx_for L.1 (fun u hu => ?_) (fun i hi ih u hu => ?_)
    · have hc := sg_V.fr h hu.1 (by decide) (by decide) (by decide) (by decide)
      have nc : ¬ ¬ u.1 1 4 ≤ nI L.1 := fun c => c (by rw [hc.2.1]; exact nI_le (Nat.le_refl _) (by omega))
      exact ⟨0, 0, u, fun Q z => bSt_refresh_2 (fun _ => z) (fun c => absurd c nc) (fun c => absurd c nc), rfl, rfl, hu.2.1, hu.1⟩
    · have inner : ∀ q, q ≤ 8 → ∀ u, sg_rf L w i q u → (q = 0 → u.1 12 i = 0) → sx_xe (d + 3) rSt_refresh 22 [.ref 11, .int (nI i), .int (nI q)] u (fun f fl w' => f = 0 ∧ fl = 0 ∧ sg_St L w' ∧ sg_fr [12, 13, 14, 15] w w') := by
        refine sx_for 8 (fun u hu _ => ?_) (fun q hq ih2 u hu hz => ?_)
        · have : sg_rf L w (i + 1) 0 u := by
            refine ⟨hu.1, fun j hj => ?_, by omega, fun h => by omega, fun p hp => by omega⟩
            by_cases e : j = i
            · rw [e]; exact ⟨hu.2.2.2.1 (by omega), hu.2.2.2.2⟩
            · exact hu.2.1 j (by omega)
          obtain ⟨f, fl, w', hev, hp⟩ := ih u this
          refine ⟨f, fl, w', fun Q z => bSt_refresh_22 (f1 := 0) (w2 := u) (fun _ => ?_) (fun c => absurd (by decide) c) (fun c => absurd (by decide) c) (fun c => absurd (by decide) c), hp⟩
          rw [nI_1]
          exact hev Q z
        · have hc := sg_V.fr h hu.1 (by decide) (by decide) (by decide) (by decide)
          have hin : (sg_n1 L i q u.1) 12 i = nI (sg_mys L i (q + 1)) := by
            have h0 : u.1 12 i = nI (sg_mys L i q) := by
              rcases Nat.eq_zero_or_pos q with e | e
              · rw [hz e, e]; rfl
              · exact hu.2.2.2.1 e
            unfold sg_n1
            rw [sg_mys]
            cases hm : sg_may L i q with
            | true => rw [if_pos rfl, if_pos rfl, sx_u_s, if_pos rfl, h0, fa_or]
            | false => rw [if_neg (by decide), if_neg (by decide), h0, Nat.or_zero]
          have hrf : sg_rf L w i (q + 1) (sg_n1 L i q u.1, sg_n2 L i q u.2) := by
            refine ⟨hu.1.trans (sg_n_fr i q), fun j hj => ⟨?_, fun p hp => sg_n_St1 hq hp (Or.inr ((hu.2.1 j hj).2 p hp))⟩, by omega, fun _ => hin, fun p hp => sg_n_St1 hq (by omega) ?_⟩
            · show sg_n1 L i q u.1 12 j = _
              unfold sg_n1
              split
              · rw [sx_u_s, if_neg (by omega)]; exact (hu.2.1 j hj).1
              · exact (hu.2.1 j hj).1
            · by_cases e : p = q
              · exact Or.inl ⟨rfl, e⟩
              · exact Or.inr (hu.2.2.2.2 p (by omega))
          obtain ⟨f, fl, w', hev, hp⟩ := ih2 _ hrf (fun h => by omega)
          refine ⟨f, fl, w', fun Q z => bSt_refresh_22 (fun c => absurd c (nI_ge (b := 8) hq (by omega))) (fun _ => spHo_sleepSet hc hi hq) (fun _ => spSt_note hc hi hq) (fun _ => ?_), hp⟩
          rw [nI_1]
          exact hev Q z
      have hc := sg_V.fr h hu.1 (by decide) (by decide) (by decide) (by decide)
      have cl : (nI i).toNatClampNeg = i := nI_clamp (by omega)
      obtain ⟨f, fl, w', hev, hp⟩ := inner 0 (by omega) (sx_u u.1 12 i 0, u.2) (by
        refine ⟨hu.1.trans (fun a ha => ⟨sx_u_o (fun e => ha (by rw [e]; decide)), rfl⟩), fun j hj => ⟨?_, (hu.2.1 j hj).2⟩, by omega, fun h => by omega, fun p hp => by omega⟩
        show sx_u u.1 12 i 0 12 j = _
        rw [sx_u_s, if_neg (by omega)]
        exact (hu.2.1 j hj).1) (fun _ => by show sx_u u.1 12 i 0 12 i = 0; rw [sx_u_s, if_pos rfl])
      refine ⟨f, fl, w', fun Q z => bSt_refresh_2 (fun c => absurd c (by rw [hc.2.1]; exact nI_ge hi (by omega))) (fun _ => vp_in_nI (by omega) (by decide)) (fun _ => ?_), hp⟩
      rw [cl]
      exact hev Q z
  obtain ⟨f, fl, w', hev, hp⟩ := outer 0 (Nat.zero_le _) w ⟨sg_fr.rfl', fun j hj => by omega, by omega, fun h => by omega, fun p hp => by omega⟩
  exact ⟨f, fl, w', fun Q z => sx_met_of rfl rfl rfl rfl (bSt_refresh_0 (hev Q z)), hp⟩
def sg_add (L : sg_L) (k n v : Nat) : sg_L := (L.1 + 1, sg_up L.2.1 L.1 k, sg_up L.2.2.1 L.1 n, sg_up L.2.2.2 L.1 v)
theorem sg_add_ok {k n v : Nat} (h : sg_ok L) (hL : L.1 < 7) (hk : k < 4) (h1 : 1 ≤ n) (h4 : n ≤ 4) (hv : v < 256) : sg_ok (sg_add L k n v) := by
  refine ⟨by show L.1 + 1 ≤ 7; omega, fun i hi => ?_⟩
  have hi : i < L.1 + 1 := hi
  show sg_up L.2.1 L.1 k i < 4 ∧ 1 ≤ sg_up L.2.2.1 L.1 n i ∧ sg_up L.2.2.1 L.1 n i ≤ 4 ∧ sg_up L.2.2.2 L.1 v i < 256
  by_cases e : i = L.1
  · rw [e, sg_up_s, sg_up_s, sg_up_s]; exact ⟨hk, h1, h4, hv⟩
  · rw [sg_up_o e, sg_up_o e, sg_up_o e]; exact h.2 i (by omega)
theorem spHo_lodgersChanged : sx_de d rHo_lodgersChanged [.ref 1] w 0 0 (sx_u (sx_u w.1 1 8 (w.1 1 8 + 1)) 1 9 (w.1 1 8 + 1), w.2) := fun _ z => sx_met_of rfl rfl rfl rfl (bHo_lodgersChanged_0 z)
/-- fields of the house behind a change of the lodgers -/
def sg_age (t : Int32) (js cs : List Nat) (w w' : sx_W) : Prop := w'.1 1 7 = t ∧ w'.1 1 8 = w.1 1 8 + 1 ∧ w'.1 1 9 = w.1 1 8 + 1 ∧ (∀ j, j ∉ js → w'.1 1 j = w.1 1 j) ∧ sg_fr (1 :: cs) w w'
theorem spHo_admit {k n v : Nat} (h : sg_C L w) (hL : L.1 < 7) (hk : k < 4) (h1 : 1 ≤ n) (h4 : n ≤ 4) (hv : v < 256) : sx_x (d + 1) rHo_admit [.ref 1, .int (nI k), .int (nI n), .int (nI v)] w (fun f fl w' => f = 0 ∧ fl = 0 ∧ sg_C (sg_add L k n v) w' ∧ sg_age 0 [4, 7, 8, 9] [2, 3, 4] w w') := by
  have hc : (w.1 1 4).toNatClampNeg = L.1 := by rw [h.2.1]; exact nI_clamp (by omega)
  have c7 : w.1 1 4 < (7 : Int32) := by rw [h.2.1, show (7 : Int32) = nI 7 from rfl, nI_ltI (by omega) (by omega)]; exact hL
  have m1 := spHo_lodgersChanged (d := d) (w := (sx_u (sx_u (sx_u (sx_u (sx_u w.1 2 L.1 (nI k)) 3 L.1 (nI n)) 4 L.1 (nI v)) 1 4 (nI (L.1 + 1))) 1 7 0, w.2))
  have e8 : (sx_u (sx_u (sx_u (sx_u (sx_u w.1 2 L.1 (nI k)) 3 L.1 (nI n)) 4 L.1 (nI v)) 1 4 (nI (L.1 + 1))) 1 7 0, w.2).1 1 8 = w.1 1 8 := by
    show sx_u (sx_u (sx_u (sx_u (sx_u w.1 2 L.1 (nI k)) 3 L.1 (nI n)) 4 L.1 (nI v)) 1 4 (nI (L.1 + 1))) 1 7 0 1 8 = _
    rw [sx_u_s, if_neg (by decide), sx_u_s, if_neg (by decide), sx_u_o (by decide), sx_u_o (by decide), sx_u_o (by decide)]
  rw [e8] at m1
  have q1 : ∀ j, sx_u (sx_u (sx_u (sx_u (sx_u (sx_u (sx_u w.1 2 L.1 (nI k)) 3 L.1 (nI n)) 4 L.1 (nI v)) 1 4 (nI (L.1 + 1))) 1 7 0) 1 8 (w.1 1 8 + 1)) 1 9 (w.1 1 8 + 1) 1 j = if j = 9 then w.1 1 8 + 1 else if j = 8 then w.1 1 8 + 1 else if j = 7 then 0 else if j = 4 then nI (L.1 + 1) else w.1 1 j := fun j => by
    rw [sx_u_s, sx_u_s, sx_u_s, sx_u_s, sx_u_o (by decide), sx_u_o (by decide), sx_u_o (by decide)]
  refine ⟨0, 0, (sx_u (sx_u (sx_u (sx_u (sx_u (sx_u (sx_u w.1 2 L.1 (nI k)) 3 L.1 (nI n)) 4 L.1 (nI v)) 1 4 (nI (L.1 + 1))) 1 7 0) 1 8 (w.1 1 8 + 1)) 1 9 (w.1 1 8 + 1), w.2), fun Q z => sx_met_of rfl rfl rfl rfl (bHo_admit_0 (fun _ => by rw [h.2.1]; exact vp_in_nI hL (by decide)) (fun _ => by rw [hc, h.2.1, nI_1]; exact m1) (fun _ => z) (fun c => absurd c7 c)), rfl, rfl, ⟨sg_add_ok h.1 hL hk h1 h4 hv, ?_, fun i hi => ?_⟩, ?_, ?_, ?_, fun j hj => ?_, fun a ha => ⟨?_, rfl⟩⟩
  · exact q1 4
  · have hi : i < L.1 + 1 := hi
    show sx_u (sx_u (sx_u (sx_u (sx_u (sx_u (sx_u w.1 2 L.1 (nI k)) 3 L.1 (nI n)) 4 L.1 (nI v)) 1 4 (nI (L.1 + 1))) 1 7 0) 1 8 (w.1 1 8 + 1)) 1 9 (w.1 1 8 + 1) 2 i = nI (sg_up L.2.1 L.1 k i) ∧ sx_u (sx_u (sx_u (sx_u (sx_u (sx_u (sx_u w.1 2 L.1 (nI k)) 3 L.1 (nI n)) 4 L.1 (nI v)) 1 4 (nI (L.1 + 1))) 1 7 0) 1 8 (w.1 1 8 + 1)) 1 9 (w.1 1 8 + 1) 3 i = nI (sg_up L.2.2.1 L.1 n i) ∧ sx_u (sx_u (sx_u (sx_u (sx_u (sx_u (sx_u w.1 2 L.1 (nI k)) 3 L.1 (nI n)) 4 L.1 (nI v)) 1 4 (nI (L.1 + 1))) 1 7 0) 1 8 (w.1 1 8 + 1)) 1 9 (w.1 1 8 + 1) 4 i = nI (sg_up L.2.2.2 L.1 v i)
    have f2 : sx_u (sx_u (sx_u (sx_u (sx_u (sx_u (sx_u w.1 2 L.1 (nI k)) 3 L.1 (nI n)) 4 L.1 (nI v)) 1 4 (nI (L.1 + 1))) 1 7 0) 1 8 (w.1 1 8 + 1)) 1 9 (w.1 1 8 + 1) 2 i = if i = L.1 then nI k else w.1 2 i := by
      rw [sx_u_o (by decide), sx_u_o (by decide), sx_u_o (by decide), sx_u_o (by decide), sx_u_o (by decide), sx_u_o (by decide), sx_u_s]
    have f3 : sx_u (sx_u (sx_u (sx_u (sx_u (sx_u (sx_u w.1 2 L.1 (nI k)) 3 L.1 (nI n)) 4 L.1 (nI v)) 1 4 (nI (L.1 + 1))) 1 7 0) 1 8 (w.1 1 8 + 1)) 1 9 (w.1 1 8 + 1) 3 i = if i = L.1 then nI n else w.1 3 i := by
      rw [sx_u_o (by decide), sx_u_o (by decide), sx_u_o (by decide), sx_u_o (by decide), sx_u_o (by decide), sx_u_s, sx_u_o (by decide)]
    have f4 : sx_u (sx_u (sx_u (sx_u (sx_u (sx_u (sx_u w.1 2 L.1 (nI k)) 3 L.1 (nI n)) 4 L.1 (nI v)) 1 4 (nI (L.1 + 1))) 1 7 0) 1 8 (w.1 1 8 + 1)) 1 9 (w.1 1 8 + 1) 4 i = if i = L.1 then nI v else w.1 4 i := by
      rw [sx_u_o (by decide), sx_u_o (by decide), sx_u_o (by decide), sx_u_o (by decide), sx_u_s, sx_u_o (by decide), sx_u_o (by decide)]
    rw [f2, f3, f4]
    by_cases e : i = L.1
    · rw [if_pos e, if_pos e, if_pos e, e, sg_up_s, sg_up_s, sg_up_s]; exact ⟨rfl, rfl, rfl⟩
    · rw [if_neg e, if_neg e, if_neg e, sg_up_o e, sg_up_o e, sg_up_o e]; exact h.2.2 i (by omega)
  · exact q1 7
  · exact q1 8
  · exact q1 9
  · simp only [List.mem_cons, List.not_mem_nil, or_false, not_or] at hj
    have := q1 j
    rw [if_neg hj.2.2.2, if_neg hj.2.2.1, if_neg hj.2.1, if_neg hj.1] at this
    exact this
  · simp only [List.mem_cons, List.not_mem_nil, or_false, not_or] at ha
    show sx_u (sx_u (sx_u (sx_u (sx_u (sx_u (sx_u w.1 2 L.1 (nI k)) 3 L.1 (nI n)) 4 L.1 (nI v)) 1 4 (nI (L.1 + 1))) 1 7 0) 1 8 (w.1 1 8 + 1)) 1 9 (w.1 1 8 + 1) a = w.1 a
    rw [sx_u_o ha.1, sx_u_o ha.1, sx_u_o ha.1, sx_u_o ha.1, sx_u_o ha.2.2.2, sx_u_o ha.2.2.1, sx_u_o ha.2.1]
end
