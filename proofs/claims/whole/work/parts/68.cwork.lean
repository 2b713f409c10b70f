/-! ===== work of the class ===== -/
section
variable {d : Nat} {w : sx_W} {L : sg_L} {b : Nat} {r : Nat → Nat}
theorem spHo_employ {l v : Nat} (h : sg_C L w) (hl : l < L.1) (hv : v < 256) : sx_x (d + 1) rHo_employ [.ref 1, .int (nI l), .int (nI v)] w (fun f fl w' => f = 0 ∧ fl = 0 ∧ sg_C (sg_wk L l v) w' ∧ sg_age (w.1 1 7) [8, 9] [4] w w') := by
  have h7 := h.1.1
  have hcl : (nI l).toNatClampNeg = l := nI_clamp (by omega)
  have m1 := spHo_lodgersChanged (d := d) (w := (sx_u w.1 4 l (nI v), w.2))
  have e8 : (sx_u w.1 4 l (nI v), w.2).1 1 8 = w.1 1 8 := by
    show sx_u w.1 4 l (nI v) 1 8 = _
    rw [sx_u_o (by decide)]
  rw [e8] at m1
  have q1 : ∀ j, sx_u (sx_u (sx_u w.1 4 l (nI v)) 1 8 (w.1 1 8 + 1)) 1 9 (w.1 1 8 + 1) 1 j = if j = 9 then w.1 1 8 + 1 else if j = 8 then w.1 1 8 + 1 else w.1 1 j := fun j => by
    rw [sx_u_s, sx_u_s, sx_u_o (by decide)]
  have q2 : ∀ a, a ≠ 1 → sx_u (sx_u (sx_u w.1 4 l (nI v)) 1 8 (w.1 1 8 + 1)) 1 9 (w.1 1 8 + 1) a = sx_u w.1 4 l (nI v) a := fun a ha => by rw [sx_u_o ha, sx_u_o ha]
  refine ⟨0, 0, (sx_u (sx_u (sx_u w.1 4 l (nI v)) 1 8 (w.1 1 8 + 1)) 1 9 (w.1 1 8 + 1), w.2), fun Q z => sx_met_of rfl rfl rfl rfl (bHo_employ_0 (vp_in_nI (by omega) (by decide)) (by rw [hcl]; exact m1) z), rfl, rfl, ⟨sg_wk_ok h.1 hv, ?_, fun i hi => ?_⟩, q1 7, q1 8, q1 9, fun j hj => ?_, fun a ha => ⟨?_, rfl⟩⟩
  · exact (q1 4).trans h.2.1
  · obtain ⟨b1, b2, b3⟩ := h.2.2 i hi
    show sx_u (sx_u (sx_u w.1 4 l (nI v)) 1 8 (w.1 1 8 + 1)) 1 9 (w.1 1 8 + 1) 2 i = _ ∧ sx_u (sx_u (sx_u w.1 4 l (nI v)) 1 8 (w.1 1 8 + 1)) 1 9 (w.1 1 8 + 1) 3 i = _ ∧ sx_u (sx_u (sx_u w.1 4 l (nI v)) 1 8 (w.1 1 8 + 1)) 1 9 (w.1 1 8 + 1) 4 i = nI (sg_up L.2.2.2 l v i)
    rw [q2 2 (by decide), q2 3 (by decide), q2 4 (by decide), sx_u_o (by decide), sx_u_o (by decide), sx_u_s]
    refine ⟨b1, b2, ?_⟩
    by_cases e : i = l
    · rw [if_pos e, e, sg_up_s]
    · rw [if_neg e, sg_up_o e]; exact b3
  · simp only [List.mem_cons, List.not_mem_nil, or_false, not_or] at hj
    have := q1 j
    rw [if_neg hj.2, if_neg hj.1] at this
    exact this
  · simp only [List.mem_cons, List.not_mem_nil, or_false, not_or] at ha
    exact (q2 a ha.1).trans (sx_u_o ha.2)
theorem spSb_work {x y : Int32} (h : sg_Co L b r w) : sx_x (d + 4) rSb_work [.ref 0, .int x, .int y] w (fun f fl w' => f = sl_work L x y ∧ fl = 0 ∧ (sl_wok L x y = false → w' = w) ∧ (sl_wok L x y = true → sg_chg (sg_wk L x.toNatClampNeg y.toNatClampNeg) b r (w.1 1 7) [8, 9] w w')) := by
  have h7 := h.1.1.1
  have m1 := spHo_has (d := d + 3) (x := x) h.1.2.1 h7
  have m2 := spSb_isSetOfParts (d := d + 3) (w := w) (x := y)
  have y1 : ¬ sz_b true = 0 := by decide
  unfold sl_work sl_wok
  cases h1 : sz_in x L.1 with
  | false =>
    rw [h1] at m1
    exact ⟨-1, 0, w, fun Q z => sx_met_of rfl rfl rfl rfl (bSb_work_0 (f2 := 0) (w3 := w) (w4 := w) m1 (fun _ => z) (fun c => absurd rfl c) (fun c => absurd rfl c) (fun c => absurd rfl c) (fun c => absurd rfl c) (fun c => absurd rfl c) (fun c => absurd rfl c)), rfl, rfl, fun _ => rfl, fun c => absurd c Bool.false_ne_true⟩
  | true =>
    rw [h1] at m1
    cases h2 : sz_in y 256 with
    | false =>
      rw [h2] at m2
      exact ⟨-1, 0, w, fun Q z => sx_met_of rfl rfl rfl rfl (bSb_work_0 (w3 := w) (w4 := w) m1 (fun c => absurd c y1) (fun _ => m2) (fun _ c => absurd rfl c) (fun _ c => absurd rfl c) (fun _ c => absurd rfl c) (fun _ c => absurd rfl c) (fun _ _ => z)), rfl, rfl, fun _ => rfl, fun c => absurd c Bool.false_ne_true⟩
    | true =>
      rw [h2] at m2
      obtain ⟨l, hl, rfl⟩ := sz_in_of h1 (by omega)
      obtain ⟨v, hv, rfl⟩ := sz_in_of h2 (by decide)
      have hcl : (nI l).toNatClampNeg = l := nI_clamp (by omega)
      rw [hcl, nI_clamp (show v < 2 ^ 31 by omega), if_pos (show (true && true) = true from rfl)]
      obtain ⟨a1, a2, a3⟩ := h.1.2.2 l hl
      obtain ⟨f, fl, w2, m3, rfl, rfl, p1, p2⟩ := spHo_employ (d := d + 2) h.1 hl hv
      obtain ⟨f, fl, w3, m4, rfl, rfl, q1, q2⟩ := spSt_refreshed (d := d) p1
      have hC3 : sg_C (sg_wk L l v) w3 := p1.fr q2 (by decide) (by decide) (by decide) (by decide)
      have e1 : w3.1 1 = w2.1 1 := (q2 1 (by decide)).1
      have fr : sg_fr [1, 2, 3, 4, 12, 13, 14, 15] w w3 := (p2.2.2.2.2.mono (by decide)).trans (q2.mono (by decide))
      refine ⟨_, 0, w3, fun Q z => sx_met_of rfl rfl rfl rfl (bSb_work_0 m1 (fun c => absurd c y1) (fun _ => m2) (fun _ _ => vp_in_nI (by omega) (by decide)) (fun _ _ => m3) (fun _ _ => m4) (fun _ _ => ?_) (fun _ c => absurd c y1)), rfl, rfl, fun c => absurd c.symm Bool.false_ne_true, fun _ => ⟨⟨hC3, q1, ?_, h.2.2.2.1, fun i hi => ?_⟩, ?_, ?_, ?_, fun j hj => ?_, fr⟩⟩
      · rw [hcl, a3]; exact z
      · rw [e1, p2.2.2.2.1 5 (by decide)]; exact h.2.2.1
      · rw [(fr 5 (by decide)).1]; exact h.2.2.2.2 i hi
      · rw [e1]; exact p2.1
      · rw [e1]; exact p2.2.1
      · rw [e1]; exact p2.2.2.1
      · rw [e1]; exact p2.2.2.2.1 j hj
end
