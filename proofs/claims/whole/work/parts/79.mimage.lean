/-! ===== image and restore of the model, outer ===== -/
section
variable {d : Nat} {w : sx_W} {L : sg_L} {b : Nat} {k : Int32} {t : Bool} {r : Nat → Nat}
theorem spMo_image (h : sg_Mo L b t r w) (hk : w.1 48 7 = k) : sx_x (d + 1) rMo_image [.ref 48] w (fun f fl w' => f = 1 ∧ fl = 0 ∧ sg_im L b k t r w' ∧ w'.1 48 19 = 1 ∧ tp_Fm [19] [60] w w') := by
  have h7 := h.1.1.1
  obtain ⟨f1, l1, w1, m1, rfl, rfl, a1, a2, a3⟩ := spMo_notes_49 (d := d) (w := w) (a := 0) (by decide)
  obtain ⟨f2, l2, w2, m2, rfl, rfl, b1, b2, b3⟩ := spMo_notes_50 (d := d) (w := w1) (a := 7) (by decide)
  obtain ⟨f3, l3, w3, m3, rfl, rfl, c1, c2, c3⟩ := spMo_notes_51 (d := d) (w := w2) (a := 14) (by decide)
  obtain ⟨f4, l4, w4, m4, rfl, rfl, d1, d2, d3⟩ := spMo_notes_52 (d := d) (w := w3) (a := 21) (by decide)
  have F : sg_fr [60] w w4 := ((a3.trans b3).trans c3).trans d3
  have e48 : w4.1 48 = w.1 48 := (F 48 (by decide)).1
  have x1 : ∀ i, i < 7 → w4.1 60 i = w.1 49 i := fun i hi => by
    rw [d2 i (by omega), c2 i (by omega), b2 i (by omega)]
    have := a1 i hi
    rw [Nat.zero_add] at this; exact this
  have x2 : ∀ i, i < 7 → w4.1 60 (7 + i) = w.1 50 i := fun i hi => by
    rw [d2 (7 + i) (by omega), c2 (7 + i) (by omega), b1 i hi, (a3 50 (by decide)).1]
  have x3 : ∀ i, i < 7 → w4.1 60 (14 + i) = w.1 51 i := fun i hi => by
    rw [d2 (14 + i) (by omega), c1 i hi, (b3 51 (by decide)).1, (a3 51 (by decide)).1]
  have x4 : ∀ i, i < 7 → w4.1 60 (21 + i) = w.1 52 i := fun i hi => by
    rw [d1 i hi, (c3 52 (by decide)).1, (b3 52 (by decide)).1, (a3 52 (by decide)).1]
  generalize hG : sx_u (sx_u (sx_u (sx_u (sx_u w4.1 60 28 (w4.1 48 0)) 60 29 (w4.1 48 6)) 60 30 (w4.1 48 7)) 60 31 (sz_b t)) 48 19 (1 : Int32) = G
  have g60 : ∀ i, G 60 i = if i = 31 then sz_b t else if i = 30 then w.1 48 7 else if i = 29 then w.1 48 6 else if i = 28 then w.1 48 0 else w4.1 60 i := fun i => by
    rw [← hG, sx_u_o (by decide), sx_u_s, sx_u_s, sx_u_s, sx_u_s, e48]
  have g48 : ∀ j, G 48 j = if j = 19 then 1 else w.1 48 j := fun j => by
    rw [← hG, sx_u_s, sx_u_o (by decide), sx_u_o (by decide), sx_u_o (by decide), sx_u_o (by decide), e48]
  have go : ∀ a, a ≠ 48 → a ≠ 60 → G a = w4.1 a := fun a c c2 => by
    rw [← hG, sx_u_o c, sx_u_o c2, sx_u_o c2, sx_u_o c2, sx_u_o c2]
  have gl : ∀ i, i < 28 → G 60 i = w4.1 60 i := fun i hi => by
    rw [g60 i, if_neg (by omega), if_neg (by omega), if_neg (by omega), if_neg (by omega)]
  have ht : w4.1 48 5 = sz_b t := by rw [e48]; exact h.2.2.2.1
  have q28 : (nI 28).toNatClampNeg = 28 := nI_clamp (by decide)
  have q29 : (nI 28 + 1).toNatClampNeg = 29 := by decide
  have q30 : (nI 28 + 2).toNatClampNeg = 30 := by decide
  have q31 : (nI 28 + 3).toNatClampNeg = 31 := by decide
  refine ⟨1, 0, (G, w4.2), fun Q z => sx_met_of rfl rfl rfl rfl (bMo_image_0 m1 m2 m3 m4 (vp_in_nI (by decide) (by decide)) (vp_in_nI (n := 29) (by decide) (by decide)) (vp_in_nI (n := 30) (by decide) (by decide)) (fun _ => vp_in_nI (n := 31) (by decide) (by decide)) (fun c => ?_) (fun _ => vp_in_nI (n := 31) (by decide) (by decide)) (fun c => ?_)), rfl, rfl, ⟨h.1.1, ?_, ?_, h.2.2.1, ?_, ?_, fun i hi => ?_, fun htt i hi => ?_⟩, ?_, ⟨fun a ha => ?_, fun j hj => ?_⟩⟩
  · have e : t = false := sz_b0.mp (ht.symm.trans c)
    rw [q28, q29, q30, q31]
    rw [← hG, e] at z
    exact z
  · have e : t = true := sz_b1.mp (fun c2 => c (ht.trans c2))
    rw [q28, q29, q30, q31]
    rw [← hG, e] at z
    exact z
  · show G 60 28 = _
    rw [g60, if_neg (by decide), if_neg (by decide), if_neg (by decide), if_pos rfl]; exact h.1.2.1
  · show G 60 29 = _
    rw [g60, if_neg (by decide), if_neg (by decide), if_pos rfl]; exact h.2.1
  · show G 60 30 = _
    rw [g60, if_neg (by decide), if_pos rfl]; exact hk
  · show G 60 31 = _
    rw [g60, if_pos rfl]
  · show G 60 i = _ ∧ G 60 (7 + i) = _ ∧ G 60 (14 + i) = _
    rw [gl i (by omega), gl (7 + i) (by omega), gl (14 + i) (by omega), x1 i (by omega), x2 i (by omega), x3 i (by omega)]
    exact h.1.2.2 i hi
  · show G 60 (21 + i) = _ ∧ _
    rw [gl (21 + i) (by omega), x4 i (by omega)]
    exact h.2.2.2.2 htt i hi
  · show G 48 19 = 1
    rw [g48, if_pos rfl]
  · have ha2 := ha
    simp only [List.mem_cons, List.not_mem_nil, or_false, not_or] at ha
    refine ⟨?_, (F a (fun c => ha2 (List.mem_cons_of_mem _ c))).2⟩
    show G a = _
    rw [go a ha.1 ha.2]
    exact (F a (fun c => ha2 (List.mem_cons_of_mem _ c))).1
  · simp only [List.mem_cons, List.not_mem_nil, or_false] at hj
    show G 48 j = _
    rw [g48, if_neg hj]
theorem spMo_restore0 (h : w.1 48 19 = 0) : sx_de (d + 1) rMo_restore [.ref 48] w (-4) 0 w := fun Q z => sx_met_of rfl rfl rfl rfl (bMo_restore_0 (f1 := 0) (f2 := 0) (f3 := 0) (f4 := 0) (w1 := w) (w2 := w) (w3 := w) (w4 := w) (fun c => absurd h c) (fun c => absurd h c) (fun c => absurd h c) (fun c => absurd h c) (fun c => absurd h c) (fun c => absurd h c) (fun c => absurd h c) (fun c => absurd h c) (fun c => absurd h c) (fun c => absurd h c) (fun _ => z))
theorem spMo_restore (h : sg_im L b k t r w) (h1 : w.1 48 19 = 1) : sx_x (d + 1) rMo_restore [.ref 48] w (fun f fl w' => f = 1 ∧ fl = 0 ∧ sg_Mo L b t r w' ∧ w'.1 48 7 = k ∧ tp_Fm [0, 5, 6, 7] [49, 50, 51, 52] w w') := by
  obtain ⟨hok, i28, i29, hb7, i30, i31, hi, hr⟩ := h
  have h7 := hok.1
  have n0 : ¬ w.1 48 19 = 0 := by rw [h1]; decide
  obtain ⟨f1, l1, w1, m1, rfl, rfl, a1, a3⟩ := spMo_gives_49 (d := d) (w := w) (a := 0) (by decide)
  obtain ⟨f2, l2, w2, m2, rfl, rfl, b1, b3⟩ := spMo_gives_50 (d := d) (w := w1) (a := 7) (by decide)
  obtain ⟨f3, l3, w3, m3, rfl, rfl, c1, c3⟩ := spMo_gives_51 (d := d) (w := w2) (a := 14) (by decide)
  obtain ⟨f4, l4, w4, m4, rfl, rfl, d1, d3⟩ := spMo_gives_52 (d := d) (w := w3) (a := 21) (by decide)
  have F : sg_fr [49, 50, 51, 52] w w4 := (((a3.mono (by decide)).trans (b3.mono (by decide))).trans (c3.mono (by decide))).trans (d3.mono (by decide))
  have e48 : w4.1 48 = w.1 48 := (F 48 (by decide)).1
  have e60 : w4.1 60 = w.1 60 := (F 60 (by decide)).1
  have x1 : ∀ i, i < 7 → w4.1 49 i = w.1 60 i := fun i hi => by
    rw [(d3 49 (by decide)).1, (c3 49 (by decide)).1, (b3 49 (by decide)).1]
    have := a1 i hi
    rw [Nat.zero_add] at this; exact this
  have x2 : ∀ i, i < 7 → w4.1 50 i = w.1 60 (7 + i) := fun i hi => by
    rw [(d3 50 (by decide)).1, (c3 50 (by decide)).1, b1 i hi, (a3 60 (by decide)).1]
  have x3 : ∀ i, i < 7 → w4.1 51 i = w.1 60 (14 + i) := fun i hi => by
    rw [(d3 51 (by decide)).1, c1 i hi, (b3 60 (by decide)).1, (a3 60 (by decide)).1]
  have x4 : ∀ i, i < 7 → w4.1 52 i = w.1 60 (21 + i) := fun i hi => by
    rw [d1 i hi, (c3 60 (by decide)).1, (b3 60 (by decide)).1, (a3 60 (by decide)).1]
  generalize hG : sx_u (sx_u (sx_u (sx_u w4.1 48 0 (w4.1 60 28)) 48 6 (w4.1 60 29)) 48 7 (w4.1 60 30)) 48 5 (sz_b t) = G
  have g48 : ∀ j, G 48 j = if j = 5 then sz_b t else if j = 7 then w.1 60 30 else if j = 6 then w.1 60 29 else if j = 0 then w.1 60 28 else w.1 48 j := fun j => by
    rw [← hG, sx_u_s, sx_u_s, sx_u_s, sx_u_s, e48, e60]
  have go : ∀ a, a ≠ 48 → G a = w4.1 a := fun a c => by
    rw [← hG, sx_u_o c, sx_u_o c, sx_u_o c, sx_u_o c]
  have ht : w4.1 60 31 = sz_b t := by rw [e60]; exact i31
  have q28 : (nI 28).toNatClampNeg = 28 := nI_clamp (by decide)
  have q29 : (nI 28 + 1).toNatClampNeg = 29 := by decide
  have q30 : (nI 28 + 2).toNatClampNeg = 30 := by decide
  have q31 : (nI 28 + 3).toNatClampNeg = 31 := by decide
  refine ⟨1, 0, (G, w4.2), fun Q z => sx_met_of rfl rfl rfl rfl (bMo_restore_0 (fun _ => m1) (fun _ => m2) (fun _ => m3) (fun _ => m4) (fun _ => vp_in_nI (by decide) (by decide)) (fun _ => vp_in_nI (n := 29) (by decide) (by decide)) (fun _ => vp_in_nI (n := 30) (by decide) (by decide)) (fun _ => vp_in_nI (n := 31) (by decide) (by decide)) (fun _ c => ?_) (fun _ c => ?_) (fun c => absurd c n0)), rfl, rfl, ⟨⟨hok, ?_, fun i hi' => ?_⟩, ?_, hb7, ?_, fun htt i hi' => ?_⟩, ?_, ⟨fun a ha => ?_, fun j hj => ?_⟩⟩
  · rw [q31, ht] at c
    have e : t = false := by
      cases t with
      | false => rfl
      | true => exact absurd rfl c
    rw [q28, q29, q30]
    rw [← hG, e] at z
    exact z
  · rw [q31, ht] at c
    have e : t = true := by
      cases t with
      | false => exact absurd c (by decide)
      | true => rfl
    rw [q28, q29, q30]
    rw [← hG, e] at z
    exact z
  · show G 48 0 = _
    rw [g48, if_neg (by decide), if_neg (by decide), if_neg (by decide), if_pos rfl]; exact i28
  · show G 49 i = _ ∧ G 50 i = _ ∧ G 51 i = _
    have hi' : i < L.1 := hi'
    rw [go 49 (by decide), go 50 (by decide), go 51 (by decide), x1 i (by omega), x2 i (by omega), x3 i (by omega)]
    exact hi i hi'
  · show G 48 6 = _
    rw [g48, if_neg (by decide), if_neg (by decide), if_pos rfl]; exact i29
  · show G 48 5 = _
    rw [g48, if_pos rfl]
  · show G 52 i = _ ∧ _
    rw [go 52 (by decide), x4 i (by omega)]
    exact hr htt i hi'
  · show G 48 7 = _
    rw [g48, if_neg (by decide), if_pos rfl]; exact i30
  · have ha2 := ha
    simp only [List.mem_cons, List.not_mem_nil, or_false, not_or] at ha
    refine ⟨?_, (F a (fun c => ha2 (List.mem_cons_of_mem _ c))).2⟩
    show G a = _
    rw [go a ha.1]
    exact (F a (fun c => ha2 (List.mem_cons_of_mem _ c))).1
  · simp only [List.mem_cons, List.not_mem_nil, or_false, not_or] at hj
    show G 48 j = _
    rw [g48, if_neg hj.2.1, if_neg hj.2.2.2, if_neg hj.2.2.1, if_neg hj.1]
end
