/-! ===== image and restore of the class ===== -/
def sg_kp (L : sg_L) (b : Nat) (k : Int32) (t : Bool) (r : Nat → Nat) (w : sx_W) : Prop := sg_V 6 4 7 8 9 L w ∧ w.1 6 5 = nI b ∧ b ≤ 7 ∧ w.1 6 6 = k ∧ w.1 6 7 = sz_b t ∧ ∀ i, i < 7 → w.1 10 i = nI (r i) ∧ r i < 8
/-- one house becomes another -/
def sg_bc (o k1 k2 k3 k4 p c1 c2 c3 c4 : Nat) (g : Nat → Nat → Int32) : Nat → Nat → Int32 := sx_u (sx_u (sx_u (sx_u (sx_cp (sx_cp (sx_cp (sx_cp g c1 k1 0 0 7) c2 k2 0 0 7) c3 k3 0 0 7) c4 k4 0 0 7) o 4 (g p 4)) o 5 (g p 5)) o 6 (g p 6)) o 7 (g p 7)
theorem sx_cp_s (g : Nat → Nat → Int32) (a c i : Nat) (hi : i < 7) : sx_cp g a c 0 0 7 c i = g a i := by
  unfold sx_cp va_cpy
  rw [if_pos rfl]
  rw [if_pos ⟨Nat.zero_le _, by omega⟩]
  rw [Nat.zero_add, Nat.sub_zero]
theorem sx_cp_o {g : Nat → Nat → Int32} {a c e sp dp n : Nat} (h : e ≠ c) : sx_cp g a c sp dp n e = g e := by
  unfold sx_cp
  rw [if_neg h]
section
variable {d : Nat} {w : sx_W} {L : sg_L} {b : Nat} {k : Int32} {t : Bool} {r : Nat → Nat}
def sg_bf (o : Nat) (g0 : Nat → Nat → Int32) (g : Nat → Nat → Int32) : Nat → Nat → Int32 := sx_u (sx_u g o 8 (g0 o 8 + 1)) o 9 (g0 o 8 + 1)
theorem spSb_image (h : sg_Co L b r w) (hk : w.1 1 6 = k) (ht : w.1 1 7 = sz_b t) : sx_x (d + 3) rSb_image [.ref 0] w (fun f fl w' => f = 1 ∧ fl = 0 ∧ w'.1 0 2 = 1 ∧ sg_kp L b k t r w' ∧ sg_fr [0, 6, 7, 8, 9, 10] w w' ∧ ∀ j, j ≠ 2 → w'.1 0 j = w.1 0 j) := by
  have h7 := h.1.1.1
  generalize hg : sg_bc 6 7 8 9 10 1 2 3 4 5 w.1 = g
  have a6 : ∀ j, j ≠ 4 → j ≠ 5 → j ≠ 6 → j ≠ 7 → g 6 j = w.1 6 j := fun j c1 c2 c3 c4 => by
    rw [← hg]; unfold sg_bc
    rw [sx_u_s, if_neg c4, sx_u_s, if_neg c3, sx_u_s, if_neg c2, sx_u_s, if_neg c1, sx_cp_o (by decide), sx_cp_o (by decide), sx_cp_o (by decide), sx_cp_o (by decide)]
  have a64 : g 6 4 = w.1 1 4 ∧ g 6 5 = w.1 1 5 ∧ g 6 6 = w.1 1 6 ∧ g 6 7 = w.1 1 7 := by
    rw [← hg]; unfold sg_bc
    refine ⟨?_, ?_, ?_, ?_⟩
    · rw [sx_u_s, if_neg (by decide), sx_u_s, if_neg (by decide), sx_u_s, if_neg (by decide), sx_u_s, if_pos rfl]
    · rw [sx_u_s, if_neg (by decide), sx_u_s, if_neg (by decide), sx_u_s, if_pos rfl]
    · rw [sx_u_s, if_neg (by decide), sx_u_s, if_pos rfl]
    · rw [sx_u_s, if_pos rfl]
  have a7 : ∀ i, i < 7 → g 7 i = w.1 2 i ∧ g 8 i = w.1 3 i ∧ g 9 i = w.1 4 i ∧ g 10 i = w.1 5 i := fun i hi => by
    rw [← hg]; unfold sg_bc
    refine ⟨?_, ?_, ?_, ?_⟩
    · rw [sx_u_o (by decide), sx_u_o (by decide), sx_u_o (by decide), sx_u_o (by decide), sx_cp_o (by decide), sx_cp_o (by decide), sx_cp_o (by decide), sx_cp_s _ _ _ _ hi]
    · rw [sx_u_o (by decide), sx_u_o (by decide), sx_u_o (by decide), sx_u_o (by decide), sx_cp_o (by decide), sx_cp_o (by decide), sx_cp_s _ _ _ _ hi, sx_cp_o (by decide)]
    · rw [sx_u_o (by decide), sx_u_o (by decide), sx_u_o (by decide), sx_u_o (by decide), sx_cp_o (by decide), sx_cp_s _ _ _ _ hi, sx_cp_o (by decide), sx_cp_o (by decide)]
    · rw [sx_u_o (by decide), sx_u_o (by decide), sx_u_o (by decide), sx_u_o (by decide), sx_cp_s _ _ _ _ hi, sx_cp_o (by decide), sx_cp_o (by decide), sx_cp_o (by decide)]
  have ao : ∀ a, a ∉ [6, 7, 8, 9, 10] → g a = w.1 a := fun a ha => by
    simp only [List.mem_cons, List.not_mem_nil, or_false, not_or] at ha
    rw [← hg]; unfold sg_bc
    rw [sx_u_o ha.1, sx_u_o ha.1, sx_u_o ha.1, sx_u_o ha.1, sx_cp_o ha.2.2.2.2, sx_cp_o ha.2.2.2.1, sx_cp_o ha.2.2.1, sx_cp_o ha.2.1]
  have m0 : sx_de d rHo_lodgersChanged [.ref 6] (g, w.2) 0 0 (sx_u (sx_u g 6 8 (g 6 8 + 1)) 6 9 (g 6 8 + 1), w.2) := fun _ z => sx_met_of rfl rfl rfl rfl (bHo_lodgersChanged_6_0 z)
  have m1 : sx_de (d + 1) rHo_become [.ref 6, .ref 1] w 0 0 (sx_u (sx_u g 6 8 (g 6 8 + 1)) 6 9 (g 6 8 + 1), w.2) := fun Q z => sx_met_of rfl rfl rfl rfl (bHo_become_6_0 (by rw [ht]; exact sz_b01 t) (by
    have e : sx_u (sx_u (sx_u (sx_u (sx_cp (sx_cp (sx_cp (sx_cp w.1 2 7 0 0 7) 3 8 0 0 7) 4 9 0 0 7) 5 10 0 0 7) 6 4 (w.1 1 4)) 6 5 (w.1 1 5)) 6 6 (w.1 1 6)) 6 7 (w.1 1 7) = g := hg
    rw [e]; exact m0) z)
  generalize hG : sx_u (sx_u (sx_u g 6 8 (g 6 8 + 1)) 6 9 (g 6 8 + 1)) 0 2 1 = G
  have b6 : ∀ j, j < 8 → G 6 j = g 6 j := fun j hj => by
    rw [← hG, sx_u_o (by decide), sx_u_s, if_neg (by omega), sx_u_s, if_neg (by omega)]
  have bo : ∀ a, a ≠ 0 → a ≠ 6 → G a = g a := fun a c0 c6 => by rw [← hG, sx_u_o c0, sx_u_o c6, sx_u_o c6]
  have b0 : ∀ j, G 0 j = if j = 2 then 1 else g 0 j := fun j => by rw [← hG, sx_u_s, sx_u_o (by decide), sx_u_o (by decide)]
  refine ⟨1, 0, (G, w.2), fun Q z => sx_met_of rfl rfl rfl rfl (bSb_image_0 (d := d + 2) (w1 := (sx_u (sx_u g 6 8 (g 6 8 + 1)) 6 9 (g 6 8 + 1), w.2)) ?_ (by rw [← hG] at z; exact z)), rfl, rfl, (b0 2).trans (if_pos rfl), ⟨⟨h.1.1, ?_, fun i hi => ?_⟩, ?_, h.2.2.2.1, ?_, ?_, fun i hi => ?_⟩, fun a ha => ⟨?_, rfl⟩, fun j hj => ?_⟩
  · exact fun Q z => sx_met_of rfl rfl rfl rfl (bHo_become_6_0 (by rw [ht]; exact sz_b01 t) (by
      have e : sx_u (sx_u (sx_u (sx_u (sx_cp (sx_cp (sx_cp (sx_cp w.1 2 7 0 0 7) 3 8 0 0 7) 4 9 0 0 7) 5 10 0 0 7) 6 4 (w.1 1 4)) 6 5 (w.1 1 5)) 6 6 (w.1 1 6)) 6 7 (w.1 1 7) = g := hg
      rw [e]; exact fun _ z => sx_met_of rfl rfl rfl rfl (bHo_lodgersChanged_6_0 z)) z)
  · show G 6 4 = _
    rw [b6 4 (by decide), a64.1]; exact h.1.2.1
  · show G 7 i = _ ∧ G 8 i = _ ∧ G 9 i = _
    obtain ⟨q1, q2, q3, q4⟩ := a7 i (by omega)
    rw [bo 7 (by decide) (by decide), bo 8 (by decide) (by decide), bo 9 (by decide) (by decide), q1, q2, q3]
    exact h.1.2.2 i hi
  · show G 6 5 = _
    rw [b6 5 (by decide), a64.2.1]; exact h.2.2.1
  · show G 6 6 = _
    rw [b6 6 (by decide), a64.2.2.1]; exact hk
  · show G 6 7 = _
    rw [b6 7 (by decide), a64.2.2.2]; exact ht
  · show G 10 i = _ ∧ _
    obtain ⟨q1, q2, q3, q4⟩ := a7 i (by omega)
    rw [bo 10 (by decide) (by decide), q4]
    exact h.2.2.2.2 i hi
  · have ha2 := ha
    simp only [List.mem_cons, List.not_mem_nil, or_false, not_or] at ha
    show G a = _
    rw [bo a ha.1 ha.2.1]
    exact ao a (fun c => ha2 (List.mem_cons_of_mem _ c))
  · show G 0 j = _
    rw [b0 j, if_neg hj, ao 0 (by decide)]
theorem spSb_restore0 (h : w.1 0 2 = 0) : sx_de (d + 1) rSb_restore [.ref 0] w (-4) 0 w := fun Q z => sx_met_of rfl rfl rfl rfl (bSb_restore_0 (w1 := w) (w2 := w) (fun c => absurd h c) (fun c => absurd h c) (fun c => absurd h c) (fun _ => z))
theorem spSb_restore (h : sg_kp L b k t r w) (h1 : w.1 0 2 = 1) : sx_x (d + 4) rSb_restore [.ref 0] w (fun f fl w' => f = 1 ∧ fl = 0 ∧ sg_Co L b r w' ∧ w'.1 1 6 = k ∧ w'.1 1 7 = sz_b t ∧ w'.1 1 8 = w.1 1 8 + 1 ∧ w'.1 1 9 = w.1 1 8 + 1 ∧ sg_fr [1, 2, 3, 4, 5, 12, 13, 14, 15] w w') := by
  have h7 := h.1.1.1
  have n0 : ¬ w.1 0 2 = 0 := by rw [h1]; decide
  generalize hg : sg_bc 1 2 3 4 5 6 7 8 9 10 w.1 = g
  have a6 : ∀ j, j ≠ 4 → j ≠ 5 → j ≠ 6 → j ≠ 7 → g 1 j = w.1 1 j := fun j c1 c2 c3 c4 => by
    rw [← hg]; unfold sg_bc
    rw [sx_u_s, if_neg c4, sx_u_s, if_neg c3, sx_u_s, if_neg c2, sx_u_s, if_neg c1, sx_cp_o (by decide), sx_cp_o (by decide), sx_cp_o (by decide), sx_cp_o (by decide)]
  have a64 : g 1 4 = w.1 6 4 ∧ g 1 5 = w.1 6 5 ∧ g 1 6 = w.1 6 6 ∧ g 1 7 = w.1 6 7 := by
    rw [← hg]; unfold sg_bc
    refine ⟨?_, ?_, ?_, ?_⟩
    · rw [sx_u_s, if_neg (by decide), sx_u_s, if_neg (by decide), sx_u_s, if_neg (by decide), sx_u_s, if_pos rfl]
    · rw [sx_u_s, if_neg (by decide), sx_u_s, if_neg (by decide), sx_u_s, if_pos rfl]
    · rw [sx_u_s, if_neg (by decide), sx_u_s, if_pos rfl]
    · rw [sx_u_s, if_pos rfl]
  have a7 : ∀ i, i < 7 → g 2 i = w.1 7 i ∧ g 3 i = w.1 8 i ∧ g 4 i = w.1 9 i ∧ g 5 i = w.1 10 i := fun i hi => by
    rw [← hg]; unfold sg_bc
    refine ⟨?_, ?_, ?_, ?_⟩
    · rw [sx_u_o (by decide), sx_u_o (by decide), sx_u_o (by decide), sx_u_o (by decide), sx_cp_o (by decide), sx_cp_o (by decide), sx_cp_o (by decide), sx_cp_s _ _ _ _ hi]
    · rw [sx_u_o (by decide), sx_u_o (by decide), sx_u_o (by decide), sx_u_o (by decide), sx_cp_o (by decide), sx_cp_o (by decide), sx_cp_s _ _ _ _ hi, sx_cp_o (by decide)]
    · rw [sx_u_o (by decide), sx_u_o (by decide), sx_u_o (by decide), sx_u_o (by decide), sx_cp_o (by decide), sx_cp_s _ _ _ _ hi, sx_cp_o (by decide), sx_cp_o (by decide)]
    · rw [sx_u_o (by decide), sx_u_o (by decide), sx_u_o (by decide), sx_u_o (by decide), sx_cp_s _ _ _ _ hi, sx_cp_o (by decide), sx_cp_o (by decide), sx_cp_o (by decide)]
  have ao : ∀ a, a ∉ [1, 2, 3, 4, 5] → g a = w.1 a := fun a ha => by
    simp only [List.mem_cons, List.not_mem_nil, or_false, not_or] at ha
    rw [← hg]; unfold sg_bc
    rw [sx_u_o ha.1, sx_u_o ha.1, sx_u_o ha.1, sx_u_o ha.1, sx_cp_o ha.2.2.2.2, sx_cp_o ha.2.2.2.1, sx_cp_o ha.2.2.1, sx_cp_o ha.2.1]
  have m0 : sx_de (d + 2) rHo_lodgersChanged [.ref 1] (g, w.2) 0 0 (sx_u (sx_u g 1 8 (g 1 8 + 1)) 1 9 (g 1 8 + 1), w.2) := spHo_lodgersChanged
  have m1 : sx_de (d + 3) rHo_become [.ref 1, .ref 6] w 0 0 (sx_u (sx_u g 1 8 (g 1 8 + 1)) 1 9 (g 1 8 + 1), w.2) := fun Q z => sx_met_of rfl rfl rfl rfl (bHo_become_1_0 (by rw [h.2.2.2.2.1]; exact sz_b01 t) (by
    have e : sx_u (sx_u (sx_u (sx_u (sx_cp (sx_cp (sx_cp (sx_cp w.1 7 2 0 0 7) 8 3 0 0 7) 9 4 0 0 7) 10 5 0 0 7) 1 4 (w.1 6 4)) 1 5 (w.1 6 5)) 1 6 (w.1 6 6)) 1 7 (w.1 6 7) = g := hg
    rw [e]; exact m0) z)
  generalize hG : sx_u (sx_u g 1 8 (g 1 8 + 1)) 1 9 (g 1 8 + 1) = G at m1
  have b1 : ∀ j, j < 8 → G 1 j = g 1 j := fun j hj => by rw [← hG, sx_u_s, if_neg (by omega), sx_u_s, if_neg (by omega)]
  have b8 : G 1 8 = w.1 1 8 + 1 ∧ G 1 9 = w.1 1 8 + 1 := by
    have e8 := a6 8 (by decide) (by decide) (by decide) (by decide)
    rw [← hG]
    refine ⟨?_, ?_⟩
    · rw [sx_u_s, if_neg (by decide), sx_u_s, if_pos rfl, e8]
    · rw [sx_u_s, if_pos rfl, e8]
  have bo : ∀ a, a ≠ 1 → G a = g a := fun a c => by rw [← hG, sx_u_o c, sx_u_o c]
  have hC : sg_C L (G, w.2) := by
    refine ⟨h.1.1, ?_, fun i hi => ?_⟩
    · show G 1 4 = _
      rw [b1 4 (by decide), a64.1]; exact h.1.2.1
    · show G 2 i = _ ∧ G 3 i = _ ∧ G 4 i = _
      obtain ⟨q1, q2, q3, q4⟩ := a7 i (by omega)
      rw [bo 2 (by decide), bo 3 (by decide), bo 4 (by decide), q1, q2, q3]
      exact h.1.2.2 i hi
  have fr : sg_fr [1, 2, 3, 4, 5] w (G, w.2) := fun a ha => by
    have ha2 := ha
    simp only [List.mem_cons, List.not_mem_nil, or_false, not_or] at ha
    refine ⟨?_, rfl⟩
    show G a = _
    rw [bo a ha.1]; exact ao a ha2
  obtain ⟨f, fl, w3, m4, rfl, rfl, s1, s2⟩ := spSt_refreshed (d := d) hC
  have e1 : w3.1 1 = G 1 := (s2 1 (by decide)).1
  refine ⟨1, 0, w3, fun Q z => sx_met_of rfl rfl rfl rfl (bSb_restore_0 (fun _ => m1) (fun _ => m4) (fun _ => z) (fun c => absurd c n0)), rfl, rfl, ⟨hC.fr s2 (by decide) (by decide) (by decide) (by decide), s1, ?_, h.2.2.1, fun i hi => ?_⟩, ?_, ?_, ?_, ?_, (fr.mono (by decide)).trans (s2.mono (by decide))⟩
  · rw [e1, b1 5 (by decide), a64.2.1]; exact h.2.1
  · rw [(s2 5 (by decide)).1]
    show G 5 i = _ ∧ _
    obtain ⟨q1, q2, q3, q4⟩ := a7 i (by omega)
    rw [bo 5 (by decide), q4]
    exact h.2.2.2.2.2 i hi
  · rw [e1, b1 6 (by decide), a64.2.2.1]; exact h.2.2.2.1
  · rw [e1, b1 7 (by decide), a64.2.2.2]; exact h.2.2.2.2.1
  · rw [e1]; exact b8.1
  · rw [e1]; exact b8.2
end
