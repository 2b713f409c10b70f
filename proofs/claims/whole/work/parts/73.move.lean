/-! ===== move, both sides ===== -/
def sl_mok (L : sg_L) (t : Bool) (x y : Int32) : Bool := (sz_in x L.1 && sz_in y 8) && t
def sl_move (L : sg_L) (t : Bool) (r : Nat → Nat) (x y : Int32) : Int32 := if sz_in x L.1 && sz_in y 8 then (if t then nI (r x.toNatClampNeg) else -2) else -1
section
variable {d : Nat} {w : sx_W} {L : sg_L} {b : Nat} {t : Bool} {r : Nat → Nat}
theorem spHo_shift {l v : Nat} (hl : l < 7) : sx_de d rHo_shift [.ref 1, .int (nI l), .int (nI v)] w 0 0 (sx_u (sx_u w.1 5 l (nI v)) 1 8 (w.1 1 8 + 1), w.2) := by
  intro Q z
  have hc : (nI l).toNatClampNeg = l := nI_clamp (by omega)
  refine sx_met_of rfl rfl rfl rfl (bHo_shift_0 (vp_in_nI hl (by decide)) ?_)
  rw [hc]; exact z
theorem spSb_move {x y : Int32} (h : sg_Co L b r w) (ht : w.1 1 7 = sz_b t) : sx_x (d + 1) rSb_move [.ref 0, .int x, .int y] w (fun f fl w' => f = sl_move L t r x y ∧ fl = 0 ∧ (sl_mok L t x y = false → w' = w) ∧ (sl_mok L t x y = true → sg_tell L b (sg_up r x.toNatClampNeg y.toNatClampNeg) r w w')) := by
  have h7 := h.1.1.1
  have m1 := spHo_has (d := d) (x := x) h.1.2.1 h7
  have m2 := spSb_isPart (d := d) (w := w) (x := y)
  have y1 : ¬ sz_b true = 0 := by decide
  unfold sl_move sl_mok
  cases h1 : sz_in x L.1 with
  | false =>
    rw [h1] at m1
    exact ⟨-1, 0, w, fun Q z => sx_met_of rfl rfl rfl rfl (bSb_move_0 (f2 := 0) (w3 := w) m1 (fun _ => z) (fun c => absurd rfl c) (fun c => absurd rfl c) (fun c => absurd rfl c) (fun c => absurd rfl c) (fun c => absurd rfl c) (fun c => absurd rfl c)), rfl, rfl, fun _ => rfl, fun c => absurd c Bool.false_ne_true⟩
  | true =>
    rw [h1] at m1
    cases h2 : sz_in y 8 with
    | false =>
      rw [h2] at m2
      exact ⟨-1, 0, w, fun Q z => sx_met_of rfl rfl rfl rfl (bSb_move_0 (w3 := w) m1 (fun c => absurd c y1) (fun _ => m2) (fun _ c => absurd rfl c) (fun _ c => absurd rfl c) (fun _ c => absurd rfl c) (fun _ c => absurd rfl c) (fun _ _ => z)), rfl, rfl, fun _ => rfl, fun c => absurd c Bool.false_ne_true⟩
    | true =>
      rw [h2] at m2
      cases t with
      | false =>
        have t0 : w.1 1 7 = 0 := ht
        exact ⟨-2, 0, w, fun Q z => sx_met_of rfl rfl rfl rfl (bSb_move_0 (w3 := w) m1 (fun c => absurd c y1) (fun _ => m2) (fun _ _ c => absurd t0 c) (fun _ _ c => absurd t0 c) (fun _ _ c => absurd t0 c) (fun _ _ _ => z) (fun _ c => absurd c y1)), rfl, rfl, fun _ => rfl, fun c => absurd c Bool.false_ne_true⟩
      | true =>
        have t0 : ¬ w.1 1 7 = 0 := by rw [ht]; exact y1
        obtain ⟨l, hl, rfl⟩ := sz_in_of h1 (by omega)
        obtain ⟨v, hv, rfl⟩ := sz_in_of h2 (by decide)
        have hcl : (nI l).toNatClampNeg = l := nI_clamp (by omega)
        rw [hcl, nI_clamp (show v < 2 ^ 31 by omega)]
        obtain ⟨a1, a2⟩ := h.2.2.2.2 l (by omega)
        have e1 : ∀ j, sx_u (sx_u w.1 5 l (nI v)) 1 8 (w.1 1 8 + 1) 1 j = if j = 8 then w.1 1 8 + 1 else w.1 1 j := fun j => by rw [sx_u_s, sx_u_o (by decide)]
        have fr : sg_fr [1, 5] w (sx_u (sx_u w.1 5 l (nI v)) 1 8 (w.1 1 8 + 1), w.2) := fun a ha => ⟨by
          simp only [List.mem_cons, List.not_mem_nil, or_false, not_or] at ha
          show sx_u (sx_u w.1 5 l (nI v)) 1 8 (w.1 1 8 + 1) a = w.1 a
          rw [sx_u_o ha.1, sx_u_o ha.2], rfl⟩
        have eo : sg_over L.1 (sg_up r l v) r = sg_up r l v := by
          funext i
          unfold sg_over
          by_cases hi : i < L.1
          · rw [if_pos hi]
          · rw [if_neg hi, sg_up_o (by omega)]
        refine ⟨_, 0, (sx_u (sx_u w.1 5 l (nI v)) 1 8 (w.1 1 8 + 1), w.2), fun Q z => sx_met_of rfl rfl rfl rfl (bSb_move_0 m1 (fun c => absurd c y1) (fun _ => m2) (fun _ _ _ => vp_in_nI (by omega) (by decide)) (fun _ _ _ => spHo_shift (by omega)) (fun _ _ _ => ?_) (fun _ _ c => absurd c t0) (fun _ c => absurd c y1)), rfl, rfl, fun c => absurd c.symm Bool.false_ne_true, fun _ => ⟨?_, ?_, e1 8, fun j c1 c2 => (e1 j).trans (if_neg c2), fr⟩⟩
        · rw [hcl, a1]; exact z
        · rw [eo]
          refine ⟨⟨h.1.1, (e1 4).trans h.1.2.1, fun i hi => ?_⟩, fun i hi => ⟨?_, fun q hq => ?_⟩, (e1 5).trans h.2.2.1, h.2.2.2.1, fun i hi => ?_⟩
          · rw [(fr 2 (by decide)).1, (fr 3 (by decide)).1, (fr 4 (by decide)).1]; exact h.1.2.2 i hi
          · rw [(fr 12 (by decide)).1]; exact (h.2.1 i hi).1
          · exact (h.2.1 i hi).2 q hq
          · show sx_u (sx_u w.1 5 l (nI v)) 1 8 (w.1 1 8 + 1) 5 i = nI (sg_up r l v i) ∧ _
            rw [sx_u_o (by decide), sx_u_s]
            by_cases e : i = l
            · rw [if_pos e, e, sg_up_s]; exact ⟨rfl, hv⟩
            · rw [if_neg e, sg_up_o e]; exact h.2.2.2.2 i hi
        · exact (e1 7).trans ht
theorem spMo_move {x y : Int32} (h : sg_Mo L b t r w) : sx_x (d + 2) rMo_move [.ref 48, .int x, .int y] w (fun f fl w' => f = sl_move L t r x y ∧ fl = 0 ∧ (sl_mok L t x y = false → w' = w) ∧ (sl_mok L t x y = true → sg_mtell L b (sg_up r x.toNatClampNeg y.toNatClampNeg) w w')) := by
  have h7 := h.1.1.1
  have m1 := spMo_isLodger (d := d) (x := x) h.1.2.1 h7
  have m2 := spMo_isPart (d := d) (w := w) (x := y)
  have y1 : ¬ sz_b true = 0 := by decide
  unfold sl_move sl_mok
  cases h1 : sz_in x L.1 with
  | false =>
    rw [h1] at m1
    exact ⟨-1, 0, w, fun Q z => sx_met_of rfl rfl rfl rfl (bMo_move_0 (f2 := 0) m1 (fun _ => z) (fun c => absurd rfl c) (fun c => absurd rfl c) (fun c => absurd rfl c) (fun c => absurd rfl c) (fun c => absurd rfl c)), rfl, rfl, fun _ => rfl, fun c => absurd c Bool.false_ne_true⟩
  | true =>
    rw [h1] at m1
    cases h2 : sz_in y 8 with
    | false =>
      rw [h2] at m2
      exact ⟨-1, 0, w, fun Q z => sx_met_of rfl rfl rfl rfl (bMo_move_0 m1 (fun c => absurd c y1) (fun _ => m2) (fun _ c => absurd rfl c) (fun _ c => absurd rfl c) (fun _ c => absurd rfl c) (fun _ _ => z)), rfl, rfl, fun _ => rfl, fun c => absurd c Bool.false_ne_true⟩
    | true =>
      rw [h2] at m2
      cases t with
      | false =>
        have t0 : w.1 48 5 = 0 := h.2.2.2.1
        exact ⟨-2, 0, w, fun Q z => sx_met_of rfl rfl rfl rfl (bMo_move_0 m1 (fun c => absurd c y1) (fun _ => m2) (fun _ _ c => absurd t0 c) (fun _ _ c => absurd t0 c) (fun _ _ _ => z) (fun _ c => absurd c y1)), rfl, rfl, fun _ => rfl, fun c => absurd c Bool.false_ne_true⟩
      | true =>
        have t0 : ¬ w.1 48 5 = 0 := by rw [h.2.2.2.1]; exact y1
        obtain ⟨l, hl, rfl⟩ := sz_in_of h1 (by omega)
        obtain ⟨v, hv, rfl⟩ := sz_in_of h2 (by decide)
        have hcl : (nI l).toNatClampNeg = l := nI_clamp (by omega)
        rw [hcl, nI_clamp (show v < 2 ^ 31 by omega)]
        obtain ⟨a1, a2⟩ := h.2.2.2.2 rfl l hl
        have fr : sg_fr [52] w (sx_u w.1 52 l (nI v), w.2) := fun a ha => ⟨sx_u_o (fun e => ha (by rw [e]; decide)), rfl⟩
        refine ⟨_, 0, (sx_u w.1 52 l (nI v), w.2), fun Q z => sx_met_of rfl rfl rfl rfl (bMo_move_0 m1 (fun c => absurd c y1) (fun _ => m2) (fun _ _ _ => vp_in_nI (by omega) (by decide)) (fun _ _ _ => ?_) (fun _ _ c => absurd c t0) (fun _ c => absurd c y1)), rfl, rfl, fun c => absurd c.symm Bool.false_ne_true, fun _ => ⟨⟨h.1.fr fr (by decide) (by decide) (by decide) (by decide), ?_, h.2.2.1, ?_, fun _ i hi => ?_⟩, fr.mono (by decide), fun j _ => by rw [(fr 48 (by decide)).1]⟩⟩
        · rw [hcl, a1]; exact z
        · rw [(fr 48 (by decide)).1]; exact h.2.1
        · rw [(fr 48 (by decide)).1]; exact h.2.2.2.1
        · show sx_u w.1 52 l (nI v) 52 i = nI (sg_up r l v i) ∧ _
          rw [sx_u_s]
          by_cases e : i = l
          · rw [if_pos e, e, sg_up_s]; exact ⟨rfl, hv⟩
          · rw [if_neg e, sg_up_o e]; exact h.2.2.2.2 rfl i hi
end
