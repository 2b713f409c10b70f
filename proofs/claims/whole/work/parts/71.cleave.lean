/-! ===== leave of the class ===== -/
def sg_lc (g : Nat → Nat → Int32) (c : Int32) : Nat → Nat → Int32 := sx_u (sx_u (sx_u (sx_u g 1 4 c) 1 7 0) 1 8 (g 1 8 + 1)) 1 9 (g 1 8 + 1)
theorem sg_lc_1 (g : Nat → Nat → Int32) (c : Int32) (j : Nat) : sg_lc g c 1 j = if j = 9 then g 1 8 + 1 else if j = 8 then g 1 8 + 1 else if j = 7 then 0 else if j = 4 then c else g 1 j := by
  unfold sg_lc
  rw [sx_u_s, sx_u_s, sx_u_s, sx_u_s]
theorem sg_lc_o {g : Nat → Nat → Int32} {c : Int32} {a : Nat} (h : a ≠ 1) : sg_lc g c a = g a := by
  unfold sg_lc
  rw [sx_u_o h, sx_u_o h, sx_u_o h, sx_u_o h]
section
variable {d : Nat} {w : sx_W} {L : sg_L} {b : Nat} {r : Nat → Nat}
theorem spHo_lc {g : Nat → Nat → Int32} {gl : Nat → Nat → Int64} {c : Int32} : sx_de d rHo_lodgersChanged [.ref 1] ((sx_u (sx_u g 1 4 c) 1 7 (0 : Int32)), gl) 0 0 (sg_lc g c, gl) := by
  have m1 := spHo_lodgersChanged (d := d) (w := (sx_u (sx_u g 1 4 c) 1 7 (0 : Int32), gl))
  have e8 : (sx_u (sx_u g 1 4 c) 1 7 (0 : Int32), gl).1 1 8 = g 1 8 := by
    show sx_u (sx_u g 1 4 c) 1 7 (0 : Int32) 1 8 = _
    rw [sx_u_s, if_neg (by decide), sx_u_s, if_neg (by decide)]
  rw [e8] at m1
  exact m1
theorem spHo_dismiss {l : Nat} (h : sg_C L w) (hl : l < L.1) : sx_x (d + 1) rHo_dismiss [.ref 1, .int (nI l)] w (fun f fl w' => f = 0 ∧ fl = 0 ∧ sg_C (sg_rm L l) w' ∧ sg_age 0 [4, 7, 8, 9] [2, 3, 4] w w') := by
  have h7 := h.1.1
  have em : nI L.1 - 1 = nI (L.1 - 1) := by
    have := nI_pred (L.1 - 1)
    rw [show L.1 - 1 + 1 = L.1 by omega] at this; exact this
  have loop : ∀ k, k ≤ L.1 - 1 → l ≤ k → ∀ u, sg_fr [2, 3, 4] w u → sg_mid 2 3 4 L l k u → sx_xe (d + 1) rHo_dismiss 2 [.ref 1, .null, .int (nI k)] u (fun f fl w' => f = 0 ∧ fl = 0 ∧ sg_C (sg_rm L l) w' ∧ sg_age 0 [4, 7, 8, 9] [2, 3, 4] w w') := by
    refine sx_for (L.1 - 1) (fun _ u hF hm => ?_) (fun k hk ih hlk u hF hm => ?_)
    · have e1 : u.1 1 = w.1 1 := (hF 1 (by decide)).1
      have c : u.1 1 4 ≤ nI (L.1 - 1) + 1 := by rw [e1, h.2.1, nI_1, show L.1 - 1 + 1 = L.1 by omega]; exact nI_le (Nat.le_refl _) (by omega)
      refine ⟨0, 0, (sg_lc u.1 (u.1 1 4 - 1), u.2), fun Q z => bHo_dismiss_2 (fun _ => spHo_lc) (fun _ => z) (fun x => absurd c x) (fun x => absurd c x) (fun x => absurd c x), rfl, rfl, ⟨sg_rm_ok h.1, ?_, fun i hi => ?_⟩, ?_, ?_, ?_, fun j hj => ?_, fun a ha => ?_⟩
      · show sg_lc u.1 (u.1 1 4 - 1) 1 4 = nI (L.1 - 1)
        rw [sg_lc_1, if_neg (by decide), if_neg (by decide), if_neg (by decide), if_pos rfl, e1, h.2.1, em]
      · have hi : i < L.1 - 1 := hi
        have := hm i (by omega)
        rw [sg_mid_end h7 hi] at this
        show sg_lc u.1 (u.1 1 4 - 1) 2 i = _ ∧ sg_lc u.1 (u.1 1 4 - 1) 3 i = _ ∧ sg_lc u.1 (u.1 1 4 - 1) 4 i = _
        rw [sg_lc_o (by decide), sg_lc_o (by decide), sg_lc_o (by decide)]
        exact this
      · show sg_lc u.1 (u.1 1 4 - 1) 1 7 = 0
        rw [sg_lc_1, if_neg (by decide), if_neg (by decide), if_pos rfl]
      · show sg_lc u.1 (u.1 1 4 - 1) 1 8 = _
        rw [sg_lc_1, if_neg (by decide), if_pos rfl, e1]
      · show sg_lc u.1 (u.1 1 4 - 1) 1 9 = _
        rw [sg_lc_1, if_pos rfl, e1]
      · simp only [List.mem_cons, List.not_mem_nil, or_false, not_or] at hj
        show sg_lc u.1 (u.1 1 4 - 1) 1 j = _
        rw [sg_lc_1, if_neg hj.2.2.2, if_neg hj.2.2.1, if_neg hj.2.1, if_neg hj.1, e1]
      · have ha2 := ha
        simp only [List.mem_cons, List.not_mem_nil, or_false, not_or] at ha
        refine ⟨?_, (hF a (fun c => ha2 (List.mem_cons_of_mem _ c))).2⟩
        show sg_lc u.1 (u.1 1 4 - 1) a = _
        rw [sg_lc_o ha.1]; exact (hF a (fun c => ha2 (List.mem_cons_of_mem _ c))).1
    · have e1 : u.1 1 = w.1 1 := (hF 1 (by decide)).1
      have c : ¬ u.1 1 4 ≤ nI k + 1 := by rw [e1, h.2.1, nI_1]; exact nI_ge (by omega) (by omega)
      have hck : (nI k).toNatClampNeg = k := nI_clamp (by omega)
      have hck1 : (nI (k + 1)).toNatClampNeg = k + 1 := nI_clamp (by omega)
      obtain ⟨f, fl, w', hev, hp⟩ := ih (by omega) (sx_u (sx_u (sx_u u.1 2 k (u.1 2 (k + 1))) 3 k (u.1 3 (k + 1))) 4 k (u.1 4 (k + 1)), u.2) (hF.trans (fun a ha => by
          simp only [List.mem_cons, List.not_mem_nil, or_false, not_or] at ha
          refine ⟨?_, rfl⟩
          show sx_u (sx_u (sx_u u.1 2 k (u.1 2 (k + 1))) 3 k (u.1 3 (k + 1))) 4 k (u.1 4 (k + 1)) a = u.1 a
          rw [sx_u_o ha.2.2, sx_u_o ha.2.1, sx_u_o ha.1])) (sg_mid_step (by decide) (by decide) (by decide) hlk (by omega) hm)
      refine ⟨f, fl, w', fun Q z => bHo_dismiss_2 (w1 := w) (fun x => absurd x c) (fun x => absurd x c) (fun _ => by rw [nI_1]; exact vp_in_nI (by omega) (by decide)) (fun _ => vp_in_nI (by omega) (by decide)) (fun _ => ?_), hp⟩
      rw [nI_1, hck, hck1]; exact hev Q z
  obtain ⟨f, fl, w', hev, hp⟩ := loop l (by omega) (Nat.le_refl _) w sg_fr.rfl' (sg_mid_0 h.2.2)
  exact ⟨f, fl, w', fun Q z => sx_met_of rfl rfl rfl rfl (bHo_dismiss_0 (hev Q z)), hp⟩
theorem spSb_leave {x : Int32} (h : sg_Co L b r w) : sx_x (d + 4) rSb_leave [.ref 0, .int x] w (fun f fl w' => f = sl_leave L x ∧ fl = 0 ∧ (sz_in x L.1 = false → w' = w) ∧ (sz_in x L.1 = true → sg_chg (sg_rm L x.toNatClampNeg) b r 0 [4, 7, 8, 9] w w')) := by
  have h7 := h.1.1.1
  have m1 := spHo_has (d := d + 3) (x := x) h.1.2.1 h7
  have y1 : ¬ sz_b true = 0 := by decide
  unfold sl_leave
  cases h1 : sz_in x L.1 with
  | false =>
    rw [h1] at m1
    exact ⟨-1, 0, w, fun Q z => sx_met_of rfl rfl rfl rfl (bSb_leave_0 (w2 := w) (w3 := w) m1 (fun c => absurd rfl c) (fun c => absurd rfl c) (fun c => absurd rfl c) (fun _ => z)), rfl, rfl, fun _ => rfl, fun c => absurd c Bool.false_ne_true⟩
  | true =>
    rw [h1] at m1
    rw [if_pos rfl]
    obtain ⟨l, hl, rfl⟩ := sz_in_of h1 (by omega)
    rw [nI_clamp (show l < 2 ^ 31 by omega)]
    obtain ⟨f, fl, w2, m3, rfl, rfl, p1, p2⟩ := spHo_dismiss (d := d + 2) h.1 hl
    obtain ⟨f, fl, w3, m4, rfl, rfl, q1, q2⟩ := spSt_refreshed (d := d) p1
    have hC3 : sg_C (sg_rm L l) w3 := p1.fr q2 (by decide) (by decide) (by decide) (by decide)
    have e1 : w3.1 1 = w2.1 1 := (q2 1 (by decide)).1
    have fr : sg_fr [1, 2, 3, 4, 12, 13, 14, 15] w w3 := (p2.2.2.2.2.mono (by decide)).trans (q2.mono (by decide))
    refine ⟨_, 0, w3, fun Q z => sx_met_of rfl rfl rfl rfl (bSb_leave_0 m1 (fun _ => m3) (fun _ => m4) (fun _ => ?_) (fun c => absurd c y1)), rfl, rfl, fun c => absurd c.symm Bool.false_ne_true, fun _ => ⟨⟨hC3, q1, ?_, h.2.2.2.1, fun i hi => ?_⟩, ?_, ?_, ?_, fun j hj => ?_, fr⟩⟩
    · have e4 : w3.1 1 4 = nI (L.1 - 1) := hC3.2.1
      rw [e4]; exact z
    · rw [e1, p2.2.2.2.1 5 (by decide)]; exact h.2.2.1
    · rw [(fr 5 (by decide)).1]; exact h.2.2.2.2 i hi
    · rw [e1]; exact p2.1
    · rw [e1]; exact p2.2.1
    · rw [e1]; exact p2.2.2.1
    · rw [e1]; exact p2.2.2.2.1 j hj
end
