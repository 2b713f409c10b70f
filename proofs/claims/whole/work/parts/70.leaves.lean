/-! ===== leave ===== -/
section
variable {d : Nat} {w : sx_W} {L : sg_L} {b : Nat} {t : Bool} {r : Nat → Nat}
theorem spMo_leave {x : Int32} (h : sg_M L w) : sx_x (d + 2) rMo_leave [.ref 48, .int x] w (fun f fl w' => f = sl_leave L x ∧ fl = 0 ∧ (sz_in x L.1 = false → w' = w) ∧ (sz_in x L.1 = true → sg_M (sg_rm L x.toNatClampNeg) w' ∧ w'.1 48 5 = 0 ∧ tp_Fm [0, 5] [49, 50, 51] w w')) := by
  have h7 := h.1.1
  have m1 := spMo_isLodger (d := d) (x := x) h.2.1 h7
  have y1 : ¬ sz_b true = 0 := by decide
  unfold sl_leave
  cases h1 : sz_in x L.1 with
  | false =>
    rw [h1] at m1
    exact ⟨-1, 0, w, fun Q z => sx_met_of rfl rfl rfl rfl (bMo_leave_0 m1 (fun c => absurd rfl c) (fun _ => z)), rfl, rfl, fun _ => rfl, fun c => absurd c Bool.false_ne_true⟩
  | true =>
    rw [h1] at m1
    rw [if_pos rfl]
    obtain ⟨l, hl, rfl⟩ := sz_in_of h1 (by omega)
    rw [nI_clamp (show l < 2 ^ 31 by omega)]
    have em : nI L.1 - 1 = nI (L.1 - 1) := by
      have := nI_pred (L.1 - 1)
      rw [show L.1 - 1 + 1 = L.1 by omega] at this; exact this
    have loop : ∀ k, k ≤ L.1 - 1 → l ≤ k → ∀ u, tp_Fm [0, 5] [49, 50, 51] w u → u.1 48 0 = nI L.1 → sg_mid 49 50 51 L l k u → sx_xe (d + 2) rMo_leave 12 [.ref 48, .null, .int (nI k)] u (fun f fl w' => f = nI (L.1 - 1) ∧ fl = 0 ∧ sg_M (sg_rm L l) w' ∧ w'.1 48 5 = 0 ∧ tp_Fm [0, 5] [49, 50, 51] w w') := by
      refine sx_for (L.1 - 1) (fun _ u hF h0 hm => ?_) (fun k hk ih hlk u hF h0 hm => ?_)
      · have c : u.1 48 0 - 1 ≤ nI (L.1 - 1) := by rw [h0, em]; exact nI_le (Nat.le_refl _) (by omega)
        refine ⟨nI (L.1 - 1), 0, (sx_u (sx_u u.1 48 0 (u.1 48 0 - 1)) 48 5 0, u.2), fun Q z => bMo_leave_12 (fun _ => ?_) (fun x => absurd c x) (fun x => absurd c x) (fun x => absurd c x), rfl, rfl, ⟨sg_rm_ok h.1, ?_, fun i hi => ?_⟩, ?_, hF.trans (tp_Fm.trans (tp_Fm.u (i := 0) (v := u.1 48 0 - 1) (by decide)) (tp_Fm.u (w := (sx_u u.1 48 0 (u.1 48 0 - 1), u.2)) (i := 5) (v := 0) (by decide)))⟩
        · show Q (u.1 48 0 - 1) 0 _
          rw [h0, em] at *
          exact z
        · show sx_u (sx_u u.1 48 0 (u.1 48 0 - 1)) 48 5 0 48 0 = nI (L.1 - 1)
          rw [sx_u_s, if_neg (by decide), sx_u_s, if_pos rfl, h0, em]
        · have hi : i < L.1 - 1 := hi
          have := hm i (by omega)
          rw [sg_mid_end h7 hi] at this
          show sx_u (sx_u u.1 48 0 (u.1 48 0 - 1)) 48 5 0 49 i = _ ∧ sx_u (sx_u u.1 48 0 (u.1 48 0 - 1)) 48 5 0 50 i = _ ∧ sx_u (sx_u u.1 48 0 (u.1 48 0 - 1)) 48 5 0 51 i = _
          rw [sx_u_o (show 49 ≠ 48 by decide), sx_u_o (show 49 ≠ 48 by decide), sx_u_o (show 50 ≠ 48 by decide), sx_u_o (show 50 ≠ 48 by decide), sx_u_o (show 51 ≠ 48 by decide), sx_u_o (show 51 ≠ 48 by decide)]
          exact this
        · show sx_u (sx_u u.1 48 0 (u.1 48 0 - 1)) 48 5 0 48 5 = 0
          rw [sx_u_s, if_pos rfl]
      · have c : ¬ u.1 48 0 - 1 ≤ nI k := by rw [h0, em]; exact nI_ge hk (by omega)
        have hck : (nI k).toNatClampNeg = k := nI_clamp (by omega)
        have hck1 : (nI (k + 1)).toNatClampNeg = k + 1 := nI_clamp (by omega)
        obtain ⟨f, fl, w', hev, hp⟩ := ih (by omega) (sx_u (sx_u (sx_u u.1 49 k (u.1 49 (k + 1))) 50 k (u.1 50 (k + 1))) 51 k (u.1 51 (k + 1)), u.2) (hF.trans (tp_Fm.trans (tp_Fm.c (c := 49) (i := k) (v := u.1 49 (k + 1)) (by decide) (by decide)) (tp_Fm.trans (tp_Fm.c (w := (sx_u u.1 49 k (u.1 49 (k + 1)), u.2)) (c := 50) (i := k) (v := u.1 50 (k + 1)) (by decide) (by decide)) (tp_Fm.c (w := (sx_u (sx_u u.1 49 k (u.1 49 (k + 1))) 50 k (u.1 50 (k + 1)), u.2)) (c := 51) (i := k) (v := u.1 51 (k + 1)) (by decide) (by decide))))) (by
          show sx_u (sx_u (sx_u u.1 49 k (u.1 49 (k + 1))) 50 k (u.1 50 (k + 1))) 51 k (u.1 51 (k + 1)) 48 0 = _
          rw [sx_u_o (by decide), sx_u_o (by decide), sx_u_o (by decide)]; exact h0) (sg_mid_step (by decide) (by decide) (by decide) hlk (by omega) hm)
        refine ⟨f, fl, w', fun Q z => bMo_leave_12 (fun x => absurd x c) (fun _ => by rw [nI_1]; exact vp_in_nI (by omega) (by decide)) (fun _ => vp_in_nI (by omega) (by decide)) (fun _ => ?_), hp⟩
        rw [nI_1, hck, hck1]; exact hev Q z
    obtain ⟨f, fl, w', hev, q1, q2, q3⟩ := loop l (by omega) (Nat.le_refl _) w ⟨sg_fr.rfl', fun _ _ => rfl⟩ h.2.1 (sg_mid_0 h.2.2)
    exact ⟨f, fl, w', fun Q z => sx_met_of rfl rfl rfl rfl (bMo_leave_0 m1 (fun _ => hev Q z) (fun c => absurd c y1)), q1, q2, fun c => absurd c.symm Bool.false_ne_true, fun _ => q3⟩
end
