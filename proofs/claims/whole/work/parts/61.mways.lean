/-! ===== ways of the model ===== -/
section
variable {d : Nat} {w : sx_W} {L : sg_L} {b : Nat} {t : Bool} {r : Nat → Nat}
theorem spMo_ways (h : sg_Mo L b t r w) : sx_x (d + 3) rMo_ways [.ref 48] w (fun f fl w' => fl = 0 ∧ f = nI (min 9999 (sg_ways L b)) ∧ sg_fr [53] w w') := by
  have h7 := h.1.1.1
  obtain ⟨f, fl, w1, m1, rfl, p1, p2⟩ := spMo_goes (d := d) (bd := 9999) (o := 7) h (by decide) (by decide) (by decide)
  rw [sg_N_ways h7] at p2
  refine ⟨f, 0, w1, fun Q z => sx_met_of rfl rfl rfl rfl (bMo_ways_0 m1 z), rfl, ?_, p1⟩
  rcases p2 with ⟨c, e⟩ | ⟨c, e, -⟩
  · rw [e, Nat.min_eq_right (by omega)]
  · rw [e, Nat.min_eq_left c]
end
