/-! ===== work, both sides ===== -/
def sg_wk (L : sg_L) (l v : Nat) : sg_L := (L.1, L.2.1, L.2.2.1, sg_up L.2.2.2 l v)
theorem sg_wk_ok {L : sg_L} {l v : Nat} (h : sg_ok L) (hv : v < 256) : sg_ok (sg_wk L l v) := by
  refine ⟨h.1, fun i hi => ?_⟩
  obtain ⟨a1, a2, a3, a4⟩ := h.2 i hi
  refine ⟨a1, a2, a3, ?_⟩
  show sg_up L.2.2.2 l v i < 256
  by_cases e : i = l
  · rw [e, sg_up_s]; exact hv
  · rw [sg_up_o e]; exact a4
def sl_wok (L : sg_L) (x y : Int32) : Bool := sz_in x L.1 && sz_in y 256
def sl_work (L : sg_L) (x y : Int32) : Int32 := if sl_wok L x y then nI (L.2.2.2 x.toNatClampNeg) else -1
section
variable {d : Nat} {w : sx_W} {L : sg_L} {b : Nat} {t : Bool} {r : Nat → Nat}
theorem spMo_work {x y : Int32} (h : sg_M L w) : sx_x (d + 2) rMo_work [.ref 48, .int x, .int y] w (fun f fl w' => f = sl_work L x y ∧ fl = 0 ∧ (sl_wok L x y = false → w' = w) ∧ (sl_wok L x y = true → sg_M (sg_wk L x.toNatClampNeg y.toNatClampNeg) w' ∧ sg_fr [51] w w')) := by
  have h7 := h.1.1
  have m1 := spMo_isLodger (d := d) (x := x) h.2.1 h7
  have m2 : sx_de (d + 1) rMo_in [.long y.toInt64, .long (0 : Int64), .long (lN 255)] w (sz_b (sz_in y 256)) 0 w := spMo_in0 (n := 255) (by decide)
  have y1 : ¬ sz_b true = 0 := by decide
  unfold sl_work sl_wok
  cases h1 : sz_in x L.1 with
  | false =>
    rw [h1] at m1
    exact ⟨-1, 0, w, fun Q z => sx_met_of rfl rfl rfl rfl (bMo_work_0 (f2 := 0) m1 (fun _ => z) (fun c => absurd rfl c) (fun c => absurd rfl c) (fun c => absurd rfl c) (fun c => absurd rfl c)), rfl, rfl, fun _ => rfl, fun c => absurd c Bool.false_ne_true⟩
  | true =>
    rw [h1] at m1
    cases h2 : sz_in y 256 with
    | false =>
      rw [h2] at m2
      exact ⟨-1, 0, w, fun Q z => sx_met_of rfl rfl rfl rfl (bMo_work_0 m1 (fun c => absurd c y1) (fun _ => m2) (fun _ c => absurd rfl c) (fun _ c => absurd rfl c) (fun _ _ => z)), rfl, rfl, fun _ => rfl, fun c => absurd c Bool.false_ne_true⟩
    | true =>
      rw [h2] at m2
      obtain ⟨l, hl, rfl⟩ := sz_in_of h1 (by omega)
      obtain ⟨v, hv, rfl⟩ := sz_in_of h2 (by decide)
      have hcl : (nI l).toNatClampNeg = l := nI_clamp (by omega)
      rw [hcl, nI_clamp (show v < 2 ^ 31 by omega), if_pos (show (true && true) = true from rfl)]
      obtain ⟨a1, a2, a3⟩ := h.2.2 l hl
      refine ⟨_, 0, (sx_u w.1 51 l (nI v), w.2), fun Q z => sx_met_of rfl rfl rfl rfl (bMo_work_0 m1 (fun c => absurd c y1) (fun _ => m2) (fun _ _ => vp_in_nI (by omega) (by decide)) (fun _ _ => ?_) (fun _ c => absurd c y1)), rfl, rfl, fun c => absurd c.symm Bool.false_ne_true, fun _ => ⟨⟨sg_wk_ok h.1 hv, ?_, fun i hi => ?_⟩, fun a ha => ⟨sx_u_o (fun e => ha (by rw [e]; decide)), rfl⟩⟩⟩
      · rw [hcl, a3]; exact z
      · show sx_u w.1 51 l (nI v) 48 0 = _
        rw [sx_u_o (by decide)]; exact h.2.1
      · show sx_u w.1 51 l (nI v) 49 i = _ ∧ sx_u w.1 51 l (nI v) 50 i = _ ∧ sx_u w.1 51 l (nI v) 51 i = nI (sg_up L.2.2.2 l v i)
        obtain ⟨b1, b2, b3⟩ := h.2.2 i hi
        rw [sx_u_o (by decide), sx_u_o (by decide), sx_u_s]
        refine ⟨b1, b2, ?_⟩
        by_cases e : i = l
        · rw [if_pos e, e, sg_up_s]
        · rw [if_neg e, sg_up_o e]; exact b3
end
