/-! ===== the class's Night: settle ===== -/
def na_bI (x : Nat) : Int32 := if x < 7 then nI x else (-1 : Int32)
theorem na_bI_m1 {x : Nat} : (na_bI x = (-1 : Int32)) ↔ ¬ x < 7 := by
  unfold na_bI
  by_cases h : x < 7
  · rw [if_pos h]
    have h3 : ∀ k, k < 7 → ¬ nI k = (-1 : Int32) := by decide +kernel
    exact ⟨fun e => absurd e (h3 x h), fun e => absurd h e⟩
  · rw [if_neg h]; exact ⟨fun _ => h, fun _ => rfl⟩
def na_TB (L : sg_L) (r : Nat → Nat) (p : Nat) (w : sx_W) : Prop := ∀ l, l < L.1 → ∀ q, q < p → w.1 28 (8 * l + q) = na_bI (na_B L r (q + 1) l)
def na_DN (D : List (Nat × Nat)) (w : sx_W) : Prop := w.1 27 4 = nI D.length ∧ ∀ i l x, D[i]? = some (l, x) → w.1 29 i = nI l ∧ w.1 30 i = nI x
def na_NS (L : sg_L) (r : Nat → Nat) (w : sx_W) : Prop := na_TB L r 8 w ∧ na_DN (na_D L r 8) w
section
variable {d : Nat} {w : sx_W} {L : sg_L} {b : Nat} {r : Nat → Nat}
theorem spNi_sleepsIn {l p : Nat} (h : sg_Co L b r w) (hl : l < L.1) (hp : p < 8) : sx_de (d + 1) rNi_sleepsIn [.ref 27, .int (nI l), .int (nI p)] w (sz_b (na_as L r l p)) 0 w := by
  intro Q z
  have h7 := h.1.1.1
  have hc : (nI l).toNatClampNeg = l := nI_clamp (by omega)
  have hr := h.2.2.2.2 l (by omega)
  have hs := spHo_sleepSet (d := d) h.1 hl hr.2
  rw [← hr.1] at hs
  exact sx_met_of rfl rfl rfl rfl (bNi_sleepsIn_0 (vp_in_nI (by omega) (by decide)) (by rw [hc]; exact hs) (spSb_holds (by have := sg_sl_lt L l (r l); omega) (by omega)) z (sz_b01 _))
theorem spNi_stripBeds : sx_x d rNi_stripBeds [.ref 27] w (fun f fl w' => f = 0 ∧ fl = 0 ∧ (∀ i, i < 7 → w'.1 31 i = -1) ∧ sg_fr [31] w w') := by
  have loop : ∀ i, i ≤ 7 → ∀ u, sg_fr [31] w u → (∀ j, j < i → u.1 31 j = -1) → sx_xe d rNi_stripBeds 2 [.ref 27, .int (nI i)] u (fun f fl w' => f = 0 ∧ fl = 0 ∧ (∀ i, i < 7 → w'.1 31 i = -1) ∧ sg_fr [31] w w') := by
    refine sx_for 7 (fun u hf ha => ?_) (fun i hi ih u hf ha => ?_)
    · exact ⟨0, 0, u, fun Q z => bNi_stripBeds_2 (fun _ => z) (fun c => absurd (by decide) c) (fun c => absurd (by decide) c), rfl, rfl, ha, hf⟩
    · have hc : (nI i).toNatClampNeg = i := nI_clamp (by omega)
      obtain ⟨f, fl, w', hev, hp⟩ := ih (sx_u u.1 31 i (-1), u.2) (hf.trans (fun a ha => ⟨sx_u_o (fun e => ha (by rw [e]; decide)), rfl⟩)) (fun j hj => by
        show sx_u u.1 31 i (-1) 31 j = -1
        rw [sx_u_s]
        by_cases e : j = i
        · rw [if_pos e]
        · rw [if_neg e]; exact ha j (by omega))
      refine ⟨f, fl, w', fun Q z => bNi_stripBeds_2 (fun c => absurd c (nI_ge (b := 7) hi (by omega))) (fun _ => vp_in_nI hi (by decide)) (fun _ => ?_), hp⟩
      rw [hc, nI_1]; exact hev Q z
  obtain ⟨f, fl, w', hev, hp⟩ := loop 0 (by omega) w sg_fr.rfl' (fun j hj => by omega)
  exact ⟨f, fl, w', fun Q z => sx_met_of rfl rfl rfl rfl (bNi_stripBeds_0 (hev Q z)), hp⟩
/-- a part's beds as they are kept -/
def na_K (L : sg_L) (r : Nat → Nat) (p m : Nat) (w : sx_W) : Prop := ∀ l, l < m → w.1 28 (8 * l + p) = na_bI ((na_st L r (na_B L r p) p 0).1 l)
theorem spNi_keepBeds {p : Nat} (h : sg_Co L b r w) (hcap : ∀ p, p < 8 → fb_ct (fun l => na_as L r l p) L.1 ≤ 7) (hp : p < 8) (hT : na_TB L r p w) : sx_x (d + 2) rNi_keepBeds [.ref 27, .int (nI p)] w (fun f fl w' => f = nI (na_oc L r (na_B L r p) p L.1) ∧ fl = 0 ∧ na_TB L r p w' ∧ na_K L r p L.1 w' ∧ sg_fr [28] w w') := by
  have h7 := h.1.1.1
  have loop : ∀ l, l ≤ L.1 → ∀ u, sg_fr [28] w u → na_TB L r p u → na_K L r p l u → sx_xe (d + 2) rNi_keepBeds 4 [.ref 27, .int (nI p), .int (nI (na_oc L r (na_B L r p) p l)), .int (nI l), .null, .null] u (fun f fl w' => f = nI (na_oc L r (na_B L r p) p L.1) ∧ fl = 0 ∧ na_TB L r p w' ∧ na_K L r p L.1 w' ∧ sg_fr [28] w w') := by
    refine sx_for L.1 (fun u hf hTu hKu => ?_) (fun l hl ih u hf hTu hKu => ?_)
    · have hCo := h.fr hf (by decide)
      have nc : ¬ ¬ u.1 1 4 ≤ nI L.1 := fun c => c (by rw [hCo.1.2.1]; exact nI_le (Nat.le_refl _) (by omega))
      exact ⟨_, 0, u, fun Q z => bNi_keepBeds_4 (f1 := 0) (f2 := 0) (fun _ => z) (fun c => absurd c nc) (fun c => absurd c nc) (fun c => absurd c nc) (fun c => absurd c nc) (fun c => absurd c nc) (fun c => absurd c nc) (fun c => absurd c nc) (fun c => absurd c nc) (fun c => absurd c nc) (fun c => absurd c nc) (fun c => absurd c nc) (fun c => absurd c nc) (fun c => absurd c nc) (fun c => absurd c nc) (fun c => absurd c nc), rfl, rfl, hTu, hKu, hf⟩
    · have hCo := h.fr hf (by decide)
      have nn : ¬ u.1 1 4 ≤ nI l := by rw [hCo.1.2.1]; exact nI_ge hl (by omega)
      obtain ⟨e1, e2, e3⟩ := sz_at (show l < 7 by omega) hp
      have hsl := spNi_sleepsIn (d := d) hCo hl hp
      have upds : ∀ v : Int32, upd (u.1 28) (8 * l + p) v (8 * l + p) = v := fun v => by simp [upd]
      -- the next world, whatever is put
      have nxt : ∀ v : Int32, v = na_bI ((na_st L r (na_B L r p) p 0).1 l) → sx_xe (d + 2) rNi_keepBeds 4 [.ref 27, .int (nI p), .int (nI (na_oc L r (na_B L r p) p (l + 1))), .int (nI (l + 1)), .null, .null] (sx_u u.1 28 (8 * l + p) v, u.2) (fun f fl w' => f = nI (na_oc L r (na_B L r p) p L.1) ∧ fl = 0 ∧ na_TB L r p w' ∧ na_K L r p L.1 w' ∧ sg_fr [28] w w') := by
        intro v hv
        refine ih _ (hf.trans (fun a ha => ⟨sx_u_o (fun e => ha (by rw [e]; decide)), rfl⟩)) (fun j hj q hq => ?_) (fun j hj => ?_)
        · show sx_u u.1 28 (8 * l + p) v 28 (8 * j + q) = _
          rw [sx_u_s, if_neg (by omega)]; exact hTu j hj q hq
        · show sx_u u.1 28 (8 * l + p) v 28 (8 * j + p) = _
          rw [sx_u_s]
          by_cases e : j = l
          · rw [if_pos (by omega), hv, e]
          · rw [if_neg (by omega)]; exact hKu j (by omega)
      have kp0 : na_kp L r l p = false → sx_xe (d + 2) rNi_keepBeds 4 [.ref 27, .int (nI p), .int (nI (na_oc L r (na_B L r p) p l) ||| 0), .int (nI l + 1), .null, .null] (sx_u u.1 28 (8 * l + p) (-1), u.2) (fun f fl w' => f = nI (na_oc L r (na_B L r p) p L.1) ∧ fl = 0 ∧ na_TB L r p w' ∧ na_K L r p L.1 w' ∧ sg_fr [28] w w') := fun hk => by
        have := nxt (-1) (by simp only [na_st, hk]; rfl)
        rw [na_oc, hk, if_neg Bool.false_ne_true] at this
        rw [show nI (na_oc L r (na_B L r p) p l) ||| (0 : Int32) = nI (na_oc L r (na_B L r p) p l ||| 0) from fa_or _ 0, nI_1]
        exact this
      by_cases hp0 : p = 0
      · subst hp0
        have hk : na_kp L r l 0 = false := by simp [na_kp]
        have yz : nI 0 = 0 := rfl
        obtain ⟨f, fl, w', hev, hp2⟩ := kp0 hk
        cases has : na_as L r l 0 with
        | false =>
          rw [has] at hsl
          refine ⟨f, fl, w', fun Q z => bNi_keepBeds_4 (f1 := 0) (fun c => absurd c nn) (fun _ c => absurd yz c) (fun _ c => absurd yz c) (fun _ c => absurd yz c) (fun _ c => absurd yz c) (fun _ c => absurd yz c) (fun _ c => absurd yz c) (fun _ c => absurd yz c) (fun _ c => absurd yz c) (fun _ _ => hsl) (fun _ _ _ => by rw [e1]; exact e3) (fun _ _ _ c => absurd (by rw [e1, e2]; exact upds _) c) (fun _ _ _ _ => ?_) (fun _ _ c => absurd rfl c) (fun _ _ c => absurd rfl c) (fun _ _ c => absurd rfl c), hp2⟩
          rw [e1, e2]; exact hev Q z
        | true =>
          rw [has] at hsl
          refine ⟨f, fl, w', fun Q z => bNi_keepBeds_4 (f1 := 0) (fun c => absurd c nn) (fun _ c => absurd yz c) (fun _ c => absurd yz c) (fun _ c => absurd yz c) (fun _ c => absurd yz c) (fun _ c => absurd yz c) (fun _ c => absurd yz c) (fun _ c => absurd yz c) (fun _ c => absurd yz c) (fun _ _ => hsl) (fun _ _ c => absurd c (by decide)) (fun _ _ c => absurd c (by decide)) (fun _ _ c => absurd c (by decide)) (fun _ _ _ => by rw [e1]; exact e3) (fun _ _ _ c => absurd (by rw [e1, e2]; exact upds _) c) (fun _ _ _ _ => ?_), hp2⟩
          rw [e1, e2]; exact hev Q z
      · have nz : ¬ nI p = 0 := nI_ne0 (by omega) (by omega)
        obtain ⟨q, rfl⟩ : ∃ q, p = q + 1 := ⟨p - 1, by omega⟩
        have em : nI (8 * l + (q + 1)) - 1 = nI (8 * l + q) := nI_pred (8 * l + q)
        have emc : (nI (8 * l + q)).toNatClampNeg = 8 * l + q := nI_clamp (by omega)
        have hah : u.1 28 (8 * l + q) = na_bI (na_B L r (q + 1) l) := hTu l hl q (by omega)
        have vo : vp_in (nI (8 * l + q)) 56 := vp_in_nI (by omega) (by decide)
        cases has : na_as L r l (q + 1) with
        | false =>
          rw [has] at hsl
          have hk : na_kp L r l (q + 1) = false := by simp [na_kp, has]
          obtain ⟨f, fl, w', hev, hp2⟩ := kp0 hk
          refine ⟨f, fl, w', fun Q z => bNi_keepBeds_4 (f2 := 0) (fun c => absurd c nn) (fun _ _ => by rw [e1, em]; exact vo) (fun _ _ => hsl) (fun _ _ _ => by rw [e1]; exact e3) (fun _ _ _ c => absurd (by rw [e1, e2]; exact upds _) c) (fun _ _ _ _ => ?_) (fun _ _ c => absurd rfl c) (fun _ _ c => absurd rfl c) (fun _ _ c => absurd rfl c) (fun _ c => absurd c nz) (fun _ c => absurd c nz) (fun _ c => absurd c nz) (fun _ c => absurd c nz) (fun _ c => absurd c nz) (fun _ c => absurd c nz) (fun _ c => absurd c nz), hp2⟩
          rw [e1, e2]; exact hev Q z
        | true =>
          rw [has] at hsl
          have hok := na_B_ok hcap q (by omega)
          cases has2 : na_as L r l q with
          | false =>
            have hk : na_kp L r l (q + 1) = false := by simp [na_kp, has2]
            have h9 : na_B L r (q + 1) l = 9 := hok.2.1 l hl has2
            obtain ⟨f, fl, w', hev, hp2⟩ := kp0 hk
            have hm1 : u.1 28 (8 * l + q) = (-1 : Int32) := by rw [hah, h9]; rfl
            refine ⟨f, fl, w', fun Q z => bNi_keepBeds_4 (f2 := 0) (fun c => absurd c nn) (fun _ _ => by rw [e1, em]; exact vo) (fun _ _ => hsl) (fun _ _ c => absurd c (by decide)) (fun _ _ c => absurd c (by decide)) (fun _ _ c => absurd c (by decide)) (fun _ _ _ => by rw [e1]; exact e3) (fun _ _ _ c => absurd (by rw [e1, e2, em, emc, upds]; exact hm1) c) (fun _ _ _ _ => ?_) (fun _ c => absurd c nz) (fun _ c => absurd c nz) (fun _ c => absurd c nz) (fun _ c => absurd c nz) (fun _ c => absurd c nz) (fun _ c => absurd c nz) (fun _ c => absurd c nz), hp2⟩
            rw [e1, e2, em, emc, hm1]; exact hev Q z
          | true =>
            have hk : na_kp L r l (q + 1) = true := by simp [na_kp, has, has2]
            have hlt : na_B L r (q + 1) l < 7 := hok.1 l hl has2
            have hv : u.1 28 (8 * l + q) = nI (na_B L r (q + 1) l) := by rw [hah, na_bI, if_pos hlt]
            have hne : ¬ nI (na_B L r (q + 1) l) = (-1 : Int32) := fun e => (na_bI_m1.mp (by rw [na_bI, if_pos hlt]; exact e)) hlt
            have := nxt (nI (na_B L r (q + 1) l)) (by simp only [na_st, hk, if_true]; rw [na_bI, if_pos hlt])
            rw [na_oc, hk, if_pos rfl] at this
            obtain ⟨f, fl, w', hev, hp2⟩ := this
            refine ⟨f, fl, w', fun Q z => bNi_keepBeds_4 (f2 := 0) (fun c => absurd c nn) (fun _ _ => by rw [e1, em]; exact vo) (fun _ _ => hsl) (fun _ _ c => absurd c (by decide)) (fun _ _ c => absurd c (by decide)) (fun _ _ c => absurd c (by decide)) (fun _ _ _ => by rw [e1]; exact e3) (fun _ _ _ _ => ?_) (fun _ _ _ c => absurd (by rw [e1, e2, em, emc, upds, hv] at c; exact c) hne) (fun _ c => absurd c nz) (fun _ c => absurd c nz) (fun _ c => absurd c nz) (fun _ c => absurd c nz) (fun _ c => absurd c nz) (fun _ c => absurd c nz) (fun _ c => absurd c nz), hp2⟩
            rw [e1, e2, em, emc, upds, hv, sz_one _ (by omega), fa_or, nI_1]
            exact hev Q z
  obtain ⟨f, fl, w', hev, hp2⟩ := loop 0 (Nat.zero_le _) w sg_fr.rfl' hT (fun l hl => by omega)
  exact ⟨f, fl, w', fun Q z => sx_met_of rfl rfl rfl rfl (bNi_keepBeds_0 (hev Q z)), hp2⟩
theorem na_DN_push {D : List (Nat × Nat)} {u : sx_W} {l x p : Nat} (h : na_DN D u) (hlen : D.length < 56) : na_DN (D ++ [(l, x)]) (sx_u (sx_u (sx_u (sx_u u.1 28 p (nI x)) 29 D.length (nI l)) 30 D.length (nI x)) 27 4 (nI D.length + 1), u.2) := by
  refine ⟨?_, fun i j y hi => ?_⟩
  · show sx_u (sx_u (sx_u (sx_u u.1 28 p (nI x)) 29 D.length (nI l)) 30 D.length (nI x)) 27 4 (nI D.length + 1) 27 4 = _
    rw [sx_u_s, if_pos rfl, nI_1, List.length_append]; rfl
  · show sx_u (sx_u (sx_u (sx_u u.1 28 p (nI x)) 29 D.length (nI l)) 30 D.length (nI x)) 27 4 (nI D.length + 1) 29 i = _ ∧ sx_u (sx_u (sx_u (sx_u u.1 28 p (nI x)) 29 D.length (nI l)) 30 D.length (nI x)) 27 4 (nI D.length + 1) 30 i = _
    rw [sx_u_o (by decide), sx_u_o (by decide), sx_u_s, sx_u_o (by decide), sx_u_o (by decide), sx_u_s, sx_u_o (by decide), sx_u_o (by decide)]
    by_cases e : i = D.length
    · rw [if_pos e, if_pos e]
      rw [e, List.getElem?_append_right (Nat.le_refl _), Nat.sub_self] at hi
      cases hi
      exact ⟨rfl, rfl⟩
    · rw [if_neg e, if_neg e]
      have hlt : i < D.length := by
        have := (List.getElem?_eq_some_iff.mp hi).1
        rw [List.length_append] at this
        simp at this
        omega
      rw [List.getElem?_append_left hlt] at hi
      exact h.2 i j y hi
theorem spNi_layDown {p : Nat} (h : sg_Co L b r w) (hcap : ∀ p, p < 8 → fb_ct (fun l => na_as L r l p) L.1 ≤ 7) (hp : p < 8) (hT : na_TB L r p w) (hK : na_K L r p L.1 w) (hD : na_DN (na_D L r p) w) : sx_x (d + 2) rNi_layDown [.ref 27, .int (nI p), .int (nI (na_oc L r (na_B L r p) p L.1))] w (fun f fl w' => f = 0 ∧ fl = 0 ∧ na_TB L r (p + 1) w' ∧ na_DN (na_D L r (p + 1)) w' ∧ (∀ j, j ≠ 4 → w'.1 27 j = w.1 27 j) ∧ sg_fr [27, 28, 29, 30] w w') := by
  have h7 := h.1.1.1
  have hprev : na_ok L r (p - 1) (na_B L r p) ∨ p = 0 := by
    cases p with
    | zero => exact Or.inr rfl
    | succ q => exact Or.inl (na_B_ok hcap q (by omega))
  have hDlen := na_D_len (L := L) (ρ := r) h7 p
  have loop : ∀ l, l ≤ L.1 → ∀ (u : sx_W) (bp : Nat), sg_fr [27, 28, 29, 30] w u → (∀ j, j ≠ 4 → u.1 27 j = w.1 27 j) → na_TB L r p u → (∀ j, j < L.1 → u.1 28 (8 * j + p) = na_bI ((na_st L r (na_B L r p) p l).1 j)) → na_DN (na_D L r p ++ na_dl L r p l) u → bp ≤ 6 → (∀ i, i < bp → (na_st L r (na_B L r p) p l).2.testBit i = true) → (na_st L r (na_B L r p) p l).2 < 2 ^ 10 →
      sx_xe (d + 2) rNi_layDown 5 [.ref 27, .int (nI p), .int (nI (na_st L r (na_B L r p) p l).2), .int (nI bp), .int (nI l), .null] u (fun f fl w' => f = 0 ∧ fl = 0 ∧ na_TB L r (p + 1) w' ∧ na_DN (na_D L r (p + 1)) w' ∧ (∀ j, j ≠ 4 → w'.1 27 j = w.1 27 j) ∧ sg_fr [27, 28, 29, 30] w w') := by
    refine sx_for L.1 (fun u bp hf h27 hTu hBu hDu _ _ _ => ?_) (fun l hl ih u bp hf h27 hTu hBu hDu hbp hset hoc => ?_)
    · have hCo := h.fr hf (by decide)
      have nc : ¬ ¬ u.1 1 4 ≤ nI L.1 := fun c => c (by rw [hCo.1.2.1]; exact nI_le (Nat.le_refl _) (by omega))
      refine ⟨0, 0, u, fun Q z => bNi_layDown_5 (f1 := 0) (fun _ => z) (fun c => absurd c nc) (fun c => absurd c nc) (fun c => absurd c nc) (fun c => absurd c nc) (fun c => absurd c nc), rfl, rfl, fun j hj q hq => ?_, hDu, h27, hf⟩
      by_cases e : q = p
      · rw [e]; exact hBu j hj
      · exact hTu j hj q (by omega)
    · have hCo := h.fr hf (by decide)
      have nn : ¬ u.1 1 4 ≤ nI l := by rw [hCo.1.2.1]; exact nI_ge hl (by omega)
      obtain ⟨e1, e2, e3⟩ := sz_at (show l < 7 by omega) hp
      have hsl := spNi_sleepsIn (d := d) hCo hl hp
      obtain ⟨i1, i2, i3, i4⟩ := na_st_ok hprev (hcap p hp) l (by omega)
      cases hd : na_ld L r l p with
      | false =>
        have es : na_st L r (na_B L r p) p (l + 1) = na_st L r (na_B L r p) p l := by rw [na_st, hd, if_neg Bool.false_ne_true]
        have ed : na_dl L r p (l + 1) = na_dl L r p l := by rw [na_dl, hd, if_neg Bool.false_ne_true, List.append_nil]
        have := ih u bp hf h27 hTu (by rw [es]; exact hBu) (by rw [ed]; exact hDu) hbp (by rw [es]; exact hset) (by rw [es]; exact hoc)
        rw [es] at this
        obtain ⟨f, fl, w', hev, hp2⟩ := this
        by_cases hk : na_kp L r l p = true
        · have hb := (i1 l hl (Or.inl hk)).1
          have ne : ¬ u.1 28 (nI l * 8 + nI p).toNatClampNeg = (-1 : Int32) := by
            rw [e1, e2, hBu l hl]; exact fun e => na_bI_m1.mp e hb
          refine ⟨f, fl, w', fun Q z => bNi_layDown_5 (f1 := 0) (fun c => absurd c nn) (fun _ => by rw [e1]; exact e3) (fun _ _ => ?_) (fun _ c => absurd c ne) (fun _ c => absurd c ne) (fun _ c => absurd c ne), hp2⟩
          rw [nI_1]; exact hev Q z
        · have hk2 : na_kp L r l p = false := by simpa using hk
          have has : na_as L r l p = false := by rw [na_split, hk2, hd]; rfl
          rw [has] at hsl
          have h9 := i2 l hl (fun hx => by
            rcases hx with hx | ⟨hx, -⟩
            · exact hk hx
            · omega)
          have ye : u.1 28 (nI l * 8 + nI p).toNatClampNeg = (-1 : Int32) := by rw [e1, e2, hBu l hl, h9]; rfl
          refine ⟨f, fl, w', fun Q z => bNi_layDown_5 (fun c => absurd c nn) (fun _ => by rw [e1]; exact e3) (fun _ c => absurd ye c) (fun _ _ => hsl) (fun _ _ c => absurd rfl c) (fun _ _ _ => ?_), hp2⟩
          rw [nI_1]; exact hev Q z
      | true =>
        have hk2 : na_kp L r l p = false := by
          cases e : na_kp L r l p with
          | false => rfl
          | true => rw [na_apart e] at hd; cases hd
        have has : na_as L r l p = true := by rw [na_split, hd, Bool.or_true]
        rw [has] at hsl
        have h9 := i2 l hl (fun hx => by
          rcases hx with hx | ⟨hx, -⟩
          · rw [hk2] at hx; cases hx
          · omega)
        have ye : u.1 28 (nI l * 8 + nI p).toNatClampNeg = (-1 : Int32) := by rw [e1, e2, hBu l hl, h9]; rfl
        have tot : fb_ct (fun l => na_kp L r l p) L.1 + fb_ct (fun l => na_ld L r l p) L.1 ≤ 7 := by
          have e := fb_ct_or (p := fun l => na_kp L r l p) (q := fun l => na_ld L r l p) (n := L.1) (fun k _ h => by rw [na_apart h.1] at h; exact absurd h.2 Bool.false_ne_true)
          rw [← e]
          have e2 : (fun k => na_kp L r k p || na_ld L r k p) = fun l => na_as L r l p := funext fun l => (na_split L r l p).symm
          rw [e2]
          exact hcap p hp
        have hlt : fb_ct (fun l => na_ld L r l p) l + 1 ≤ fb_ct (fun l => na_ld L r l p) L.1 := by
          have := fb_ct_mono (fun l => na_ld L r l p) (show l + 1 ≤ L.1 by omega)
          rw [fb_ct_succ, hd, if_pos rfl] at this
          exact this
        obtain ⟨f1, f2⟩ := na_lf_free (oc := (na_st L r (na_B L r p) p l).2) (by omega)
        have es1 : (na_st L r (na_B L r p) p (l + 1)).1 = sg_up (na_st L r (na_B L r p) p l).1 l (na_lf (na_st L r (na_B L r p) p l).2) := by rw [na_st, hd, if_pos rfl]
        have es2 : (na_st L r (na_B L r p) p (l + 1)).2 = (na_st L r (na_B L r p) p l).2 ||| 2 ^ na_lf (na_st L r (na_B L r p) p l).2 := by rw [na_st, hd, if_pos rfl]
        have eB : na_B L r (p + 1) l = na_lf (na_st L r (na_B L r p) p l).2 := by
          have h1 := na_st_keep (L := L) (ρ := r) (prev := na_B L r p) (p := p) (m := l + 1) (l := l) (by omega) (L.1 - (l + 1))
          rw [show l + 1 + (L.1 - (l + 1)) = L.1 by omega, es1, sg_up_s] at h1
          exact h1
        have ed : na_dl L r p (l + 1) = na_dl L r p l ++ [(l, na_lf (na_st L r (na_B L r p) p l).2)] := by rw [na_dl, hd, if_pos rfl, eB]
        have hdlen : (na_D L r p ++ na_dl L r p l).length < 56 := by
          have := na_dl_len (L := L) (ρ := r) p l
          rw [List.length_append]
          omega
        generalize hocd : (na_st L r (na_B L r p) p l).2 = oc at *
        generalize hxd : na_lf oc = x at *
        -- the bed is found
        have found : ∀ Q : sx_Q, sx_ev (d + 2) rNi_layDown 5 [.ref 27, .int (nI p), .int (nI oc ||| ((1 : Int32) <<< (nI x &&& 31))), .int (nI x), .int (nI l + 1), .null] [] (sx_u (sx_u (sx_u (sx_u u.1 28 (nI l * 8 + nI p).toNatClampNeg (nI x)) 29 (u.1 27 4).toNatClampNeg (nI l)) 30 (u.1 27 4).toNatClampNeg (nI x)) 27 4 (u.1 27 4 + 1), u.2) Q → ∀ k, k ≤ x → bp ≤ k → sx_ev (d + 2) rNi_layDown 50 [.ref 27, .int (nI p), .int (nI oc), .int (nI k), .int (nI l), .int (nI l * 8 + nI p)] [] u Q := by
          intro Q hQ
          have v4 : vp_in (u.1 27 4) 56 := by rw [hDu.1]; exact vp_in_nI hdlen (by decide)
          have v5 : vp_in (nI l * 8 + nI p) 56 := by rw [e1]; exact e3
          refine sx_for x (fun _ => ?_) (fun k hk ih2 hbk => ?_)
          · by_cases h6 : x = 6
            · have c6 : (6 : Int32) ≤ nI x := by rw [h6]; decide
              exact bNi_layDown_50 (f1 := 0) (fun _ => v5) (fun _ => v4) (fun _ => hQ) (fun c => absurd c6 c) (fun c => absurd c6 c) (fun c => absurd c6 c) (fun c => absurd c6 c) (fun c => absurd c6 c)
            · have c6 : ¬ (6 : Int32) ≤ nI x := nI_ge (b := 6) (by omega) (by omega)
              have hh := spSb_holds (d := d + 1) (w := u) (s := oc) (p := x) (by omega) (by omega)
              rw [f2] at hh
              exact bNi_layDown_50 (fun c => absurd c c6) (fun c => absurd c c6) (fun c => absurd c c6) (fun _ => hh) (fun _ _ => v5) (fun _ _ => v4) (fun _ _ => hQ) (fun _ c => absurd rfl c)
          · have c6 : ¬ (6 : Int32) ≤ nI k := nI_ge (b := 6) (by omega) (by omega)
            have hh := spSb_holds (d := d + 1) (w := u) (s := oc) (p := k) (by omega) (by omega)
            have hkb : oc.testBit k = true := by
              have := fa_first_no (fun b => !oc.testBit b) 7 k (by rw [show fa_first (fun b => !oc.testBit b) 7 = x from hxd]; exact hk)
              simpa using this
            rw [hkb] at hh
            refine bNi_layDown_50 (fun c => absurd c c6) (fun c => absurd c c6) (fun c => absurd c c6) (fun _ => hh) (fun _ c => absurd c (by decide)) (fun _ c => absurd c (by decide)) (fun _ c => absurd c (by decide)) (fun _ _ => ?_)
            rw [nI_1]; exact ih2 (by omega)
        have hbx : bp ≤ x := by
          rcases Nat.lt_or_ge x bp with c | c
          · rw [hset x c] at f2; cases f2
          · exact c
        have hc4 : (u.1 27 4).toNatClampNeg = (na_D L r p ++ na_dl L r p l).length := by rw [hDu.1]; exact nI_clamp (by omega)
        have hpush := na_DN_push (l := l) (x := x) (p := 8 * l + p) hDu hdlen
        have hx10 : oc ||| 2 ^ x < 2 ^ 10 := Nat.or_lt_two_pow hoc (Nat.pow_lt_pow_right (by decide) (by omega))
        obtain ⟨f, fl, w', hev, hp2⟩ := ih (sx_u (sx_u (sx_u (sx_u u.1 28 (8 * l + p) (nI x)) 29 (na_D L r p ++ na_dl L r p l).length (nI l)) 30 (na_D L r p ++ na_dl L r p l).length (nI x)) 27 4 (nI (na_D L r p ++ na_dl L r p l).length + 1), u.2) x (hf.trans (fun a ha => by
            simp only [List.mem_cons, List.not_mem_nil, or_false, not_or] at ha
            refine ⟨?_, rfl⟩
            show sx_u (sx_u (sx_u (sx_u u.1 28 (8 * l + p) (nI x)) 29 (na_D L r p ++ na_dl L r p l).length (nI l)) 30 (na_D L r p ++ na_dl L r p l).length (nI x)) 27 4 (nI (na_D L r p ++ na_dl L r p l).length + 1) a = u.1 a
            rw [sx_u_o ha.1, sx_u_o ha.2.2.2, sx_u_o ha.2.2.1, sx_u_o ha.2.1])) (fun j hj => by
            show sx_u (sx_u (sx_u (sx_u u.1 28 (8 * l + p) (nI x)) 29 (na_D L r p ++ na_dl L r p l).length (nI l)) 30 (na_D L r p ++ na_dl L r p l).length (nI x)) 27 4 (nI (na_D L r p ++ na_dl L r p l).length + 1) 27 j = _
            rw [sx_u_s, if_neg hj, sx_u_o (by decide), sx_u_o (by decide), sx_u_o (by decide)]; exact h27 j hj) (fun j hj q hq => by
            show sx_u (sx_u (sx_u (sx_u u.1 28 (8 * l + p) (nI x)) 29 (na_D L r p ++ na_dl L r p l).length (nI l)) 30 (na_D L r p ++ na_dl L r p l).length (nI x)) 27 4 (nI (na_D L r p ++ na_dl L r p l).length + 1) 28 (8 * j + q) = _
            rw [sx_u_o (by decide), sx_u_o (by decide), sx_u_o (by decide), sx_u_s, if_neg (by omega)]; exact hTu j hj q hq) (fun j hj => by
            show sx_u (sx_u (sx_u (sx_u u.1 28 (8 * l + p) (nI x)) 29 (na_D L r p ++ na_dl L r p l).length (nI l)) 30 (na_D L r p ++ na_dl L r p l).length (nI x)) 27 4 (nI (na_D L r p ++ na_dl L r p l).length + 1) 28 (8 * j + p) = _
            rw [sx_u_o (by decide), sx_u_o (by decide), sx_u_o (by decide), sx_u_s, es1]
            by_cases e : j = l
            · rw [if_pos (by omega), e, sg_up_s, na_bI, if_pos f1]
            · rw [if_neg (by omega), sg_up_o e]; exact hBu j hj) (by rw [ed, ← List.append_assoc]; exact hpush) (by omega) (fun i hi => by
            rw [es2, Nat.testBit_or]
            have := fa_first_no (fun b => !oc.testBit b) 7 i (by rw [show fa_first (fun b => !oc.testBit b) 7 = x from hxd]; exact hi)
            have hb : oc.testBit i = true := by simpa using this
            rw [hb, Bool.true_or]) (by rw [es2]; exact hx10)
        rw [es2] at hev
        refine ⟨f, fl, w', fun Q z => bNi_layDown_5 (fun c => absurd c nn) (fun _ => by rw [e1]; exact e3) (fun _ c => absurd ye c) (fun _ _ => hsl) (fun _ _ _ => found Q ?_ bp hbx (Nat.le_refl _)) (fun _ _ c => absurd c (by decide)), hp2⟩
        rw [e1, e2, hc4, hDu.1, sz_one x (by omega), fa_or, nI_1]
        exact hev Q z
  have hoc0 : na_oc L r (na_B L r p) p L.1 < 2 ^ 10 := by
    have : ∀ m, m ≤ L.1 → na_oc L r (na_B L r p) p m < 2 ^ 10 := by
      intro m
      induction m with
      | zero => intro _; exact Nat.two_pow_pos _
      | succ m ih =>
        intro hm
        rw [na_oc]
        refine Nat.or_lt_two_pow (ih (by omega)) ?_
        split
        · rename_i hk
          refine Nat.pow_lt_pow_right (by decide) ?_
          have := (na_st_ok hprev (hcap p hp) 0 (by omega)).1 m (by omega) (Or.inl hk)
          have e : (na_st L r (na_B L r p) p 0).1 m = na_B L r p m := by simp only [na_st, hk, if_true]
          rw [e] at this
          omega
        · exact Nat.two_pow_pos _
    exact this L.1 (Nat.le_refl _)
  obtain ⟨f, fl, w', hev, hp2⟩ := loop 0 (Nat.zero_le _) w 0 sg_fr.rfl' (fun _ _ => rfl) hT hK (by show na_DN (na_D L r p ++ []) w; rw [List.append_nil]; exact hD) (by omega) (fun i hi => by omega) hoc0
  exact ⟨f, fl, w', fun Q z => sx_met_of rfl rfl rfl rfl (bNi_layDown_0 (hev Q z)), hp2⟩
theorem spNi_settle (h : sg_Co L b r w) (hcap : ∀ p, p < 8 → fb_ct (fun l => na_as L r l p) L.1 ≤ 7) (hk : w.1 27 5 = w.1 1 8 → na_NS L r w) : sx_x (d + 3) rNi_settle [.ref 27] w (fun f fl w' => f = 0 ∧ fl = 0 ∧ na_NS L r w' ∧ w'.1 27 5 = w.1 1 8 ∧ sg_fr [27, 28, 29, 30] w w') := by
  have h7 := h.1.1.1
  by_cases hc : w.1 27 5 = w.1 1 8
  · exact ⟨0, 0, w, fun Q z => sx_met_of rfl rfl rfl rfl (bNi_settle_0 (fun c => absurd hc c) (fun _ => z)), rfl, rfl, hk hc, hc, sg_fr.rfl'⟩
  · have loop : ∀ p, p ≤ 8 → ∀ u, sg_fr [27, 28, 29, 30] w u → na_TB L r p u → na_DN (na_D L r p) u → sx_xe (d + 3) rNi_settle 22 [.ref 27, .int (nI p), .null] u (fun f fl w' => f = 0 ∧ fl = 0 ∧ na_NS L r w' ∧ w'.1 27 5 = w.1 1 8 ∧ sg_fr [27, 28, 29, 30] w w') := by
      refine sx_for 8 (fun u hf hT hD => ?_) (fun p hp ih u hf hT hD => ?_)
      · refine ⟨0, 0, (sx_u u.1 27 5 (u.1 1 8), u.2), fun Q z => bNi_settle_22 (f1 := 0) (w1 := u) (w2 := u) (fun _ => z) (fun c => absurd (by decide) c) (fun c => absurd (by decide) c) (fun c => absurd (by decide) c), rfl, rfl, ⟨fun l hl q hq => ?_, ?_, fun i l x hi => ?_⟩, ?_, hf.trans (fun a ha => ⟨sx_u_o (fun e => ha (by rw [e]; decide)), rfl⟩)⟩
        · show sx_u u.1 27 5 (u.1 1 8) 28 (8 * l + q) = _
          rw [sx_u_o (by decide)]; exact hT l hl q hq
        · show sx_u u.1 27 5 (u.1 1 8) 27 4 = _
          rw [sx_u_s, if_neg (by decide)]; exact hD.1
        · show sx_u u.1 27 5 (u.1 1 8) 29 i = _ ∧ sx_u u.1 27 5 (u.1 1 8) 30 i = _
          rw [sx_u_o (by decide), sx_u_o (by decide)]; exact hD.2 i l x hi
        · show sx_u u.1 27 5 (u.1 1 8) 27 5 = _
          rw [sx_u_s, if_pos rfl, (hf 1 (by decide)).1]
      · have hCo := h.fr hf (by decide)
        obtain ⟨f1, fl1, w1, hde1, e1, e2, hT1, hK1, hf1⟩ := spNi_keepBeds (d := d) hCo hcap hp hT
        subst e1; subst e2
        have hCo1 := hCo.fr hf1 (by decide)
        obtain ⟨f2, fl2, w2, hde2, e1, e2, hT2, hD2, -, hf2⟩ := spNi_layDown (d := d) hCo1 hcap hp hT1 hK1 (by
          refine ⟨by rw [(hf1 27 (by decide)).1]; exact hD.1, fun i l x hi => ?_⟩
          rw [(hf1 29 (by decide)).1, (hf1 30 (by decide)).1]; exact hD.2 i l x hi)
        subst e1; subst e2
        obtain ⟨f, fl, w', hev, hp2⟩ := ih w2 ((hf.trans (hf1.mono (by decide))).trans hf2) hT2 hD2
        refine ⟨f, fl, w', fun Q z => bNi_settle_22 (fun c => absurd c (nI_ge (b := 8) hp (by omega))) (fun _ => hde1) (fun _ => hde2) (fun _ => ?_), hp2⟩
        rw [nI_1]; exact hev Q z
    obtain ⟨f, fl, w', hev, hp2⟩ := loop 0 (by omega) (sx_u w.1 27 4 0, w.2) (fun a ha => ⟨sx_u_o (fun e => ha (by rw [e]; decide)), rfl⟩) (fun l hl q hq => by omega) ⟨by show sx_u w.1 27 4 0 27 4 = _; rw [sx_u_s, if_pos rfl]; rfl, fun i l x hi => by cases hi⟩
    exact ⟨f, fl, w', fun Q z => sx_met_of rfl rfl rfl rfl (bNi_settle_0 (fun _ => hev Q z) (fun c => absurd c hc)), hp2⟩
end
