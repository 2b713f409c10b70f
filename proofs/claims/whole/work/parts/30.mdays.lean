/-! ===== the model: linen and the illness ===== -/
theorem na_fold_off {k day : Int32} {x : Nat} : ∀ (D : List (Nat × Nat)) (S : na_S), (∀ e, e ∈ D → e.2 ≠ x) → (na_fold k day D S).1 x = S.1 x
  | [], _, _ => rfl
  | e :: D, S, h => by
    have h1 := na_fold_off (k := k) (day := day) (x := x) D (na_stp k day S e) (fun y hy => h y (List.mem_cons_of_mem _ hy))
    have h2 : (na_stp k day S e).1 x = S.1 x := sg_up_o (fun c => h e (List.mem_cons_self ..) c.symm)
    exact h1.trans h2
theorem na_fold_app (k day : Int32) (D E : List (Nat × Nat)) (S : na_S) : na_fold k day (D ++ E) S = na_fold k day E (na_fold k day D S) := by
  unfold na_fold; rw [List.foldl_append]
def na_lp (L : sg_L) (r : Nat → Nat) (p : Nat) (s : Nat → Nat) : Nat → Nat → Nat
  | 0 => s
  | m + 1 => if na_as L r m p then sg_up (na_lp L r p s m) (na_B L r (p + 1) m) m else na_lp L r p s m
def na_J (L : sg_L) (r : Nat → Nat) (p : Nat) (s : Nat → Nat) : Prop := ∀ l, l < L.1 → na_kp L r l p = true → s (na_B L r p l) = l
def na_RM (L : sg_L) (S : na_S) (w : sx_W) : Prop := (∀ i, i < 7 → w.1 56 i = na_bI (S.1 i)) ∧ ∀ l, l < L.1 → w.1 57 l = S.2.1 l
section
variable {d : Nat} {w : sx_W} {L : sg_L} {b : Nat} {r : Nat → Nat}
theorem na_dl_off (hcap : ∀ p, p < 8 → fb_ct (fun l => na_as L r l p) L.1 ≤ 7) {p l : Nat} (hp : p < 8) (hl : l < L.1) (ha : na_as L r l p = true) : ∀ e, e ∈ na_dl L r p l → e.2 ≠ na_B L r (p + 1) l := by
  rintro ⟨j, x⟩ he hx
  obtain ⟨h1, h2, h3⟩ := na_dl_mem he
  have haj : na_as L r j p = true := by rw [na_split, h2, Bool.or_true]
  have := (na_B_ok hcap p hp).2.2 j l (by omega) hl haj ha (by rw [← h3]; exact hx)
  omega
theorem na_lp_eq (hcap : ∀ p, p < 8 → fb_ct (fun l => na_as L r l p) L.1 ≤ 7) {p : Nat} {k day : Int32} {S : na_S} (hp : p < 8) (hJ : na_J L r p S.1) : ∀ m, m ≤ L.1 → na_lp L r p S.1 m = (na_fold k day (na_dl L r p m) S).1
  | 0, _ => rfl
  | m + 1, hm => by
    have ih := na_lp_eq hcap (k := k) (day := day) hp hJ m (by omega)
    rw [na_lp, na_dl, ih]
    cases hd : na_ld L r m p with
    | true =>
      have ha : na_as L r m p = true := by rw [na_split, hd, Bool.or_true]
      rw [ha, if_pos rfl, if_pos rfl, na_fold_snoc]
      rfl
    | false =>
      rw [if_neg Bool.false_ne_true, List.append_nil]
      cases ha : na_as L r m p with
      | false => rw [if_neg Bool.false_ne_true]
      | true =>
        rw [if_pos rfl]
        have hk : na_kp L r m p = true := by
          have := na_split L r m p
          rw [ha, hd, Bool.or_false] at this
          exact this.symm
        funext y
        by_cases e : y = na_B L r (p + 1) m
        · rw [e, sg_up_s, na_fold_off _ _ (na_dl_off hcap hp (by omega) ha), na_kept (by omega) hk, hJ m (by omega) hk]
        · rw [sg_up_o e]
theorem na_lp_at (hcap : ∀ p, p < 8 → fb_ct (fun l => na_as L r l p) L.1 ≤ 7) {p l : Nat} {s : Nat → Nat} (hp : p < 8) (ha : na_as L r l p = true) : ∀ m, m ≤ L.1 → l < m → na_lp L r p s m (na_B L r (p + 1) l) = l
  | m + 1, hm, hl => by
    rw [na_lp]
    cases hb : na_as L r m p with
    | true =>
      rw [if_pos rfl]
      by_cases e : l = m
      · rw [e, sg_up_s]
      · rw [sg_up_o (fun c => e ((na_B_ok hcap p hp).2.2 l m (by omega) (by omega) ha hb c))]
        exact na_lp_at hcap hp ha m (by omega) (by omega)
    | false =>
      rw [if_neg Bool.false_ne_true]
      have e : l ≠ m := fun e => by rw [e, hb] at ha; cases ha
      exact na_lp_at hcap hp ha m (by omega) (by omega)
theorem na_J_next (hcap : ∀ p, p < 8 → fb_ct (fun l => na_as L r l p) L.1 ≤ 7) {p : Nat} {k day : Int32} {S : na_S} (hp : p < 8) (hJ : na_J L r p S.1) : na_J L r (p + 1) (na_fold k day (na_dl L r p L.1) S).1 := by
  intro l hl hk
  have ha : na_as L r l p = true := by
    unfold na_kp at hk
    simp only [Bool.and_eq_true] at hk
    exact hk.2.2
  rw [← na_lp_eq hcap hp hJ L.1 (Nat.le_refl _)]
  exact na_lp_at hcap hp ha L.1 (Nat.le_refl _) hl
theorem na_TL.fr {p : Nat} {w' : sx_W} {cs : List Nat} (h : na_TL L r p w) (hf : sg_fr cs w w') (hc : 55 ∉ cs) : na_TL L r p w' := fun l hl q hq => by
  rw [(hf 55 hc).1]; exact h l hl q hq
theorem na_bI_neg {x : Nat} : na_bI x < 0 ↔ ¬ x < 7 := by
  unfold na_bI
  by_cases h : x < 7
  · rw [if_pos h]; exact ⟨fun c => absurd c (nI_pos (by omega)), fun c => absurd h c⟩
  · rw [if_neg h]; exact ⟨fun _ => h, fun _ => by decide⟩
theorem spMo_days {n : Nat} {k : Int32} {P : (Nat → Nat) × (Nat → Int32)} (h : sg_Mo L b true r w) (hcap : ∀ p, p < 8 → fb_ct (fun l => na_as L r l p) L.1 ≤ 7) (hT : na_TL L r 8 w) (hk6 : w.1 48 7 = k) (hd : ¬ nI n < 0) (hv : na_vS L.1 (P.1, P.2, 0)) (hR : na_RM L (P.1, P.2, 0) w) : sx_x (d + 3) rMo_days [.ref 48, .int (nI n)] w (fun f fl w' => f = (na_fold k (nI n) (na_D L r 8) (P.1, P.2, 0)).2.2 ∧ fl = 0 ∧ na_RM L ((na_day L r k n P).1, (na_day L r k n P).2, 0) w' ∧ sg_fr [56, 57] w w') := by
  have h7 := h.1.1.1
  have fr56 : ∀ {u : sx_W} {i : Nat} {v : Int32}, sg_fr [56, 57] w u → sg_fr [56, 57] w (sx_u u.1 56 i v, u.2) := fun hf => hf.trans (fun a ha => ⟨sx_u_o (fun e => ha (by rw [e]; decide)), rfl⟩)
  have fr57 : ∀ {u : sx_W} {i : Nat} {v : Int32}, sg_fr [56, 57] w u → sg_fr [56, 57] w (sx_u u.1 57 i v, u.2) := fun hf => hf.trans (fun a ha => ⟨sx_u_o (fun e => ha (by rw [e]; decide)), rfl⟩)
  have parts : ∀ p, p ≤ 8 → ∀ u, sg_fr [56, 57] w u → na_J L r p (na_fold k (nI n) (na_D L r p) (P.1, P.2, 0)).1 → na_RM L (na_fold k (nI n) (na_D L r p) (P.1, P.2, 0)) u → sx_xe (d + 3) rMo_days 4 [.ref 48, .int (nI n), .int (na_fold k (nI n) (na_D L r p) (P.1, P.2, 0)).2.2, .int (nI p), .null, .null, .null, .null] u (fun f fl w' => f = (na_fold k (nI n) (na_D L r 8) (P.1, P.2, 0)).2.2 ∧ fl = 0 ∧ na_RM L ((na_day L r k n P).1, (na_day L r k n P).2, 0) w' ∧ sg_fr [56, 57] w w') := by
    refine sx_for 8 (fun u hf hJ hu => ?_) (fun p hp ihp u0 hf0 hJ hu0 => ?_)
    · exact ⟨_, 0, u, fun Q z => bMo_days_4 (fun _ => z) (fun c => absurd (by decide) c), rfl, rfl, hu, hf⟩
    have hvp : na_vS L.1 (na_fold k (nI n) (na_D L r p) (P.1, P.2, 0)) := na_vS_fold hd _ _ (fun e he => (na_D_mem hcap (p := p) (by omega) (l := e.1) (x := e.2) he).1) hv
    rw [na_D, na_fold_app] at ihp
    generalize na_fold k (nI n) (na_D L r p) (P.1, P.2, 0) = S at *
    -- who slept last in a bed
    have last : ∀ l, l ≤ L.1 → ∀ u, sg_fr [56, 57] w u → (∀ i, i < 7 → u.1 56 i = na_bI (na_lp L r p S.1 l i)) → (∀ j, j < L.1 → u.1 57 j = (na_fold k (nI n) (na_dl L r p L.1) S).2.1 j) → sx_xe (d + 3) rMo_days 163 [.ref 48, .int (nI n), .int (na_fold k (nI n) (na_dl L r p L.1) S).2.2, .int (nI p), .int (nI l), .null, .null, .null] u (fun f fl w' => f = (na_fold k (nI n) (na_D L r 8) (P.1, P.2, 0)).2.2 ∧ fl = 0 ∧ na_RM L ((na_day L r k n P).1, (na_day L r k n P).2, 0) w' ∧ sg_fr [56, 57] w w') := by
      refine sx_for L.1 (fun u hf h6 h57 => ?_) (fun l hl ih u hf h6 h57 => ?_)
      · have hCo := h.fr' hf (by decide)
        have nc : ¬ ¬ u.1 48 0 ≤ nI L.1 := fun c => c (by rw [hCo.1.2.1]; exact nI_le (Nat.le_refl _) (by omega))
        rw [na_lp_eq hcap (k := k) (day := nI n) hp hJ L.1 (Nat.le_refl _)] at h6
        obtain ⟨f, fl, w', hev, hp2⟩ := ihp u hf (na_J_next hcap hp hJ) ⟨h6, h57⟩
        refine ⟨f, fl, w', fun Q z => bMo_days_163 (f1 := 0) (fun _ => ?_) (fun c => absurd c nc) (fun c => absurd c nc) (fun c => absurd c nc) (fun c => absurd c nc) (fun c => absurd c nc), hp2⟩
        rw [nI_1]; exact hev Q z
      · have hCo := h.fr' hf (by decide)
        have nn : ¬ u.1 48 0 ≤ nI l := by rw [hCo.1.2.1]; exact nI_ge hl (by omega)
        obtain ⟨e1, e2, e3⟩ := sz_at8 (show l < 7 by omega) hp
        have has := spMo_isAsleep (d := d + 1) hCo hl hp
        cases ha : na_as L r l p with
        | false =>
          rw [ha] at has
          rw [na_lp, ha, if_neg Bool.false_ne_true] at ih
          obtain ⟨f, fl, w', hev, hp2⟩ := ih u hf h6 h57
          refine ⟨f, fl, w', fun Q z => bMo_days_163 (fun c => absurd c nn) (fun _ => has) (fun _ _ => ?_) (fun _ c => absurd rfl c) (fun _ c => absurd rfl c) (fun _ c => absurd rfl c), hp2⟩
          rw [nI_1]; exact hev Q z
        | true =>
          rw [ha] at has
          rw [na_lp, ha, if_pos rfl] at ih
          have hB := (na_B_ok hcap p hp).1 l hl ha
          have h55 : u.1 55 (8 * l + p) = nI (na_B L r (p + 1) l) := by rw [(hf 55 (by decide)).1, hT l hl p hp, na_lI, if_pos hB]
          have hcB : (nI (na_B L r (p + 1) l)).toNatClampNeg = na_B L r (p + 1) l := nI_clamp (by omega)
          obtain ⟨f, fl, w', hev, hp2⟩ := ih (sx_u u.1 56 (na_B L r (p + 1) l) (nI l), u.2) (fr56 hf) (fun i hi => by
            show sx_u u.1 56 (na_B L r (p + 1) l) (nI l) 56 i = _
            rw [sx_u_s]
            by_cases e : i = na_B L r (p + 1) l
            · rw [if_pos e, e, sg_up_s, na_bI, if_pos (by omega)]
            · rw [if_neg e, sg_up_o e]; exact h6 i hi) (fun j hj => by
            show sx_u u.1 56 (na_B L r (p + 1) l) (nI l) 57 j = _
            rw [sx_u_o (by decide)]; exact h57 j hj)
          refine ⟨f, fl, w', fun Q z => bMo_days_163 (fun c => absurd c nn) (fun _ => has) (fun _ c => absurd c (by decide)) (fun _ _ => by rw [e1]; exact e3) (fun _ _ => by rw [e1, e2, h55]; exact vp_in_nI hB (by decide)) (fun _ _ => ?_), hp2⟩
          rw [e1, e2, h55, hcB, nI_1]; exact hev Q z
    -- who gets it
    have gets : ∀ l, l ≤ L.1 → ∀ u, sg_fr [56, 57] w u → (∀ i, i < 7 → u.1 56 i = na_bI (S.1 i)) → (∀ j, j < L.1 → u.1 57 j = (na_fold k (nI n) (na_dl L r p l) S).2.1 j) → sx_xe (d + 3) rMo_days 13 [.ref 48, .int (nI n), .int (na_fold k (nI n) (na_dl L r p l) S).2.2, .int (nI p), .int (nI l), .null, .null, .null] u (fun f fl w' => f = (na_fold k (nI n) (na_D L r 8) (P.1, P.2, 0)).2.2 ∧ fl = 0 ∧ na_RM L ((na_day L r k n P).1, (na_day L r k n P).2, 0) w' ∧ sg_fr [56, 57] w w') := by
      refine sx_for L.1 (fun u hf h6 h57 => ?_) (fun l hl ih u hf h6 h57 => ?_)
      · have hCo := h.fr' hf (by decide)
        have nc : ¬ ¬ u.1 48 0 ≤ nI L.1 := fun c => c (by rw [hCo.1.2.1]; exact nI_le (Nat.le_refl _) (by omega))
        obtain ⟨f, fl, w', hev, hp2⟩ := last 0 (Nat.zero_le _) u hf h6 h57
        exact ⟨f, fl, w', fun Q z => bMo_days_13 (f1 := 0) (fun _ => hev Q z) (fun c => absurd c nc) (fun c => absurd c nc) (fun c => absurd c nc) (fun c => absurd c nc) (fun c => absurd c nc) (fun c => absurd c nc) (fun c => absurd c nc) (fun c => absurd c nc) (fun c => absurd c nc) (fun c => absurd c nc) (fun c => absurd c nc) (fun c => absurd c nc) (fun c => absurd c nc) (fun c => absurd c nc) (fun c => absurd c nc) (fun c => absurd c nc), hp2⟩
      · have hCo := h.fr' hf (by decide)
        have nn : ¬ u.1 48 0 ≤ nI l := by rw [hCo.1.2.1]; exact nI_ge hl (by omega)
        obtain ⟨e1, e2, e3⟩ := sz_at8 (show l < 7 by omega) hp
        have hc : (nI l).toNatClampNeg = l := nI_clamp (by omega)
        have hld := spMo_liesDown (d := d) hCo hl hp
        have vl : vp_in (nI l) 7 := vp_in_nI (by omega) (by decide)
        cases hdn : na_ld L r l p with
        | false =>
          rw [hdn] at hld
          rw [na_dl, hdn, if_neg Bool.false_ne_true, List.append_nil] at ih
          obtain ⟨f, fl, w', hev, hp2⟩ := ih u hf h6 h57
          refine ⟨f, fl, w', fun Q z => bMo_days_13 (fun c => absurd c nn) (fun _ => hld) (fun _ _ => ?_) (fun _ c => absurd rfl c) (fun _ c => absurd rfl c) (fun _ c => absurd rfl c) (fun _ c => absurd rfl c) (fun _ c => absurd rfl c) (fun _ c => absurd rfl c) (fun _ c => absurd rfl c) (fun _ c => absurd rfl c) (fun _ c => absurd rfl c) (fun _ c => absurd rfl c) (fun _ c => absurd rfl c) (fun _ c => absurd rfl c) (fun _ c => absurd rfl c) (fun _ c => absurd rfl c), hp2⟩
          rw [nI_1]; exact hev Q z
        | true =>
          rw [hdn] at hld
          have ha : na_as L r l p = true := by rw [na_split, hdn, Bool.or_true]
          have hB := (na_B_ok hcap p hp).1 l hl ha
          have h55 : u.1 55 (8 * l + p) = nI (na_B L r (p + 1) l) := by rw [(hf 55 (by decide)).1, hT l hl p hp, na_lI, if_pos hB]
          have hoff := na_fold_off (k := k) (day := nI n) (na_dl L r p l) S (na_dl_off hcap hp hl ha)
          have hvl : na_vS L.1 (na_fold k (nI n) (na_dl L r p l) S) := na_vS_fold hd _ _ (fun e he => by have := (na_dl_mem (l := e.1) (x := e.2) he).1; omega) hvp
          rw [na_dl, hdn, if_pos rfl, na_fold_snoc] at ih
          generalize hxx : na_B L r (p + 1) l = x at *
          have hcx : (nI x).toNatClampNeg = x := nI_clamp (by omega)
          have c56 : u.1 56 (u.1 55 ((8 : Int32) * nI l + nI p).toNatClampNeg).toNatClampNeg = na_bI (S.1 x) := by rw [e1, e2, h55, hcx]; exact h6 x hB
          have hu7 : u.1 48 7 = k := by rw [(hf 48 (by decide)).1]; exact hk6
          generalize na_fold k (nI n) (na_dl L r p l) S = T at *
          have vx : vp_in ((8 : Int32) * nI l + nI p) 56 := by rw [e1]; exact e3
          have vx2 : vp_in (u.1 55 ((8 : Int32) * nI l + nI p).toNatClampNeg) 7 := by rw [e1, e2, h55]; exact vp_in_nI hB (by decide)
          -- nothing got
          have same : ¬ na_get k (nI n) T l x → ∀ c : Int32, c = (na_stp k (nI n) T (l, x)).2.2 → sx_xe (d + 3) rMo_days 13 [.ref 48, .int (nI n), .int c, .int (nI p), .int (nI l + 1), .null, .null, .null] (sx_u u.1 57 (nI l).toNatClampNeg (u.1 57 (nI l).toNatClampNeg), u.2) (fun f fl w' => f = (na_fold k (nI n) (na_D L r 8) (P.1, P.2, 0)).2.2 ∧ fl = 0 ∧ na_RM L ((na_day L r k n P).1, (na_day L r k n P).2, 0) w' ∧ sg_fr [56, 57] w w') := fun hn c hcc => by
            rw [hcc, nI_1, hc]
            refine ih _ (fr57 hf) (fun i hi => ?_) (fun j hj => ?_)
            · show sx_u u.1 57 l (u.1 57 l) 56 i = _
              rw [sx_u_o (by decide)]; exact h6 i hi
            · show sx_u u.1 57 l (u.1 57 l) 57 j = (if na_get k (nI n) T l x then (fun i => if i = l then nI n else T.2.1 i) else T.2.1) j
              rw [sx_u_s, if_neg hn]
              by_cases e : j = l
              · rw [if_pos e, e]; exact h57 l hl
              · rw [if_neg e]; exact h57 j hj
          by_cases g1 : S.1 x < 7
          · have g1' : T.1 x < 7 := by rw [hoff]; exact g1
            have n1 : ¬ na_bI (S.1 x) < 0 := fun c => na_bI_neg.mp c g1
            have n1' : ¬ u.1 56 (u.1 55 ((8 : Int32) * nI l + nI p).toNatClampNeg).toNatClampNeg < 0 := by rw [c56]; exact n1
            have eb : na_bI (S.1 x) = nI (S.1 x) := if_pos g1
            have haL : S.1 x < L.1 := by rcases hvp.1 x with q | q <;> omega
            have hca : (nI (S.1 x)).toNatClampNeg = S.1 x := nI_clamp (by omega)
            by_cases g2 : S.1 x = l
            · have y2 : u.1 56 (u.1 55 ((8 : Int32) * nI l + nI p).toNatClampNeg).toNatClampNeg = nI l := by rw [c56, eb, g2]
              obtain ⟨f, fl, w', hev, hp2⟩ := same (fun q => q.2.2.1 (by rw [hoff, g2]; exact q.2.1)) (T.2.2 + 0) (by
                rw [Int32.add_zero]
                show _ = if _ then _ else _
                rw [if_neg (fun q => q.2 (by show T.1 x = l; rw [hoff]; exact g2))])
              exact ⟨f, fl, w', fun Q z => bMo_days_13 (fun c => absurd c nn) (fun _ => hld) (fun _ c => absurd c (by decide)) (fun _ _ => vx) (fun _ _ => vx2) (fun _ _ c => absurd c n1') (fun _ _ c => absurd c n1') (fun _ _ _ _ => vl) (fun _ _ _ _ => hev Q z) (fun _ _ _ c => absurd y2 c) (fun _ _ _ c => absurd y2 c) (fun _ _ _ c => absurd y2 c) (fun _ _ _ c => absurd y2 c) (fun _ _ _ c => absurd y2 c) (fun _ _ _ c => absurd y2 c) (fun _ _ _ c => absurd y2 c) (fun _ _ _ c => absurd y2 c), hp2⟩
            · have n2 : ¬ u.1 56 (u.1 55 ((8 : Int32) * nI l + nI p).toNatClampNeg).toNatClampNeg = nI l := by
                rw [c56, eb, nI_eq (by omega) (by omega)]; exact g2
              have va : vp_in (u.1 56 (u.1 55 ((8 : Int32) * nI l + nI p).toNatClampNeg).toNatClampNeg) 7 := by rw [c56, eb]; exact vp_in_nI g1 (by decide)
              have ca : u.1 57 (u.1 56 (u.1 55 ((8 : Int32) * nI l + nI p).toNatClampNeg).toNatClampNeg).toNatClampNeg = T.2.1 (S.1 x) := by rw [c56, eb, hca]; exact h57 _ haL
              have cnt : T.2.2 + 1 = (na_stp k (nI n) T (l, x)).2.2 := by
                show _ = if _ then _ else _
                rw [if_pos ⟨g1', by show ¬ T.1 x = l; rw [hoff]; exact g2⟩]
              have cl : u.1 57 (nI l).toNatClampNeg = T.2.1 l := by rw [hc]; exact h57 l hl
              by_cases g3 : T.2.1 (S.1 x) < 0
              · have y3 : u.1 57 (u.1 56 (u.1 55 ((8 : Int32) * nI l + nI p).toNatClampNeg).toNatClampNeg).toNatClampNeg < 0 := by rw [ca]; exact g3
                have hm1 : T.2.1 (S.1 x) = (-1 : Int32) := by
                  rcases hvl.2 (S.1 x) with q | q
                  · exact q
                  · exact absurd g3 q
                obtain ⟨f, fl, w', hev, hp2⟩ := same (fun q => q.2.2.1 (by rw [hoff]; exact hm1)) _ cnt
                exact ⟨f, fl, w', fun Q z => bMo_days_13 (fun c => absurd c nn) (fun _ => hld) (fun _ c => absurd c (by decide)) (fun _ _ => vx) (fun _ _ => vx2) (fun _ _ c => absurd c n1') (fun _ _ c => absurd c n1') (fun _ _ _ c => absurd c n2) (fun _ _ _ c => absurd c n2) (fun _ _ _ _ => va) (fun _ _ _ _ _ => vl) (fun _ _ _ _ _ => hev Q z) (fun _ _ _ _ c => absurd y3 c) (fun _ _ _ _ c => absurd y3 c) (fun _ _ _ _ c => absurd y3 c) (fun _ _ _ _ c => absurd y3 c) (fun _ _ _ _ c => absurd y3 c), hp2⟩
              · have n3 : ¬ u.1 57 (u.1 56 (u.1 55 ((8 : Int32) * nI l + nI p).toNatClampNeg).toNatClampNeg).toNatClampNeg < 0 := by rw [ca]; exact g3
                by_cases g4 : T.2.1 (S.1 x) + k < nI n
                · have y4 : u.1 57 (u.1 56 (u.1 55 ((8 : Int32) * nI l + nI p).toNatClampNeg).toNatClampNeg).toNatClampNeg + u.1 48 7 < nI n := by rw [ca, hu7]; exact g4
                  obtain ⟨f, fl, w', hev, hp2⟩ := same (fun q => q.2.2.2 (by rw [hoff]; exact g4)) _ cnt
                  exact ⟨f, fl, w', fun Q z => bMo_days_13 (fun c => absurd c nn) (fun _ => hld) (fun _ c => absurd c (by decide)) (fun _ _ => vx) (fun _ _ => vx2) (fun _ _ c => absurd c n1') (fun _ _ c => absurd c n1') (fun _ _ _ c => absurd c n2) (fun _ _ _ c => absurd c n2) (fun _ _ _ _ => va) (fun _ _ _ _ c => absurd c n3) (fun _ _ _ _ c => absurd c n3) (fun _ _ _ _ _ _ => vl) (fun _ _ _ _ _ _ => hev Q z) (fun _ _ _ _ _ c => absurd y4 c) (fun _ _ _ _ _ c => absurd y4 c) (fun _ _ _ _ _ c => absurd y4 c), hp2⟩
                · have n4 : ¬ u.1 57 (u.1 56 (u.1 55 ((8 : Int32) * nI l + nI p).toNatClampNeg).toNatClampNeg).toNatClampNeg + u.1 48 7 < nI n := by rw [ca, hu7]; exact g4
                  by_cases g5 : 0 ≤ T.2.1 l
                  · have y5 : 0 ≤ u.1 57 (nI l).toNatClampNeg := by rw [cl]; exact g5
                    obtain ⟨f, fl, w', hev, hp2⟩ := same (fun q => by rw [q.2.1] at g5; exact absurd g5 (by decide)) _ cnt
                    exact ⟨f, fl, w', fun Q z => bMo_days_13 (fun c => absurd c nn) (fun _ => hld) (fun _ c => absurd c (by decide)) (fun _ _ => vx) (fun _ _ => vx2) (fun _ _ c => absurd c n1') (fun _ _ c => absurd c n1') (fun _ _ _ c => absurd c n2) (fun _ _ _ c => absurd c n2) (fun _ _ _ _ => va) (fun _ _ _ _ c => absurd c n3) (fun _ _ _ _ c => absurd c n3) (fun _ _ _ _ _ c => absurd c n4) (fun _ _ _ _ _ c => absurd c n4) (fun _ _ _ _ _ _ => vl) (fun _ _ _ _ _ _ _ => hev Q z) (fun _ _ _ _ _ _ c => absurd y5 c), hp2⟩
                  · have n5 : ¬ 0 ≤ u.1 57 (nI l).toNatClampNeg := by rw [cl]; exact g5
                    have hl1 : T.2.1 l = (-1 : Int32) := by
                      rcases hvl.2 l with q | q
                      · exact q
                      · exact absurd (Int32.not_lt.mp q) g5
                    have hget : na_get k (nI n) T l x := ⟨g1', hl1, by rw [hoff]; exact fun c => g3 (by rw [c]; decide), by rw [hoff]; exact g4⟩
                    obtain ⟨f, fl, w', hev, hp2⟩ := ih (sx_u u.1 57 l (nI n), u.2) (fr57 hf) (fun i hi => by
                      show sx_u u.1 57 l (nI n) 56 i = _
                      rw [sx_u_o (by decide)]; exact h6 i hi) (fun j hj => by
                      show sx_u u.1 57 l (nI n) 57 j = (if na_get k (nI n) T l x then (fun i => if i = l then nI n else T.2.1 i) else T.2.1) j
                      rw [sx_u_s, if_pos hget]
                      show _ = if j = l then nI n else T.2.1 j
                      by_cases e : j = l
                      · rw [if_pos e, if_pos e]
                      · rw [if_neg e, if_neg e]; exact h57 j hj)
                    rw [← cnt] at hev
                    refine ⟨f, fl, w', fun Q z => bMo_days_13 (fun c => absurd c nn) (fun _ => hld) (fun _ c => absurd c (by decide)) (fun _ _ => vx) (fun _ _ => vx2) (fun _ _ c => absurd c n1') (fun _ _ c => absurd c n1') (fun _ _ _ c => absurd c n2) (fun _ _ _ c => absurd c n2) (fun _ _ _ _ => va) (fun _ _ _ _ c => absurd c n3) (fun _ _ _ _ c => absurd c n3) (fun _ _ _ _ _ c => absurd c n4) (fun _ _ _ _ _ c => absurd c n4) (fun _ _ _ _ _ _ => vl) (fun _ _ _ _ _ _ c => absurd c n5) (fun _ _ _ _ _ _ _ => ?_), hp2⟩
                    rw [hc, nI_1]; exact hev Q z
          · have y1 : u.1 56 (u.1 55 ((8 : Int32) * nI l + nI p).toNatClampNeg).toNatClampNeg < 0 := by rw [c56]; exact na_bI_neg.mpr g1
            obtain ⟨f, fl, w', hev, hp2⟩ := same (fun q => g1 (by rw [← hoff]; exact q.1)) (T.2.2 + 0) (by
              rw [Int32.add_zero]
              show _ = if _ then _ else _
              rw [if_neg (fun q => g1 (by rw [← hoff]; exact q.1))])
            exact ⟨f, fl, w', fun Q z => bMo_days_13 (fun c => absurd c nn) (fun _ => hld) (fun _ c => absurd c (by decide)) (fun _ _ => vx) (fun _ _ => vx2) (fun _ _ _ => vl) (fun _ _ _ => hev Q z) (fun _ _ c => absurd y1 c) (fun _ _ c => absurd y1 c) (fun _ _ c => absurd y1 c) (fun _ _ c => absurd y1 c) (fun _ _ c => absurd y1 c) (fun _ _ c => absurd y1 c) (fun _ _ c => absurd y1 c) (fun _ _ c => absurd y1 c) (fun _ _ c => absurd y1 c) (fun _ _ c => absurd y1 c), hp2⟩
    obtain ⟨f, fl, w', hev, hp2⟩ := gets 0 (Nat.zero_le _) u0 hf0 hu0.1 hu0.2
    exact ⟨f, fl, w', fun Q z => bMo_days_4 (fun c => absurd c (nI_ge (b := 8) hp (by omega))) (fun _ => hev Q z), hp2⟩
  obtain ⟨f, fl, w', hev, hp2⟩ := parts 0 (by omega) w sg_fr.rfl' (fun l hl hk => by simp [na_kp] at hk) hR
  exact ⟨f, fl, w', fun Q z => sx_met_of rfl rfl rfl rfl (bMo_days_0 (hev Q z)), hp2⟩
end
