/-! ===== the days: linen and the illness ===== -/
abbrev na_S : Type := (Nat → Nat) × (Nat → Int32) × Int32
abbrev na_get (k day : Int32) (S : na_S) (l x : Nat) : Prop := S.1 x < 7 ∧ S.2.1 l = (-1 : Int32) ∧ ¬ S.2.1 (S.1 x) = (-1 : Int32) ∧ ¬ (S.2.1 (S.1 x) + k < day)
def na_stp (k day : Int32) (S : na_S) (e : Nat × Nat) : na_S :=
  (sg_up S.1 e.2 e.1, if na_get k day S e.1 e.2 then (fun j => if j = e.1 then day else S.2.1 j) else S.2.1, if S.1 e.2 < 7 ∧ ¬ S.1 e.2 = e.1 then S.2.2 + 1 else S.2.2)
def na_fold (k day : Int32) (D : List (Nat × Nat)) (S : na_S) : na_S := D.foldl (na_stp k day) S
theorem na_fold_snoc (k day : Int32) (D : List (Nat × Nat)) (e : Nat × Nat) (S : na_S) : na_fold k day (D ++ [e]) S = na_stp k day (na_fold k day D S) e := by
  unfold na_fold; rw [List.foldl_append]; rfl
theorem na_fold_take (k day : Int32) (D : List (Nat × Nat)) (S : na_S) {i : Nat} {e : Nat × Nat} (h : D[i]? = some e) : na_fold k day (D.take (i + 1)) S = na_stp k day (na_fold k day (D.take i) S) e := by
  rw [List.take_add_one, h]
  exact na_fold_snoc _ _ _ _ _
theorem na_fold_ind {k k' day day' : Int32} : ∀ (D : List (Nat × Nat)) (s : Nat → Nat) (g g' : Nat → Int32) (c : Int32), (na_fold k day D (s, g, c)).1 = (na_fold k' day' D (s, g', c)).1 ∧ (na_fold k day D (s, g, c)).2.2 = (na_fold k' day' D (s, g', c)).2.2
  | [], _, _, _, _ => ⟨rfl, rfl⟩
  | e :: D, s, g, g', c => by
    have := @na_fold_ind k k' day day' D (sg_up s e.2 e.1) (na_stp k day (s, g, c) e).2.1 (na_stp k' day' (s, g', c) e).2.1 (if s e.2 < 7 ∧ ¬ s e.2 = e.1 then c + 1 else c)
    exact this
/-- the count is no part of who lies where and who is ill -/
theorem na_fold_cnt {k day : Int32} : ∀ (D : List (Nat × Nat)) (s : Nat → Nat) (g : Nat → Int32) (c c' : Int32), (na_fold k day D (s, g, c)).1 = (na_fold k day D (s, g, c')).1 ∧ (na_fold k day D (s, g, c)).2.1 = (na_fold k day D (s, g, c')).2.1
  | [], _, _, _, _ => ⟨rfl, rfl⟩
  | e :: D, s, g, c, c' => na_fold_cnt D _ _ _ _
/-- what the state's entries are -/
def na_vS (n : Nat) (S : na_S) : Prop := (∀ i, S.1 i < n ∨ S.1 i = 9) ∧ ∀ l, S.2.1 l = (-1 : Int32) ∨ ¬ S.2.1 l < 0
theorem na_vS_stp {n : Nat} {k day : Int32} {S : na_S} {e : Nat × Nat} (h : na_vS n S) (he : e.1 < n) (hd : ¬ day < 0) : na_vS n (na_stp k day S e) := by
  refine ⟨fun i => ?_, fun l => ?_⟩
  · show sg_up S.1 e.2 e.1 i < n ∨ sg_up S.1 e.2 e.1 i = 9
    by_cases c : i = e.2
    · rw [c, sg_up_s]; exact Or.inl he
    · rw [sg_up_o c]; exact h.1 i
  · show (if na_get k day S e.1 e.2 then (fun j => if j = e.1 then day else S.2.1 j) else S.2.1) l = _ ∨ ¬ (if na_get k day S e.1 e.2 then (fun j => if j = e.1 then day else S.2.1 j) else S.2.1) l < 0
    split
    · show (if l = e.1 then day else S.2.1 l) = _ ∨ ¬ (if l = e.1 then day else S.2.1 l) < 0
      by_cases c : l = e.1
      · rw [if_pos c]; exact Or.inr hd
      · rw [if_neg c]; exact h.2 l
    · exact h.2 l
theorem na_vS_fold {n : Nat} {k day : Int32} (hd : ¬ day < 0) : ∀ (D : List (Nat × Nat)) (S : na_S), (∀ e, e ∈ D → e.1 < n) → na_vS n S → na_vS n (na_fold k day D S)
  | [], _, _, h => h
  | e :: D, S, he, h => na_vS_fold hd D _ (fun x hx => he x (List.mem_cons_of_mem _ hx)) (na_vS_stp h (he e (List.mem_cons_self ..)) hd)
def na_g0 (s : Nat) : Nat → Int32 := fun l => if s.testBit l then 0 else -1
def na_day (L : sg_L) (r : Nat → Nat) (k : Int32) (n : Nat) (P : (Nat → Nat) × (Nat → Int32)) : (Nat → Nat) × (Nat → Int32) := ((na_fold k (nI n) (na_D L r 8) (P.1, P.2, 0)).1, (na_fold k (nI n) (na_D L r 8) (P.1, P.2, 0)).2.1)
def na_run (L : sg_L) (r : Nat → Nat) (k : Int32) (s : Nat) : Nat → (Nat → Nat) × (Nat → Int32)
  | 0 => (fun _ => 9, na_g0 s)
  | n + 1 => na_day L r k (n + 1) (na_run L r k s n)
def na_ill (k : Int32) (n : Nat) (g : Nat → Int32) (l : Nat) : Bool := !decide (g l = (-1 : Int32)) && !decide (g l + k < nI n)
def na_bits (f : Nat → Bool) : Nat → Nat
  | 0 => 0
  | m + 1 => na_bits f m ||| (if f m then 2 ^ m else 0)
theorem na_bits_lt (f : Nat → Bool) : ∀ m, na_bits f m < 2 ^ m
  | 0 => Nat.one_pos
  | m + 1 => by
    have ih := na_bits_lt f m
    rw [na_bits]
    refine Nat.or_lt_two_pow (Nat.lt_trans ih (Nat.pow_lt_pow_right (by decide) (by omega))) ?_
    split
    · exact Nat.pow_lt_pow_right (by decide) (by omega)
    · exact Nat.two_pow_pos _
theorem na_bits_I (f : Nat → Bool) {m : Nat} (hm : m < 8) : nI (na_bits f m) ||| (if f m then ((1 : Int32) <<< (nI m &&& 31)) else 0) = nI (na_bits f (m + 1)) := by
  rw [na_bits]
  cases f m with
  | true => rw [if_pos rfl, if_pos rfl, sz_one m hm, fa_or]
  | false => rw [if_neg Bool.false_ne_true, if_neg Bool.false_ne_true]; exact fa_or _ 0
def na_sick (L : sg_L) (r : Nat → Nat) (k : Int32) (s n : Nat) : Nat := na_bits (na_ill k n (na_run L r k s n).2) L.1
def na_br (L : sg_L) (r : Nat → Nat) (k : Int32) (s n : Nat) : Nat := na_bits (fun l => na_sick L r k (2 ^ l) n == s) L.1
def na_lin (L : sg_L) (r : Nat → Nat) : Int32 := (na_fold 0 0 (na_D L r 8) (fun _ => 9, fun _ => 0, 0)).2.2
section
variable {d : Nat} {w : sx_W} {L : sg_L} {b : Nat} {r : Nat → Nat}
theorem na_D_mem (hcap : ∀ p, p < 8 → fb_ct (fun l => na_as L r l p) L.1 ≤ 7) {l x : Nat} : ∀ {p : Nat}, p ≤ 8 → (l, x) ∈ na_D L r p → l < L.1 ∧ x < 7
  | 0, _, h => by cases h
  | p + 1, hp, h => by
    rw [na_D, List.mem_append] at h
    rcases h with h | h
    · exact na_D_mem hcap (by omega) h
    · obtain ⟨h1, h2, h3⟩ := na_dl_mem h
      have has : na_as L r l p = true := by rw [na_split, h2, Bool.or_true]
      rw [h3]
      exact ⟨h1, (na_B_ok hcap p (by omega)).1 l h1 has⟩
def na_RS (L : sg_L) (S : na_S) (w : sx_W) : Prop := (∀ i, i < 7 → w.1 31 i = na_bI (S.1 i)) ∧ ∀ l, l < L.1 → w.1 32 l = S.2.1 l
theorem na_NS.fr {w' : sx_W} {cs : List Nat} (h : na_NS L r w) (hf : sg_fr cs w w') (hc : ∀ a ∈ [27, 28, 29, 30], a ∉ cs) : na_NS L r w' := by
  refine ⟨fun l hl q hq => ?_, ?_, fun i l x hi => ?_⟩
  · rw [(hf 28 (hc 28 (by decide))).1]; exact h.1 l hl q hq
  · rw [(hf 27 (hc 27 (by decide))).1]; exact h.2.1
  · rw [(hf 29 (hc 29 (by decide))).1, (hf 30 (hc 30 (by decide))).1]; exact h.2.2 i l x hi
theorem spNi_bedOf {l p : Nat} (h : sg_Co L b r w) (hcap : ∀ p, p < 8 → fb_ct (fun l => na_as L r l p) L.1 ≤ 7) (hk : w.1 27 5 = w.1 1 8 → na_NS L r w) (hl : l < L.1) (hp : p < 8) : sx_x (d + 4) rNi_bedOf [.ref 27, .int (nI l), .int (nI p)] w (fun f fl w' => f = na_bI (na_B L r (p + 1) l) ∧ fl = 0 ∧ na_NS L r w' ∧ w'.1 27 5 = w.1 1 8 ∧ sg_fr [27, 28, 29, 30] w w') := by
  have h7 := h.1.1.1
  obtain ⟨f, fl, w1, hs, rfl, rfl, hN, ha, hf⟩ := spNi_settle (d := d) h hcap hk
  obtain ⟨e1, e2, e3⟩ := sz_at (show l < 7 by omega) hp
  refine ⟨_, 0, w1, fun Q z => sx_met_of rfl rfl rfl rfl (bNi_bedOf_0 hs (by rw [e1]; exact e3) ?_), rfl, rfl, hN, ha, hf⟩
  rw [e1, e2, hN.1 l hl p hp]; exact z
theorem spNi_hasIt {a : Nat} {x : Int32} (ha : a < 7) : sx_de d rNi_hasIt [.ref 27, .int (nI a), .int x] w (sz_b (!decide (w.1 32 a = (-1 : Int32)) && !decide (w.1 32 a + w.1 1 6 < x))) 0 w := by
  intro Q z
  have hc : (nI a).toNatClampNeg = a := nI_clamp (by omega)
  refine sx_met_of rfl rfl rfl rfl (bNi_hasIt_0 (vp_in_nI ha (by decide)) (fun c => ?_) (fun c1 c2 => ?_) (fun c1 c2 => ?_))
  · rw [hc] at c
    rw [c] at z; exact z
  · rw [hc] at c1 c2
    rw [decide_eq_true c2, Bool.not_true, Bool.and_false] at z; exact z
  · rw [hc] at c1 c2
    rw [decide_eq_false c1, decide_eq_false c2] at z; exact z
theorem spNi_linenChanges (h : sg_Co L b r w) (hcap : ∀ p, p < 8 → fb_ct (fun l => na_as L r l p) L.1 ≤ 7) (hk : w.1 27 5 = w.1 1 8 → na_NS L r w) : sx_x (d + 4) rNi_linenChanges [.ref 27] w (fun f fl w' => f = na_lin L r ∧ fl = 0 ∧ na_NS L r w' ∧ w'.1 27 5 = w.1 1 8 ∧ sg_fr [27, 28, 29, 30, 31] w w') := by
  have h7 := h.1.1.1
  obtain ⟨f, fl, w1, hs, rfl, rfl, hN, ha, hf⟩ := spNi_settle (d := d) h hcap hk
  obtain ⟨f, fl, w2, hs2, rfl, rfl, h31, hf2⟩ := spNi_stripBeds (d := d + 3) (w := w1)
  have hN2 := hN.fr hf2 (by decide)
  have hDl : (na_D L r 8).length ≤ 56 := na_D_len h7 8
  have loop : ∀ i, i ≤ (na_D L r 8).length → ∀ u, sg_fr [31] w2 u → (∀ x, x < 7 → u.1 31 x = na_bI ((na_fold 0 0 ((na_D L r 8).take i) (fun _ => 9, fun _ => 0, 0)).1 x)) → sx_xe (d + 4) rNi_linenChanges 12 [.ref 27, .int (na_fold 0 0 ((na_D L r 8).take i) (fun _ => 9, fun _ => 0, 0)).2.2, .int (nI i), .null] u (fun f fl w' => f = na_lin L r ∧ fl = 0 ∧ sg_fr [31] w2 w') := by
    refine sx_for (na_D L r 8).length (fun u hfu hu => ?_) (fun i hi ih u hfu hu => ?_)
    · have hNu := hN2.fr hfu (by decide)
      have nc : ¬ ¬ u.1 27 4 ≤ nI (na_D L r 8).length := fun c => c (by rw [hNu.2.1]; exact nI_le (Nat.le_refl _) (by omega))
      refine ⟨na_lin L r, 0, u, fun Q z => bNi_linenChanges_12 (fun _ => ?_) (fun c => absurd c nc) (fun c => absurd c nc) (fun c => absurd c nc) (fun c => absurd c nc) (fun c => absurd c nc), rfl, rfl, hfu⟩
      rw [List.take_length]; exact z
    · have hNu := hN2.fr hfu (by decide)
      have nn : ¬ u.1 27 4 ≤ nI i := by rw [hNu.2.1]; exact nI_ge hi (by omega)
      have hc : (nI i).toNatClampNeg = i := nI_clamp (by omega)
      obtain ⟨⟨l, x⟩, hlx⟩ : ∃ e, (na_D L r 8)[i]? = some e := ⟨(na_D L r 8)[i], List.getElem?_eq_getElem hi⟩
      obtain ⟨c2, c1⟩ := hNu.2.2 i l x hlx
      obtain ⟨hl, hx⟩ := na_D_mem hcap (Nat.le_refl 8) (List.mem_of_getElem? hlx)
      have c3 : (nI x).toNatClampNeg = x := nI_clamp (by omega)
      rw [na_fold_take 0 0 _ _ hlx] at ih
      generalize na_fold 0 0 ((na_D L r 8).take i) (fun _ => 9, fun _ => 0, 0) = S at *
      obtain ⟨f, fl, w', hev, hp2⟩ := ih (sx_u u.1 31 x (nI l), u.2) (hfu.trans (fun a ha => ⟨sx_u_o (fun e => ha (by rw [e]; decide)), rfl⟩)) (fun y hy => by
        show sx_u u.1 31 x (nI l) 31 y = na_bI (sg_up S.1 x l y)
        rw [sx_u_s]
        by_cases e : y = x
        · rw [if_pos e, e, sg_up_s, na_bI, if_pos (by omega)]
        · rw [if_neg e, sg_up_o e]; exact hu y hy)
      have hev2 : ∀ Q : sx_Q, Q f fl w' → ∀ c : Int32, c = (na_stp 0 0 S (l, x)).2.2 → sx_ev (d + 4) rNi_linenChanges 12 [.ref 27, .int c, .int (nI i + 1), .null] [] (sx_u u.1 31 x (nI l), u.2) Q := fun Q z c e => by rw [e, nI_1]; exact hev Q z
      have vx : vp_in (nI x) 7 := vp_in_nI hx (by decide)
      refine ⟨f, fl, w', fun Q z => bNi_linenChanges_12 (fun c => absurd c nn) (fun _ => vp_in_nI (by omega) (by decide)) (fun _ => by rw [hc, c1]; exact vx) (fun _ c => ?_) (fun _ c e => ?_) (fun _ c e => ?_), hp2⟩
      · rw [hc, c1, c3] at c ⊢
        rw [c2, Int32.add_zero]
        rw [hu x hx, na_bI_m1] at c
        exact hev2 Q z _ (by show _ = if _ then _ else _; rw [if_neg (fun k => c k.1)])
      · rw [hc, c1, c3] at c e ⊢
        rw [c2] at e ⊢
        rw [Int32.add_zero]
        rw [hu x hx, na_bI_m1, Classical.not_not] at c
        rw [hu x hx, na_bI, if_pos c, nI_eq (by omega) (by omega)] at e
        exact hev2 Q z _ (by show _ = if _ then _ else _; rw [if_neg (fun k => k.2 e)])
      · rw [hc, c1, c3] at c e ⊢
        rw [c2] at e ⊢
        rw [hu x hx, na_bI_m1, Classical.not_not] at c
        rw [hu x hx, na_bI, if_pos c, nI_eq (by omega) (by omega)] at e
        exact hev2 Q z _ (by show _ = if _ then _ else _; rw [if_pos ⟨c, e⟩])
  obtain ⟨f, fl, w', hev, hp1, hp2, hp3⟩ := loop 0 (Nat.zero_le _) w2 sg_fr.rfl' (fun x hx => h31 x hx)
  have hff : sg_fr [31] w1 w' := hf2.trans hp3
  exact ⟨f, fl, w', fun Q z => sx_met_of rfl rfl rfl rfl (bNi_linenChanges_0 hs hs2 (hev Q z)), hp1, hp2, hN.fr hff (by decide), by rw [(hff 27 (by decide)).1]; exact ha, (hf.mono (by decide)).trans (hff.mono (by decide))⟩
end
