/-! ===== the class's search is set up; exists ===== -/
def sx_pe (d : Nat) (r : sx_R) (As : List Value) (w : sx_W) : Prop := ∃ f : Int32, sx_de d r As w f 0 w
section
variable {d : Nat} {w : sx_W} {L : sg_L} {b : Nat} {op r : Nat → Nat}
theorem spIn_bitCount {x : Int32} : sx_pe d rIn_bitCount [.int x] w := ⟨_, fun Q z => sx_met_of rfl rfl rfl rfl (bIn_bitCount_0 z)⟩
theorem spSe_howMany {x : Int32} (h : sg_C L w) : sx_pe d rSe_howMany [.ref 16, .int x] w := by
  have h7 := h.1.1
  have loop : ∀ i, i ≤ L.1 → ∀ s : Int32, ∃ f : Int32, ∀ Q : sx_Q, Q f 0 w → sx_ev d rSe_howMany 4 [.ref 16, .int x, .int s, .int (nI i)] [] w Q := by
    refine sx_for L.1 (fun s => ?_) (fun i hi ih s => ?_)
    · have nc : ¬ ¬ w.1 1 4 ≤ nI L.1 := fun c => c (by rw [h.2.1]; exact nI_le (Nat.le_refl _) (by omega))
      exact ⟨s, fun Q z => bSe_howMany_4 (fun _ => z) (fun c => absurd c nc) (fun c => absurd c nc) (fun c => absurd c nc)⟩
    · have nn : ¬ w.1 1 4 ≤ nI i := by rw [h.2.1]; exact nI_ge hi (by omega)
      by_cases e : w.1 2 (nI i).toNatClampNeg = x
      · obtain ⟨f, hf⟩ := ih (s + 1)
        exact ⟨f, fun Q z => bSe_howMany_4 (fun c => absurd c nn) (fun _ => vp_in_nI (by omega) (by decide)) (fun _ c => absurd e c) (fun _ _ => by rw [nI_1]; exact hf Q z)⟩
      · obtain ⟨f, hf⟩ := ih (s + 0)
        exact ⟨f, fun Q z => bSe_howMany_4 (fun c => absurd c nn) (fun _ => vp_in_nI (by omega) (by decide)) (fun _ _ => by rw [nI_1]; exact hf Q z) (fun _ c => absurd c e)⟩
  obtain ⟨f, hf⟩ := loop 0 (Nat.zero_le _) 0
  exact ⟨f, fun Q z => sx_met_of rfl rfl rfl rfl (bSe_howMany_0 (hf Q z))⟩
theorem spSe_hasteOf {i : Nat} (h : sg_C L w) (hi : i < L.1) : sx_pe (d + 1) rSe_hasteOf [.ref 16, .int (nI i)] w := by
  have h7 := h.1.1
  obtain ⟨f1, h1⟩ := spIn_bitCount (d := d) (w := w) (x := w.1 17 (nI i).toNatClampNeg)
  obtain ⟨f2, h2⟩ := spSe_howMany (d := d) (w := w) (x := w.1 2 (nI i).toNatClampNeg) h
  have vi : vp_in (nI i) 7 := vp_in_nI (by omega) (by decide)
  by_cases c1 : (1 : Int32) < f1
  · by_cases c2 : w.1 2 (nI i).toNatClampNeg = (2 : Int32)
    · exact ⟨_, fun Q z => sx_met_of rfl rfl rfl rfl (bSe_hasteOf_0 (f3 := 0) vi h1 (fun _ _ => h2) (fun _ _ => z) (fun _ c => absurd c2 c) (fun _ c => absurd c2 c) (fun _ c => absurd c2 c) (fun c => absurd c1 c))⟩
    · by_cases c3 : w.1 2 (nI i).toNatClampNeg = (3 : Int32)
      · exact ⟨_, fun Q z => sx_met_of rfl rfl rfl rfl (bSe_hasteOf_0 (f2 := 0) vi h1 (fun _ c => absurd c c2) (fun _ c => absurd c c2) (fun _ _ c => absurd c3 c) (fun _ _ _ => h2) (fun _ _ _ => z) (fun c => absurd c1 c))⟩
      · exact ⟨_, fun Q z => sx_met_of rfl rfl rfl rfl (bSe_hasteOf_0 (f2 := 0) (f3 := 0) vi h1 (fun _ c => absurd c c2) (fun _ c => absurd c c2) (fun _ _ _ => z) (fun _ _ c => absurd c c3) (fun _ _ c => absurd c c3) (fun c => absurd c1 c))⟩
  · exact ⟨_, fun Q z => sx_met_of rfl rfl rfl rfl (bSe_hasteOf_0 (f2 := 0) (f3 := 0) vi h1 (fun c => absurd c c1) (fun c => absurd c c1) (fun c => absurd c c1) (fun c => absurd c c1) (fun c => absurd c c1) (fun _ => z))⟩
def so_A (w0 : sx_W) (i : Nat) (os : List Nat) (u : sx_W) : Prop := sg_fr [18, 19, 20] w0 u ∧ os.Perm (List.range i) ∧ ∀ j v, os[j]? = some v → u.1 18 j = nI v
def so_B (w0 : sx_W) (i : Nat) (os : List Nat) (pl : Nat) (u : sx_W) : Prop := sg_fr [18, 19, 20] w0 u ∧ os.Perm (List.range i) ∧ pl ≤ i ∧ (∀ j v, j < pl → os[j]? = some v → u.1 18 j = nI v) ∧ ∀ j v, pl ≤ j → os[j]? = some v → u.1 18 (j + 1) = nI v
theorem so_lt {i : Nat} {os : List Nat} (h : os.Perm (List.range i)) {j v : Nat} (hj : os[j]? = some v) : v < i ∧ j < i := by
  have h1 := List.mem_range.mp (h.mem_iff.mp (List.mem_of_getElem? hj))
  have h2 : os.length = i := by rw [h.length_eq, List.length_range]
  have h3 := (List.getElem?_eq_some_iff.mp hj).1
  exact ⟨h1, by omega⟩
theorem so_ins {w0 u : sx_W} {i pl : Nat} {os : List Nat} (h : so_B w0 i os pl u) (hi : i < 2 ^ 31) : so_A w0 (i + 1) (os.insertIdx pl i) (sx_u u.1 18 pl (nI i), u.2) := by
  obtain ⟨h1, h2, h3, h4, h5⟩ := h
  have hlen : os.length = i := by rw [h2.length_eq, List.length_range]
  refine ⟨h1.trans (fun a ha => ⟨sx_u_o (fun e => ha (by rw [e]; decide)), rfl⟩), ?_, fun j v hj => ?_⟩
  · refine (List.perm_insertIdx i os (by omega)).trans ?_
    rw [List.range_succ]
    exact (h2.cons i).trans (List.perm_append_singleton i (List.range i)).symm
  · show sx_u u.1 18 pl (nI i) 18 j = _
    rw [sx_u_s]
    rw [List.getElem?_insertIdx] at hj
    by_cases e1 : j < pl
    · rw [if_pos e1] at hj
      rw [if_neg (by omega)]
      exact h4 j v e1 hj
    · rw [if_neg e1] at hj
      by_cases e2 : j = pl
      · rw [if_pos e2] at hj
        rw [if_pos e2]
        split at hj
        · cases hj; rfl
        · cases hj
      · rw [if_neg e2] at hj
        rw [if_neg e2]
        obtain ⟨k, rfl⟩ : ∃ k, j = k + 1 := ⟨j - 1, by omega⟩
        exact h5 k v (by omega) hj
theorem spSe_sortLodgers (h : sg_Co L b r w) (hop : ∀ i, i < L.1 → w.1 17 i = nI (op i) ∧ op i < 256) : sx_x (d + 2) rSe_sortLodgers [.ref 16] w (fun f fl w' => f = 0 ∧ fl = 0 ∧ (∃ os, sg_se L op r os w') ∧ sg_fr [18, 19, 20] w w') := by
  have h7 := h.1.1.1
  -- the second loop
  have second : ∀ os : List Nat, os.Perm (List.range L.1) → ∀ k, k ≤ L.1 → ∀ u, sg_fr [18, 19, 20] w u → (∀ j v, os[j]? = some v → u.1 18 j = nI v) → (∀ j, k ≤ j → j ≤ L.1 → u.1 20 j = nI (sg_su op r (os.drop j))) →
      sx_xe (d + 2) rSe_sortLodgers 108 [.ref 16, .int (nI k - 1), .null] u (fun f fl w' => f = 0 ∧ fl = 0 ∧ (∃ os, sg_se L op r os w') ∧ sg_fr [18, 19, 20] w w') := by
    intro os hperm
    have hlen : os.length = L.1 := by rw [hperm.length_eq, List.length_range]
    intro k
    induction k with
    | zero =>
      intro _ u hf hor hsu
      have hop' : ∀ i, i < L.1 → u.1 17 i = nI (op i) ∧ op i < 256 := fun i hi => by rw [(hf 17 (by decide)).1]; exact hop i hi
      refine ⟨0, 0, u, fun Q z => bSe_sortLodgers_108 (f1 := 0) (fun _ => z) (fun c => absurd (by decide) c) (fun c => absurd (by decide) c) (fun c => absurd (by decide) c) (fun c => absurd (by decide) c) (fun c => absurd (by decide) c) (fun c => absurd (by decide) c) (fun c => absurd (by decide) c) (fun c => absurd (by decide) c), rfl, rfl, ⟨os, hop', hperm, fun pre rest e => ?_⟩, hf⟩
      have e1 : os.drop pre.length = rest := by rw [e]; simp
      have e2 : pre.length ≤ L.1 := by rw [← hlen, e, List.length_append]; omega
      refine ⟨by rw [hsu _ (Nat.zero_le _) e2, e1], fun o t e3 => hor _ _ ?_⟩
      rw [e, e3]
      simp
    | succ k ih =>
      intro hk u hf hor hsu
      have hCo := h.fr hf (by decide)
      have hcl : (nI k).toNatClampNeg = k := nI_clamp (by omega)
      have hcl1 : (nI k + 1).toNatClampNeg = k + 1 := by rw [nI_1]; exact nI_clamp (by omega)
      obtain ⟨o, ho⟩ : ∃ o, os[k]? = some o := ⟨_, List.getElem?_eq_getElem (by omega)⟩
      have hol := (so_lt hperm ho).1
      have h18 : u.1 18 (nI k).toNatClampNeg = nI o := by rw [hcl]; exact hor k o ho
      have hco : (nI o).toNatClampNeg = o := nI_clamp (by omega)
      have hro := hCo.2.2.2.2 o (by omega)
      have hopo : u.1 17 o = nI (op o) ∧ op o < 256 := by rw [(hf 17 (by decide)).1]; exact hop o hol
      have hhold : sx_de (d + 1) rSb_holds [.int (u.1 17 (u.1 18 (nI k).toNatClampNeg).toNatClampNeg), .int (u.1 5 (u.1 18 (nI k).toNatClampNeg).toNatClampNeg)] u (sz_b ((op o).testBit (r o))) 0 u := by
        rw [h18, hco, hopo.1, hro.1]
        exact spSb_holds (by have := hopo.2; omega) (by have := hro.2; omega)
      have hdrop : os.drop k = o :: os.drop (k + 1) := by
        have hk2 : k < os.length := by omega
        rw [List.drop_eq_getElem_cons hk2]
        congr 1
        rw [List.getElem?_eq_getElem hk2] at ho
        exact Option.some.inj ho
      have hsu1 := hsu (k + 1) (Nat.le_refl _) hk
      have esu : sg_su op r (os.drop k) = sg_su op r (os.drop (k + 1)) + (if (op o).testBit (r o) then 0 else 1) := by
        rw [hdrop]
        unfold sg_su
        rw [List.countP_cons]
        cases (op o).testBit (r o) <;> simp
      have np : ¬ nI k < 0 := nI_pos (by omega)
      rw [show nI (k + 1) - 1 = nI k from nI_pred k]
      have step : ∀ x : Int32, x = nI (sg_su op r (os.drop k)) → sx_xe (d + 2) rSe_sortLodgers 108 [.ref 16, .int (nI k - 1), .null] (sx_u u.1 20 k x, u.2) (fun f fl w' => f = 0 ∧ fl = 0 ∧ (∃ os, sg_se L op r os w') ∧ sg_fr [18, 19, 20] w w') := by
        intro x hx
        refine ih (by omega) _ (hf.trans (fun a ha => ⟨sx_u_o (fun e => ha (by rw [e]; decide)), rfl⟩)) (fun j v hj => ?_) (fun j h1 h2 => ?_)
        · show sx_u u.1 20 k x 18 j = _
          rw [sx_u_o (by decide)]; exact hor j v hj
        · show sx_u u.1 20 k x 20 j = _
          rw [sx_u_s]
          by_cases e : j = k
          · rw [if_pos e, hx, e]
          · rw [if_neg e]; exact hsu j (by omega) h2
      have em : nI k + (-1 : Int32) = nI k - 1 := by rw [Int32.sub_eq_add_neg]
      cases hb : (op o).testBit (r o) with
      | true =>
        rw [hb] at hhold esu
        obtain ⟨f, fl, w', hev, hp⟩ := step (nI (sg_su op r (os.drop (k + 1))) + 0) (by rw [esu, show (0 : Int32) = nI 0 from rfl, nI_add]; rfl)
        refine ⟨f, fl, w', fun Q z => bSe_sortLodgers_108 (fun c => absurd c np) (fun _ => vp_in_nI (by omega) (by decide)) (fun _ => by rw [nI_1]; exact vp_in_nI (by omega) (by decide)) (fun _ => by rw [h18]; exact vp_in_nI (by omega) (by decide)) (fun _ => hhold) (fun _ c => absurd c (by decide)) (fun _ c => absurd c (by decide)) (fun _ _ => vp_in_nI (by omega) (by decide)) (fun _ _ => ?_), hp⟩
        rw [em, hcl, hcl1, hsu1]
        exact hev Q z
      | false =>
        rw [hb] at hhold esu
        obtain ⟨f, fl, w', hev, hp⟩ := step (nI (sg_su op r (os.drop (k + 1))) + 1) (by rw [esu, show (1 : Int32) = nI 1 from rfl, nI_add]; rfl)
        refine ⟨f, fl, w', fun Q z => bSe_sortLodgers_108 (fun c => absurd c np) (fun _ => vp_in_nI (by omega) (by decide)) (fun _ => by rw [nI_1]; exact vp_in_nI (by omega) (by decide)) (fun _ => by rw [h18]; exact vp_in_nI (by omega) (by decide)) (fun _ => hhold) (fun _ _ => vp_in_nI (by omega) (by decide)) (fun _ _ => ?_) (fun _ c => absurd rfl c) (fun _ c => absurd rfl c), hp⟩
        rw [em, hcl, hcl1, hsu1]
        exact hev Q z
  -- the first loop
  have first : ∀ i, i ≤ L.1 → ∀ os u, so_A w i os u → sx_xe (d + 2) rSe_sortLodgers 2 [.ref 16, .int (nI i), .null] u (fun f fl w' => f = 0 ∧ fl = 0 ∧ (∃ os, sg_se L op r os w') ∧ sg_fr [18, 19, 20] w w') := by
    refine sx_for L.1 (fun os u hA => ?_) (fun i hi ih os u hA => ?_)
    · have hCo := h.fr hA.1 (by decide)
      have hn := hCo.1.2.1
      have nc : ¬ ¬ u.1 1 4 ≤ nI L.1 := fun c => c (by rw [hn]; exact nI_le (Nat.le_refl _) (by omega))
      have hcl : (u.1 1 4).toNatClampNeg = L.1 := by rw [hn]; exact nI_clamp (by omega)
      have hlen : os.length = L.1 := by rw [hA.2.1.length_eq, List.length_range]
      obtain ⟨f, fl, w', hev, hp⟩ := second os hA.2.1 L.1 (Nat.le_refl _) (sx_u u.1 20 L.1 0, u.2) (hA.1.trans (fun a ha => ⟨sx_u_o (fun e => ha (by rw [e]; decide)), rfl⟩)) (fun j v hj => by
        show sx_u u.1 20 L.1 0 18 j = _
        rw [sx_u_o (by decide)]; exact hA.2.2 j v hj) (fun j h1 h2 => by
        show sx_u u.1 20 L.1 0 20 j = _
        have : j = L.1 := by omega
        rw [sx_u_s, if_pos this, this, List.drop_eq_nil_of_le (by omega)]
        rfl)
      refine ⟨f, fl, w', fun Q z => bSe_sortLodgers_2 (f1 := 0) (fun _ => by rw [hn]; exact vp_in_nI (by omega) (by decide)) (fun _ => ?_) (fun c => absurd c nc) (fun c => absurd c nc) (fun c => absurd c nc), hp⟩
      rw [hcl, hn]
      exact hev Q z
    · have hCo := h.fr hA.1 (by decide)
      have hn := hCo.1.2.1
      have nn : ¬ u.1 1 4 ≤ nI i := by rw [hn]; exact nI_ge hi (by omega)
      have hcl : (nI i).toNatClampNeg = i := nI_clamp (by omega)
      obtain ⟨f1, hf1⟩ := spSe_hasteOf (d := d) hCo.1 hi
      have inner : ∀ pl, pl ≤ i → ∀ u, so_B w i os pl u → sx_xe (d + 2) rSe_sortLodgers 26 [.ref 16, .int (nI i), .int (nI pl)] u (fun f fl w' => f = 0 ∧ fl = 0 ∧ (∃ os, sg_se L op r os w') ∧ sg_fr [18, 19, 20] w w') := by
        intro pl
        induction pl with
        | zero =>
          intro _ u hB
          obtain ⟨f, fl, w', hev, hp⟩ := ih _ _ (so_ins hB (by omega))
          refine ⟨f, fl, w', fun Q z => bSe_sortLodgers_26 (fun _ => vp_in_nI (by omega) (by decide)) (fun _ => ?_) (fun c => absurd (by decide) c) (fun c => absurd (by decide) c) (fun c => absurd (by decide) c) (fun c => absurd (by decide) c) (fun c => absurd (by decide) c) (fun c => absurd (by decide) c) (fun c => absurd (by decide) c), hp⟩
          rw [nI_1]
          exact hev Q z
        | succ pl ih2 =>
          intro hpl u hB
          have np : ¬ nI (pl + 1) ≤ 0 := nI_nle (by omega) (by omega)
          have hlen : os.length = i := by rw [hB.2.1.length_eq, List.length_range]
          obtain ⟨v, hv⟩ : ∃ v, os[pl]? = some v := ⟨_, List.getElem?_eq_getElem (by omega)⟩
          have hvl := (so_lt hB.2.1 hv).1
          have e0 : nI (pl + 1) - 1 = nI pl := nI_pred pl
          have hcp : (nI pl).toNatClampNeg = pl := nI_clamp (by omega)
          have hcp1 : (nI (pl + 1)).toNatClampNeg = pl + 1 := nI_clamp (by omega)
          have h18 : u.1 18 pl = nI v := hB.2.2.2.1 pl v (by omega) hv
          have em : nI (pl + 1) + (-1 : Int32) = nI pl := pk_m1 pl
          have vv : vp_in (u.1 18 (nI (pl + 1) - 1).toNatClampNeg) 7 := by rw [e0, hcp, h18]; exact vp_in_nI (by omega) (by decide)
          by_cases hc : u.1 19 (u.1 18 (nI (pl + 1) - 1).toNatClampNeg).toNatClampNeg ≤ u.1 19 (nI i).toNatClampNeg
          · obtain ⟨f, fl, w', hev, hp⟩ := ih _ _ (so_ins hB (by omega))
            refine ⟨f, fl, w', fun Q z => bSe_sortLodgers_26 (fun c => absurd c np) (fun c => absurd c np) (fun _ => by rw [e0]; exact vp_in_nI (by omega) (by decide)) (fun _ => vv) (fun _ => vp_in_nI (by omega) (by decide)) (fun _ _ => vp_in_nI (by omega) (by decide)) (fun _ _ => ?_) (fun _ c => absurd hc c) (fun _ c => absurd hc c), hp⟩
            rw [nI_1, hcp1]
            exact hev Q z
          · obtain ⟨f, fl, w', hev, hp⟩ := ih2 (by omega) (sx_u u.1 18 (pl + 1) (u.1 18 pl), u.2) (by
              obtain ⟨b1, b2, b3, b4, b5⟩ := hB
              refine ⟨b1.trans (fun a ha => ⟨sx_u_o (fun e => ha (by rw [e]; decide)), rfl⟩), b2, by omega, fun j v hj hv => ?_, fun j v hj hv => ?_⟩
              · show sx_u u.1 18 (pl + 1) _ 18 j = _
                rw [sx_u_s, if_neg (by omega)]; exact b4 j v (by omega) hv
              · show sx_u u.1 18 (pl + 1) _ 18 (j + 1) = _
                rw [sx_u_s]
                by_cases e : j = pl
                · rw [if_pos (by omega)]
                  rw [e] at hv
                  exact b4 pl v (by omega) hv
                · rw [if_neg (by omega)]; exact b5 j v (by omega) hv)
            refine ⟨f, fl, w', fun Q z => bSe_sortLodgers_26 (fun c => absurd c np) (fun c => absurd c np) (fun _ => by rw [e0]; exact vp_in_nI (by omega) (by decide)) (fun _ => vv) (fun _ => vp_in_nI (by omega) (by decide)) (fun _ c => absurd c hc) (fun _ c => absurd c hc) (fun _ _ => vp_in_nI (by omega) (by decide)) (fun _ _ => ?_), hp⟩
            rw [em, hcp1, e0, hcp]
            exact hev Q z
      obtain ⟨f, fl, w', hev, hp⟩ := inner i (Nat.le_refl _) (sx_u u.1 19 i f1, u.2) (by
        obtain ⟨a1, a2, a3⟩ := hA
        refine ⟨a1.trans (fun a ha => ⟨sx_u_o (fun e => ha (by rw [e]; decide)), rfl⟩), a2, Nat.le_refl _, fun j v hj hv => ?_, fun j v hj hv => ?_⟩
        · show sx_u u.1 19 i f1 18 j = _
          rw [sx_u_o (by decide)]; exact a3 j v hv
        · have := (so_lt a2 hv).2
          omega)
      refine ⟨f, fl, w', fun Q z => bSe_sortLodgers_2 (fun c => absurd c nn) (fun c => absurd c nn) (fun _ => hf1) (fun _ => vp_in_nI (by omega) (by decide)) (fun _ => ?_), hp⟩
      rw [hcl]
      exact hev Q z
  obtain ⟨f, fl, w', hev, hp⟩ := first 0 (Nat.zero_le _) [] w ⟨sg_fr.rfl', List.Perm.refl _, fun j v hj => by cases hj⟩
  exact ⟨f, fl, w', fun Q z => sx_met_of rfl rfl rfl rfl (bSe_sortLodgers_0 (hev Q z)), hp⟩
theorem spSe_openAll (h : sg_Co L b r w) : sx_x (d + 3) rSe_openAll [.ref 16] w (fun f fl w' => f = 0 ∧ fl = 0 ∧ (∃ os, sg_se L (sg_mays L) r os w') ∧ sg_fr [17, 18, 19, 20] w w') := by
  have h7 := h.1.1.1
  have loop : ∀ i, i ≤ L.1 → ∀ u, sg_fr [17] w u → (∀ j, j < i → u.1 17 j = nI (sg_mays L j)) → sx_xe (d + 3) rSe_openAll 2 [.ref 16, .int (nI i)] u (fun f fl w' => f = 0 ∧ fl = 0 ∧ (∃ os, sg_se L (sg_mays L) r os w') ∧ sg_fr [17, 18, 19, 20] w w') := by
    refine sx_for L.1 (fun u hf ha => ?_) (fun i hi ih u hf ha => ?_)
    · have hCo := h.fr hf (by decide)
      have nc : ¬ ¬ u.1 1 4 ≤ nI L.1 := fun c => c (by rw [hCo.1.2.1]; exact nI_le (Nat.le_refl _) (by omega))
      obtain ⟨f, fl, w', hde, hp1, hp2, hp3, hp4⟩ := spSe_sortLodgers (d := d) (op := sg_mays L) hCo (fun i hi => ⟨ha i hi, sg_mays_lt L i⟩)
      subst hp1; subst hp2
      exact ⟨0, 0, w', fun Q z => bSe_openAll_2 (fun _ => hde) (fun _ => z) (fun c => absurd c nc) (fun c => absurd c nc), rfl, rfl, hp3, (hf.mono (by decide)).trans (hp4.mono (by decide))⟩
    · have hCo := h.fr hf (by decide)
      have nn : ¬ u.1 1 4 ≤ nI i := by rw [hCo.1.2.1]; exact nI_ge hi (by omega)
      have hcl : (nI i).toNatClampNeg = i := nI_clamp (by omega)
      obtain ⟨f, fl, w', hev, hp⟩ := ih (sx_u u.1 17 i (u.1 12 i), u.2) (hf.trans (fun a ha => ⟨sx_u_o (fun e => ha (by rw [e]; decide)), rfl⟩)) (fun j hj => by
        show sx_u u.1 17 i _ 17 j = _
        rw [sx_u_s]
        by_cases e : j = i
        · rw [if_pos e, (hCo.2.1 i hi).1, e]
        · rw [if_neg e]; exact ha j (by omega))
      refine ⟨f, fl, w', fun Q z => bSe_openAll_2 (w1 := u) (fun c => absurd c nn) (fun c => absurd c nn) (fun _ => vp_in_nI (by omega) (by decide)) (fun _ => ?_), hp⟩
      rw [hcl, nI_1]
      exact hev Q z
  obtain ⟨f, fl, w', hev, hp⟩ := loop 0 (Nat.zero_le _) w sg_fr.rfl' (fun j hj => by omega)
  exact ⟨f, fl, w', fun Q z => sx_met_of rfl rfl rfl rfl (bSe_openAll_0 (hev Q z)), hp⟩
end
