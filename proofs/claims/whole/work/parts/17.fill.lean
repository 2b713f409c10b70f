/-! ===== the class's search: fillFrom ===== -/
/-- the class's own cells: lodgers, Stays, beds, the row -/
def sg_Co (L : sg_L) (b : Nat) (r : Nat → Nat) (w : sx_W) : Prop := sg_C L w ∧ sg_St L w ∧ w.1 1 5 = nI b ∧ b ≤ 7 ∧ ∀ i, i < 7 → w.1 5 i = nI (r i) ∧ r i < 8
theorem sg_St.fr {L : sg_L} {w w' : sx_W} {cs : List Nat} (h : sg_St L w) (hf : sg_fr cs w w') (h0 : 12 ∉ cs) (h1 : 13 ∉ cs) (h2 : 14 ∉ cs) (h3 : 15 ∉ cs) : sg_St L w' := by
  intro l hl
  obtain ⟨a, bb⟩ := h l hl
  refine ⟨by rw [(hf 12 h0).1]; exact a, fun q hq => ?_⟩
  obtain ⟨x1, x2, x3⟩ := bb q hq
  exact ⟨by rw [(hf 13 h1).2]; exact x1, by rw [(hf 14 h2).2]; exact x2, by rw [(hf 15 h3).2]; exact x3⟩
theorem sg_Co.fr {L : sg_L} {b : Nat} {r : Nat → Nat} {w w' : sx_W} {cs : List Nat} (h : sg_Co L b r w) (hf : sg_fr cs w w') (hc : ∀ a ∈ [1, 2, 3, 4, 5, 12, 13, 14, 15], a ∉ cs) : sg_Co L b r w' := by
  obtain ⟨h1, h2, h3, h4, h5⟩ := h
  refine ⟨h1.fr hf (hc 1 (by decide)) (hc 2 (by decide)) (hc 3 (by decide)) (hc 4 (by decide)), h2.fr hf (hc 12 (by decide)) (hc 13 (by decide)) (hc 14 (by decide)) (hc 15 (by decide)), by rw [(hf 1 (hc 1 (by decide))).1]; exact h3, h4, fun i hi => ?_⟩
  rw [(hf 5 (hc 5 (by decide))).1]
  exact h5 i hi
/-- the search is set up: what is open, the order, the sure changes -/
def sg_se (L : sg_L) (op r : Nat → Nat) (os : List Nat) (w : sx_W) : Prop := (∀ i, i < L.1 → w.1 17 i = nI (op i) ∧ op i < 256) ∧ os.Perm (List.range L.1) ∧ ∀ (pre rest : List Nat), os = pre ++ rest → w.1 20 pre.length = nI (sg_su op r rest) ∧ ∀ o t, rest = o :: t → w.1 18 pre.length = nI o
theorem sg_se.fr {L : sg_L} {op r : Nat → Nat} {os : List Nat} {w w' : sx_W} {cs : List Nat} (h : sg_se L op r os w) (hf : sg_fr cs w w') (h0 : 17 ∉ cs) (h1 : 18 ∉ cs) (h2 : 20 ∉ cs) : sg_se L op r os w' := by
  obtain ⟨a1, a2, a3⟩ := h
  refine ⟨fun i hi => by rw [(hf 17 h0).1]; exact a1 i hi, a2, fun pre rest e => ?_⟩
  obtain ⟨b1, b2⟩ := a3 pre rest e
  exact ⟨by rw [(hf 20 h2).1]; exact b1, fun o t e2 => by rw [(hf 18 h1).1]; exact b2 o t e2⟩
section
variable {d : Nat} {w : sx_W} {L : sg_L} {b : Nat} {op r : Nat → Nat}
/-- one part of one lodger, both ways told as one -/
theorem se_f37 {Q : sx_Q} {bb pl c o q : Nat} {S : List (Nat × Nat)} (h : sg_Co L b r w) (hbb : bb ≤ 7) (hop : w.1 17 o = nI (op o) ∧ op o < 256) (ho : o < L.1) (hq : q < 8) (hc : c < 100) (hS : S.length ≤ 6)
    (skip : (¬ (q = r o ∨ 1 ≤ c) ∨ (op o).testBit q = false ∨ sg_jn L bb S o q = false) → sx_ev (d + 1) rSe_fillFrom 37 [.ref 16, .int (nI pl), .long (lN (sg_enc L bb S)), .null, .int (nI c), .int (nI o), .int (nI (q + 1)), .null, .null, .null] [] w Q)
    (go : (q = r o ∨ 1 ≤ c) → (op o).testBit q = true → sg_jn L bb S o q = true → ∃ (f3 : Int32) (w3 : sx_W), sx_de d rSe_fillFrom [.ref 16, .int (nI (pl + 1)), .long (lN (sg_enc L bb ((o, q) :: S))), .int (nI (sg_cc r c o q))] w f3 0 w3 ∧ (f3 = 0 → sx_ev (d + 1) rSe_fillFrom 37 [.ref 16, .int (nI pl), .long (lN (sg_enc L bb S)), .null, .int (nI c), .int (nI o), .int (nI (q + 1)), .null, .null, .null] [] w3 Q) ∧ (¬ f3 = 0 → Q 1 0 (sx_u w3.1 21 o (nI q), w3.2))) :
    sx_ev (d + 1) rSe_fillFrom 37 [.ref 16, .int (nI pl), .long (lN (sg_enc L bb S)), .null, .int (nI c), .int (nI o), .int (nI q), .null, .null, .null] [] w Q := by
  have h7 := h.1.1.1
  have hco : (nI o).toNatClampNeg = o := nI_clamp (by omega)
  have n8 : ¬ (8 : Int32) ≤ nI q := nI_ge (b := 8) hq (by omega)
  have ero : w.1 5 (nI o).toNatClampNeg = nI (r o) := by rw [hco]; exact (h.2.2.2.2 o (by omega)).1
  have eqr : (nI q = w.1 5 (nI o).toNatClampNeg) ↔ q = r o := by
    rw [ero]; exact nI_eq (by omega) (by have := (h.2.2.2.2 o (by omega)).2; omega)
  have hhold : sx_de d rSb_holds [.int (w.1 17 (nI o).toNatClampNeg), .int (nI q)] w (sz_b ((op o).testBit q)) 0 w := by
    rw [hco, hop.1]
    exact spSb_holds (by have := hop.2; omega) (by omega)
  have hjoin := spSt_joined (d := d) (w := w) ((h.2.1 o ho).2 q hq) hS hbb (show o < 7 by omega) hq
  have hm1 : ∀ (X : Nat), sg_jn L bb S o q = true → ¬ (if sg_jn L bb S o q then lN (sg_enc L bb ((o, q) :: S)) else (-1 : Int64)) = (-1 : Int64) := fun _ hj hc => by
    rw [if_pos hj] at hc
    have hlt := sg_enc_lt L bb (S := (o, q) :: S) (by simp; omega)
    have h1 := pk_lT (n := sg_enc L bb ((o, q) :: S)) (by omega)
    rw [hc] at h1
    have h2 : (-1 : Int64).toInt = -1 := rfl
    omega
  have nc0 : ¬ nI c < 0 := nI_pos (by omega)
  have sub : 1 ≤ c → (nI c - 1 = nI (c - 1) ∧ ¬ nI c - 1 < 0) := fun h1 => by
    obtain ⟨c2, rfl⟩ : ∃ c2, c = c2 + 1 := ⟨c - 1, by omega⟩
    rw [nI_pred]
    exact ⟨rfl, nI_pos (by omega)⟩
  have sub0 : ¬ 1 ≤ c → nI c - 1 < 0 := fun h1 => by
    have : c = 0 := by omega
    rw [this]; decide
  by_cases hqr : q = r o
  · have yr := eqr.mpr hqr
    by_cases hb : (op o).testBit q = true
    · by_cases hj : sg_jn L bb S o q = true
      · obtain ⟨f3, w3, g1, g2, g3⟩ := go (Or.inl hqr) hb hj
        rw [sg_cc, if_pos hqr] at g1
        refine bSe_fillFrom_37 (f1 := 0) (f2 := 0) (f3 := 0) (w3 := w) (f6 := f3) (w6 := w3) (fun c => absurd c n8) (fun _ => vp_in_nI (by omega) (by decide)) (fun _ c => absurd yr c) (fun _ c => absurd yr c) (fun _ c => absurd yr c) (fun _ c => absurd yr c) (fun _ c => absurd yr c) (fun _ c => absurd yr c) (fun _ c => absurd yr c) (fun _ c => absurd yr c) (fun _ _ c => absurd c nc0) (fun _ _ _ => hhold) (fun _ _ _ _ => hjoin) (fun _ _ _ _ c => absurd c (hm1 0 hj)) (fun _ _ _ _ _ => ?_) (fun _ _ _ _ _ c => ?_) (fun _ _ _ _ _ c => ?_) (fun _ _ _ c => absurd c (by rw [hb]; decide))
        · rw [nI_1, if_pos hj]; exact g1
        · rw [nI_1]; exact g2 c
        · rw [hco]; exact g3 c
      · have hj2 : sg_jn L bb S o q = false := by simpa using hj
        refine bSe_fillFrom_37 (f1 := 0) (f2 := 0) (f3 := 0) (w3 := w) (f6 := 0) (w6 := w) (fun c => absurd c n8) (fun _ => vp_in_nI (by omega) (by decide)) (fun _ c => absurd yr c) (fun _ c => absurd yr c) (fun _ c => absurd yr c) (fun _ c => absurd yr c) (fun _ c => absurd yr c) (fun _ c => absurd yr c) (fun _ c => absurd yr c) (fun _ c => absurd yr c) (fun _ _ c => absurd c nc0) (fun _ _ _ => hhold) (fun _ _ _ _ => hjoin) (fun _ _ _ _ _ => ?_) (fun _ _ _ _ c => absurd (by rw [hj2]; rfl) c) (fun _ _ _ _ c => absurd (by rw [hj2]; rfl) c) (fun _ _ _ _ c => absurd (by rw [hj2]; rfl) c) (fun _ _ _ c => absurd c (by rw [hb]; decide))
        rw [nI_1]; exact skip (Or.inr (Or.inr hj2))
    · have hb2 : (op o).testBit q = false := by simpa using hb
      have z0 : sz_b ((op o).testBit q) = 0 := by rw [hb2]; rfl
      refine bSe_fillFrom_37 (f1 := 0) (f2 := 0) (f3 := 0) (w3 := w) (f5 := 0) (f6 := 0) (w6 := w) (fun c => absurd c n8) (fun _ => vp_in_nI (by omega) (by decide)) (fun _ c => absurd yr c) (fun _ c => absurd yr c) (fun _ c => absurd yr c) (fun _ c => absurd yr c) (fun _ c => absurd yr c) (fun _ c => absurd yr c) (fun _ c => absurd yr c) (fun _ c => absurd yr c) (fun _ _ c => absurd c nc0) (fun _ _ _ => hhold) (fun _ _ _ c => absurd z0 c) (fun _ _ _ c => absurd z0 c) (fun _ _ _ c => absurd z0 c) (fun _ _ _ c => absurd z0 c) (fun _ _ _ c => absurd z0 c) (fun _ _ _ _ => ?_)
      rw [nI_1]; exact skip (Or.inr (Or.inl hb2))
  · have nr : ¬ nI q = w.1 5 (nI o).toNatClampNeg := fun c => hqr (eqr.mp c)
    by_cases hc1 : 1 ≤ c
    · obtain ⟨es, en⟩ := sub hc1
      by_cases hb : (op o).testBit q = true
      · by_cases hj : sg_jn L bb S o q = true
        · obtain ⟨f3, w3, g1, g2, g3⟩ := go (Or.inr hc1) hb hj
          rw [sg_cc, if_neg hqr] at g1
          refine bSe_fillFrom_37 (f4 := 0) (f5 := 0) (f6 := 0) (w6 := w) (f3 := f3) (w3 := w3) (fun c => absurd c n8) (fun _ => vp_in_nI (by omega) (by decide)) (fun _ _ c => absurd c en) (fun _ _ _ => hhold) (fun _ _ _ _ => hjoin) (fun _ _ _ _ c => absurd c (hm1 0 hj)) (fun _ _ _ _ _ => ?_) (fun _ _ _ _ _ c => ?_) (fun _ _ _ _ _ c => ?_) (fun _ _ _ c => absurd c (by rw [hb]; decide)) (fun _ c => absurd c nr) (fun _ c => absurd c nr) (fun _ c => absurd c nr) (fun _ c => absurd c nr) (fun _ c => absurd c nr) (fun _ c => absurd c nr) (fun _ c => absurd c nr) (fun _ c => absurd c nr)
          · rw [nI_1, if_pos hj, es]; exact g1
          · rw [nI_1]; exact g2 c
          · rw [hco]; exact g3 c
        · have hj2 : sg_jn L bb S o q = false := by simpa using hj
          refine bSe_fillFrom_37 (f4 := 0) (f5 := 0) (f6 := 0) (w6 := w) (f3 := 0) (w3 := w) (fun c => absurd c n8) (fun _ => vp_in_nI (by omega) (by decide)) (fun _ _ c => absurd c en) (fun _ _ _ => hhold) (fun _ _ _ _ => hjoin) (fun _ _ _ _ _ => ?_) (fun _ _ _ _ c => absurd (by rw [hj2]; rfl) c) (fun _ _ _ _ c => absurd (by rw [hj2]; rfl) c) (fun _ _ _ _ c => absurd (by rw [hj2]; rfl) c) (fun _ _ _ c => absurd c (by rw [hb]; decide)) (fun _ c => absurd c nr) (fun _ c => absurd c nr) (fun _ c => absurd c nr) (fun _ c => absurd c nr) (fun _ c => absurd c nr) (fun _ c => absurd c nr) (fun _ c => absurd c nr) (fun _ c => absurd c nr)
          rw [nI_1]; exact skip (Or.inr (Or.inr hj2))
      · have hb2 : (op o).testBit q = false := by simpa using hb
        have z0 : sz_b ((op o).testBit q) = 0 := by rw [hb2]; rfl
        refine bSe_fillFrom_37 (f4 := 0) (f5 := 0) (f6 := 0) (w6 := w) (f2 := 0) (f3 := 0) (w3 := w) (fun c => absurd c n8) (fun _ => vp_in_nI (by omega) (by decide)) (fun _ _ c => absurd c en) (fun _ _ _ => hhold) (fun _ _ _ c => absurd z0 c) (fun _ _ _ c => absurd z0 c) (fun _ _ _ c => absurd z0 c) (fun _ _ _ c => absurd z0 c) (fun _ _ _ c => absurd z0 c) (fun _ _ _ _ => ?_) (fun _ c => absurd c nr) (fun _ c => absurd c nr) (fun _ c => absurd c nr) (fun _ c => absurd c nr) (fun _ c => absurd c nr) (fun _ c => absurd c nr) (fun _ c => absurd c nr) (fun _ c => absurd c nr)
        rw [nI_1]; exact skip (Or.inr (Or.inl hb2))
    · have lt0 := sub0 hc1
      refine bSe_fillFrom_37 (f1 := 0) (f2 := 0) (f3 := 0) (w3 := w) (f4 := 0) (f5 := 0) (f6 := 0) (w6 := w) (fun c => absurd c n8) (fun _ => vp_in_nI (by omega) (by decide)) (fun _ _ _ => ?_) (fun _ _ c => absurd lt0 c) (fun _ _ c => absurd lt0 c) (fun _ _ c => absurd lt0 c) (fun _ _ c => absurd lt0 c) (fun _ _ c => absurd lt0 c) (fun _ _ c => absurd lt0 c) (fun _ _ c => absurd lt0 c) (fun _ c => absurd c nr) (fun _ c => absurd c nr) (fun _ c => absurd c nr) (fun _ c => absurd c nr) (fun _ c => absurd c nr) (fun _ c => absurd c nr) (fun _ c => absurd c nr) (fun _ c => absurd c nr)
      rw [nI_1]; exact skip (Or.inl (by omega))
/-- what fillFrom finds -/
def se_fp (L : sg_L) (b : Nat) (op r : Nat → Nat) (rest : List Nat) (S : List (Nat × Nat)) (c : Nat) (w : sx_W) (f : Int32) (fl : Int64) (w' : sx_W) : Prop := fl = 0 ∧ ((f = 1 ∧ ∃ σ, sg_sol L b op r rest S c σ ∧ sg_fr [21] w w' ∧ (∀ o, o ∈ rest → w'.1 21 o = nI (σ o)) ∧ ∀ i, i ∉ rest → w'.1 21 i = w.1 21 i) ∨ (f = 0 ∧ w' = w ∧ ∀ σ, ¬ sg_sol L b op r rest S c σ))
theorem spSe_fillFrom {os : List Nat} {bb : Nat} (h : sg_Co L b r w) (hbb : bb ≤ 7) (hse : sg_se L op r os w) : ∀ (rest pre : List Nat) (S : List (Nat × Nat)) (c : Nat), os = pre ++ rest → S.length = pre.length → sg_vd L bb S → c < 100 →
    sx_x (d + rest.length) rSe_fillFrom [.ref 16, .int (nI pre.length), .long (lN (sg_enc L bb S)), .int (nI c)] w (se_fp L bb op r rest S c w) := by
  have h7 := h.1.1.1
  have hlen : os.length = L.1 := by rw [hse.2.1.length_eq, List.length_range]
  have hnd : os.Nodup := hse.2.1.nodup_iff.mpr List.nodup_range
  intro rest
  induction rest with
  | nil =>
    intro pre S c e hS hv hc
    have ep : pre.length = L.1 := by rw [← hlen, e, List.append_nil]
    refine ⟨1, 0, w, fun Q z => sx_met_of rfl rfl rfl rfl (bSe_fillFrom_0 (fun c => absurd c ?_) (fun c => absurd c ?_) (fun c => absurd c ?_) (fun c => absurd c ?_) (fun _ => z)), rfl, Or.inl ⟨rfl, fun _ => 0, ⟨fun o ho => absurd ho List.not_mem_nil, hv, Nat.zero_le _⟩, sg_fr.rfl', fun o ho => absurd ho List.not_mem_nil, fun _ _ => rfl⟩⟩ <;>
    (rw [h.1.2.1, ep]; exact nI_nlt (Nat.le_refl _) (by omega))
  | cons o t ih =>
    intro pre S c e hS hv hc
    have hlp : pre.length < L.1 := by rw [← hlen, e, List.length_append, List.length_cons]; omega
    have ho : o < L.1 := List.mem_range.mp (hse.2.1.mem_iff.mp (by rw [e]; simp))
    have hot : o ∉ t := by
      rw [e] at hnd
      have := (List.nodup_append.mp hnd).2.1
      exact (List.nodup_cons.mp this).1
    obtain ⟨s1, s2⟩ := hse.2.2 pre (o :: t) e
    have hcl : (nI pre.length).toNatClampNeg = pre.length := nI_clamp (by omega)
    have lt0 : nI pre.length < w.1 1 4 := by rw [h.1.2.1]; exact nI_lt hlp (by omega)
    have hsu : sg_su op r (o :: t) ≤ 7 := Nat.le_trans (List.countP_le_length) (by
      have : (o :: t).length ≤ os.length := by rw [e, List.length_append]; omega
      omega)
    by_cases hsure : sg_su op r (o :: t) ≤ c
    · have main : ∀ q, q ≤ 8 → (∀ σ, sg_sol L bb op r (o :: t) S c σ → q ≤ σ o) → sx_xe (d + (t.length + 1)) rSe_fillFrom 37 [.ref 16, .int (nI pre.length), .long (lN (sg_enc L bb S)), .null, .int (nI c), .int (nI o), .int (nI q), .null, .null, .null] w (se_fp L bb op r (o :: t) S c w) := by
        refine sx_for 8 (fun hno => ?_) (fun q hq ih2 hno => ?_)
        · refine ⟨0, 0, w, fun Q z => bSe_fillFrom_37 (f1 := 0) (f2 := 0) (f3 := 0) (w3 := w) (f4 := 0) (f5 := 0) (f6 := 0) (w6 := w) (fun _ => z) (fun c => absurd (by decide) c) (fun c => absurd (by decide) c) (fun c => absurd (by decide) c) (fun c => absurd (by decide) c) (fun c => absurd (by decide) c) (fun c => absurd (by decide) c) (fun c => absurd (by decide) c) (fun c => absurd (by decide) c) (fun c => absurd (by decide) c) (fun c => absurd (by decide) c) (fun c => absurd (by decide) c) (fun c => absurd (by decide) c) (fun c => absurd (by decide) c) (fun c => absurd (by decide) c) (fun c => absurd (by decide) c) (fun c => absurd (by decide) c) (fun c => absurd (by decide) c), rfl, Or.inr ⟨rfl, rfl, fun σ hσ => ?_⟩⟩
          have h1 := hno σ hσ
          have h2 := (sg_sol_cons.mp hσ).1.1
          omega
        · have hS6 : S.length ≤ 6 := by omega
          by_cases hgo : (q = r o ∨ 1 ≤ c) ∧ (op o).testBit q = true ∧ sg_jn L bb S o q = true
          · obtain ⟨g1, g2, g3⟩ := hgo
            obtain ⟨f3, fl3, w3, e3, hp3⟩ := ih (pre ++ [o]) ((o, q) :: S) (sg_cc r c o q) (by rw [e]; simp) (by simp [hS]) ((sg_jn_iff hv).mp g3) (by unfold sg_cc; split <;> omega)
            obtain ⟨hfl, hcase⟩ := hp3
            subst hfl
            rw [show (pre ++ [o]).length = pre.length + 1 by simp] at e3
            rcases hcase with ⟨hf, σ, hsol, hfr, hin, hout⟩ | ⟨hf, hw, hnos⟩
            · subst hf
              refine ⟨1, 0, (sx_u w3.1 21 o (nI q), w3.2), fun Q z => se_f37 h hbb (hse.1 o ho) ho hq hc hS6 (fun hx => ?_) (fun _ _ _ => ⟨1, w3, e3, fun c => absurd c (by decide), fun _ => z⟩), rfl, Or.inl ⟨rfl, sg_up σ o q, ?_, ?_, ?_, ?_⟩⟩
              · exfalso
                rcases hx with hx | hx | hx
                · exact hx g1
                · rw [g2] at hx; cases hx
                · rw [g3] at hx; cases hx
              · have hcong : sg_sol L bb op r t ((o, q) :: S) (sg_cc r c o q) (sg_up σ o q) := sg_sol_cong (fun x hx => (sg_up_o (fun e : x = o => hot (by rw [← e]; exact hx))).symm) hsol
                rw [sg_sol_cons, sg_up_s]
                exact ⟨⟨hq, g2⟩, g1, hcong⟩
              · exact hfr.trans (fun a ha => ⟨sx_u_o (fun e => ha (by rw [e]; decide)), rfl⟩)
              · intro x hx
                show sx_u w3.1 21 o (nI q) 21 x = _
                rw [sx_u_s]
                by_cases ex : x = o
                · rw [if_pos ex, ex, sg_up_s]
                · rw [if_neg ex, sg_up_o ex]
                  rcases List.mem_cons.mp hx with hx | hx
                  · exact absurd hx ex
                  · exact hin x hx
              · intro i hi
                show sx_u w3.1 21 o (nI q) 21 i = _
                rw [sx_u_s, if_neg (fun e => hi (by rw [e]; exact List.mem_cons_self))]
                exact hout i (fun hx => hi (List.mem_cons_of_mem _ hx))
            · subst hf
              subst hw
              obtain ⟨f, fl, w', hev, hp⟩ := ih2 (fun σ hσ => by
                have h1 := hno σ hσ
                rcases Nat.lt_or_ge q (σ o) with hlt | hge
                · omega
                · exfalso
                  have e1 : σ o = q := by omega
                  have h2 := sg_sol_cons.mp hσ
                  rw [e1] at h2
                  exact hnos σ h2.2.2)
              refine ⟨f, fl, w', fun Q z => se_f37 h hbb (hse.1 o ho) ho hq hc hS6 (fun hx => ?_) (fun _ _ _ => ⟨0, w3, e3, fun _ => hev Q z, fun c => absurd rfl c⟩), hp⟩
              exfalso
              rcases hx with hx | hx | hx
              · exact hx g1
              · rw [g2] at hx; cases hx
              · rw [g3] at hx; cases hx
          · obtain ⟨f, fl, w', hev, hp⟩ := ih2 (fun σ hσ => by
              have h1 := hno σ hσ
              rcases Nat.lt_or_ge q (σ o) with hlt | hge
              · omega
              · exfalso
                have e1 : σ o = q := by omega
                have h2 := sg_sol_cons.mp hσ
                rw [e1] at h2
                exact hgo ⟨h2.2.1, h2.1.2, (sg_jn_iff hv).mpr (sg_vd_app h2.2.2.2.1)⟩)
            exact ⟨f, fl, w', fun Q z => se_f37 h hbb (hse.1 o ho) ho hq hc hS6 (fun _ => hev Q z) (fun a1 a2 a3 => absurd ⟨a1, a2, a3⟩ hgo), hp⟩
      obtain ⟨f, fl, w', hev, hp⟩ := main 0 (by omega) (fun σ _ => Nat.zero_le _)
      refine ⟨f, fl, w', fun Q z => sx_met_of rfl rfl rfl rfl (bSe_fillFrom_0 (fun _ => vp_in_nI (by omega) (by decide)) (fun _ _ => vp_in_nI (by omega) (by decide)) (fun _ _ => ?_) (fun _ c2 => absurd ?_ c2) (fun c2 => absurd lt0 c2)), hp⟩
      · rw [hcl, s2 o t rfl]
        exact hev Q z
      · rw [hcl, s1]; exact nI_le hsure (by omega)
    · refine ⟨0, 0, w, fun Q z => sx_met_of rfl rfl rfl rfl (bSe_fillFrom_0 (fun _ => vp_in_nI (by omega) (by decide)) (fun _ c2 => absurd c2 ?_) (fun _ c2 => absurd c2 ?_) (fun _ _ => z) (fun c2 => absurd lt0 c2)), rfl, Or.inr ⟨rfl, rfl, fun σ hσ => hsure (sg_sol_su hσ)⟩⟩ <;>
      (rw [hcl, s1]; exact nI_ge (by omega) (by omega))
end
