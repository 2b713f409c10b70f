/-! ===== exists, countFrom; good rows, in whatever order ===== -/
section
variable {L : sg_L} {b : Nat} {op r : Nat → Nat}
theorem sg_sol_perm {os ot : List Nat} {S : List (Nat × Nat)} {c : Nat} {σ : Nat → Nat} (hp : os.Perm ot) : sg_sol L b op r os S c σ ↔ sg_sol L b op r ot S c σ := by
  have hpp : (sg_pr σ os ++ S).Perm (sg_pr σ ot ++ S) := (hp.map (fun o => (o, σ o))).append_right S
  unfold sg_sol sg_df
  rw [sg_vd_perm hpp, hp.countP_eq]
  constructor
  · rintro ⟨h1, h2⟩; exact ⟨fun o ho => h1 o (hp.mem_iff.mpr ho), h2⟩
  · rintro ⟨h1, h2⟩; exact ⟨fun o ho => h1 o (hp.mem_iff.mp ho), h2⟩
theorem sg_pr_pf (σ : Nat → Nat) : ∀ n, (sg_pr σ (List.range n)).Perm (sg_pf σ n)
  | 0 => List.Perm.refl _
  | n + 1 => by
    rw [List.range_succ, sg_pr, List.map_append, sg_pf]
    exact (List.perm_append_singleton (n, σ n) _).trans ((sg_pr_pf σ n).cons _)
theorem sg_fits_iff {ρ : Nat → Nat} : ∀ {m : Nat}, (∀ l, l < m → sg_fit L b ρ l = true) ↔ (∀ l, l < m → sg_may L l (ρ l) = true) ∧ sg_vd L b (sg_pf ρ m)
  | 0 => ⟨fun _ => ⟨fun l hl => by omega, sg_vd_nil L b⟩, fun _ l hl => by omega⟩
  | m + 1 => by
    have ih := sg_fits_iff (ρ := ρ) (m := m)
    constructor
    · intro h
      obtain ⟨i1, i2⟩ := ih.mp (fun l hl => h l (by omega))
      have h1 := h m (by omega)
      rw [sg_fit_jn i2.1, Bool.and_eq_true, sg_jn_iff i2] at h1
      refine ⟨fun l hl => ?_, h1.2⟩
      by_cases e : l = m
      · rw [e]; exact h1.1
      · exact i1 l (by omega)
    · rintro ⟨h1, h2⟩ l hl
      have i2 := sg_vd_tail h2
      by_cases e : l = m
      · rw [e, sg_fit_jn i2.1, Bool.and_eq_true, sg_jn_iff i2]
        exact ⟨h1 m (by omega), h2⟩
      · exact ih.mpr ⟨fun l hl => h1 l (by omega), i2⟩ l (by omega)
theorem sg_good_iff {ρ : Nat → Nat} : sg_good L b ρ = true ↔ (∀ l, l < L.1 → sg_may L l (ρ l) = true) ∧ sg_vd L b (sg_pf ρ L.1) := by
  rw [sg_good, sz_all_iff, sg_fits_iff]
theorem sg_df_range (σ r : Nat → Nat) : ∀ n, sg_df σ r (List.range n) = sg_ch true r σ n
  | 0 => rfl
  | n + 1 => by
    have ih := sg_df_range σ r n
    unfold sg_df sg_ch at *
    rw [List.range_succ, List.countP_append, ih]
    simp only [List.countP_cons, List.countP_nil, if_true, fb_ct_succ]
    omega
/-- a row that is good, with so many changes at most -/
def sg_gr (L : sg_L) (b : Nat) (r : Nat → Nat) (c : Nat) (σ : Nat → Nat) : Prop := (∀ l, l < L.1 → σ l < 8) ∧ sg_good L b σ = true ∧ sg_ch true r σ L.1 ≤ c
theorem sg_sol_mays {c : Nat} {σ : Nat → Nat} : sg_sol L b (sg_mays L) r (List.range L.1) [] c σ ↔ sg_gr L b r c σ := by
  unfold sg_sol sg_gr
  rw [sg_df_range, List.append_nil, sg_vd_perm (sg_pr_pf σ L.1), sg_good_iff]
  constructor
  · rintro ⟨h1, h2, h3⟩
    exact ⟨fun l hl => (h1 l (List.mem_range.mpr hl)).1, ⟨fun l hl => by rw [← sg_mays_bit L l (h1 l (List.mem_range.mpr hl)).1]; exact (h1 l (List.mem_range.mpr hl)).2, h2⟩, h3⟩
  · rintro ⟨h1, ⟨h2, h3⟩, h4⟩
    exact ⟨fun o ho => ⟨h1 o (List.mem_range.mp ho), by rw [sg_mays_bit L o (h1 o (List.mem_range.mp ho))]; exact h2 o (List.mem_range.mp ho)⟩, h3, h4⟩
/-! there is room for all -/
theorem sg_pop1 : ∀ nd, nd < 5 → ∀ p, p < 8 → fb_sm (sg_bt (sg_slp 0 nd p)) 8 = nd := by decide +kernel
theorem sg_pop2 : ∀ m, m < 3 → ∀ p, p < 8 → fb_sm (sg_bt (sg_slp 1 (m + 2) p)) 8 = m + 2 := by decide +kernel
theorem sg_pop {l q : Nat} (h : sg_ok L) (hl : l < L.1) (hq : q < 8) : fb_sm (sg_bt (sg_sl L l q)) 8 = L.2.2.1 l := by
  obtain ⟨h1, h2, h3, -⟩ := h.2 l hl
  unfold sg_sl
  by_cases hk : L.2.1 l = 1 ∧ 1 < L.2.2.1 l
  · obtain ⟨m, hm⟩ : ∃ m, L.2.2.1 l = m + 2 := ⟨L.2.2.1 l - 2, by omega⟩
    rw [hk.1, hm]
    exact sg_pop2 m (by omega) q hq
  · rw [sg_slp_n1 hk]
    exact sg_pop1 _ (by omega) q hq
theorem sg_sum {ρ : Nat → Nat} (h : sg_ok L) (h8 : ∀ l, l < L.1 → ρ l < 8) : ∀ m, m ≤ L.1 → fb_sm (fun p => sg_cS L (sg_pf ρ m) p) 8 = fb_sm L.2.2.1 m
  | 0, _ => by simp [sg_pf, sg_cS, fb_sm]
  | m + 1, hm => by
    have ih := sg_sum h h8 m (by omega)
    have e : (fun p => sg_cS L (sg_pf ρ (m + 1)) p) = fun p => sg_cS L (sg_pf ρ m) p + sg_bt (sg_sl L m (ρ m)) p := rfl
    rw [e, fb_sm_add, ih, fb_sm_succ]
    congr 1
    exact sg_pop h (by omega) (h8 m (by omega))
theorem sg_room {ρ : Nat → Nat} (h : sg_ok L) (h8 : ∀ l, l < L.1 → ρ l < 8) (hv : sg_vd L b (sg_pf ρ L.1)) : fb_sm L.2.2.1 L.1 ≤ 8 * b := by
  rw [← sg_sum h h8 L.1 (Nat.le_refl _)]
  exact fb_sm_bound (fun p hp => hv.1 p hp)
end
section
variable {d : Nat} {w : sx_W} {L : sg_L} {b : Nat} {op r : Nat → Nat}
theorem spSe_hasRoomForAll {bb : Nat} (h : sg_C L w) (hbb : bb ≤ 7) : sx_de (d + 1) rSe_hasRoomForAll [.ref 16, .int (nI bb)] w (sz_b (decide (fb_sm L.2.2.1 L.1 ≤ 8 * bb))) 0 w := by
  intro Q z
  have h7 := h.1.1
  have hs : fb_sm L.2.2.1 L.1 ≤ L.1 * 4 := fb_sm_bound (fun k hk => (h.1.2 k hk).2.2.1)
  have e : (nI bb * 8 < nI (fb_sm L.2.2.1 L.1)) ↔ ¬ fb_sm L.2.2.1 L.1 ≤ 8 * bb := by
    rw [show (8 : Int32) = nI 8 from rfl, pk_mul, nI_ltI (by omega) (by omega)]
    omega
  refine sx_met_of rfl rfl rfl rfl (bSe_hasRoomForAll_0 (spHo_needOfAll h) (fun c => ?_) (fun c => ?_))
  · rw [sz_bf (decide_eq_false (e.mp c))] at z; exact z
  · rw [sz_bt (decide_eq_true (by rw [e] at c; omega))] at z; exact z
/-- what exists finds -/
def se_xp (L : sg_L) (bb : Nat) (op r : Nat → Nat) (c : Nat) (w : sx_W) (f : Int32) (fl : Int64) (w' : sx_W) : Prop := fl = 0 ∧ ((f = 1 ∧ ∃ σ, sg_sol L bb op r (List.range L.1) [] c σ ∧ sg_fr [21] w w' ∧ ∀ o, o < L.1 → w'.1 21 o = nI (σ o)) ∨ (f = 0 ∧ w' = w ∧ ∀ σ, ¬ sg_sol L bb op r (List.range L.1) [] c σ))
theorem spSe_exists {os : List Nat} {bb c : Nat} (h : sg_Co L b r w) (hse : sg_se L op r os w) (hbb : bb ≤ 7) (hc : c < 100) : sx_x (d + 9) rSe_exists [.ref 16, .int (nI bb), .int (nI c)] w (se_xp L bb op r c w) := by
  have h7 := h.1.1.1
  have hlen : os.length = L.1 := by rw [hse.2.1.length_eq, List.length_range]
  have hroom := spSe_hasRoomForAll (d := d + 7) h.1 hbb
  by_cases hr : fb_sm L.2.2.1 L.1 ≤ 8 * bb
  · rw [decide_eq_true hr] at hroom
    obtain ⟨f, fl, w', hde, hfl, hcase⟩ := spSe_fillFrom (d := d + (8 - L.1)) h hbb hse os [] [] c rfl rfl (sg_vd_nil L bb) hc
    subst hfl
    rw [hlen, show d + (8 - L.1) + L.1 = d + 8 by omega] at hde
    rcases hcase with ⟨hf, σ, h1, h2, h3, h4⟩ | ⟨hf, h1, h2⟩
    · subst hf
      refine ⟨1, 0, w', fun Q z => sx_met_of rfl rfl rfl rfl (bSe_exists_0 hroom (fun c => absurd c (by decide)) (fun _ => spSt_nobodyIn hbb) (fun _ => hde) (fun _ c => absurd c (by decide)) (fun _ _ => z)), rfl, Or.inl ⟨rfl, σ, (sg_sol_perm hse.2.1).mp h1, h2, fun o ho => h3 o (hse.2.1.mem_iff.mpr (List.mem_range.mpr ho))⟩⟩
    · subst hf
      exact ⟨0, 0, w', fun Q z => sx_met_of rfl rfl rfl rfl (bSe_exists_0 hroom (fun c => absurd c (by decide)) (fun _ => spSt_nobodyIn hbb) (fun _ => hde) (fun _ _ => z) (fun _ c => absurd rfl c)), rfl, Or.inr ⟨rfl, h1, fun σ hσ => h2 σ ((sg_sol_perm hse.2.1).mpr hσ)⟩⟩
  · rw [decide_eq_false hr] at hroom
    refine ⟨0, 0, w, fun Q z => sx_met_of rfl rfl rfl rfl (bSe_exists_0 (f2 := 0) (f3 := 0) (w3 := w) hroom (fun _ => z) (fun c => absurd rfl c) (fun c => absurd rfl c) (fun c => absurd rfl c) (fun c => absurd rfl c)), rfl, Or.inr ⟨rfl, rfl, fun σ hσ => hr ?_⟩⟩
    have hv := hσ.2.1
    rw [List.append_nil, sg_vd_perm (sg_pr_pf σ L.1)] at hv
    exact sg_room h.1.1 (fun l hl => (hσ.1 l (List.mem_range.mpr hl)).1) hv
/-! how many: counted lodger by lodger, in any order -/
def sg_ct2 (L : sg_L) (b : Nat) (op : Nat → Nat) : List Nat → List (Nat × Nat) → Nat
  | [], _ => 1
  | o :: t, S => fb_sm (fun q => if (op o).testBit q && sg_jn L b S o q then sg_ct2 L b op t ((o, q) :: S) else 0) 8
theorem spSe_countFrom {os : List Nat} (h : sg_Co L b r w) (hse : sg_se L op r os w) : ∀ (rest pre : List Nat) (S : List (Nat × Nat)) (most : Nat), os = pre ++ rest → S.length = pre.length → 1 ≤ most → most ≤ 9999 →
    sx_de (d + rest.length) rSe_countFrom [.ref 16, .int (nI pre.length), .long (lN (sg_enc L b S)), .int (nI most)] w (nI (min most (sg_ct2 L b op rest S))) 0 w := by
  have h7 := h.1.1.1
  have hlen : os.length = L.1 := by rw [hse.2.1.length_eq, List.length_range]
  intro rest
  induction rest with
  | nil =>
    intro pre S most e hS h1 h2 Q z
    have ep : pre.length = L.1 := by rw [← hlen, e, List.append_nil]
    have nl : ¬ nI pre.length < w.1 1 4 := by rw [h.1.2.1, ep]; exact nI_nlt (Nat.le_refl _) (by omega)
    rw [sg_ct2, Nat.min_eq_right h1] at z
    exact sx_met_of rfl rfl rfl rfl (bSe_countFrom_0 (fun c => absurd c nl) (fun c => absurd c nl) (fun _ => z))
  | cons o t ih =>
    intro pre S most e hS h1 h2 Q z
    have hlp : pre.length < L.1 := by rw [← hlen, e, List.length_append, List.length_cons]; omega
    have ho : o < L.1 := List.mem_range.mp (hse.2.1.mem_iff.mp (by rw [e]; simp))
    obtain ⟨s1, s2⟩ := hse.2.2 pre (o :: t) e
    have hcl : (nI pre.length).toNatClampNeg = pre.length := nI_clamp (by omega)
    have hco : (nI o).toNatClampNeg = o := nI_clamp (by omega)
    have lt0 : nI pre.length < w.1 1 4 := by rw [h.1.2.1]; exact nI_lt hlp (by omega)
    refine sx_met_of rfl rfl rfl rfl (bSe_countFrom_0 (fun _ => vp_in_nI (by omega) (by decide)) (fun _ => ?_) (fun c => absurd lt0 c))
    rw [hcl, s2 o t rfl]
    have mono : ∀ q, q ≤ 8 → fb_sm (fun q => if (op o).testBit q && sg_jn L b S o q then sg_ct2 L b op t ((o, q) :: S) else 0) q ≤ sg_ct2 L b op (o :: t) S := fun q hq => by
      have := fb_sm_mono (fun q => if (op o).testBit q && sg_jn L b S o q then sg_ct2 L b op t ((o, q) :: S) else 0) q (8 - q)
      rw [show q + (8 - q) = 8 by omega] at this
      exact this
    have fin : ∀ k : sx_ev (d + (t.length + 1)) rSe_countFrom 27 [.ref 16, .int (nI pre.length), .long (lN (sg_enc L b S)), .null, .int (nI most), .int (nI o), .int (nI (min most (fb_sm (fun q => if (op o).testBit q && sg_jn L b S o q then sg_ct2 L b op t ((o, q) :: S) else 0) 0))), .int (nI 0), .null, .null] [] w Q, sx_ev (d + (t.length + 1)) rSe_countFrom 27 [.ref 16, .int (nI pre.length), .long (lN (sg_enc L b S)), .null, .int (nI most), .int (nI o), .int 0, .int 0, .null, .null] [] w Q := fun k => by
      simp only [fb_sm, Nat.min_zero] at k
      exact k
    refine fin ?_
    refine sx_for (P := fun q => sx_ev (d + (t.length + 1)) rSe_countFrom 27 [.ref 16, .int (nI pre.length), .long (lN (sg_enc L b S)), .null, .int (nI most), .int (nI o), .int (nI (min most (fb_sm (fun q => if (op o).testBit q && sg_jn L b S o q then sg_ct2 L b op t ((o, q) :: S) else 0) q))), .int (nI q), .null, .null] [] w Q) 8 ?_ (fun q hq ih2 => ?_) 0 (Nat.zero_le _)
    · exact bSe_countFrom_27 (f1 := 0) (f2 := 0) (f3 := 0) (fun _ => z) (fun c => absurd (by decide) c) (fun c => absurd (by decide) c) (fun c => absurd (by decide) c) (fun c => absurd (by decide) c) (fun c => absurd (by decide) c) (fun c => absurd (by decide) c) (fun c => absurd (by decide) c) (fun c => absurd (by decide) c)
    · have n8 : ¬ (8 : Int32) ≤ nI q := nI_ge (b := 8) hq (by omega)
      generalize hs : fb_sm (fun q => if (op o).testBit q && sg_jn L b S o q then sg_ct2 L b op t ((o, q) :: S) else 0) q = s at ih2 ⊢
      have hsucc : fb_sm (fun q => if (op o).testBit q && sg_jn L b S o q then sg_ct2 L b op t ((o, q) :: S) else 0) (q + 1) = s + (if (op o).testBit q && sg_jn L b S o q then sg_ct2 L b op t ((o, q) :: S) else 0) := by rw [fb_sm_succ, hs]
      have emost : (nI most ≤ nI (min most s)) ↔ most ≤ s := by rw [nI_leI (by omega) (by omega)]; omega
      have hm := mono q (by omega)
      rw [hs] at hm
      by_cases hfull : most ≤ s
      · rw [Nat.min_eq_left (by omega)] at z
        have c0 := emost.mpr hfull
        exact bSe_countFrom_27 (f1 := 0) (f2 := 0) (f3 := 0) (fun c => absurd c n8) (fun _ _ => by rw [Nat.min_eq_left hfull]; exact z) (fun _ c => absurd c0 c) (fun _ c => absurd c0 c) (fun _ c => absurd c0 c) (fun _ c => absurd c0 c) (fun _ c => absurd c0 c) (fun _ c => absurd c0 c) (fun _ c => absurd c0 c)
      · have nf : ¬ nI most ≤ nI (min most s) := fun c => hfull (emost.mp c)
        have hhold : sx_de (d + t.length) rSb_holds [.int (w.1 17 (nI o).toNatClampNeg), .int (nI q)] w (sz_b ((op o).testBit q)) 0 w := by
          rw [hco, (hse.1 o ho).1]
          exact spSb_holds (by have := (hse.1 o ho).2; omega) (by omega)
        have hS6 : S.length ≤ 6 := by omega
        have hjoin := spSt_joined (d := d + t.length) (w := w) ((h.2.1 o ho).2 q hq) hS6 h.2.2.2.1 (show o < 7 by omega) hq
        rw [Nat.min_eq_right (show s ≤ most by omega)]
        rw [Nat.min_eq_right (show s ≤ most by omega)] at nf
        cases hb : (op o).testBit q with
        | false =>
          rw [hb] at hhold hsucc
          rw [hsucc] at ih2
          refine bSe_countFrom_27 (f2 := 0) (f3 := 0) (fun c => absurd c n8) (fun _ c => absurd c nf) (fun _ _ => vp_in_nI (by omega) (by decide)) (fun _ _ => hhold) (fun _ _ _ => ?_) (fun _ _ c => absurd rfl c) (fun _ _ c => absurd rfl c) (fun _ _ c => absurd rfl c) (fun _ _ c => absurd rfl c)
          rw [nI_1]
          simp only [Bool.false_and, Bool.false_eq_true, if_false, Nat.add_zero] at ih2
          rw [Nat.min_eq_right (show s ≤ most by omega)] at ih2
          exact ih2
        | true =>
          rw [hb] at hhold hsucc
          rw [hsucc] at ih2
          cases hj : sg_jn L b S o q with
          | false =>
            rw [hj] at hjoin ih2
            refine bSe_countFrom_27 (f3 := 0) (fun c => absurd c n8) (fun _ c => absurd c nf) (fun _ _ => vp_in_nI (by omega) (by decide)) (fun _ _ => hhold) (fun _ _ c => absurd c (by decide)) (fun _ _ _ => hjoin) (fun _ _ _ c => absurd rfl c) (fun _ _ _ c => absurd rfl c) (fun _ _ _ _ => ?_)
            rw [nI_1, show nI s + (0 : Int32) = nI (s + 0) from nI_add s 0]
            simp only [Bool.true_and, Bool.false_eq_true, if_false, Nat.add_zero] at ih2
            rw [Nat.min_eq_right (show s ≤ most by omega)] at ih2
            exact ih2
          | true =>
            rw [hj, if_pos rfl] at hjoin
            rw [hj] at ih2
            have hm1 : ¬ lN (sg_enc L b ((o, q) :: S)) = (-1 : Int64) := fun hc => by
              have hlt := sg_enc_lt L b (S := (o, q) :: S) (by simp; omega)
              have h1 := pk_lT (n := sg_enc L b ((o, q) :: S)) (by omega)
              rw [hc] at h1
              have h2 : (-1 : Int64).toInt = -1 := rfl
              omega
            have hrec := ih (pre ++ [o]) ((o, q) :: S) (most - s) (by rw [e]; simp) (by simp [hS]) (by omega) (by omega)
            rw [show (pre ++ [o]).length = pre.length + 1 by simp] at hrec
            refine bSe_countFrom_27 (f3 := nI (min (most - s) (sg_ct2 L b op t ((o, q) :: S)))) (fun c => absurd c n8) (fun _ c => absurd c nf) (fun _ _ => vp_in_nI (by omega) (by decide)) (fun _ _ => hhold) (fun _ _ c => absurd c (by decide)) (fun _ _ _ => hjoin) (fun _ _ _ _ => ?_) (fun _ _ _ _ => ?_) (fun _ _ _ c => absurd c hm1)
            · rw [nI_1, pk_sub (by omega)]
              exact hrec
            · rw [nI_1, nI_add]
              simp only [Bool.and_self, if_true] at ih2
              rw [show s + min (most - s) (sg_ct2 L b op t ((o, q) :: S)) = min most (s + sg_ct2 L b op t ((o, q) :: S)) by omega]
              exact ih2
end
