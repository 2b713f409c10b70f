/-! ===== firstSpoiler; the Stays made fresh ===== -/
def sg_pf (ρ : Nat → Nat) : Nat → List (Nat × Nat)
  | 0 => []
  | l + 1 => (l, ρ l) :: sg_pf ρ l
theorem sg_pf_len (ρ : Nat → Nat) : ∀ l, (sg_pf ρ l).length = l
  | 0 => rfl
  | l + 1 => by simp [sg_pf, sg_pf_len ρ l]
theorem sg_pf_cS (L : sg_L) (ρ : Nat → Nat) (p : Nat) : ∀ l, sg_cS L (sg_pf ρ l) p = sg_ct L ρ l p
  | 0 => rfl
  | l + 1 => by
    rw [sg_pf, sg_cS, sg_pf_cS L ρ p l]
    rfl
theorem nb_or0 {a b c : Nat} : ((a ||| b) &&& c = 0) ↔ (a &&& c = 0) ∧ (b &&& c = 0) := by
  rw [Nat.and_or_distrib_right, Nat.or_eq_zero_iff]
theorem sg_pf_lm (L : sg_L) (ρ : Nat → Nat) (k s : Nat) : ∀ l, (sg_lm L k (sg_pf ρ l) &&& s = 0) ↔ ∀ j, j < l → L.2.1 j = k → (sg_sl L j (ρ j) &&& s) = 0
  | 0 => by simp [sg_pf, sg_lm]
  | l + 1 => by
    have ih := sg_pf_lm L ρ k s l
    simp only [sg_pf, sg_lm]
    by_cases hk : L.2.1 l = k
    · rw [if_pos hk, nb_or0, ih]
      constructor
      · intro h j hj hk2
        by_cases e : j = l
        · rw [e]; exact h.2
        · exact h.1 j (by omega) hk2
      · intro h
        exact ⟨fun j hj => h j (by omega), h l (by omega) hk⟩
    · rw [if_neg hk, ih]
      constructor
      · intro h j hj hk2
        by_cases e : j = l
        · rw [e] at hk2; exact absurd hk2 hk
        · exact h j (by omega) hk2
      · intro h j hj
        exact h j (by omega)
theorem sg_pf_cl (L : sg_L) (ρ : Nat → Nat) (l : Nat) : sz_all (sg_fQ L ρ l) l = sg_cl L (sg_pf ρ l) l (ρ l) := by
  rw [Bool.eq_iff_iff, sz_all_iff]
  unfold sg_cl
  by_cases k2 : L.2.1 l = 2
  · rw [if_pos k2, beq_iff_eq, sg_pf_lm]
    constructor
    · intro h j hj hk
      have h1 := h j hj
      simp only [sg_fQ, sg_qu, k2, hk] at h1
      simpa using h1
    · intro h j hj
      by_cases hk : L.2.1 j = 3
      · simp [sg_fQ, h j hj hk]
      · simp [sg_fQ, sg_qu, k2, hk]
  · rw [if_neg k2]
    by_cases k3 : L.2.1 l = 3
    · rw [if_pos k3, beq_iff_eq, sg_pf_lm]
      constructor
      · intro h j hj hk
        have h1 := h j hj
        simp only [sg_fQ, sg_qu, k3, hk] at h1
        simpa using h1
      · intro h j hj
        by_cases hk : L.2.1 j = 2
        · simp [sg_fQ, h j hj hk]
        · simp [sg_fQ, sg_qu, k3, hk]
    · rw [if_neg k3]
      simp [sg_fQ, sg_qu, k2, k3]
theorem sg_fit_jn {L : sg_L} {b : Nat} {ρ : Nat → Nat} {l : Nat} (cap : ∀ p, p < 8 → sg_cS L (sg_pf ρ l) p ≤ b) : sg_fit L b ρ l = (sg_may L l (ρ l) && sg_jn L b (sg_pf ρ l) l (ρ l)) := by
  have e : sz_all (sg_fP L b ρ l) 8 = sz_all (fun p => decide (sg_cS L ((l, ρ l) :: sg_pf ρ l) p ≤ b)) 8 := by
    rw [Bool.eq_iff_iff, sz_all_iff, sz_all_iff]
    have key : ∀ p, sg_ct L ρ (l + 1) p = sg_cS L ((l, ρ l) :: sg_pf ρ l) p := fun p => (sg_pf_cS L ρ p (l + 1)).symm
    have key2 : ∀ p, sg_cS L ((l, ρ l) :: sg_pf ρ l) p = sg_cS L (sg_pf ρ l) p + sg_bt (sg_sl L l (ρ l)) p := fun p => rfl
    constructor
    · intro h p hp
      have h1 := h p hp
      have h2 := cap p hp
      simp only [sg_fP, key] at h1
      cases ht : (sg_sl L l (ρ l)).testBit p with
      | true => rw [ht] at h1; simpa using h1
      | false =>
        refine decide_eq_true ?_
        rw [key2, show sg_bt (sg_sl L l (ρ l)) p = 0 by simp [sg_bt, ht]]
        exact h2
    · intro h p hp
      have h1 := of_decide_eq_true (h p hp)
      simp only [sg_fP, key]
      simp [h1]
  rw [sg_fit, sg_jn, e, sg_pf_cl, Bool.and_comm (sz_all _ 8)]
/-- a row in which a place may hold nothing: 8 and more -/
def sg_bad (L : sg_L) (b : Nat) (ρ : Nat → Nat) (l : Nat) : Bool := !(decide (ρ l < 8) && sg_fit L b ρ l)
theorem sg_bad_no {L : sg_L} {b : Nat} {ρ : Nat → Nat} {l : Nat} (h : sg_bad L b ρ l = false) : ρ l < 8 ∧ sg_fit L b ρ l = true := by
  simpa [sg_bad] using h
theorem sg_pf_cap {L : sg_L} {b : Nat} {ρ : Nat → Nat} : ∀ {l : Nat}, (∀ j, j < l → sg_fit L b ρ j = true) → ∀ p, p < 8 → sg_cS L (sg_pf ρ l) p ≤ b
  | 0, _, p, _ => Nat.zero_le _
  | l + 1, h, p, hp => by
    have ih := sg_pf_cap (l := l) (fun j hj => h j (by omega))
    have h1 := h l (by omega)
    rw [sg_fit_jn ih] at h1
    have h2 : sz_all (fun p => decide (sg_cS L ((l, ρ l) :: sg_pf ρ l) p ≤ b)) 8 = true := by
      simp only [sg_jn, Bool.and_eq_true] at h1
      exact h1.2.2
    exact of_decide_eq_true (sz_all_iff.mp h2 p hp)
theorem sz_first_at {p : Nat → Bool} {i n : Nat} (ha : ∀ j, j < i → p j = false) (hi : p i = true) (hn : i < n) : fa_first p n = i := by
  rcases Nat.lt_trichotomy (fa_first p n) i with h | h | h
  · have := fa_first_yes p n (by omega)
    rw [ha _ h] at this; cases this
  · exact h
  · have := fa_first_no p n i h
    rw [hi] at this; cases this
section
variable {d : Nat} {w : sx_W} {L : sg_L}
theorem spSt_firstSpoiler_5 {ρ : Nat → Nat} {b : Nat} (h : sg_C L w) (hs : sg_St L w) (hb : w.1 1 5 = nI b) (hb7 : b ≤ 7) (hρ : ∀ l, l < L.1 → w.1 5 l = if ρ l < 8 then nI (ρ l) else (-1 : Int32)) : sx_de (d + 1) rSt_firstSpoiler [.ref 11, .ref 5] w (if fa_first (sg_bad L b ρ) L.1 < L.1 then nI (fa_first (sg_bad L b ρ) L.1) else (-1 : Int32)) 0 w := by
  intro Q z
  have h0 := h
  obtain ⟨⟨h7, hr⟩, hn, hv⟩ := h
  refine sx_met_of rfl rfl rfl rfl (bSt_firstSpoiler_5_0 (f1 := lN (sg_enc L b [])) (by rw [hb]; exact spSt_nobodyIn hb7) ?_)
  refine sx_for (P := fun i => (∀ j, j < i → sg_bad L b ρ j = false) → sx_ev (d + 1) rSt_firstSpoiler 14 [.ref 11, .ref 5, .long (lN (sg_enc L b (sg_pf ρ i))), .null, .int (nI i), .null] [] w Q) L.1 (fun ha => ?_) (fun i hi ih ha => ?_) 0 (Nat.zero_le _) (fun j hj => by omega)
  · have nc : ¬ ¬ w.1 1 4 ≤ nI L.1 := fun c => c (by rw [hn]; exact nI_le (Nat.le_refl _) (by omega))
    have hnf : ¬ fa_first (sg_bad L b ρ) L.1 < L.1 := fun hlt => by
      have h1 := fa_first_yes (sg_bad L b ρ) L.1 hlt
      rw [ha _ hlt] at h1; cases h1
    rw [if_neg hnf] at z
    exact bSt_firstSpoiler_5_14 (f1 := 0) (f2 := 0) (f3 := 0) (fun _ => z) (fun c => absurd c nc) (fun c => absurd c nc) (fun c => absurd c nc) (fun c => absurd c nc) (fun c => absurd c nc) (fun c => absurd c nc) (fun c => absurd c nc) (fun c => absurd c nc)
  · have hc : (nI i).toNatClampNeg = i := nI_clamp (by omega)
    have vi : vp_in (nI i) 7 := vp_in_nI (by omega) (by decide)
    have nn : ¬ w.1 1 4 ≤ nI i := by rw [hn]; exact nI_ge hi (by omega)
    have zb : sg_bad L b ρ i = true → Q (nI i) 0 w := fun hbad => by
      have e := sz_first_at ha hbad hi
      rw [e, if_pos hi] at z
      exact z
    by_cases h8 : ρ i < 8
    · have er : w.1 5 (nI i).toNatClampNeg = nI (ρ i) := by rw [hc, hρ i hi, if_pos h8]
      have cap : ∀ p, p < 8 → sg_cS L (sg_pf ρ i) p ≤ b := sg_pf_cap (fun j hj => (sg_bad_no (ha j hj)).2)
      have ef := sg_fit_jn (L := L) (b := b) (ρ := ρ) (l := i) cap
      have hst := (hs i hi).2 (ρ i) h8
      refine bSt_firstSpoiler_5_14 (f1 := sz_b (sz_in (nI (ρ i)) 8)) (f2 := sz_b ((sg_mays L i).testBit (ρ i))) (f3 := if sg_jn L b (sg_pf ρ i) i (ρ i) then lN (sg_enc L b ((i, ρ i) :: sg_pf ρ i)) else (-1 : Int64)) (fun c => absurd c nn) (fun _ => vp_in_nI (by omega) (by decide)) (fun _ => by rw [er]; exact spSb_isPart) (fun _ c => ?_) (fun _ _ => ?_) (fun _ _ _ => ?_) (fun _ _ c2 c3 => ?_) (fun _ _ c2 c3 => ?_) (fun _ _ c2 => ?_)
      · rw [sz_in_nI h8 (by decide)] at c; cases c
      · rw [er, hc, (hs i hi).1]
        exact spSb_holds (by have := sg_mays_lt L i; omega) (by omega)
      · rw [er]
        exact spSt_joined hst (by rw [sg_pf_len]; omega) hb7 (by omega) h8
      · have hm : sg_may L i (ρ i) = true := by rw [← sg_mays_bit L i h8]; exact sz_b1.mp c2
        cases hj : sg_jn L b (sg_pf ρ i) i (ρ i) with
        | false => rw [hj] at c3; exact absurd rfl c3
        | true =>
          rw [if_pos rfl, nI_1]
          refine ih (fun j hj2 => ?_)
          by_cases e : j = i
          · rw [e, sg_bad, ef, hm, hj, decide_eq_true h8]; rfl
          · exact ha j (by omega)
      · cases hj : sg_jn L b (sg_pf ρ i) i (ρ i) with
        | false => exact zb (by rw [sg_bad, ef, hj]; simp)
        | true =>
          rw [hj, if_pos rfl] at c3
          exfalso
          have hlt := sg_enc_lt L b (S := (i, ρ i) :: sg_pf ρ i) (by simp [sg_pf_len]; omega)
          have h1 := pk_lT (n := sg_enc L b ((i, ρ i) :: sg_pf ρ i)) (by omega)
          rw [c3] at h1
          have h2 : (-1 : Int64).toInt = -1 := rfl
          omega
      · have hm : sg_may L i (ρ i) = false := by rw [← sg_mays_bit L i h8]; exact sz_b0.mp c2
        exact zb (by rw [sg_bad, ef, hm]; simp)
    · have er : w.1 5 (nI i).toNatClampNeg = (-1 : Int32) := by rw [hc, hρ i hi, if_neg h8]
      have n1 : ¬ ¬ sz_b (sz_in (-1 : Int32) 8) = 0 := fun c => c rfl
      refine bSt_firstSpoiler_5_14 (f1 := sz_b (sz_in (-1 : Int32) 8)) (f2 := 0) (f3 := 0) (fun c => absurd c nn) (fun _ => vp_in_nI (by omega) (by decide)) (fun _ => by rw [er]; exact spSb_isPart) (fun _ c => ?_) (fun _ c => absurd c n1) (fun _ c => absurd c n1) (fun _ c => absurd c n1) (fun _ c => absurd c n1) (fun _ c => absurd c n1)
      exact zb (by simp [sg_bad, h8])
theorem spSt_firstSpoiler_39 {ρ : Nat → Nat} {b : Nat} (h : sg_C L w) (hs : sg_St L w) (hb : w.1 1 5 = nI b) (hb7 : b ≤ 7) (hρ : ∀ l, l < L.1 → w.1 39 l = if ρ l < 8 then nI (ρ l) else (-1 : Int32)) : sx_de (d + 1) rSt_firstSpoiler [.ref 11, .ref 39] w (if fa_first (sg_bad L b ρ) L.1 < L.1 then nI (fa_first (sg_bad L b ρ) L.1) else (-1 : Int32)) 0 w := by
  intro Q z
  have h0 := h
  obtain ⟨⟨h7, hr⟩, hn, hv⟩ := h
  refine sx_met_of rfl rfl rfl rfl (bSt_firstSpoiler_39_0 (f1 := lN (sg_enc L b [])) (by rw [hb]; exact spSt_nobodyIn hb7) ?_)
  refine sx_for (P := fun i => (∀ j, j < i → sg_bad L b ρ j = false) → sx_ev (d + 1) rSt_firstSpoiler 14 [.ref 11, .ref 39, .long (lN (sg_enc L b (sg_pf ρ i))), .null, .int (nI i), .null] [] w Q) L.1 (fun ha => ?_) (fun i hi ih ha => ?_) 0 (Nat.zero_le _) (fun j hj => by omega)
  · have nc : ¬ ¬ w.1 1 4 ≤ nI L.1 := fun c => c (by rw [hn]; exact nI_le (Nat.le_refl _) (by omega))
    have hnf : ¬ fa_first (sg_bad L b ρ) L.1 < L.1 := fun hlt => by
      have h1 := fa_first_yes (sg_bad L b ρ) L.1 hlt
      rw [ha _ hlt] at h1; cases h1
    rw [if_neg hnf] at z
    exact bSt_firstSpoiler_39_14 (f1 := 0) (f2 := 0) (f3 := 0) (fun _ => z) (fun c => absurd c nc) (fun c => absurd c nc) (fun c => absurd c nc) (fun c => absurd c nc) (fun c => absurd c nc) (fun c => absurd c nc) (fun c => absurd c nc) (fun c => absurd c nc) (fun c => absurd c nc)
  · have hc : (nI i).toNatClampNeg = i := nI_clamp (by omega)
    have vi : vp_in (nI i) 7 := vp_in_nI (by omega) (by decide)
    have nn : ¬ w.1 1 4 ≤ nI i := by rw [hn]; exact nI_ge hi (by omega)
    have zb : sg_bad L b ρ i = true → Q (nI i) 0 w := fun hbad => by
      have e := sz_first_at ha hbad hi
      rw [e, if_pos hi] at z
      exact z
    by_cases h8 : ρ i < 8
    · have er : w.1 39 (nI i).toNatClampNeg = nI (ρ i) := by rw [hc, hρ i hi, if_pos h8]
      have cap : ∀ p, p < 8 → sg_cS L (sg_pf ρ i) p ≤ b := sg_pf_cap (fun j hj => (sg_bad_no (ha j hj)).2)
      have ef := sg_fit_jn (L := L) (b := b) (ρ := ρ) (l := i) cap
      have hst := (hs i hi).2 (ρ i) h8
      refine bSt_firstSpoiler_39_14 (f1 := sz_b (sz_in (nI (ρ i)) 8)) (f2 := sz_b ((sg_mays L i).testBit (ρ i))) (f3 := if sg_jn L b (sg_pf ρ i) i (ρ i) then lN (sg_enc L b ((i, ρ i) :: sg_pf ρ i)) else (-1 : Int64)) (fun c => absurd c nn) (fun _ => vp_in_nI (by omega) (by decide)) (fun _ => by rw [er]; exact spSb_isPart) (fun _ c => ?_) (fun _ _ => vi) (fun _ _ => ?_) (fun _ _ _ => ?_) (fun _ _ c2 c3 => ?_) (fun _ _ c2 c3 => ?_) (fun _ _ c2 => ?_)
      · rw [sz_in_nI h8 (by decide)] at c; cases c
      · rw [er, hc, (hs i hi).1]
        exact spSb_holds (by have := sg_mays_lt L i; omega) (by omega)
      · rw [er]
        exact spSt_joined hst (by rw [sg_pf_len]; omega) hb7 (by omega) h8
      · have hm : sg_may L i (ρ i) = true := by rw [← sg_mays_bit L i h8]; exact sz_b1.mp c2
        cases hj : sg_jn L b (sg_pf ρ i) i (ρ i) with
        | false => rw [hj] at c3; exact absurd rfl c3
        | true =>
          rw [if_pos rfl, nI_1]
          refine ih (fun j hj2 => ?_)
          by_cases e : j = i
          · rw [e, sg_bad, ef, hm, hj, decide_eq_true h8]; rfl
          · exact ha j (by omega)
      · cases hj : sg_jn L b (sg_pf ρ i) i (ρ i) with
        | false => exact zb (by rw [sg_bad, ef, hj]; simp)
        | true =>
          rw [hj, if_pos rfl] at c3
          exfalso
          have hlt := sg_enc_lt L b (S := (i, ρ i) :: sg_pf ρ i) (by simp [sg_pf_len]; omega)
          have h1 := pk_lT (n := sg_enc L b ((i, ρ i) :: sg_pf ρ i)) (by omega)
          rw [c3] at h1
          have h2 : (-1 : Int64).toInt = -1 := rfl
          omega
      · have hm : sg_may L i (ρ i) = false := by rw [← sg_mays_bit L i h8]; exact sz_b0.mp c2
        exact zb (by rw [sg_bad, ef, hm]; simp)
    · have er : w.1 39 (nI i).toNatClampNeg = (-1 : Int32) := by rw [hc, hρ i hi, if_neg h8]
      have n1 : ¬ ¬ sz_b (sz_in (-1 : Int32) 8) = 0 := fun c => c rfl
      refine bSt_firstSpoiler_39_14 (f1 := sz_b (sz_in (-1 : Int32) 8)) (f2 := 0) (f3 := 0) (fun c => absurd c nn) (fun _ => vp_in_nI (by omega) (by decide)) (fun _ => by rw [er]; exact spSb_isPart) (fun _ c => ?_) (fun _ c => absurd c n1) (fun _ c => absurd c n1) (fun _ c => absurd c n1) (fun _ c => absurd c n1) (fun _ c => absurd c n1) (fun _ c => absurd c n1)
      exact zb (by simp [sg_bad, h8])
/-! what stays: all cells but some -/
def sg_fr (cs : List Nat) (w w' : sx_W) : Prop := ∀ a, a ∉ cs → w'.1 a = w.1 a ∧ w'.2 a = w.2 a
theorem sg_fr.rfl' {cs : List Nat} {w : sx_W} : sg_fr cs w w := fun _ _ => ⟨rfl, rfl⟩
theorem sg_fr.trans {cs : List Nat} {w w1 w2 : sx_W} (h1 : sg_fr cs w w1) (h2 : sg_fr cs w1 w2) : sg_fr cs w w2 := fun a ha => ⟨(h2 a ha).1.trans (h1 a ha).1, (h2 a ha).2.trans (h1 a ha).2⟩
theorem sg_fr.mono {cs ds : List Nat} {w w1 : sx_W} (h : sg_fr cs w w1) (hs : ∀ a ∈ cs, a ∈ ds) : sg_fr ds w w1 := fun a ha => h a (fun hc => ha (hs a hc))
theorem sg_V.fr {o c a b e : Nat} {L : sg_L} {w w' : sx_W} {cs : List Nat} (h : sg_V o c a b e L w) (hf : sg_fr cs w w') (ho : o ∉ cs) (ha : a ∉ cs) (hb : b ∉ cs) (he : e ∉ cs) : sg_V o c a b e L w' := by
  obtain ⟨h1, h2, h3⟩ := h
  refine ⟨h1, by rw [(hf o ho).1]; exact h2, fun i hi => ?_⟩
  rw [(hf a ha).1, (hf b hb).1, (hf e he).1]
  exact h3 i hi
theorem sx_ul_s (g : Nat → Nat → Int64) (k i : Nat) (x : Int64) (j : Nat) : sx_ul g k i x k j = if j = i then x else g k j := by simp [sx_ul, vp_updL]
theorem sx_ul_o {g : Nat → Nat → Int64} {k i a : Nat} {x : Int64} (h : a ≠ k) : sx_ul g k i x a = g a := by simp [sx_ul, h]
theorem sx_u_s (g : Nat → Nat → Int32) (k i : Nat) (x : Int32) (j : Nat) : sx_u g k i x k j = if j = i then x else g k j := by simp [sx_u, upd]
theorem sx_u_o {g : Nat → Nat → Int32} {k i a : Nat} {x : Int32} (h : a ≠ k) : sx_u g k i x a = g a := by simp [sx_u, h]
def sg_n1 (L : sg_L) (l q : Nat) (f : Nat → Nat → Int32) : Nat → Nat → Int32 := if sg_may L l q then sx_u f 12 l (f 12 l ||| nI (2 ^ q)) else f
def sg_n2 (L : sg_L) (l q : Nat) (g : Nat → Nat → Int64) : Nat → Nat → Int64 := sx_ul (sx_ul (sx_ul g 13 (8 * l + q) (lN (sg_dl (sg_bt (sg_sl L l q)) 0 8 0))) 14 (8 * l + q) (lN (sg_dl (fun _ => 0) (sg_ym L l q) 8 0))) 15 (8 * l + q) (lN (sg_dl (fun _ => 0) (sg_yc L l q) 8 0))
theorem sz_s32 : ∀ s, s < 256 → (nI s).toInt64 <<< ((32 : Int32).toInt64 &&& 63) = lN (16 ^ 8 * s) := by decide +kernel
theorem sz_s40 : ∀ s, s < 256 → (nI s).toInt64 <<< ((40 : Int32).toInt64 &&& 63) = lN (16 ^ 8 * (2 ^ 8 * s)) := by decide +kernel
theorem spSt_note {l q : Nat} (h : sg_C L w) (hl : l < L.1) (hq : q < 8) : sx_de (d + 2) rSt_note [.ref 11, .int (nI l), .int (nI q), .int (nI (sg_sl L l q))] w 0 0 (sg_n1 L l q w.1, sg_n2 L l q w.2) := by
  intro Q z
  obtain ⟨⟨h7, hr⟩, hn, hv⟩ := h
  obtain ⟨v1, v2, v3⟩ := hv l hl
  have hc : (nI l).toNatClampNeg = l := nI_clamp (by omega)
  obtain ⟨e1, e2, e3⟩ := sz_at (show l < 7 by omega) hq
  have hsl := sg_sl_lt L l q
  have k2 : nI (L.2.1 l) = (2 : Int32) ↔ L.2.1 l = 2 := by rw [show (2 : Int32) = nI 2 from rfl]; exact nI_eq (by have := (hr l hl).1; omega) (by omega)
  have k3 : nI (L.2.1 l) = (3 : Int32) ↔ L.2.1 l = 3 := by rw [show (3 : Int32) = nI 3 from rfl]; exact nI_eq (by have := (hr l hl).1; omega) (by omega)
  have em : (nI (sg_sl L l q) &&& w.1 4 (nI l).toNatClampNeg = 0) ↔ sg_may L l q = true := by
    rw [hc, v3, sz_and0 (by omega)]
    simp [sg_may]
  have vi : vp_in (nI l) 7 := vp_in_nI (by omega) (by decide)
  have va : vp_in (nI l * 8 + nI q) 56 := by rw [e1]; exact e3
  have m0 : (0 : Int64) = lN (sg_dl (fun _ => 0) 0 8 0) := rfl
  have m32 : (nI (sg_sl L l q)).toInt64 <<< ((32 : Int32).toInt64 &&& 63) = lN (sg_dl (fun _ => 0) (sg_sl L l q) 8 0) := by rw [sg_dl_0]; exact sz_s32 _ hsl
  have m40 : (nI (sg_sl L l q)).toInt64 <<< ((40 : Int32).toInt64 &&& 63) = lN (sg_dl (fun _ => 0) (2 ^ 8 * sg_sl L l q) 8 0) := by rw [sg_dl_0]; exact sz_s40 _ hsl
  refine sx_met_of rfl rfl rfl rfl (bSt_note_0 vi (fun _ => spSt_oneInEach hsl) (fun _ => va) (fun c c2 c3 => ?_) (fun c c2 c3 => ?_) (fun c c2 => ?_) (fun _ => spSt_oneInEach hsl) (fun _ => va) (fun c c2 c3 => ?_) (fun c c2 c3 => ?_) (fun c c2 => ?_))
  · have hm : sg_may L l q = false := by rw [em] at c; simpa using c
    rw [hc, v1, k2] at c2
    rw [hc, v1, k3] at c3
    rw [sg_n1, sg_n2, hm, sg_ym, sg_yc, if_neg c2, if_neg c3, if_neg c2, if_neg c3] at z
    rw [e1, e2, m0]
    exact z
  · have hm : sg_may L l q = false := by rw [em] at c; simpa using c
    rw [hc, v1, k2] at c2
    rw [hc, v1, k3] at c3
    rw [sg_n1, sg_n2, hm, sg_ym, sg_yc, if_neg c2, if_pos c3, if_neg c2, if_pos c3] at z
    rw [e1, e2, m32, m40]
    exact z
  · have hm : sg_may L l q = false := by rw [em] at c; simpa using c
    rw [hc, v1, k2] at c2
    rw [sg_n1, sg_n2, hm, sg_ym, sg_yc, if_pos c2, if_pos c2] at z
    rw [e1, e2, m32, m40]
    exact z
  · have hm := em.mp c
    rw [hc, v1, k2] at c2
    rw [hc, v1, k3] at c3
    rw [sg_n1, sg_n2, hm, sg_ym, sg_yc, if_neg c2, if_neg c3, if_neg c2, if_neg c3, if_pos rfl] at z
    rw [e1, e2, m0, hc, sz_one q hq]
    exact z
  · have hm := em.mp c
    rw [hc, v1, k2] at c2
    rw [hc, v1, k3] at c3
    rw [sg_n1, sg_n2, hm, sg_ym, sg_yc, if_neg c2, if_pos c3, if_neg c2, if_pos c3, if_pos rfl] at z
    rw [e1, e2, m32, m40, hc, sz_one q hq]
    exact z
  · have hm := em.mp c
    rw [hc, v1, k2] at c2
    rw [sg_n1, sg_n2, hm, sg_ym, sg_yc, if_pos c2, if_pos c2, if_pos rfl] at z
    rw [e1, e2, m32, m40, hc, sz_one q hq]
    exact z
theorem sg_n_fr (l q : Nat) : sg_fr [12, 13, 14, 15] w (sg_n1 L l q w.1, sg_n2 L l q w.2) := by
  intro a ha
  simp only [List.mem_cons, List.not_mem_nil, or_false, not_or] at ha
  constructor
  · show sg_n1 L l q w.1 a = _
    unfold sg_n1
    split
    · exact sx_u_o ha.1
    · rfl
  · show sg_n2 L l q w.2 a = _
    unfold sg_n2
    rw [sx_ul_o ha.2.2.2, sx_ul_o ha.2.2.1, sx_ul_o ha.2.1]
theorem sg_n_St1 {l q l2 q2 : Nat} (hq : q < 8) (hq2 : q2 < 8) (h : (l2 = l ∧ q2 = q) ∨ sg_St1 L w l2 q2) : sg_St1 L (sg_n1 L l q w.1, sg_n2 L l q w.2) l2 q2 := by
  have e13 : ∀ i, sg_n2 L l q w.2 13 i = if i = 8 * l + q then lN (sg_dl (sg_bt (sg_sl L l q)) 0 8 0) else w.2 13 i := fun i => by
    unfold sg_n2
    rw [sx_ul_o (by decide), sx_ul_o (by decide), sx_ul_s]
  have e14 : ∀ i, sg_n2 L l q w.2 14 i = if i = 8 * l + q then lN (sg_dl (fun _ => 0) (sg_ym L l q) 8 0) else w.2 14 i := fun i => by
    unfold sg_n2
    rw [sx_ul_o (by decide), sx_ul_s, sx_ul_o (by decide)]
  have e15 : ∀ i, sg_n2 L l q w.2 15 i = if i = 8 * l + q then lN (sg_dl (fun _ => 0) (sg_yc L l q) 8 0) else w.2 15 i := fun i => by
    unfold sg_n2
    rw [sx_ul_s, sx_ul_o (by decide), sx_ul_o (by decide)]
  by_cases he : l2 = l ∧ q2 = q
  · obtain ⟨rfl, rfl⟩ := he
    exact ⟨by show sg_n2 L l2 q2 w.2 13 _ = _; rw [e13, if_pos rfl], by show sg_n2 L l2 q2 w.2 14 _ = _; rw [e14, if_pos rfl], by show sg_n2 L l2 q2 w.2 15 _ = _; rw [e15, if_pos rfl]⟩
  · rcases h with h | h
    · exact absurd h he
    · have hne : ¬ 8 * l2 + q2 = 8 * l + q := by omega
      exact ⟨by show sg_n2 L l q w.2 13 _ = _; rw [e13, if_neg hne]; exact h.1, by show sg_n2 L l q w.2 14 _ = _; rw [e14, if_neg hne]; exact h.2.1, by show sg_n2 L l q w.2 15 _ = _; rw [e15, if_neg hne]; exact h.2.2⟩
/-- as far as the Stays are made: all lodgers ahead of l, and of l the parts ahead of q -/
def sg_rf (L : sg_L) (w0 : sx_W) (l q : Nat) (w : sx_W) : Prop := sg_fr [12, 13, 14, 15] w0 w ∧ (∀ j, j < l → w.1 12 j = nI (sg_mays L j) ∧ ∀ p, p < 8 → sg_St1 L w j p) ∧ (q ≤ 8) ∧ (0 < q → w.1 12 l = nI (sg_mys L l q)) ∧ ∀ p, p < q → sg_St1 L w l p
theorem spSt_refresh (h : sg_C L w) : sx_x (d + 3) rSt_refresh [.ref 11] w (fun _ _ w' => sg_St L w' ∧ sg_fr [12, 13, 14, 15] w w') := by
  have h7 := h.1.1
  have outer : ∀ i, i ≤ L.1 → ∀ u, sg_rf L w i 0 u → sx_xe (d + 3) rSt_refresh 2 [.ref 11, .int (nI i), .null] u (fun _ _ w' => sg_St L w' ∧ sg_fr [12, 13, 14, 15] w w') := by
    refine sx_for L.1 (fun u hu => ?_) (fun i hi ih u hu => ?_)
    · have hc := sg_V.fr h hu.1 (by decide) (by decide) (by decide) (by decide)
      have nc : ¬ ¬ u.1 1 4 ≤ nI L.1 := fun c => c (by rw [hc.2.1]; exact nI_le (Nat.le_refl _) (by omega))
      exact ⟨0, 0, u, fun Q z => bSt_refresh_2 (fun _ => z) (fun c => absurd c nc) (fun c => absurd c nc), hu.2.1, hu.1⟩
    · have inner : ∀ q, q ≤ 8 → ∀ u, sg_rf L w i q u → (q = 0 → u.1 12 i = 0) → sx_xe (d + 3) rSt_refresh 22 [.ref 11, .int (nI i), .int (nI q)] u (fun _ _ w' => sg_St L w' ∧ sg_fr [12, 13, 14, 15] w w') := by
        refine sx_for 8 (fun u hu _ => ?_) (fun q hq ih2 u hu hz => ?_)
        · have : sg_rf L w (i + 1) 0 u := by
            refine ⟨hu.1, fun j hj => ?_, by omega, fun h => by omega, fun p hp => by omega⟩
            by_cases e : j = i
            · rw [e]; exact ⟨hu.2.2.2.1 (by omega), hu.2.2.2.2⟩
            · exact hu.2.1 j (by omega)
          obtain ⟨f, fl, w', hev, hp⟩ := ih u this
          refine ⟨f, fl, w', fun Q z => bSt_refresh_22 (f1 := 0) (w2 := u) (fun _ => ?_) (fun c => absurd (by decide) c) (fun c => absurd (by decide) c) (fun c => absurd (by decide) c), hp⟩
          rw [nI_1]
          exact hev Q z
        · have hc := sg_V.fr h hu.1 (by decide) (by decide) (by decide) (by decide)
          have hin : (sg_n1 L i q u.1) 12 i = nI (sg_mys L i (q + 1)) := by
            have h0 : u.1 12 i = nI (sg_mys L i q) := by
              rcases Nat.eq_zero_or_pos q with e | e
              · rw [hz e, e]; rfl
              · exact hu.2.2.2.1 e
            unfold sg_n1
            rw [sg_mys]
            cases hm : sg_may L i q with
            | true => rw [if_pos rfl, if_pos rfl, sx_u_s, if_pos rfl, h0, fa_or]
            | false => rw [if_neg (by decide), if_neg (by decide), h0, Nat.or_zero]
          have hrf : sg_rf L w i (q + 1) (sg_n1 L i q u.1, sg_n2 L i q u.2) := by
            refine ⟨hu.1.trans (sg_n_fr i q), fun j hj => ⟨?_, fun p hp => sg_n_St1 hq hp (Or.inr ((hu.2.1 j hj).2 p hp))⟩, by omega, fun _ => hin, fun p hp => sg_n_St1 hq (by omega) ?_⟩
            · show sg_n1 L i q u.1 12 j = _
              unfold sg_n1
              split
              · rw [sx_u_s, if_neg (by omega)]; exact (hu.2.1 j hj).1
              · exact (hu.2.1 j hj).1
            · by_cases e : p = q
              · exact Or.inl ⟨rfl, e⟩
              · exact Or.inr (hu.2.2.2.2 p (by omega))
          obtain ⟨f, fl, w', hev, hp⟩ := ih2 _ hrf (fun h => by omega)
          refine ⟨f, fl, w', fun Q z => bSt_refresh_22 (fun c => absurd c (nI_ge (b := 8) hq (by omega))) (fun _ => spHo_sleepSet hc hi hq) (fun _ => spSt_note hc hi hq) (fun _ => ?_), hp⟩
          rw [nI_1]
          exact hev Q z
      have hc := sg_V.fr h hu.1 (by decide) (by decide) (by decide) (by decide)
      have cl : (nI i).toNatClampNeg = i := nI_clamp (by omega)
      obtain ⟨f, fl, w', hev, hp⟩ := inner 0 (by omega) (sx_u u.1 12 i 0, u.2) (by
        refine ⟨hu.1.trans (fun a ha => ⟨sx_u_o (fun e => ha (by rw [e]; decide)), rfl⟩), fun j hj => ⟨?_, (hu.2.1 j hj).2⟩, by omega, fun h => by omega, fun p hp => by omega⟩
        show sx_u u.1 12 i 0 12 j = _
        rw [sx_u_s, if_neg (by omega)]
        exact (hu.2.1 j hj).1) (fun _ => by show sx_u u.1 12 i 0 12 i = 0; rw [sx_u_s, if_pos rfl])
      refine ⟨f, fl, w', fun Q z => bSt_refresh_2 (fun c => absurd c (by rw [hc.2.1]; exact nI_ge hi (by omega))) (fun _ => vp_in_nI (by omega) (by decide)) (fun _ => ?_), hp⟩
      rw [cl]
      exact hev Q z
  obtain ⟨f, fl, w', hev, hp⟩ := outer 0 (Nat.zero_le _) w ⟨sg_fr.rfl', fun j hj => by omega, by omega, fun h => by omega, fun p hp => by omega⟩
  exact ⟨f, fl, w', fun Q z => sx_met_of rfl rfl rfl rfl (bSt_refresh_0 (hev Q z)), hp⟩
end
