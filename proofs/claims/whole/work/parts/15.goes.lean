/-! ===== rows one behind the other: the model's goes ===== -/
def sg_up (ρ : Nat → Nat) (l q : Nat) : Nat → Nat := fun j => if j = l then q else ρ j
theorem sg_up_s (ρ : Nat → Nat) (l q : Nat) : sg_up ρ l q l = q := if_pos rfl
theorem sg_up_o {ρ : Nat → Nat} {l q j : Nat} (h : j ≠ l) : sg_up ρ l q j = ρ j := if_neg h
def sg_ch (t : Bool) (r ρ : Nat → Nat) (m : Nat) : Nat := if t then fb_ct (fun l => !(ρ l == r l)) m else 0
def sg_oks (L : sg_L) (b : Nat) (t : Bool) (r : Nat → Nat) (o : Nat) (ρ : Nat → Nat) (l : Nat) : Bool := sg_fit L b ρ l && decide (sg_ch t r ρ (l + 1) ≤ o)
theorem sz_all_cong {f g : Nat → Bool} : ∀ {n : Nat}, (∀ i, i < n → f i = g i) → sz_all f n = sz_all g n
  | 0, _ => rfl
  | n + 1, h => by rw [sz_all, sz_all, sz_all_cong (n := n) (fun i hi => h i (by omega)), h n (by omega)]
theorem sg_fit_cong {L : sg_L} {b l : Nat} {ρ σ : Nat → Nat} (h : ∀ j, j ≤ l → ρ j = σ j) : sg_fit L b ρ l = sg_fit L b σ l := by
  have e1 : sg_fP L b ρ l = sg_fP L b σ l := funext fun p => by
    have ec : sg_ct L ρ (l + 1) p = sg_ct L σ (l + 1) p := fb_ct_cong (fun k hk => by simp only [h k (by omega)])
    simp only [sg_fP, h l (Nat.le_refl l), ec]
  have e2 : sz_all (sg_fQ L ρ l) l = sz_all (sg_fQ L σ l) l := sz_all_cong fun j hj => by simp only [sg_fQ, h l (Nat.le_refl l), h j (by omega)]
  rw [sg_fit, sg_fit, e1, e2, h l (Nat.le_refl l)]
theorem sg_ch_cong {t : Bool} {r ρ σ : Nat → Nat} {m : Nat} (h : ∀ j, j < m → ρ j = σ j) : sg_ch t r ρ m = sg_ch t r σ m := by
  unfold sg_ch
  rw [fb_ct_cong (p := fun l => !(ρ l == r l)) (q := fun l => !(σ l == r l)) (fun k hk => by simp only [h k hk])]
theorem sg_oks_cong {L : sg_L} {b o l : Nat} {t : Bool} {r ρ σ : Nat → Nat} (h : ∀ j, j ≤ l → ρ j = σ j) : sg_oks L b t r o ρ l = sg_oks L b t r o σ l := by
  rw [sg_oks, sg_oks, sg_fit_cong h, sg_ch_cong (m := l + 1) (fun j hj => h j (by omega))]
/-- how many rows go on from l lodgers placed -/
def sg_N (L : sg_L) (b : Nat) (t : Bool) (r : Nat → Nat) (o : Nat) : Nat → Nat → (Nat → Nat) → Nat
  | 0, _, _ => 1
  | k + 1, l, ρ => fb_sm (fun q => if sg_oks L b t r o (sg_up ρ l q) l then sg_N L b t r o k (l + 1) (sg_up ρ l q) else 0) 8
def sg_E (L : sg_L) (b : Nat) (t : Bool) (r : Nat → Nat) (o : Nat) (l n : Nat) (ρ σ : Nat → Nat) : Prop := (∀ j, j < l → σ j = ρ j) ∧ ∀ j, l ≤ j → j < n → σ j < 8 ∧ sg_oks L b t r o σ j = true
def sg_le (n : Nat) (σ τ : Nat → Nat) : Prop := (∀ j, j < n → σ j = τ j) ∨ ∃ k, k < n ∧ (∀ j, j < k → σ j = τ j) ∧ σ k < τ k
def sg_F (L : sg_L) (b : Nat) (t : Bool) (r : Nat → Nat) (o : Nat) (l n : Nat) (ρ σ : Nat → Nat) : Prop := sg_E L b t r o l n ρ σ ∧ ∀ τ, sg_E L b t r o l n ρ τ → sg_le n σ τ
theorem fb_sm_pos {f : Nat → Nat} : ∀ {n : Nat}, 0 < fb_sm f n ↔ ∃ q, q < n ∧ 0 < f q
  | 0 => by simp [fb_sm]
  | n + 1 => by
    rw [fb_sm_succ]
    have ih := fb_sm_pos (f := f) (n := n)
    constructor
    · intro h
      rcases Nat.eq_zero_or_pos (f n) with z | z
      · obtain ⟨q, h1, h2⟩ := ih.mp (by omega)
        exact ⟨q, by omega, h2⟩
      · exact ⟨n, by omega, z⟩
    · rintro ⟨q, h1, h2⟩
      by_cases e : q = n
      · rw [e] at h2; omega
      · have := ih.mpr ⟨q, by omega, h2⟩
        omega
section
variable {L : sg_L} {b : Nat} {t : Bool} {r : Nat → Nat} {o : Nat}
theorem sg_E_step {l n q : Nat} {ρ σ : Nat → Nat} (hl : l < n) (hq : q < 8) (hok : sg_oks L b t r o (sg_up ρ l q) l = true) (h : sg_E L b t r o (l + 1) n (sg_up ρ l q) σ) : sg_E L b t r o l n ρ σ := by
  refine ⟨fun j hj => by rw [h.1 j (by omega), sg_up_o (by omega)], fun j h1 h2 => ?_⟩
  by_cases e : j = l
  · rw [e]
    refine ⟨by rw [h.1 l (by omega), sg_up_s]; exact hq, ?_⟩
    rw [sg_oks_cong (σ := sg_up ρ l q) (fun i hi => h.1 i (by omega))]
    exact hok
  · exact h.2 j (by omega) h2
theorem sg_E_down {l n : Nat} {ρ σ : Nat → Nat} (hl : l < n) (h : sg_E L b t r o l n ρ σ) : sg_oks L b t r o (sg_up ρ l (σ l)) l = true ∧ sg_E L b t r o (l + 1) n (sg_up ρ l (σ l)) σ := by
  have key : ∀ j, j ≤ l → sg_up ρ l (σ l) j = σ j := fun j hj => by
    by_cases e : j = l
    · rw [e, sg_up_s]
    · rw [sg_up_o e, h.1 j (by omega)]
  refine ⟨?_, fun j hj => (key j (by omega)).symm, fun j h1 h2 => h.2 j (by omega) h2⟩
  rw [sg_oks_cong (σ := σ) key]
  exact (h.2 l (Nat.le_refl l) hl).2
theorem sg_N_pos : ∀ (k l : Nat) (ρ : Nat → Nat), 0 < sg_N L b t r o k l ρ ↔ ∃ σ, sg_E L b t r o l (l + k) ρ σ
  | 0, l, ρ => by
    refine ⟨fun _ => ⟨ρ, fun _ _ => rfl, fun j h1 h2 => by omega⟩, fun _ => Nat.one_pos⟩
  | k + 1, l, ρ => by
    rw [sg_N, fb_sm_pos]
    constructor
    · rintro ⟨q, hq, h⟩
      by_cases hok : sg_oks L b t r o (sg_up ρ l q) l = true
      · rw [if_pos hok] at h
        obtain ⟨σ, hσ⟩ := (sg_N_pos k (l + 1) (sg_up ρ l q)).mp h
        rw [show l + 1 + k = l + (k + 1) by omega] at hσ
        exact ⟨σ, sg_E_step (by omega) hq hok hσ⟩
      · rw [if_neg hok] at h; omega
    · rintro ⟨σ, hσ⟩
      obtain ⟨h1, h2⟩ := sg_E_down (by omega) hσ
      refine ⟨σ l, (hσ.2 l (Nat.le_refl l) (by omega)).1, ?_⟩
      rw [if_pos h1]
      exact (sg_N_pos k (l + 1) _).mpr ⟨σ, by rw [show l + 1 + k = l + (k + 1) by omega]; exact h2⟩
end
/-! the model's own cells: lodgers, beds, the row that is told -/
def sg_Mo (L : sg_L) (b : Nat) (t : Bool) (r : Nat → Nat) (w : sx_W) : Prop := sg_M L w ∧ w.1 48 6 = nI b ∧ b ≤ 7 ∧ w.1 48 5 = sz_b t ∧ (t = true → ∀ l, l < L.1 → w.1 52 l = nI (r l) ∧ r l < 8)
theorem sg_Mo.fr {L : sg_L} {b : Nat} {t : Bool} {r : Nat → Nat} {w w' : sx_W} {cs : List Nat} (h : sg_Mo L b t r w) (hf : sg_fr cs w w') (h0 : 48 ∉ cs) (h1 : 49 ∉ cs) (h2 : 50 ∉ cs) (h3 : 51 ∉ cs) (h4 : 52 ∉ cs) : sg_Mo L b t r w' := by
  obtain ⟨a1, a2, a3, a4, a5⟩ := h
  refine ⟨a1.fr hf h0 h1 h2 h3, by rw [(hf 48 h0).1]; exact a2, a3, by rw [(hf 48 h0).1]; exact a4, fun ht l hl => ?_⟩
  rw [(hf 52 h4).1]
  exact a5 ht l hl
section
variable {d : Nat} {w : sx_W} {L : sg_L} {b : Nat} {t : Bool} {r : Nat → Nat} {o : Nat}
theorem spMo_changed {l : Nat} {ρ : Nat → Nat} (h : sg_Mo L b t r w) (hl : l < L.1) (hρ : ∀ j, j ≤ l → w.1 53 j = nI (ρ j) ∧ ρ j < 8) : sx_de d rMo_changed [.ref 48, .int (nI l)] w (nI (sg_ch t r ρ (l + 1))) 0 w := by
  intro Q z
  have h7 := h.1.1.1
  obtain ⟨-, -, -, ht, hr⟩ := h
  refine sx_met_of rfl rfl rfl rfl (bMo_changed_0 ?_)
  cases t with
  | false =>
    have h0 : w.1 48 5 = 0 := ht
    exact bMo_changed_4 (fun c => absurd c (nI_nlt (a := l) (b := 0) (Nat.zero_le _) (by omega))) (fun _ _ => z) (fun _ c => absurd h0 c) (fun _ c => absurd h0 c) (fun _ c => absurd h0 c)
  | true =>
    have h1 : ¬ w.1 48 5 = 0 := by rw [ht]; decide
    refine sx_for (P := fun i => sx_ev d rMo_changed 4 [.ref 48, .int (nI l), .int (nI (sg_ch true r ρ i)), .int (nI i)] [] w Q) (l + 1) ?_ (fun i hi ih => ?_) 0 (Nat.zero_le _)
    · have c0 := nI_lt (show l < l + 1 by omega) (by omega)
      exact bMo_changed_4 (fun _ => z) (fun c => absurd c0 c) (fun c => absurd c0 c) (fun c => absurd c0 c) (fun c => absurd c0 c)
    · have hc : (nI i).toNatClampNeg = i := nI_clamp (by omega)
      have e : (w.1 53 (nI i).toNatClampNeg = w.1 52 (nI i).toNatClampNeg) ↔ ρ i = r i := by
        rw [hc, (hρ i (by omega)).1, (hr rfl i (by omega)).1]
        exact nI_eq (by have := (hρ i (by omega)).2; omega) (by have := (hr rfl i (by omega)).2; omega)
      have ec : sg_ch true r ρ (i + 1) = sg_ch true r ρ i + if !(ρ i == r i) then 1 else 0 := rfl
      refine bMo_changed_4 (fun c => absurd c (nI_nlt (by omega) (by omega))) (fun _ c => absurd c h1) (fun _ _ => vp_in_nI (by omega) (by decide)) (fun _ _ c => ?_) (fun _ _ c => ?_)
      · rw [e] at c
        rw [nI_1, nI_1]
        rw [ec, if_pos (by simp [c])] at ih
        exact ih
      · rw [e] at c
        rw [nI_1, show nI (sg_ch true r ρ i) + (0 : Int32) = nI (sg_ch true r ρ i + 0) from nI_add _ 0]
        rw [ec, if_neg (by simp [c])] at ih
        exact ih
/-- tried, as far as l lodgers are placed; of the next q parts have been tried -/
def gs_R (w0 : sx_W) (l : Nat) (ρ : Nat → Nat) (q : Nat) (w : sx_W) : Prop := sg_fr [53] w0 w ∧ (∀ j, j < l → w.1 53 j = nI (ρ j)) ∧ (l < 7 → w.1 53 l = nI q - 1) ∧ ∀ j, l < j → j < 7 → w.1 53 j = -1
def gs_B (w0 : sx_W) (l : Nat) (ρ : Nat → Nat) (w : sx_W) : Prop := sg_fr [53] w0 w ∧ (∀ j, j < l → w.1 53 j = nI (ρ j)) ∧ ∀ j, l ≤ j → j < 7 → w.1 53 j = -1
theorem gs_m1 (q : Nat) : nI (q + 1) - 1 = nI q := nI_pred q
theorem gs_lv {w0 : sx_W} {bd : Nat} {Post : Int32 → Int64 → sx_W → Prop} (h : sg_Mo L b t r w0) (hbd : bd < 2 ^ 31) (ho : o < 2 ^ 31) : ∀ (k l : Nat), l + k = L.1 → ∀ (ρ : Nat → Nat) (m : Nat) (w : sx_W), gs_R w0 l ρ 0 w → m < bd → (∀ j, j < l → ρ j < 8) →
    (∀ w2, m + sg_N L b t r o k l ρ < bd → gs_B w0 l ρ w2 → sx_xe (d + 2) rMo_goes 29 [.ref 48, .int (nI bd), .int (nI o), .int (nI (m + sg_N L b t r o k l ρ)), .int (nI l + -1), .null] w2 Post) →
    (∀ w2 σ, bd ≤ m + sg_N L b t r o k l ρ → (bd = 1 → sg_F L b t r o l L.1 ρ σ) → (∀ j, j < L.1 → w2.1 53 j = nI (σ j) ∧ σ j < 8) → sg_fr [53] w0 w2 → Post (nI bd) 0 w2) →
    sx_xe (d + 2) rMo_goes 29 [.ref 48, .int (nI bd), .int (nI o), .int (nI m), .int (nI l), .null] w Post := by
  have h7 := h.1.1.1
  intro k
  induction k with
  | zero =>
    intro l hl ρ m w hR hm hρ hk hr
    have hMo := h.fr hR.1 (by decide) (by decide) (by decide) (by decide) (by decide)
    have el : nI l = w.1 48 0 := by rw [hMo.1.2.1, show l = L.1 by omega]
    have np : ¬ nI l < 0 := nI_pos (by omega)
    by_cases hb1 : m + 1 = bd
    · refine ⟨nI m + 1, 0, w, fun Q z => bMo_goes_29 (f1 := 0) (f2 := 0) (fun c => absurd c np) (fun _ c => absurd el c) (fun _ c => absurd el c) (fun _ c => absurd el c) (fun _ c => absurd el c) (fun _ c => absurd el c) (fun _ c => absurd el c) (fun _ c => absurd el c) (fun _ _ c => absurd (by rw [nI_1, hb1]) c) (fun _ _ _ => z), ?_⟩
      rw [nI_1, hb1]
      refine hr w ρ (by show bd ≤ m + 1; omega) (fun _ => ⟨⟨fun _ _ => rfl, fun j h1 h2 => by omega⟩, fun τ hτ => Or.inl (fun j hj => (hτ.1 j (by omega)).symm)⟩) (fun j hj => ⟨hR.2.1 j (by omega), hρ j (by omega)⟩) hR.1
    · obtain ⟨f, fl, w', hev, hp⟩ := hk w (by show m + 1 < bd; omega) ⟨hR.1, hR.2.1, fun j h1 h2 => by
        by_cases e : j = l
        · rw [e, hR.2.2.1 (by omega)]; rfl
        · exact hR.2.2.2 j (by omega) h2⟩
      refine ⟨f, fl, w', fun Q z => bMo_goes_29 (f1 := 0) (f2 := 0) (fun c => absurd c np) (fun _ c => absurd el c) (fun _ c => absurd el c) (fun _ c => absurd el c) (fun _ c => absurd el c) (fun _ c => absurd el c) (fun _ c => absurd el c) (fun _ c => absurd el c) (fun _ _ _ => ?_) (fun _ _ c => absurd c (by rw [nI_1, nI_eq (by omega) hbd]; exact hb1)), hp⟩
      rw [nI_1]
      exact hev Q z
  | succ k ih =>
    intro l hl ρ m w hR hm hρ hk hr
    have hcl : (nI l).toNatClampNeg = l := nI_clamp (by omega)
    have np : ¬ nI l < 0 := nI_pos (by omega)
    have inner : ∀ q, q ≤ 8 → ∀ (m' : Nat) (w : sx_W), m' = m + fb_sm (fun q => if sg_oks L b t r o (sg_up ρ l q) l then sg_N L b t r o k (l + 1) (sg_up ρ l q) else 0) q → gs_R w0 l ρ q w → m' < bd → sx_xe (d + 2) rMo_goes 29 [.ref 48, .int (nI bd), .int (nI o), .int (nI m'), .int (nI l), .null] w Post := by
      refine sx_for 8 (fun m' w hm' hR hlt => ?_) (fun q hq ih2 m' w hm' hR hlt => ?_)
      · have hMo := h.fr hR.1 (by decide) (by decide) (by decide) (by decide) (by decide)
        have nl : ¬ nI l = w.1 48 0 := by rw [hMo.1.2.1, nI_eq (by omega) (by omega)]; omega
        have e8 : upd (w.1 53) l (w.1 53 l + 1) l = 8 := by
          simp only [upd, if_pos]
          rw [hR.2.2.1 (by omega)]
          rfl
        have e : m + sg_N L b t r o (k + 1) l ρ = m' := hm'.symm
        obtain ⟨f, fl, w', hev, hp⟩ := hk (sx_u (sx_u w.1 53 l (w.1 53 l + 1)) 53 l (-1), w.2) (by rw [e]; exact hlt) (by
          refine ⟨fun a ha => ⟨?_, (hR.1 a ha).2⟩, fun j hj => ?_, fun j h1 h2 => ?_⟩
          · have : a ≠ 53 := fun e => ha (by rw [e]; decide)
            show sx_u (sx_u w.1 53 l _) 53 l (-1) a = _
            rw [sx_u_o this, sx_u_o this]; exact (hR.1 a ha).1
          · show sx_u (sx_u w.1 53 l _) 53 l (-1) 53 j = _
            rw [sx_u_s, if_neg (by omega), sx_u_s, if_neg (by omega)]; exact hR.2.1 j hj
          · show sx_u (sx_u w.1 53 l _) 53 l (-1) 53 j = _
            rw [sx_u_s]
            by_cases e : j = l
            · rw [if_pos e]
            · rw [if_neg e, sx_u_s, if_neg e]; exact hR.2.2.2 j (by omega) h2)
        rw [e] at hev
        refine ⟨f, fl, w', fun Q z => bMo_goes_29 (f1 := 0) (f2 := 0) (fun c => absurd c np) (fun _ _ => vp_in_nI (by omega) (by decide)) (fun _ _ c => absurd (by rw [hcl]; exact e8) c) (fun _ _ c => absurd (by rw [hcl]; exact e8) c) (fun _ _ c => absurd (by rw [hcl]; exact e8) c) (fun _ _ c => absurd (by rw [hcl]; exact e8) c) (fun _ _ c => absurd (by rw [hcl]; exact e8) c) (fun _ _ _ => ?_) (fun _ c => absurd c nl) (fun _ c => absurd c nl), hp⟩
        rw [hcl]
        exact hev Q z
      · have hMo := h.fr hR.1 (by decide) (by decide) (by decide) (by decide) (by decide)
        have nl : ¬ nI l = w.1 48 0 := by rw [hMo.1.2.1, nI_eq (by omega) (by omega)]; omega
        have eq1 : w.1 53 l + 1 = nI q := by
          rw [hR.2.2.1 (by omega)]
          exact Int32.sub_add_cancel _ _
        have e8 : ¬ upd (w.1 53) l (w.1 53 l + 1) l = 8 := by
          simp only [upd, if_pos]
          rw [eq1, show (8 : Int32) = nI 8 from rfl, nI_eq (by omega) (by omega)]
          omega
        -- the world with the next part tried
        obtain ⟨w1, hw1⟩ : ∃ w1 : sx_W, w1 = (sx_u w.1 53 l (w.1 53 l + 1), w.2) := ⟨_, rfl⟩
        have hf1 : sg_fr [53] w0 w1 := by
          rw [hw1]
          exact hR.1.trans (fun a ha => ⟨sx_u_o (fun e => ha (by rw [e]; decide)), rfl⟩)
        have hlow : ∀ j, j < l → w1.1 53 j = nI (ρ j) := fun j hj => by
          rw [hw1]
          show sx_u w.1 53 l _ 53 j = _
          rw [sx_u_s, if_neg (by omega)]; exact hR.2.1 j hj
        have hat : w1.1 53 l = nI q := by
          rw [hw1]
          show sx_u w.1 53 l _ 53 l = _
          rw [sx_u_s, if_pos rfl]; exact eq1
        have hup : ∀ j, l < j → j < 7 → w1.1 53 j = -1 := fun j h1 h2 => by
          rw [hw1]
          show sx_u w.1 53 l _ 53 j = _
          rw [sx_u_s, if_neg (by omega)]; exact hR.2.2.2 j h1 h2
        have hMo1 := h.fr hf1 (by decide) (by decide) (by decide) (by decide) (by decide)
        have hall : ∀ j, j ≤ l → w1.1 53 j = nI (sg_up ρ l q j) ∧ sg_up ρ l q j < 8 := fun j hj => by
          by_cases e : j = l
          · rw [e, sg_up_s]; exact ⟨hat, hq⟩
          · rw [sg_up_o e]; exact ⟨hlow j (by omega), hρ j (by omega)⟩
        have hch := spMo_changed (d := d + 1) hMo1 (show l < L.1 by omega) hall
        have hft := spMo_fits_53 (d := d) (b := b) hMo1.1 hMo1.2.1 hMo1.2.2.1 (show l < L.1 by omega) hall
        have hsucc : fb_sm (fun q => if sg_oks L b t r o (sg_up ρ l q) l then sg_N L b t r o k (l + 1) (sg_up ρ l q) else 0) (q + 1) = fb_sm (fun q => if sg_oks L b t r o (sg_up ρ l q) l then sg_N L b t r o k (l + 1) (sg_up ρ l q) else 0) q + (if sg_oks L b t r o (sg_up ρ l q) l then sg_N L b t r o k (l + 1) (sg_up ρ l q) else 0) := rfl
        have hchl : sg_ch t r (sg_up ρ l q) (l + 1) ≤ l + 1 := by
          unfold sg_ch
          split
          · exact fb_ct_le _ _
          · omega
        have ecmp : (nI o < nI (sg_ch t r (sg_up ρ l q) (l + 1))) ↔ ¬ sg_ch t r (sg_up ρ l q) (l + 1) ≤ o := by
          rw [nI_ltI ho (by omega)]; omega
        by_cases hok : sg_oks L b t r o (sg_up ρ l q) l = true
        · have hok2 : sg_fit L b (sg_up ρ l q) l = true ∧ sg_ch t r (sg_up ρ l q) (l + 1) ≤ o := by simpa [sg_oks] using hok
          rw [if_pos hok] at hsucc
          have main : sx_xe (d + 2) rMo_goes 29 [.ref 48, .int (nI bd), .int (nI o), .int (nI m'), .int (nI (l + 1)), .null] w1 Post := by
            refine ih (l + 1) (by omega) (sg_up ρ l q) m' w1 ⟨hf1, fun j hj => (hall j (by omega)).1, fun hl7 => ?_, fun j h1 h2 => hup j (by omega) h2⟩ hlt (fun j hj => (hall j (by omega)).2) (fun w2 hlt2 hB => ?_) (fun w2 σ hge hF hσ hfr => ?_)
            · rw [hup (l + 1) (by omega) hl7]; rfl
            · have hR2 : gs_R w0 l ρ (q + 1) w2 := by
                refine ⟨hB.1, fun j hj => by rw [hB.2.1 j (by omega), sg_up_o (by omega)], fun _ => by rw [hB.2.1 l (by omega), sg_up_s, gs_m1], fun j h1 h2 => hB.2.2 j (by omega) h2⟩
              have := ih2 (m' + sg_N L b t r o k (l + 1) (sg_up ρ l q)) w2 (by rw [hsucc, hm']; omega) hR2 hlt2
              rw [show nI (l + 1) + -1 = nI l from pk_m1 l]
              exact this
            · refine hr w2 σ ?_ (fun h1 => ?_) hσ hfr
              · have := fb_sm_mono (fun q => if sg_oks L b t r o (sg_up ρ l q) l then sg_N L b t r o k (l + 1) (sg_up ρ l q) else 0) (q + 1) (8 - (q + 1))
                rw [show q + 1 + (8 - (q + 1)) = 8 by omega, hsucc] at this
                show bd ≤ m + fb_sm _ 8
                omega
              · obtain ⟨hE, hmin⟩ := hF h1
                refine ⟨sg_E_step (by omega) hq hok hE, fun τ hτ => ?_⟩
                obtain ⟨d1, d2⟩ := sg_E_down (by omega) hτ
                have hσl : σ l = q := by rw [hE.1 l (by omega), sg_up_s]
                have hσj : ∀ j, j < l → σ j = τ j := fun j hj => by rw [hE.1 j (by omega), sg_up_o (by omega), hτ.1 j hj]
                rcases Nat.lt_trichotomy (τ l) q with c | c | c
                · exfalso
                  have pos : 0 < sg_N L b t r o k (l + 1) (sg_up ρ l (τ l)) := (sg_N_pos k (l + 1) _).mpr ⟨τ, by rw [show l + 1 + k = L.1 by omega]; exact d2⟩
                  have : 0 < fb_sm (fun q => if sg_oks L b t r o (sg_up ρ l q) l then sg_N L b t r o k (l + 1) (sg_up ρ l q) else 0) q := fb_sm_pos.mpr ⟨τ l, c, by rw [if_pos d1]; exact pos⟩
                  omega
                · rw [c] at d2
                  exact hmin τ d2
                · exact Or.inr ⟨l, by omega, hσj, by rw [hσl]; exact c⟩
          obtain ⟨f, fl, w', hev, hp⟩ := main
          refine ⟨f, fl, w', fun Q z => bMo_goes_29 (f1 := nI (sg_ch t r (sg_up ρ l q) (l + 1))) (f2 := sz_b (sg_fit L b (sg_up ρ l q) l)) (fun c => absurd c np) (fun _ _ => vp_in_nI (by omega) (by decide)) (fun _ _ _ => ?_) (fun _ _ _ c => absurd hok2.2 (ecmp.mp c)) (fun _ _ _ _ => ?_) (fun _ _ _ _ c => absurd c (by rw [hok2.1]; decide)) (fun _ _ _ _ _ => ?_) (fun _ _ c => absurd c (by rw [hcl]; exact e8)) (fun _ c => absurd c nl) (fun _ c => absurd c nl), hp⟩
          · rw [hcl, ← hw1]; exact hch
          · rw [hcl, ← hw1]; exact hft
          · rw [hcl, ← hw1, nI_1]; exact hev Q z
        · rw [if_neg hok] at hsucc
          have hR2 : gs_R w0 l ρ (q + 1) w1 := ⟨hf1, hlow, fun _ => by rw [hat, gs_m1], hup⟩
          obtain ⟨f, fl, w', hev, hp⟩ := ih2 m' w1 (by rw [hsucc, hm']; omega) hR2 hlt
          refine ⟨f, fl, w', fun Q z => bMo_goes_29 (f1 := nI (sg_ch t r (sg_up ρ l q) (l + 1))) (f2 := sz_b (sg_fit L b (sg_up ρ l q) l)) (fun c => absurd c np) (fun _ _ => vp_in_nI (by omega) (by decide)) (fun _ _ _ => ?_) (fun _ _ _ c => ?_) (fun _ _ _ _ => ?_) (fun _ _ _ _ c => ?_) (fun _ _ _ c c2 => ?_) (fun _ _ c => absurd c (by rw [hcl]; exact e8)) (fun _ c => absurd c nl) (fun _ c => absurd c nl), hp⟩
          · rw [hcl, ← hw1]; exact hch
          · rw [hcl, ← hw1]; exact hev Q z
          · rw [hcl, ← hw1]; exact hft
          · rw [hcl, ← hw1]; exact hev Q z
          · exfalso
            refine hok ?_
            rw [sg_oks, sz_b1.mp c2, Bool.true_and]
            exact decide_eq_true (Classical.byContradiction fun hn => c (ecmp.mpr hn))
    exact inner 0 (by omega) m w rfl hR hm
/-- the model's goes -/
theorem spMo_goes {bd : Nat} (h : sg_Mo L b t r w) (hb0 : 0 < bd) (hbd : bd < 2 ^ 31) (ho : o < 2 ^ 31) : sx_x (d + 2) rMo_goes [.ref 48, .int (nI bd), .int (nI o)] w (fun f fl w' => fl = 0 ∧ sg_fr [53] w w' ∧
    ((sg_N L b t r o L.1 0 (fun _ => 0) < bd ∧ f = nI (sg_N L b t r o L.1 0 (fun _ => 0))) ∨ (bd ≤ sg_N L b t r o L.1 0 (fun _ => 0) ∧ f = nI bd ∧ (bd = 1 → ∃ σ, sg_F L b t r o 0 L.1 (fun _ => 0) σ ∧ ∀ j, j < L.1 → w'.1 53 j = nI (σ j) ∧ σ j < 8)))) := by
  have h7 := h.1.1.1
  have main : ∀ w2, gs_R w 0 (fun _ => 0) 0 w2 → sx_xe (d + 2) rMo_goes 29 [.ref 48, .int (nI bd), .int (nI o), .int (nI 0), .int (nI 0), .null] w2 (fun f fl w' => fl = 0 ∧ sg_fr [53] w w' ∧
      ((sg_N L b t r o L.1 0 (fun _ => 0) < bd ∧ f = nI (sg_N L b t r o L.1 0 (fun _ => 0))) ∨ (bd ≤ sg_N L b t r o L.1 0 (fun _ => 0) ∧ f = nI bd ∧ (bd = 1 → ∃ σ, sg_F L b t r o 0 L.1 (fun _ => 0) σ ∧ ∀ j, j < L.1 → w'.1 53 j = nI (σ j) ∧ σ j < 8)))) := by
    intro w2 hR
    refine gs_lv h hbd ho L.1 0 (by omega) (fun _ => 0) 0 w2 hR hb0 (fun j hj => by omega) (fun w3 hlt hB => ?_) (fun w3 σ hge hF hσ hfr => ?_)
    · rw [Nat.zero_add] at hlt ⊢
      refine ⟨_, 0, w3, fun Q z => bMo_goes_29 (f1 := 0) (f2 := 0) (fun _ => z) (fun c => absurd (by decide) c) (fun c => absurd (by decide) c) (fun c => absurd (by decide) c) (fun c => absurd (by decide) c) (fun c => absurd (by decide) c) (fun c => absurd (by decide) c) (fun c => absurd (by decide) c) (fun c => absurd (by decide) c) (fun c => absurd (by decide) c), rfl, hB.1, Or.inl ⟨hlt, rfl⟩⟩
    · rw [Nat.zero_add] at hge
      exact ⟨rfl, hfr, Or.inr ⟨hge, rfl, fun h1 => ⟨σ, hF h1, hσ⟩⟩⟩
  have fill : ∀ i, i ≤ 7 → ∀ w2, sg_fr [53] w w2 → (∀ j, j < i → w2.1 53 j = -1) → sx_xe (d + 2) rMo_goes 8 [.ref 48, .int (nI bd), .int (nI o), .int (nI 0), .int (nI 0), .int (nI i)] w2 (fun f fl w' => fl = 0 ∧ sg_fr [53] w w' ∧
      ((sg_N L b t r o L.1 0 (fun _ => 0) < bd ∧ f = nI (sg_N L b t r o L.1 0 (fun _ => 0))) ∨ (bd ≤ sg_N L b t r o L.1 0 (fun _ => 0) ∧ f = nI bd ∧ (bd = 1 → ∃ σ, sg_F L b t r o 0 L.1 (fun _ => 0) σ ∧ ∀ j, j < L.1 → w'.1 53 j = nI (σ j) ∧ σ j < 8)))) := by
    refine sx_for 7 (fun w2 hf ha => ?_) (fun i hi ih w2 hf ha => ?_)
    · obtain ⟨f, fl, w', hev, hp⟩ := main w2 ⟨hf, fun j hj => by omega, fun _ => by rw [ha 0 (by omega)]; rfl, fun j _ hj => ha j hj⟩
      exact ⟨f, fl, w', fun Q z => bMo_goes_8 (fun _ => hev Q z) (fun c => absurd (by decide) c) (fun c => absurd (by decide) c), hp⟩
    · have hc : (nI i).toNatClampNeg = i := nI_clamp (by omega)
      obtain ⟨f, fl, w', hev, hp⟩ := ih (sx_u w2.1 53 i (-1), w2.2) (hf.trans (fun a ha => ⟨sx_u_o (fun e => ha (by rw [e]; decide)), rfl⟩)) (fun j hj => by
        show sx_u w2.1 53 i (-1) 53 j = _
        rw [sx_u_s]
        by_cases e : j = i
        · rw [if_pos e]
        · rw [if_neg e]; exact ha j (by omega))
      refine ⟨f, fl, w', fun Q z => bMo_goes_8 (fun c => absurd c (nI_ge (b := 7) hi (by omega))) (fun _ => vp_in_nI hi (by decide)) (fun _ => ?_), hp⟩
      rw [hc, nI_1]
      exact hev Q z
  obtain ⟨f, fl, w', hev, hp⟩ := fill 0 (by omega) w sg_fr.rfl' (fun j hj => by omega)
  exact ⟨f, fl, w', fun Q z => sx_met_of rfl rfl rfl rfl (bMo_goes_0 (hev Q z)), hp⟩
end
