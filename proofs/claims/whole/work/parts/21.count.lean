/-! ===== counting is the same in any order; the first row is one ===== -/
theorem sg_le_anti {n : Nat} {σ τ : Nat → Nat} (h1 : sg_le n σ τ) (h2 : sg_le n τ σ) : ∀ j, j < n → σ j = τ j := by
  rcases h1 with h1 | ⟨k, hk, ha, hlt⟩
  · exact h1
  · rcases h2 with h2 | ⟨k2, hk2, ha2, hlt2⟩
    · exact fun j hj => (h2 j hj).symm
    · exfalso
      rcases Nat.lt_trichotomy k k2 with c | c | c
      · have := ha2 k c; omega
      · rw [c] at hlt; omega
      · have := ha k2 c; omega
theorem fb_sm_swap (f : Nat → Nat → Nat) (m : Nat) : ∀ n, fb_sm (fun q => fb_sm (fun p => f q p) m) n = fb_sm (fun p => fb_sm (fun q => f q p) n) m
  | 0 => by
    show 0 = fb_sm (fun p => 0) m
    rw [fb_sm_const]; omega
  | n + 1 => by
    rw [fb_sm_succ, fb_sm_swap f m n, ← fb_sm_add]
    rfl
def sg_vb (L : sg_L) (b : Nat) (S : List (Nat × Nat)) : Bool := sz_all (fun p => decide (sg_cS L S p ≤ b)) 8 && ((sg_lm L 2 S &&& sg_lm L 3 S) == 0)
theorem sg_vb_iff {L : sg_L} {b : Nat} {S : List (Nat × Nat)} : sg_vb L b S = true ↔ sg_vd L b S := by
  unfold sg_vb sg_vd
  rw [Bool.and_eq_true, sz_all_iff, beq_iff_eq]
  constructor
  · rintro ⟨h1, h2⟩; exact ⟨fun p hp => of_decide_eq_true (h1 p hp), h2⟩
  · rintro ⟨h1, h2⟩; exact ⟨fun p hp => decide_eq_true (h1 p hp), h2⟩
def sg_c3 (L : sg_L) (b : Nat) (op : Nat → Nat) : List Nat → List (Nat × Nat) → Nat
  | [], S => if sg_vb L b S then 1 else 0
  | o :: t, S => fb_sm (fun q => if (op o).testBit q then sg_c3 L b op t ((o, q) :: S) else 0) 8
section
variable {L : sg_L} {b : Nat} {op : Nat → Nat}
theorem sg_c3_S : ∀ (os : List Nat) {S T : List (Nat × Nat)}, S.Perm T → sg_c3 L b op os S = sg_c3 L b op os T
  | [], S, T, h => by
    have : sg_vb L b S = sg_vb L b T := by rw [Bool.eq_iff_iff, sg_vb_iff, sg_vb_iff]; exact sg_vd_perm h
    rw [sg_c3, sg_c3, this]
  | o :: t, S, T, h => by
    rw [sg_c3, sg_c3]
    congr 1
    funext q
    rw [sg_c3_S t (h.cons (o, q))]
theorem sg_c3_perm {os ot : List Nat} (h : os.Perm ot) : ∀ S, sg_c3 L b op os S = sg_c3 L b op ot S := by
  induction h with
  | nil => intro S; rfl
  | cons x _ ih =>
    intro S
    rw [sg_c3, sg_c3]
    congr 1
    funext q
    rw [ih]
  | swap x y l =>
    intro S
    have e : ∀ (a c : Nat) (S : List (Nat × Nat)), sg_c3 L b op (a :: c :: l) S = fb_sm (fun q => fb_sm (fun p => if (op a).testBit q && (op c).testBit p then sg_c3 L b op l ((c, p) :: (a, q) :: S) else 0) 8) 8 := fun a c S => by
      rw [sg_c3]
      congr 1
      funext q
      cases (op a).testBit q with
      | true => simp only [if_true, Bool.true_and, sg_c3]
      | false => simp [fb_sm_const]
    rw [e, e, fb_sm_swap]
    congr 1
    funext p
    congr 1
    funext q
    rw [Bool.and_comm]
    split
    · exact sg_c3_S l (List.Perm.swap _ _ _)
    · rfl
  | trans _ _ ih1 ih2 => intro S; rw [ih1, ih2]
theorem sg_c3_no : ∀ (os : List Nat) {S : List (Nat × Nat)}, ¬ sg_vd L b S → sg_c3 L b op os S = 0
  | [], S, h => by
    rw [sg_c3, if_neg (fun e => h (sg_vb_iff.mp e))]
  | o :: t, S, h => by
    rw [sg_c3]
    have : (fun q => if (op o).testBit q then sg_c3 L b op t ((o, q) :: S) else 0) = fun _ => 0 := funext fun q => by
      rw [sg_c3_no t (fun hv => h (sg_vd_tail hv))]
      split <;> rfl
    rw [this, fb_sm_const]
theorem sg_ct2_c3 : ∀ (os : List Nat) {S : List (Nat × Nat)}, sg_vd L b S → sg_ct2 L b op os S = sg_c3 L b op os S
  | [], S, h => by rw [sg_ct2, sg_c3, if_pos (sg_vb_iff.mpr h)]
  | o :: t, S, h => by
    rw [sg_ct2, sg_c3]
    congr 1
    funext q
    cases (op o).testBit q with
    | false => rfl
    | true =>
      by_cases hj : sg_jn L b S o q = true
      · rw [hj]
        exact sg_ct2_c3 t ((sg_jn_iff h).mp hj)
      · have hj2 : sg_jn L b S o q = false := by simpa using hj
        rw [hj2, sg_c3_no t (fun hv => hj ((sg_jn_iff h).mpr hv))]
        rfl
theorem sg_ct2_perm {os ot : List Nat} (h : os.Perm ot) : sg_ct2 L b op os [] = sg_ct2 L b op ot [] := by
  rw [sg_ct2_c3 os (sg_vd_nil L b), sg_ct2_c3 ot (sg_vd_nil L b), sg_c3_perm h]
theorem sg_pf_cong {ρ σ : Nat → Nat} : ∀ {l : Nat}, (∀ j, j < l → ρ j = σ j) → sg_pf ρ l = sg_pf σ l
  | 0, _ => rfl
  | l + 1, h => by rw [sg_pf, sg_pf, h l (by omega), sg_pf_cong (fun j hj => h j (by omega))]
theorem sg_ch_le (t : Bool) (r ρ : Nat → Nat) (m : Nat) : sg_ch t r ρ m ≤ m := by
  unfold sg_ch
  split
  · exact fb_ct_le _ _
  · omega
/-- the model counts them lodger by lodger -/
theorem sg_N_ct {t : Bool} {r : Nat → Nat} {o : Nat} (ho : L.1 ≤ o) : ∀ (k l : Nat) (ρ : Nat → Nat), l + k = L.1 → (∀ p, p < 8 → sg_cS L (sg_pf ρ l) p ≤ b) → sg_N L b t r o k l ρ = sg_ct2 L b (sg_mays L) (List.range' l k) (sg_pf ρ l)
  | 0, l, ρ, _, _ => rfl
  | k + 1, l, ρ, hl, cap => by
    rw [sg_N, List.range'_succ, sg_ct2]
    apply fb_sm_cong
    intro q hq
    have e1 : sg_pf (sg_up ρ l q) l = sg_pf ρ l := sg_pf_cong (fun j hj => sg_up_o (by omega))
    have e2 : sg_oks L b t r o (sg_up ρ l q) l = ((sg_mays L l).testBit q && sg_jn L b (sg_pf ρ l) l q) := by
      have h1 := sg_ch_le t r (sg_up ρ l q) (l + 1)
      rw [sg_oks, decide_eq_true (by omega), Bool.and_true, sg_fit_jn (by rw [e1]; exact cap), e1, sg_up_s, sg_mays_bit L l hq]
    rw [e2]
    split
    · rename_i hc
      rw [Bool.and_eq_true] at hc
      have e3 : (l, q) :: sg_pf ρ l = sg_pf (sg_up ρ l q) (l + 1) := by rw [sg_pf, e1, sg_up_s]
      rw [e3]
      refine sg_N_ct ho k (l + 1) (sg_up ρ l q) (by omega) (fun p hp => ?_)
      rw [← e3]
      have h2 := hc.2
      rw [sg_jn, Bool.and_eq_true] at h2
      exact of_decide_eq_true (sz_all_iff.mp h2.2 p hp)
    · rfl
/-- how many good rows there are -/
def sg_ways (L : sg_L) (b : Nat) : Nat := sg_ct2 L b (sg_mays L) (List.range L.1) []
theorem sg_N_ways {t : Bool} {r : Nat → Nat} {o : Nat} (ho : L.1 ≤ o) (ρ : Nat → Nat) : sg_N L b t r o L.1 0 ρ = sg_ways L b := by
  rw [sg_N_ct ho L.1 0 ρ (by omega) (fun p hp => Nat.zero_le _), sg_ways, List.range_eq_range']
  rfl
/-- good rows -/
def sg_gd (L : sg_L) (b : Nat) (σ : Nat → Nat) : Prop := (∀ l, l < L.1 → σ l < 8) ∧ sg_good L b σ = true
theorem sg_gr_gd {r : Nat → Nat} {c : Nat} {σ : Nat → Nat} (hc : L.1 ≤ c) : sg_gr L b r c σ ↔ sg_gd L b σ := by
  have := sg_ch_le true r σ L.1
  exact ⟨fun h => ⟨h.1, h.2.1⟩, fun h => ⟨h.1, h.2, by omega⟩⟩
theorem sg_E_iff {t : Bool} {r : Nat → Nat} {o : Nat} {ρ σ : Nat → Nat} : sg_E L b t r o 0 L.1 ρ σ ↔ sg_gd L b σ ∧ sg_ch t r σ L.1 ≤ o := by
  unfold sg_E sg_gd sg_good
  rw [sz_all_iff]
  constructor
  · rintro ⟨-, h⟩
    refine ⟨⟨fun l hl => (h l (Nat.zero_le _) hl).1, fun l hl => ?_⟩, ?_⟩
    · have := (h l (Nat.zero_le _) hl).2
      rw [sg_oks, Bool.and_eq_true] at this
      exact this.1
    · rcases Nat.eq_zero_or_pos L.1 with z | z
      · have := sg_ch_le t r σ L.1
        omega
      · have := (h (L.1 - 1) (Nat.zero_le _) (by omega)).2
        rw [sg_oks, Bool.and_eq_true] at this
        have h2 := of_decide_eq_true this.2
        rw [show L.1 - 1 + 1 = L.1 by omega] at h2
        exact h2
  · rintro ⟨⟨h1, h2⟩, h3⟩
    refine ⟨fun j hj => by omega, fun j _ hj => ⟨h1 j hj, ?_⟩⟩
    rw [sg_oks, h2 j hj, Bool.true_and]
    refine decide_eq_true (Nat.le_trans ?_ h3)
    unfold sg_ch
    split
    · exact fb_ct_mono _ (by omega)
    · exact Nat.le_refl _
theorem sg_E_gr {r : Nat → Nat} {o : Nat} {ρ σ : Nat → Nat} : sg_E L b true r o 0 L.1 ρ σ ↔ sg_gr L b r o σ := by
  rw [sg_E_iff]
  exact ⟨fun h => ⟨h.1.1, h.1.2, h.2⟩, fun h => ⟨⟨h.1, h.2.1⟩, h.2.2⟩⟩
theorem sg_ways_pos : 0 < sg_ways L b ↔ ∃ σ, sg_gd L b σ := by
  rw [← sg_N_ways (t := false) (r := fun _ => 0) (o := L.1) (Nat.le_refl _) (fun _ => 0), sg_N_pos, Nat.zero_add]
  constructor
  · rintro ⟨σ, h⟩; exact ⟨σ, (sg_E_iff.mp h).1⟩
  · rintro ⟨σ, h⟩; exact ⟨σ, sg_E_iff.mpr ⟨h, sg_ch_le _ _ _ _⟩⟩
theorem sg_gd_mono {c : Nat} {σ : Nat → Nat} (h : b ≤ c) (hg : sg_gd L b σ) : sg_gd L c σ := by
  refine ⟨hg.1, ?_⟩
  obtain ⟨h1, h2⟩ := sg_good_iff.mp hg.2
  exact sg_good_iff.mpr ⟨h1, fun p hp => Nat.le_trans (h2.1 p hp) h, h2.2⟩
/-- the first of some rows -/
def sg_is1 (L : sg_L) (b : Nat) (σ : Nat → Nat) : Prop := sg_gd L b σ ∧ ∀ τ, sg_gd L b τ → sg_le L.1 σ τ
def sg_isM (L : sg_L) (b : Nat) (r : Nat → Nat) (c : Nat) (σ : Nat → Nat) : Prop := (sg_gr L b r c σ ∧ ∀ τ, sg_gr L b r c τ → sg_le L.1 σ τ) ∧ ∀ c', c' < c → ∀ τ, ¬ sg_gr L b r c' τ
theorem sg_is1_one {σ τ : Nat → Nat} (h1 : sg_is1 L b σ) (h2 : sg_is1 L b τ) : ∀ j, j < L.1 → σ j = τ j := sg_le_anti (h1.2 τ h2.1) (h2.2 σ h1.1)
theorem sg_isM_one {r : Nat → Nat} {c c2 : Nat} {σ τ : Nat → Nat} (h1 : sg_isM L b r c σ) (h2 : sg_isM L b r c2 τ) : c = c2 ∧ ∀ j, j < L.1 → σ j = τ j := by
  have e : c = c2 := by
    rcases Nat.lt_trichotomy c c2 with h | h | h
    · exact absurd h1.1.1 (h2.2 c h σ)
    · exact h
    · exact absurd h2.1.1 (h1.2 c2 h τ)
  subst e
  exact ⟨rfl, sg_le_anti (h1.1.2 τ h2.1.1) (h2.1.2 σ h1.1.1)⟩
end
section
variable {d : Nat} {w : sx_W} {L : sg_L} {b : Nat} {r : Nat → Nat}
def sg_kF (L : sg_L) (b : Nat) (s : Int32) (row : Nat → Int32) : Prop := (s = 1 ∧ ∃ σ, sg_is1 L b σ ∧ ∀ j, j < L.1 → row j = nI (σ j)) ∨ (s = 0 ∧ ∀ σ, ¬ sg_gd L b σ)
theorem sg_kF.b01 {s : Int32} {row : Nat → Int32} (h : sg_kF L b s row) : s = 0 ∨ s = 1 := by
  rcases h with h | h
  · exact Or.inr h.1
  · exact Or.inl h.1
theorem spSe_knowsFirst (h : sg_Co L b r w) (hk : w.1 16 9 = w.1 1 9 → sg_kF L b (w.1 16 8) (w.1 22)) : sx_x (d + 12) rSe_knowsFirst [.ref 16] w (fun f fl w' => fl = 0 ∧ sg_kF L b f (w'.1 22) ∧ w'.1 16 8 = f ∧ w'.1 16 9 = w.1 1 9 ∧ (∀ j, j ≠ 8 → j ≠ 9 → w'.1 16 j = w.1 16 j) ∧ sg_fr [16, 17, 18, 19, 20, 21, 22] w w') := by
  have h7 := h.1.1.1
  by_cases hc : w.1 16 9 = w.1 1 9
  · exact ⟨w.1 16 8, 0, w, fun Q z => sx_met_of rfl rfl rfl rfl (bSe_knowsFirst_0 (f1 := 0) (w1 := w) (fun _ => z) (fun _ => (hk hc).b01) (fun c => absurd hc c) (fun c => absurd hc c) (fun c => absurd hc c)), rfl, hk hc, rfl, hc, fun _ _ _ => rfl, sg_fr.rfl'⟩
  · obtain ⟨f, fl, w1, hde, hfl, hfr, hcase⟩ := spSe_findFirst_22 (d := d) (c := L.1) h (by omega)
    subst hfl
    rw [← h.1.2.1] at hde
    have hkF : sg_kF L b f (w1.1 22) := by
      rcases hcase with ⟨hf, σ, h1, h2, h3⟩ | ⟨hf, h1⟩
      · exact Or.inl ⟨hf, σ, ⟨(sg_gr_gd (Nat.le_refl _)).mp h1, fun τ hτ => h2 τ ((sg_gr_gd (Nat.le_refl _)).mpr hτ)⟩, h3⟩
      · exact Or.inr ⟨hf, fun σ hσ => h1 σ ((sg_gr_gd (Nat.le_refl _)).mpr hσ)⟩
    have e1 : w1.1 1 = w.1 1 := (hfr 1 (by decide)).1
    have e16 : w1.1 16 = w.1 16 := (hfr 16 (by decide)).1
    refine ⟨f, 0, (sx_u (sx_u w1.1 16 8 f) 16 9 (w1.1 1 9), w1.2), fun Q z => sx_met_of rfl rfl rfl rfl (bSe_knowsFirst_0 (fun c => absurd c hc) (fun c => absurd c hc) (fun _ => hde) (fun _ => hkF.b01) (fun _ => z)), rfl, ?_, ?_, ?_, fun j h1 h2 => ?_, (hfr.mono (by decide)).trans (fun a ha => ⟨?_, rfl⟩)⟩
    · show sg_kF L b f (sx_u (sx_u w1.1 16 8 f) 16 9 (w1.1 1 9) 22)
      rw [sx_u_o (by decide), sx_u_o (by decide)]
      exact hkF
    · show sx_u (sx_u w1.1 16 8 f) 16 9 (w1.1 1 9) 16 8 = f
      rw [sx_u_s, if_neg (by decide), sx_u_s, if_pos rfl]
    · show sx_u (sx_u w1.1 16 8 f) 16 9 (w1.1 1 9) 16 9 = _
      rw [sx_u_s, if_pos rfl, e1]
    · show sx_u (sx_u w1.1 16 8 f) 16 9 (w1.1 1 9) 16 j = _
      rw [sx_u_s, if_neg h2, sx_u_s, if_neg h1, e16]
    · have : a ≠ 16 := fun e => ha (by rw [e]; decide)
      show sx_u (sx_u w1.1 16 8 f) 16 9 (w1.1 1 9) a = _
      rw [sx_u_o this, sx_u_o this]
def sg_kM (L : sg_L) (b : Nat) (r : Nat → Nat) (s ch : Int32) (row : Nat → Int32) : Prop := (s = 1 ∧ ∃ c σ, ch = nI c ∧ c ≤ L.1 ∧ sg_isM L b r c σ ∧ ∀ j, j < L.1 → row j = nI (σ j)) ∨ (s = 0 ∧ ∀ σ, ¬ sg_gd L b σ)
theorem sg_kM.b01 {s ch : Int32} {row : Nat → Int32} (h : sg_kM L b r s ch row) : s = 0 ∨ s = 1 := by
  rcases h with h | h
  · exact Or.inr h.1
  · exact Or.inl h.1
theorem spSe_knowsMended (h : sg_Co L b r w) (hk : w.1 16 13 = w.1 1 8 → sg_kM L b r (w.1 16 12) (w.1 16 11) (w.1 23)) : sx_x (d + 12) rSe_knowsMended [.ref 16] w (fun f fl w' => fl = 0 ∧ sg_kM L b r f (w'.1 16 11) (w'.1 23) ∧ w'.1 16 12 = f ∧ w'.1 16 13 = w.1 1 8 ∧ (∀ j, j ≠ 11 → j ≠ 12 → j ≠ 13 → w'.1 16 j = w.1 16 j) ∧ sg_fr [16, 17, 18, 19, 20, 21, 23] w w') := by
  have h7 := h.1.1.1
  by_cases hc : w.1 16 13 = w.1 1 8
  · exact ⟨w.1 16 12, 0, w, fun Q z => sx_met_of rfl rfl rfl rfl (bSe_knowsMended_0 (fun _ => z) (fun _ => (hk hc).b01) (fun c => absurd hc c)), rfl, hk hc, rfl, hc, fun _ _ _ _ => rfl, sg_fr.rfl'⟩
  · -- what holds at the end
    have fin : ∀ (u : sx_W), sg_kM L b r (u.1 16 12) (u.1 16 11) (u.1 23) → (∀ j, j ≠ 11 → j ≠ 12 → j ≠ 13 → u.1 16 j = w.1 16 j) → sg_fr [16, 17, 18, 19, 20, 21, 23] w u → (fun (f : Int32) (fl : Int64) (w' : sx_W) => fl = 0 ∧ sg_kM L b r f (w'.1 16 11) (w'.1 23) ∧ w'.1 16 12 = f ∧ w'.1 16 13 = w.1 1 8 ∧ (∀ j, j ≠ 11 → j ≠ 12 → j ≠ 13 → w'.1 16 j = w.1 16 j) ∧ sg_fr [16, 17, 18, 19, 20, 21, 23] w w') (u.1 16 12) 0 (sx_u u.1 16 13 (u.1 1 8), u.2) := by
      intro u hkM hoth hfr
      refine ⟨rfl, ?_, ?_, ?_, fun j h1 h2 h3 => ?_, hfr.trans (fun a ha => ⟨sx_u_o (fun e => ha (by rw [e]; decide)), rfl⟩)⟩
      · show sg_kM L b r (u.1 16 12) (sx_u u.1 16 13 (u.1 1 8) 16 11) (sx_u u.1 16 13 (u.1 1 8) 23)
        rw [sx_u_s, if_neg (by decide), sx_u_o (by decide)]
        exact hkM
      · show sx_u u.1 16 13 (u.1 1 8) 16 12 = u.1 16 12
        rw [sx_u_s, if_neg (by decide)]
      · show sx_u u.1 16 13 (u.1 1 8) 16 13 = w.1 1 8
        rw [sx_u_s, if_pos rfl, (hfr 1 (by decide)).1]
      · show sx_u u.1 16 13 (u.1 1 8) 16 j = w.1 16 j
        rw [sx_u_s, if_neg h3]; exact hoth j h1 h2 h3
    -- behind a row that was found
    have won : ∀ (k : Nat) (u : sx_W), k ≤ L.1 + 1 → u.1 16 12 = 1 → sg_kM L b r (u.1 16 12) (u.1 16 11) (u.1 23) → (∀ j, j ≠ 11 → j ≠ 12 → j ≠ 13 → u.1 16 j = w.1 16 j) → sg_fr [16, 17, 18, 19, 20, 21, 23] w u → sx_xe (d + 12) rSe_knowsMended 21 [.ref 16, .int (nI k)] u (fun f fl w' => fl = 0 ∧ sg_kM L b r f (w'.1 16 11) (w'.1 23) ∧ w'.1 16 12 = f ∧ w'.1 16 13 = w.1 1 8 ∧ (∀ j, j ≠ 11 → j ≠ 12 → j ≠ 13 → w'.1 16 j = w.1 16 j) ∧ sg_fr [16, 17, 18, 19, 20, 21, 23] w w') := by
      intro k u hk h12 hkM hoth hfr
      have n0 : ¬ u.1 16 12 = 0 := by rw [h12]; decide
      exact ⟨_, 0, _, fun Q z => bSe_knowsMended_21 (f1 := 0) (w1 := u) (fun _ => z) (fun _ => hkM.b01) (fun _ _ => z) (fun _ _ => hkM.b01) (fun _ c => absurd c n0) (fun _ c => absurd c n0) (fun _ c => absurd c n0), fin u hkM hoth hfr⟩
    have loop : ∀ k, k ≤ L.1 + 1 → ∀ u, u.1 16 12 = 0 → (∀ c, c < k → ∀ σ, ¬ sg_gr L b r c σ) → (∀ j, j ≠ 11 → j ≠ 12 → j ≠ 13 → u.1 16 j = w.1 16 j) → sg_fr [16, 17, 18, 19, 20, 21, 23] w u → sx_xe (d + 12) rSe_knowsMended 21 [.ref 16, .int (nI k)] u (fun f fl w' => fl = 0 ∧ sg_kM L b r f (w'.1 16 11) (w'.1 23) ∧ w'.1 16 12 = f ∧ w'.1 16 13 = w.1 1 8 ∧ (∀ j, j ≠ 11 → j ≠ 12 → j ≠ 13 → w'.1 16 j = w.1 16 j) ∧ sg_fr [16, 17, 18, 19, 20, 21, 23] w w') := by
      refine sx_for (L.1 + 1) (fun u h12 hno hoth hfr => ?_) (fun k hk ih u h12 hno hoth hfr => ?_)
      · have hn : u.1 1 4 = nI L.1 := by rw [(hfr 1 (by decide)).1]; exact h.1.2.1
        have c0 : u.1 1 4 < nI (L.1 + 1) := by rw [hn]; exact nI_lt (by omega) (by omega)
        have hkM : sg_kM L b r (u.1 16 12) (u.1 16 11) (u.1 23) := Or.inr ⟨h12, fun σ hσ => hno L.1 (by omega) σ ((sg_gr_gd (Nat.le_refl _)).mpr hσ)⟩
        exact ⟨_, 0, _, fun Q z => bSe_knowsMended_21 (f1 := 0) (w1 := u) (fun _ => z) (fun _ => hkM.b01) (fun c => absurd c0 c) (fun c => absurd c0 c) (fun c => absurd c0 c) (fun c => absurd c0 c) (fun c => absurd c0 c), fin u hkM hoth hfr⟩
      · have hn : u.1 1 4 = nI L.1 := by rw [(hfr 1 (by decide)).1]; exact h.1.2.1
        have nc : ¬ u.1 1 4 < nI k := by rw [hn]; exact nI_nlt (by omega) (by omega)
        have hCo := h.fr hfr (by decide)
        obtain ⟨f, fl, w1, hde, hfl, hfr1, hcase⟩ := spSe_findFirst_23 (d := d) (c := k) hCo (by omega)
        subst hfl
        have e16 : w1.1 16 = u.1 16 := (hfr1 16 (by decide)).1
        have hfr2 : sg_fr [16, 17, 18, 19, 20, 21, 23] w (sx_u (sx_u w1.1 16 12 f) 16 11 (nI k), w1.2) := (hfr.trans (hfr1.mono (by decide))).trans (fun a ha => by
          have : a ≠ 16 := fun e => ha (by rw [e]; decide)
          exact ⟨by show sx_u (sx_u w1.1 16 12 f) 16 11 (nI k) a = _; rw [sx_u_o this, sx_u_o this], rfl⟩)
        have h12' : (sx_u (sx_u w1.1 16 12 f) 16 11 (nI k)) 16 12 = f := by rw [sx_u_s, if_neg (by decide), sx_u_s, if_pos rfl]
        have h11' : (sx_u (sx_u w1.1 16 12 f) 16 11 (nI k)) 16 11 = nI k := by rw [sx_u_s, if_pos rfl]
        have h23' : (sx_u (sx_u w1.1 16 12 f) 16 11 (nI k)) 23 = w1.1 23 := by rw [sx_u_o (by decide), sx_u_o (by decide)]
        have hoth' : ∀ j, j ≠ 11 → j ≠ 12 → j ≠ 13 → (sx_u (sx_u w1.1 16 12 f) 16 11 (nI k)) 16 j = w.1 16 j := fun j h1 h2 h3 => by
          rw [sx_u_s, if_neg h1, sx_u_s, if_neg h2, e16]; exact hoth j h1 h2 h3
        rcases hcase with ⟨hf, σ, h1, h2, h3⟩ | ⟨hf, h1⟩
        · subst hf
          obtain ⟨g, gl, w', hev, hp⟩ := won (k + 1) (sx_u (sx_u w1.1 16 12 1) 16 11 (nI k), w1.2) (by omega) h12' (by
            show sg_kM L b r ((sx_u (sx_u w1.1 16 12 1) 16 11 (nI k)) 16 12) ((sx_u (sx_u w1.1 16 12 1) 16 11 (nI k)) 16 11) ((sx_u (sx_u w1.1 16 12 1) 16 11 (nI k)) 23)
            rw [h12', h11', h23']
            exact Or.inl ⟨rfl, k, σ, rfl, by omega, ⟨⟨h1, h2⟩, fun c' hc' τ => hno c' hc' τ⟩, h3⟩) hoth' hfr2
          refine ⟨g, gl, w', fun Q z => bSe_knowsMended_21 (fun c => absurd c nc) (fun c => absurd c nc) (fun _ c => absurd h12 c) (fun _ c => absurd h12 c) (fun _ _ => hde) (fun _ _ => Or.inr rfl) (fun _ _ => ?_), hp⟩
          rw [nI_1]; exact hev Q z
        · subst hf
          obtain ⟨g, gl, w', hev, hp⟩ := ih (sx_u (sx_u w1.1 16 12 0) 16 11 (nI k), w1.2) h12' (fun c hck σ hσ => by
            by_cases e : c = k
            · rw [e] at hσ; exact h1 σ hσ
            · exact hno c (by omega) σ hσ) hoth' hfr2
          refine ⟨g, gl, w', fun Q z => bSe_knowsMended_21 (fun c => absurd c nc) (fun c => absurd c nc) (fun _ c => absurd h12 c) (fun _ c => absurd h12 c) (fun _ _ => hde) (fun _ _ => Or.inl rfl) (fun _ _ => ?_), hp⟩
          rw [nI_1]; exact hev Q z
    obtain ⟨g, gl, w', hev, hp⟩ := loop 0 (by omega) (sx_u w.1 16 12 0, w.2) (by show sx_u w.1 16 12 0 16 12 = 0; rw [sx_u_s, if_pos rfl]) (fun c hc => by omega) (fun j h1 h2 h3 => by show sx_u w.1 16 12 0 16 j = _; rw [sx_u_s, if_neg h2]) (fun a ha => ⟨sx_u_o (fun e => ha (by rw [e]; decide)), rfl⟩)
    exact ⟨g, gl, w', fun Q z => sx_met_of rfl rfl rfl rfl (bSe_knowsMended_0 (fun c => absurd c hc) (fun c => absurd c hc) (fun _ => hev Q z)), hp⟩
theorem spSe_countGood (h : sg_Co L b r w) : sx_x (d + 11) rSe_countGood [.ref 16] w (fun f fl w' => fl = 0 ∧ f = nI (min 9999 (sg_ways L b)) ∧ sg_fr [17, 18, 19, 20] w w') := by
  have h7 := h.1.1.1
  obtain ⟨f1, fl1, w1, hde1, e1, e2, ⟨os, hse⟩, hfr1⟩ := spSe_openAll (d := d + 7) h
  subst e1; subst e2
  have hCo1 := h.fr hfr1 (by decide)
  have hlen : os.length = L.1 := by rw [hse.2.1.length_eq, List.length_range]
  have hroom := spSe_hasRoomForAll (d := d + 9) (w := w1) hCo1.1 h.2.2.2.1
  have hb1 : w1.1 1 5 = nI b := hCo1.2.2.1
  by_cases hr : fb_sm L.2.2.1 L.1 ≤ 8 * b
  · rw [decide_eq_true hr] at hroom
    have hcnt := spSe_countFrom (d := d + 10 - L.1) hCo1 hse os [] [] 9999 rfl rfl (by omega) (by omega)
    rw [hlen, show d + 10 - L.1 + L.1 = d + 10 by omega, sg_ct2_perm hse.2.1] at hcnt
    exact ⟨_, 0, w1, fun Q z => sx_met_of rfl rfl rfl rfl (bSe_countGood_0 hde1 (by rw [hb1]; exact hroom) (fun c => absurd c (by decide)) (fun _ => by rw [hb1]; exact spSt_nobodyIn h.2.2.2.1) (fun _ => hcnt) (fun _ => z)), rfl, rfl, hfr1⟩
  · rw [decide_eq_false hr] at hroom
    refine ⟨0, 0, w1, fun Q z => sx_met_of rfl rfl rfl rfl (bSe_countGood_0 (f3 := 0) (f4 := 0) hde1 (by rw [hb1]; exact hroom) (fun _ => z) (fun c => absurd rfl c) (fun c => absurd rfl c) (fun c => absurd rfl c)), rfl, ?_, hfr1⟩
    have : sg_ways L b = 0 := by
      rcases Nat.eq_zero_or_pos (sg_ways L b) with z | z
      · exact z
      · exfalso
        obtain ⟨σ, hσ⟩ := sg_ways_pos.mp z
        exact hr (sg_room h.1.1 hσ.1 (sg_good_iff.mp hσ.2).2)
    rw [this]; rfl
/-- the fewest beds -/
def sg_few (L : sg_L) (f : Int32) : Prop := (∃ c, 1 ≤ c ∧ c ≤ 7 ∧ f = nI c ∧ (∃ σ, sg_gd L c σ) ∧ ∀ c', 1 ≤ c' → c' < c → ∀ σ, ¬ sg_gd L c' σ) ∨ (f = -4 ∧ ∀ c, 1 ≤ c → c ≤ 7 → ∀ σ, ¬ sg_gd L c σ)
theorem sg_few_one {f g : Int32} (h1 : sg_few L f) (h2 : sg_few L g) : f = g := by
  rcases h1 with ⟨c, a1, a2, a3, a4, a5⟩ | ⟨a1, a2⟩
  · rcases h2 with ⟨c2, b1, b2, b3, b4, b5⟩ | ⟨b1, b2⟩
    · rcases Nat.lt_trichotomy c c2 with e | e | e
      · obtain ⟨σ, hσ⟩ := a4; exact absurd hσ (b5 c a1 e σ)
      · rw [a3, b3, e]
      · obtain ⟨σ, hσ⟩ := b4; exact absurd hσ (a5 c2 b1 e σ)
    · obtain ⟨σ, hσ⟩ := a4; exact absurd hσ (b2 c a1 a2 σ)
  · rcases h2 with ⟨c2, b1, b2, b3, b4, b5⟩ | ⟨b1, b2⟩
    · obtain ⟨σ, hσ⟩ := b4; exact absurd hσ (a2 c2 b1 b2 σ)
    · rw [a1, b1]
theorem spSe_fewestBeds (h : sg_Co L b r w) : sx_x (d + 11) rSe_fewestBeds [.ref 16] w (fun f fl w' => fl = 0 ∧ sg_few L f ∧ sg_fr [17, 18, 19, 20, 21] w w') := by
  have h7 := h.1.1.1
  obtain ⟨f1, fl1, w1, hde1, e1, e2, ⟨os, hse⟩, hfr1⟩ := spSe_openAll (d := d + 7) h
  subst e1; subst e2
  have hCo1 := h.fr hfr1 (by decide)
  have hn1 : w1.1 1 4 = nI L.1 := hCo1.1.2.1
  have sol_gd : ∀ (c : Nat) (σ : Nat → Nat), sg_sol L c (sg_mays L) r (List.range L.1) [] L.1 σ ↔ sg_gd L c σ := fun c σ => by rw [sg_sol_mays, sg_gr_gd (Nat.le_refl _)]
  obtain ⟨f2, fl2, w2, hde2, hfl, hcase⟩ := spSe_exists (d := d + 1) (c := L.1) hCo1 hse (show 7 ≤ 7 by omega) (by omega)
  subst hfl
  rw [← hn1] at hde2
  rcases hcase with ⟨hf, σ7, hs7, hfr2, -⟩ | ⟨hf, hw, hnos⟩
  · subst hf
    have loop : ∀ c, c ≤ 7 → 1 ≤ c → ∀ u, sg_fr [21] w1 u → (∀ c', 1 ≤ c' → c' < c → ∀ σ, ¬ sg_gd L c' σ) → sx_xe (d + 11) rSe_fewestBeds 25 [.ref 16, .int (nI c)] u (fun f fl w' => fl = 0 ∧ sg_few L f ∧ sg_fr [17, 18, 19, 20, 21] w w') := by
      refine sx_for 7 (fun _ u hfr hno => ?_) (fun c hc ih h1 u hfr hno => ?_)
      · exact ⟨7, 0, u, fun Q z => bSe_fewestBeds_25 (f1 := 0) (w1 := u) (fun _ => z) (fun c => absurd (by decide) c) (fun c => absurd (by decide) c) (fun c => absurd (by decide) c), rfl, Or.inl ⟨7, by omega, by omega, rfl, ⟨σ7, (sol_gd 7 σ7).mp hs7⟩, hno⟩, (hfr1.mono (by decide)).trans (hfr.mono (by decide))⟩
      · have nc : ¬ (7 : Int32) ≤ nI c := nI_ge (b := 7) hc (by omega)
        have hCo := hCo1.fr hfr (by decide)
        obtain ⟨f3, fl3, w3, hde3, hfl3, hcase3⟩ := spSe_exists (d := d + 1) (c := L.1) hCo (hse.fr hfr (by decide) (by decide) (by decide)) (show c ≤ 7 by omega) (by omega)
        subst hfl3
        rw [← hCo.1.2.1] at hde3
        rcases hcase3 with ⟨hf3, σ3, hs3, hfr3, -⟩ | ⟨hf3, hw3, hnos3⟩
        · subst hf3
          exact ⟨nI c, 0, w3, fun Q z => bSe_fewestBeds_25 (fun c => absurd c nc) (fun _ => hde3) (fun _ c => absurd c (by decide)) (fun _ _ => z), rfl, Or.inl ⟨c, h1, by omega, rfl, ⟨σ3, (sol_gd c σ3).mp hs3⟩, hno⟩, ((hfr1.mono (by decide)).trans (hfr.mono (by decide))).trans (hfr3.mono (by decide))⟩
        · subst hf3
          subst hw3
          obtain ⟨g, gl, w', hev, hp⟩ := ih (by omega) w3 hfr (fun c' a1 a2 σ hσ => by
            by_cases e : c' = c
            · rw [e] at hσ; exact hnos3 σ ((sol_gd c σ).mpr hσ)
            · exact hno c' a1 (by omega) σ hσ)
          refine ⟨g, gl, w', fun Q z => bSe_fewestBeds_25 (fun c => absurd c nc) (fun _ => hde3) (fun _ _ => ?_) (fun _ c => absurd rfl c), hp⟩
          rw [nI_1]; exact hev Q z
    obtain ⟨g, gl, w', hev, hp⟩ := loop 1 (by omega) (by omega) w2 hfr2 (fun c' a1 a2 => by omega)
    exact ⟨g, gl, w', fun Q z => sx_met_of rfl rfl rfl rfl (bSe_fewestBeds_0 hde1 hde2 (fun _ => hev Q z) (fun c => absurd c (by decide))), hp⟩
  · subst hf
    subst hw
    exact ⟨-4, 0, w2, fun Q z => sx_met_of rfl rfl rfl rfl (bSe_fewestBeds_0 hde1 hde2 (fun c => absurd rfl c) (fun _ => z)), rfl, Or.inr ⟨rfl, fun c h1 h2 σ hσ => hnos σ ((sol_gd 7 σ).mpr (sg_gd_mono h2 hσ))⟩, hfr1.mono (by decide)⟩
end
