/-! ===== who may be placed together, in any order ===== -/
def sg_vd (L : sg_L) (b : Nat) (S : List (Nat × Nat)) : Prop := (∀ p, p < 8 → sg_cS L S p ≤ b) ∧ (sg_lm L 2 S &&& sg_lm L 3 S) = 0
theorem sg_cS_perm {L : sg_L} {p : Nat} {S T : List (Nat × Nat)} (h : S.Perm T) : sg_cS L S p = sg_cS L T p := by
  induction h with
  | nil => rfl
  | cons x _ ih => simp only [sg_cS, ih]
  | swap x y l => simp only [sg_cS]; omega
  | trans _ _ ih1 ih2 => rw [ih1, ih2]
theorem nb_or_swap (a x y : Nat) : (a ||| x) ||| y = (a ||| y) ||| x := by rw [Nat.or_assoc, Nat.or_comm x y, ← Nat.or_assoc]
theorem sg_lm_perm {L : sg_L} {k : Nat} {S T : List (Nat × Nat)} (h : S.Perm T) : sg_lm L k S = sg_lm L k T := by
  induction h with
  | nil => rfl
  | cons x _ ih => simp only [sg_lm, ih]
  | swap x y l =>
    simp only [sg_lm]
    by_cases hx : L.2.1 x.1 = k
    · by_cases hy : L.2.1 y.1 = k
      · rw [if_pos hx, if_pos hy, if_pos hx, if_pos hy, nb_or_swap]
      · rw [if_neg hy, if_pos hx, if_pos hx, if_neg hy]
    · by_cases hy : L.2.1 y.1 = k
      · rw [if_pos hy, if_neg hx, if_neg hx, if_pos hy]
      · rw [if_neg hy, if_neg hx, if_neg hx, if_neg hy]
  | trans _ _ ih1 ih2 => rw [ih1, ih2]
theorem sg_vd_perm {L : sg_L} {b : Nat} {S T : List (Nat × Nat)} (h : S.Perm T) : sg_vd L b S ↔ sg_vd L b T := by
  unfold sg_vd
  rw [sg_lm_perm h, sg_lm_perm h]
  constructor
  · intro x; exact ⟨fun p hp => by rw [← sg_cS_perm h]; exact x.1 p hp, x.2⟩
  · intro x; exact ⟨fun p hp => by rw [sg_cS_perm h]; exact x.1 p hp, x.2⟩
theorem sg_lm_cons {L : sg_L} {k : Nat} {q : Nat × Nat} {S : List (Nat × Nat)} {s : Nat} : ((sg_lm L k (q :: S)) &&& s = 0) ↔ (sg_lm L k S &&& s = 0) ∧ (L.2.1 q.1 = k → sg_sl L q.1 q.2 &&& s = 0) := by
  simp only [sg_lm]
  by_cases h : L.2.1 q.1 = k
  · rw [if_pos h, nb_or0]; exact ⟨fun x => ⟨x.1, fun _ => x.2⟩, fun x => ⟨x.1, x.2 h⟩⟩
  · rw [if_neg h]; exact ⟨fun x => ⟨x, fun h2 => absurd h2 h⟩, fun x => x.1⟩
theorem sg_vd_cons {L : sg_L} {b l q : Nat} {S : List (Nat × Nat)} : sg_vd L b ((l, q) :: S) ↔ (∀ p, p < 8 → sg_cS L ((l, q) :: S) p ≤ b) ∧ (sg_lm L 2 S &&& sg_lm L 3 S) = 0 ∧ sg_cl L S l q = true := by
  unfold sg_vd
  rw [and_congr_right_iff]
  intro _
  rw [sg_lm_cons, Nat.and_comm (sg_lm L 2 S), Nat.and_comm (sg_sl L _ _), sg_lm_cons, Nat.and_comm (sg_lm L 3 S) (sg_lm L 2 S)]
  unfold sg_cl
  by_cases k2 : L.2.1 l = 2
  · rw [if_pos k2, beq_iff_eq]
    constructor
    · rintro ⟨⟨h1, h2⟩, h3⟩
      refine ⟨h1, ?_⟩
      have := h3 k2
      rw [sg_lm_cons] at this
      exact this.1
    · rintro ⟨h1, h2⟩
      refine ⟨⟨h1, fun h => absurd (k2.symm.trans h) (by decide)⟩, fun _ => ?_⟩
      rw [sg_lm_cons]
      exact ⟨h2, fun h => absurd (k2.symm.trans h) (by decide)⟩
  · rw [if_neg k2]
    by_cases k3 : L.2.1 l = 3
    · rw [if_pos k3, beq_iff_eq]
      constructor
      · rintro ⟨⟨h1, h2⟩, h3⟩
        exact ⟨h1, by rw [Nat.and_comm]; exact h2 k3⟩
      · rintro ⟨h1, h2⟩
        exact ⟨⟨h1, fun _ => by rw [Nat.and_comm]; exact h2⟩, fun h => absurd h k2⟩
    · rw [if_neg k3]
      constructor
      · rintro ⟨⟨h1, h2⟩, h3⟩
        exact ⟨h1, rfl⟩
      · rintro ⟨h1, h2⟩
        exact ⟨⟨h1, fun h => absurd h k3⟩, fun h => absurd h k2⟩
theorem sg_vd_tail {L : sg_L} {b : Nat} {q : Nat × Nat} {S : List (Nat × Nat)} (h : sg_vd L b (q :: S)) : sg_vd L b S := by
  obtain ⟨l, q⟩ := q
  rw [sg_vd_cons] at h
  refine ⟨fun p hp => ?_, h.2.1⟩
  have h1 := h.1 p hp
  have e : sg_cS L ((l, q) :: S) p = sg_cS L S p + sg_bt (sg_sl L l q) p := rfl
  omega
theorem sg_vd_app {L : sg_L} {b : Nat} {S : List (Nat × Nat)} : ∀ {A : List (Nat × Nat)}, sg_vd L b (A ++ S) → sg_vd L b S
  | [], h => h
  | _ :: A, h => sg_vd_app (A := A) (sg_vd_tail h)
theorem sg_jn_iff {L : sg_L} {b l q : Nat} {S : List (Nat × Nat)} (hS : sg_vd L b S) : sg_jn L b S l q = true ↔ sg_vd L b ((l, q) :: S) := by
  rw [sg_vd_cons, sg_jn, Bool.and_eq_true, sz_all_iff]
  constructor
  · rintro ⟨h1, h2⟩
    exact ⟨fun p hp => of_decide_eq_true (h2 p hp), hS.2, h1⟩
  · rintro ⟨h1, -, h2⟩
    exact ⟨h2, fun p hp => decide_eq_true (h1 p hp)⟩
theorem sg_vd_nil (L : sg_L) (b : Nat) : sg_vd L b [] := ⟨fun _ _ => Nat.zero_le _, by simp [sg_lm]⟩
def sg_pr (σ : Nat → Nat) (os : List Nat) : List (Nat × Nat) := os.map (fun o => (o, σ o))
def sg_df (σ r : Nat → Nat) (os : List Nat) : Nat := os.countP (fun o => !(σ o == r o))
def sg_sol (L : sg_L) (b : Nat) (op r : Nat → Nat) (os : List Nat) (S : List (Nat × Nat)) (c : Nat) (σ : Nat → Nat) : Prop := (∀ o ∈ os, σ o < 8 ∧ (op o).testBit (σ o) = true) ∧ sg_vd L b (sg_pr σ os ++ S) ∧ sg_df σ r os ≤ c
def sg_cc (r : Nat → Nat) (c o q : Nat) : Nat := if q = r o then c else c - 1
section
variable {L : sg_L} {b : Nat} {op r : Nat → Nat}
theorem sg_df_cons (σ r : Nat → Nat) (o : Nat) (os : List Nat) : sg_df σ r (o :: os) = sg_df σ r os + (if σ o = r o then 0 else 1) := by
  unfold sg_df
  rw [List.countP_cons]
  by_cases h : σ o = r o <;> simp [h]
theorem sg_sol_cons {o : Nat} {os : List Nat} {S : List (Nat × Nat)} {c : Nat} {σ : Nat → Nat} : sg_sol L b op r (o :: os) S c σ ↔ (σ o < 8 ∧ (op o).testBit (σ o) = true) ∧ (σ o = r o ∨ 1 ≤ c) ∧ sg_sol L b op r os ((o, σ o) :: S) (sg_cc r c o (σ o)) σ := by
  have hp : (sg_pr σ (o :: os) ++ S).Perm (sg_pr σ os ++ (o, σ o) :: S) := by
    show ((o, σ o) :: (sg_pr σ os ++ S)).Perm _
    exact List.perm_middle.symm
  unfold sg_sol
  rw [sg_vd_perm hp, sg_df_cons, List.forall_mem_cons]
  unfold sg_cc
  by_cases h : σ o = r o
  · rw [if_pos h, if_pos h]
    constructor
    · rintro ⟨⟨h1, h2⟩, h3, h4⟩
      exact ⟨h1, Or.inl h, h2, h3, h4⟩
    · rintro ⟨h1, -, h2, h3, h4⟩
      exact ⟨⟨h1, h2⟩, h3, h4⟩
  · rw [if_neg h, if_neg h]
    constructor
    · rintro ⟨⟨h1, h2⟩, h3, h4⟩
      exact ⟨h1, Or.inr (by omega), h2, h3, by omega⟩
    · rintro ⟨h1, h5, h2, h3, h4⟩
      refine ⟨⟨h1, h2⟩, h3, ?_⟩
      rcases h5 with h5 | h5
      · exact absurd h5 h
      · omega
theorem sg_pr_cong {σ τ : Nat → Nat} {os : List Nat} (h : ∀ o ∈ os, σ o = τ o) : sg_pr σ os = sg_pr τ os := by
  unfold sg_pr
  exact List.map_congr_left (fun o ho => by rw [h o ho])
theorem sg_df_cong {σ τ : Nat → Nat} {os : List Nat} (h : ∀ o ∈ os, σ o = τ o) : sg_df σ r os = sg_df τ r os := by
  unfold sg_df
  apply List.countP_congr
  intro o ho
  rw [h o ho]
theorem sg_sol_cong {σ τ : Nat → Nat} {os : List Nat} {S : List (Nat × Nat)} {c : Nat} (h : ∀ o ∈ os, σ o = τ o) (hs : sg_sol L b op r os S c σ) : sg_sol L b op r os S c τ := by
  obtain ⟨h1, h2, h3⟩ := hs
  exact ⟨fun o ho => by rw [← h o ho]; exact h1 o ho, by rw [← sg_pr_cong h]; exact h2, by rw [← sg_df_cong h]; exact h3⟩
def sg_su (op r : Nat → Nat) (os : List Nat) : Nat := os.countP (fun o => !(op o).testBit (r o))
theorem sg_sol_su {σ : Nat → Nat} {os : List Nat} {S : List (Nat × Nat)} {c : Nat} (hs : sg_sol L b op r os S c σ) : sg_su op r os ≤ c := by
  refine Nat.le_trans ?_ hs.2.2
  unfold sg_su sg_df
  apply List.countP_mono_left
  intro o ho h
  have h1 := (hs.1 o ho).2
  cases e : (σ o == r o) with
  | false => rfl
  | true =>
    rw [beq_iff_eq] at e
    rw [← e, h1] at h
    cases h
end
