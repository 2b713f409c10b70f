/-! ===== one abstract state of both sides ===== -/
/-- a house: lodgers, beds, how long a cold lasts, whether a row is told, the row -/
abbrev sa_H : Type := sg_L × Nat × Int32 × Bool × (Nat → Nat)
/-- the house, its image, the tape, the sheets -/
abbrev sa_S : Type := sa_H × Option sa_H × (Nat × (Nat → Nat)) × sh_T
def sa_ag (c : Int32) (A : Nat) : Prop := c = -1 ∨ ∃ a, a ≤ A ∧ c = nI a
def sa_K (L : sg_L) (b : Nat) (r : Nat → Nat) (w : sx_W) : Prop := sg_ks L b r w ∧ (w.1 24 6 = w.1 1 9 → sg_kL L b (w.1 24 5) (w.1 24 4) (w.1 26)) ∧ (w.1 27 5 = w.1 1 8 → na_NS L r w)
def sa_A (A : Nat) (w : sx_W) : Prop := w.1 1 8 = nI A ∧ sa_ag (w.1 1 9) A ∧ sa_ag (w.1 16 9) A ∧ sa_ag (w.1 16 13) A ∧ sa_ag (w.1 24 6) A ∧ sa_ag (w.1 27 5) A
def sa_kp : Option sa_H → sx_W → Prop
  | none, w => w.1 0 2 = 0
  | some H, w => w.1 0 2 = 1 ∧ sg_kp H.1 H.2.1 H.2.2.1 H.2.2.2.1 H.2.2.2.2 w
def sa_im : Option sa_H → sx_W → Prop
  | none, w => w.1 48 19 = 0
  | some H, w => w.1 48 19 = 1 ∧ sg_im H.1 H.2.1 H.2.2.1 H.2.2.2.1 H.2.2.2.2 w
def sa_c (H : sa_H) (A : Nat) (w : sx_W) : Prop := sg_Co H.1 H.2.1 H.2.2.2.2 w ∧ w.1 1 6 = H.2.2.1 ∧ w.1 1 7 = sz_b H.2.2.2.1 ∧ sa_K H.1 H.2.1 H.2.2.2.2 w ∧ sa_A A w
def sa_m (H : sa_H) (w : sx_W) : Prop := sg_Mo H.1 H.2.1 H.2.2.2.1 H.2.2.2.2 w ∧ w.1 48 7 = H.2.2.1
def sa_C (S : sa_S) (A : Nat) (w : sx_W) : Prop := sa_c S.1 A w ∧ sa_kp S.2.1 w ∧ tp_T 33 1 34 S.2.2.1.1 S.2.2.1.2 w ∧ sh_C S.2.2.2 w
def sa_M (S : sa_S) (w : sx_W) : Prop := sa_m S.1 w ∧ sa_im S.2.1 w ∧ tp_T 48 14 58 S.2.2.1.1 S.2.2.1.2 w ∧ sh_M S.2.2.2 w
section
variable {w w' : sx_W} {cs js : List Nat} {A : Nat}
theorem sa_ag.up {c : Int32} {m : Nat} (h : sa_ag c A) : sa_ag c (A + m) := h.elim Or.inl (fun ⟨a, h1, h2⟩ => Or.inr ⟨a, by omega, h2⟩)
theorem sa_ag.self : sa_ag (nI A) A := Or.inr ⟨A, Nat.le_refl _, rfl⟩
theorem sa_ag.new {c : Int32} {m : Nat} (h : sa_ag c A) (hm : 1 ≤ m) (hA : A + m < 2 ^ 31) : ¬ c = nI (A + m) := by
  rcases h with rfl | ⟨a, h1, rfl⟩
  · intro c
    have h1 := nI_toInt hA
    rw [← c] at h1
    have h2 : (-1 : Int32).toInt = -1 := rfl
    omega
  · intro c
    have := (nI_eq (show a < 2 ^ 31 by omega) hA).mp c
    omega
theorem sa_A.fr (h : sa_A A w) (hf : sg_fr cs w w') (hc : ∀ a ∈ [1, 16, 24, 27], a ∉ cs) : sa_A A w' := by
  unfold sa_A
  rw [(hf 1 (hc 1 (by decide))).1, (hf 16 (hc 16 (by decide))).1, (hf 24 (hc 24 (by decide))).1, (hf 27 (hc 27 (by decide))).1]
  exact h
theorem sa_K.fr {L : sg_L} {b : Nat} {r : Nat → Nat} (h : sa_K L b r w) (hf : sg_fr cs w w') (hc : ∀ a ∈ [1, 16, 22, 23, 24, 26, 27, 28, 29, 30], a ∉ cs) : sa_K L b r w' := by
  have n := fun c => (h.2.2 c).fr hf (fun a ha => hc a (by
    simp only [List.mem_cons, List.not_mem_nil, or_false] at ha ⊢
    omega))
  unfold sa_K sg_ks
  rw [(hf 1 (hc 1 (by decide))).1, (hf 16 (hc 16 (by decide))).1, (hf 22 (hc 22 (by decide))).1, (hf 23 (hc 23 (by decide))).1, (hf 24 (hc 24 (by decide))).1, (hf 26 (hc 26 (by decide))).1, (hf 27 (hc 27 (by decide))).1]
  exact ⟨h.1, h.2.1, n⟩
theorem sa_c.fr {H : sa_H} (h : sa_c H A w) (hf : sg_fr cs w w') (hc : ∀ a ∈ [1, 2, 3, 4, 5, 12, 13, 14, 15, 16, 22, 23, 24, 26, 27, 28, 29, 30], a ∉ cs) : sa_c H A w' := by
  refine ⟨h.1.fr hf (fun a ha => hc a ?_), ?_, ?_, h.2.2.2.1.fr hf (fun a ha => hc a ?_), h.2.2.2.2.fr hf (fun a ha => hc a ?_)⟩
  · simp only [List.mem_cons, List.not_mem_nil, or_false] at ha ⊢
    omega
  · rw [(hf 1 (hc 1 (by decide))).1]; exact h.2.1
  · rw [(hf 1 (hc 1 (by decide))).1]; exact h.2.2.1
  · simp only [List.mem_cons, List.not_mem_nil, or_false] at ha ⊢
    omega
  · simp only [List.mem_cons, List.not_mem_nil, or_false] at ha ⊢
    omega
theorem sg_kp.fr {L : sg_L} {b : Nat} {k : Int32} {t : Bool} {r : Nat → Nat} (h : sg_kp L b k t r w) (hf : sg_fr cs w w') (hc : ∀ a ∈ [6, 7, 8, 9, 10], a ∉ cs) : sg_kp L b k t r w' := by
  refine ⟨h.1.fr hf (hc 6 (by decide)) (hc 7 (by decide)) (hc 8 (by decide)) (hc 9 (by decide)), ?_⟩
  rw [(hf 6 (hc 6 (by decide))).1, (hf 10 (hc 10 (by decide))).1]
  exact h.2
theorem sa_kp.fr {o : Option sa_H} (h : sa_kp o w) (hf : sg_fr cs w w') (hc : ∀ a ∈ [0, 6, 7, 8, 9, 10], a ∉ cs) : sa_kp o w' := by
  have e0 := (hf 0 (hc 0 (by decide))).1
  cases o with
  | none => show w'.1 0 2 = 0; rw [e0]; exact h
  | some H => exact ⟨by rw [e0]; exact h.1, sg_kp.fr h.2 hf (fun a ha => hc a (List.mem_cons_of_mem _ ha))⟩
theorem tp_T.fr {o c a T : Nat} {t : Nat → Nat} (h : tp_T o c a T t w) (hf : sg_fr cs w w') (ho : o ∉ cs) (ha : a ∉ cs) : tp_T o c a T t w' := by
  unfold tp_T
  rw [(hf o ho).1, (hf a ha).1]
  exact h
theorem sh_C.fr {s : sh_T} (h : sh_C s w) (hf : sg_fr cs w w') (hc : ∀ a ∈ [40, 41, 42, 43, 44, 45, 46, 47], a ∉ cs) : sh_C s w' := by
  refine ⟨h.1, fun k hk => ?_⟩
  rw [(hf (40 + 2 * k) (hc _ (by simp only [List.mem_cons, List.not_mem_nil, or_false]; omega))).1, (hf (41 + 2 * k) (hc _ (by simp only [List.mem_cons, List.not_mem_nil, or_false]; omega))).2]
  exact h.2 k hk
theorem tp_Fm.of (hf : sg_fr cs w w') (h : 48 ∉ cs) : tp_Fm [] cs w w' := ⟨hf.mono (fun a ha => List.mem_cons_of_mem _ ha), fun j _ => by rw [(hf 48 h).1]⟩
theorem tp_Fm.c1 (hf : tp_Fm js cs w w') {a : Nat} (h : a ≠ 48) (ha : a ∉ cs) : w'.1 a = w.1 a ∧ w'.2 a = w.2 a := hf.1 a (fun c => by
  rcases List.mem_cons.mp c with c | c
  · exact h c
  · exact ha c)
theorem sa_im.fm {o : Option sa_H} (h : sa_im o w) (hf : tp_Fm js cs w w') (h1 : 19 ∉ js) (h2 : 60 ∉ cs) : sa_im o w' := by
  have e0 := hf.2 19 h1
  have e1 := (hf.c1 (by decide) h2).1
  cases o with
  | none => show w'.1 48 19 = 0; rw [e0]; exact h
  | some H =>
    refine ⟨by rw [e0]; exact h.1, ?_⟩
    unfold sg_im
    rw [e1]; exact h.2
theorem tp_T.fm {T : Nat} {t : Nat → Nat} (h : tp_T 48 14 58 T t w) (hf : tp_Fm js cs w w') (h1 : 14 ∉ js) (h2 : 58 ∉ cs) : tp_T 48 14 58 T t w' := by
  unfold tp_T
  rw [hf.2 14 h1, (hf.c1 (by decide) h2).1]
  exact h
theorem sh_M.fm {s : sh_T} (h : sh_M s w) (hf : tp_Fm js cs w w') (hc : ∀ a ∈ [61, 62, 63], a ∉ cs) : sh_M s w' := by
  refine ⟨h.1, fun k hk => ?_⟩
  rw [(hf.c1 (by decide) (hc 61 (by decide))).1, (hf.c1 (by decide) (hc 62 (by decide))).1, (hf.c1 (by decide) (hc 63 (by decide))).2]
  exact h.2 k hk
theorem sa_m.fm {H : sa_H} (h : sa_m H w) (hf : tp_Fm js cs w w') (h1 : ∀ j ∈ [0, 5, 6, 7], j ∉ js) (h2 : ∀ a ∈ [49, 50, 51, 52], a ∉ cs) : sa_m H w' := by
  unfold sa_m sg_Mo sg_M sg_V
  rw [hf.2 0 (h1 0 (by decide)), hf.2 5 (h1 5 (by decide)), hf.2 6 (h1 6 (by decide)), hf.2 7 (h1 7 (by decide)), (hf.c1 (by decide) (h2 49 (by decide))).1, (hf.c1 (by decide) (h2 50 (by decide))).1, (hf.c1 (by decide) (h2 51 (by decide))).1, (hf.c1 (by decide) (h2 52 (by decide))).1]
  exact h
/-- all but the house -/
theorem sa_M.rest {S : sa_S} {H : sa_H} (h : sa_M S w) (hf : tp_Fm js cs w w') (h1 : ∀ j ∈ [14, 19], j ∉ js) (h2 : ∀ a ∈ [58, 60, 61, 62, 63], a ∉ cs) (hm : sa_m H w') : sa_M (H, S.2) w' := ⟨hm, h.2.1.fm hf (h1 19 (by decide)) (h2 60 (by decide)), h.2.2.1.fm hf (h1 14 (by decide)) (h2 58 (by decide)), h.2.2.2.fm hf (fun a ha => h2 a (by
    simp only [List.mem_cons, List.not_mem_nil, or_false] at ha ⊢
    omega))⟩
theorem sa_M.fm {S : sa_S} (h : sa_M S w) (hf : tp_Fm js cs w w') (h1 : ∀ j ∈ [0, 5, 6, 7, 14, 19], j ∉ js) (h2 : ∀ a ∈ [49, 50, 51, 52, 58, 60, 61, 62, 63], a ∉ cs) : sa_M S w' := h.rest hf (fun a ha => h1 a (by
    simp only [List.mem_cons, List.not_mem_nil, or_false] at ha ⊢
    omega)) (fun a ha => h2 a (by
    simp only [List.mem_cons, List.not_mem_nil, or_false] at ha ⊢
    omega)) (h.1.fm hf (fun a ha => h1 a (by
    simp only [List.mem_cons, List.not_mem_nil, or_false] at ha ⊢
    omega)) (fun a ha => h2 a (by
    simp only [List.mem_cons, List.not_mem_nil, or_false] at ha ⊢
    omega)))
theorem sa_M.fr {S : sa_S} (h : sa_M S w) (hf : sg_fr cs w w') (h0 : 48 ∉ cs) (h2 : ∀ a ∈ [49, 50, 51, 52, 58, 60, 61, 62, 63], a ∉ cs) : sa_M S w' := h.fm (tp_Fm.of hf h0) (fun _ _ => List.not_mem_nil) h2
theorem sa_C.rest {S : sa_S} {H : sa_H} {A' : Nat} (h : sa_C S A w) (hf : sg_fr cs w w') (hc : ∀ a ∈ [0, 6, 7, 8, 9, 10, 33, 34, 40, 41, 42, 43, 44, 45, 46, 47], a ∉ cs) (hm : sa_c H A' w') : sa_C (H, S.2) A' w' := ⟨hm, h.2.1.fr hf (fun a ha => hc a (by
    simp only [List.mem_cons, List.not_mem_nil, or_false] at ha ⊢
    omega)), h.2.2.1.fr hf (hc 33 (by decide)) (hc 34 (by decide)), h.2.2.2.fr hf (fun a ha => hc a (by
    simp only [List.mem_cons, List.not_mem_nil, or_false] at ha ⊢
    omega))⟩
theorem sa_C.fr {S : sa_S} (h : sa_C S A w) (hf : sg_fr cs w w') (hc : ∀ a ∈ [0, 1, 2, 3, 4, 5, 6, 7, 8, 9, 10, 12, 13, 14, 15, 16, 22, 23, 24, 26, 27, 28, 29, 30, 33, 34, 40, 41, 42, 43, 44, 45, 46, 47], a ∉ cs) : sa_C S A w' := h.rest hf (fun a ha => hc a (by
    simp only [List.mem_cons, List.not_mem_nil, or_false] at ha ⊢
    omega)) (h.1.fr hf (fun a ha => hc a (by
    simp only [List.mem_cons, List.not_mem_nil, or_false] at ha ⊢
    omega)))
/-- behind a change of the lodgers nothing is known -/
theorem sa_K_new {L : sg_L} {b m : Nat} {r : Nat → Nat} (h : sa_A A w) (hf : sg_fr cs w w') (hc : ∀ a ∈ [16, 24, 27], a ∉ cs) (hm : 1 ≤ m) (hA : A + m < 2 ^ 31) (h8 : w'.1 1 8 = nI (A + m)) (h9 : w'.1 1 9 = nI (A + m)) : sa_K L b r w' ∧ sa_A (A + m) w' := by
  obtain ⟨a1, a2, a3, a4, a5, a6⟩ := h
  have e16 := (hf 16 (hc 16 (by decide))).1
  have e24 := (hf 24 (hc 24 (by decide))).1
  have e27 := (hf 27 (hc 27 (by decide))).1
  refine ⟨⟨⟨fun c => ?_, fun c => ?_⟩, fun c => ?_, fun c => ?_⟩, h8, ?_, ?_, ?_, ?_, ?_⟩
  · rw [e16, h9] at c; exact absurd c (a3.new hm hA)
  · rw [e16, h8] at c; exact absurd c (a4.new hm hA)
  · rw [e24, h9] at c; exact absurd c (a5.new hm hA)
  · rw [e27, h8] at c; exact absurd c (a6.new hm hA)
  · rw [h9]; exact sa_ag.self
  · rw [e16]; exact a3.up
  · rw [e16]; exact a4.up
  · rw [e24]; exact a5.up
  · rw [e27]; exact a6.up
/-- behind another row -/
theorem sa_K_tell {L : sg_L} {b : Nat} {r r' : Nat → Nat} (h : sa_A A w) (hk : sa_K L b r w) (hf : sg_fr cs w w') (hc : ∀ a ∈ [16, 22, 24, 26, 27], a ∉ cs) (hA : A + 1 < 2 ^ 31) (h8 : w'.1 1 8 = nI (A + 1)) (h9 : w'.1 1 9 = w.1 1 9) : sa_K L b r' w' ∧ sa_A (A + 1) w' := by
  obtain ⟨a1, a2, a3, a4, a5, a6⟩ := h
  have e16 := (hf 16 (hc 16 (by decide))).1
  have e22 := (hf 22 (hc 22 (by decide))).1
  have e24 := (hf 24 (hc 24 (by decide))).1
  have e26 := (hf 26 (hc 26 (by decide))).1
  have e27 := (hf 27 (hc 27 (by decide))).1
  refine ⟨⟨⟨fun c => ?_, fun c => ?_⟩, fun c => ?_, fun c => ?_⟩, h8, ?_, ?_, ?_, ?_, ?_⟩
  · rw [e16, h9] at c; rw [e16, e22]; exact hk.1.1 c
  · rw [e16, h8] at c; exact absurd c (a4.new (Nat.le_refl 1) hA)
  · rw [e24, h9] at c; rw [e24, e26]; exact hk.2.1 c
  · rw [e27, h8] at c; exact absurd c (a6.new (Nat.le_refl 1) hA)
  · rw [h9]; exact a2.up
  · rw [e16]; exact a3.up
  · rw [e16]; exact a4.up
  · rw [e24]; exact a5.up
  · rw [e27]; exact a6.up
end
def sa_R (A : Nat) (w : sx_W) : Prop := ∃ (S : sa_S) (A' : Nat), A' ≤ A ∧ sa_C S A' w ∧ sa_M S w
def sa_ok (rC rM : sx_R) (As : List Value) : Prop := ∀ (A : Nat) (w : sx_W), A < 100000 → sa_R A w → ∃ (f : Int32) (w1 w2 : sx_W), sx_de 30 rC (.ref 0 :: As) w f 0 w1 ∧ sx_de 30 rM (.ref 48 :: As) w1 f 0 w2 ∧ sa_R (A + 8) w2
def sa_cc : List Nat := [0, 1, 2, 3, 4, 5, 6, 7, 8, 9, 10, 11, 12, 13, 14, 15, 16, 17, 18, 19, 20, 21, 22, 23, 24, 25, 26, 27, 28, 29, 30, 31, 32, 33, 34, 35, 36, 37, 38, 39, 40, 41, 42, 43, 44, 45, 46, 47]
def sa_cm : List Nat := [48, 49, 50, 51, 52, 53, 54, 55, 56, 57, 58, 59, 60, 61, 62, 63, 64]
def sa_x (rC : sx_R) (As : List Value) (P : sa_S → Int32 → sa_S → Prop) : Prop := ∀ (S : sa_S) (A : Nat) (w : sx_W), A < 100000 → sa_C S A w → sx_x 30 rC (.ref 0 :: As) w (fun f fl w1 => fl = 0 ∧ ∃ (S' : sa_S) (A' : Nat), A' ≤ A + 8 ∧ P S f S' ∧ sa_C S' A' w1 ∧ sg_fr sa_cc w w1)
def sa_y (rM : sx_R) (As : List Value) (P : sa_S → Int32 → sa_S → Prop) : Prop := ∀ (S : sa_S) (w : sx_W), sa_M S w → sx_x 30 rM (.ref 48 :: As) w (fun f fl w1 => fl = 0 ∧ ∃ S' : sa_S, P S f S' ∧ sa_M S' w1 ∧ sg_fr sa_cm w w1)
theorem sa_mk {rC rM : sx_R} {As : List Value} {P P2 : sa_S → Int32 → sa_S → Prop} (hC : sa_x rC As P) (hM : sa_y rM As P2) (hu : ∀ (S : sa_S) (A : Nat) (w : sx_W) (f : Int32) (S1 : sa_S) (g : Int32) (S2 : sa_S), sa_C S A w → P S f S1 → P2 S g S2 → f = g ∧ ∀ u, sa_M S2 u → sa_M S1 u) : sa_ok rC rM As := by
  intro A w hA ⟨S, A', hle, h1, h2⟩
  obtain ⟨f, fl, w1, m1, rfl, S1, A1, q1, q2, q3, q4⟩ := hC S A' w (by omega) h1
  have h2' : sa_M S w1 := h2.fr q4 (by decide) (by decide)
  obtain ⟨g, fl, w2, m2, rfl, S2, p1, p2, p3⟩ := hM S w1 h2'
  obtain ⟨rfl, e⟩ := hu S A' w f S1 g S2 h1 q2 p1
  exact ⟨f, w1, w2, m1, m2, S1, A1, by omega, q3.fr p3 (by decide), e w2 p2⟩
/-- where answer and state behind it are told by the state ahead -/
theorem sa_mkE {rC rM : sx_R} {As : List Value} {F : sa_S → Int32} {G : sa_S → sa_S} (hC : sa_x rC As (fun S f S' => f = F S ∧ S' = G S)) (hM : sa_y rM As (fun S f S' => f = F S ∧ S' = G S)) : sa_ok rC rM As :=
  sa_mk hC hM (fun S A w f S1 g S2 _ h1 h2 => ⟨h1.1.trans h2.1.symm, fun u hu => by rw [h1.2, ← h2.2]; exact hu⟩)
