/-! ===== the calls that change the house ===== -/
section
variable {w w' : sx_W} {A : Nat} {S : sa_S}
theorem sg_Mo.cong {L : sg_L} {b : Nat} {t : Bool} {r r' : Nat → Nat} (h : sg_Mo L b t r w) (e : ∀ j, j < L.1 → r' j = r j) : sg_Mo L b t r' w := ⟨h.1, h.2.1, h.2.2.1, h.2.2.2.1, fun ht l hl => by rw [e l hl]; exact h.2.2.2.2 ht l hl⟩
theorem sa_C.tell {q : Nat → Nat} (h : sa_C S A w) (hA : A < 100000) (ht : sg_tell S.1.1 S.1.2.1 q S.1.2.2.2.2 w w') : sa_C ((S.1.1, S.1.2.1, S.1.2.2.1, true, sg_over S.1.1.1 q S.1.2.2.2.2), S.2) (A + 1) w' := by
  obtain ⟨t1, t2, t3, t4, t5⟩ := ht
  have e8 : w'.1 1 8 = nI (A + 1) := by rw [t3, h.1.2.2.2.2.1, nI_1]
  obtain ⟨k1, k2⟩ := sa_K_tell (r' := sg_over S.1.1.1 q S.1.2.2.2.2) h.1.2.2.2.2 h.1.2.2.2.1 t5 (by decide) (by omega) e8 (t4 9 (by decide) (by decide))
  exact h.rest t5 (by decide) ⟨t1, (t4 6 (by decide) (by decide)).trans h.1.2.1, t2, k1, k2⟩
theorem sa_M.tell {q : Nat → Nat} (h : sa_M S w) (ht : sg_mtell S.1.1 S.1.2.1 q w w') : sa_M ((S.1.1, S.1.2.1, S.1.2.2.1, true, sg_over S.1.1.1 q S.1.2.2.2.2), S.2) w' := by
  obtain ⟨t1, t2, t3⟩ := ht
  have hf : tp_Fm [5] [52] w w' := ⟨t2, fun j hj => t3 j (fun e => hj (by rw [e]; decide))⟩
  exact h.rest hf (by decide) (by decide) ⟨t1.cong (fun j hj => if_pos hj), (t3 7 (by decide)).trans h.1.2⟩
theorem st_take : sa_ok rSb_take rMo_take [] :=
  sa_mk (P := fun S f S' => (∃ σ, sg_is1 S.1.1 S.1.2.1 σ ∧ f = nI S.1.1.1 ∧ S' = ((S.1.1, S.1.2.1, S.1.2.2.1, true, sg_over S.1.1.1 σ S.1.2.2.2.2), S.2)) ∨ (f = -4 ∧ (∀ σ, ¬ sg_gd S.1.1 S.1.2.1 σ) ∧ S' = S))
    (P2 := fun S f S' => (∃ σ, sg_is1 S.1.1 S.1.2.1 σ ∧ f = nI S.1.1.1 ∧ S' = ((S.1.1, S.1.2.1, S.1.2.2.1, true, sg_over S.1.1.1 σ S.1.2.2.2.2), S.2)) ∨ (f = -4 ∧ (∀ σ, ¬ sg_gd S.1.1 S.1.2.1 σ) ∧ S' = S))
    (fun S A w hA h => by
      obtain ⟨f, fl, w2, m, rfl, w1, p1, p2, p4, p5, p6⟩ := spSb_take (d := 17) h.1.1 h.1.2.2.2.1.1.1
      obtain ⟨a1, a2, a3, a4, a5, a6⟩ := h.1.2.2.2.2
      have k := h.1.2.2.2.1
      have e1 := (p5 1 (by decide)).1
      have e24 := (p5 24 (by decide)).1
      have e27 := (p5 27 (by decide)).1
      have h1 : sa_C S A w1 := by
        refine h.keep (p5.mono (by decide)) ⟨⟨fun _ => p1, fun c => ?_⟩, fun c => ?_, fun c => ?_⟩ ⟨?_, ?_, ?_, ?_, ?_, ?_⟩
        · rw [p4 13 (by decide) (by decide), e1] at c
          rw [p4 12 (by decide) (by decide), p4 11 (by decide) (by decide), (p5 23 (by decide)).1]
          exact k.1.2 c
        · rw [e24, e1] at c; rw [e24, (p5 26 (by decide)).1]; exact k.2.1 c
        · rw [e27, e1] at c; exact (k.2.2 c).fr p5 (by decide)
        · rw [e1]; exact a1
        · rw [e1]; exact a2
        · rw [p2]; exact a2
        · rw [p4 13 (by decide) (by decide)]; exact a4
        · rw [e24]; exact a5
        · rw [e27]; exact a6
      rcases p6 with ⟨σ, hs, rfl, ht⟩ | ⟨rfl, hn, rfl⟩
      · exact ⟨_, 0, w2, m, rfl, _, A + 1, by omega, Or.inl ⟨σ, hs, rfl, rfl⟩, h1.tell hA ht, (p5.mono (by decide)).trans (ht.2.2.2.2.mono (by decide))⟩
      · exact ⟨_, 0, w2, m, rfl, _, A, by omega, Or.inr ⟨rfl, hn, rfl⟩, h1, p5.mono (by decide)⟩)
    (fun S w h => by
      obtain ⟨f, fl, w2, m, rfl, p⟩ := spMo_take (d := 27) h.1.1
      rcases p with ⟨σ, hs, rfl, w1, p1, ht⟩ | ⟨rfl, hn, p1⟩
      · have h1 : sa_M S w1 := h.fr p1 (by decide) (by decide)
        exact ⟨_, 0, w2, m, rfl, _, Or.inl ⟨σ, hs, rfl, rfl⟩, h1.tell ht, (p1.mono (by decide)).trans (ht.2.1.mono (by decide))⟩
      · exact ⟨_, 0, w2, m, rfl, _, Or.inr ⟨rfl, hn, rfl⟩, h.fr p1 (by decide) (by decide), p1.mono (by decide)⟩)
    (fun S A w f S1 g S2 h h1 h2 => by
      rcases h1 with ⟨σ, hs, rfl, rfl⟩ | ⟨rfl, hn, rfl⟩
      · rcases h2 with ⟨τ, ht, rfl, rfl⟩ | ⟨rfl, hn, rfl⟩
        · refine ⟨rfl, fun u hu => ⟨⟨hu.1.1.cong (fun j hj => ?_), hu.1.2⟩, hu.2⟩⟩
          show sg_over S.1.1.1 σ S.1.2.2.2.2 j = sg_over S.1.1.1 τ S.1.2.2.2.2 j
          have hj : j < S.1.1.1 := hj
          unfold sg_over
          rw [if_pos hj, if_pos hj, sg_is1_one hs ht j hj]
        · exact absurd hs.1 (hn σ)
      · rcases h2 with ⟨τ, ht, rfl, rfl⟩ | ⟨rfl, _, rfl⟩
        · exact absurd ht.1 (hn τ)
        · exact ⟨rfl, fun u hu => hu⟩)
theorem st_move (x y : Int32) : sa_ok rSb_move rMo_move [.int x, .int y] :=
  sa_mkE (F := fun S => sl_move S.1.1 S.1.2.2.2.1 S.1.2.2.2.2 x y) (G := fun S => if sl_mok S.1.1 S.1.2.2.2.1 x y = true then ((S.1.1, S.1.2.1, S.1.2.2.1, true, sg_over S.1.1.1 (sg_up S.1.2.2.2.2 x.toNatClampNeg y.toNatClampNeg) S.1.2.2.2.2), S.2) else S)
    (fun S A w hA h => by
      obtain ⟨f, fl, w1, m, rfl, rfl, p1, p2⟩ := spSb_move (d := 29) (x := x) (y := y) h.1.1 h.1.2.2.1
      cases hk : sl_mok S.1.1 S.1.2.2.2.1 x y with
      | false =>
        have := p1 hk
        subst this
        exact ⟨_, 0, w1, m, rfl, _, A, by omega, ⟨rfl, (if_neg (fun c => by rw [hk] at c; cases c)).symm⟩, h, sg_fr.rfl'⟩
      | true => exact ⟨_, 0, w1, m, rfl, _, A + 1, by omega, ⟨rfl, (if_pos hk).symm⟩, h.tell hA (p2 hk), (p2 hk).2.2.2.2.mono (by decide)⟩)
    (fun S w h => by
      obtain ⟨f, fl, w1, m, rfl, rfl, p1, p2⟩ := spMo_move (d := 28) (x := x) (y := y) h.1.1
      cases hk : sl_mok S.1.1 S.1.2.2.2.1 x y with
      | false =>
        have := p1 hk
        subst this
        exact ⟨_, 0, w1, m, rfl, _, ⟨rfl, (if_neg (fun c => by rw [hk] at c; cases c)).symm⟩, h, sg_fr.rfl'⟩
      | true => exact ⟨_, 0, w1, m, rfl, _, ⟨rfl, (if_pos hk).symm⟩, h.tell (p2 hk), (p2 hk).2.1.mono (by decide)⟩)
theorem st_lay (x1 x2 x3 : Int32) : sa_ok rSb_lay rMo_lay [.int x1, .int x2, .int x3] :=
  sa_mkE (F := fun S => sh_lay S.2.2.2 S.1.1 S.1.2.1 x1 x2 x3) (G := fun S => if sh_laid S.2.2.2 S.1.1 x1 x2 x3 = true then ((S.1.1, S.1.2.1, S.1.2.2.1, true, sg_over S.1.1.1 (sh_row S.2.2.2 x1.toNatClampNeg x3.toNatClampNeg) S.1.2.2.2.2), S.2) else S)
    (fun S A w hA h => by
      obtain ⟨f, fl, w1, m, rfl, rfl, p1, p2⟩ := spSb_lay (d := 27) (x1 := x1) (x2 := x2) (x3 := x3) h.2.2.2 h.1.1
      cases hk : sh_laid S.2.2.2 S.1.1 x1 x2 x3 with
      | false => exact ⟨_, 0, w1, m, rfl, _, A, by omega, ⟨rfl, (if_neg (fun c => by rw [hk] at c; cases c)).symm⟩, h.fr (p1 hk) (by decide), (p1 hk).mono (by decide)⟩
      | true =>
        obtain ⟨w2, q1, q2⟩ := p2 hk
        have h2 : sa_C S A w2 := h.fr q1 (by decide)
        exact ⟨_, 0, w1, m, rfl, _, A + 1, by omega, ⟨rfl, (if_pos hk).symm⟩, h2.tell hA q2, (q1.mono (by decide)).trans (q2.2.2.2.2.mono (by decide))⟩)
    (fun S w h => by
      obtain ⟨f, fl, w1, m, rfl, rfl, p1, p2⟩ := spMo_lay (d := 26) (x1 := x1) (x2 := x2) (x3 := x3) h.2.2.2 h.1.1
      cases hk : sh_laid S.2.2.2 S.1.1 x1 x2 x3 with
      | false =>
        have := p1 hk
        subst this
        exact ⟨_, 0, w1, m, rfl, _, ⟨rfl, (if_neg (fun c => by rw [hk] at c; cases c)).symm⟩, h, sg_fr.rfl'⟩
      | true => exact ⟨_, 0, w1, m, rfl, _, ⟨rfl, (if_pos hk).symm⟩, h.tell (p2 hk), (p2 hk).2.1.mono (by decide)⟩)
/-! lodgers come and go -/
theorem sa_C.chg {L' : sg_L} {t' : Bool} {js : List Nat} (h : sa_C S A w) (hA : A < 100000) (hc : sg_chg L' S.1.2.1 S.1.2.2.2.2 (sz_b t') js w w') (h6 : 6 ∉ js) : sa_C ((L', S.1.2.1, S.1.2.2.1, t', S.1.2.2.2.2), S.2) (A + 1) w' := by
  obtain ⟨t1, t2, t3, t4, t5, t6⟩ := hc
  have e8 : w.1 1 8 + 1 = nI (A + 1) := by rw [h.1.2.2.2.2.1, nI_1]
  obtain ⟨k1, k2⟩ := sa_K_new (L := L') (b := S.1.2.1) (r := S.1.2.2.2.2) h.1.2.2.2.2 t6 (by decide) (Nat.le_refl 1) (by omega) (t3.trans e8) (t4.trans e8)
  exact h.rest t6 (by decide) ⟨t1, (t5 6 h6).trans h.1.2.1, t2, k1, k2⟩
theorem sa_M.chg {L' : sg_L} (h : sa_M S w) (h1 : sg_M L' w') (h2 : w'.1 48 5 = 0) (hf : tp_Fm [0, 5] [49, 50, 51] w w') : sa_M ((L', S.1.2.1, S.1.2.2.1, false, S.1.2.2.2.2), S.2) w' := h.rest hf (by decide) (by decide) ⟨⟨h1, (hf.2 6 (by decide)).trans h.1.1.2.1, h.1.1.2.2.1, h2, fun c => absurd c Bool.false_ne_true⟩, (hf.2 7 (by decide)).trans h.1.2⟩
theorem st_lodger (x1 x2 x3 : Int32) : sa_ok rSb_lodger rMo_lodger [.int x1, .int x2, .int x3] :=
  sa_mkE (F := fun S => sl_lodger S.1.1 x1 x2 x3) (G := fun S => if sl_ok x1 x2 x3 = true ∧ S.1.1.1 < 7 then ((sg_add S.1.1 x1.toNatClampNeg x2.toNatClampNeg x3.toNatClampNeg, S.1.2.1, S.1.2.2.1, false, S.1.2.2.2.2), S.2) else S)
    (fun S A w hA h => by
      obtain ⟨f, fl, w1, m, rfl, rfl, p1, p2⟩ := spSb_lodger (d := 26) (x1 := x1) (x2 := x2) (x3 := x3) h.1.1
      by_cases hk : sl_ok x1 x2 x3 = true ∧ S.1.1.1 < 7
      · skip
        exact ⟨_, 0, w1, m, rfl, _, A + 1, by omega, ⟨rfl, (if_pos hk).symm⟩, h.chg (t' := false) hA (p2 hk) (by decide), (p2 hk).2.2.2.2.2.mono (by decide)⟩
      · skip
        have := p1 hk
        subst this
        exact ⟨_, 0, w1, m, rfl, _, A, by omega, ⟨rfl, (if_neg hk).symm⟩, h, sg_fr.rfl'⟩)
    (fun S w h => by
      obtain ⟨f, fl, w1, m, rfl, rfl, p1, p2⟩ := spMo_lodger (d := 29) (x1 := x1) (x2 := x2) (x3 := x3) h.1.1.1
      by_cases hk : sl_ok x1 x2 x3 = true ∧ S.1.1.1 < 7
      · skip
        obtain ⟨q1, q2, q3⟩ := p2 hk
        exact ⟨_, 0, w1, m, rfl, _, ⟨rfl, (if_pos hk).symm⟩, h.chg q1 q2 q3, q3.1.mono (by decide)⟩
      · skip
        have := p1 hk
        subst this
        exact ⟨_, 0, w1, m, rfl, _, ⟨rfl, (if_neg hk).symm⟩, h, sg_fr.rfl'⟩)
theorem st_leave (x : Int32) : sa_ok rSb_leave rMo_leave [.int x] :=
  sa_mkE (F := fun S => sl_leave S.1.1 x) (G := fun S => if sz_in x S.1.1.1 = true then ((sg_rm S.1.1 x.toNatClampNeg, S.1.2.1, S.1.2.2.1, false, S.1.2.2.2.2), S.2) else S)
    (fun S A w hA h => by
      obtain ⟨f, fl, w1, m, rfl, rfl, p1, p2⟩ := spSb_leave (d := 26) (x := x) h.1.1
      cases hk : sz_in x S.1.1.1 with
      | true => exact ⟨_, 0, w1, m, rfl, _, A + 1, by omega, ⟨rfl, (if_pos hk).symm⟩, h.chg (t' := false) hA (p2 hk) (by decide), (p2 hk).2.2.2.2.2.mono (by decide)⟩
      | false =>
        have := p1 hk
        subst this
        exact ⟨_, 0, w1, m, rfl, _, A, by omega, ⟨rfl, (if_neg (fun c => by rw [hk] at c; cases c)).symm⟩, h, sg_fr.rfl'⟩)
    (fun S w h => by
      obtain ⟨f, fl, w1, m, rfl, rfl, p1, p2⟩ := spMo_leave (d := 28) (x := x) h.1.1.1
      cases hk : sz_in x S.1.1.1 with
      | true =>
        obtain ⟨q1, q2, q3⟩ := p2 hk
        exact ⟨_, 0, w1, m, rfl, _, ⟨rfl, (if_pos hk).symm⟩, h.chg q1 q2 q3, q3.1.mono (by decide)⟩
      | false =>
        have := p1 hk
        subst this
        exact ⟨_, 0, w1, m, rfl, _, ⟨rfl, (if_neg (fun c => by rw [hk] at c; cases c)).symm⟩, h, sg_fr.rfl'⟩)
theorem st_work (x y : Int32) : sa_ok rSb_work rMo_work [.int x, .int y] :=
  sa_mkE (F := fun S => sl_work S.1.1 x y) (G := fun S => if sl_wok S.1.1 x y = true then ((sg_wk S.1.1 x.toNatClampNeg y.toNatClampNeg, S.1.2), S.2) else S)
    (fun S A w hA h => by
      obtain ⟨f, fl, w1, m, rfl, rfl, p1, p2⟩ := spSb_work (d := 26) (x := x) (y := y) h.1.1
      cases hk : sl_wok S.1.1 x y with
      | true =>
        have q := p2 hk
        rw [h.1.2.2.1] at q
        exact ⟨_, 0, w1, m, rfl, _, A + 1, by omega, ⟨rfl, (if_pos hk).symm⟩, h.chg hA q (by decide), q.2.2.2.2.2.mono (by decide)⟩
      | false =>
        have := p1 hk
        subst this
        exact ⟨_, 0, w1, m, rfl, _, A, by omega, ⟨rfl, (if_neg (fun c => by rw [hk] at c; cases c)).symm⟩, h, sg_fr.rfl'⟩)
    (fun S w h => by
      obtain ⟨f, fl, w1, m, rfl, rfl, p1, p2⟩ := spMo_work (d := 28) (x := x) (y := y) h.1.1.1
      cases hk : sl_wok S.1.1 x y with
      | true =>
        obtain ⟨q1, q2⟩ := p2 hk
        have hf : tp_Fm [] [51] w w1 := tp_Fm.of q2 (by decide)
        have e48 := (q2 48 (by decide)).1
        have e52 := (q2 52 (by decide)).1
        refine ⟨_, 0, w1, m, rfl, _, ⟨rfl, (if_pos hk).symm⟩, h.rest (H := (sg_wk S.1.1 x.toNatClampNeg y.toNatClampNeg, S.1.2)) hf (fun _ _ => List.not_mem_nil) (by decide) ⟨⟨q1, ?_, h.1.1.2.2.1, ?_, ?_⟩, ?_⟩, q2.mono (by decide)⟩
        · rw [e48]; exact h.1.1.2.1
        · rw [e48]; exact h.1.1.2.2.2.1
        · rw [e52]; exact h.1.1.2.2.2.2
        · rw [e48]; exact h.1.2
      | false =>
        have := p1 hk
        subst this
        exact ⟨_, 0, w1, m, rfl, _, ⟨rfl, (if_neg (fun c => by rw [hk] at c; cases c)).symm⟩, h, sg_fr.rfl'⟩)
theorem tp_all_pos {T : Nat} {t : Nat → Nat} {m p : Nat} (h : (tp_all T t (m + 1) p).1 = true) : 0 < (tp_all T t (m + 1) p).2.2.length := by
  by_cases h1 : (tp_one T t p).1 = false
  · rw [tp_all_1 h1] at h; cases h
  · by_cases h2 : T ≤ (tp_one T t p).2.1
    · rw [tp_all_2 h1 h2]; exact Nat.one_pos
    · by_cases h3 : t (tp_one T t p).2.1 = 44 ∧ m ≠ 0
      · rw [tp_all_3 h1 h2 h3]; exact Nat.succ_pos _
      · rw [tp_all_4 h1 h2 h3] at h; cases h
theorem st_lodging : sa_ok rSb_lodging rMo_lodging [] :=
  sa_mkE (F := fun S => sl_lodging S.2.2.1.1 S.2.2.1.2) (G := fun S => if (tp_all S.2.2.1.1 S.2.2.1.2 7 0).1 = true then ((tp_Lg (tp_all S.2.2.1.1 S.2.2.1.2 7 0).2.2, S.1.2.1, S.1.2.2.1, false, S.1.2.2.2.2), S.2.1, (0, S.2.2.1.2), S.2.2.2) else (S.1, S.2.1, (0, S.2.2.1.2), S.2.2.2))
    (fun S A w hA h => by
      obtain ⟨f, fl, w1, m, rfl, rfl, p0, p1, p2⟩ := spSb_lodging (d := 26) h.1.1 h.2.2.1
      have hT : tp_T 33 1 34 0 S.2.2.1.2 w1 := ⟨p0, Nat.zero_le _, fun i hi => absurd hi (Nat.not_lt_zero i)⟩
      cases hk : (tp_all S.2.2.1.1 S.2.2.1.2 7 0).1 with
      | true =>
        obtain ⟨t1, t2, ⟨n, n1, n8, t3⟩, t4, t5, t6⟩ := p2 hk
        have e8 : w1.1 1 8 = nI (A + n) := by rw [t3, h.1.2.2.2.2.1, nI_add]
        obtain ⟨k1, k2⟩ := sa_K_new (L := tp_Lg (tp_all S.2.2.1.1 S.2.2.1.2 7 0).2.2) (b := S.1.2.1) (r := S.1.2.2.2.2) h.1.2.2.2.2 t6 (by decide) n1 (by omega) e8 (t4.trans e8)
        exact ⟨_, 0, w1, m, rfl, _, A + n, by omega, ⟨rfl, (if_pos hk).symm⟩, ⟨⟨t1, (t5 6 (by decide)).trans h.1.2.1, t2, k1, k2⟩, h.2.1.fr t6 (by decide), hT, h.2.2.2.fr t6 (by decide)⟩, t6.mono (by decide)⟩
      | false => exact ⟨_, 0, w1, m, rfl, _, A, by omega, ⟨rfl, (if_neg (fun c => by rw [hk] at c; cases c)).symm⟩, ⟨h.1.fr (p1 hk) (by decide), h.2.1.fr (p1 hk) (by decide), hT, h.2.2.2.fr (p1 hk) (by decide)⟩, (p1 hk).mono (by decide)⟩)
    (fun S w h => by
      obtain ⟨f, fl, w1, m, rfl, p1, p2⟩ := spMo_lodging (d := 27) h.2.2.1
      obtain ⟨o1, o2, o3⟩ := tp_all_ok (T := S.2.2.1.1) (t := S.2.2.1.2) 7 0 (Nat.zero_le _)
      cases hk : (tp_all S.2.2.1.1 S.2.2.1.2 7 0).1 with
      | true =>
        obtain ⟨e, q1, q2, q3, q4, q5⟩ := p2 hk
        have q4 := q4 (tp_all_pos hk)
        refine ⟨f, 0, w1, m, rfl, _, ⟨?_, (if_pos hk).symm⟩, ⟨⟨⟨⟨tp_Lg_ok o2 o3, q1, fun i hi => ?_⟩, (q5.2 6 (by decide)).trans h.1.1.2.1, h.1.1.2.2.1, q4, fun c => absurd c Bool.false_ne_true⟩, (q5.2 7 (by decide)).trans h.1.2⟩, h.2.1.fm q5 (by decide) (by decide), ⟨q2, Nat.zero_le _, fun i hi => absurd hi (Nat.not_lt_zero i)⟩, h.2.2.2.fm q5 (by decide)⟩, q5.1.mono (by decide)⟩
        · unfold sl_lodging; rw [if_pos hk]; exact e
        · have hi : i < (tp_all S.2.2.1.1 S.2.2.1.2 7 0).2.2.length := hi
          obtain ⟨o, ho⟩ : ∃ o, (tp_all S.2.2.1.1 S.2.2.1.2 7 0).2.2[i]? = some o := ⟨_, List.getElem?_eq_getElem hi⟩
          have hg : (tp_all S.2.2.1.1 S.2.2.1.2 7 0).2.2.getD i (0, 1, 0) = o := by rw [List.getD_eq_getElem?_getD, ho]; rfl
          show w1.1 49 i = nI ((tp_all S.2.2.1.1 S.2.2.1.2 7 0).2.2.getD i (0, 1, 0)).1 ∧ w1.1 50 i = nI ((tp_all S.2.2.1.1 S.2.2.1.2 7 0).2.2.getD i (0, 1, 0)).2.1 ∧ w1.1 51 i = nI ((tp_all S.2.2.1.1 S.2.2.1.2 7 0).2.2.getD i (0, 1, 0)).2.2
          rw [hg]; exact q3 i o ho
      | false =>
        obtain ⟨e, q1, q2⟩ := p1 hk
        refine ⟨f, 0, w1, m, rfl, _, ⟨?_, (if_neg (fun c => by rw [hk] at c; cases c)).symm⟩, ⟨h.1.fm q2 (by decide) (by decide), h.2.1.fm q2 (by decide) (by decide), ⟨q1, Nat.zero_le _, fun i hi => absurd hi (Nat.not_lt_zero i)⟩, h.2.2.2.fm q2 (by decide)⟩, q2.1.mono (by decide)⟩
        unfold sl_lodging
        rw [hk]; exact e)
theorem st_beds (x : Int32) : sa_ok rSb_beds rMo_beds [.int x] :=
  sa_mkE (F := fun S => if sl_rg 7 x then nI S.1.2.1 else -1) (G := fun S => if sl_rg 7 x = true then ((S.1.1, x.toNatClampNeg, S.1.2.2), S.2) else S)
    (fun S A w hA h => by
      have m := spSb_beds (d := 28) (w := w) (x := x)
      rw [h.1.1.2.2.1] at m
      cases hk : sl_rg 7 x with
      | true =>
        rw [hk, if_pos rfl, if_pos rfl] at m
        obtain ⟨n, n1, n7, rfl⟩ := sl_rg_of (by decide) hk
        have hc : (nI n).toNatClampNeg = n := nI_clamp (by omega)
        have q1 : ∀ j, sx_u (sx_u (sx_u w.1 1 5 (nI n)) 1 8 (w.1 1 8 + 1)) 1 9 (w.1 1 8 + 1) 1 j = if j = 9 then w.1 1 8 + 1 else if j = 8 then w.1 1 8 + 1 else if j = 5 then nI n else w.1 1 j := fun j => by rw [sx_u_s, sx_u_s, sx_u_s]
        have fr : sg_fr [1] w (sx_u (sx_u (sx_u w.1 1 5 (nI n)) 1 8 (w.1 1 8 + 1)) 1 9 (w.1 1 8 + 1), w.2) := fun a ha => ⟨by
          simp only [List.mem_cons, List.not_mem_nil, or_false] at ha
          show sx_u (sx_u (sx_u w.1 1 5 (nI n)) 1 8 (w.1 1 8 + 1)) 1 9 (w.1 1 8 + 1) a = w.1 a
          rw [sx_u_o ha, sx_u_o ha, sx_u_o ha], rfl⟩
        generalize hw1 : (sx_u (sx_u (sx_u w.1 1 5 (nI n)) 1 8 (w.1 1 8 + 1)) 1 9 (w.1 1 8 + 1), w.2) = w1 at m fr
        have q2 : ∀ j, w1.1 1 j = if j = 9 then w.1 1 8 + 1 else if j = 8 then w.1 1 8 + 1 else if j = 5 then nI n else w.1 1 j := fun j => by rw [← hw1]; exact q1 j
        have e8 : w.1 1 8 + 1 = nI (A + 1) := by rw [h.1.2.2.2.2.1, nI_1]
        obtain ⟨k1, k2⟩ := sa_K_new (L := S.1.1) (b := n) (r := S.1.2.2.2.2) h.1.2.2.2.2 fr (by decide) (Nat.le_refl 1) (by omega) ((q2 8).trans e8) ((q2 9).trans e8)
        refine ⟨_, 0, w1, m, rfl, _, A + 1, by omega, ⟨(if_pos rfl).symm, (by show ((S.1.1, n, S.1.2.2), S.2) = if true = true then ((S.1.1, (nI n).toNatClampNeg, S.1.2.2), S.2) else S; rw [if_pos rfl, hc])⟩, h.rest (H := (S.1.1, n, S.1.2.2)) fr (by decide) ⟨⟨⟨h.1.1.1.1, (q2 4).trans h.1.1.1.2.1, ?_⟩, ?_, q2 5, n7, ?_⟩, (q2 6).trans h.1.2.1, (q2 7).trans h.1.2.2.1, k1, k2⟩, fr.mono (by decide)⟩
        · rw [(fr 2 (by decide)).1, (fr 3 (by decide)).1, (fr 4 (by decide)).1]; exact h.1.1.1.2.2
        · unfold sg_St sg_St1
          rw [(fr 12 (by decide)).1, (fr 13 (by decide)).2, (fr 14 (by decide)).2, (fr 15 (by decide)).2]; exact h.1.1.2.1
        · rw [(fr 5 (by decide)).1]; exact h.1.1.2.2.2.2
      | false =>
        rw [hk, if_neg (by decide), if_neg (by decide)] at m
        exact ⟨_, 0, w, m, rfl, _, A, by omega, ⟨(if_neg Bool.false_ne_true).symm, (if_neg Bool.false_ne_true).symm⟩, h, sg_fr.rfl'⟩)
    (fun S w h => by
      have m := spMo_beds (d := 29) (w := w) (x := x)
      rw [h.1.1.2.1] at m
      cases hk : sl_rg 7 x with
      | true =>
        rw [hk, if_pos rfl, if_pos rfl] at m
        obtain ⟨n, n1, n7, rfl⟩ := sl_rg_of (by decide) hk
        have hc : (nI n).toNatClampNeg = n := nI_clamp (by omega)
        have hf : tp_Fm [6] [] w (sx_u w.1 48 6 (nI n), w.2) := tp_Fm.u (by decide)
        have e6 : (sx_u w.1 48 6 (nI n), w.2).1 48 6 = nI n := by
          show sx_u w.1 48 6 (nI n) 48 6 = _
          rw [sx_u_s, if_pos rfl]
        generalize (sx_u w.1 48 6 (nI n), w.2) = w1 at m hf e6
        refine ⟨_, 0, w1, m, rfl, _, ⟨(if_pos rfl).symm, (by show ((S.1.1, n, S.1.2.2), S.2) = if true = true then ((S.1.1, (nI n).toNatClampNeg, S.1.2.2), S.2) else S; rw [if_pos rfl, hc])⟩, h.rest (H := (S.1.1, n, S.1.2.2)) hf (by decide) (by decide) ⟨⟨⟨h.1.1.1.1, (hf.2 0 (by decide)).trans h.1.1.1.2.1, ?_⟩, e6, n7, (hf.2 5 (by decide)).trans h.1.1.2.2.2.1, ?_⟩, (hf.2 7 (by decide)).trans h.1.2⟩, hf.1.mono (by decide)⟩
        · rw [(hf.c1 (a := 49) (by decide) (by decide)).1, (hf.c1 (a := 50) (by decide) (by decide)).1, (hf.c1 (a := 51) (by decide) (by decide)).1]; exact h.1.1.1.2.2
        · rw [(hf.c1 (a := 52) (by decide) (by decide)).1]; exact h.1.1.2.2.2.2
      | false =>
        rw [hk, if_neg (by decide), if_neg (by decide)] at m
        exact ⟨_, 0, w, m, rfl, _, ⟨(if_neg Bool.false_ne_true).symm, (if_neg Bool.false_ne_true).symm⟩, h, sg_fr.rfl'⟩)
theorem st_lasts (x : Int32) : sa_ok rSb_lasts rMo_lasts [.int x] :=
  sa_mkE (F := fun S => if sl_rg 9 x then S.1.2.2.1 else -1) (G := fun S => if sl_rg 9 x = true then ((S.1.1, S.1.2.1, x, S.1.2.2.2), S.2) else S)
    (fun S A w hA h => by
      have m := spSb_lasts (d := 30) (w := w) (x := x)
      rw [h.1.2.1] at m
      cases hk : sl_rg 9 x with
      | true =>
        rw [hk, if_pos rfl, if_pos rfl] at m
        have q1 : ∀ j, sx_u w.1 1 6 x 1 j = if j = 6 then x else w.1 1 j := fun j => by rw [sx_u_s]
        have fr : sg_fr [1] w (sx_u w.1 1 6 x, w.2) := fun a ha => ⟨sx_u_o (fun e => ha (by rw [e]; decide)), rfl⟩
        generalize hw1 : (sx_u w.1 1 6 x, w.2) = w1 at m fr
        have q2 : ∀ j, w1.1 1 j = if j = 6 then x else w.1 1 j := fun j => by rw [← hw1]; exact q1 j
        have e16 := (fr 16 (by decide)).1
        have e24 := (fr 24 (by decide)).1
        have e27 := (fr 27 (by decide)).1
        have e8 : w1.1 1 8 = w.1 1 8 := q2 8
        have e9 : w1.1 1 9 = w.1 1 9 := q2 9
        have k := h.1.2.2.2.1
        refine ⟨_, 0, w1, m, rfl, _, A, by omega, ⟨(if_pos rfl).symm, (if_pos rfl).symm⟩, h.rest (H := (S.1.1, S.1.2.1, x, S.1.2.2.2)) fr (by decide) ⟨⟨⟨h.1.1.1.1, (q2 4).trans h.1.1.1.2.1, ?_⟩, ?_, (q2 5).trans h.1.1.2.2.1, h.1.1.2.2.2.1, ?_⟩, q2 6, (q2 7).trans h.1.2.2.1, ⟨⟨?_, ?_⟩, ?_, ?_⟩, ?_⟩, fr.mono (by decide)⟩
        · rw [(fr 2 (by decide)).1, (fr 3 (by decide)).1, (fr 4 (by decide)).1]; exact h.1.1.1.2.2
        · unfold sg_St sg_St1
          rw [(fr 12 (by decide)).1, (fr 13 (by decide)).2, (fr 14 (by decide)).2, (fr 15 (by decide)).2]; exact h.1.1.2.1
        · rw [(fr 5 (by decide)).1]; exact h.1.1.2.2.2.2
        · rw [e9, e16, (fr 22 (by decide)).1]; exact k.1.1
        · rw [e8, e16, (fr 23 (by decide)).1]; exact k.1.2
        · rw [e9, e24, (fr 26 (by decide)).1]; exact k.2.1
        · rw [e8, e27]; exact fun c => (k.2.2 c).fr fr (by decide)
        · unfold sa_A
          rw [e8, e9, e16, e24, e27]; exact h.1.2.2.2.2
      | false =>
        rw [hk, if_neg (by decide), if_neg (by decide)] at m
        exact ⟨_, 0, w, m, rfl, _, A, by omega, ⟨(if_neg Bool.false_ne_true).symm, (if_neg Bool.false_ne_true).symm⟩, h, sg_fr.rfl'⟩)
    (fun S w h => by
      have m := spMo_lasts (d := 29) (w := w) (x := x)
      rw [h.1.2] at m
      cases hk : sl_rg 9 x with
      | true =>
        rw [hk, if_pos rfl, if_pos rfl] at m
        have hf : tp_Fm [7] [] w (sx_u w.1 48 7 x, w.2) := tp_Fm.u (by decide)
        have e7 : (sx_u w.1 48 7 x, w.2).1 48 7 = x := by
          show sx_u w.1 48 7 x 48 7 = _
          rw [sx_u_s, if_pos rfl]
        generalize (sx_u w.1 48 7 x, w.2) = w1 at m hf e7
        refine ⟨_, 0, w1, m, rfl, _, ⟨(if_pos rfl).symm, (if_pos rfl).symm⟩, h.rest (H := (S.1.1, S.1.2.1, x, S.1.2.2.2)) hf (by decide) (by decide) ⟨⟨⟨h.1.1.1.1, (hf.2 0 (by decide)).trans h.1.1.1.2.1, ?_⟩, (hf.2 6 (by decide)).trans h.1.1.2.1, h.1.1.2.2.1, (hf.2 5 (by decide)).trans h.1.1.2.2.2.1, ?_⟩, e7⟩, hf.1.mono (by decide)⟩
        · rw [(hf.c1 (a := 49) (by decide) (by decide)).1, (hf.c1 (a := 50) (by decide) (by decide)).1, (hf.c1 (a := 51) (by decide) (by decide)).1]; exact h.1.1.1.2.2
        · rw [(hf.c1 (a := 52) (by decide) (by decide)).1]; exact h.1.1.2.2.2.2
      | false =>
        rw [hk, if_neg (by decide), if_neg (by decide)] at m
        exact ⟨_, 0, w, m, rfl, _, ⟨(if_neg Bool.false_ne_true).symm, (if_neg Bool.false_ne_true).symm⟩, h, sg_fr.rfl'⟩)
theorem st_image : sa_ok rSb_image rMo_image [] :=
  sa_mkE (F := fun _ => 1) (G := fun S => (S.1, some S.1, S.2.2))
    (fun S A w hA h => by
      obtain ⟨f, fl, w1, m, rfl, rfl, p1, p2, p3, p4⟩ := spSb_image (d := 27) h.1.1 h.1.2.1 h.1.2.2.1
      exact ⟨_, 0, w1, m, rfl, _, A, by omega, ⟨rfl, rfl⟩, ⟨h.1.fr p3 (by decide), ⟨p1, p2⟩, h.2.2.1.fr p3 (by decide) (by decide), h.2.2.2.fr p3 (by decide)⟩, p3.mono (by decide)⟩)
    (fun S w h => by
      obtain ⟨f, fl, w1, m, rfl, rfl, p1, p2, p3⟩ := spMo_image (d := 29) h.1.1 h.1.2
      exact ⟨_, 0, w1, m, rfl, _, ⟨rfl, rfl⟩, ⟨h.1.fm p3 (by decide) (by decide), ⟨p2, p1⟩, h.2.2.1.fm p3 (by decide) (by decide), h.2.2.2.fm p3 (by decide)⟩, p3.1.mono (by decide)⟩)
def sa_rs (S : sa_S) : Int32 × sa_S := match S.2.1 with
  | none => (-4, S)
  | some H => (1, (H, S.2))
theorem st_restore : sa_ok rSb_restore rMo_restore [] :=
  sa_mkE (F := fun S => (sa_rs S).1) (G := fun S => (sa_rs S).2)
    (fun S A w hA h => by
      obtain ⟨H0, o, T, s⟩ := S
      cases o with
      | none => exact ⟨_, 0, w, spSb_restore0 (d := 29) h.2.1, rfl, _, A, by omega, ⟨rfl, rfl⟩, h, sg_fr.rfl'⟩
      | some H =>
        have hk := h.2.1
        obtain ⟨f, fl, w1, m, rfl, rfl, p1, p2, p3, p4, p5, p6⟩ := spSb_restore (d := 26) hk.2 hk.1
        have e8 : w.1 1 8 + 1 = nI (A + 1) := by rw [h.1.2.2.2.2.1, nI_1]
        obtain ⟨k1, k2⟩ := sa_K_new (L := H.1) (b := H.2.1) (r := H.2.2.2.2) h.1.2.2.2.2 p6 (by decide) (Nat.le_refl 1) (by omega) (p4.trans e8) (p5.trans e8)
        exact ⟨_, 0, w1, m, rfl, _, A + 1, by omega, ⟨rfl, rfl⟩, h.rest (H := H) p6 (by decide) ⟨p1, p2, p3, k1, k2⟩, p6.mono (by decide)⟩)
    (fun S w h => by
      obtain ⟨H0, o, T, s⟩ := S
      cases o with
      | none => exact ⟨_, 0, w, spMo_restore0 (d := 29) h.2.1, rfl, _, ⟨rfl, rfl⟩, h, sg_fr.rfl'⟩
      | some H =>
        have hk := h.2.1
        obtain ⟨f, fl, w1, m, rfl, rfl, p1, p2, p3⟩ := spMo_restore (d := 29) hk.2 hk.1
        exact ⟨_, 0, w1, m, rfl, _, ⟨rfl, rfl⟩, h.rest (H := H) p3 (by decide) (by decide) ⟨p1, p2⟩, p3.1.mono (by decide)⟩)
theorem st_type (y : Int64) (x : Int32) : sa_ok rSb_type rMo_type [.long y, .int x] :=
  sa_mkE (F := fun S => if tp_can y x then (if S.2.2.1.1 + x.toNatClampNeg ≤ 100 then nI (S.2.2.1.1 + x.toNatClampNeg) else -3) else -1) (G := fun S => (S.1, S.2.1, ((if tp_can y x ∧ S.2.2.1.1 + x.toNatClampNeg ≤ 100 then S.2.2.1.1 + x.toNatClampNeg else S.2.2.1.1), (if tp_can y x ∧ S.2.2.1.1 + x.toNatClampNeg ≤ 100 then tp_app S.2.2.1.1 S.2.2.1.2 y x.toNatClampNeg else S.2.2.1.2)), S.2.2.2))
    (fun S A w hA h => by
      obtain ⟨f, fl, w1, m, rfl, rfl, p1, p2, p3⟩ := spSb_type (d := 28) (y := y) (x := x) h.2.2.1
      exact ⟨_, 0, w1, m, rfl, _, A, by omega, ⟨rfl, rfl⟩, ⟨h.1.fr p2 (by decide), h.2.1.fr p2 (by decide), p1, h.2.2.2.fr p2 (by decide)⟩, p2.mono (by decide)⟩)
    (fun S w h => by
      obtain ⟨f, fl, w1, m, rfl, rfl, p1, p2⟩ := spMo_type (d := 29) (y := y) (x := x) h.2.2.1
      exact ⟨_, 0, w1, m, rfl, _, ⟨rfl, rfl⟩, ⟨h.1.fm p2 (by decide) (by decide), h.2.1.fm p2 (by decide) (by decide), p1, h.2.2.2.fm p2 (by decide)⟩, p2.1.mono (by decide)⟩)
end
