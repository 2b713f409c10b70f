/-! ===== the calls, one after another: both sides answer alike and the state is kept ===== -/
section
variable {w w' : sx_W} {A : Nat} {S : sa_S}
theorem sa_C.sheets {s' : sh_T} (h : sa_C S A w) (hf : sg_fr [40, 41, 42, 43, 44, 45, 46, 47] w w') (hs : sh_C s' w') : sa_C (S.1, S.2.1, S.2.2.1, s') A w' := ⟨h.1.fr hf (by decide), h.2.1.fr hf (by decide), h.2.2.1.fr hf (by decide) (by decide), hs⟩
theorem sa_M.sheets {s' : sh_T} (h : sa_M S w) (hf : sg_fr [61, 62, 63, 64] w w') (hs : sh_M s' w') : sa_M (S.1, S.2.1, S.2.2.1, s') w' := ⟨h.1.fm (tp_Fm.of hf (by decide)) (fun _ _ => List.not_mem_nil) (by decide), h.2.1.fm (tp_Fm.of hf (by decide)) List.not_mem_nil (by decide), h.2.2.1.fm (tp_Fm.of hf (by decide)) List.not_mem_nil (by decide), hs⟩
theorem sa_C.keep (h : sa_C S A w) (hf : sg_fr [16, 17, 18, 19, 20, 21, 22, 23, 24, 25, 26, 27, 28, 29, 30, 31, 32] w w') (hk : sa_K S.1.1 S.1.2.1 S.1.2.2.2.2 w') (hA : sa_A A w') : sa_C S A w' := by
  refine ⟨⟨h.1.1.fr hf (by decide), ?_, ?_, hk, hA⟩, h.2.1.fr hf (by decide), h.2.2.1.fr hf (by decide) (by decide), h.2.2.2.fr hf (by decide)⟩
  · rw [(hf 1 (by decide)).1]; exact h.1.2.1
  · rw [(hf 1 (by decide)).1]; exact h.1.2.2.1
theorem sa_mkR {rC rM : sx_R} {As : List Value} {Pf : sa_S → Int32 → Prop} (hC : sa_x rC As (fun S f S' => Pf S f ∧ S' = S)) (hM : sa_y rM As (fun S f S' => Pf S f ∧ S' = S)) (hu : ∀ (S : sa_S) (f g : Int32), S.1.1.1 ≤ 7 → Pf S f → Pf S g → f = g) : sa_ok rC rM As :=
  sa_mk hC hM (fun S A w f S1 g S2 h h1 h2 => ⟨hu S f g h.1.1.1.1.1 h1.1 h2.1, fun u hu => by rw [h1.2, ← h2.2]; exact hu⟩)
theorem st_told (x y : Int32) : sa_ok rSb_told rMo_told [.int x, .int y] :=
  sa_mkE (F := fun S => sl_told S.1.1 S.1.2.2.2.1 S.1.2.2.2.2 x y) (G := fun S => S)
    (fun S A w _ h => ⟨_, 0, w, spSb_told (d := 29) h.1.1 h.1.2.2.1, rfl, S, A, by omega, ⟨rfl, rfl⟩, h, sg_fr.rfl'⟩)
    (fun S w h => ⟨_, 0, w, spMo_told (d := 27) h.1.1, rfl, S, ⟨rfl, rfl⟩, h, sg_fr.rfl'⟩)
theorem st_sleeps (x y : Int32) : sa_ok rSb_sleeps rMo_sleeps [.int x, .int y] :=
  sa_mkE (F := fun S => sl_sleeps S.1.1 x y) (G := fun S => S)
    (fun S A w _ h => ⟨_, 0, w, spSb_sleeps (d := 29) h.1.1.1, rfl, S, A, by omega, ⟨rfl, rfl⟩, h, sg_fr.rfl'⟩)
    (fun S w h => ⟨_, 0, w, spMo_sleeps (d := 28) h.1.1.1, rfl, S, ⟨rfl, rfl⟩, h, sg_fr.rfl'⟩)
theorem st_count (x : Int32) : sa_ok rSb_count rMo_count [.int x] :=
  sa_mkE (F := fun S => sl_count S.1.1 S.1.2.1 S.1.2.2.2.1 S.1.2.2.2.2 x) (G := fun S => S)
    (fun S A w _ h => ⟨_, 0, w, spSb_count (d := 27) h.1.1 h.1.2.2.1, rfl, S, A, by omega, ⟨rfl, rfl⟩, h, sg_fr.rfl'⟩)
    (fun S w h => ⟨_, 0, w, spMo_count (d := 26) h.1.1, rfl, S, ⟨rfl, rfl⟩, h, sg_fr.rfl'⟩)
/-! sheets -/
theorem st_item (x1 x2 x3 : Int32) (y : Int64) : sa_ok rSb_item rMo_item [.int x1, .int x2, .int x3, .long y] :=
  sa_mkE (F := fun S => (sh_item S.2.2.2 x1 x2 x3 y).1) (G := fun S => (S.1, S.2.1, S.2.2.1, (sh_item S.2.2.2 x1 x2 x3 y).2))
    (fun S A w _ h => by
      obtain ⟨f, fl, w1, m, rfl, rfl, p1, p2⟩ := spSb_item (d := 28) (x1 := x1) (x2 := x2) (x3 := x3) (y := y) h.2.2.2
      exact ⟨_, 0, w1, m, rfl, _, A, by omega, ⟨rfl, rfl⟩, h.sheets p2 p1, p2.mono (by decide)⟩)
    (fun S w h => by
      obtain ⟨f, fl, w1, m, rfl, rfl, p1, p2⟩ := spMo_item (d := 28) (x1 := x1) (x2 := x2) (x3 := x3) (y := y) h.2.2.2
      exact ⟨_, 0, w1, m, rfl, _, ⟨rfl, rfl⟩, h.sheets (p2.mono (by decide)) p1, p2.mono (by decide)⟩)
theorem st_drop (x : Int32) : sa_ok rSb_drop rMo_drop [.int x] :=
  sa_mkE (F := fun S => (sh_drop S.2.2.2 x).1) (G := fun S => (S.1, S.2.1, S.2.2.1, (sh_drop S.2.2.2 x).2))
    (fun S A w _ h => by
      obtain ⟨f, fl, w1, m, rfl, rfl, p1, p2⟩ := spSb_drop (d := 29) (x := x) h.2.2.2
      exact ⟨_, 0, w1, m, rfl, _, A, by omega, ⟨rfl, rfl⟩, h.sheets p2 p1, p2.mono (by decide)⟩)
    (fun S w h => by
      obtain ⟨f, fl, w1, m, rfl, rfl, p1, p2⟩ := spMo_drop (d := 28) (x := x) h.2.2.2
      exact ⟨_, 0, w1, m, rfl, _, ⟨rfl, rfl⟩, h.sheets (p2.mono (by decide)) p1, p2.mono (by decide)⟩)
theorem st_sheet (x1 x2 x3 : Int32) : sa_ok rSb_sheet rMo_sheet [.int x1, .int x2, .int x3] :=
  sa_mkE (F := fun S => (sh_sheet S.2.2.2 x1 x2 x3).1) (G := fun S => (S.1, S.2.1, S.2.2.1, (sh_sheet S.2.2.2 x1 x2 x3).2))
    (fun S A w _ h => by
      obtain ⟨f, fl, w1, m, rfl, rfl, p1, p2⟩ := spSb_sheet (d := 29) (x1 := x1) (x2 := x2) (x3 := x3) h.2.2.2
      exact ⟨_, 0, w1, m, rfl, _, A, by omega, ⟨rfl, rfl⟩, h.sheets p2 p1, p2.mono (by decide)⟩)
    (fun S w h => by
      obtain ⟨f, fl, w1, m, rfl, rfl, p1, p2⟩ := spMo_sheet (d := 28) (x1 := x1) (x2 := x2) (x3 := x3) h.2.2.2
      exact ⟨_, 0, w1, m, rfl, _, ⟨rfl, rfl⟩, h.sheets (p2.mono (by decide)) p1, p2.mono (by decide)⟩)
theorem st_film (x1 x2 x3 : Int32) : sa_ok rSb_film rMo_film [.int x1, .int x2, .int x3] :=
  sa_mkE (F := fun S => (sh_film S.2.2.2 S.1.1.1 S.1.2.2.2.1 S.1.2.2.2.2 x1 x2 x3).1) (G := fun S => (S.1, S.2.1, S.2.2.1, (sh_film S.2.2.2 S.1.1.1 S.1.2.2.2.1 S.1.2.2.2.2 x1 x2 x3).2))
    (fun S A w _ h => by
      obtain ⟨f, fl, w1, m, rfl, rfl, p1, p2⟩ := spSb_film (d := 28) (x1 := x1) (x2 := x2) (x3 := x3) h.2.2.2 h.1.1 h.1.2.2.1
      exact ⟨_, 0, w1, m, rfl, _, A, by omega, ⟨rfl, rfl⟩, h.sheets p2 p1, p2.mono (by decide)⟩)
    (fun S w h => by
      obtain ⟨f, fl, w1, m, rfl, rfl, p1, p2⟩ := spMo_film (d := 28) (x1 := x1) (x2 := x2) (x3 := x3) h.2.2.2 h.1.1
      exact ⟨_, 0, w1, m, rfl, _, ⟨rfl, rfl⟩, h.sheets (p2.mono (by decide)) p1, p2.mono (by decide)⟩)
theorem st_copy (x1 x2 x3 x4 x5 : Int32) : sa_ok rSb_copy rMo_copy [.int x1, .int x2, .int x3, .int x4, .int x5] :=
  sa_mkE (F := fun S => (sh_copy S.2.2.2 x1 x2 x3 x4 x5).1) (G := fun S => (S.1, S.2.1, S.2.2.1, (sh_copy S.2.2.2 x1 x2 x3 x4 x5).2))
    (fun S A w _ h => by
      obtain ⟨f, fl, w1, m, rfl, rfl, p1, p2⟩ := spSb_copy (d := 29) (x1 := x1) (x2 := x2) (x3 := x3) (x4 := x4) (x5 := x5) h.2.2.2
      exact ⟨_, 0, w1, m, rfl, _, A, by omega, ⟨rfl, rfl⟩, h.sheets p2 p1, p2.mono (by decide)⟩)
    (fun S w h => by
      obtain ⟨f, fl, w1, m, rfl, rfl, p1, p2⟩ := spMo_copy (d := 28) (x1 := x1) (x2 := x2) (x3 := x3) (x4 := x4) (x5 := x5) h.2.2.2
      exact ⟨_, 0, w1, m, rfl, _, ⟨rfl, rfl⟩, h.sheets p2 p1, p2.mono (by decide)⟩)
theorem st_judged (x1 x2 x3 : Int32) : sa_ok rSb_judged rMo_judged [.int x1, .int x2, .int x3] :=
  sa_mkE (F := fun S => sh_judged S.2.2.2 S.1.1 S.1.2.1 x1 x2 x3) (G := fun S => S)
    (fun S A w _ h => by
      obtain ⟨f, fl, w1, m, rfl, rfl, p2⟩ := spSb_judged (d := 28) (x1 := x1) (x2 := x2) (x3 := x3) h.2.2.2 h.1.1
      exact ⟨_, 0, w1, m, rfl, _, A, by omega, ⟨rfl, rfl⟩, h.fr p2 (by decide), p2.mono (by decide)⟩)
    (fun S w h => by
      obtain ⟨f, fl, w1, m, rfl, rfl, p2⟩ := spMo_judged (d := 28) (x1 := x1) (x2 := x2) (x3 := x3) h.2.2.2 h.1.1
      exact ⟨_, 0, w1, m, rfl, _, ⟨rfl, rfl⟩, h.fr p2 (by decide) (by decide), p2.mono (by decide)⟩)
theorem st_clears (x1 x2 x3 : Int32) : sa_ok rSb_clears rMo_clears [.int x1, .int x2, .int x3] :=
  sa_mkE (F := fun S => sh_clears S.2.2.2 S.1.1 S.1.2.1 x1 x2 x3) (G := fun S => S)
    (fun S A w _ h => by
      obtain ⟨f, fl, w1, m, rfl, rfl, p2⟩ := spSb_clears (d := 27) (x1 := x1) (x2 := x2) (x3 := x3) h.2.2.2 h.1.1
      exact ⟨_, 0, w1, m, rfl, _, A, by omega, ⟨rfl, rfl⟩, h.fr p2 (by decide), p2.mono (by decide)⟩)
    (fun S w h => by
      obtain ⟨f, fl, w1, m, rfl, rfl, p2⟩ := spMo_clears (d := 27) (x1 := x1) (x2 := x2) (x3 := x3) h.2.2.2 h.1.1
      exact ⟨_, 0, w1, m, rfl, _, ⟨rfl, rfl⟩, h.fr p2 (by decide) (by decide), p2.mono (by decide)⟩)
theorem st_ways : sa_ok rSb_ways rMo_ways [] :=
  sa_mkE (F := fun S => nI (min 9999 (sg_ways S.1.1 S.1.2.1))) (G := fun S => S)
    (fun S A w _ h => by
      obtain ⟨f, fl, w1, m, rfl, rfl, p2⟩ := spSb_ways (d := 18) h.1.1
      exact ⟨_, 0, w1, m, rfl, _, A, by omega, ⟨rfl, rfl⟩, h.fr p2 (by decide), p2.mono (by decide)⟩)
    (fun S w h => by
      obtain ⟨f, fl, w1, m, rfl, rfl, p2⟩ := spMo_ways (d := 27) h.1.1
      exact ⟨_, 0, w1, m, rfl, _, ⟨rfl, rfl⟩, h.fr p2 (by decide) (by decide), p2.mono (by decide)⟩)
theorem st_fewest : sa_ok rSb_fewest rMo_fewest [] :=
  sa_mkR (Pf := fun S f => sg_few S.1.1 f)
    (fun S A w _ h => by
      obtain ⟨f, fl, w1, m, rfl, p1, p2⟩ := spSb_fewest (d := 18) h.1.1
      exact ⟨_, 0, w1, m, rfl, _, A, by omega, ⟨p1, rfl⟩, h.fr p2 (by decide), p2.mono (by decide)⟩)
    (fun S w h => by
      obtain ⟨f, fl, w1, m, rfl, p1, p2, p3, p4⟩ := spMo_fewest (d := 27) h.1.1
      exact ⟨_, 0, w1, m, rfl, _, ⟨p1, rfl⟩, h.fm (js := []) (cs := [53]) ⟨p3, fun j _ => p4 j⟩ (fun _ _ => List.not_mem_nil) (by decide), p3.mono (by decide)⟩)
    (fun S f g _ h1 h2 => sg_few_one h1 h2)
theorem sg_f1_one {L : sg_L} {b : Nat} {x f g : Int32} (h7 : L.1 ≤ 7) (h1 : sg_f1 L b x f) (h2 : sg_f1 L b x g) : f = g := by
  rcases h1 with ⟨e, rfl⟩ | ⟨l, hl, rfl, h1⟩
  · rcases h2 with ⟨_, rfl⟩ | ⟨l, hl, rfl, _⟩
    · rfl
    · rw [sz_in_nI hl (by omega)] at e; cases e
  · rcases h2 with ⟨e, rfl⟩ | ⟨l2, hl2, e2, h2⟩
    · rw [sz_in_nI hl (by omega)] at e; cases e
    · have := (nI_eq (show l < 2 ^ 31 by omega) (show l2 < 2 ^ 31 by omega)).mp e2
      subst this
      rcases h1 with ⟨σ, hs, rfl⟩ | ⟨rfl, hn⟩
      · rcases h2 with ⟨τ, ht, rfl⟩ | ⟨rfl, hn⟩
        · rw [sg_is1_one hs ht l hl]
        · exact absurd hs.1 (hn σ)
      · rcases h2 with ⟨τ, ht, rfl⟩ | ⟨rfl, _⟩
        · exact absurd ht.1 (hn τ)
        · rfl
theorem st_first (x : Int32) : sa_ok rSb_first rMo_first [.int x] :=
  sa_mkR (Pf := fun S f => sg_f1 S.1.1 S.1.2.1 x f)
    (fun S A w _ h => by
      obtain ⟨f, fl, w1, m, rfl, p1, p2, p3, p4, p5⟩ := spSb_first (d := 17) (x := x) h.1.1 h.1.2.2.2.1.1.1
      obtain ⟨a1, a2, a3, a4, a5, a6⟩ := h.1.2.2.2.2
      have k := h.1.2.2.2.1
      have e1 := (p5 1 (by decide)).1
      have e24 := (p5 24 (by decide)).1
      have e27 := (p5 27 (by decide)).1
      refine ⟨_, 0, w1, m, rfl, S, A, by omega, ⟨p1, rfl⟩, h.keep (p5.mono (by decide)) ⟨⟨p2, fun c => ?_⟩, fun c => ?_, fun c => ?_⟩ ⟨?_, ?_, ?_, ?_, ?_, ?_⟩, p5.mono (by decide)⟩
      · rw [p4 13 (by decide) (by decide), e1] at c
        rw [p4 12 (by decide) (by decide), p4 11 (by decide) (by decide), (p5 23 (by decide)).1]
        exact k.1.2 c
      · rw [e24, e1] at c; rw [e24, (p5 26 (by decide)).1]; exact k.2.1 c
      · rw [e27, e1] at c; exact (k.2.2 c).fr p5 (by decide)
      · rw [e1]; exact a1
      · rw [e1]; exact a2
      · rcases p3 with e | e
        · rw [e]; exact a3
        · rw [e]; exact a2
      · rw [p4 13 (by decide) (by decide)]; exact a4
      · rw [e24]; exact a5
      · rw [e27]; exact a6)
    (fun S w h => by
      obtain ⟨f, fl, w1, m, rfl, p1, p2⟩ := spMo_first (d := 27) (x := x) h.1.1
      exact ⟨_, 0, w1, m, rfl, _, ⟨p1, rfl⟩, h.fr p2 (by decide) (by decide), p2.mono (by decide)⟩)
    (fun S f g h7 h1 h2 => sg_f1_one h7 h1 h2)
theorem st_mended (x : Int32) : sa_ok rSb_mended rMo_mended [.int x] :=
  sa_mkR (Pf := fun S f => sl_men S.1.1 S.1.2.1 S.1.2.2.2.1 S.1.2.2.2.2 x f)
    (fun S A w _ h => by
      obtain ⟨f, fl, w1, m, rfl, p1, p2, p3, p4, p5⟩ := spSb_mended (d := 17) (x := x) h.1.1 h.1.2.2.1 h.1.2.2.2.1.1
      obtain ⟨a1, a2, a3, a4, a5, a6⟩ := h.1.2.2.2.2
      have k := h.1.2.2.2.1
      have e1 := (p5 1 (by decide)).1
      have e24 := (p5 24 (by decide)).1
      have e27 := (p5 27 (by decide)).1
      refine ⟨_, 0, w1, m, rfl, S, A, by omega, ⟨p1, rfl⟩, h.keep (p5.mono (by decide)) ⟨p2, fun c => ?_, fun c => ?_⟩ ⟨?_, ?_, ?_, ?_, ?_, ?_⟩, p5.mono (by decide)⟩
      · rw [e24, e1] at c; rw [e24, (p5 26 (by decide)).1]; exact k.2.1 c
      · rw [e27, e1] at c; exact (k.2.2 c).fr p5 (by decide)
      · rw [e1]; exact a1
      · rw [e1]; exact a2
      · rcases p3 with e | e
        · rw [e]; exact a3
        · rw [e]; exact a2
      · rcases p4 with e | e
        · rw [e]; exact a4
        · rw [e, a1]; exact sa_ag.self
      · rw [e24]; exact a5
      · rw [e27]; exact a6)
    (fun S w h => by
      obtain ⟨f, fl, w1, m, rfl, p1, p2⟩ := spMo_mended (d := 27) (x := x) h.1.1
      exact ⟨_, 0, w1, m, rfl, _, ⟨p1, rfl⟩, h.fr p2 (by decide) (by decide), p2.mono (by decide)⟩)
    (fun S f g h7 h1 h2 => sl_men_one h7 h1 h2)
theorem st_rents (x : Int32) : sa_ok rSb_rents rMo_rents [.int x] :=
  sa_mkR (Pf := fun S f => sl_rn S.1.1 S.1.2.1 x f)
    (fun S A w _ h => by
      obtain ⟨f, fl, w1, m, rfl, p1, p2, p3, p3b, p4, p5⟩ := spSb_rents (d := 16) (x := x) h.1.1 ⟨h.1.2.2.2.1.1.1, h.1.2.2.2.1.2.1⟩
      obtain ⟨a1, a2, a3, a4, a5, a6⟩ := h.1.2.2.2.2
      have k := h.1.2.2.2.1
      have e1 := (p5 1 (by decide)).1
      have e27 := (p5 27 (by decide)).1
      refine ⟨_, 0, w1, m, rfl, S, A, by omega, ⟨p1, rfl⟩, h.keep (p5.mono (by decide)) ⟨⟨p2.1, fun c => ?_⟩, p2.2, fun c => ?_⟩ ⟨?_, ?_, ?_, ?_, ?_, ?_⟩, p5.mono (by decide)⟩
      · rw [p4 13 (by decide) (by decide), e1] at c
        rw [p4 12 (by decide) (by decide), p4 11 (by decide) (by decide), (p5 23 (by decide)).1]
        exact k.1.2 c
      · rw [e27, e1] at c; exact (k.2.2 c).fr p5 (by decide)
      · rw [e1]; exact a1
      · rw [e1]; exact a2
      · rcases p3 with e | e
        · rw [e]; exact a3
        · rw [e]; exact a2
      · rw [p4 13 (by decide) (by decide)]; exact a4
      · rcases p3b with e | e
        · rw [e]; exact a5
        · rw [e]; exact a2
      · rw [e27]; exact a6)
    (fun S w h => by
      obtain ⟨f, fl, w1, m, rfl, p1, p2⟩ := spMo_rentsA (d := 27) (x := x) h.1.1
      exact ⟨_, 0, w1, m, rfl, _, ⟨p1, rfl⟩, h.fr p2 (by decide) (by decide), p2.mono (by decide)⟩)
    (fun S f g h7 h1 h2 => sl_rn_one h1 h2)
/-! nights -/
theorem sa_C.night (h : sa_C S A w) (p2 : w'.1 27 5 = w'.1 1 8 → na_NS S.1.1 S.1.2.2.2.2 w') (p3 : w'.1 27 5 = w.1 27 5 ∨ w'.1 27 5 = w.1 1 8) (p5 : sg_fr [27, 28, 29, 30, 31, 32] w w') : sa_C S A w' := by
  obtain ⟨a1, a2, a3, a4, a5, a6⟩ := h.1.2.2.2.2
  have k := h.1.2.2.2.1
  have e1 := (p5 1 (by decide)).1
  have e16 := (p5 16 (by decide)).1
  have e24 := (p5 24 (by decide)).1
  refine h.keep (p5.mono (by decide)) ⟨⟨fun c => ?_, fun c => ?_⟩, fun c => ?_, p2⟩ ⟨?_, ?_, ?_, ?_, ?_, ?_⟩
  · rw [e16, e1] at c; rw [e16, (p5 22 (by decide)).1]; exact k.1.1 c
  · rw [e16, e1] at c; rw [e16, (p5 23 (by decide)).1]; exact k.1.2 c
  · rw [e24, e1] at c; rw [e24, (p5 26 (by decide)).1]; exact k.2.1 c
  · rw [e1]; exact a1
  · rw [e1]; exact a2
  · rw [e16]; exact a3
  · rw [e16]; exact a4
  · rw [e24]; exact a5
  · rcases p3 with e | e
    · rw [e]; exact a6
    · rw [e, a1]; exact sa_ag.self
theorem st_bed (x y : Int32) : sa_ok rSb_bed rMo_bed [.int x, .int y] :=
  sa_mkE (F := fun S => if sz_in x S.1.1.1 && sz_in y 8 then (if S.1.2.2.2.1 && sg_good S.1.1 S.1.2.1 S.1.2.2.2.2 then na_lI (na_B S.1.1 S.1.2.2.2.2 (y.toNatClampNeg + 1) x.toNatClampNeg) else -2) else -1) (G := fun S => S)
    (fun S A w _ h => by
      obtain ⟨f, fl, w1, m, rfl, rfl, p2, p3, p4⟩ := spSb_bed (d := 25) (x := x) (y := y) h.1.1 h.1.2.2.1 h.1.2.2.2.1.2.2
      exact ⟨_, 0, w1, m, rfl, _, A, by omega, ⟨rfl, rfl⟩, h.night p2 p3 p4, p4.mono (by decide)⟩)
    (fun S w h => by
      obtain ⟨f, fl, w1, m, rfl, rfl, p2⟩ := spMo_bed (d := 26) (x := x) (y := y) h.1.1
      exact ⟨_, 0, w1, m, rfl, _, ⟨rfl, rfl⟩, h.fr p2 (by decide) (by decide), p2.mono (by decide)⟩)
theorem st_linen : sa_ok rSb_linen rMo_linen [] :=
  sa_mkE (F := fun S => if S.1.2.2.2.1 && sg_good S.1.1 S.1.2.1 S.1.2.2.2.2 then na_lin S.1.1 S.1.2.2.2.2 else -2) (G := fun S => S)
    (fun S A w _ h => by
      obtain ⟨f, fl, w1, m, rfl, rfl, p2, p3, p4⟩ := spSb_linen (d := 25) h.1.1 h.1.2.2.1 h.1.2.2.2.1.2.2
      exact ⟨_, 0, w1, m, rfl, _, A, by omega, ⟨rfl, rfl⟩, h.night p2 p3 p4, p4.mono (by decide)⟩)
    (fun S w h => by
      obtain ⟨f, fl, w1, m, rfl, rfl, p2⟩ := spMo_linen (d := 25) h.1.1
      exact ⟨_, 0, w1, m, rfl, _, ⟨rfl, rfl⟩, h.fr p2 (by decide) (by decide), p2.mono (by decide)⟩)
theorem st_sick (x y : Int32) : sa_ok rSb_sick rMo_sick [.int x, .int y] :=
  sa_mkE (F := fun S => if sz_in x (2 ^ S.1.1.1) && sz_day y then (if S.1.2.2.2.1 && sg_good S.1.1 S.1.2.1 S.1.2.2.2.2 then nI (na_sick S.1.1 S.1.2.2.2.2 S.1.2.2.1 x.toNatClampNeg y.toNatClampNeg) else -2) else -1) (G := fun S => S)
    (fun S A w _ h => by
      obtain ⟨f, fl, w1, m, rfl, rfl, p2, p3, p4⟩ := spSb_sick (d := 25) (x := x) (y := y) h.1.1 h.1.2.2.1 h.1.2.2.2.1.2.2
      rw [h.1.2.1] at m
      exact ⟨_, 0, w1, m, rfl, _, A, by omega, ⟨rfl, rfl⟩, h.night p2 p3 p4, p4.mono (by decide)⟩)
    (fun S w h => by
      obtain ⟨f, fl, w1, m, rfl, rfl, p2⟩ := spMo_sick (d := 24) (x := x) (y := y) h.1.1
      rw [h.1.2] at m
      exact ⟨_, 0, w1, m, rfl, _, ⟨rfl, rfl⟩, h.fr p2 (by decide) (by decide), p2.mono (by decide)⟩)
theorem st_brought (x y : Int32) : sa_ok rSb_brought rMo_brought [.int x, .int y] :=
  sa_mkE (F := fun S => if sz_in x (2 ^ S.1.1.1) && sz_day y then (if S.1.2.2.2.1 && sg_good S.1.1 S.1.2.1 S.1.2.2.2.2 then nI (na_br S.1.1 S.1.2.2.2.2 S.1.2.2.1 x.toNatClampNeg y.toNatClampNeg) else -2) else -1) (G := fun S => S)
    (fun S A w _ h => by
      obtain ⟨f, fl, w1, m, rfl, rfl, p2, p3, p4⟩ := spSb_brought (d := 24) (x := x) (y := y) h.1.1 h.1.2.2.1 h.1.2.2.2.1.2.2
      rw [h.1.2.1] at m
      exact ⟨_, 0, w1, m, rfl, _, A, by omega, ⟨rfl, rfl⟩, h.night p2 p3 p4, p4.mono (by decide)⟩)
    (fun S w h => by
      obtain ⟨f, fl, w1, m, rfl, rfl, p2⟩ := spMo_brought (d := 24) (x := x) (y := y) h.1.1
      rw [h.1.2] at m
      exact ⟨_, 0, w1, m, rfl, _, ⟨rfl, rfl⟩, h.fr p2 (by decide) (by decide), p2.mono (by decide)⟩)
end
