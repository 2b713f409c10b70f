/-! ===== the class parses the whole tape ===== -/
section
variable {T : Nat} {t : Nat → Nat} {p m : Nat}
theorem tp_all_1 (h : (tp_one T t p).1 = false) : tp_all T t (m + 1) p = (false, (tp_one T t p).2.1, []) := by
  rw [tp_all]; exact if_pos h
theorem tp_all_2 (h : ¬ (tp_one T t p).1 = false) (h2 : T ≤ (tp_one T t p).2.1) : tp_all T t (m + 1) p = (true, (tp_one T t p).2.1, [(tp_one T t p).2.2]) := by
  rw [tp_all]; exact (if_neg h).trans (if_pos h2)
theorem tp_all_3 (h : ¬ (tp_one T t p).1 = false) (h2 : ¬ T ≤ (tp_one T t p).2.1) (h3 : t (tp_one T t p).2.1 = 44 ∧ m ≠ 0) : tp_all T t (m + 1) p = ((tp_all T t m ((tp_one T t p).2.1 + 1)).1, (tp_all T t m ((tp_one T t p).2.1 + 1)).2.1, (tp_one T t p).2.2 :: (tp_all T t m ((tp_one T t p).2.1 + 1)).2.2) := by
  rw [tp_all]; exact ((if_neg h).trans (if_neg h2)).trans (if_pos h3)
theorem tp_all_4 (h : ¬ (tp_one T t p).1 = false) (h2 : ¬ T ≤ (tp_one T t p).2.1) (h3 : ¬ (t (tp_one T t p).2.1 = 44 ∧ m ≠ 0)) : tp_all T t (m + 1) p = (false, (tp_one T t p).2.1, []) := by
  rw [tp_all]; exact ((if_neg h).trans (if_neg h2)).trans (if_neg h3)
theorem tp_all_ok : ∀ (m p : Nat), p ≤ T → (tp_all T t m p).2.1 ≤ T ∧ (tp_all T t m p).2.2.length ≤ m ∧ ∀ o, o ∈ (tp_all T t m p).2.2 → o.1 < 4 ∧ 1 ≤ o.2.1 ∧ o.2.1 ≤ 4 ∧ o.2.2 < 256
  | 0, p, hp => ⟨hp, Nat.le_refl _, fun o ho => by cases ho⟩
  | m + 1, p, hp => by
    obtain ⟨a1, a2, a3⟩ := tp_one_ok (t := t) hp
    by_cases h1 : (tp_one T t p).1 = false
    · rw [tp_all_1 h1]; exact ⟨a1, Nat.zero_le _, fun o ho => by cases ho⟩
    · have hy : (tp_one T t p).1 = true := by simpa using h1
      by_cases h2 : T ≤ (tp_one T t p).2.1
      · rw [tp_all_2 h1 h2]
        refine ⟨a1, by simp, fun o ho => ?_⟩
        rw [List.mem_singleton] at ho
        rw [ho]; exact a3 hy
      · by_cases h3 : t (tp_one T t p).2.1 = 44 ∧ m ≠ 0
        · rw [tp_all_3 h1 h2 h3]
          obtain ⟨b1, b2, b3⟩ := tp_all_ok m ((tp_one T t p).2.1 + 1) (by omega)
          refine ⟨b1, by simp only [List.length_cons]; omega, fun o ho => ?_⟩
          rw [List.mem_cons] at ho
          rcases ho with ho | ho
          · rw [ho]; exact a3 hy
          · exact b3 o ho
        · rw [tp_all_4 h1 h2 h3]; exact ⟨a1, Nat.zero_le _, fun o ho => by cases ho⟩
end
section
variable {d : Nat} {w : sx_W} {T : Nat} {t : Nat → Nat}
def tp_L (a b c : Nat) (os : List (Nat × Nat × Nat)) (w : sx_W) : Prop := ∀ i o, os[i]? = some o → w.1 a i = nI o.1 ∧ w.1 b i = nI o.2.1 ∧ w.1 c i = nI o.2.2
theorem tp_L.fr {a b c : Nat} {os : List (Nat × Nat × Nat)} {w' : sx_W} (h : tp_L a b c os w) (hf : w'.1 a = w.1 a ∧ w'.1 b = w.1 b ∧ w'.1 c = w.1 c) : tp_L a b c os w' := fun i o hi => by
  rw [hf.1, hf.2.1, hf.2.2]; exact h i o hi
theorem tp_L.u {a b c o i : Nat} {v : Int32} {os : List (Nat × Nat × Nat)} (h : tp_L a b c os w) (h1 : a ≠ o) (h2 : b ≠ o) (h3 : c ≠ o) : tp_L a b c os (sx_u w.1 o i v, w.2) := h.fr ⟨sx_u_o h1, sx_u_o h2, sx_u_o h3⟩
theorem spTa_parses (h : tp_T 33 1 34 T t w) : sx_x (d + 3) rTa_parses [.ref 33] w (fun f fl w' => f = sz_b (tp_all T t 7 0).1 ∧ fl = 0 ∧ w'.1 33 2 = nI (tp_all T t 7 0).2.1 ∧ ((tp_all T t 7 0).1 = true → w'.1 33 3 = nI (tp_all T t 7 0).2.2.length ∧ tp_L 35 36 37 (tp_all T t 7 0).2.2 w') ∧ sg_fr [33, 35, 36, 37] w w' ∧ ∀ j, j ≠ 2 → j ≠ 3 → w'.1 33 j = w.1 33 j) := by
  have hb := h.b
  have hT := h.2.1
  have loop : ∀ k, k ≤ 7 → ∀ u p pre, pre.length = k → p ≤ T → u.1 33 2 = nI p → tp_L 35 36 37 pre u → sg_fr [33, 35, 36, 37] w u → (∀ j, j ≠ 2 → j ≠ 3 → u.1 33 j = w.1 33 j) → sx_xe (d + 3) rTa_parses 7 [.ref 33, .int (nI k), .null] u (fun f fl w' => f = sz_b (tp_all T t (7 - k) p).1 ∧ fl = 0 ∧ w'.1 33 2 = nI (tp_all T t (7 - k) p).2.1 ∧ ((tp_all T t (7 - k) p).1 = true → w'.1 33 3 = nI (pre ++ (tp_all T t (7 - k) p).2.2).length ∧ tp_L 35 36 37 (pre ++ (tp_all T t (7 - k) p).2.2) w') ∧ sg_fr [33, 35, 36, 37] w w' ∧ ∀ j, j ≠ 2 → j ≠ 3 → w'.1 33 j = w.1 33 j) := by
    refine sx_for 7 (fun u p pre _ hp hu hL hf hj => ?_) (fun k hk ih u p pre hlen hp hu hL hf hj => ?_)
    · exact ⟨0, 0, u, fun Q z => bTa_parses_7 (f1 := 0) (w1 := u) (f2 := 0) (w2 := u) (fun _ => z) (fun c => absurd (by decide) c) (fun c => absurd (by decide) c) (fun c => absurd (by decide) c) (fun c => absurd (by decide) c) (fun c => absurd (by decide) c) (fun c => absurd (by decide) c) (fun c => absurd (by decide) c), rfl, rfl, hu, fun c => absurd c Bool.false_ne_true, hf, hj⟩
    have nn : ¬ (7 : Int32) ≤ nI k := nI_ge (b := 7) hk (by omega)
    have hTu : tp_T 33 1 34 T t u := ⟨by rw [hj 1 (by decide) (by decide)]; exact h.1, hT, fun i hi => by rw [(hf 34 (by decide)).1]; exact h.2.2 i hi⟩
    obtain ⟨f, fl, u1, m1, rfl, rfl, g1, g2, gF⟩ := spTa_readLodger (d := d) (k := k) hTu hk hp hu
    obtain ⟨a1, a2, a3⟩ := tp_one_ok (t := t) hp
    rw [show 7 - k = (7 - (k + 1)) + 1 by omega]
    have hf1 : sg_fr [33, 35, 36, 37] w u1 := hf.trans gF.1
    have hj1 : ∀ j, j ≠ 2 → j ≠ 3 → u1.1 33 j = w.1 33 j := fun j x y => (gF.2.1 j x).trans (hj j x y)
    by_cases h1 : (tp_one T t p).1 = false
    · rw [tp_all_1 h1]
      rw [h1] at m1
      exact ⟨0, 0, u1, fun Q z => bTa_parses_7 (f2 := 0) (w2 := u) (fun c => absurd c nn) (fun _ => m1) (fun _ c => absurd rfl c) (fun _ c => absurd rfl c) (fun _ c => absurd rfl c) (fun _ c => absurd rfl c) (fun _ c => absurd rfl c) (fun _ _ => z), rfl, rfl, g1, fun c => absurd c Bool.false_ne_true, hf1, hj1⟩
    have hy : (tp_one T t p).1 = true := by simpa using h1
    rw [hy] at m1
    have y1 : ¬ sz_b true = 0 := by decide
    have hTu1 := tp_F.tape hTu gF
    have m2 := spTa_peek (d := d + 2) hTu1 a1 g1
    rw [a2] at m2
    have eself : ((sx_u u1.1 33 2 (nI (tp_one T t p).2.1), u1.2) : sx_W) = u1 := by
      rw [sx_u_self g1]
    rw [eself] at m2
    have hL1 : tp_L 35 36 37 (pre ++ [(tp_one T t p).2.2]) u1 := fun i o hi => by
      rcases Nat.lt_trichotomy i k with c | c | c
      · rw [List.getElem?_append_left (by omega)] at hi
        obtain ⟨x1, x2, x3⟩ := gF.2.2 i (by omega)
        rw [x1, x2, x3]; exact hL i o hi
      · rw [List.getElem?_append_right (by omega), hlen, c, Nat.sub_self] at hi
        cases hi
        rw [c]; exact g2 hy
      · rw [List.getElem?_eq_none (by simp; omega)] at hi
        cases hi
    have L3 : ∀ {v : Int32}, tp_L 35 36 37 (pre ++ [(tp_one T t p).2.2]) (sx_u u1.1 33 3 v, u1.2) := fun {v} => hL1.u (by decide) (by decide) (by decide)
    have f3 : ∀ {v : Int32}, sg_fr [33, 35, 36, 37] w (sx_u u1.1 33 3 v, u1.2) := fun {v} => hf1.trans (fun a ha => ⟨sx_u_o (fun e => ha (by rw [e]; decide)), rfl⟩)
    have j3 : ∀ {v : Int32}, ∀ j, j ≠ 2 → j ≠ 3 → sx_u u1.1 33 3 v 33 j = w.1 33 j := fun {v} j x y => by
      rw [sx_u_s, if_neg y]; exact hj1 j x y
    have g3 : ∀ {v : Int32}, sx_u u1.1 33 3 v 33 2 = nI (tp_one T t p).2.1 := fun {v} => by
      rw [sx_u_s, if_neg (by decide)]; exact g1
    by_cases h2 : T ≤ (tp_one T t p).2.1
    · rw [tp_all_2 h1 h2]
      have y2 : tp_s T t (tp_one T t p).2.1 = (-1 : Int32) := (tp_s6 hb).mpr h2
      refine ⟨1, 0, _, fun Q z => bTa_parses_7 (fun c => absurd c nn) (fun _ => m1) (fun _ _ => m2) (fun _ _ c => absurd y2 c) (fun _ _ c => absurd y2 c) (fun _ _ c => absurd y2 c) (fun _ _ _ => z) (fun _ c => absurd c y1), rfl, rfl, g3 (v := nI k + 1), fun _ => ⟨?_, L3⟩, f3 (v := nI k + 1), j3 (v := nI k + 1)⟩
      show sx_u u1.1 33 3 (nI k + 1) 33 3 = _
      rw [sx_u_s, if_pos rfl, nI_1]
      simp [hlen]
    have n2 : ¬ tp_s T t (tp_one T t p).2.1 = (-1 : Int32) := fun e => h2 ((tp_s6 hb).mp e)
    have hc : tp_c T t (tp_one T t p).2.1 = t (tp_one T t p).2.1 := if_pos (by omega)
    by_cases h44 : t (tp_one T t p).2.1 = 44
    · have y4 : tp_s T t (tp_one T t p).2.1 = (44 : Int32) := (tp_s5 hb (by decide) (by decide)).mpr (by rw [hc]; exact h44)
      by_cases hm : 7 - (k + 1) = 0
      · rw [tp_all_4 h1 h2 (fun c => c.2 hm)]
        have e7 : nI k + 1 = (7 : Int32) := by rw [show k = 6 by omega]; rfl
        exact ⟨0, 0, _, fun Q z => bTa_parses_7 (fun c => absurd c nn) (fun _ => m1) (fun _ _ => m2) (fun _ _ _ c => absurd y4 c) (fun _ _ _ _ c => absurd e7 c) (fun _ _ _ _ _ => z) (fun _ _ c => absurd c n2) (fun _ c => absurd c y1), rfl, rfl, g3 (v := nI k + 1), fun c => absurd c Bool.false_ne_true, f3 (v := nI k + 1), j3 (v := nI k + 1)⟩
      · rw [tp_all_3 h1 h2 ⟨h44, hm⟩]
        have e7 : ¬ nI k + 1 = (7 : Int32) := by rw [nI_1, show (7 : Int32) = nI 7 from rfl, nI_eq (by omega) (by omega)]; omega
        obtain ⟨f, fl, w', hev, hpost⟩ := ih (sx_u (sx_u u1.1 33 3 (nI (k + 1))) 33 2 (nI ((tp_one T t p).2.1 + 1)), u1.2) ((tp_one T t p).2.1 + 1) (pre ++ [(tp_one T t p).2.2]) (by simp [hlen]) (by omega) (by
          show sx_u (sx_u u1.1 33 3 (nI (k + 1))) 33 2 (nI ((tp_one T t p).2.1 + 1)) 33 2 = _
          rw [sx_u_s, if_pos rfl]) (L3.u (by decide) (by decide) (by decide)) (f3.trans (fun a ha => ⟨sx_u_o (fun e => ha (by rw [e]; decide)), rfl⟩)) (fun j x y => by
          show sx_u (sx_u u1.1 33 3 (nI (k + 1))) 33 2 (nI ((tp_one T t p).2.1 + 1)) 33 j = _
          rw [sx_u_s, if_neg x]; exact j3 j x y)
        rw [List.append_assoc, List.singleton_append] at hpost
        refine ⟨f, fl, w', fun Q z => bTa_parses_7 (fun c => absurd c nn) (fun _ => m1) (fun _ _ => m2) (fun _ _ _ c => absurd y4 c) (fun _ _ _ _ _ => ?_) (fun _ _ _ _ c => absurd c e7) (fun _ _ c => absurd c n2) (fun _ c => absurd c y1), hpost⟩
        rw [nI_1, g1, nI_1]; exact hev Q z
    · have n4 : ¬ tp_s T t (tp_one T t p).2.1 = (44 : Int32) := fun e => h44 (by rw [← hc]; exact (tp_s5 hb (by decide) (by decide)).mp e)
      rw [tp_all_4 h1 h2 (fun c => h44 c.1)]
      exact ⟨0, 0, _, fun Q z => bTa_parses_7 (fun c => absurd c nn) (fun _ => m1) (fun _ _ => m2) (fun _ _ _ _ => z) (fun _ _ _ c => absurd c n4) (fun _ _ _ c => absurd c n4) (fun _ _ c => absurd c n2) (fun _ c => absurd c y1), rfl, rfl, g3 (v := nI k + 1), fun c => absurd c Bool.false_ne_true, f3 (v := nI k + 1), j3 (v := nI k + 1)⟩
  obtain ⟨f, fl, w', hev, hpost⟩ := loop 0 (by omega) (sx_u w.1 33 2 0, w.2) 0 [] rfl (Nat.zero_le _) (by
    show sx_u w.1 33 2 0 33 2 = _
    rw [sx_u_s, if_pos rfl]; rfl) (fun i o hi => by simp at hi) (fun a ha => ⟨sx_u_o (fun e => ha (by rw [e]; decide)), rfl⟩) (fun j x y => by
    show sx_u w.1 33 2 0 33 j = _
    rw [sx_u_s, if_neg x])
  exact ⟨f, fl, w', fun Q z => sx_met_of rfl rfl rfl rfl (bTa_parses_0 (hev Q z)), hpost⟩
end
