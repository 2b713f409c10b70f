/-! ===== the model's lodging, all of it ===== -/
def tp_X (w : sx_W) (ok : Bool) (q : Nat) (os : List (Nat × Nat × Nat)) (f : Int32) (fl : Int64) (w' : sx_W) : Prop := fl = 0 ∧ (ok = false → f = (-20 : Int32) - nI q ∧ w'.1 48 14 = 0 ∧ tp_Fm [14, 15, 16] [59] w w') ∧ (ok = true → f = nI os.length ∧ w'.1 48 0 = nI os.length ∧ w'.1 48 14 = 0 ∧ (∀ j o, os[j]? = some o → w'.1 49 j = nI o.1 ∧ w'.1 50 j = nI o.2.1 ∧ w'.1 51 j = nI o.2.2) ∧ (0 < os.length → w'.1 48 5 = 0) ∧ tp_Fm [0, 5, 14, 15, 16] [49, 50, 51, 59] w w')
section
variable {d : Nat} {w : sx_W} {T : Nat} {t : Nat → Nat}
theorem tp_endL {os : List (Nat × Nat × Nat)} {u : sx_W} {q : Nat} {bad : Bool} (h : tp_T 48 14 58 T t w) (h7 : os.length ≤ 7) (h16 : u.1 48 16 = sz_b bad) (h15 : u.1 48 15 = nI q) (hq : q ≤ T) (hnb : tp_nb T t q = q) (hL : tp_L9 os u) (hF : tp_Fm [15, 16] [59] w u) : sx_xe (d + 1) rMo_lodging 14 [.ref 48, .int (nI os.length), .int 0, .null] u (tp_X w (!bad && decide (T ≤ q)) q os) := by
  have n1 : ¬ (1 : Int32) = 0 := by decide
  cases bad with
  | true =>
    have h16 : ¬ u.1 48 16 = 0 := by rw [h16]; decide
    refine ⟨(-20 : Int32) - u.1 48 15, 0, (sx_u (sx_u u.1 48 16 1) 48 14 0, u.2), fun Q z => bMo_lodging_14 (f1 := 0) (w1 := u) (w2 := u) (f3 := 0) (w3 := u) (fun _ _ c => absurd c n1) (fun _ _ _ => z) (fun _ c => absurd c h16) (fun _ c => absurd c h16) (fun _ c => absurd c h16) (fun _ c => absurd c h16) (fun _ c => absurd c h16) (fun c => absurd rfl c) (fun c => absurd rfl c) (fun c => absurd rfl c) (fun c => absurd rfl c) (fun c => absurd rfl c), rfl, fun _ => ⟨by rw [h15], ?_, ?_⟩, fun c => absurd c Bool.false_ne_true⟩
    · show sx_u (sx_u u.1 48 16 1) 48 14 0 48 14 = 0
      rw [sx_u_s, if_pos rfl]
    · exact (hF.mono (by decide) (by decide)).trans (tp_Fm.trans (tp_Fm.u (i := 16) (v := 1) (by decide)) (tp_Fm.u (w := (sx_u u.1 48 16 1, u.2)) (i := 14) (v := 0) (by decide)))
  | false =>
    have h16 : u.1 48 16 = 0 := h16
    have hTu : tp_T 48 14 58 T t u := ⟨by rw [hF.2 14 (by decide)]; exact h.1, h.2.1, fun i hi => by rw [(hF.1 58 (by decide)).1]; exact h.2.2 i hi⟩
    have m1 := spMo_here (d := d) hTu hq h15
    rw [hnb] at m1
    have eself : ((sx_u u.1 48 15 (nI q), u.2) : sx_W) = u := by rw [sx_u_self h15]
    rw [eself] at m1
    by_cases hc : T ≤ q
    · rw [decide_eq_true hc]
      have e0 : tp_c T t q = 0 := if_neg (by omega)
      rw [e0] at m1
      obtain ⟨f, fl, w', hev, p1, p2, p3⟩ := tp_comeall (d := d) (w := w) h7 0 (Nat.zero_le _) (sx_u (sx_u (sx_u u.1 48 16 0) 48 14 0) 48 0 0, u.2) ((hF.mono (by decide) (by decide)).trans (tp_Fm.trans (tp_Fm.u (i := 16) (v := 0) (by decide)) (tp_Fm.trans (tp_Fm.u (w := (sx_u u.1 48 16 0, u.2)) (i := 14) (v := 0) (by decide)) (tp_Fm.u (w := (sx_u (sx_u u.1 48 16 0) 48 14 0, u.2)) (i := 0) (v := 0) (by decide))))) (fun i o hi => by
        show sx_u (sx_u (sx_u u.1 48 16 0) 48 14 0) 48 0 0 59 _ = _ ∧ sx_u (sx_u (sx_u u.1 48 16 0) 48 14 0) 48 0 0 59 _ = _ ∧ sx_u (sx_u (sx_u u.1 48 16 0) 48 14 0) 48 0 0 59 _ = _
        rw [sx_u_o (show 59 ≠ 48 by decide), sx_u_o (show 59 ≠ 48 by decide), sx_u_o (show 59 ≠ 48 by decide)]; exact hL i o hi) (by
        show sx_u (sx_u (sx_u u.1 48 16 0) 48 14 0) 48 0 0 48 0 = _
        rw [sx_u_s, if_pos rfl]; rfl) (by
        show sx_u (sx_u (sx_u u.1 48 16 0) 48 14 0) 48 0 0 48 14 = _
        rw [sx_u_s, if_neg (by decide), sx_u_s, if_pos rfl]) (fun j o hj => by omega) (fun c => by omega)
      exact ⟨f, fl, w', fun Q z => bMo_lodging_14 (w2 := u) (f3 := 0) (w3 := u) (fun _ c => absurd h16 c) (fun _ c => absurd h16 c) (fun _ _ => m1) (fun _ _ _ _ => hev Q z) (fun _ _ _ c => absurd rfl c) (fun _ _ c => absurd rfl c) (fun _ _ c => absurd rfl c) (fun c => absurd rfl c) (fun c => absurd rfl c) (fun c => absurd rfl c) (fun c => absurd rfl c) (fun c => absurd rfl c), p2, fun c => absurd c (by decide), fun _ => ⟨p1, p3⟩⟩
    · rw [decide_eq_false hc]
      have e0 : tp_c T t q = t q := if_pos (by omega)
      have hge := (h.2.2 q (by omega)).2
      rw [e0] at m1
      have ne : ¬ nI (t q) = 0 := nI_ne0 (by omega) (by omega)
      refine ⟨(-20 : Int32) - u.1 48 15, 0, (sx_u (sx_u u.1 48 16 1) 48 14 0, u.2), fun Q z => bMo_lodging_14 (w2 := u) (f3 := 0) (w3 := u) (fun _ c => absurd h16 c) (fun _ c => absurd h16 c) (fun _ _ => m1) (fun _ _ c => absurd c ne) (fun _ _ c => absurd c ne) (fun _ _ _ c => absurd c n1) (fun _ _ _ _ => z) (fun c => absurd rfl c) (fun c => absurd rfl c) (fun c => absurd rfl c) (fun c => absurd rfl c) (fun c => absurd rfl c), rfl, fun _ => ⟨by rw [h15], ?_, ?_⟩, fun c => absurd c (by decide)⟩
      · show sx_u (sx_u u.1 48 16 1) 48 14 0 48 14 = 0
        rw [sx_u_s, if_pos rfl]
      · exact (hF.mono (by decide) (by decide)).trans (tp_Fm.trans (tp_Fm.u (i := 16) (v := 1) (by decide)) (tp_Fm.u (w := (sx_u u.1 48 16 1, u.2)) (i := 14) (v := 0) (by decide)))
theorem spMo_lodging (h : tp_T 48 14 58 T t w) : sx_x (d + 3) rMo_lodging [.ref 48] w (tp_X w (tp_all T t 7 0).1 (tp_all T t 7 0).2.1 (tp_all T t 7 0).2.2) := by
  have hT := h.2.1
  have loop : ∀ k, k ≤ 6 → ∀ u p pre, pre.length = k → p ≤ T → u.1 48 15 = nI p → u.1 48 16 = 0 → tp_L9 pre u → tp_Fm [15, 16] [59] w u → sx_xe (d + 3) rMo_lodging 14 [.ref 48, .int (nI k), .int 1, .null] u (tp_X w (tp_all T t (7 - k) p).1 (tp_all T t (7 - k) p).2.1 (pre ++ (tp_all T t (7 - k) p).2.2)) := by
    -- one more lodger
    have one : ∀ k, k < 7 → ∀ u p pre, pre.length = k → p ≤ T → u.1 48 15 = nI p → tp_L9 pre u → tp_Fm [15, 16] [59] w u → ∃ u2 : sx_W, ∃ bad : Bool, sx_de (d + 2) rMo_readOne [.ref 48, .int (nI k)] u 0 0 u2 ∧ u2.1 48 16 = sz_b bad ∧ u2.1 48 15 = nI (tp_one T t p).2.1 ∧ (bad = false → (tp_one T t p).1 = true ∧ tp_L9 (pre ++ [(tp_one T t p).2.2]) u2) ∧ (bad = true → (tp_one T t p).1 = false ∨ ((tp_one T t p).2.1 < T ∧ t (tp_one T t p).2.1 ≠ 44)) ∧ tp_Fm [15, 16] [59] w u2 := by
      intro k hk u p pre hlen hp h15 hL hF
      have hTu : tp_T 48 14 58 T t u := ⟨by rw [hF.2 14 (by decide)]; exact h.1, hT, fun i hi => by rw [(hF.1 58 (by decide)).1]; exact h.2.2 i hi⟩
      obtain ⟨f, fl, u2, m1, rfl, rfl, ⟨bad, b1, b2, b3, b4⟩, hH⟩ := spMo_readOne (d := d) (k := k) hTu hk hp h15
      refine ⟨u2, bad, m1, b1, b2, fun hb => ⟨(b3 hb).1, fun i o hi => ?_⟩, b4, hF.trans ⟨hH.1, fun j hj => hH.2.1 j (fun e => hj (by rw [e]; decide)) (fun e => hj (by rw [e]; decide))⟩⟩
      rcases Nat.lt_trichotomy i k with c | c | c
      · rw [List.getElem?_append_left (by omega)] at hi
        rw [hH.2.2 (3 * i) (by omega) (by omega) (by omega), hH.2.2 (3 * i + 1) (by omega) (by omega) (by omega), hH.2.2 (3 * i + 2) (by omega) (by omega) (by omega)]
        exact hL i o hi
      · rw [List.getElem?_append_right (by omega), hlen, c, Nat.sub_self] at hi
        cases hi
        rw [c]; exact (b3 hb).2
      · rw [List.getElem?_eq_none (by simp; omega)] at hi
        cases hi
    -- where it ends, bad
    have ends : ∀ k, k < 7 → ∀ p pre (u2 : sx_W), pre.length = k → p ≤ T → u2.1 48 16 = sz_b true → u2.1 48 15 = nI (tp_one T t p).2.1 → ((tp_one T t p).1 = false ∨ ((tp_one T t p).2.1 < T ∧ t (tp_one T t p).2.1 ≠ 44)) → tp_Fm [15, 16] [59] w u2 → sx_xe (d + 3) rMo_lodging 14 [.ref 48, .int (nI (k + 1)), .int 0, .null] u2 (tp_X w (tp_all T t (7 - k) p).1 (tp_all T t (7 - k) p).2.1 (pre ++ (tp_all T t (7 - k) p).2.2)) := by
      intro k hk p pre u2 hlen hp b1 b2 b4 hF2
      obtain ⟨a1, a2, a3⟩ := tp_one_ok (t := t) hp
      have ev : (tp_all T t (7 - k) p).1 = false ∧ (tp_all T t (7 - k) p).2.1 = (tp_one T t p).2.1 := by
        rw [show 7 - k = (7 - (k + 1)) + 1 by omega]
        by_cases h1 : (tp_one T t p).1 = false
        · rw [tp_all_1 h1]; exact ⟨rfl, rfl⟩
        · rcases b4 with c | ⟨c1, c2⟩
          · exact absurd c h1
          · rw [tp_all_4 h1 (by omega) (fun c => c2 c.1)]; exact ⟨rfl, rfl⟩
      rw [ev.1, ev.2]
      have n1 : ¬ (1 : Int32) = 0 := by decide
      have h16 : ¬ u2.1 48 16 = 0 := by rw [b1]; decide
      refine ⟨(-20 : Int32) - u2.1 48 15, 0, (sx_u (sx_u u2.1 48 16 1) 48 14 0, u2.2), fun Q z => bMo_lodging_14 (f1 := 0) (w1 := u2) (w2 := u2) (f3 := 0) (w3 := u2) (fun _ _ c => absurd c n1) (fun _ _ _ => z) (fun _ c => absurd c h16) (fun _ c => absurd c h16) (fun _ c => absurd c h16) (fun _ c => absurd c h16) (fun _ c => absurd c h16) (fun c => absurd rfl c) (fun c => absurd rfl c) (fun c => absurd rfl c) (fun c => absurd rfl c) (fun c => absurd rfl c), rfl, fun _ => ⟨by rw [b2], ?_, ?_⟩, fun c => absurd c Bool.false_ne_true⟩
      · show sx_u (sx_u u2.1 48 16 1) 48 14 0 48 14 = 0
        rw [sx_u_s, if_pos rfl]
      · exact (hF2.mono (by decide) (by decide)).trans (tp_Fm.trans (tp_Fm.u (i := 16) (v := 1) (by decide)) (tp_Fm.u (w := (sx_u u2.1 48 16 1, u2.2)) (i := 14) (v := 0) (by decide)))
    have n1 : ¬ (1 : Int32) = 0 := by decide
    refine sx_for 6 (fun u p pre hlen hp h15 h16 hL hF => ?_) (fun k hk ih u p pre hlen hp h15 h16 hL hF => ?_)
    · obtain ⟨u2, bad, m1, b1, b2, b3, b4, hF2⟩ := one 6 (by decide) u p pre hlen hp h15 hL hF
      obtain ⟨a1, a2, a3⟩ := tp_one_ok (t := t) hp
      have c7 : (7 : Int32) ≤ nI 6 + 1 := by decide
      have fin : sx_xe (d + 3) rMo_lodging 14 [.ref 48, .int (nI (6 + 1)), .int 0, .null] u2 (tp_X w (tp_all T t (7 - 6) p).1 (tp_all T t (7 - 6) p).2.1 (pre ++ (tp_all T t (7 - 6) p).2.2)) := by
        cases bad with
        | true => exact ends 6 (by decide) p pre u2 hlen hp b1 b2 (b4 rfl) hF2
        | false =>
          obtain ⟨hy, hL2⟩ := b3 rfl
          have h1 : ¬ (tp_one T t p).1 = false := by rw [hy]; decide
          have := tp_endL (d := d + 2) (bad := false) h (os := pre ++ [(tp_one T t p).2.2]) (by simp [hlen]) b1 b2 a1 a2 hL2 hF2
          rw [show (pre ++ [(tp_one T t p).2.2]).length = 6 + 1 by simp [hlen]] at this
          by_cases h2 : T ≤ (tp_one T t p).2.1
          · rw [show 7 - 6 = 0 + 1 from rfl, tp_all_2 h1 h2]
            rw [decide_eq_true h2] at this
            exact this
          · rw [show 7 - 6 = 0 + 1 from rfl, tp_all_4 h1 h2 (fun c => c.2 rfl)]
            rw [decide_eq_false h2] at this
            obtain ⟨f, fl, w', hev, p1, p2, p3⟩ := this
            exact ⟨f, fl, w', hev, p1, p2, fun c => absurd c Bool.false_ne_true⟩
      obtain ⟨f, fl, w', hev, hpost⟩ := fin
      exact ⟨f, fl, w', fun Q z => bMo_lodging_14 (f1 := 0) (w1 := u) (f3 := 0) (w3 := u) (fun c => absurd c n1) (fun c => absurd c n1) (fun c => absurd c n1) (fun c => absurd c n1) (fun c => absurd c n1) (fun c => absurd c n1) (fun c => absurd c n1) (fun _ => m1) (fun _ _ => hev Q z) (fun _ c => absurd c7 c) (fun _ c => absurd c7 c) (fun _ c => absurd c7 c), hpost⟩
    · obtain ⟨u2, bad, m1, b1, b2, b3, b4, hF2⟩ := one k (by omega) u p pre hlen hp h15 hL hF
      obtain ⟨a1, a2, a3⟩ := tp_one_ok (t := t) hp
      have c7 : ¬ (7 : Int32) ≤ nI k + 1 := by rw [nI_1]; exact nI_ge (b := 7) (by omega) (by omega)
      cases bad with
      | true =>
        have m3 := spMo_has0 (d := d + 1) (v := 44) (w := u2) (by rw [b1]; decide)
        obtain ⟨f, fl, w', hev, hpost⟩ := ends k (by omega) p pre u2 hlen hp b1 b2 (b4 rfl) hF2
        refine ⟨f, fl, w', fun Q z => bMo_lodging_14 (f1 := 0) (w1 := u) (fun c => absurd c n1) (fun c => absurd c n1) (fun c => absurd c n1) (fun c => absurd c n1) (fun c => absurd c n1) (fun c => absurd c n1) (fun c => absurd c n1) (fun _ => m1) (fun _ c => absurd c c7) (fun _ _ => m3) (fun _ _ _ => ?_) (fun _ _ c => absurd rfl c), hpost⟩
        rw [nI_1]; exact hev Q z
      | false =>
        obtain ⟨hy, hL2⟩ := b3 rfl
        have h1 : ¬ (tp_one T t p).1 = false := by rw [hy]; decide
        have hTu2 : tp_T 48 14 58 T t u2 := ⟨by rw [hF2.2 14 (by decide)]; exact h.1, hT, fun i hi => by rw [(hF2.1 58 (by decide)).1]; exact h.2.2 i hi⟩
        have m3 := spMo_has (d := d + 1) (v := 44) hTu2 a1 b2 b1 (by decide)
        rw [a2] at m3
        rw [show 7 - k = (7 - (k + 1)) + 1 by omega]
        by_cases h44 : tp_c T t (tp_one T t p).2.1 = 44
        · rw [if_pos h44, decide_eq_true h44] at m3
          have hq := tp_c_in (T := T) (t := t) (q := (tp_one T t p).2.1) (by omega)
          have e44 : t (tp_one T t p).2.1 = 44 := by rw [← h44]; exact (if_pos hq).symm
          rw [tp_all_3 h1 (by omega) ⟨e44, by omega⟩]
          obtain ⟨f, fl, w', hev, hpost⟩ := ih (sx_u u2.1 48 15 (nI ((tp_one T t p).2.1 + 1)), u2.2) ((tp_one T t p).2.1 + 1) (pre ++ [(tp_one T t p).2.2]) (by simp [hlen]) hq (by
            show sx_u u2.1 48 15 (nI ((tp_one T t p).2.1 + 1)) 48 15 = _
            rw [sx_u_s, if_pos rfl]) (by
            show sx_u u2.1 48 15 (nI ((tp_one T t p).2.1 + 1)) 48 16 = 0
            rw [sx_u_s, if_neg (by decide)]; exact b1) (fun i o hi => by
            show sx_u u2.1 48 15 (nI ((tp_one T t p).2.1 + 1)) 59 _ = _ ∧ sx_u u2.1 48 15 (nI ((tp_one T t p).2.1 + 1)) 59 _ = _ ∧ sx_u u2.1 48 15 (nI ((tp_one T t p).2.1 + 1)) 59 _ = _
            rw [sx_u_o (show 59 ≠ 48 by decide)]; exact hL2 i o hi) (hF2.trans (tp_Fm.u (by decide)))
          rw [List.append_assoc, List.singleton_append] at hpost
          refine ⟨f, fl, w', fun Q z => bMo_lodging_14 (f1 := 0) (w1 := u) (fun c => absurd c n1) (fun c => absurd c n1) (fun c => absurd c n1) (fun c => absurd c n1) (fun c => absurd c n1) (fun c => absurd c n1) (fun c => absurd c n1) (fun _ => m1) (fun _ c => absurd c c7) (fun _ _ => m3) (fun _ _ c => absurd c (by decide)) (fun _ _ _ => ?_), hpost⟩
          rw [nI_1]; exact hev Q z
        · rw [if_neg h44, decide_eq_false h44] at m3
          have eself : ((sx_u u2.1 48 15 (nI ((tp_one T t p).2.1 + 0)), u2.2) : sx_W) = u2 := by rw [Nat.add_zero, sx_u_self b2]
          rw [eself] at m3
          have fin := tp_endL (d := d + 2) (bad := false) h (os := pre ++ [(tp_one T t p).2.2]) (by simp [hlen]; omega) b1 b2 a1 a2 hL2 hF2
          rw [show (pre ++ [(tp_one T t p).2.2]).length = k + 1 by simp [hlen]] at fin
          have fin2 : sx_xe (d + 3) rMo_lodging 14 [.ref 48, .int (nI (k + 1)), .int 0, .null] u2 (tp_X w (tp_all T t (7 - (k + 1) + 1) p).1 (tp_all T t (7 - (k + 1) + 1) p).2.1 (pre ++ (tp_all T t (7 - (k + 1) + 1) p).2.2)) := by
            by_cases h2 : T ≤ (tp_one T t p).2.1
            · rw [tp_all_2 h1 h2]
              rw [decide_eq_true h2] at fin
              exact fin
            · have e44 : ¬ t (tp_one T t p).2.1 = 44 := fun e => h44 (by rw [← e]; exact if_pos (by omega))
              rw [tp_all_4 h1 h2 (fun c => e44 c.1)]
              rw [decide_eq_false h2] at fin
              obtain ⟨f, fl, w', hev, p1, p2, p3⟩ := fin
              exact ⟨f, fl, w', hev, p1, p2, fun c => absurd c Bool.false_ne_true⟩
          obtain ⟨f, fl, w', hev, hpost⟩ := fin2
          refine ⟨f, fl, w', fun Q z => bMo_lodging_14 (f1 := 0) (w1 := u) (fun c => absurd c n1) (fun c => absurd c n1) (fun c => absurd c n1) (fun c => absurd c n1) (fun c => absurd c n1) (fun c => absurd c n1) (fun c => absurd c n1) (fun _ => m1) (fun _ c => absurd c c7) (fun _ _ => m3) (fun _ _ _ => ?_) (fun _ _ c => absurd rfl c), hpost⟩
          rw [nI_1]; exact hev Q z
  obtain ⟨f, fl, w', hev, hpost⟩ := loop 0 (by omega) (sx_u (sx_u w.1 48 15 0) 48 16 0, w.2) 0 [] rfl (Nat.zero_le _) (by
    show sx_u (sx_u w.1 48 15 0) 48 16 0 48 15 = _
    rw [sx_u_s, if_neg (by decide), sx_u_s, if_pos rfl]; rfl) (by
    show sx_u (sx_u w.1 48 15 0) 48 16 0 48 16 = _
    rw [sx_u_s, if_pos rfl]) (fun i o hi => by simp at hi) (tp_Fm.trans (tp_Fm.u (i := 15) (v := 0) (by decide)) (tp_Fm.u (w := (sx_u w.1 48 15 0, w.2)) (i := 16) (v := 0) (by decide)))
  exact ⟨f, fl, w', fun Q z => sx_met_of rfl rfl rfl rfl (bMo_lodging_0 (hev Q z)), hpost⟩
end
