/-! ===== lodging of the class ===== -/
theorem sg_up_id (F : Nat → Nat) (i : Nat) : sg_up F i (F i) = F := by
  funext j
  by_cases e : j = i
  · rw [e, sg_up_s]
  · rw [sg_up_o e]
theorem sg_add_id (F : (Nat → Nat) × (Nat → Nat) × (Nat → Nat)) (i : Nat) : sg_add (i, F) (F.1 i) (F.2.1 i) (F.2.2 i) = (i + 1, F) := by
  unfold sg_add
  rw [sg_up_id, sg_up_id, sg_up_id]
def sl_lodging (T : Nat) (t : Nat → Nat) : Int32 := if (tp_all T t 7 0).1 then nI (tp_all T t 7 0).2.2.length else (-20 : Int32) - nI (tp_all T t 7 0).2.1
section
variable {d : Nat} {w : sx_W} {L : sg_L} {b : Nat} {r : Nat → Nat}
theorem spHo_empty {F : (Nat → Nat) × (Nat → Nat) × (Nat → Nat)} : sx_x (d + 1) rHo_empty [.ref 1] w (fun f fl w' => f = 0 ∧ fl = 0 ∧ sg_C (0, F) w' ∧ sg_age 0 [4, 7, 8, 9] [] w w') := by
  refine ⟨0, 0, (sg_lc w.1 0, w.2), fun Q z => sx_met_of rfl rfl rfl rfl (bHo_empty_0 spHo_lc z), rfl, rfl, ⟨⟨by show 0 ≤ 7; omega, fun i hi => absurd hi (Nat.not_lt_zero i)⟩, ?_, fun i hi => absurd hi (Nat.not_lt_zero i)⟩, ?_, ?_, ?_, fun j hj => ?_, fun a ha => ⟨?_, rfl⟩⟩
  · show sg_lc w.1 0 1 4 = _
    rw [sg_lc_1, if_neg (by decide), if_neg (by decide), if_neg (by decide), if_pos rfl]; rfl
  · show sg_lc w.1 0 1 7 = 0
    rw [sg_lc_1, if_neg (by decide), if_neg (by decide), if_pos rfl]
  · show sg_lc w.1 0 1 8 = _
    rw [sg_lc_1, if_neg (by decide), if_pos rfl]
  · show sg_lc w.1 0 1 9 = _
    rw [sg_lc_1, if_pos rfl]
  · simp only [List.mem_cons, List.not_mem_nil, or_false, not_or] at hj
    show sg_lc w.1 0 1 j = _
    rw [sg_lc_1, if_neg hj.2.2.2, if_neg hj.2.2.1, if_neg hj.2.1, if_neg hj.1]
  · simp only [List.mem_cons, List.not_mem_nil, or_false] at ha
    show sg_lc w.1 0 a = _
    rw [sg_lc_o ha]
/-- what reading a lodging leaves, in the class -/
def sg_lodg (L' : sg_L) (b : Nat) (r : Nat → Nat) (w w' : sx_W) : Prop := sg_Co L' b r w' ∧ w'.1 1 7 = 0 ∧ (∃ m, 1 ≤ m ∧ m ≤ 8 ∧ w'.1 1 8 = w.1 1 8 + nI m) ∧ w'.1 1 9 = w'.1 1 8 ∧ (∀ j, j ∉ [4, 7, 8, 9] → w'.1 1 j = w.1 1 j) ∧ sg_fr [1, 2, 3, 4, 12, 13, 14, 15, 33, 35, 36, 37] w w'
theorem spSb_lodging {T : Nat} {t : Nat → Nat} (h : sg_Co L b r w) (hT : tp_T 33 1 34 T t w) : sx_x (d + 4) rSb_lodging [.ref 0] w (fun f fl w' => f = sl_lodging T t ∧ fl = 0 ∧ w'.1 33 1 = 0 ∧ ((tp_all T t 7 0).1 = false → sg_fr [33, 35, 36, 37] w w') ∧ ((tp_all T t 7 0).1 = true → sg_lodg (tp_Lg (tp_all T t 7 0).2.2) b r w w')) := by
  obtain ⟨f, fl, w1, m1, rfl, rfl, p1, p2, p3, p4⟩ := spTa_parses (d := d) hT
  obtain ⟨o1, o2, o3⟩ := tp_all_ok (T := T) (t := t) 7 0 (Nat.zero_le _)
  unfold sl_lodging
  have fr0 : sg_fr [33, 35, 36, 37] w (sx_u w1.1 33 1 0, w1.2) := p3.trans (fun a ha => ⟨sx_u_o (fun e => ha (by rw [e]; decide)), rfl⟩)
  have e33 : (sx_u w1.1 33 1 0, w1.2).1 33 1 = 0 := by
    show sx_u w1.1 33 1 0 33 1 = 0
    rw [sx_u_s, if_pos rfl]
  cases hok : (tp_all T t 7 0).1 with
  | false =>
    rw [hok] at m1
    refine ⟨_, 0, (sx_u w1.1 33 1 0, w1.2), fun Q z => sx_met_of rfl rfl rfl rfl (bSb_lodging_0 (w2 := w) m1 (fun c => absurd rfl c) (fun c => absurd rfl c) (fun _ => ?_)), rfl, rfl, e33, fun _ => fr0, fun c => absurd c Bool.false_ne_true⟩
    rw [p1]; exact z
  | true =>
    rw [hok] at m1
    obtain ⟨p5, p6⟩ := p2 hok
    have y1 : ¬ sz_b true = 0 := by decide
    rw [if_pos rfl]
    generalize hos : (tp_all T t 7 0).2.2 = os at *
    obtain ⟨f, fl, w2, m2, rfl, rfl, q1, q2⟩ := spHo_empty (d := d + 2) (w := (sx_u w1.1 33 1 0, w1.2)) (F := (tp_Lg os).2)
    have f02 : sg_fr [1, 2, 3, 4, 33, 35, 36, 37] w w2 := (fr0.mono (by decide)).trans (q2.2.2.2.2.mono (by decide))
    have e10 : (sx_u w1.1 33 1 0, w1.2).1 1 = w.1 1 := (fr0 1 (by decide)).1
    have e331 : w2.1 33 = sx_u w1.1 33 1 0 33 := (q2.2.2.2.2 33 (by decide)).1
    have loop : ∀ i, i ≤ os.length → ∀ u, sg_C (i, (tp_Lg os).2) u → u.1 1 7 = 0 → u.1 1 8 = w.1 1 8 + nI (i + 1) → u.1 1 9 = u.1 1 8 → (∀ j, j ∉ [4, 7, 8, 9] → u.1 1 j = w.1 1 j) → sg_fr [1, 2, 3, 4, 33, 35, 36, 37] w u → u.1 33 1 = 0 → u.1 33 3 = nI os.length → tp_L 35 36 37 os u → sx_xe (d + 4) rSb_lodging 42 [.ref 0, .null, .null, .int (nI i)] u (fun f fl w' => f = nI os.length ∧ fl = 0 ∧ w'.1 33 1 = 0 ∧ sg_lodg (tp_Lg os) b r w w') := by
      refine sx_for os.length (fun u hC h17 h18 h19 hj hF h331 h333 hL => ?_) (fun i hi ih u hC h17 h18 h19 hj hF h331 h333 hL => ?_)
      · have c : u.1 33 3 ≤ nI os.length := by rw [h333]; exact nI_le (Nat.le_refl _) (by omega)
        obtain ⟨f, fl, w3, m4, rfl, rfl, s1, s2⟩ := spSt_refreshed (d := d) (L := tp_Lg os) hC
        have hC3 : sg_C (tp_Lg os) w3 := sg_V.fr (L := tp_Lg os) hC s2 (by decide) (by decide) (by decide) (by decide)
        have e1 : w3.1 1 = u.1 1 := (s2 1 (by decide)).1
        have fr : sg_fr [1, 2, 3, 4, 12, 13, 14, 15, 33, 35, 36, 37] w w3 := (hF.mono (by decide)).trans (s2.mono (by decide))
        refine ⟨nI os.length, 0, w3, fun Q z => bSb_lodging_42 (w2 := w) (fun _ => m4) (fun _ => ?_) (fun x => absurd c x) (fun x => absurd c x) (fun x => absurd c x), rfl, rfl, ?_, ⟨hC3, s1, ?_, h.2.2.2.1, fun i hi => ?_⟩, ?_, ⟨os.length + 1, by omega, by omega, ?_⟩, ?_, fun j hj' => ?_, fr⟩
        · have e4 : w3.1 1 4 = nI os.length := hC3.2.1
          rw [e4]; exact z
        · rw [(s2 33 (by decide)).1]; exact h331
        · rw [e1, hj 5 (by decide)]; exact h.2.2.1
        · rw [(fr 5 (by decide)).1]; exact h.2.2.2.2 i hi
        · rw [e1]; exact h17
        · rw [e1]; exact h18
        · rw [e1]; exact h19
        · rw [e1]; exact hj j hj'
      · have c : ¬ u.1 33 3 ≤ nI i := by rw [h333]; exact nI_ge hi (by omega)
        have hci : (nI i).toNatClampNeg = i := nI_clamp (by omega)
        obtain ⟨o, ho⟩ : ∃ o, os[i]? = some o := ⟨os[i], List.getElem?_eq_getElem hi⟩
        obtain ⟨l1, l2, l3⟩ := hL i o ho
        have hg : os.getD i (0, 1, 0) = o := by rw [List.getD_eq_getElem?_getD, ho]; rfl
        have g1 : (tp_Lg os).2.1 i = o.1 := by show (os.getD i (0, 1, 0)).1 = _; rw [hg]
        have g2 : (tp_Lg os).2.2.1 i = o.2.1 := by show (os.getD i (0, 1, 0)).2.1 = _; rw [hg]
        have g3 : (tp_Lg os).2.2.2 i = o.2.2 := by show (os.getD i (0, 1, 0)).2.2 = _; rw [hg]
        obtain ⟨b1, b2, b3, b4⟩ := o3 o (List.mem_of_getElem? ho)
        obtain ⟨f, fl, u2, m3, rfl, rfl, s1, s2⟩ := spHo_admit (d := d + 2) (L := (i, (tp_Lg os).2)) hC (by show i < 7; omega) b1 b2 b3 b4
        rw [← g1, ← g2, ← g3, sg_add_id] at s1
        have e33' : u2.1 33 = u.1 33 := (s2.2.2.2.2 33 (by decide)).1
        have f2 : sg_fr [1, 2, 3, 4, 33, 35, 36, 37] w u2 := hF.trans (s2.2.2.2.2.mono (by decide))
        obtain ⟨f, fl, w', hev, hp⟩ := ih u2 s1 s2.1 (by rw [s2.2.1, h18, Int32.add_assoc, nI_1]) (s2.2.2.1.trans s2.2.1.symm) (fun j hj' => (s2.2.2.2.1 j hj').trans (hj j hj')) f2 (by rw [e33']; exact h331) (by rw [e33']; exact h333) (hL.fr ⟨(s2.2.2.2.2 35 (by decide)).1, (s2.2.2.2.2 36 (by decide)).1, (s2.2.2.2.2 37 (by decide)).1⟩)
        refine ⟨f, fl, w', fun Q z => bSb_lodging_42 (w1 := w) (fun x => absurd x c) (fun x => absurd x c) (fun _ => vp_in_nI (by omega) (by decide)) (fun _ => by rw [hci, l1, l2, l3]; exact m3) (fun _ => ?_), hp⟩
        rw [nI_1]; exact hev Q z
    have e332 : ∀ j, j ≠ 1 → w2.1 33 j = w1.1 33 j := fun j hj => by rw [e331, sx_u_s, if_neg hj]
    obtain ⟨f, fl, w', hev, r1, r2, r3, r4⟩ := loop 0 (Nat.zero_le _) w2 q1 q2.1 (by rw [q2.2.1, e10]; rfl) (q2.2.2.1.trans q2.2.1.symm) (fun j hj => (q2.2.2.2.1 j hj).trans (by rw [e10])) f02 (by rw [e331, sx_u_s, if_pos rfl]) (by rw [e332 3 (by decide)]; exact p5) ((p6.u (o := 33) (i := 1) (v := 0) (by decide) (by decide) (by decide)).fr ⟨(q2.2.2.2.2 35 (by decide)).1, (q2.2.2.2.2 36 (by decide)).1, (q2.2.2.2.2 37 (by decide)).1⟩)
    exact ⟨f, fl, w', fun Q z => sx_met_of rfl rfl rfl rfl (bSb_lodging_0 m1 (fun _ => m2) (fun _ => hev Q z) (fun c => absurd c y1)), r1, r2, r3, fun c => absurd c.symm Bool.false_ne_true, fun _ => r4⟩
end
