/-! ===== the model's lodging ===== -/
def tp_L9 (os : List (Nat × Nat × Nat)) (w : sx_W) : Prop := ∀ i o, os[i]? = some o → w.1 59 (3 * i) = nI o.1 ∧ w.1 59 (3 * i + 1) = nI o.2.1 ∧ w.1 59 (3 * i + 2) = nI o.2.2
/-- the fields of the model that reading a lodging changes -/
def tp_Fm (js : List Nat) (cs : List Nat) (w w' : sx_W) : Prop := sg_fr (48 :: cs) w w' ∧ ∀ j, j ∉ js → w'.1 48 j = w.1 48 j
theorem tp_Fm.trans {js cs : List Nat} {w w1 w2 : sx_W} (h1 : tp_Fm js cs w w1) (h2 : tp_Fm js cs w1 w2) : tp_Fm js cs w w2 := ⟨h1.1.trans h2.1, fun j hj => (h2.2 j hj).trans (h1.2 j hj)⟩
theorem tp_Fm.mono {js cs js' cs' : List Nat} {w w1 : sx_W} (h : tp_Fm js cs w w1) (h1 : ∀ a ∈ js, a ∈ js') (h2 : ∀ a ∈ cs, a ∈ cs') : tp_Fm js' cs' w w1 := ⟨h.1.mono (fun a ha => by
  rw [List.mem_cons] at ha ⊢
  rcases ha with e | e
  · exact Or.inl e
  · exact Or.inr (h2 a e)), fun j hj => h.2 j (fun c => hj (h1 j c))⟩
theorem tp_Fm.u {js cs : List Nat} {w : sx_W} {i : Nat} {v : Int32} (hi : i ∈ js) : tp_Fm js cs w (sx_u w.1 48 i v, w.2) := ⟨fun a ha => ⟨sx_u_o (fun e => ha (by rw [e]; exact List.mem_cons_self ..)), rfl⟩, fun j hj => by
  show sx_u w.1 48 i v 48 j = _
  rw [sx_u_s, if_neg (fun e => hj (by rw [e]; exact hi))]⟩
theorem tp_Fm.c {js cs : List Nat} {w : sx_W} {c i : Nat} {v : Int32} (hc : c ∈ cs) (h48 : 48 ≠ c) : tp_Fm js cs w (sx_u w.1 c i v, w.2) := ⟨fun a ha => ⟨sx_u_o (fun e => ha (by rw [e]; exact List.mem_cons_of_mem _ hc)), rfl⟩, fun j hj => by
  show sx_u w.1 c i v 48 j = _
  rw [sx_u_o h48]⟩
def tp_Lg (os : List (Nat × Nat × Nat)) : sg_L := (os.length, fun i => (os.getD i (0, 1, 0)).1, fun i => (os.getD i (0, 1, 0)).2.1, fun i => (os.getD i (0, 1, 0)).2.2)
theorem tp_Lg_ok {os : List (Nat × Nat × Nat)} (h7 : os.length ≤ 7) (h : ∀ o, o ∈ os → o.1 < 4 ∧ 1 ≤ o.2.1 ∧ o.2.1 ≤ 4 ∧ o.2.2 < 256) : sg_ok (tp_Lg os) := by
  refine ⟨h7, fun i hi => ?_⟩
  have hi' : i < os.length := hi
  have e : os.getD i (0, 1, 0) = os[i] := by rw [List.getD_eq_getElem?_getD, List.getElem?_eq_getElem hi']; rfl
  show (os.getD i (0, 1, 0)).1 < 4 ∧ 1 ≤ (os.getD i (0, 1, 0)).2.1 ∧ (os.getD i (0, 1, 0)).2.1 ≤ 4 ∧ (os.getD i (0, 1, 0)).2.2 < 256
  rw [e]
  exact h _ (List.getElem_mem hi')
section
variable {d : Nat} {w : sx_W} {T : Nat} {t : Nat → Nat}
/-- all lodgers read come -/
theorem tp_comeall {os : List (Nat × Nat × Nat)} (h7 : os.length ≤ 7) : ∀ i, i ≤ os.length → ∀ u, tp_Fm [0, 5, 14, 15, 16] [49, 50, 51, 59] w u → tp_L9 os u → u.1 48 0 = nI i → u.1 48 14 = 0 → (∀ j o, j < i → os[j]? = some o → u.1 49 j = nI o.1 ∧ u.1 50 j = nI o.2.1 ∧ u.1 51 j = nI o.2.2) → (0 < i → u.1 48 5 = 0) → sx_xe (d + 1) rMo_lodging 100 [.ref 48, .int (nI os.length), .null, .int (nI i)] u (fun f fl w' => f = nI os.length ∧ fl = 0 ∧ w'.1 48 0 = nI os.length ∧ w'.1 48 14 = 0 ∧ (∀ j o, os[j]? = some o → w'.1 49 j = nI o.1 ∧ w'.1 50 j = nI o.2.1 ∧ w'.1 51 j = nI o.2.2) ∧ (0 < os.length → w'.1 48 5 = 0) ∧ tp_Fm [0, 5, 14, 15, 16] [49, 50, 51, 59] w w') := by
  refine sx_for os.length (fun u hF hL h0 h14 hj h5 => ?_) (fun i hi ih u hF hL h0 h14 hj h5 => ?_)
  · have nc : ¬ ¬ nI os.length ≤ nI os.length := fun c => c (nI_le (Nat.le_refl _) (by omega))
    exact ⟨_, 0, u, fun Q z => bMo_lodging_100 (w1 := u) (fun _ => z) (fun c => absurd c nc) (fun c => absurd c nc) (fun c => absurd c nc) (fun c => absurd c nc) (fun c => absurd c nc), rfl, rfl, h0, h14, fun j o ho => hj j o (by
      rcases Nat.lt_or_ge j os.length with c | c
      · exact c
      · rw [List.getElem?_eq_none c] at ho; cases ho) ho, h5, hF⟩
  · have nn : ¬ nI os.length ≤ nI i := nI_ge hi (by omega)
    have hi7 : i < 7 := by omega
    have hc : (nI i).toNatClampNeg = i := nI_clamp (by omega)
    obtain ⟨-, a2, a3⟩ := tp_3 hi7 (show 0 < 3 by decide)
    have a1 : (3 : Int32) * nI i = nI (3 * i) := by rw [show (3 : Int32) = nI 3 from rfl, pk_mul]
    have a2 : (nI (3 * i)).toNatClampNeg = 3 * i := a2
    obtain ⟨b1, b2, b3⟩ := tp_3 hi7 (show 1 < 3 by decide)
    have b1 : (3 : Int32) * nI i + 1 = nI (3 * i + 1) := b1
    obtain ⟨c1, c2, c3⟩ := tp_3 hi7 (show 2 < 3 by decide)
    have c1 : (3 : Int32) * nI i + 2 = nI (3 * i + 2) := c1
    obtain ⟨l1, l2, l3⟩ := hL i os[i] (List.getElem?_eq_getElem hi)
    have m1 : sx_de d rMo_comes [.ref 48, .int (u.1 59 ((3 : Int32) * nI i).toNatClampNeg), .int (u.1 59 ((3 : Int32) * nI i + 1).toNatClampNeg), .int (u.1 59 ((3 : Int32) * nI i + 2).toNatClampNeg)] u 0 0 (sx_u (sx_u (sx_u (sx_u (sx_u u.1 49 i (nI os[i].1)) 50 i (nI os[i].2.1)) 51 i (nI os[i].2.2)) 48 0 (nI (i + 1))) 48 5 0, u.2) := by
      intro Q z
      rw [b1, b2, c1, c2, a1, a2, l1, l2, l3]
      refine sx_met_of rfl rfl rfl rfl (bMo_comes_0 (by rw [h0]; exact vp_in_nI hi7 (by decide)) ?_)
      rw [h0, hc, nI_1]; exact z
    have r49 : ∀ j, sx_u (sx_u (sx_u (sx_u (sx_u u.1 49 i (nI os[i].1)) 50 i (nI os[i].2.1)) 51 i (nI os[i].2.2)) 48 0 (nI (i + 1))) 48 5 0 49 j = if j = i then nI os[i].1 else u.1 49 j := fun j => by
      rw [sx_u_o (by decide), sx_u_o (by decide), sx_u_o (by decide), sx_u_o (by decide), sx_u_s]
    have r50 : ∀ j, sx_u (sx_u (sx_u (sx_u (sx_u u.1 49 i (nI os[i].1)) 50 i (nI os[i].2.1)) 51 i (nI os[i].2.2)) 48 0 (nI (i + 1))) 48 5 0 50 j = if j = i then nI os[i].2.1 else u.1 50 j := fun j => by
      rw [sx_u_o (by decide), sx_u_o (by decide), sx_u_o (by decide), sx_u_s]
      by_cases e : j = i
      · rw [if_pos e, if_pos e]
      · rw [if_neg e, if_neg e, sx_u_o (by decide)]
    have r51 : ∀ j, sx_u (sx_u (sx_u (sx_u (sx_u u.1 49 i (nI os[i].1)) 50 i (nI os[i].2.1)) 51 i (nI os[i].2.2)) 48 0 (nI (i + 1))) 48 5 0 51 j = if j = i then nI os[i].2.2 else u.1 51 j := fun j => by
      rw [sx_u_o (by decide), sx_u_o (by decide), sx_u_s]
      by_cases e : j = i
      · rw [if_pos e, if_pos e]
      · rw [if_neg e, if_neg e, sx_u_o (by decide), sx_u_o (by decide)]
    have r59 : sx_u (sx_u (sx_u (sx_u (sx_u u.1 49 i (nI os[i].1)) 50 i (nI os[i].2.1)) 51 i (nI os[i].2.2)) 48 0 (nI (i + 1))) 48 5 0 59 = u.1 59 := by
      rw [sx_u_o (by decide), sx_u_o (by decide), sx_u_o (by decide), sx_u_o (by decide), sx_u_o (by decide)]
    obtain ⟨f, fl, w', hev, hpost⟩ := ih (sx_u (sx_u (sx_u (sx_u (sx_u u.1 49 i (nI os[i].1)) 50 i (nI os[i].2.1)) 51 i (nI os[i].2.2)) 48 0 (nI (i + 1))) 48 5 0, u.2)
      (hF.trans (tp_Fm.trans (tp_Fm.c (c := 49) (i := i) (v := nI os[i].1) (by decide) (by decide)) (tp_Fm.trans (tp_Fm.c (w := (sx_u u.1 49 i (nI os[i].1), u.2)) (c := 50) (i := i) (v := nI os[i].2.1) (by decide) (by decide)) (tp_Fm.trans (tp_Fm.c (w := (sx_u (sx_u u.1 49 i (nI os[i].1)) 50 i (nI os[i].2.1), u.2)) (c := 51) (i := i) (v := nI os[i].2.2) (by decide) (by decide)) (tp_Fm.trans (tp_Fm.u (w := (sx_u (sx_u (sx_u u.1 49 i (nI os[i].1)) 50 i (nI os[i].2.1)) 51 i (nI os[i].2.2), u.2)) (i := 0) (v := nI (i + 1)) (by decide)) (tp_Fm.u (w := (sx_u (sx_u (sx_u (sx_u u.1 49 i (nI os[i].1)) 50 i (nI os[i].2.1)) 51 i (nI os[i].2.2)) 48 0 (nI (i + 1)), u.2)) (i := 5) (v := 0) (by decide)))))))
      (fun j o ho => by
        show sx_u (sx_u (sx_u (sx_u (sx_u u.1 49 i (nI os[i].1)) 50 i (nI os[i].2.1)) 51 i (nI os[i].2.2)) 48 0 (nI (i + 1))) 48 5 0 59 _ = _ ∧ sx_u (sx_u (sx_u (sx_u (sx_u u.1 49 i (nI os[i].1)) 50 i (nI os[i].2.1)) 51 i (nI os[i].2.2)) 48 0 (nI (i + 1))) 48 5 0 59 _ = _ ∧ sx_u (sx_u (sx_u (sx_u (sx_u u.1 49 i (nI os[i].1)) 50 i (nI os[i].2.1)) 51 i (nI os[i].2.2)) 48 0 (nI (i + 1))) 48 5 0 59 _ = _
        rw [r59]; exact hL j o ho)
      (by
        show sx_u (sx_u (sx_u (sx_u (sx_u u.1 49 i (nI os[i].1)) 50 i (nI os[i].2.1)) 51 i (nI os[i].2.2)) 48 0 (nI (i + 1))) 48 5 0 48 0 = _
        rw [sx_u_s, if_neg (by decide), sx_u_s, if_pos rfl])
      (by
        show sx_u (sx_u (sx_u (sx_u (sx_u u.1 49 i (nI os[i].1)) 50 i (nI os[i].2.1)) 51 i (nI os[i].2.2)) 48 0 (nI (i + 1))) 48 5 0 48 14 = _
        rw [sx_u_s, if_neg (by decide), sx_u_s, if_neg (by decide), sx_u_o (by decide), sx_u_o (by decide), sx_u_o (by decide)]; exact h14)
      (fun j o hjl ho => by
        show sx_u (sx_u (sx_u (sx_u (sx_u u.1 49 i (nI os[i].1)) 50 i (nI os[i].2.1)) 51 i (nI os[i].2.2)) 48 0 (nI (i + 1))) 48 5 0 49 j = _ ∧ sx_u (sx_u (sx_u (sx_u (sx_u u.1 49 i (nI os[i].1)) 50 i (nI os[i].2.1)) 51 i (nI os[i].2.2)) 48 0 (nI (i + 1))) 48 5 0 50 j = _ ∧ sx_u (sx_u (sx_u (sx_u (sx_u u.1 49 i (nI os[i].1)) 50 i (nI os[i].2.1)) 51 i (nI os[i].2.2)) 48 0 (nI (i + 1))) 48 5 0 51 j = _
        rw [r49, r50, r51]
        by_cases e : j = i
        · subst e
          rw [List.getElem?_eq_getElem hi] at ho
          cases ho
          rw [if_pos rfl, if_pos rfl, if_pos rfl]; exact ⟨rfl, rfl, rfl⟩
        · rw [if_neg e, if_neg e, if_neg e]; exact hj j o (by omega) ho)
      (fun _ => by
        show sx_u (sx_u (sx_u (sx_u (sx_u u.1 49 i (nI os[i].1)) 50 i (nI os[i].2.1)) 51 i (nI os[i].2.2)) 48 0 (nI (i + 1))) 48 5 0 48 5 = 0
        rw [sx_u_s, if_pos rfl])
    refine ⟨f, fl, w', fun Q z => bMo_lodging_100 (fun c => absurd c nn) (fun _ => by rw [a1]; exact a3) (fun _ => by rw [b1]; exact b3) (fun _ => by rw [c1]; exact c3) (fun _ => m1) (fun _ => ?_), hpost⟩
    rw [nI_1]; exact hev Q z
end
