/-! ===== the model reads a lodger from its first sign on ===== -/
def tp_H0 (k : Nat) (w w' : sx_W) : Prop := sg_fr [48, 59] w w' ∧ (∀ j, j ≠ 15 → j ≠ 16 → w'.1 48 j = w.1 48 j) ∧ ∀ i, i ≠ 3 * k → i ≠ 3 * k + 1 → i ≠ 3 * k + 2 → w'.1 59 i = w.1 59 i
section
variable {d : Nat} {w : sx_W} {T : Nat} {t : Nat → Nat}
theorem tp_H0.trans {k : Nat} {w1 w2 : sx_W} (h1 : tp_H0 k w w1) (h2 : tp_H0 k w1 w2) : tp_H0 k w w2 := ⟨h1.1.trans h2.1, fun j x y => (h2.2.1 j x y).trans (h1.2.1 j x y), fun i a b c => (h2.2.2 i a b c).trans (h1.2.2 i a b c)⟩
theorem tp_H.H0 {k : Nat} {w' : sx_W} (h : tp_H k w w') : tp_H0 k w w' := ⟨h.1, h.2.1, fun i _ _ c => h.2.2 i c⟩
theorem tp_H0.tape {k : Nat} {w' : sx_W} (h : tp_T 48 14 58 T t w) (hf : tp_H0 k w w') : tp_T 48 14 58 T t w' := by
  refine ⟨by rw [hf.2.1 14 (by decide) (by decide)]; exact h.1, h.2.1, fun i hi => ?_⟩
  rw [(hf.1 58 (by decide)).1]; exact h.2.2 i hi
theorem tp_H0.put {k j : Nat} {v : Int32} (hj : j < 3) : tp_H0 k w (sx_u w.1 59 (3 * k + j) v, w.2) := by
  refine ⟨fun a ha => ⟨sx_u_o (fun e => ha (by rw [e]; decide)), rfl⟩, fun i x y => ?_, fun i a b c => ?_⟩
  · show sx_u w.1 59 (3 * k + j) v 48 i = _
    rw [sx_u_o (by decide)]
  · show sx_u w.1 59 (3 * k + j) v 59 i = _
    rw [sx_u_s, if_neg (by omega)]
def tp_R (T : Nat) (t : Nat → Nat) (k p : Nat) (w : sx_W) (f : Int32) (fl : Int64) (w' : sx_W) : Prop := f = 0 ∧ fl = 0 ∧ (∃ bad : Bool, w'.1 48 16 = sz_b bad ∧ w'.1 48 15 = nI (tp_one T t p).2.1 ∧ (bad = false → (tp_one T t p).1 = true ∧ w'.1 59 (3 * k) = nI (tp_one T t p).2.2.1 ∧ w'.1 59 (3 * k + 1) = nI (tp_one T t p).2.2.2.1 ∧ w'.1 59 (3 * k + 2) = nI (tp_one T t p).2.2.2.2) ∧ (bad = true → (tp_one T t p).1 = false ∨ ((tp_one T t p).2.1 < T ∧ t (tp_one T t p).2.1 ≠ 44))) ∧ tp_H0 k w w'
theorem tp_fin {k p : Nat} {u w' : sx_W} {f : Int32} {fl : Int64} {v : Bool × Nat × Nat} (hv : v.1 = (tp_one T t p).1 ∧ v.2.1 = (tp_one T t p).2.1 ∧ v.2.2 = (tp_one T t p).2.2.2.2) (h0 : v.1 = true → u.1 59 (3 * k) = nI (tp_one T t p).2.2.1 ∧ u.1 59 (3 * k + 1) = nI (tp_one T t p).2.2.2.1) (hH : tp_H0 k w u) (hP : tp_P T t k v u f fl w') : tp_R T t k p w f fl w' := by
  obtain ⟨h1, h2, ⟨bad, b1, b2, b3, b4⟩, h3⟩ := hP
  refine ⟨h1, h2, ⟨bad, b1, by rw [← hv.2.1]; exact b2, fun hb => ?_, fun hb => by rw [← hv.1, ← hv.2.1]; exact b4 hb⟩, hH.trans h3.H0⟩
  obtain ⟨c1, c2⟩ := b3 hb
  obtain ⟨d1, d2⟩ := h0 c1
  refine ⟨by rw [← hv.1]; exact c1, ?_, ?_, by rw [← hv.2.2]; exact c2⟩
  · rw [h3.2.2 (3 * k) (by omega)]; exact d1
  · rw [h3.2.2 (3 * k + 1) (by omega)]; exact d2
theorem spMo_readOne {k p : Nat} (h : tp_T 48 14 58 T t w) (hk : k < 7) (hp : p ≤ T) (hw : w.1 48 15 = nI p) : sx_x (d + 2) rMo_readOne [.ref 48, .int (nI k)] w (tp_R T t k p w) := by
  have hb := h.b
  have hT := h.2.1
  have n1 : ¬ (1 : Int32) = 0 := by decide
  obtain ⟨e1, e2, e3⟩ := tp_3 hk (show 0 < 3 by decide)
  have e1 : (3 : Int32) * nI k = nI (3 * k) := by rw [show (3 : Int32) = nI 3 from rfl, pk_mul]
  have e2 : (nI (3 * k)).toNatClampNeg = 3 * k := e2
  have e3 : vp_in (nI (3 * k)) 21 := e3
  obtain ⟨k1, k2, k3⟩ := tp_3 hk (show 1 < 3 by decide)
  have k1 : (3 : Int32) * nI k + 1 = nI (3 * k + 1) := k1
  have vo1 : vp_in ((3 : Int32) * nI k) 21 := by rw [e1]; exact e3
  have vo2 : vp_in ((3 : Int32) * nI k + 1) 21 := by rw [k1]; exact k3
  have i0 : ((3 : Int32) * nI k).toNatClampNeg = 3 * k := by rw [e1]; exact e2
  have i1 : ((3 : Int32) * nI k + 1).toNatClampNeg = 3 * k + 1 := by rw [k1]; exact k2
  have m1 := spMo_here (d := d + 1) h hp hw
  have hlt := tp_c_lt (q := tp_nb T t p) hb
  have m2 := spMo_kindOf (d := d + 1) (w := (sx_u w.1 48 15 (nI (tp_nb T t p)), w.2)) hlt
  have G1 : tp_H0 k w (sx_u w.1 48 15 (nI (tp_nb T t p)), w.2) := (tp_G.u15.H (k := k)).H0
  have x15 : (sx_u w.1 48 15 (nI (tp_nb T t p)), w.2).1 48 15 = nI (tp_nb T t p) := by
    show sx_u w.1 48 15 (nI (tp_nb T t p)) 48 15 = _
    rw [sx_u_s, if_pos rfl]
  generalize hX : ((sx_u w.1 48 15 (nI (tp_nb T t p)), w.2) : sx_W) = X at *
  have upds : ∀ v : Int32, upd (X.1 59) ((3 : Int32) * nI k).toNatClampNeg v ((3 : Int32) * nI k).toNatClampNeg = v := fun v => by simp [upd]
  -- the world with the kind put
  have wy : ∀ v a b : Int32, tp_H0 k w (sx_u (sx_u (sx_u X.1 59 ((3 : Int32) * nI k).toNatClampNeg v) 48 16 a) 48 15 b, X.2) ∧ sx_u (sx_u (sx_u X.1 59 ((3 : Int32) * nI k).toNatClampNeg v) 48 16 a) 48 15 b 48 16 = a ∧ sx_u (sx_u (sx_u X.1 59 ((3 : Int32) * nI k).toNatClampNeg v) 48 16 a) 48 15 b 48 15 = b ∧ sx_u (sx_u (sx_u X.1 59 ((3 : Int32) * nI k).toNatClampNeg v) 48 16 a) 48 15 b 59 (3 * k) = v := fun v a b => by
    rw [i0]
    refine ⟨G1.trans ((tp_H0.put (j := 0) (by decide)).trans ((tp_G.trans (tp_G.u16 (v := a)) (tp_G.u15 (w := (sx_u (sx_u X.1 59 (3 * k) v) 48 16 a, X.2)))).H (k := k)).H0), ?_, ?_, ?_⟩
    · rw [sx_u_s, if_neg (by decide), sx_u_s, if_pos rfl]
    · rw [sx_u_s, if_pos rfl]
    · rw [sx_u_o (by decide), sx_u_o (by decide), sx_u_s, if_pos rfl]
  -- a wrong sign: nothing more is read
  have wrong : ∀ (u : sx_W) (f : Int32), u.1 48 16 = 1 → sx_de (d + 1) rMo_has [.ref 48, .int 119] (sx_u u.1 59 ((3 : Int32) * nI k + 1).toNatClampNeg f, u.2) 0 0 (sx_u u.1 59 ((3 : Int32) * nI k + 1).toNatClampNeg f, u.2) := fun u f hu => spMo_has0 (by
    show ¬ sx_u u.1 59 ((3 : Int32) * nI k + 1).toNatClampNeg f 48 16 = 0
    rw [sx_u_o (by decide), hu]; exact n1)
  have stop : ∀ (u : sx_W) (f : Int32) (q : Nat), u.1 48 16 = 1 → u.1 48 15 = nI q → tp_H0 k w u → tp_one T t p = (false, q, 0, 0, 0) → sx_xe (d + 2) rMo_readOne 81 [.ref 48, .int (nI k), .int 0, .int 0, .null] (sx_u u.1 59 ((3 : Int32) * nI k + 1).toNatClampNeg f, u.2) (tp_R T t k p w) := fun u f q h16 h15 hH ho => by
    rw [i1]
    obtain ⟨f', fl, w', hev, hP⟩ := tp_stop (d := d + 1) (w := (sx_u u.1 59 (3 * k + 1) f, u.2)) (u := (sx_u u.1 59 (3 * k + 1) f, u.2)) (x := 0) (T := T) (t := t) (bad := true) (v := (false, q, 0)) hk (tp_G.rfl'.H) (by
      show sx_u u.1 59 (3 * k + 1) f 48 16 = _
      rw [sx_u_o (by decide), h16]; rfl) (by
      show sx_u u.1 59 (3 * k + 1) f 48 15 = _
      rw [sx_u_o (by decide), h15]) (fun c => absurd c (by decide)) (fun _ => Or.inl rfl)
    exact ⟨f', fl, w', hev, tp_fin (by rw [ho]; exact ⟨rfl, rfl, rfl⟩) (fun c => absurd c Bool.false_ne_true) (hH.trans (tp_H0.put (j := 1) (by decide))) hP⟩
  by_cases h1 : tp_k (tp_c T t (tp_nb T t p)) = 9
  · rw [h1] at m2
    have c0 : ¬ 0 ≤ upd (X.1 59) ((3 : Int32) * nI k).toNatClampNeg (tp_kM 9) ((3 : Int32) * nI k).toNatClampNeg := by rw [upds]; decide
    obtain ⟨Hn, y16, y15, -⟩ := wy (tp_kM 9) 1 (X.1 48 15 + 0)
    obtain ⟨f9, fl, w9, m9, rfl, g1, g2, g3⟩ := spMo_digit0 (d := d) (x := 1) (y := 4) (w := (sx_u (sx_u (sx_u X.1 59 ((3 : Int32) * nI k).toNatClampNeg (tp_kM 9)) 48 16 1) 48 15 (X.1 48 15 + 0), X.2)) (fun c => n1 (y16.symm.trans c))
    obtain ⟨f, fl, w', hev, hR⟩ := stop w9 f9 (tp_nb T t p) g2 (by rw [g1]; show sx_u (sx_u (sx_u X.1 59 ((3 : Int32) * nI k).toNatClampNeg (tp_kM 9)) 48 16 1) 48 15 (X.1 48 15 + 0) 48 15 = _; rw [y15, Int32.add_zero]; exact x15) (Hn.trans (g3.H (k := k)).H0) (tp_one_1 h1)
    exact ⟨f, fl, w', fun Q z => sx_met_of rfl rfl rfl rfl (bMo_readOne_0 (f3 := 0) (w3 := w) (f4 := 0) (w4 := w) (f5 := 0) (w5 := w) (f6 := 0) (w6 := w) (f7 := 0) (w7 := w) (f8 := 0) (w8 := w) m1 m2 vo1 (fun c => absurd c c0) (fun c => absurd c c0) (fun c => absurd c c0) (fun c => absurd c c0) (fun c => absurd c c0) (fun c => absurd c c0) (fun c => absurd c c0) (fun c => absurd c c0) (fun _ c => absurd c n1) (fun _ c => absurd c n1) (fun _ c => absurd c n1) (fun _ c => absurd c n1) (fun _ _ => m9) (fun _ _ => vo2) (fun _ _ => wrong w9 f9 g2) (fun _ _ => hev Q z)), hR⟩
  · have hK := tp_k_lt h1
    have eK : tp_kM (tp_k (tp_c T t (tp_nb T t p))) = nI (tp_k (tp_c T t (tp_nb T t p))) := if_pos hK
    rw [eK] at m2
    have c0 : ¬ ¬ 0 ≤ upd (X.1 59) ((3 : Int32) * nI k).toNatClampNeg (nI (tp_k (tp_c T t (tp_nb T t p)))) ((3 : Int32) * nI k).toNatClampNeg := fun c => c (by rw [upds]; exact nI_pos' (by omega))
    have q1 : tp_nb T t p < T := tp_c_in (tp_k_0 h1)
    obtain ⟨Hn, y16, y15, y59⟩ := wy (nI (tp_k (tp_c T t (tp_nb T t p)))) 0 (X.1 48 15 + 1)
    rw [x15, nI_1] at y15
    generalize hY : ((sx_u (sx_u (sx_u X.1 59 ((3 : Int32) * nI k).toNatClampNeg (nI (tp_k (tp_c T t (tp_nb T t p))))) 48 16 0) 48 15 (X.1 48 15 + 1), X.2) : sx_W) = Y at *
    have z15 : Y.1 48 15 = nI (tp_nb T t p + 1) := by rw [← hY]; rw [x15, nI_1]; exact y15
    have z16 : Y.1 48 16 = 0 := by rw [← hY]; exact y16
    have z59 : Y.1 59 (3 * k) = nI (tp_k (tp_c T t (tp_nb T t p))) := by rw [← hY]; exact y59
    have hTY := tp_H0.tape h Hn
    obtain ⟨f3, fl, w3, m3, g0, rfl, g1, g2, g3⟩ := spMo_digit (d := d) (a := 1) (b := 4) hTY q1 z15 z16 (by decide) (by decide)
    have H3 : tp_H0 k w w3 := Hn.trans (g3.H (k := k)).H0
    have m3 := sx_de_w hY m3
    have hlt2 := tp_c_lt (q := tp_nb T t (tp_nb T t p + 1)) hb
    by_cases h2 : 49 ≤ tp_c T t (tp_nb T t (tp_nb T t p + 1)) ∧ tp_c T t (tp_nb T t (tp_nb T t p + 1)) ≤ 52
    · have h2' : 48 + 1 ≤ tp_c T t (tp_nb T t (tp_nb T t p + 1)) ∧ tp_c T t (tp_nb T t (tp_nb T t p + 1)) ≤ 48 + 4 := by omega
      rw [if_pos h2'] at g1
      rw [decide_eq_true h2'] at g2
      have g2' : w3.1 48 16 = 0 := g2
      rw [tp_d2 _ hlt2 (by omega)] at g0
      have q2 : tp_nb T t (tp_nb T t p + 1) < T := tp_c_in (t := t) (q := tp_nb T t (tp_nb T t p + 1)) (by omega)
      have HZ : tp_H0 k w (sx_u w3.1 59 ((3 : Int32) * nI k + 1).toNatClampNeg f3, w3.2) := by rw [i1]; exact H3.trans (tp_H0.put (j := 1) (by decide))
      have a15 : (sx_u w3.1 59 ((3 : Int32) * nI k + 1).toNatClampNeg f3, w3.2).1 48 15 = nI (tp_nb T t (tp_nb T t p + 1) + 1) := by
        show sx_u w3.1 59 ((3 : Int32) * nI k + 1).toNatClampNeg f3 48 15 = _
        rw [sx_u_o (by decide)]; exact g1
      have a16 : (sx_u w3.1 59 ((3 : Int32) * nI k + 1).toNatClampNeg f3, w3.2).1 48 16 = 0 := by
        show sx_u w3.1 59 ((3 : Int32) * nI k + 1).toNatClampNeg f3 48 16 = _
        rw [sx_u_o (by decide)]; exact g2'
      have a59 : (sx_u w3.1 59 ((3 : Int32) * nI k + 1).toNatClampNeg f3, w3.2).1 59 (3 * k) = nI (tp_k (tp_c T t (tp_nb T t p))) ∧ (sx_u w3.1 59 ((3 : Int32) * nI k + 1).toNatClampNeg f3, w3.2).1 59 (3 * k + 1) = nI (tp_c T t (tp_nb T t (tp_nb T t p + 1)) - 48) := by
        rw [i1]
        show sx_u w3.1 59 (3 * k + 1) f3 59 (3 * k) = _ ∧ sx_u w3.1 59 (3 * k + 1) f3 59 (3 * k + 1) = _
        rw [sx_u_s, sx_u_s, if_neg (by omega), if_pos rfl, (g3.1 59 (by decide)).1]
        exact ⟨z59, g0⟩
      have m4 := spMo_has (d := d) (v := 119) (tp_H0.tape h HZ) q2 a15 a16 (by decide)
      generalize hZ : ((sx_u w3.1 59 ((3 : Int32) * nI k + 1).toNatClampNeg f3, w3.2) : sx_W) = Z at *
      by_cases h3 : tp_c T t (tp_nb T t (tp_nb T t (tp_nb T t p + 1) + 1)) = 119
      · rw [if_pos h3, decide_eq_true h3] at m4
        have q3 : tp_nb T t (tp_nb T t (tp_nb T t p + 1) + 1) < T := tp_c_in (t := t) (q := tp_nb T t (tp_nb T t (tp_nb T t p + 1) + 1)) (by omega)
        have HU : tp_H0 k w (sx_u Z.1 48 15 (nI (tp_nb T t (tp_nb T t (tp_nb T t p + 1) + 1) + 1)), Z.2) := HZ.trans (tp_G.u15.H (k := k)).H0
        obtain ⟨f, fl, w', hev, hP⟩ := tp_more (d := d) (w := (sx_u Z.1 48 15 (nI (tp_nb T t (tp_nb T t (tp_nb T t p + 1) + 1) + 1)), Z.2)) (tp_H0.tape h HU) hk 0 (by decide) (sx_u Z.1 48 15 (nI (tp_nb T t (tp_nb T t (tp_nb T t p + 1) + 1) + 1)), Z.2) 0 (tp_nb T t (tp_nb T t (tp_nb T t p + 1) + 1) + 1) tp_G.rfl'.H q3 (by
          show sx_u Z.1 48 15 (nI (tp_nb T t (tp_nb T t (tp_nb T t p + 1) + 1) + 1)) 48 15 = _
          rw [sx_u_s, if_pos rfl]) (by
          show sx_u Z.1 48 15 (nI (tp_nb T t (tp_nb T t (tp_nb T t p + 1) + 1) + 1)) 48 16 = _
          rw [sx_u_s, if_neg (by decide)]; exact a16) (by decide) (fb_ct_zero.mpr (fun j _ => Nat.zero_testBit j)) (fun c => absurd c (by decide))
        have ho := tp_one_3 h1 h2 h3
        refine ⟨f, fl, w', fun Q z => sx_met_of rfl rfl rfl rfl (bMo_readOne_0 (f4 := sz_b true) (w4 := (sx_u Z.1 48 15 (nI (tp_nb T t (tp_nb T t (tp_nb T t p + 1) + 1) + 1)), Z.2)) (f5 := 0) (w5 := w) (f6 := 0) (w6 := w) (f7 := 0) (w7 := w) (f8 := 0) (w8 := w) (f9 := 0) (w9 := w) (f10 := 0) (w10 := w) m1 m2 vo1 (fun _ _ => m3) (fun _ _ => vo2) (fun _ _ => sx_de_w hZ m4) (fun _ _ => hev Q z) (fun _ c => absurd rfl c) (fun _ c => absurd rfl c) (fun _ c => absurd rfl c) (fun _ c => absurd rfl c) (fun c => absurd c c0) (fun c => absurd c c0) (fun c => absurd c c0) (fun c => absurd c c0) (fun c => absurd c c0) (fun c => absurd c c0) (fun c => absurd c c0) (fun c => absurd c c0)), tp_fin (by rw [ho]; exact ⟨rfl, rfl, rfl⟩) (fun _ => ?_) HU hP⟩
        rw [ho]
        show sx_u Z.1 48 15 (nI (tp_nb T t (tp_nb T t (tp_nb T t p + 1) + 1) + 1)) 59 (3 * k) = _ ∧ sx_u Z.1 48 15 (nI (tp_nb T t (tp_nb T t (tp_nb T t p + 1) + 1) + 1)) 59 (3 * k + 1) = _
        rw [sx_u_o (by decide)]; exact a59
      · rw [if_neg h3, decide_eq_false h3, Nat.add_zero] at m4
        have HU : tp_H0 k w (sx_u Z.1 48 15 (nI (tp_nb T t (tp_nb T t (tp_nb T t p + 1) + 1))), Z.2) := HZ.trans (tp_G.u15.H (k := k)).H0
        have ho := tp_one_4 h1 h2 h3
        obtain ⟨f, fl, w', hev, hP⟩ := tp_stop (d := d + 1) (w := (sx_u Z.1 48 15 (nI (tp_nb T t (tp_nb T t (tp_nb T t p + 1) + 1))), Z.2)) (u := (sx_u Z.1 48 15 (nI (tp_nb T t (tp_nb T t (tp_nb T t p + 1) + 1))), Z.2)) (x := 0) (T := T) (t := t) (bad := false) (v := (true, tp_nb T t (tp_nb T t (tp_nb T t p + 1) + 1), 0)) hk tp_G.rfl'.H (by
          show sx_u Z.1 48 15 (nI (tp_nb T t (tp_nb T t (tp_nb T t p + 1) + 1))) 48 16 = _
          rw [sx_u_s, if_neg (by decide)]; exact a16) (by
          show sx_u Z.1 48 15 (nI (tp_nb T t (tp_nb T t (tp_nb T t p + 1) + 1))) 48 15 = _
          rw [sx_u_s, if_pos rfl]) (fun _ => ⟨rfl, rfl⟩) (fun c => absurd c (by decide))
        refine ⟨f, fl, w', fun Q z => sx_met_of rfl rfl rfl rfl (bMo_readOne_0 (f4 := sz_b false) (w4 := (sx_u Z.1 48 15 (nI (tp_nb T t (tp_nb T t (tp_nb T t p + 1) + 1))), Z.2)) (f5 := 0) (w5 := w) (f6 := 0) (w6 := w) (f7 := 0) (w7 := w) (f8 := 0) (w8 := w) (f9 := 0) (w9 := w) (f10 := 0) (w10 := w) m1 m2 vo1 (fun _ _ => m3) (fun _ _ => vo2) (fun _ _ => sx_de_w hZ m4) (fun _ _ => hev Q z) (fun _ c => absurd rfl c) (fun _ c => absurd rfl c) (fun _ c => absurd rfl c) (fun _ c => absurd rfl c) (fun c => absurd c c0) (fun c => absurd c c0) (fun c => absurd c c0) (fun c => absurd c c0) (fun c => absurd c c0) (fun c => absurd c c0) (fun c => absurd c c0) (fun c => absurd c c0)), tp_fin (by rw [ho]; exact ⟨rfl, rfl, rfl⟩) (fun _ => ?_) HU hP⟩
        rw [ho]
        show sx_u Z.1 48 15 (nI (tp_nb T t (tp_nb T t (tp_nb T t p + 1) + 1))) 59 (3 * k) = _ ∧ sx_u Z.1 48 15 (nI (tp_nb T t (tp_nb T t (tp_nb T t p + 1) + 1))) 59 (3 * k + 1) = _
        rw [sx_u_o (by decide)]; exact a59
    · have h2' : ¬ (48 + 1 ≤ tp_c T t (tp_nb T t (tp_nb T t p + 1)) ∧ tp_c T t (tp_nb T t (tp_nb T t p + 1)) ≤ 48 + 4) := by omega
      rw [if_neg h2', Nat.add_zero] at g1
      rw [decide_eq_false h2'] at g2
      obtain ⟨f, fl, w', hev, hR⟩ := stop w3 f3 (tp_nb T t (tp_nb T t p + 1)) g2 g1 H3 (tp_one_2 h1 h2)
      exact ⟨f, fl, w', fun Q z => sx_met_of rfl rfl rfl rfl (bMo_readOne_0 (f5 := 0) (w5 := w) (f6 := 0) (w6 := w) (f7 := 0) (w7 := w) (f8 := 0) (w8 := w) (f9 := 0) (w9 := w) (f10 := 0) (w10 := w) m1 m2 vo1 (fun _ _ => m3) (fun _ _ => vo2) (fun _ _ => wrong w3 f3 g2) (fun _ _ => hev Q z) (fun _ c => absurd rfl c) (fun _ c => absurd rfl c) (fun _ c => absurd rfl c) (fun _ c => absurd rfl c) (fun c => absurd c c0) (fun c => absurd c c0) (fun c => absurd c c0) (fun c => absurd c c0) (fun c => absurd c c0) (fun c => absurd c c0) (fun c => absurd c c0) (fun c => absurd c c0)), hR⟩
end
