/-! ===== the class parses ===== -/
section
variable {T : Nat} {t : Nat → Nat} {p : Nat}
theorem tp_k_lt {c : Nat} (h : tp_k c ≠ 9) : tp_k c < 4 := by
  unfold tp_k at *
  repeat' split
  all_goals first | omega | (split at h <;> omega) | (exfalso; apply h; simp_all)
theorem tp_k_0 {c : Nat} (h : tp_k c ≠ 9) : 1 ≤ c := by
  rcases Nat.eq_zero_or_pos c with e | e
  · rw [e] at h; exact absurd rfl h
  · exact e
theorem tp_one_1 (h : tp_k (tp_c T t (tp_nb T t p)) = 9) : tp_one T t p = (false, tp_nb T t p, 0, 0, 0) := by
  unfold tp_one; exact if_pos h
theorem tp_one_2 (h : tp_k (tp_c T t (tp_nb T t p)) ≠ 9) (h2 : ¬ (49 ≤ tp_c T t (tp_nb T t (tp_nb T t p + 1)) ∧ tp_c T t (tp_nb T t (tp_nb T t p + 1)) ≤ 52)) : tp_one T t p = (false, tp_nb T t (tp_nb T t p + 1), 0, 0, 0) := by
  unfold tp_one; exact (if_neg h).trans (if_pos h2)
theorem tp_one_3 (h : tp_k (tp_c T t (tp_nb T t p)) ≠ 9) (h2 : 49 ≤ tp_c T t (tp_nb T t (tp_nb T t p + 1)) ∧ tp_c T t (tp_nb T t (tp_nb T t p + 1)) ≤ 52) (h3 : tp_c T t (tp_nb T t (tp_nb T t (tp_nb T t p + 1) + 1)) = 119) : tp_one T t p = ((tp_work T t 9 false 0 (tp_nb T t (tp_nb T t (tp_nb T t p + 1) + 1) + 1)).1, (tp_work T t 9 false 0 (tp_nb T t (tp_nb T t (tp_nb T t p + 1) + 1) + 1)).2.1, tp_k (tp_c T t (tp_nb T t p)), tp_c T t (tp_nb T t (tp_nb T t p + 1)) - 48, (tp_work T t 9 false 0 (tp_nb T t (tp_nb T t (tp_nb T t p + 1) + 1) + 1)).2.2) := by
  unfold tp_one; exact ((if_neg h).trans (if_neg (fun c => c h2))).trans (if_pos h3)
theorem tp_one_4 (h : tp_k (tp_c T t (tp_nb T t p)) ≠ 9) (h2 : 49 ≤ tp_c T t (tp_nb T t (tp_nb T t p + 1)) ∧ tp_c T t (tp_nb T t (tp_nb T t p + 1)) ≤ 52) (h3 : tp_c T t (tp_nb T t (tp_nb T t (tp_nb T t p + 1) + 1)) ≠ 119) : tp_one T t p = (true, tp_nb T t (tp_nb T t (tp_nb T t p + 1) + 1), tp_k (tp_c T t (tp_nb T t p)), tp_c T t (tp_nb T t (tp_nb T t p + 1)) - 48, 0) := by
  unfold tp_one; exact ((if_neg h).trans (if_neg (fun c => c h2))).trans (if_neg h3)
theorem tp_one_ok (hp : p ≤ T) : (tp_one T t p).2.1 ≤ T ∧ tp_nb T t (tp_one T t p).2.1 = (tp_one T t p).2.1 ∧ ((tp_one T t p).1 = true → (tp_one T t p).2.2.1 < 4 ∧ 1 ≤ (tp_one T t p).2.2.2.1 ∧ (tp_one T t p).2.2.2.1 ≤ 4 ∧ (tp_one T t p).2.2.2.2 < 256) := by
  by_cases h1 : tp_k (tp_c T t (tp_nb T t p)) = 9
  · rw [tp_one_1 h1]; exact ⟨tp_nb_le hp, tp_nb_nb hp, fun c => absurd c Bool.false_ne_true⟩
  · have q1 : tp_nb T t p < T := tp_c_in (tp_k_0 h1)
    by_cases h2 : 49 ≤ tp_c T t (tp_nb T t (tp_nb T t p + 1)) ∧ tp_c T t (tp_nb T t (tp_nb T t p + 1)) ≤ 52
    · have q2 : tp_nb T t (tp_nb T t p + 1) < T := tp_c_in (t := t) (q := tp_nb T t (tp_nb T t p + 1)) (by omega)
      have hk := tp_k_lt h1
      by_cases h3 : tp_c T t (tp_nb T t (tp_nb T t (tp_nb T t p + 1) + 1)) = 119
      · have q3 : tp_nb T t (tp_nb T t (tp_nb T t p + 1) + 1) < T := tp_c_in (t := t) (q := tp_nb T t (tp_nb T t (tp_nb T t p + 1) + 1)) (by omega)
        rw [tp_one_3 h1 h2 h3]
        obtain ⟨a1, a2, a3⟩ := tp_work_ok (T := T) (t := t) 9 false 0 (tp_nb T t (tp_nb T t (tp_nb T t p + 1) + 1) + 1) q3 (by decide)
        refine ⟨a1, a2, fun _ => ⟨hk, ?_, ?_, a3⟩⟩
        · show 1 ≤ tp_c T t (tp_nb T t (tp_nb T t p + 1)) - 48; omega
        · show tp_c T t (tp_nb T t (tp_nb T t p + 1)) - 48 ≤ 4; omega
      · rw [tp_one_4 h1 h2 h3]
        refine ⟨tp_nb_le q2, tp_nb_nb q2, fun _ => ⟨hk, ?_, ?_, (show 0 < 256 by decide)⟩⟩
        · show 1 ≤ tp_c T t (tp_nb T t (tp_nb T t p + 1)) - 48; omega
        · show tp_c T t (tp_nb T t (tp_nb T t p + 1)) - 48 ≤ 4; omega
    · rw [tp_one_2 h1 h2]; exact ⟨tp_nb_le q1, tp_nb_nb q1, fun c => absurd c Bool.false_ne_true⟩
end
section
variable {d : Nat} {w : sx_W} {T : Nat} {t : Nat → Nat}
theorem sx_de_w {r : sx_R} {As : List Value} {w0 w' : sx_W} {f : Int32} {fl : Int64} (e : w0 = w) (h : sx_de d r As w f fl w') : sx_de d r As w0 f fl w' := by subst e; exact h
theorem tp_kI_m1 {k : Nat} (h : k < 4 ∨ k = 9) : (tp_kI k = (-1 : Int32)) ↔ k = 9 := by
  unfold tp_kI
  rcases h with h | h
  · rw [if_pos h]
    have h2 : ∀ v, v < 4 → ¬ nI v = (-1 : Int32) := by decide +kernel
    exact ⟨fun e => absurd e (h2 k h), fun e => by omega⟩
  · rw [if_neg (by omega)]; exact ⟨fun _ => h, fun _ => rfl⟩
theorem spTa_readLodger {k p : Nat} (h : tp_T 33 1 34 T t w) (hk : k < 7) (hp : p ≤ T) (hw : w.1 33 2 = nI p) : sx_x (d + 2) rTa_readLodger [.ref 33, .int (nI k)] w (fun f fl w' => f = sz_b (tp_one T t p).1 ∧ fl = 0 ∧ w'.1 33 2 = nI (tp_one T t p).2.1 ∧ ((tp_one T t p).1 = true → w'.1 35 k = nI (tp_one T t p).2.2.1 ∧ w'.1 36 k = nI (tp_one T t p).2.2.2.1 ∧ w'.1 37 k = nI (tp_one T t p).2.2.2.2) ∧ tp_F k w w') := by
  have hb := h.b
  have hT := h.2.1
  have hck : (nI k).toNatClampNeg = k := nI_clamp (by omega)
  have vk : vp_in (nI k) 7 := vp_in_nI hk (by decide)
  have m1 := spTa_peek (d := d + 1) h hp hw
  have m2 := spTa_kindOf (d := d + 1) (w := (sx_u w.1 33 2 (nI (tp_nb T t p)), w.2)) (q := tp_nb T t p) hb
  have F1 : tp_F k w (sx_u w.1 33 2 (nI (tp_nb T t p)), w.2) := tp_F.place
  by_cases h1 : tp_k (tp_c T t (tp_nb T t p)) = 9
  · rw [h1] at m2
    rw [tp_one_1 h1]
    have y : tp_kI 9 = (-1 : Int32) := rfl
    refine ⟨0, 0, _, fun Q z => sx_met_of rfl rfl rfl rfl (bTa_readLodger_0 (f3 := 0) (w3 := w) (f4 := 0) (w4 := w) (f5 := 0) (w5 := w) m1 m2 (fun c => absurd y c) (fun c => absurd y c) (fun c => absurd y c) (fun c => absurd y c) (fun c => absurd y c) (fun c => absurd y c) (fun c => absurd y c) (fun c => absurd y c) (fun c => absurd y c) (fun _ => z)), rfl, rfl, ?_, fun c => absurd c Bool.false_ne_true, F1⟩
    show sx_u w.1 33 2 (nI (tp_nb T t p)) 33 2 = _
    rw [sx_u_s, if_pos rfl]
  have n1 : ¬ tp_kI (tp_k (tp_c T t (tp_nb T t p))) = (-1 : Int32) := fun e => h1 ((tp_kI_m1 (Or.inl (tp_k_lt h1))).mp e)
  have q1 : tp_nb T t p < T := tp_c_in (tp_k_0 h1)
  have F2 : tp_F k w (sx_u w.1 33 2 (nI (tp_nb T t p + 1)), w.2) := tp_F.place
  have u2 : (sx_u w.1 33 2 (nI (tp_nb T t p + 1)), w.2).1 33 2 = nI (tp_nb T t p + 1) := by
    show sx_u w.1 33 2 (nI (tp_nb T t p + 1)) 33 2 = _
    rw [sx_u_s, if_pos rfl]
  have m3 := spTa_peek (d := d + 1) (tp_F.tape h F2) q1 u2
  have eW : ((sx_u (sx_u w.1 33 2 (nI (tp_nb T t p)), w.2).1 33 2 (((sx_u w.1 33 2 (nI (tp_nb T t p)), w.2).1 33 2) + (1 : Int32))), (sx_u w.1 33 2 (nI (tp_nb T t p)), w.2).2) = ((sx_u w.1 33 2 (nI (tp_nb T t p + 1)), w.2) : sx_W) := by
    show (sx_u (sx_u w.1 33 2 (nI (tp_nb T t p))) 33 2 (sx_u w.1 33 2 (nI (tp_nb T t p)) 33 2 + 1), w.2) = (sx_u w.1 33 2 (nI (tp_nb T t p + 1)), w.2)
    rw [sx_u_s, if_pos rfl, sx_u_u, nI_1]
  have eW3 : ((sx_u (sx_u w.1 33 2 (nI (tp_nb T t p + 1)), w.2).1 33 2 (nI (tp_nb T t (tp_nb T t p + 1))), (sx_u w.1 33 2 (nI (tp_nb T t p + 1)), w.2).2) : sx_W) = (sx_u w.1 33 2 (nI (tp_nb T t (tp_nb T t p + 1))), w.2) := by
    show (sx_u (sx_u w.1 33 2 (nI (tp_nb T t p + 1))) 33 2 (nI (tp_nb T t (tp_nb T t p + 1))), w.2) = _
    rw [sx_u_u]
  rw [eW3] at m3
  by_cases h2 : 49 ≤ tp_c T t (tp_nb T t (tp_nb T t p + 1)) ∧ tp_c T t (tp_nb T t (tp_nb T t p + 1)) ≤ 52
  · have q2 : tp_nb T t (tp_nb T t p + 1) < T := tp_c_in (t := t) (q := tp_nb T t (tp_nb T t p + 1)) (by omega)
    have c1 : ¬ tp_s T t (tp_nb T t (tp_nb T t p + 1)) - 48 < (1 : Int32) := by rw [tp_s3 hb]; omega
    have c2 : tp_s T t (tp_nb T t (tp_nb T t p + 1)) - 48 ≤ (4 : Int32) := by rw [tp_s4 hb h2.1]; exact h2.2
    have es := tp_s2 hb (show 48 ≤ tp_c T t (tp_nb T t (tp_nb T t p + 1)) by omega)
    generalize hq2 : tp_nb T t (tp_nb T t p + 1) = Q2 at *
    generalize hc2 : tp_c T t Q2 = C2 at *
    generalize hkk : tp_k (tp_c T t (tp_nb T t p)) = K at *
    have hK : K < 4 := by rw [← hkk]; exact tp_k_lt (by rw [hkk]; exact h1)
    have eK : tp_kI K = nI K := if_pos hK
    -- the world behind the need
    have eW4 : ((sx_u (sx_u (sx_u (sx_u (sx_u w.1 33 2 (nI Q2), w.2).1 33 2 (((sx_u w.1 33 2 (nI Q2), w.2).1 33 2) + (1 : Int32))) 35 (nI k).toNatClampNeg (tp_kI K)) 36 (nI k).toNatClampNeg (tp_s T t Q2 - (48 : Int32))) 37 (nI k).toNatClampNeg (0 : Int32)), (sx_u w.1 33 2 (nI Q2), w.2).2) = ((sx_u (sx_u (sx_u (sx_u w.1 33 2 (nI (Q2 + 1))) 35 k (nI K)) 36 k (nI (C2 - 48))) 37 k 0, w.2) : sx_W) := by
      show ((sx_u (sx_u (sx_u (sx_u (sx_u w.1 33 2 (nI Q2)) 33 2 ((sx_u w.1 33 2 (nI Q2) 33 2) + (1 : Int32))) 35 (nI k).toNatClampNeg (tp_kI K)) 36 (nI k).toNatClampNeg (tp_s T t Q2 - (48 : Int32))) 37 (nI k).toNatClampNeg (0 : Int32)), w.2) = _
      rw [sx_u_s, if_pos rfl, sx_u_u, nI_1, hck, eK, es]
    generalize hX : ((sx_u (sx_u (sx_u (sx_u w.1 33 2 (nI (Q2 + 1))) 35 k (nI K)) 36 k (nI (C2 - 48))) 37 k 0, w.2) : sx_W) = X at *
    have FX : tp_F k w X := by
      rw [← hX]
      refine ⟨fun a ha => ⟨?_, rfl⟩, fun j hj => ?_, fun j hj => ⟨?_, ?_, ?_⟩⟩
      · simp only [List.mem_cons, List.not_mem_nil, or_false, not_or] at ha
        show sx_u (sx_u (sx_u (sx_u w.1 33 2 (nI (Q2 + 1))) 35 k (nI K)) 36 k (nI (C2 - 48))) 37 k 0 a = _
        rw [sx_u_o ha.2.2.2, sx_u_o ha.2.2.1, sx_u_o ha.2.1, sx_u_o ha.1]
      · show sx_u (sx_u (sx_u (sx_u w.1 33 2 (nI (Q2 + 1))) 35 k (nI K)) 36 k (nI (C2 - 48))) 37 k 0 33 j = _
        rw [sx_u_o (by decide), sx_u_o (by decide), sx_u_o (by decide), sx_u_s, if_neg hj]
      · show sx_u (sx_u (sx_u (sx_u w.1 33 2 (nI (Q2 + 1))) 35 k (nI K)) 36 k (nI (C2 - 48))) 37 k 0 35 j = _
        rw [sx_u_o (by decide), sx_u_o (by decide), sx_u_s, if_neg hj, sx_u_o (by decide)]
      · show sx_u (sx_u (sx_u (sx_u w.1 33 2 (nI (Q2 + 1))) 35 k (nI K)) 36 k (nI (C2 - 48))) 37 k 0 36 j = _
        rw [sx_u_o (by decide), sx_u_s, if_neg hj, sx_u_o (by decide), sx_u_o (by decide)]
      · show sx_u (sx_u (sx_u (sx_u w.1 33 2 (nI (Q2 + 1))) 35 k (nI K)) 36 k (nI (C2 - 48))) 37 k 0 37 j = _
        rw [sx_u_s, if_neg hj, sx_u_o (by decide), sx_u_o (by decide), sx_u_o (by decide)]
    have x33 : X.1 33 2 = nI (Q2 + 1) := by
      rw [← hX]
      show sx_u (sx_u (sx_u (sx_u w.1 33 2 (nI (Q2 + 1))) 35 k (nI K)) 36 k (nI (C2 - 48))) 37 k 0 33 2 = _
      rw [sx_u_o (by decide), sx_u_o (by decide), sx_u_o (by decide), sx_u_s, if_pos rfl]
    have x35 : X.1 35 k = nI K := by
      rw [← hX]
      show sx_u (sx_u (sx_u (sx_u w.1 33 2 (nI (Q2 + 1))) 35 k (nI K)) 36 k (nI (C2 - 48))) 37 k 0 35 k = _
      rw [sx_u_o (by decide), sx_u_o (by decide), sx_u_s, if_pos rfl]
    have x36 : X.1 36 k = nI (C2 - 48) := by
      rw [← hX]
      show sx_u (sx_u (sx_u (sx_u w.1 33 2 (nI (Q2 + 1))) 35 k (nI K)) 36 k (nI (C2 - 48))) 37 k 0 36 k = _
      rw [sx_u_o (by decide), sx_u_s, if_pos rfl]
    have x37 : X.1 37 k = 0 := by
      rw [← hX]
      show sx_u (sx_u (sx_u (sx_u w.1 33 2 (nI (Q2 + 1))) 35 k (nI K)) 36 k (nI (C2 - 48))) 37 k 0 37 k = _
      rw [sx_u_s, if_pos rfl]
    clear hX
    have m4 := spTa_peek (d := d + 1) (tp_F.tape h FX) q2 x33
    have m4 := sx_de_w eW4 m4
    rw [← eW] at m3
    by_cases h3 : tp_c T t (tp_nb T t (Q2 + 1)) = 119
    · have q3 : tp_nb T t (Q2 + 1) < T := tp_c_in (t := t) (q := tp_nb T t (Q2 + 1)) (by omega)
      have y3 : tp_s T t (tp_nb T t (Q2 + 1)) = (119 : Int32) := (tp_s5 hb (by decide) (by decide)).mpr h3
      have o3 := tp_one_3 (T := T) (t := t) (p := p) (by rw [hkk]; exact h1) (by rw [hq2, hc2]; exact h2) (by rw [hq2]; exact h3)
      rw [hkk, hq2, hc2] at o3
      rw [o3]
      have FY : tp_F k X (sx_u X.1 33 2 (nI (tp_nb T t (Q2 + 1) + 1)), X.2) := tp_F.place
      obtain ⟨f, fl, w5, hrw, rfl, rfl, g1, g2, g3, g4, g5⟩ := spTa_readWork (d := d) (k := k) (p := tp_nb T t (Q2 + 1) + 1) (tp_F.tape h (FX.trans FY)) hk q3 (by
        show sx_u X.1 33 2 (nI (tp_nb T t (Q2 + 1) + 1)) 33 2 = _
        rw [sx_u_s, if_pos rfl]) (by
        show sx_u X.1 33 2 (nI (tp_nb T t (Q2 + 1) + 1)) 37 k = 0
        rw [sx_u_o (by decide)]; exact x37)
      have eY : ((sx_u (sx_u X.1 33 2 (nI (tp_nb T t (Q2 + 1))), X.2).1 33 2 (((sx_u X.1 33 2 (nI (tp_nb T t (Q2 + 1))), X.2).1 33 2) + (1 : Int32))), (sx_u X.1 33 2 (nI (tp_nb T t (Q2 + 1))), X.2).2) = ((sx_u X.1 33 2 (nI (tp_nb T t (Q2 + 1) + 1)), X.2) : sx_W) := by
        show (sx_u (sx_u X.1 33 2 (nI (tp_nb T t (Q2 + 1)))) 33 2 (sx_u X.1 33 2 (nI (tp_nb T t (Q2 + 1))) 33 2 + 1), X.2) = _
        rw [sx_u_s, if_pos rfl, sx_u_u, nI_1]
      have hrw := sx_de_w eY hrw
      refine ⟨_, 0, w5, fun Q z => sx_met_of rfl rfl rfl rfl (bTa_readLodger_0 m1 m2 (fun _ => m3) (fun _ c => absurd c c1) (fun _ _ _ => vk) (fun _ _ _ => m4) (fun _ _ _ _ => hrw) (fun _ _ _ _ => z) (fun _ _ _ _ => sz_b01 _) (fun _ _ _ c => absurd y3 c) (fun _ _ c => absurd c2 c) (fun c => absurd c n1)), rfl, rfl, g1, fun _ => ⟨?_, ?_, g2⟩, (FX.trans FY).trans g5⟩
      · rw [g3]; show sx_u X.1 33 2 (nI (tp_nb T t (Q2 + 1) + 1)) 35 k = _
        rw [sx_u_o (by decide)]; exact x35
      · rw [g4]; show sx_u X.1 33 2 (nI (tp_nb T t (Q2 + 1) + 1)) 36 k = _
        rw [sx_u_o (by decide)]; exact x36
    · have y3 : ¬ tp_s T t (tp_nb T t (Q2 + 1)) = (119 : Int32) := fun e => h3 ((tp_s5 hb (by decide) (by decide)).mp e)
      have o3 := tp_one_4 (T := T) (t := t) (p := p) (by rw [hkk]; exact h1) (by rw [hq2, hc2]; exact h2) (by rw [hq2]; exact h3)
      rw [hkk, hq2, hc2] at o3
      rw [o3]
      have FY : tp_F k X (sx_u X.1 33 2 (nI (tp_nb T t (Q2 + 1))), X.2) := tp_F.place
      refine ⟨1, 0, _, fun Q z => sx_met_of rfl rfl rfl rfl (bTa_readLodger_0 (f5 := 0) (w5 := w) m1 m2 (fun _ => m3) (fun _ c => absurd c c1) (fun _ _ _ => vk) (fun _ _ _ => m4) (fun _ _ _ c => absurd c y3) (fun _ _ _ c => absurd c y3) (fun _ _ _ c => absurd c y3) (fun _ _ _ _ => z) (fun _ _ c => absurd c2 c) (fun c => absurd c n1)), rfl, rfl, ?_, fun _ => ⟨?_, ?_, ?_⟩, FX.trans FY⟩
      · show sx_u X.1 33 2 (nI (tp_nb T t (Q2 + 1))) 33 2 = _
        rw [sx_u_s, if_pos rfl]
      · show sx_u X.1 33 2 (nI (tp_nb T t (Q2 + 1))) 35 k = _
        rw [sx_u_o (by decide)]; exact x35
      · show sx_u X.1 33 2 (nI (tp_nb T t (Q2 + 1))) 36 k = _
        rw [sx_u_o (by decide)]; exact x36
      · show sx_u X.1 33 2 (nI (tp_nb T t (Q2 + 1))) 37 k = _
        rw [sx_u_o (by decide)]; exact x37
  · rw [tp_one_2 h1 h2]
    rw [← eW] at m3
    have F3 : tp_F k w (sx_u w.1 33 2 (nI (tp_nb T t (tp_nb T t p + 1))), w.2) := tp_F.place
    have u3 : (sx_u w.1 33 2 (nI (tp_nb T t (tp_nb T t p + 1))), w.2).1 33 2 = nI (tp_nb T t (tp_nb T t p + 1)) := by
      show sx_u w.1 33 2 (nI (tp_nb T t (tp_nb T t p + 1))) 33 2 = _
      rw [sx_u_s, if_pos rfl]
    by_cases h4 : tp_c T t (tp_nb T t (tp_nb T t p + 1)) < 49
    · have c1 : tp_s T t (tp_nb T t (tp_nb T t p + 1)) - 48 < (1 : Int32) := by rw [tp_s3 hb]; exact h4
      exact ⟨0, 0, _, fun Q z => sx_met_of rfl rfl rfl rfl (bTa_readLodger_0 (f4 := 0) (w4 := w) (f5 := 0) (w5 := w) m1 m2 (fun _ => m3) (fun _ _ => z) (fun _ c => absurd c1 c) (fun _ c => absurd c1 c) (fun _ c => absurd c1 c) (fun _ c => absurd c1 c) (fun _ c => absurd c1 c) (fun _ c => absurd c1 c) (fun _ c => absurd c1 c) (fun c => absurd c n1)), rfl, rfl, u3, fun c => absurd c Bool.false_ne_true, F3⟩
    · have c1 : ¬ tp_s T t (tp_nb T t (tp_nb T t p + 1)) - 48 < (1 : Int32) := by rw [tp_s3 hb]; exact h4
      have c2 : ¬ tp_s T t (tp_nb T t (tp_nb T t p + 1)) - 48 ≤ (4 : Int32) := by rw [tp_s4 hb (by omega)]; omega
      exact ⟨0, 0, _, fun Q z => sx_met_of rfl rfl rfl rfl (bTa_readLodger_0 (f4 := 0) (w4 := w) (f5 := 0) (w5 := w) m1 m2 (fun _ => m3) (fun _ c => absurd c c1) (fun _ _ c => absurd c c2) (fun _ _ c => absurd c c2) (fun _ _ c => absurd c c2) (fun _ _ c => absurd c c2) (fun _ _ c => absurd c c2) (fun _ _ c => absurd c c2) (fun _ _ _ => z) (fun c => absurd c n1)), rfl, rfl, u3, fun c => absurd c Bool.false_ne_true, F3⟩
end
