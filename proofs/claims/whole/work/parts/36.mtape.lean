/-! ===== the model reads the tape ===== -/
/-- what the model's reading leaves as it is -/
def tp_G (w w' : sx_W) : Prop := sg_fr [48] w w' ∧ ∀ j, j ≠ 15 → j ≠ 16 → w'.1 48 j = w.1 48 j
def tp_kM (k : Nat) : Int32 := if k < 4 then nI k else (-4 : Int32)
section
variable {d : Nat} {w : sx_W} {T : Nat} {t : Nat → Nat}
theorem tp_G.trans {w1 w2 : sx_W} (h1 : tp_G w w1) (h2 : tp_G w1 w2) : tp_G w w2 := ⟨h1.1.trans h2.1, fun j x y => (h2.2 j x y).trans (h1.2 j x y)⟩
theorem tp_G.rfl' : tp_G w w := ⟨sg_fr.rfl', fun _ _ _ => rfl⟩
theorem tp_G.u15 {v : Int32} : tp_G w (sx_u w.1 48 15 v, w.2) := ⟨fun a ha => ⟨sx_u_o (fun e => ha (by rw [e]; decide)), rfl⟩, fun j x y => by
  show sx_u w.1 48 15 v 48 j = _
  rw [sx_u_s, if_neg x]⟩
theorem tp_G.u16 {v : Int32} : tp_G w (sx_u w.1 48 16 v, w.2) := ⟨fun a ha => ⟨sx_u_o (fun e => ha (by rw [e]; decide)), rfl⟩, fun j x y => by
  show sx_u w.1 48 16 v 48 j = _
  rw [sx_u_s, if_neg y]⟩
theorem tp_G.tape {w' : sx_W} (h : tp_T 48 14 58 T t w) (hf : tp_G w w') : tp_T 48 14 58 T t w' := by
  refine ⟨by rw [hf.2 14 (by decide) (by decide)]; exact h.1, h.2.1, fun i hi => ?_⟩
  rw [(hf.1 58 (by decide)).1]; exact h.2.2 i hi
theorem spMo_here {p : Nat} (h : tp_T 48 14 58 T t w) (hp : p ≤ T) (hw : w.1 48 15 = nI p) : sx_de d rMo_here [.ref 48] w (nI (tp_c T t (tp_nb T t p))) 0 (sx_u w.1 48 15 (nI (tp_nb T t p)), w.2) := by
  obtain ⟨h1, h2, h3⟩ := h
  intro Q z
  have loop : ∀ i, i ≤ T → p ≤ i → tp_nb T t p = tp_nb T t i → sx_ev d rMo_here 0 [.ref 48] [] (sx_u w.1 48 15 (nI i), w.2) Q := by
    refine sx_for T (fun hi he => ?_) (fun i hlt ih hi he => ?_)
    · have e1 : sx_u w.1 48 15 (nI T) 48 14 = nI T := by rw [sx_u_s, if_neg (by decide)]; exact h1
      have e2 : sx_u w.1 48 15 (nI T) 48 15 = nI T := by rw [sx_u_s, if_pos rfl]
      have y : sx_u w.1 48 15 (nI T) 48 14 ≤ sx_u w.1 48 15 (nI T) 48 15 := by rw [e1, e2]; exact nI_le (Nat.le_refl _) (by omega)
      rw [he, tp_nb_end (Nat.le_refl _)] at z
      rw [tp_c, if_neg (Nat.lt_irrefl _)] at z
      exact bMo_here_0 (fun _ => z) (fun c => absurd y c) (fun c => absurd y c) (fun c => absurd y c)
    · have e1 : sx_u w.1 48 15 (nI i) 48 14 = nI T := by rw [sx_u_s, if_neg (by decide)]; exact h1
      have e2 : sx_u w.1 48 15 (nI i) 48 15 = nI i := by rw [sx_u_s, if_pos rfl]
      have n : ¬ sx_u w.1 48 15 (nI i) 48 14 ≤ sx_u w.1 48 15 (nI i) 48 15 := by rw [e1, e2]; exact nI_ge hlt (by omega)
      have hc : (nI i).toNatClampNeg = i := nI_clamp (by omega)
      have e3 : sx_u w.1 48 15 (nI i) 58 (sx_u w.1 48 15 (nI i) 48 15).toNatClampNeg = nI (t i) := by rw [e2, hc, sx_u_o (by decide)]; exact (h3 i hlt).1
      have v : vp_in (sx_u w.1 48 15 (nI i) 48 15) 100 := by rw [e2]; exact vp_in_nI (by omega) (by decide)
      have ht := (h3 i hlt).2
      by_cases hb : t i = 32
      · have y : sx_u w.1 48 15 (nI i) 58 (sx_u w.1 48 15 (nI i) 48 15).toNatClampNeg = (32 : Int32) := by rw [e3, hb]; rfl
        refine bMo_here_0 (fun c => absurd c n) (fun _ => v) (fun _ c => absurd y c) (fun _ _ => ?_)
        show sx_ev d rMo_here 0 [.ref 48] [] (sx_u (sx_u w.1 48 15 (nI i)) 48 15 (sx_u w.1 48 15 (nI i) 48 15 + 1), w.2) Q
        rw [e2, sx_u_u, nI_1]
        exact ih (by omega) (by rw [he]; exact tp_nb_go hlt hb)
      · have y : ¬ sx_u w.1 48 15 (nI i) 58 (sx_u w.1 48 15 (nI i) 48 15).toNatClampNeg = (32 : Int32) := by
          rw [e3, show (32 : Int32) = nI 32 from rfl, nI_eq (by omega) (by omega)]; exact hb
        rw [he, tp_nb_stay hb, tp_c, if_pos hlt] at z
        refine bMo_here_0 (fun c => absurd c n) (fun _ => v) (fun _ _ => ?_) (fun _ c => absurd c y)
        show Q (sx_u w.1 48 15 (nI i) 58 (sx_u w.1 48 15 (nI i) 48 15).toNatClampNeg) 0 (sx_u w.1 48 15 (nI i), w.2)
        rw [e3]; exact z
  have := loop p hp (Nat.le_refl _) rfl
  rw [sx_u_self hw] at this
  exact sx_met_of rfl rfl rfl rfl this
theorem spMo_kindOf {c : Nat} (hc : c < 127) : sx_de d rMo_kindOf [.int (nI c)] w (tp_kM (tp_k c)) 0 w := by
  intro Q z
  have e : ∀ v, v < 127 → ((nI c = nI v) ↔ c = v) := fun v hv => nI_eq (by omega) (by omega)
  refine sx_met_of rfl rfl rfl rfl (bMo_kindOf_0 (fun c1 c2 c3 c4 => ?_) (fun c1 c2 c3 c4 => ?_) (fun c1 c2 c3 => ?_) (fun c1 c2 => ?_) (fun c1 => ?_))
  · have : tp_k c = 9 := by
      unfold tp_k
      rw [if_neg (fun x => c1 ((e 112 (by decide)).mpr x)), if_neg (fun x => c2 ((e 115 (by decide)).mpr x)), if_neg (fun x => c3 ((e 108 (by decide)).mpr x)), if_neg (fun x => c4 ((e 110 (by decide)).mpr x))]
    rw [this] at z; exact z
  · rw [(e 110 (by decide)).mp c4] at z; exact z
  · rw [(e 108 (by decide)).mp c3] at z; exact z
  · rw [(e 115 (by decide)).mp c2] at z; exact z
  · rw [(e 112 (by decide)).mp c1] at z; exact z
theorem spMo_has0 {v : Int32} (h16 : ¬ w.1 48 16 = 0) : sx_de (d + 1) rMo_has [.ref 48, .int v] w 0 0 w := by
  intro Q z
  refine sx_met_of rfl rfl rfl rfl (bMo_has_0 (f1 := 0) (w1 := w) (fun _ => ?_) (fun c => absurd c h16) (fun c => absurd c h16) (fun c => absurd c h16))
  rw [Int32.add_zero, sx_u_self rfl]; exact z
theorem spMo_has {p v : Nat} (h : tp_T 48 14 58 T t w) (hp : p ≤ T) (hw : w.1 48 15 = nI p) (h16 : w.1 48 16 = 0) (hv : v < 127) : sx_de (d + 1) rMo_has [.ref 48, .int (nI v)] w (sz_b (decide (tp_c T t (tp_nb T t p) = v))) 0 (sx_u w.1 48 15 (nI (tp_nb T t p + (if tp_c T t (tp_nb T t p) = v then 1 else 0))), w.2) := by
  intro Q z
  have m1 := spMo_here (d := d) h hp hw
  have hlt := tp_c_lt (q := tp_nb T t p) h.b
  have e33 : (sx_u w.1 48 15 (nI (tp_nb T t p)), w.2).1 48 15 = nI (tp_nb T t p) := by
    show sx_u w.1 48 15 (nI (tp_nb T t p)) 48 15 = _
    rw [sx_u_s, if_pos rfl]
  refine sx_met_of rfl rfl rfl rfl (bMo_has_0 (fun c => absurd h16 c) (fun _ => m1) (fun _ c => ?_) (fun _ c => ?_))
  · have hn : ¬ tp_c T t (tp_nb T t p) = v := fun x => c (by rw [x])
    rw [if_neg hn, decide_eq_false hn] at z
    rw [e33, Int32.add_zero]
    show Q 0 0 (sx_u (sx_u w.1 48 15 (nI (tp_nb T t p))) 48 15 (nI (tp_nb T t p)), w.2)
    rw [sx_u_u]; exact z
  · have hy : tp_c T t (tp_nb T t p) = v := (nI_eq (by omega) (by omega)).mp c
    rw [if_pos hy, decide_eq_true hy] at z
    rw [e33, nI_1]
    show Q 1 0 (sx_u (sx_u w.1 48 15 (nI (tp_nb T t p))) 48 15 (nI (tp_nb T t p + 1)), w.2)
    rw [sx_u_u]; exact z
theorem spMo_digit0 {x y : Int32} (h16 : ¬ w.1 48 16 = 0) : sx_x (d + 1) rMo_digit [.ref 48, .int x, .int y] w (fun f fl w' => fl = 0 ∧ w'.1 48 15 = w.1 48 15 ∧ w'.1 48 16 = 1 ∧ tp_G w w') := by
  refine ⟨_, 0, _, fun Q z => sx_met_of rfl rfl rfl rfl (bMo_digit_0 (f1 := 0) (w1 := w) (f2 := 0) (fun c => absurd c h16) (fun c => absurd c h16) (fun c => absurd c h16) (fun c => absurd c h16) (fun c => absurd c h16) (fun c => absurd c h16) (fun c => absurd c h16) (fun c => absurd c h16) (fun _ c => absurd c (by decide)) (fun _ _ => z)), rfl, ?_, ?_, ?_⟩
  · show sx_u (sx_u w.1 48 16 1) 48 15 (w.1 48 15 + 0) 48 15 = _
    rw [sx_u_s, if_pos rfl, Int32.add_zero]
  · show sx_u (sx_u w.1 48 16 1) 48 15 (w.1 48 15 + 0) 48 16 = 1
    rw [sx_u_s, if_neg (by decide), sx_u_s, if_pos rfl]
  · exact tp_G.trans (tp_G.u16 (v := 1)) (tp_G.u15 (w := (sx_u w.1 48 16 1, w.2)))
theorem spMo_digit {p a b : Nat} (h : tp_T 48 14 58 T t w) (hp : p ≤ T) (hw : w.1 48 15 = nI p) (h16 : w.1 48 16 = 0) (ha : a < 10) (hb : b < 10) : sx_x (d + 1) rMo_digit [.ref 48, .int (nI a), .int (nI b)] w (fun f fl w' => f = nI (tp_c T t (tp_nb T t p)) - 48 ∧ fl = 0 ∧ w'.1 48 15 = nI (tp_nb T t p + (if 48 + a ≤ tp_c T t (tp_nb T t p) ∧ tp_c T t (tp_nb T t p) ≤ 48 + b then 1 else 0)) ∧ w'.1 48 16 = sz_b (!decide (48 + a ≤ tp_c T t (tp_nb T t p) ∧ tp_c T t (tp_nb T t p) ≤ 48 + b)) ∧ tp_G w w') := by
  have m1 := spMo_here (d := d) h hp hw
  have hlt := tp_c_lt (q := tp_nb T t p) h.b
  have m2 := spMo_in (d := d) (w := (sx_u w.1 48 15 (nI (tp_nb T t p)), w.2)) (x := (nI (tp_c T t (tp_nb T t p))).toInt64) (y := ((48 : Int32) + nI a).toInt64) (z := ((48 : Int32) + nI b).toInt64)
  have ea : ((48 : Int32) + nI a).toInt64.toInt = ((48 + a : Nat) : Int) := by
    rw [Int32.toInt_toInt64, show (48 : Int32) = nI 48 from rfl, nI_add]; exact nI_toInt (by omega)
  have eb : ((48 : Int32) + nI b).toInt64.toInt = ((48 + b : Nat) : Int) := by
    rw [Int32.toInt_toInt64, show (48 : Int32) = nI 48 from rfl, nI_add]; exact nI_toInt (by omega)
  have ec : (nI (tp_c T t (tp_nb T t p))).toInt64.toInt = ((tp_c T t (tp_nb T t p) : Nat) : Int) := by
    rw [Int32.toInt_toInt64]; exact nI_toInt (by omega)
  rw [ea, eb, ec] at m2
  have e15 : (sx_u w.1 48 15 (nI (tp_nb T t p)), w.2).1 48 15 = nI (tp_nb T t p) := by
    show sx_u w.1 48 15 (nI (tp_nb T t p)) 48 15 = _
    rw [sx_u_s, if_pos rfl]
  have e16 : (sx_u w.1 48 15 (nI (tp_nb T t p)), w.2).1 48 16 = 0 := by
    show sx_u w.1 48 15 (nI (tp_nb T t p)) 48 16 = _
    rw [sx_u_s, if_neg (by decide)]; exact h16
  have G1 : tp_G w (sx_u w.1 48 15 (nI (tp_nb T t p)), w.2) := tp_G.u15
  generalize hX : ((sx_u w.1 48 15 (nI (tp_nb T t p)), w.2) : sx_W) = X at *
  have GX : ∀ {v v' : Int32}, tp_G w (sx_u (sx_u X.1 48 16 v) 48 15 v', X.2) := fun {v v'} => G1.trans (tp_G.trans (tp_G.u16 (v := v)) (tp_G.u15 (w := (sx_u X.1 48 16 v, X.2))))
  by_cases hc : 48 + a ≤ tp_c T t (tp_nb T t p) ∧ tp_c T t (tp_nb T t p) ≤ 48 + b
  · rw [decide_eq_true (show ((48 + a : Nat) : Int) ≤ ((tp_c T t (tp_nb T t p) : Nat) : Int) ∧ ((tp_c T t (tp_nb T t p) : Nat) : Int) ≤ ((48 + b : Nat) : Int) by omega)] at m2
    have y1 : ¬ sz_b true = 0 := by decide
    refine ⟨_, 0, (sx_u (sx_u X.1 48 16 0) 48 15 (X.1 48 15 + 1), X.2), fun Q z => sx_met_of rfl rfl rfl rfl (bMo_digit_0 (fun _ => m1) (fun _ c => absurd e16 c) (fun _ c => absurd e16 c) (fun _ _ => m2) (fun _ _ _ _ => z) (fun _ _ _ c => absurd rfl c) (fun _ _ c => absurd c y1) (fun _ _ c => absurd c y1) (fun c => absurd h16 c) (fun c => absurd h16 c)), rfl, rfl, ?_, ?_, GX⟩
    · show sx_u (sx_u X.1 48 16 0) 48 15 (X.1 48 15 + 1) 48 15 = _
      rw [sx_u_s, if_pos rfl, if_pos hc, e15, nI_1]
    · show sx_u (sx_u X.1 48 16 0) 48 15 (X.1 48 15 + 1) 48 16 = _
      rw [sx_u_s, if_neg (by decide), sx_u_s, if_pos rfl, decide_eq_true hc]; rfl
  · rw [decide_eq_false (show ¬ (((48 + a : Nat) : Int) ≤ ((tp_c T t (tp_nb T t p) : Nat) : Int) ∧ ((tp_c T t (tp_nb T t p) : Nat) : Int) ≤ ((48 + b : Nat) : Int)) by omega)] at m2
    refine ⟨_, 0, (sx_u (sx_u X.1 48 16 1) 48 15 (X.1 48 15 + 0), X.2), fun Q z => sx_met_of rfl rfl rfl rfl (bMo_digit_0 (fun _ => m1) (fun _ c => absurd e16 c) (fun _ c => absurd e16 c) (fun _ _ => m2) (fun _ _ c => absurd rfl c) (fun _ _ c => absurd rfl c) (fun _ _ _ c => absurd c (by decide)) (fun _ _ _ _ => z) (fun c => absurd h16 c) (fun c => absurd h16 c)), rfl, rfl, ?_, ?_, GX⟩
    · show sx_u (sx_u X.1 48 16 1) 48 15 (X.1 48 15 + 0) 48 15 = _
      rw [sx_u_s, if_pos rfl, if_neg hc, e15, Int32.add_zero, Nat.add_zero]
    · show sx_u (sx_u X.1 48 16 1) 48 15 (X.1 48 15 + 0) 48 16 = _
      rw [sx_u_s, if_neg (by decide), sx_u_s, if_pos rfl, decide_eq_false hc]; rfl
end
