/-! ===== the tape: what is read ===== -/
def tp_sk (T : Nat) (t : Nat → Nat) : Nat → Nat → Nat
  | 0, p => p
  | m + 1, p => if t p = 32 then tp_sk T t m (p + 1) else p
/-- the first place from p on that holds no blank -/
def tp_nb (T : Nat) (t : Nat → Nat) (p : Nat) : Nat := tp_sk T t (T - p) p
theorem tp_sk_le {T : Nat} {t : Nat → Nat} : ∀ m p, p ≤ tp_sk T t m p ∧ tp_sk T t m p ≤ p + m
  | 0, p => ⟨Nat.le_refl _, Nat.le_refl _⟩
  | m + 1, p => by
    have := tp_sk_le (T := T) (t := t) m (p + 1)
    rw [tp_sk]
    split <;> omega
theorem tp_sk_not {T : Nat} {t : Nat → Nat} : ∀ m p, tp_sk T t m p < p + m → t (tp_sk T t m p) ≠ 32
  | 0, p, h => absurd h (Nat.lt_irrefl _)
  | m + 1, p, h => by
    rw [tp_sk] at h ⊢
    split at h
    · rename_i e
      rw [if_pos e]; exact tp_sk_not m (p + 1) (by omega)
    · rename_i e
      rw [if_neg e]; exact e
section
variable {T : Nat} {t : Nat → Nat} {p : Nat}
theorem tp_nb_ge : p ≤ tp_nb T t p := (tp_sk_le _ _).1
theorem tp_nb_le (h : p ≤ T) : tp_nb T t p ≤ T := by have := (tp_sk_le (T := T) (t := t) (T - p) p).2; unfold tp_nb; omega
theorem tp_nb_not (h : tp_nb T t p < T) : t (tp_nb T t p) ≠ 32 := tp_sk_not _ _ (by
  have := (tp_sk_le (T := T) (t := t) (T - p) p).1
  unfold tp_nb at h; omega)
theorem tp_nb_end (h : T ≤ p) : tp_nb T t p = p := by unfold tp_nb; rw [show T - p = 0 by omega]; rfl
theorem tp_nb_stay (h : t p ≠ 32) : tp_nb T t p = p := by
  unfold tp_nb
  cases T - p with
  | zero => rfl
  | succ m => rw [tp_sk, if_neg h]
theorem tp_nb_go (h : p < T) (h2 : t p = 32) : tp_nb T t p = tp_nb T t (p + 1) := by
  unfold tp_nb
  rw [show T - p = (T - (p + 1)) + 1 by omega, tp_sk, if_pos h2]
theorem tp_nb_nb (h : p ≤ T) : tp_nb T t (tp_nb T t p) = tp_nb T t p := by
  rcases Nat.lt_or_ge (tp_nb T t p) T with c | c
  · exact tp_nb_stay (tp_nb_not c)
  · exact tp_nb_end c
end
/-- the sign there, 0 at the end -/
def tp_c (T : Nat) (t : Nat → Nat) (q : Nat) : Nat := if q < T then t q else 0
def tp_k (c : Nat) : Nat := if c = 112 then 0 else if c = 115 then 1 else if c = 108 then 2 else if c = 110 then 3 else 9
/-- digits of the work: whether it may end there, where, and which parts -/
def tp_work (T : Nat) (t : Nat → Nat) : Nat → Bool → Nat → Nat → Bool × Nat × Nat
  | 0, _, W, p => (false, tp_nb T t p, W)
  | m + 1, y, W, p => if 48 ≤ tp_c T t (tp_nb T t p) ∧ tp_c T t (tp_nb T t p) ≤ 55 then
      (if W.testBit (tp_c T t (tp_nb T t p) - 48) then (false, tp_nb T t p, W) else tp_work T t m true (W ||| 2 ^ (tp_c T t (tp_nb T t p) - 48)) (tp_nb T t p + 1))
      else (y, tp_nb T t p, W)
/-- one lodger: whether, where its reading ends, kind, need, work -/
def tp_one (T : Nat) (t : Nat → Nat) (p : Nat) : Bool × Nat × Nat × Nat × Nat :=
  let q1 := tp_nb T t p
  let k := tp_k (tp_c T t q1)
  if k = 9 then (false, q1, 0, 0, 0) else
  let q2 := tp_nb T t (q1 + 1)
  let c2 := tp_c T t q2
  if ¬ (49 ≤ c2 ∧ c2 ≤ 52) then (false, q2, 0, 0, 0) else
  let q3 := tp_nb T t (q2 + 1)
  if tp_c T t q3 = 119 then
    let v := tp_work T t 9 false 0 (q3 + 1)
    (v.1, v.2.1, k, c2 - 48, v.2.2)
  else (true, q3, k, c2 - 48, 0)
def tp_all (T : Nat) (t : Nat → Nat) : Nat → Nat → Bool × Nat × List (Nat × Nat × Nat)
  | 0, p => (false, p, [])
  | m + 1, p =>
    let o := tp_one T t p
    if o.1 = false then (false, o.2.1, []) else
    if T ≤ o.2.1 then (true, o.2.1, [o.2.2]) else
    if t o.2.1 = 44 ∧ m ≠ 0 then
      let v := tp_all T t m (o.2.1 + 1)
      (v.1, v.2.1, o.2.2 :: v.2.2)
    else (false, o.2.1, [])
/-! the class's tape -/
def tp_T (o c a : Nat) (T : Nat) (t : Nat → Nat) (w : sx_W) : Prop := w.1 o c = nI T ∧ T ≤ 100 ∧ ∀ i, i < T → w.1 a i = nI (t i) ∧ 32 ≤ t i ∧ t i ≤ 126
theorem sx_u_self {f : Nat → Nat → Int32} {a i : Nat} {v : Int32} (h : f a i = v) : sx_u f a i v = f := by
  funext b j
  by_cases e : b = a
  · rw [e, sx_u_s]
    by_cases e2 : j = i
    · rw [if_pos e2, e2, h]
    · rw [if_neg e2]
  · rw [sx_u_o e]
theorem sx_u_u {f : Nat → Nat → Int32} {a i : Nat} {v v' : Int32} : sx_u (sx_u f a i v) a i v' = sx_u f a i v' := by
  funext b j
  by_cases e : b = a
  · rw [e, sx_u_s, sx_u_s, sx_u_s]
    by_cases e2 : j = i
    · rw [if_pos e2, if_pos e2]
    · rw [if_neg e2, if_neg e2, if_neg e2]
  · rw [sx_u_o e, sx_u_o e, sx_u_o e]
def tp_s (T : Nat) (t : Nat → Nat) (q : Nat) : Int32 := if q < T then nI (t q) else (-1 : Int32)
section
variable {d : Nat} {w : sx_W} {T : Nat} {t : Nat → Nat}
theorem spTa_peek {p : Nat} (h : tp_T 33 1 34 T t w) (hp : p ≤ T) (hw : w.1 33 2 = nI p) : sx_de d rTa_peek [.ref 33] w (tp_s T t (tp_nb T t p)) 0 (sx_u w.1 33 2 (nI (tp_nb T t p)), w.2) := by
  obtain ⟨h1, h2, h3⟩ := h
  intro Q z
  have loop : ∀ i, i ≤ T → p ≤ i → tp_nb T t p = tp_nb T t i → sx_ev d rTa_peek 0 [.ref 33] [] (sx_u w.1 33 2 (nI i), w.2) Q := by
    refine sx_for T (fun hi he => ?_) (fun i hlt ih hi he => ?_)
    · have e1 : sx_u w.1 33 2 (nI T) 33 1 = nI T := by rw [sx_u_s, if_neg (by decide)]; exact h1
      have e2 : sx_u w.1 33 2 (nI T) 33 2 = nI T := by rw [sx_u_s, if_pos rfl]
      have y : sx_u w.1 33 2 (nI T) 33 1 ≤ sx_u w.1 33 2 (nI T) 33 2 := by rw [e1, e2]; exact nI_le (Nat.le_refl _) (by omega)
      rw [he, tp_nb_end (Nat.le_refl _)] at z
      rw [tp_s, if_neg (Nat.lt_irrefl _)] at z
      exact bTa_peek_0 (fun _ => z) (fun c => absurd y c) (fun c => absurd y c) (fun c => absurd y c)
    · have e1 : sx_u w.1 33 2 (nI i) 33 1 = nI T := by rw [sx_u_s, if_neg (by decide)]; exact h1
      have e2 : sx_u w.1 33 2 (nI i) 33 2 = nI i := by rw [sx_u_s, if_pos rfl]
      have n : ¬ sx_u w.1 33 2 (nI i) 33 1 ≤ sx_u w.1 33 2 (nI i) 33 2 := by rw [e1, e2]; exact nI_ge hlt (by omega)
      have hc : (nI i).toNatClampNeg = i := nI_clamp (by omega)
      have e3 : sx_u w.1 33 2 (nI i) 34 (sx_u w.1 33 2 (nI i) 33 2).toNatClampNeg = nI (t i) := by rw [e2, hc, sx_u_o (by decide)]; exact (h3 i hlt).1
      have v : vp_in (sx_u w.1 33 2 (nI i) 33 2) 100 := by rw [e2]; exact vp_in_nI (by omega) (by decide)
      have ht := (h3 i hlt).2
      by_cases hb : t i = 32
      · have y : sx_u w.1 33 2 (nI i) 34 (sx_u w.1 33 2 (nI i) 33 2).toNatClampNeg = (32 : Int32) := by rw [e3, hb]; rfl
        refine bTa_peek_0 (fun c => absurd c n) (fun _ => v) (fun _ c => absurd y c) (fun _ _ => ?_)
        show sx_ev d rTa_peek 0 [.ref 33] [] (sx_u (sx_u w.1 33 2 (nI i)) 33 2 (sx_u w.1 33 2 (nI i) 33 2 + 1), w.2) Q
        rw [e2, sx_u_u, nI_1]
        exact ih (by omega) (by rw [he]; exact tp_nb_go hlt hb)
      · have y : ¬ sx_u w.1 33 2 (nI i) 34 (sx_u w.1 33 2 (nI i) 33 2).toNatClampNeg = (32 : Int32) := by
          rw [e3, show (32 : Int32) = nI 32 from rfl, nI_eq (by omega) (by omega)]; exact hb
        rw [he, tp_nb_stay hb, tp_s, if_pos hlt] at z
        refine bTa_peek_0 (fun c => absurd c n) (fun _ => v) (fun _ _ => ?_) (fun _ c => absurd c y)
        show Q (sx_u w.1 33 2 (nI i) 34 (sx_u w.1 33 2 (nI i) 33 2).toNatClampNeg) 0 (sx_u w.1 33 2 (nI i), w.2)
        rw [e3]; exact z
  have := loop p hp (Nat.le_refl _) rfl
  rw [sx_u_self hw] at this
  exact sx_met_of rfl rfl rfl rfl this
end
