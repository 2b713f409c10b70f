/-! ===== leave, both sides ===== -/
def sg_sk (l k i : Nat) : Nat := if l ≤ i ∧ i < k then i + 1 else i
def sg_rm (L : sg_L) (l : Nat) : sg_L := (L.1 - 1, fun i => L.2.1 (sg_sk l 7 i), fun i => L.2.2.1 (sg_sk l 7 i), fun i => L.2.2.2 (sg_sk l 7 i))
theorem sg_sk_lt {n l i : Nat} (hi : i < n - 1) : sg_sk l 7 i < n := by
  unfold sg_sk
  split <;> omega
theorem sg_rm_ok {L : sg_L} {l : Nat} (h : sg_ok L) : sg_ok (sg_rm L l) := ⟨by show L.1 - 1 ≤ 7; have := h.1; omega, fun i hi => h.2 _ (sg_sk_lt hi)⟩
def sl_leave (L : sg_L) (x : Int32) : Int32 := if sz_in x L.1 then nI (L.1 - 1) else -1
/-- lodgers behind l moved as far as k -/
def sg_mid (a b c : Nat) (L : sg_L) (l k : Nat) (u : sx_W) : Prop := ∀ i, i < L.1 → u.1 a i = nI (L.2.1 (sg_sk l k i)) ∧ u.1 b i = nI (L.2.2.1 (sg_sk l k i)) ∧ u.1 c i = nI (L.2.2.2 (sg_sk l k i))
theorem sg_mid_step {a b c l k : Nat} {L : sg_L} {u : sx_W} (hab : a ≠ b) (hac : a ≠ c) (hbc : b ≠ c) (hl : l ≤ k) (hk : k + 1 < L.1) (h : sg_mid a b c L l k u) : sg_mid a b c L l (k + 1) (sx_u (sx_u (sx_u u.1 a k (u.1 a (k + 1))) b k (u.1 b (k + 1))) c k (u.1 c (k + 1)), u.2) := by
  intro i hi
  have fa : sx_u (sx_u (sx_u u.1 a k (u.1 a (k + 1))) b k (u.1 b (k + 1))) c k (u.1 c (k + 1)) a i = if i = k then u.1 a (k + 1) else u.1 a i := by rw [sx_u_o hac, sx_u_o hab, sx_u_s]
  have fb : sx_u (sx_u (sx_u u.1 a k (u.1 a (k + 1))) b k (u.1 b (k + 1))) c k (u.1 c (k + 1)) b i = if i = k then u.1 b (k + 1) else u.1 b i := by rw [sx_u_o hbc, sx_u_s, sx_u_o hab.symm]
  have fc : sx_u (sx_u (sx_u u.1 a k (u.1 a (k + 1))) b k (u.1 b (k + 1))) c k (u.1 c (k + 1)) c i = if i = k then u.1 c (k + 1) else u.1 c i := by rw [sx_u_s, sx_u_o hbc.symm, sx_u_o hac.symm]
  show sx_u (sx_u (sx_u u.1 a k (u.1 a (k + 1))) b k (u.1 b (k + 1))) c k (u.1 c (k + 1)) a i = _ ∧ sx_u (sx_u (sx_u u.1 a k (u.1 a (k + 1))) b k (u.1 b (k + 1))) c k (u.1 c (k + 1)) b i = _ ∧ sx_u (sx_u (sx_u u.1 a k (u.1 a (k + 1))) b k (u.1 b (k + 1))) c k (u.1 c (k + 1)) c i = _
  rw [fa, fb, fc]
  by_cases e : i = k
  · rw [if_pos e, if_pos e, if_pos e]
    have h2 := h (k + 1) hk
    have e1 : sg_sk l k (k + 1) = k + 1 := by unfold sg_sk; rw [if_neg (by omega)]
    have e2 : sg_sk l (k + 1) i = k + 1 := by unfold sg_sk; rw [if_pos (by omega), e]
    rw [e1] at h2
    rw [e2]; exact h2
  · rw [if_neg e, if_neg e, if_neg e]
    have e2 : sg_sk l (k + 1) i = sg_sk l k i := by
      unfold sg_sk
      by_cases c1 : l ≤ i ∧ i < k
      · rw [if_pos c1, if_pos (by omega)]
      · rw [if_neg c1, if_neg (by omega)]
    rw [e2]; exact h i hi
theorem sg_mid_end {l i : Nat} {n : Nat} (hn : n ≤ 7) (hi : i < n - 1) : sg_sk l (n - 1) i = sg_sk l 7 i := by
  unfold sg_sk
  by_cases c1 : l ≤ i ∧ i < n - 1
  · rw [if_pos c1, if_pos (by omega)]
  · rw [if_neg c1, if_neg (by omega)]
theorem sg_mid_0 {a b c l : Nat} {L : sg_L} {u : sx_W} (h : ∀ i, i < L.1 → u.1 a i = nI (L.2.1 i) ∧ u.1 b i = nI (L.2.2.1 i) ∧ u.1 c i = nI (L.2.2.2 i)) : sg_mid a b c L l l u := fun i hi => by
  have e : sg_sk l l i = i := by unfold sg_sk; rw [if_neg (by omega)]
  rw [e]; exact h i hi
