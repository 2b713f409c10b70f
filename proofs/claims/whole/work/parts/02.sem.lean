/-! ===== an abstract machine over the kit's worlds: cells by small numbers, ints and longs as functions ===== -/
def sx_T : List Cond := lw_tbl.filter goodWord
theorem sx_in {w : Cond} (i : Nat) (h : lw_tbl[i]? = some w) (g : goodWord w = true) : w ∈ sx_T := List.mem_filter.mpr ⟨List.mem_of_getElem? h, g⟩
theorem sx_gi {c : Cond} {ws : List Cond} (h : ∀ w ∈ ws, w ∈ sx_T) : GoodIn (c :: sx_T) ws := fun w hw => ⟨List.mem_cons_of_mem _ (h w hw), good_of_word (List.mem_filter.mp (h w hw)).2⟩
abbrev sx_W : Type := (Nat → Nat → Int32) × (Nat → Nat → Int64)
abbrev sx_S : Type := Nat × Nat × List (Option Nat)
abbrev sx_G : Type := va_G × (Nat → Nat) × ClassId × ClassId × ClassId
abbrev sx_R : Type := MethodName × ByteArray × Nat × Option FieldType
abbrev sx_O : Type := Instr × Nat × Nat × Int32
abbrev sx_M : Type := sx_R × Nat × List (Nat × sx_O)
abbrev sx_Q : Type := Int32 → Int64 → sx_W → Prop
def sx_lk {α : Type} : List (Nat × α) → Nat → Option α
  | [], _ => none
  | q :: t, n => bif Nat.beq q.1 n then some q.2 else sx_lk t n
def sx_nth {α : Type} : List α → Nat → Option α
  | [], _ => none
  | a :: _, 0 => some a
  | _ :: t, n + 1 => sx_nth t n
def sx_u (f : Nat → Nat → Int32) (k j : Nat) (x : Int32) : Nat → Nat → Int32 := fun a => if a = k then upd (f a) j x else f a
def sx_ul (f : Nat → Nat → Int64) (k j : Nat) (x : Int64) : Nat → Nat → Int64 := fun a => if a = k then vp_updL (f a) j x else f a
def sx_cp (f : Nat → Nat → Int32) (k1 k2 sp dp n : Nat) : Nat → Nat → Int32 := fun a => if a = k2 then va_cpy (f k1) (f a) sp dp n else f a
def sx_cpl (f : Nat → Nat → Int64) (k1 k2 sp dp n : Nat) : Nat → Nat → Int64 := fun a => if a = k2 then va_cpy (f k1) (f a) sp dp n else f a
def sx_v (ad : Nat → Nat) : Value → Value
  | .ref k => .ref (ad k)
  | v => v
def sx_f (ad : Nat → Nat) (g : Nat → Int32) : Nat → List (Option Nat) → List Value
  | _, [] => []
  | j, none :: t => .int (g j) :: sx_f ad g (j + 1) t
  | j, some r :: t => .ref (ad r) :: sx_f ad g (j + 1) t
def sx_e (G : sx_G) (w : sx_W) (k : Nat) (s : sx_S) : va_E := match s.1 with
  | 0 => .inr (s.2.1, sx_f G.2.1 (w.1 k) 0 s.2.2)
  | 1 => .inl (G.2.2.1, s.2.1, .inl (w.1 k))
  | 2 => .inl (G.2.2.2.1, s.2.1, .inr (.inl (w.2 k)))
  | _ => .inl (G.2.2.2.2, s.2.1, .inr (.inr (.inr (.inr (fun i => ((sx_nth s.2.2 i).join).map G.2.1)))))
def sx_wsF (G : sx_G) (w : sx_W) : Nat → List sx_S → va_W
  | _, [] => []
  | k, s :: t => (G.2.1 k, sx_e G w k s) :: sx_wsF G w (k + 1) t
theorem sx_wsF_get (G : sx_G) (w : sx_W) : ∀ (l : List sx_S) (k i : Nat), (sx_wsF G w k l)[i]? = (sx_nth l i).map (fun s => (G.2.1 (k + i), sx_e G w (k + i) s))
  | [], _, _ => rfl
  | s :: t, k, 0 => rfl
  | s :: t, k, i + 1 => by
    show (sx_wsF G w (k + 1) t)[i]? = _
    rw [sx_wsF_get G w t (k + 1) i, Nat.add_right_comm k 1 i]
    rfl
theorem sx_wsF_len (G : sx_G) (w : sx_W) : ∀ (l : List sx_S) (k : Nat), (sx_wsF G w k l).length = l.length
  | [], _ => rfl
  | s :: t, k => by simp [sx_wsF, sx_wsF_len G w t (k + 1)]
theorem sx_nth_lt {α : Type} : ∀ (l : List α) (i : Nat) (a : α), sx_nth l i = some a → i < l.length
  | [], _, _, h => by cases h
  | _ :: _, 0, _, _ => Nat.succ_pos _
  | _ :: t, i + 1, a, h => Nat.succ_lt_succ (sx_nth_lt t i a h)
/-- a row of the world is written: the list of cells with it -/
theorem sx_wsF_set (G : sx_G) (w w2 : sx_W) (l : List sx_S) (k : Nat) (s : sx_S) (hk : sx_nth l k = some s) (h1 : ∀ a, a ≠ k → w2.1 a = w.1 a) (h2 : ∀ a, a ≠ k → w2.2 a = w.2 a) :
    (sx_wsF G w 0 l).set k (G.2.1 k, sx_e G w2 k s) = sx_wsF G w2 0 l := by
  apply List.ext_getElem?
  intro i
  rw [List.getElem?_set, sx_wsF_get, sx_wsF_get, sx_wsF_len]
  by_cases hi : k = i
  · subst hi
    rw [if_pos rfl, if_pos (sx_nth_lt l k s hk), hk]
    simp
  · rw [if_neg hi]
    congr 1
    funext s
    have e1 := h1 (0 + i) (by omega)
    have e2 := h2 (0 + i) (by omega)
    simp only [sx_e, e1, e2]
theorem sx_f_get (ad : Nat → Nat) (g : Nat → Int32) : ∀ (l : List (Option Nat)) (i j : Nat), (sx_f ad g i l)[j]? = (sx_nth l j).map (fun o => match o with | none => Value.int (g (i + j)) | some r => .ref (ad r))
  | [], _, _ => rfl
  | none :: t, i, 0 => rfl
  | some r :: t, i, 0 => rfl
  | none :: t, i, j + 1 => by
    show (sx_f ad g (i + 1) t)[j]? = _
    rw [sx_f_get ad g t (i + 1) j, Nat.add_right_comm i 1 j]
    rfl
  | some r :: t, i, j + 1 => by
    show (sx_f ad g (i + 1) t)[j]? = _
    rw [sx_f_get ad g t (i + 1) j, Nat.add_right_comm i 1 j]
    rfl
theorem sx_f_len (ad : Nat → Nat) (g : Nat → Int32) : ∀ (l : List (Option Nat)) (i : Nat), (sx_f ad g i l).length = l.length
  | [], _ => rfl
  | none :: t, i => by simp [sx_f, sx_f_len ad g t (i + 1)]
  | some r :: t, i => by simp [sx_f, sx_f_len ad g t (i + 1)]
theorem sx_f_set (ad : Nat → Nat) (g : Nat → Int32) (x : Int32) (l : List (Option Nat)) (j : Nat) (hj : sx_nth l j = some none) : (sx_f ad g 0 l).set j (.int x) = sx_f ad (upd g j x) 0 l := by
  apply List.ext_getElem?
  intro i
  rw [List.getElem?_set, sx_f_get, sx_f_get, sx_f_len]
  by_cases hi : j = i
  · subst hi
    rw [if_pos rfl, if_pos (sx_nth_lt l j _ hj), hj]
    simp [upd]
  · rw [if_neg hi]
    congr 1
    funext o
    cases o with
    | none => simp [upd, show ¬ i = j from fun q => hi q.symm]
    | some r => rfl
/-! locals: a row of values, null where nothing is known -/
def sx_L (ad : Nat → Nat) (ls : Array Slot) (nL : Nat) (lo : List Value) : Prop := ls.size = nL ∧ lv_wf ls ∧ lo.length = nL ∧ ∀ (i : Nat) (v : Value), sx_nth lo i = some v → v ≠ .null → ls[i]? = some (.val (sx_v ad v))
def sx_is2 : Value → Bool
  | .long _ => true
  | .double _ => true
  | _ => false
/-- the place ahead loses a long whose second half is overwritten -/
def sx_kill : List Value → Nat → List Value
  | v :: t, 1 => (bif sx_is2 v then .null else v) :: t
  | v :: t, n + 2 => v :: sx_kill t (n + 1)
  | l, _ => l
def sx_put : List Value → Nat → Value → List Value
  | _ :: t, 0, x => x :: t
  | v :: t, n + 1, x => v :: sx_put t n x
  | [], _, _ => []
def sx_sto (lo : List Value) (i : Nat) (x : Value) : List Value := sx_put (sx_kill lo i) i x
def sx_st2 (lo : List Value) (i : Nat) (x : Value) : List Value := sx_put (sx_put (sx_kill lo i) i x) (i + 1) .null
def sx_kp : List Bool → List Value → List Value
  | b :: bs, v :: vs => (bif b then v else .null) :: sx_kp bs vs
  | _, l => l
theorem sx_put_get : ∀ (l : List Value) (i : Nat) (x : Value) (j : Nat), sx_nth (sx_put l i x) j = if j = i then (if i < l.length then some x else none) else sx_nth l j
  | [], i, x, j => by simp [sx_put, sx_nth]
  | v :: t, 0, x, 0 => by simp [sx_put, sx_nth]
  | v :: t, 0, x, j + 1 => by simp [sx_put, sx_nth]
  | v :: t, n + 1, x, 0 => by simp [sx_put, sx_nth]
  | v :: t, n + 1, x, j + 1 => by simp [sx_put, sx_nth, sx_put_get t n x j]
theorem sx_put_len : ∀ (l : List Value) (i : Nat) (x : Value), (sx_put l i x).length = l.length
  | [], _, _ => rfl
  | _ :: _, 0, _ => rfl
  | v :: t, n + 1, x => by simp [sx_put, sx_put_len t n x]
theorem sx_kill_len : ∀ (l : List Value) (i : Nat), (sx_kill l i).length = l.length
  | [], i => by cases i <;> first | rfl | (rename_i n; cases n <;> rfl)
  | _ :: _, 0 => rfl
  | _ :: _, 1 => rfl
  | v :: t, n + 2 => by simp [sx_kill, sx_kill_len t (n + 1)]
theorem sx_kill_get : ∀ (l : List Value) (i j : Nat) (v : Value), sx_nth (sx_kill l i) j = some v → v ≠ .null → sx_nth l j = some v ∧ ¬ (j + 1 = i ∧ sx_is2 v = true)
  | [], i, j, v, h, hn => by
    have e : sx_kill [] i = [] := by cases i <;> first | rfl | (rename_i n; cases n <;> rfl)
    rw [e] at h
    cases h
  | u :: t, 0, j, v, h, hn => ⟨h, fun q => by omega⟩
  | u :: t, 1, 0, v, h, hn => by
    have h2 : (bif sx_is2 u then Value.null else u) = v := Option.some.inj h
    cases hu : sx_is2 u with
    | true => rw [hu] at h2; exact absurd h2.symm hn
    | false =>
      rw [hu] at h2
      have h3 : u = v := h2
      subst h3
      exact ⟨rfl, fun q => by rw [hu] at q; exact absurd q.2 (by decide)⟩
  | u :: t, 1, j + 1, v, h, hn => ⟨h, fun q => by omega⟩
  | u :: t, n + 2, 0, v, h, hn => ⟨h, fun q => by omega⟩
  | u :: t, n + 2, j + 1, v, h, hn => by
    have h3 := sx_kill_get t (n + 1) j v h hn
    exact ⟨h3.1, fun q => h3.2 ⟨by omega, q.2⟩⟩
def sx_lp (ad : Nat → Nat) : Nat → List Value → List (Nat × Value)
  | _, [] => []
  | i, v :: t => if v = .null then sx_lp ad (i + 1) t else (i, sx_v ad v) :: sx_lp ad (i + 1) t
theorem sx_lp_mem (ad : Nat → Nat) : ∀ (l : List Value) (k : Nat) (q : Nat × Value), q ∈ sx_lp ad k l ↔ ∃ (i : Nat) (v : Value), sx_nth l i = some v ∧ v ≠ .null ∧ q = (k + i, sx_v ad v)
  | [], k, q => by simp [sx_lp, sx_nth]
  | v :: t, k, q => by
    have ih := sx_lp_mem ad t (k + 1) q
    have split : (∃ (i : Nat) (u : Value), sx_nth (v :: t) i = some u ∧ u ≠ .null ∧ q = (k + i, sx_v ad u)) ↔ (v ≠ .null ∧ q = (k, sx_v ad v)) ∨ ∃ (i : Nat) (u : Value), sx_nth t i = some u ∧ u ≠ .null ∧ q = (k + 1 + i, sx_v ad u) := by
      constructor
      · rintro ⟨i, u, h1, h2, h3⟩
        cases i with
        | zero =>
          have e : v = u := Option.some.inj h1
          subst e
          exact Or.inl ⟨h2, h3⟩
        | succ i => exact Or.inr ⟨i, u, h1, h2, by rw [h3]; congr 1; omega⟩
      · rintro (⟨h1, h2⟩ | ⟨i, u, h1, h2, h3⟩)
        · exact ⟨0, v, rfl, h1, h2⟩
        · exact ⟨i + 1, u, h1, h2, by rw [h3]; congr 1; omega⟩
    rw [split, ← ih]
    show q ∈ (if v = .null then sx_lp ad (k + 1) t else (k, sx_v ad v) :: sx_lp ad (k + 1) t) ↔ _
    by_cases hv : v = .null
    · rw [if_pos hv]
      simp [hv]
    · rw [if_neg hv]
      simp [hv]
theorem sx_v_cat (ad : Nat → Nat) (v : Value) : (sx_v ad v).category = v.category := by cases v <;> rfl
theorem sx_is2_cat (v : Value) : sx_is2 v = true ↔ v.category = 2 := by cases v <;> simp [sx_is2, Value.category]
theorem sx_L.has {ad : Nat → Nat} {ls : Array Slot} {nL : Nat} {lo : List Value} (h : sx_L ad ls nL lo) : lv_has ls nL (sx_lp ad 0 lo) := by
  refine ⟨h.1, h.2.1, fun q hq => ?_⟩
  obtain ⟨i, v, h1, h2, rfl⟩ := (sx_lp_mem ad lo 0 q).mp hq
  rw [Nat.zero_add]
  exact h.2.2.2 i v h1 h2
theorem sx_L.sto {ad : Nat → Nat} {ls : Array Slot} {nL : Nat} {lo : List Value} (h : sx_L ad ls nL lo) {i : Nat} {x : Value} (hi : i < nL) (hc : x.category = 1) :
    ∃ ls', storeLocals ls i (sx_v ad x) = some ls' ∧ sx_L ad ls' nL (sx_sto lo i x) := by
  obtain ⟨ls', e, h1, h2, h3⟩ := lv_store1 (v := sx_v ad x) h.has hi (by rw [sx_v_cat]; exact hc)
  refine ⟨ls', e, h1, h2, by rw [sx_sto, sx_put_len, sx_kill_len]; exact h.2.2.1, fun j v hj hn => ?_⟩
  rw [sx_sto, sx_put_get] at hj
  by_cases hji : j = i
  · subst hji
    rw [if_pos rfl] at hj
    split at hj
    · cases hj; exact h3 _ List.mem_cons_self
    · cases hj
  · rw [if_neg hji] at hj
    obtain ⟨g1, g2⟩ := sx_kill_get lo i j v hj hn
    refine h3 (j, sx_v ad v) (List.mem_cons_of_mem _ (List.mem_filter.mpr ⟨(sx_lp_mem ad lo 0 _).mpr ⟨j, v, g1, hn, by rw [Nat.zero_add]⟩, ?_⟩))
    simp only [Bool.and_eq_true, Bool.not_eq_true', beq_eq_false_iff_ne, Bool.and_eq_false_iff]
    refine ⟨hji, ?_⟩
    by_cases hj1 : j + 1 = i
    · exact Or.inr (fun q => g2 ⟨hj1, (sx_is2_cat v).mpr (by rw [← sx_v_cat ad v]; exact q)⟩)
    · exact Or.inl hj1
theorem sx_L.st2 {ad : Nat → Nat} {ls : Array Slot} {nL : Nat} {lo : List Value} (h : sx_L ad ls nL lo) {i : Nat} {x : Value} (hi : i + 1 < nL) (hc : x.category = 2) :
    ∃ ls', storeLocals ls i (sx_v ad x) = some ls' ∧ sx_L ad ls' nL (sx_st2 lo i x) := by
  obtain ⟨ls', e, h1, h2, h3⟩ := lv_store2 (v := sx_v ad x) h.has hi (by rw [sx_v_cat]; exact hc)
  refine ⟨ls', e, h1, h2, by rw [sx_st2, sx_put_len, sx_put_len, sx_kill_len]; exact h.2.2.1, fun j v hj hn => ?_⟩
  rw [sx_st2, sx_put_get] at hj
  by_cases hj2 : j = i + 1
  · rw [if_pos hj2] at hj
    split at hj
    · cases hj; exact absurd rfl hn
    · cases hj
  · rw [if_neg hj2, sx_put_get] at hj
    by_cases hji : j = i
    · subst hji
      rw [if_pos rfl] at hj
      split at hj
      · cases hj; exact h3 _ List.mem_cons_self
      · cases hj
    · rw [if_neg hji] at hj
      obtain ⟨g1, g2⟩ := sx_kill_get lo i j v hj hn
      refine h3 (j, sx_v ad v) (List.mem_cons_of_mem _ (List.mem_filter.mpr ⟨(sx_lp_mem ad lo 0 _).mpr ⟨j, v, g1, hn, by rw [Nat.zero_add]⟩, ?_⟩))
      simp only [Bool.and_eq_true, Bool.not_eq_true', beq_eq_false_iff_ne, Bool.and_eq_false_iff]
      refine ⟨hji, hj2, ?_⟩
      by_cases hj1 : j + 1 = i
      · exact Or.inr (fun q => g2 ⟨hj1, (sx_is2_cat v).mpr (by rw [← sx_v_cat ad v]; exact q)⟩)
      · exact Or.inl hj1
theorem sx_kp_get : ∀ (bs : List Bool) (l : List Value) (i : Nat) (v : Value), sx_nth (sx_kp bs l) i = some v → v ≠ .null → sx_nth l i = some v
  | [], l, i, v, h, _ => by cases l <;> exact h
  | b :: bs, [], i, v, h, _ => by exact h
  | b :: bs, u :: us, 0, v, h, hn => by
    cases b with
    | true => exact h
    | false => exact absurd (Option.some.inj h).symm hn
  | b :: bs, u :: us, i + 1, v, h, hn => sx_kp_get bs us i v h hn
theorem sx_kp_len : ∀ (bs : List Bool) (l : List Value), (sx_kp bs l).length = l.length
  | [], l => by cases l <;> rfl
  | b :: bs, [] => rfl
  | b :: bs, u :: us => by simp [sx_kp, sx_kp_len bs us]
theorem sx_L.kp {ad : Nat → Nat} {ls : Array Slot} {nL : Nat} {lo : List Value} (h : sx_L ad ls nL lo) (bs : List Bool) : sx_L ad ls nL (sx_kp bs lo) :=
  ⟨h.1, h.2.1, by rw [sx_kp_len]; exact h.2.2.1, fun i v hi hn => h.2.2.2 i v (sx_kp_get bs lo i v hi hn) hn⟩
