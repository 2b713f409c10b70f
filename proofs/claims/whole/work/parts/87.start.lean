/-! ===== the world behind the two constructors ===== -/
def zz_ho : Nat → Int32 := fun j => if j = 5 then 6 else if j = 6 then 7 else 0
def zz_se : Nat → Int32 := fun j => if j = 9 then -1 else if j = 13 then -1 else 0
def zz_ma : Nat → Int32 := fun j => if j = 6 then -1 else 0
def zz_ni : Nat → Int32 := fun j => if j = 5 then -1 else 0
def zz_sh : Nat → Int32 := fun j => if j = 1 then 1 else 0
def zz_mo : Nat → Int32 := fun j => if j = 6 then 6 else if j = 7 then 7 else 0
def zz_la : Nat → Int32 := upd (upd (upd (upd (fun _ => 0) 0 (-1)) 1 (-1)) 2 (-1)) 3 (-1)
def zz_f : Nat → Nat → Int32 := fun k => if k = 1 then zz_ho else if k = 6 then zz_ho else if k = 16 then zz_se else if k = 24 then zz_ma else if k = 27 then zz_ni else if k = 40 then zz_sh else if k = 42 then zz_sh else if k = 44 then zz_sh else if k = 46 then zz_sh else if k = 48 then zz_mo else if k = 61 then zz_la else fun _ => 0
def zz_w : sx_W := (zz_f, fun _ _ => 0)
theorem zz_up {q : Nat → Nat} {ad : Nat → Nat} (h0 : ad 40 = q 40) (h1 : ad 42 = q 42) (h2 : ad 44 = q 44) (h3 : ad 46 = q 46) : va_up (va_up (va_up (va_up (fun _ => none) 0 (some (q 40))) 1 (some (q 42))) 2 (some (q 44))) 3 (some (q 46)) = fun i => ((sx_nth [some 40, some 42, some 44, some 46] i).join).map ad := by
  funext i
  match i with
  | 0 => show some (q 40) = some (ad 40); rw [h0]
  | 1 => show some (q 42) = some (ad 42); rw [h1]
  | 2 => show some (q 44) = some (ad 44); rw [h2]
  | 3 => show some (q 46) = some (ad 46); rw [h3]
  | n + 4 => simp [va_up, sx_nth]
set_option maxHeartbeats 4000000 in
set_option maxRecDepth 20000 in
theorem zz_all {K : dx_K} {h0 h1 : Nat} {u v : va_W} (hu : pSb K h0 u) (hv : pMo K h1 v) : ∃ ad : Nat → Nat, ad 0 = h0 ∧ ad 48 = h1 ∧ u ++ v = sx_wl (K.1, ad, K.2.1, K.2.2.1, K.2.2.2) zz_w := by
  obtain ⟨q, e1, rfl⟩ := hu
  obtain ⟨q', e2, rfl⟩ := hv
  refine ⟨fun k => if k < 48 then q k else q' k, e1, e2, ?_⟩
  have e := zz_up (q := q) (ad := fun k => if k < 48 then q k else q' k) rfl rfl rfl rfl
  unfold wSb
  rw [e]
  rfl
def zz_S : sa_S := (((0, fun _ => 0, fun _ => 1, fun _ => 0), 6, 7, false, fun _ => 0), none, (0, fun _ => 32), (fun _ => 9, fun _ => 0, fun _ _ => 0))
theorem zz_m1 : ¬ (-1 : Int32) = 0 := by decide
theorem zz_R : sa_R 0 zz_w := by
  have nz : ∀ i, ¬ i < 0 := Nat.not_lt_zero
  have ok0 : sg_ok (0, fun _ => 0, fun _ => 1, fun _ => 0) := ⟨by decide, fun i hi => absurd hi (nz i)⟩
  have shk : sh_ok (fun _ => 9, fun _ => 0, fun _ _ => 0) := fun k hk => ⟨Or.inr rfl, Nat.zero_le 16⟩
  refine ⟨zz_S, 0, Nat.le_refl 0, ⟨⟨⟨⟨ok0, rfl, fun i hi => absurd hi (nz i)⟩, fun l hl => absurd hl (nz l), rfl, by decide, fun i hi => ⟨rfl, show 0 < 8 by decide⟩⟩, rfl, rfl, ⟨⟨fun c => absurd c zz_m1, fun c => absurd c zz_m1⟩, fun c => absurd c zz_m1, fun c => absurd c zz_m1⟩, rfl, Or.inr ⟨0, Nat.le_refl _, rfl⟩, Or.inl rfl, Or.inl rfl, Or.inl rfl, Or.inl rfl⟩, rfl, ⟨rfl, by decide, fun i hi => absurd hi (nz i)⟩, shk, fun k hk => ?_⟩, ⟨⟨⟨ok0, rfl, fun i hi => absurd hi (nz i)⟩, rfl, by decide, rfl, fun c => absurd c Bool.false_ne_true⟩, rfl⟩, rfl, ⟨rfl, by decide, fun i hi => absurd hi (nz i)⟩, shk, fun k hk => ?_⟩
  · refine ⟨?_, fun c => absurd c (show ¬ 9 < 3 by decide), ?_, fun i _ => rfl⟩
    · match k, hk with
      | 0, _ => rfl
      | 1, _ => rfl
      | 2, _ => rfl
      | 3, _ => rfl
      | n + 4, h => omega
    · match k, hk with
      | 0, _ => rfl
      | 1, _ => rfl
      | 2, _ => rfl
      | 3, _ => rfl
      | n + 4, h => omega
  · refine ⟨?_, rfl, fun i _ => rfl⟩
    match k, hk with
    | 0, _ => rfl
    | 1, _ => rfl
    | 2, _ => rfl
    | 3, _ => rfl
    | n + 4, h => omega
