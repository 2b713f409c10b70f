/-! ===== the constructors, written by program ===== -/
set_option maxRecDepth 100000 in
theorem dx_oi : Cond.instanceMethod Lib.objectInit ∈ sx_T := sx_in 72 (by decide +kernel) rfl
set_option maxRecDepth 100000 in
theorem dx_oc : Cond.code Lib.objectInit ⟨#[0xb1]⟩ 1 none ∈ sx_T := sx_in 73 rfl rfl
set_option maxRecDepth 100000 in
theorem dx_ai : Cond.arrayClass .int ∈ sx_T := sx_in 139 (by decide +kernel) rfl
set_option maxRecDepth 100000 in
theorem dx_al : Cond.arrayClass .long ∈ sx_T := sx_in 165 (by decide +kernel) rfl
def rHo_init : sx_R := (⟨"SixBeds$House", "<init>", "()V"⟩, prog_2_method_1_code, 1, none)
def cHo_init : List sx_I := [(0, .aload_n 0, 1, 1), (1, .invokespecial 3, 3, 4), (4, .aload_n 0, 1, 5), (5, .bipush 7, 2, 7), (7, .newarray .int, 2, 9), (9, .putfield 9, 3, 12), (12, .aload_n 0, 1, 13), (13, .bipush 7, 2, 15), (15, .newarray .int, 2, 17), (17, .putfield 15, 3, 20), (20, .aload_n 0, 1, 21), (21, .bipush 7, 2, 23), (23, .newarray .int, 2, 25), (25, .putfield 18, 3, 28), (28, .aload_n 0, 1, 29), (29, .bipush 7, 2, 31), (31, .newarray .int, 2, 33), (33, .putfield 21, 3, 36), (36, .aload_n 0, 1, 37), (37, .iconst 0, 1, 38), (38, .putfield 24, 3, 41), (41, .aload_n 0, 1, 42), (42, .bipush 6, 2, 44), (44, .putfield 28, 3, 47), (47, .aload_n 0, 1, 48), (48, .bipush 7, 2, 50), (50, .putfield 31, 3, 53), (53, .aload_n 0, 1, 54), (54, .iconst 0, 1, 55), (55, .putfield 34, 3, 58), (58, .aload_n 0, 1, 59), (59, .iconst 0, 1, 60), (60, .putfield 38, 3, 63), (63, .aload_n 0, 1, 64), (64, .iconst 0, 1, 65), (65, .putfield 41, 3, 68), (68, .return_, 1, 69)]
set_option maxRecDepth 100000 in
theorem dHo_init : sx_ok rHo_init cHo_init := by unfold sx_ok; decide +kernel
set_option maxRecDepth 100000 in
theorem kHo_init : dx_rok 0 rHo_init := ⟨sx_in 78 rfl rfl, sx_in 56 (by decide +kernel) rfl, sx_in 77 (by decide +kernel) rfl, rfl, ⟨by decide, by decide, by decide +kernel⟩, by decide, rfl⟩
set_option maxRecDepth 100000 in
theorem oHo_init : Cond.methodLink rHo_init.1.cls 3 Lib.objectInit ∈ sx_T := sx_in 79 (by decide +kernel) rfl
def rmHo : Room := { frames := 2, cells := 4, slots := 28, locals := 60 }
def pHo (K : dx_K) (h0 : Nat) : va_W → Prop := fun u => ∃ q1 q2 q3 q4 : Nat, u = [(h0, .inr (0, [.ref q1, .ref q2, .ref q3, .ref q4, .int (0 : Int32), .int (6 : Int32), .int (7 : Int32), .int (0 : Int32), .int (0 : Int32), .int (0 : Int32)])), (q1, .inl (K.2.1, 7, .inl (fun _ => 0))), (q2, .inl (K.2.1, 7, .inl (fun _ => 0))), (q3, .inl (K.2.1, 7, .inl (fun _ => 0))), (q4, .inl (K.2.1, 7, .inl (fun _ => 0)))]
set_option maxHeartbeats 4000000 in
theorem nHo {K : dx_K} {h0 : Nat} : dx_met K rHo_init rmHo [.ref h0] [(h0, .inr (0, [.null, .null, .null, .null, .int 0, .int 0, .int 0, .int 0, .int 0, .int 0]))] (pHo K h0 ) := by
  refine dx_met_of rfl rfl rfl rfl rfl ?_
  refine dx_aload_n (dHo_init.at 0 rfl) rfl ?_
  refine dx_objInit (dHo_init.at 1 rfl) oHo_init dx_oi dx_oc (by decide) (by decide) (by decide) ?_
  refine dx_aload_n (dHo_init.at 2 rfl) rfl ?_
  refine dx_bipush (v := (7 : Int32)) (dHo_init.at 3 rfl) (by decide) ?_
  refine dx_newi (N := 7) (dHo_init.at 4 rfl) dx_ai (by decide) (by decide) (by decide) (by decide) (by decide) (fun q1 => ?_)
  refine dx_putF (q0 := 0) (ws' := [(h0, .inr (0, [.ref q1, .null, .null, .null, .int 0, .int 0, .int 0, .int 0, .int 0, .int 0])), (q1, .inl (K.2.1, 7, .inl (fun _ => 0)))]) (dHo_init.at 5 rfl) (own := 0) rfl fkHo_9 rfl rfl rfl rfl (ykHo 0 (by decide)) rfl rfl rfl (Nat.le_of_ble_eq_true rfl) rfl ?_
  refine dx_aload_n (dHo_init.at 6 rfl) rfl ?_
  refine dx_bipush (v := (7 : Int32)) (dHo_init.at 7 rfl) (by decide) ?_
  refine dx_newi (N := 7) (dHo_init.at 8 rfl) dx_ai (by decide) (by decide) (by decide) (by decide) (by decide) (fun q2 => ?_)
  refine dx_putF (q0 := 0) (ws' := [(h0, .inr (0, [.ref q1, .ref q2, .null, .null, .int 0, .int 0, .int 0, .int 0, .int 0, .int 0])), (q1, .inl (K.2.1, 7, .inl (fun _ => 0))), (q2, .inl (K.2.1, 7, .inl (fun _ => 0)))]) (dHo_init.at 9 rfl) (own := 0) rfl fkHo_15 rfl rfl rfl rfl (ykHo 1 (by decide)) rfl rfl rfl (Nat.le_of_ble_eq_true rfl) rfl ?_
  refine dx_aload_n (dHo_init.at 10 rfl) rfl ?_
  refine dx_bipush (v := (7 : Int32)) (dHo_init.at 11 rfl) (by decide) ?_
  refine dx_newi (N := 7) (dHo_init.at 12 rfl) dx_ai (by decide) (by decide) (by decide) (by decide) (by decide) (fun q3 => ?_)
  refine dx_putF (q0 := 0) (ws' := [(h0, .inr (0, [.ref q1, .ref q2, .ref q3, .null, .int 0, .int 0, .int 0, .int 0, .int 0, .int 0])), (q1, .inl (K.2.1, 7, .inl (fun _ => 0))), (q2, .inl (K.2.1, 7, .inl (fun _ => 0))), (q3, .inl (K.2.1, 7, .inl (fun _ => 0)))]) (dHo_init.at 13 rfl) (own := 0) rfl fkHo_18 rfl rfl rfl rfl (ykHo 2 (by decide)) rfl rfl rfl (Nat.le_of_ble_eq_true rfl) rfl ?_
  refine dx_aload_n (dHo_init.at 14 rfl) rfl ?_
  refine dx_bipush (v := (7 : Int32)) (dHo_init.at 15 rfl) (by decide) ?_
  refine dx_newi (N := 7) (dHo_init.at 16 rfl) dx_ai (by decide) (by decide) (by decide) (by decide) (by decide) (fun q4 => ?_)
  refine dx_putF (q0 := 0) (ws' := [(h0, .inr (0, [.ref q1, .ref q2, .ref q3, .ref q4, .int 0, .int 0, .int 0, .int 0, .int 0, .int 0])), (q1, .inl (K.2.1, 7, .inl (fun _ => 0))), (q2, .inl (K.2.1, 7, .inl (fun _ => 0))), (q3, .inl (K.2.1, 7, .inl (fun _ => 0))), (q4, .inl (K.2.1, 7, .inl (fun _ => 0)))]) (dHo_init.at 17 rfl) (own := 0) rfl fkHo_21 rfl rfl rfl rfl (ykHo 3 (by decide)) rfl rfl rfl (Nat.le_of_ble_eq_true rfl) rfl ?_
  refine dx_aload_n (dHo_init.at 18 rfl) rfl ?_
  refine dx_iconst (v := (0 : Int32)) (dHo_init.at 19 rfl) (by decide) ?_
  refine dx_put (q0 := 0) (ws' := [(h0, .inr (0, [.ref q1, .ref q2, .ref q3, .ref q4, .int (0 : Int32), .int 0, .int 0, .int 0, .int 0, .int 0])), (q1, .inl (K.2.1, 7, .inl (fun _ => 0))), (q2, .inl (K.2.1, 7, .inl (fun _ => 0))), (q3, .inl (K.2.1, 7, .inl (fun _ => 0))), (q4, .inl (K.2.1, 7, .inl (fun _ => 0)))]) (dHo_init.at 20 rfl) (own := 0) rfl fkHo_24 rfl (Nat.le_of_ble_eq_true rfl) rfl ?_
  refine dx_aload_n (dHo_init.at 21 rfl) rfl ?_
  refine dx_bipush (v := (6 : Int32)) (dHo_init.at 22 rfl) (by decide) ?_
  refine dx_put (q0 := 0) (ws' := [(h0, .inr (0, [.ref q1, .ref q2, .ref q3, .ref q4, .int (0 : Int32), .int (6 : Int32), .int 0, .int 0, .int 0, .int 0])), (q1, .inl (K.2.1, 7, .inl (fun _ => 0))), (q2, .inl (K.2.1, 7, .inl (fun _ => 0))), (q3, .inl (K.2.1, 7, .inl (fun _ => 0))), (q4, .inl (K.2.1, 7, .inl (fun _ => 0)))]) (dHo_init.at 23 rfl) (own := 0) rfl fkHo_28 rfl (Nat.le_of_ble_eq_true rfl) rfl ?_
  refine dx_aload_n (dHo_init.at 24 rfl) rfl ?_
  refine dx_bipush (v := (7 : Int32)) (dHo_init.at 25 rfl) (by decide) ?_
  refine dx_put (q0 := 0) (ws' := [(h0, .inr (0, [.ref q1, .ref q2, .ref q3, .ref q4, .int (0 : Int32), .int (6 : Int32), .int (7 : Int32), .int 0, .int 0, .int 0])), (q1, .inl (K.2.1, 7, .inl (fun _ => 0))), (q2, .inl (K.2.1, 7, .inl (fun _ => 0))), (q3, .inl (K.2.1, 7, .inl (fun _ => 0))), (q4, .inl (K.2.1, 7, .inl (fun _ => 0)))]) (dHo_init.at 26 rfl) (own := 0) rfl fkHo_31 rfl (Nat.le_of_ble_eq_true rfl) rfl ?_
  refine dx_aload_n (dHo_init.at 27 rfl) rfl ?_
  refine dx_iconst (v := (0 : Int32)) (dHo_init.at 28 rfl) (by decide) ?_
  refine dx_putz (q0 := 0) (ws' := [(h0, .inr (0, [.ref q1, .ref q2, .ref q3, .ref q4, .int (0 : Int32), .int (6 : Int32), .int (7 : Int32), .int (0 : Int32), .int 0, .int 0])), (q1, .inl (K.2.1, 7, .inl (fun _ => 0))), (q2, .inl (K.2.1, 7, .inl (fun _ => 0))), (q3, .inl (K.2.1, 7, .inl (fun _ => 0))), (q4, .inl (K.2.1, 7, .inl (fun _ => 0)))]) (dHo_init.at 29 rfl) (own := 0) rfl fkHo_34 (by decide) rfl (Nat.le_of_ble_eq_true rfl) rfl ?_
  refine dx_aload_n (dHo_init.at 30 rfl) rfl ?_
  refine dx_iconst (v := (0 : Int32)) (dHo_init.at 31 rfl) (by decide) ?_
  refine dx_put (q0 := 0) (ws' := [(h0, .inr (0, [.ref q1, .ref q2, .ref q3, .ref q4, .int (0 : Int32), .int (6 : Int32), .int (7 : Int32), .int (0 : Int32), .int (0 : Int32), .int 0])), (q1, .inl (K.2.1, 7, .inl (fun _ => 0))), (q2, .inl (K.2.1, 7, .inl (fun _ => 0))), (q3, .inl (K.2.1, 7, .inl (fun _ => 0))), (q4, .inl (K.2.1, 7, .inl (fun _ => 0)))]) (dHo_init.at 32 rfl) (own := 0) rfl fkHo_38 rfl (Nat.le_of_ble_eq_true rfl) rfl ?_
  refine dx_aload_n (dHo_init.at 33 rfl) rfl ?_
  refine dx_iconst (v := (0 : Int32)) (dHo_init.at 34 rfl) (by decide) ?_
  refine dx_put (q0 := 0) (ws' := [(h0, .inr (0, [.ref q1, .ref q2, .ref q3, .ref q4, .int (0 : Int32), .int (6 : Int32), .int (7 : Int32), .int (0 : Int32), .int (0 : Int32), .int (0 : Int32)])), (q1, .inl (K.2.1, 7, .inl (fun _ => 0))), (q2, .inl (K.2.1, 7, .inl (fun _ => 0))), (q3, .inl (K.2.1, 7, .inl (fun _ => 0))), (q4, .inl (K.2.1, 7, .inl (fun _ => 0)))]) (dHo_init.at 35 rfl) (own := 0) rfl fkHo_41 rfl (Nat.le_of_ble_eq_true rfl) rfl ?_
  exact dx_vret (dHo_init.at 36 rfl) rfl rfl rfl ⟨q1, q2, q3, q4, rfl⟩
def rSt_init : sx_R := (⟨"SixBeds$Stays", "<init>", "(LSixBeds$House;)V"⟩, prog_7_method_1_code, 2, none)
def cSt_init : List sx_I := [(0, .aload_n 0, 1, 1), (1, .invokespecial 3, 3, 4), (4, .aload_n 0, 1, 5), (5, .bipush 7, 2, 7), (7, .newarray .int, 2, 9), (9, .putfield 9, 3, 12), (12, .aload_n 0, 1, 13), (13, .bipush 56, 2, 15), (15, .newarray .long, 2, 17), (17, .putfield 15, 3, 20), (20, .aload_n 0, 1, 21), (21, .bipush 56, 2, 23), (23, .newarray .long, 2, 25), (25, .putfield 19, 3, 28), (28, .aload_n 0, 1, 29), (29, .bipush 56, 2, 31), (31, .newarray .long, 2, 33), (33, .putfield 22, 3, 36), (36, .aload_n 0, 1, 37), (37, .aload_n 1, 1, 38), (38, .putfield 25, 3, 41), (41, .return_, 1, 42)]
set_option maxRecDepth 100000 in
theorem dSt_init : sx_ok rSt_init cSt_init := by unfold sx_ok; decide +kernel
set_option maxRecDepth 100000 in
theorem kSt_init : dx_rok 1 rSt_init := ⟨sx_in 144 rfl rfl, sx_in 57 (by decide +kernel) rfl, sx_in 143 (by decide +kernel) rfl, rfl, ⟨by decide, by decide, by decide +kernel⟩, by decide, rfl⟩
set_option maxRecDepth 100000 in
theorem oSt_init : Cond.methodLink rSt_init.1.cls 3 Lib.objectInit ∈ sx_T := sx_in 145 (by decide +kernel) rfl
def rmSt : Room := { frames := 2, cells := 4, slots := 175, locals := 60 }
def pSt (K : dx_K) (h0 a1 : Nat) : va_W → Prop := fun u => ∃ q1 q2 q3 q4 : Nat, u = [(h0, .inr (5, [.ref a1, .ref q1, .ref q2, .ref q3, .ref q4])), (q1, .inl (K.2.1, 7, .inl (fun _ => 0))), (q2, .inl (K.2.2.1, 56, .inr (.inl (fun _ => 0)))), (q3, .inl (K.2.2.1, 56, .inr (.inl (fun _ => 0)))), (q4, .inl (K.2.2.1, 56, .inr (.inl (fun _ => 0))))]
set_option maxHeartbeats 4000000 in
theorem nSt {K : dx_K} {h0 a1 : Nat} : dx_met K rSt_init rmSt [.ref h0, .ref a1] [(h0, .inr (5, [.null, .null, .null, .null, .null]))] (pSt K h0 a1) := by
  refine dx_met_of rfl rfl rfl rfl rfl ?_
  refine dx_aload_n (dSt_init.at 0 rfl) rfl ?_
  refine dx_objInit (dSt_init.at 1 rfl) oSt_init dx_oi dx_oc (by decide) (by decide) (by decide) ?_
  refine dx_aload_n (dSt_init.at 2 rfl) rfl ?_
  refine dx_bipush (v := (7 : Int32)) (dSt_init.at 3 rfl) (by decide) ?_
  refine dx_newi (N := 7) (dSt_init.at 4 rfl) dx_ai (by decide) (by decide) (by decide) (by decide) (by decide) (fun q1 => ?_)
  refine dx_putF (q0 := 0) (ws' := [(h0, .inr (5, [.null, .ref q1, .null, .null, .null])), (q1, .inl (K.2.1, 7, .inl (fun _ => 0)))]) (dSt_init.at 5 rfl) (own := 5) rfl fkSt_9 rfl rfl rfl rfl (ykSt 1 (by decide)) rfl rfl rfl (Nat.le_of_ble_eq_true rfl) rfl ?_
  refine dx_aload_n (dSt_init.at 6 rfl) rfl ?_
  refine dx_bipush (v := (56 : Int32)) (dSt_init.at 7 rfl) (by decide) ?_
  refine dx_newl (N := 56) (dSt_init.at 8 rfl) dx_al (by decide) (by decide) (by decide) (by decide) (by decide) (fun q2 => ?_)
  refine dx_putF (q0 := 0) (ws' := [(h0, .inr (5, [.null, .ref q1, .ref q2, .null, .null])), (q1, .inl (K.2.1, 7, .inl (fun _ => 0))), (q2, .inl (K.2.2.1, 56, .inr (.inl (fun _ => 0))))]) (dSt_init.at 9 rfl) (own := 5) rfl fkSt_15 rfl rfl rfl rfl (ykSt 2 (by decide)) rfl rfl rfl (Nat.le_of_ble_eq_true rfl) rfl ?_
  refine dx_aload_n (dSt_init.at 10 rfl) rfl ?_
  refine dx_bipush (v := (56 : Int32)) (dSt_init.at 11 rfl) (by decide) ?_
  refine dx_newl (N := 56) (dSt_init.at 12 rfl) dx_al (by decide) (by decide) (by decide) (by decide) (by decide) (fun q3 => ?_)
  refine dx_putF (q0 := 0) (ws' := [(h0, .inr (5, [.null, .ref q1, .ref q2, .ref q3, .null])), (q1, .inl (K.2.1, 7, .inl (fun _ => 0))), (q2, .inl (K.2.2.1, 56, .inr (.inl (fun _ => 0)))), (q3, .inl (K.2.2.1, 56, .inr (.inl (fun _ => 0))))]) (dSt_init.at 13 rfl) (own := 5) rfl fkSt_19 rfl rfl rfl rfl (ykSt 3 (by decide)) rfl rfl rfl (Nat.le_of_ble_eq_true rfl) rfl ?_
  refine dx_aload_n (dSt_init.at 14 rfl) rfl ?_
  refine dx_bipush (v := (56 : Int32)) (dSt_init.at 15 rfl) (by decide) ?_
  refine dx_newl (N := 56) (dSt_init.at 16 rfl) dx_al (by decide) (by decide) (by decide) (by decide) (by decide) (fun q4 => ?_)
  refine dx_putF (q0 := 0) (ws' := [(h0, .inr (5, [.null, .ref q1, .ref q2, .ref q3, .ref q4])), (q1, .inl (K.2.1, 7, .inl (fun _ => 0))), (q2, .inl (K.2.2.1, 56, .inr (.inl (fun _ => 0)))), (q3, .inl (K.2.2.1, 56, .inr (.inl (fun _ => 0)))), (q4, .inl (K.2.2.1, 56, .inr (.inl (fun _ => 0))))]) (dSt_init.at 17 rfl) (own := 5) rfl fkSt_22 rfl rfl rfl rfl (ykSt 4 (by decide)) rfl rfl rfl (Nat.le_of_ble_eq_true rfl) rfl ?_
  refine dx_aload_n (dSt_init.at 18 rfl) rfl ?_
  refine dx_aload_n (dSt_init.at 19 rfl) rfl ?_
  refine dx_putF (q0 := 0) (ws' := [(h0, .inr (5, [.ref a1, .ref q1, .ref q2, .ref q3, .ref q4])), (q1, .inl (K.2.1, 7, .inl (fun _ => 0))), (q2, .inl (K.2.2.1, 56, .inr (.inl (fun _ => 0)))), (q3, .inl (K.2.2.1, 56, .inr (.inl (fun _ => 0)))), (q4, .inl (K.2.2.1, 56, .inr (.inl (fun _ => 0))))]) (dSt_init.at 20 rfl) (own := 5) rfl fkSt_25 rfl rfl rfl rfl (ykSt 0 (by decide)) rfl rfl rfl (Nat.le_of_ble_eq_true rfl) rfl ?_
  exact dx_vret (dSt_init.at 21 rfl) rfl rfl rfl ⟨q1, q2, q3, q4, rfl⟩
def rSe_init : sx_R := (⟨"SixBeds$Search", "<init>", "(LSixBeds$House;LSixBeds$Stays;)V"⟩, prog_5_method_1_code, 3, none)
def cSe_init : List sx_I := [(0, .aload_n 0, 1, 1), (1, .invokespecial 3, 3, 4), (4, .aload_n 0, 1, 5), (5, .bipush 7, 2, 7), (7, .newarray .int, 2, 9), (9, .putfield 9, 3, 12), (12, .aload_n 0, 1, 13), (13, .bipush 7, 2, 15), (15, .newarray .int, 2, 17), (17, .putfield 15, 3, 20), (20, .aload_n 0, 1, 21), (21, .bipush 7, 2, 23), (23, .newarray .int, 2, 25), (25, .putfield 18, 3, 28), (28, .aload_n 0, 1, 29), (29, .bipush 8, 2, 31), (31, .newarray .int, 2, 33), (33, .putfield 21, 3, 36), (36, .aload_n 0, 1, 37), (37, .bipush 7, 2, 39), (39, .newarray .int, 2, 41), (41, .putfield 24, 3, 44), (44, .aload_n 0, 1, 45), (45, .bipush 7, 2, 47), (47, .newarray .int, 2, 49), (49, .putfield 27, 3, 52), (52, .aload_n 0, 1, 53), (53, .iconst 0, 1, 54), (54, .putfield 30, 3, 57), (57, .aload_n 0, 1, 58), (58, .iconst (-1), 1, 59), (59, .putfield 34, 3, 62), (62, .aload_n 0, 1, 63), (63, .bipush 7, 2, 65), (65, .newarray .int, 2, 67), (67, .putfield 38, 3, 70), (70, .aload_n 0, 1, 71), (71, .iconst 0, 1, 72), (72, .putfield 41, 3, 75), (75, .aload_n 0, 1, 76), (76, .iconst 0, 1, 77), (77, .putfield 44, 3, 80), (80, .aload_n 0, 1, 81), (81, .iconst (-1), 1, 82), (82, .putfield 47, 3, 85), (85, .aload_n 0, 1, 86), (86, .aload_n 1, 1, 87), (87, .putfield 50, 3, 90), (90, .aload_n 0, 1, 91), (91, .aload_n 2, 1, 92), (92, .putfield 54, 3, 95), (95, .return_, 1, 96)]
set_option maxRecDepth 100000 in
theorem dSe_init : sx_ok rSe_init cSe_init := by unfold sx_ok; decide +kernel
set_option maxRecDepth 100000 in
theorem kSe_init : dx_rok 2 rSe_init := ⟨sx_in 170 rfl rfl, sx_in 58 (by decide +kernel) rfl, sx_in 169 (by decide +kernel) rfl, rfl, ⟨by decide, by decide, by decide +kernel⟩, by decide, rfl⟩
set_option maxRecDepth 100000 in
theorem oSe_init : Cond.methodLink rSe_init.1.cls 3 Lib.objectInit ∈ sx_T := sx_in 171 (by decide +kernel) rfl
def rmSe : Room := { frames := 2, cells := 7, slots := 50, locals := 60 }
def pSe (K : dx_K) (h0 a1 a2 : Nat) : va_W → Prop := fun u => ∃ q1 q2 q3 q4 q5 q6 q7 : Nat, u = [(h0, .inr (3, [.ref a1, .ref a2, .ref q1, .ref q2, .ref q3, .ref q4, .ref q5, .ref q6, .int (0 : Int32), .int (-1 : Int32), .ref q7, .int (0 : Int32), .int (0 : Int32), .int (-1 : Int32)])), (q1, .inl (K.2.1, 7, .inl (fun _ => 0))), (q2, .inl (K.2.1, 7, .inl (fun _ => 0))), (q3, .inl (K.2.1, 7, .inl (fun _ => 0))), (q4, .inl (K.2.1, 8, .inl (fun _ => 0))), (q5, .inl (K.2.1, 7, .inl (fun _ => 0))), (q6, .inl (K.2.1, 7, .inl (fun _ => 0))), (q7, .inl (K.2.1, 7, .inl (fun _ => 0)))]
set_option maxHeartbeats 4000000 in
theorem nSe {K : dx_K} {h0 a1 a2 : Nat} : dx_met K rSe_init rmSe [.ref h0, .ref a1, .ref a2] [(h0, .inr (3, [.null, .null, .null, .null, .null, .null, .null, .null, .int 0, .int 0, .null, .int 0, .int 0, .int 0]))] (pSe K h0 a1 a2) := by
  refine dx_met_of rfl rfl rfl rfl rfl ?_
  refine dx_aload_n (dSe_init.at 0 rfl) rfl ?_
  refine dx_objInit (dSe_init.at 1 rfl) oSe_init dx_oi dx_oc (by decide) (by decide) (by decide) ?_
  refine dx_aload_n (dSe_init.at 2 rfl) rfl ?_
  refine dx_bipush (v := (7 : Int32)) (dSe_init.at 3 rfl) (by decide) ?_
  refine dx_newi (N := 7) (dSe_init.at 4 rfl) dx_ai (by decide) (by decide) (by decide) (by decide) (by decide) (fun q1 => ?_)
  refine dx_putF (q0 := 0) (ws' := [(h0, .inr (3, [.null, .null, .ref q1, .null, .null, .null, .null, .null, .int 0, .int 0, .null, .int 0, .int 0, .int 0])), (q1, .inl (K.2.1, 7, .inl (fun _ => 0)))]) (dSe_init.at 5 rfl) (own := 3) rfl fkSe_9 rfl rfl rfl rfl (ykSe 2 (by decide)) rfl rfl rfl (Nat.le_of_ble_eq_true rfl) rfl ?_
  refine dx_aload_n (dSe_init.at 6 rfl) rfl ?_
  refine dx_bipush (v := (7 : Int32)) (dSe_init.at 7 rfl) (by decide) ?_
  refine dx_newi (N := 7) (dSe_init.at 8 rfl) dx_ai (by decide) (by decide) (by decide) (by decide) (by decide) (fun q2 => ?_)
  refine dx_putF (q0 := 0) (ws' := [(h0, .inr (3, [.null, .null, .ref q1, .ref q2, .null, .null, .null, .null, .int 0, .int 0, .null, .int 0, .int 0, .int 0])), (q1, .inl (K.2.1, 7, .inl (fun _ => 0))), (q2, .inl (K.2.1, 7, .inl (fun _ => 0)))]) (dSe_init.at 9 rfl) (own := 3) rfl fkSe_15 rfl rfl rfl rfl (ykSe 3 (by decide)) rfl rfl rfl (Nat.le_of_ble_eq_true rfl) rfl ?_
  refine dx_aload_n (dSe_init.at 10 rfl) rfl ?_
  refine dx_bipush (v := (7 : Int32)) (dSe_init.at 11 rfl) (by decide) ?_
  refine dx_newi (N := 7) (dSe_init.at 12 rfl) dx_ai (by decide) (by decide) (by decide) (by decide) (by decide) (fun q3 => ?_)
  refine dx_putF (q0 := 0) (ws' := [(h0, .inr (3, [.null, .null, .ref q1, .ref q2, .ref q3, .null, .null, .null, .int 0, .int 0, .null, .int 0, .int 0, .int 0])), (q1, .inl (K.2.1, 7, .inl (fun _ => 0))), (q2, .inl (K.2.1, 7, .inl (fun _ => 0))), (q3, .inl (K.2.1, 7, .inl (fun _ => 0)))]) (dSe_init.at 13 rfl) (own := 3) rfl fkSe_18 rfl rfl rfl rfl (ykSe 4 (by decide)) rfl rfl rfl (Nat.le_of_ble_eq_true rfl) rfl ?_
  refine dx_aload_n (dSe_init.at 14 rfl) rfl ?_
  refine dx_bipush (v := (8 : Int32)) (dSe_init.at 15 rfl) (by decide) ?_
  refine dx_newi (N := 8) (dSe_init.at 16 rfl) dx_ai (by decide) (by decide) (by decide) (by decide) (by decide) (fun q4 => ?_)
  refine dx_putF (q0 := 0) (ws' := [(h0, .inr (3, [.null, .null, .ref q1, .ref q2, .ref q3, .ref q4, .null, .null, .int 0, .int 0, .null, .int 0, .int 0, .int 0])), (q1, .inl (K.2.1, 7, .inl (fun _ => 0))), (q2, .inl (K.2.1, 7, .inl (fun _ => 0))), (q3, .inl (K.2.1, 7, .inl (fun _ => 0))), (q4, .inl (K.2.1, 8, .inl (fun _ => 0)))]) (dSe_init.at 17 rfl) (own := 3) rfl fkSe_21 rfl rfl rfl rfl (ykSe 5 (by decide)) rfl rfl rfl (Nat.le_of_ble_eq_true rfl) rfl ?_
  refine dx_aload_n (dSe_init.at 18 rfl) rfl ?_
  refine dx_bipush (v := (7 : Int32)) (dSe_init.at 19 rfl) (by decide) ?_
  refine dx_newi (N := 7) (dSe_init.at 20 rfl) dx_ai (by decide) (by decide) (by decide) (by decide) (by decide) (fun q5 => ?_)
  refine dx_putF (q0 := 0) (ws' := [(h0, .inr (3, [.null, .null, .ref q1, .ref q2, .ref q3, .ref q4, .ref q5, .null, .int 0, .int 0, .null, .int 0, .int 0, .int 0])), (q1, .inl (K.2.1, 7, .inl (fun _ => 0))), (q2, .inl (K.2.1, 7, .inl (fun _ => 0))), (q3, .inl (K.2.1, 7, .inl (fun _ => 0))), (q4, .inl (K.2.1, 8, .inl (fun _ => 0))), (q5, .inl (K.2.1, 7, .inl (fun _ => 0)))]) (dSe_init.at 21 rfl) (own := 3) rfl fkSe_24 rfl rfl rfl rfl (ykSe 6 (by decide)) rfl rfl rfl (Nat.le_of_ble_eq_true rfl) rfl ?_
  refine dx_aload_n (dSe_init.at 22 rfl) rfl ?_
  refine dx_bipush (v := (7 : Int32)) (dSe_init.at 23 rfl) (by decide) ?_
  refine dx_newi (N := 7) (dSe_init.at 24 rfl) dx_ai (by decide) (by decide) (by decide) (by decide) (by decide) (fun q6 => ?_)
  refine dx_putF (q0 := 0) (ws' := [(h0, .inr (3, [.null, .null, .ref q1, .ref q2, .ref q3, .ref q4, .ref q5, .ref q6, .int 0, .int 0, .null, .int 0, .int 0, .int 0])), (q1, .inl (K.2.1, 7, .inl (fun _ => 0))), (q2, .inl (K.2.1, 7, .inl (fun _ => 0))), (q3, .inl (K.2.1, 7, .inl (fun _ => 0))), (q4, .inl (K.2.1, 8, .inl (fun _ => 0))), (q5, .inl (K.2.1, 7, .inl (fun _ => 0))), (q6, .inl (K.2.1, 7, .inl (fun _ => 0)))]) (dSe_init.at 25 rfl) (own := 3) rfl fkSe_27 rfl rfl rfl rfl (ykSe 7 (by decide)) rfl rfl rfl (Nat.le_of_ble_eq_true rfl) rfl ?_
  refine dx_aload_n (dSe_init.at 26 rfl) rfl ?_
  refine dx_iconst (v := (0 : Int32)) (dSe_init.at 27 rfl) (by decide) ?_
  refine dx_putz (q0 := 0) (ws' := [(h0, .inr (3, [.null, .null, .ref q1, .ref q2, .ref q3, .ref q4, .ref q5, .ref q6, .int (0 : Int32), .int 0, .null, .int 0, .int 0, .int 0])), (q1, .inl (K.2.1, 7, .inl (fun _ => 0))), (q2, .inl (K.2.1, 7, .inl (fun _ => 0))), (q3, .inl (K.2.1, 7, .inl (fun _ => 0))), (q4, .inl (K.2.1, 8, .inl (fun _ => 0))), (q5, .inl (K.2.1, 7, .inl (fun _ => 0))), (q6, .inl (K.2.1, 7, .inl (fun _ => 0)))]) (dSe_init.at 28 rfl) (own := 3) rfl fkSe_30 (by decide) rfl (Nat.le_of_ble_eq_true rfl) rfl ?_
  refine dx_aload_n (dSe_init.at 29 rfl) rfl ?_
  refine dx_iconst (v := (-1 : Int32)) (dSe_init.at 30 rfl) (by decide) ?_
  refine dx_put (q0 := 0) (ws' := [(h0, .inr (3, [.null, .null, .ref q1, .ref q2, .ref q3, .ref q4, .ref q5, .ref q6, .int (0 : Int32), .int (-1 : Int32), .null, .int 0, .int 0, .int 0])), (q1, .inl (K.2.1, 7, .inl (fun _ => 0))), (q2, .inl (K.2.1, 7, .inl (fun _ => 0))), (q3, .inl (K.2.1, 7, .inl (fun _ => 0))), (q4, .inl (K.2.1, 8, .inl (fun _ => 0))), (q5, .inl (K.2.1, 7, .inl (fun _ => 0))), (q6, .inl (K.2.1, 7, .inl (fun _ => 0)))]) (dSe_init.at 31 rfl) (own := 3) rfl fkSe_34 rfl (Nat.le_of_ble_eq_true rfl) rfl ?_
  refine dx_aload_n (dSe_init.at 32 rfl) rfl ?_
  refine dx_bipush (v := (7 : Int32)) (dSe_init.at 33 rfl) (by decide) ?_
  refine dx_newi (N := 7) (dSe_init.at 34 rfl) dx_ai (by decide) (by decide) (by decide) (by decide) (by decide) (fun q7 => ?_)
  refine dx_putF (q0 := 0) (ws' := [(h0, .inr (3, [.null, .null, .ref q1, .ref q2, .ref q3, .ref q4, .ref q5, .ref q6, .int (0 : Int32), .int (-1 : Int32), .ref q7, .int 0, .int 0, .int 0])), (q1, .inl (K.2.1, 7, .inl (fun _ => 0))), (q2, .inl (K.2.1, 7, .inl (fun _ => 0))), (q3, .inl (K.2.1, 7, .inl (fun _ => 0))), (q4, .inl (K.2.1, 8, .inl (fun _ => 0))), (q5, .inl (K.2.1, 7, .inl (fun _ => 0))), (q6, .inl (K.2.1, 7, .inl (fun _ => 0))), (q7, .inl (K.2.1, 7, .inl (fun _ => 0)))]) (dSe_init.at 35 rfl) (own := 3) rfl fkSe_38 rfl rfl rfl rfl (ykSe 10 (by decide)) rfl rfl rfl (Nat.le_of_ble_eq_true rfl) rfl ?_
  refine dx_aload_n (dSe_init.at 36 rfl) rfl ?_
  refine dx_iconst (v := (0 : Int32)) (dSe_init.at 37 rfl) (by decide) ?_
  refine dx_put (q0 := 0) (ws' := [(h0, .inr (3, [.null, .null, .ref q1, .ref q2, .ref q3, .ref q4, .ref q5, .ref q6, .int (0 : Int32), .int (-1 : Int32), .ref q7, .int (0 : Int32), .int 0, .int 0])), (q1, .inl (K.2.1, 7, .inl (fun _ => 0))), (q2, .inl (K.2.1, 7, .inl (fun _ => 0))), (q3, .inl (K.2.1, 7, .inl (fun _ => 0))), (q4, .inl (K.2.1, 8, .inl (fun _ => 0))), (q5, .inl (K.2.1, 7, .inl (fun _ => 0))), (q6, .inl (K.2.1, 7, .inl (fun _ => 0))), (q7, .inl (K.2.1, 7, .inl (fun _ => 0)))]) (dSe_init.at 38 rfl) (own := 3) rfl fkSe_41 rfl (Nat.le_of_ble_eq_true rfl) rfl ?_
  refine dx_aload_n (dSe_init.at 39 rfl) rfl ?_
  refine dx_iconst (v := (0 : Int32)) (dSe_init.at 40 rfl) (by decide) ?_
  refine dx_putz (q0 := 0) (ws' := [(h0, .inr (3, [.null, .null, .ref q1, .ref q2, .ref q3, .ref q4, .ref q5, .ref q6, .int (0 : Int32), .int (-1 : Int32), .ref q7, .int (0 : Int32), .int (0 : Int32), .int 0])), (q1, .inl (K.2.1, 7, .inl (fun _ => 0))), (q2, .inl (K.2.1, 7, .inl (fun _ => 0))), (q3, .inl (K.2.1, 7, .inl (fun _ => 0))), (q4, .inl (K.2.1, 8, .inl (fun _ => 0))), (q5, .inl (K.2.1, 7, .inl (fun _ => 0))), (q6, .inl (K.2.1, 7, .inl (fun _ => 0))), (q7, .inl (K.2.1, 7, .inl (fun _ => 0)))]) (dSe_init.at 41 rfl) (own := 3) rfl fkSe_44 (by decide) rfl (Nat.le_of_ble_eq_true rfl) rfl ?_
  refine dx_aload_n (dSe_init.at 42 rfl) rfl ?_
  refine dx_iconst (v := (-1 : Int32)) (dSe_init.at 43 rfl) (by decide) ?_
  refine dx_put (q0 := 0) (ws' := [(h0, .inr (3, [.null, .null, .ref q1, .ref q2, .ref q3, .ref q4, .ref q5, .ref q6, .int (0 : Int32), .int (-1 : Int32), .ref q7, .int (0 : Int32), .int (0 : Int32), .int (-1 : Int32)])), (q1, .inl (K.2.1, 7, .inl (fun _ => 0))), (q2, .inl (K.2.1, 7, .inl (fun _ => 0))), (q3, .inl (K.2.1, 7, .inl (fun _ => 0))), (q4, .inl (K.2.1, 8, .inl (fun _ => 0))), (q5, .inl (K.2.1, 7, .inl (fun _ => 0))), (q6, .inl (K.2.1, 7, .inl (fun _ => 0))), (q7, .inl (K.2.1, 7, .inl (fun _ => 0)))]) (dSe_init.at 44 rfl) (own := 3) rfl fkSe_47 rfl (Nat.le_of_ble_eq_true rfl) rfl ?_
  refine dx_aload_n (dSe_init.at 45 rfl) rfl ?_
  refine dx_aload_n (dSe_init.at 46 rfl) rfl ?_
  refine dx_putF (q0 := 0) (ws' := [(h0, .inr (3, [.ref a1, .null, .ref q1, .ref q2, .ref q3, .ref q4, .ref q5, .ref q6, .int (0 : Int32), .int (-1 : Int32), .ref q7, .int (0 : Int32), .int (0 : Int32), .int (-1 : Int32)])), (q1, .inl (K.2.1, 7, .inl (fun _ => 0))), (q2, .inl (K.2.1, 7, .inl (fun _ => 0))), (q3, .inl (K.2.1, 7, .inl (fun _ => 0))), (q4, .inl (K.2.1, 8, .inl (fun _ => 0))), (q5, .inl (K.2.1, 7, .inl (fun _ => 0))), (q6, .inl (K.2.1, 7, .inl (fun _ => 0))), (q7, .inl (K.2.1, 7, .inl (fun _ => 0)))]) (dSe_init.at 47 rfl) (own := 3) rfl fkSe_50 rfl rfl rfl rfl (ykSe 0 (by decide)) rfl rfl rfl (Nat.le_of_ble_eq_true rfl) rfl ?_
  refine dx_aload_n (dSe_init.at 48 rfl) rfl ?_
  refine dx_aload_n (dSe_init.at 49 rfl) rfl ?_
  refine dx_putF (q0 := 0) (ws' := [(h0, .inr (3, [.ref a1, .ref a2, .ref q1, .ref q2, .ref q3, .ref q4, .ref q5, .ref q6, .int (0 : Int32), .int (-1 : Int32), .ref q7, .int (0 : Int32), .int (0 : Int32), .int (-1 : Int32)])), (q1, .inl (K.2.1, 7, .inl (fun _ => 0))), (q2, .inl (K.2.1, 7, .inl (fun _ => 0))), (q3, .inl (K.2.1, 7, .inl (fun _ => 0))), (q4, .inl (K.2.1, 8, .inl (fun _ => 0))), (q5, .inl (K.2.1, 7, .inl (fun _ => 0))), (q6, .inl (K.2.1, 7, .inl (fun _ => 0))), (q7, .inl (K.2.1, 7, .inl (fun _ => 0)))]) (dSe_init.at 50 rfl) (own := 3) rfl fkSe_54 rfl rfl rfl rfl (ykSe 1 (by decide)) rfl rfl rfl (Nat.le_of_ble_eq_true rfl) rfl ?_
  exact dx_vret (dSe_init.at 51 rfl) rfl rfl rfl ⟨q1, q2, q3, q4, q5, q6, q7, rfl⟩
def rMa_init : sx_R := (⟨"SixBeds$Market", "<init>", "(LSixBeds$House;LSixBeds$Stays;)V"⟩, prog_3_method_1_code, 3, none)
def cMa_init : List sx_I := [(0, .aload_n 0, 1, 1), (1, .invokespecial 3, 3, 4), (4, .aload_n 0, 1, 5), (5, .bipush 9, 2, 7), (7, .newarray .long, 2, 9), (9, .putfield 9, 3, 12), (12, .aload_n 0, 1, 13), (13, .bipush 8, 2, 15), (15, .newarray .int, 2, 17), (17, .putfield 15, 3, 20), (20, .aload_n 0, 1, 21), (21, .iconst 0, 1, 22), (22, .putfield 19, 3, 25), (25, .aload_n 0, 1, 26), (26, .iconst 0, 1, 27), (27, .putfield 23, 3, 30), (30, .aload_n 0, 1, 31), (31, .iconst (-1), 1, 32), (32, .putfield 27, 3, 35), (35, .aload_n 0, 1, 36), (36, .aload_n 1, 1, 37), (37, .putfield 30, 3, 40), (40, .aload_n 0, 1, 41), (41, .aload_n 2, 1, 42), (42, .putfield 34, 3, 45), (45, .return_, 1, 46)]
set_option maxRecDepth 100000 in
theorem dMa_init : sx_ok rMa_init cMa_init := by unfold sx_ok; decide +kernel
set_option maxRecDepth 100000 in
theorem kMa_init : dx_rok 2 rMa_init := ⟨sx_in 222 rfl rfl, sx_in 59 (by decide +kernel) rfl, sx_in 221 (by decide +kernel) rfl, rfl, ⟨by decide, by decide, by decide +kernel⟩, by decide, rfl⟩
set_option maxRecDepth 100000 in
theorem oMa_init : Cond.methodLink rMa_init.1.cls 3 Lib.objectInit ∈ sx_T := sx_in 223 (by decide +kernel) rfl
def rmMa : Room := { frames := 2, cells := 2, slots := 17, locals := 60 }
def pMa (K : dx_K) (h0 a1 a2 : Nat) : va_W → Prop := fun u => ∃ q1 q2 : Nat, u = [(h0, .inr (1, [.ref a1, .ref a2, .ref q1, .ref q2, .int (0 : Int32), .int (0 : Int32), .int (-1 : Int32)])), (q1, .inl (K.2.2.1, 9, .inr (.inl (fun _ => 0)))), (q2, .inl (K.2.1, 8, .inl (fun _ => 0)))]
set_option maxHeartbeats 4000000 in
theorem nMa {K : dx_K} {h0 a1 a2 : Nat} : dx_met K rMa_init rmMa [.ref h0, .ref a1, .ref a2] [(h0, .inr (1, [.null, .null, .null, .null, .int 0, .int 0, .int 0]))] (pMa K h0 a1 a2) := by
  refine dx_met_of rfl rfl rfl rfl rfl ?_
  refine dx_aload_n (dMa_init.at 0 rfl) rfl ?_
  refine dx_objInit (dMa_init.at 1 rfl) oMa_init dx_oi dx_oc (by decide) (by decide) (by decide) ?_
  refine dx_aload_n (dMa_init.at 2 rfl) rfl ?_
  refine dx_bipush (v := (9 : Int32)) (dMa_init.at 3 rfl) (by decide) ?_
  refine dx_newl (N := 9) (dMa_init.at 4 rfl) dx_al (by decide) (by decide) (by decide) (by decide) (by decide) (fun q1 => ?_)
  refine dx_putF (q0 := 0) (ws' := [(h0, .inr (1, [.null, .null, .ref q1, .null, .int 0, .int 0, .int 0])), (q1, .inl (K.2.2.1, 9, .inr (.inl (fun _ => 0))))]) (dMa_init.at 5 rfl) (own := 1) rfl fkMa_9 rfl rfl rfl rfl (ykMa 2 (by decide)) rfl rfl rfl (Nat.le_of_ble_eq_true rfl) rfl ?_
  refine dx_aload_n (dMa_init.at 6 rfl) rfl ?_
  refine dx_bipush (v := (8 : Int32)) (dMa_init.at 7 rfl) (by decide) ?_
  refine dx_newi (N := 8) (dMa_init.at 8 rfl) dx_ai (by decide) (by decide) (by decide) (by decide) (by decide) (fun q2 => ?_)
  refine dx_putF (q0 := 0) (ws' := [(h0, .inr (1, [.null, .null, .ref q1, .ref q2, .int 0, .int 0, .int 0])), (q1, .inl (K.2.2.1, 9, .inr (.inl (fun _ => 0)))), (q2, .inl (K.2.1, 8, .inl (fun _ => 0)))]) (dMa_init.at 9 rfl) (own := 1) rfl fkMa_15 rfl rfl rfl rfl (ykMa 3 (by decide)) rfl rfl rfl (Nat.le_of_ble_eq_true rfl) rfl ?_
  refine dx_aload_n (dMa_init.at 10 rfl) rfl ?_
  refine dx_iconst (v := (0 : Int32)) (dMa_init.at 11 rfl) (by decide) ?_
  refine dx_put (q0 := 0) (ws' := [(h0, .inr (1, [.null, .null, .ref q1, .ref q2, .int (0 : Int32), .int 0, .int 0])), (q1, .inl (K.2.2.1, 9, .inr (.inl (fun _ => 0)))), (q2, .inl (K.2.1, 8, .inl (fun _ => 0)))]) (dMa_init.at 12 rfl) (own := 1) rfl fkMa_19 rfl (Nat.le_of_ble_eq_true rfl) rfl ?_
  refine dx_aload_n (dMa_init.at 13 rfl) rfl ?_
  refine dx_iconst (v := (0 : Int32)) (dMa_init.at 14 rfl) (by decide) ?_
  refine dx_putz (q0 := 0) (ws' := [(h0, .inr (1, [.null, .null, .ref q1, .ref q2, .int (0 : Int32), .int (0 : Int32), .int 0])), (q1, .inl (K.2.2.1, 9, .inr (.inl (fun _ => 0)))), (q2, .inl (K.2.1, 8, .inl (fun _ => 0)))]) (dMa_init.at 15 rfl) (own := 1) rfl fkMa_23 (by decide) rfl (Nat.le_of_ble_eq_true rfl) rfl ?_
  refine dx_aload_n (dMa_init.at 16 rfl) rfl ?_
  refine dx_iconst (v := (-1 : Int32)) (dMa_init.at 17 rfl) (by decide) ?_
  refine dx_put (q0 := 0) (ws' := [(h0, .inr (1, [.null, .null, .ref q1, .ref q2, .int (0 : Int32), .int (0 : Int32), .int (-1 : Int32)])), (q1, .inl (K.2.2.1, 9, .inr (.inl (fun _ => 0)))), (q2, .inl (K.2.1, 8, .inl (fun _ => 0)))]) (dMa_init.at 18 rfl) (own := 1) rfl fkMa_27 rfl (Nat.le_of_ble_eq_true rfl) rfl ?_
  refine dx_aload_n (dMa_init.at 19 rfl) rfl ?_
  refine dx_aload_n (dMa_init.at 20 rfl) rfl ?_
  refine dx_putF (q0 := 0) (ws' := [(h0, .inr (1, [.ref a1, .null, .ref q1, .ref q2, .int (0 : Int32), .int (0 : Int32), .int (-1 : Int32)])), (q1, .inl (K.2.2.1, 9, .inr (.inl (fun _ => 0)))), (q2, .inl (K.2.1, 8, .inl (fun _ => 0)))]) (dMa_init.at 21 rfl) (own := 1) rfl fkMa_30 rfl rfl rfl rfl (ykMa 0 (by decide)) rfl rfl rfl (Nat.le_of_ble_eq_true rfl) rfl ?_
  refine dx_aload_n (dMa_init.at 22 rfl) rfl ?_
  refine dx_aload_n (dMa_init.at 23 rfl) rfl ?_
  refine dx_putF (q0 := 0) (ws' := [(h0, .inr (1, [.ref a1, .ref a2, .ref q1, .ref q2, .int (0 : Int32), .int (0 : Int32), .int (-1 : Int32)])), (q1, .inl (K.2.2.1, 9, .inr (.inl (fun _ => 0)))), (q2, .inl (K.2.1, 8, .inl (fun _ => 0)))]) (dMa_init.at 24 rfl) (own := 1) rfl fkMa_34 rfl rfl rfl rfl (ykMa 1 (by decide)) rfl rfl rfl (Nat.le_of_ble_eq_true rfl) rfl ?_
  exact dx_vret (dMa_init.at 25 rfl) rfl rfl rfl ⟨q1, q2, rfl⟩
def rNi_init : sx_R := (⟨"SixBeds$Night", "<init>", "(LSixBeds$House;)V"⟩, prog_4_method_1_code, 2, none)
def cNi_init : List sx_I := [(0, .aload_n 0, 1, 1), (1, .invokespecial 3, 3, 4), (4, .aload_n 0, 1, 5), (5, .bipush 56, 2, 7), (7, .newarray .int, 2, 9), (9, .putfield 9, 3, 12), (12, .aload_n 0, 1, 13), (13, .bipush 56, 2, 15), (15, .newarray .int, 2, 17), (17, .putfield 15, 3, 20), (20, .aload_n 0, 1, 21), (21, .bipush 56, 2, 23), (23, .newarray .int, 2, 25), (25, .putfield 18, 3, 28), (28, .aload_n 0, 1, 29), (29, .iconst 0, 1, 30), (30, .putfield 21, 3, 33), (33, .aload_n 0, 1, 34), (34, .iconst (-1), 1, 35), (35, .putfield 25, 3, 38), (38, .aload_n 0, 1, 39), (39, .bipush 7, 2, 41), (41, .newarray .int, 2, 43), (43, .putfield 28, 3, 46), (46, .aload_n 0, 1, 47), (47, .bipush 7, 2, 49), (49, .newarray .int, 2, 51), (51, .putfield 31, 3, 54), (54, .aload_n 0, 1, 55), (55, .aload_n 1, 1, 56), (56, .putfield 34, 3, 59), (59, .return_, 1, 60)]
set_option maxRecDepth 100000 in
theorem dNi_init : sx_ok rNi_init cNi_init := by unfold sx_ok; decide +kernel
set_option maxRecDepth 100000 in
theorem kNi_init : dx_rok 1 rNi_init := ⟨sx_in 252 rfl rfl, sx_in 60 (by decide +kernel) rfl, sx_in 251 (by decide +kernel) rfl, rfl, ⟨by decide, by decide, by decide +kernel⟩, by decide, rfl⟩
set_option maxRecDepth 100000 in
theorem oNi_init : Cond.methodLink rNi_init.1.cls 3 Lib.objectInit ∈ sx_T := sx_in 253 (by decide +kernel) rfl
def rmNi : Room := { frames := 2, cells := 5, slots := 182, locals := 60 }
def pNi (K : dx_K) (h0 a1 : Nat) : va_W → Prop := fun u => ∃ q1 q2 q3 q4 q5 : Nat, u = [(h0, .inr (2, [.ref a1, .ref q1, .ref q2, .ref q3, .int (0 : Int32), .int (-1 : Int32), .ref q4, .ref q5])), (q1, .inl (K.2.1, 56, .inl (fun _ => 0))), (q2, .inl (K.2.1, 56, .inl (fun _ => 0))), (q3, .inl (K.2.1, 56, .inl (fun _ => 0))), (q4, .inl (K.2.1, 7, .inl (fun _ => 0))), (q5, .inl (K.2.1, 7, .inl (fun _ => 0)))]
set_option maxHeartbeats 4000000 in
theorem nNi {K : dx_K} {h0 a1 : Nat} : dx_met K rNi_init rmNi [.ref h0, .ref a1] [(h0, .inr (2, [.null, .null, .null, .null, .int 0, .int 0, .null, .null]))] (pNi K h0 a1) := by
  refine dx_met_of rfl rfl rfl rfl rfl ?_
  refine dx_aload_n (dNi_init.at 0 rfl) rfl ?_
  refine dx_objInit (dNi_init.at 1 rfl) oNi_init dx_oi dx_oc (by decide) (by decide) (by decide) ?_
  refine dx_aload_n (dNi_init.at 2 rfl) rfl ?_
  refine dx_bipush (v := (56 : Int32)) (dNi_init.at 3 rfl) (by decide) ?_
  refine dx_newi (N := 56) (dNi_init.at 4 rfl) dx_ai (by decide) (by decide) (by decide) (by decide) (by decide) (fun q1 => ?_)
  refine dx_putF (q0 := 0) (ws' := [(h0, .inr (2, [.null, .ref q1, .null, .null, .int 0, .int 0, .null, .null])), (q1, .inl (K.2.1, 56, .inl (fun _ => 0)))]) (dNi_init.at 5 rfl) (own := 2) rfl fkNi_9 rfl rfl rfl rfl (ykNi 1 (by decide)) rfl rfl rfl (Nat.le_of_ble_eq_true rfl) rfl ?_
  refine dx_aload_n (dNi_init.at 6 rfl) rfl ?_
  refine dx_bipush (v := (56 : Int32)) (dNi_init.at 7 rfl) (by decide) ?_
  refine dx_newi (N := 56) (dNi_init.at 8 rfl) dx_ai (by decide) (by decide) (by decide) (by decide) (by decide) (fun q2 => ?_)
  refine dx_putF (q0 := 0) (ws' := [(h0, .inr (2, [.null, .ref q1, .ref q2, .null, .int 0, .int 0, .null, .null])), (q1, .inl (K.2.1, 56, .inl (fun _ => 0))), (q2, .inl (K.2.1, 56, .inl (fun _ => 0)))]) (dNi_init.at 9 rfl) (own := 2) rfl fkNi_15 rfl rfl rfl rfl (ykNi 2 (by decide)) rfl rfl rfl (Nat.le_of_ble_eq_true rfl) rfl ?_
  refine dx_aload_n (dNi_init.at 10 rfl) rfl ?_
  refine dx_bipush (v := (56 : Int32)) (dNi_init.at 11 rfl) (by decide) ?_
  refine dx_newi (N := 56) (dNi_init.at 12 rfl) dx_ai (by decide) (by decide) (by decide) (by decide) (by decide) (fun q3 => ?_)
  refine dx_putF (q0 := 0) (ws' := [(h0, .inr (2, [.null, .ref q1, .ref q2, .ref q3, .int 0, .int 0, .null, .null])), (q1, .inl (K.2.1, 56, .inl (fun _ => 0))), (q2, .inl (K.2.1, 56, .inl (fun _ => 0))), (q3, .inl (K.2.1, 56, .inl (fun _ => 0)))]) (dNi_init.at 13 rfl) (own := 2) rfl fkNi_18 rfl rfl rfl rfl (ykNi 3 (by decide)) rfl rfl rfl (Nat.le_of_ble_eq_true rfl) rfl ?_
  refine dx_aload_n (dNi_init.at 14 rfl) rfl ?_
  refine dx_iconst (v := (0 : Int32)) (dNi_init.at 15 rfl) (by decide) ?_
  refine dx_put (q0 := 0) (ws' := [(h0, .inr (2, [.null, .ref q1, .ref q2, .ref q3, .int (0 : Int32), .int 0, .null, .null])), (q1, .inl (K.2.1, 56, .inl (fun _ => 0))), (q2, .inl (K.2.1, 56, .inl (fun _ => 0))), (q3, .inl (K.2.1, 56, .inl (fun _ => 0)))]) (dNi_init.at 16 rfl) (own := 2) rfl fkNi_21 rfl (Nat.le_of_ble_eq_true rfl) rfl ?_
  refine dx_aload_n (dNi_init.at 17 rfl) rfl ?_
  refine dx_iconst (v := (-1 : Int32)) (dNi_init.at 18 rfl) (by decide) ?_
  refine dx_put (q0 := 0) (ws' := [(h0, .inr (2, [.null, .ref q1, .ref q2, .ref q3, .int (0 : Int32), .int (-1 : Int32), .null, .null])), (q1, .inl (K.2.1, 56, .inl (fun _ => 0))), (q2, .inl (K.2.1, 56, .inl (fun _ => 0))), (q3, .inl (K.2.1, 56, .inl (fun _ => 0)))]) (dNi_init.at 19 rfl) (own := 2) rfl fkNi_25 rfl (Nat.le_of_ble_eq_true rfl) rfl ?_
  refine dx_aload_n (dNi_init.at 20 rfl) rfl ?_
  refine dx_bipush (v := (7 : Int32)) (dNi_init.at 21 rfl) (by decide) ?_
  refine dx_newi (N := 7) (dNi_init.at 22 rfl) dx_ai (by decide) (by decide) (by decide) (by decide) (by decide) (fun q4 => ?_)
  refine dx_putF (q0 := 0) (ws' := [(h0, .inr (2, [.null, .ref q1, .ref q2, .ref q3, .int (0 : Int32), .int (-1 : Int32), .ref q4, .null])), (q1, .inl (K.2.1, 56, .inl (fun _ => 0))), (q2, .inl (K.2.1, 56, .inl (fun _ => 0))), (q3, .inl (K.2.1, 56, .inl (fun _ => 0))), (q4, .inl (K.2.1, 7, .inl (fun _ => 0)))]) (dNi_init.at 23 rfl) (own := 2) rfl fkNi_28 rfl rfl rfl rfl (ykNi 6 (by decide)) rfl rfl rfl (Nat.le_of_ble_eq_true rfl) rfl ?_
  refine dx_aload_n (dNi_init.at 24 rfl) rfl ?_
  refine dx_bipush (v := (7 : Int32)) (dNi_init.at 25 rfl) (by decide) ?_
  refine dx_newi (N := 7) (dNi_init.at 26 rfl) dx_ai (by decide) (by decide) (by decide) (by decide) (by decide) (fun q5 => ?_)
  refine dx_putF (q0 := 0) (ws' := [(h0, .inr (2, [.null, .ref q1, .ref q2, .ref q3, .int (0 : Int32), .int (-1 : Int32), .ref q4, .ref q5])), (q1, .inl (K.2.1, 56, .inl (fun _ => 0))), (q2, .inl (K.2.1, 56, .inl (fun _ => 0))), (q3, .inl (K.2.1, 56, .inl (fun _ => 0))), (q4, .inl (K.2.1, 7, .inl (fun _ => 0))), (q5, .inl (K.2.1, 7, .inl (fun _ => 0)))]) (dNi_init.at 27 rfl) (own := 2) rfl fkNi_31 rfl rfl rfl rfl (ykNi 7 (by decide)) rfl rfl rfl (Nat.le_of_ble_eq_true rfl) rfl ?_
  refine dx_aload_n (dNi_init.at 28 rfl) rfl ?_
  refine dx_aload_n (dNi_init.at 29 rfl) rfl ?_
  refine dx_putF (q0 := 0) (ws' := [(h0, .inr (2, [.ref a1, .ref q1, .ref q2, .ref q3, .int (0 : Int32), .int (-1 : Int32), .ref q4, .ref q5])), (q1, .inl (K.2.1, 56, .inl (fun _ => 0))), (q2, .inl (K.2.1, 56, .inl (fun _ => 0))), (q3, .inl (K.2.1, 56, .inl (fun _ => 0))), (q4, .inl (K.2.1, 7, .inl (fun _ => 0))), (q5, .inl (K.2.1, 7, .inl (fun _ => 0)))]) (dNi_init.at 30 rfl) (own := 2) rfl fkNi_34 rfl rfl rfl rfl (ykNi 0 (by decide)) rfl rfl rfl (Nat.le_of_ble_eq_true rfl) rfl ?_
  exact dx_vret (dNi_init.at 31 rfl) rfl rfl rfl ⟨q1, q2, q3, q4, q5, rfl⟩
def rTa_init : sx_R := (⟨"SixBeds$Tape", "<init>", "()V"⟩, prog_8_method_1_code, 1, none)
def cTa_init : List sx_I := [(0, .aload_n 0, 1, 1), (1, .invokespecial 3, 3, 4), (4, .aload_n 0, 1, 5), (5, .bipush 100, 2, 7), (7, .newarray .int, 2, 9), (9, .putfield 11, 3, 12), (12, .aload_n 0, 1, 13), (13, .iconst 0, 1, 14), (14, .putfield 15, 3, 17), (17, .aload_n 0, 1, 18), (18, .iconst 0, 1, 19), (19, .putfield 19, 3, 22), (22, .aload_n 0, 1, 23), (23, .iconst 0, 1, 24), (24, .putfield 22, 3, 27), (27, .aload_n 0, 1, 28), (28, .bipush 7, 2, 30), (30, .newarray .int, 2, 32), (32, .putfield 25, 3, 35), (35, .aload_n 0, 1, 36), (36, .bipush 7, 2, 38), (38, .newarray .int, 2, 40), (40, .putfield 28, 3, 43), (43, .aload_n 0, 1, 44), (44, .bipush 7, 2, 46), (46, .newarray .int, 2, 48), (48, .putfield 31, 3, 51), (51, .return_, 1, 52)]
set_option maxRecDepth 100000 in
theorem dTa_init : sx_ok rTa_init cTa_init := by unfold sx_ok; decide +kernel
set_option maxRecDepth 100000 in
theorem kTa_init : dx_rok 0 rTa_init := ⟨sx_in 283 rfl rfl, sx_in 61 (by decide +kernel) rfl, sx_in 282 (by decide +kernel) rfl, rfl, ⟨by decide, by decide, by decide +kernel⟩, by decide, rfl⟩
set_option maxRecDepth 100000 in
theorem oTa_init : Cond.methodLink rTa_init.1.cls 3 Lib.objectInit ∈ sx_T := sx_in 284 (by decide +kernel) rfl
def rmTa : Room := { frames := 2, cells := 4, slots := 121, locals := 60 }
def pTa (K : dx_K) (h0 : Nat) : va_W → Prop := fun u => ∃ q1 q2 q3 q4 : Nat, u = [(h0, .inr (6, [.ref q1, .int (0 : Int32), .int (0 : Int32), .int (0 : Int32), .ref q2, .ref q3, .ref q4])), (q1, .inl (K.2.1, 100, .inl (fun _ => 0))), (q2, .inl (K.2.1, 7, .inl (fun _ => 0))), (q3, .inl (K.2.1, 7, .inl (fun _ => 0))), (q4, .inl (K.2.1, 7, .inl (fun _ => 0)))]
set_option maxHeartbeats 4000000 in
theorem nTa {K : dx_K} {h0 : Nat} : dx_met K rTa_init rmTa [.ref h0] [(h0, .inr (6, [.null, .int 0, .int 0, .int 0, .null, .null, .null]))] (pTa K h0 ) := by
  refine dx_met_of rfl rfl rfl rfl rfl ?_
  refine dx_aload_n (dTa_init.at 0 rfl) rfl ?_
  refine dx_objInit (dTa_init.at 1 rfl) oTa_init dx_oi dx_oc (by decide) (by decide) (by decide) ?_
  refine dx_aload_n (dTa_init.at 2 rfl) rfl ?_
  refine dx_bipush (v := (100 : Int32)) (dTa_init.at 3 rfl) (by decide) ?_
  refine dx_newi (N := 100) (dTa_init.at 4 rfl) dx_ai (by decide) (by decide) (by decide) (by decide) (by decide) (fun q1 => ?_)
  refine dx_putF (q0 := 0) (ws' := [(h0, .inr (6, [.ref q1, .int 0, .int 0, .int 0, .null, .null, .null])), (q1, .inl (K.2.1, 100, .inl (fun _ => 0)))]) (dTa_init.at 5 rfl) (own := 6) rfl fkTa_11 rfl rfl rfl rfl (ykTa 0 (by decide)) rfl rfl rfl (Nat.le_of_ble_eq_true rfl) rfl ?_
  refine dx_aload_n (dTa_init.at 6 rfl) rfl ?_
  refine dx_iconst (v := (0 : Int32)) (dTa_init.at 7 rfl) (by decide) ?_
  refine dx_put (q0 := 0) (ws' := [(h0, .inr (6, [.ref q1, .int (0 : Int32), .int 0, .int 0, .null, .null, .null])), (q1, .inl (K.2.1, 100, .inl (fun _ => 0)))]) (dTa_init.at 8 rfl) (own := 6) rfl fkTa_15 rfl (Nat.le_of_ble_eq_true rfl) rfl ?_
  refine dx_aload_n (dTa_init.at 9 rfl) rfl ?_
  refine dx_iconst (v := (0 : Int32)) (dTa_init.at 10 rfl) (by decide) ?_
  refine dx_put (q0 := 0) (ws' := [(h0, .inr (6, [.ref q1, .int (0 : Int32), .int (0 : Int32), .int 0, .null, .null, .null])), (q1, .inl (K.2.1, 100, .inl (fun _ => 0)))]) (dTa_init.at 11 rfl) (own := 6) rfl fkTa_19 rfl (Nat.le_of_ble_eq_true rfl) rfl ?_
  refine dx_aload_n (dTa_init.at 12 rfl) rfl ?_
  refine dx_iconst (v := (0 : Int32)) (dTa_init.at 13 rfl) (by decide) ?_
  refine dx_put (q0 := 0) (ws' := [(h0, .inr (6, [.ref q1, .int (0 : Int32), .int (0 : Int32), .int (0 : Int32), .null, .null, .null])), (q1, .inl (K.2.1, 100, .inl (fun _ => 0)))]) (dTa_init.at 14 rfl) (own := 6) rfl fkTa_22 rfl (Nat.le_of_ble_eq_true rfl) rfl ?_
  refine dx_aload_n (dTa_init.at 15 rfl) rfl ?_
  refine dx_bipush (v := (7 : Int32)) (dTa_init.at 16 rfl) (by decide) ?_
  refine dx_newi (N := 7) (dTa_init.at 17 rfl) dx_ai (by decide) (by decide) (by decide) (by decide) (by decide) (fun q2 => ?_)
  refine dx_putF (q0 := 0) (ws' := [(h0, .inr (6, [.ref q1, .int (0 : Int32), .int (0 : Int32), .int (0 : Int32), .ref q2, .null, .null])), (q1, .inl (K.2.1, 100, .inl (fun _ => 0))), (q2, .inl (K.2.1, 7, .inl (fun _ => 0)))]) (dTa_init.at 18 rfl) (own := 6) rfl fkTa_25 rfl rfl rfl rfl (ykTa 4 (by decide)) rfl rfl rfl (Nat.le_of_ble_eq_true rfl) rfl ?_
  refine dx_aload_n (dTa_init.at 19 rfl) rfl ?_
  refine dx_bipush (v := (7 : Int32)) (dTa_init.at 20 rfl) (by decide) ?_
  refine dx_newi (N := 7) (dTa_init.at 21 rfl) dx_ai (by decide) (by decide) (by decide) (by decide) (by decide) (fun q3 => ?_)
  refine dx_putF (q0 := 0) (ws' := [(h0, .inr (6, [.ref q1, .int (0 : Int32), .int (0 : Int32), .int (0 : Int32), .ref q2, .ref q3, .null])), (q1, .inl (K.2.1, 100, .inl (fun _ => 0))), (q2, .inl (K.2.1, 7, .inl (fun _ => 0))), (q3, .inl (K.2.1, 7, .inl (fun _ => 0)))]) (dTa_init.at 22 rfl) (own := 6) rfl fkTa_28 rfl rfl rfl rfl (ykTa 5 (by decide)) rfl rfl rfl (Nat.le_of_ble_eq_true rfl) rfl ?_
  refine dx_aload_n (dTa_init.at 23 rfl) rfl ?_
  refine dx_bipush (v := (7 : Int32)) (dTa_init.at 24 rfl) (by decide) ?_
  refine dx_newi (N := 7) (dTa_init.at 25 rfl) dx_ai (by decide) (by decide) (by decide) (by decide) (by decide) (fun q4 => ?_)
  refine dx_putF (q0 := 0) (ws' := [(h0, .inr (6, [.ref q1, .int (0 : Int32), .int (0 : Int32), .int (0 : Int32), .ref q2, .ref q3, .ref q4])), (q1, .inl (K.2.1, 100, .inl (fun _ => 0))), (q2, .inl (K.2.1, 7, .inl (fun _ => 0))), (q3, .inl (K.2.1, 7, .inl (fun _ => 0))), (q4, .inl (K.2.1, 7, .inl (fun _ => 0)))]) (dTa_init.at 26 rfl) (own := 6) rfl fkTa_31 rfl rfl rfl rfl (ykTa 6 (by decide)) rfl rfl rfl (Nat.le_of_ble_eq_true rfl) rfl ?_
  exact dx_vret (dTa_init.at 27 rfl) rfl rfl rfl ⟨q1, q2, q3, q4, rfl⟩
def rSh_init : sx_R := (⟨"SixBeds$Sheet", "<init>", "()V"⟩, prog_6_method_1_code, 1, none)
def cSh_init : List sx_I := [(0, .aload_n 0, 1, 1), (1, .invokespecial 3, 3, 4), (4, .aload_n 0, 1, 5), (5, .bipush 16, 2, 7), (7, .newarray .long, 2, 9), (9, .putfield 9, 3, 12), (12, .aload_n 0, 1, 13), (13, .iconst 1, 1, 14), (14, .putfield 15, 3, 17), (17, .aload_n 0, 1, 18), (18, .iconst 0, 1, 19), (19, .putfield 19, 3, 22), (22, .aload_n 0, 1, 23), (23, .iconst 0, 1, 24), (24, .putfield 23, 3, 27), (27, .return_, 1, 28)]
set_option maxRecDepth 100000 in
theorem dSh_init : sx_ok rSh_init cSh_init := by unfold sx_ok; decide +kernel
set_option maxRecDepth 100000 in
theorem kSh_init : dx_rok 0 rSh_init := ⟨sx_in 318 rfl rfl, sx_in 62 (by decide +kernel) rfl, sx_in 317 (by decide +kernel) rfl, rfl, ⟨by decide, by decide, by decide +kernel⟩, by decide, rfl⟩
set_option maxRecDepth 100000 in
theorem oSh_init : Cond.methodLink rSh_init.1.cls 3 Lib.objectInit ∈ sx_T := sx_in 319 (by decide +kernel) rfl
def rmSh : Room := { frames := 2, cells := 1, slots := 16, locals := 60 }
def pSh (K : dx_K) (h0 : Nat) : va_W → Prop := fun u => ∃ q1 : Nat, u = [(h0, .inr (4, [.ref q1, .int (1 : Int32), .int (0 : Int32), .int (0 : Int32)])), (q1, .inl (K.2.2.1, 16, .inr (.inl (fun _ => 0))))]
set_option maxHeartbeats 4000000 in
theorem nSh {K : dx_K} {h0 : Nat} : dx_met K rSh_init rmSh [.ref h0] [(h0, .inr (4, [.null, .int 0, .int 0, .int 0]))] (pSh K h0 ) := by
  refine dx_met_of rfl rfl rfl rfl rfl ?_
  refine dx_aload_n (dSh_init.at 0 rfl) rfl ?_
  refine dx_objInit (dSh_init.at 1 rfl) oSh_init dx_oi dx_oc (by decide) (by decide) (by decide) ?_
  refine dx_aload_n (dSh_init.at 2 rfl) rfl ?_
  refine dx_bipush (v := (16 : Int32)) (dSh_init.at 3 rfl) (by decide) ?_
  refine dx_newl (N := 16) (dSh_init.at 4 rfl) dx_al (by decide) (by decide) (by decide) (by decide) (by decide) (fun q1 => ?_)
  refine dx_putF (q0 := 0) (ws' := [(h0, .inr (4, [.ref q1, .int 0, .int 0, .int 0])), (q1, .inl (K.2.2.1, 16, .inr (.inl (fun _ => 0))))]) (dSh_init.at 5 rfl) (own := 4) rfl fkSh_9 rfl rfl rfl rfl (ykSh 0 (by decide)) rfl rfl rfl (Nat.le_of_ble_eq_true rfl) rfl ?_
  refine dx_aload_n (dSh_init.at 6 rfl) rfl ?_
  refine dx_iconst (v := (1 : Int32)) (dSh_init.at 7 rfl) (by decide) ?_
  refine dx_putz (q0 := 0) (ws' := [(h0, .inr (4, [.ref q1, .int (1 : Int32), .int 0, .int 0])), (q1, .inl (K.2.2.1, 16, .inr (.inl (fun _ => 0))))]) (dSh_init.at 8 rfl) (own := 4) rfl fkSh_15 (by decide) rfl (Nat.le_of_ble_eq_true rfl) rfl ?_
  refine dx_aload_n (dSh_init.at 9 rfl) rfl ?_
  refine dx_iconst (v := (0 : Int32)) (dSh_init.at 10 rfl) (by decide) ?_
  refine dx_put (q0 := 0) (ws' := [(h0, .inr (4, [.ref q1, .int (1 : Int32), .int (0 : Int32), .int 0])), (q1, .inl (K.2.2.1, 16, .inr (.inl (fun _ => 0))))]) (dSh_init.at 11 rfl) (own := 4) rfl fkSh_19 rfl (Nat.le_of_ble_eq_true rfl) rfl ?_
  refine dx_aload_n (dSh_init.at 12 rfl) rfl ?_
  refine dx_iconst (v := (0 : Int32)) (dSh_init.at 13 rfl) (by decide) ?_
  refine dx_put (q0 := 0) (ws' := [(h0, .inr (4, [.ref q1, .int (1 : Int32), .int (0 : Int32), .int (0 : Int32)])), (q1, .inl (K.2.2.1, 16, .inr (.inl (fun _ => 0))))]) (dSh_init.at 14 rfl) (own := 4) rfl fkSh_23 rfl (Nat.le_of_ble_eq_true rfl) rfl ?_
  exact dx_vret (dSh_init.at 15 rfl) rfl rfl rfl ⟨q1, rfl⟩
