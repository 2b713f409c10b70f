/-! ===== the two objects, written by program ===== -/
def rSb_init : sx_R := (⟨"SixBeds", "<init>", "()V"⟩, prog_1_method_1_code, 2, none)
def cSb_init : List sx_I := [(0, .aload_n 0, 1, 1), (1, .invokespecial 1, 3, 4), (4, .aload_n 0, 1, 5), (5, .new 7, 3, 8), (8, .dup, 1, 9), (9, .invokespecial 9, 3, 12), (12, .putfield 10, 3, 15), (15, .aload_n 0, 1, 16), (16, .new 7, 3, 19), (19, .dup, 1, 20), (20, .invokespecial 9, 3, 23), (23, .putfield 16, 3, 26), (26, .aload_n 0, 1, 27), (27, .iconst 0, 1, 28), (28, .putfield 19, 3, 31), (31, .aload_n 0, 1, 32), (32, .new 23, 3, 35), (35, .dup, 1, 36), (36, .aload_n 0, 1, 37), (37, .getfield 10, 3, 40), (40, .invokespecial 25, 3, 43), (43, .putfield 28, 3, 46), (46, .aload_n 0, 1, 47), (47, .new 32, 3, 50), (50, .dup, 1, 51), (51, .aload_n 0, 1, 52), (52, .getfield 10, 3, 55), (55, .aload_n 0, 1, 56), (56, .getfield 28, 3, 59), (59, .invokespecial 34, 3, 62), (62, .putfield 37, 3, 65), (65, .aload_n 0, 1, 66), (66, .new 41, 3, 69), (69, .dup, 1, 70), (70, .aload_n 0, 1, 71), (71, .getfield 10, 3, 74), (74, .aload_n 0, 1, 75), (75, .getfield 28, 3, 78), (78, .invokespecial 43, 3, 81), (81, .putfield 44, 3, 84), (84, .aload_n 0, 1, 85), (85, .new 48, 3, 88), (88, .dup, 1, 89), (89, .aload_n 0, 1, 90), (90, .getfield 10, 3, 93), (93, .invokespecial 50, 3, 96), (96, .putfield 51, 3, 99), (99, .aload_n 0, 1, 100), (100, .new 55, 3, 103), (103, .dup, 1, 104), (104, .invokespecial 57, 3, 107), (107, .putfield 58, 3, 110), (110, .aload_n 0, 1, 111), (111, .iconst 4, 1, 112), (112, .anewarray 62, 3, 115), (115, .putfield 64, 3, 118), (118, .aload_n 0, 1, 119), (119, .bipush 8, 2, 121), (121, .newarray .int, 2, 123), (123, .putfield 68, 3, 126), (126, .iconst 0, 1, 127), (127, .istore_n 1, 1, 128), (128, .iload_n 1, 1, 129), (129, .iconst 4, 1, 130), (130, .if_icmp .ge 22, 3, 133), (133, .aload_n 0, 1, 134), (134, .getfield 64, 3, 137), (137, .iload_n 1, 1, 138), (138, .new 62, 3, 141), (141, .dup, 1, 142), (142, .invokespecial 72, 3, 145), (145, .aastore, 1, 146), (146, .iinc 1 1, 3, 149), (149, .goto (-21), 3, 152), (152, .return_, 1, 153)]
set_option maxRecDepth 100000 in
theorem dSb_init : sx_ok rSb_init cSb_init := by unfold sx_ok; decide +kernel
set_option maxRecDepth 100000 in
theorem kSb_init : dx_rok 0 rSb_init := ⟨sx_in 70 rfl rfl, sx_in 55 (by decide +kernel) rfl, sx_in 69 (by decide +kernel) rfl, rfl, ⟨by decide, by decide, by decide +kernel⟩, by decide, rfl⟩
set_option maxRecDepth 100000 in
theorem oSb_init : Cond.methodLink rSb_init.1.cls 1 Lib.objectInit ∈ sx_T := sx_in 71 (by decide +kernel) rfl
set_option maxRecDepth 100000 in
theorem nl_Ho : Cond.classLink rSb_init.1.cls 7 RHo ∈ sx_T := sx_in 74 (by decide +kernel) rfl
set_option maxRecDepth 100000 in
theorem ni_Ho : Cond.instantiable RHo 10 ∈ sx_T := sx_in 75 (by decide +kernel) rfl
set_option maxRecDepth 100000 in
theorem nn_Ho : Cond.initialized RHo ∈ sx_T := sx_in 56 (by decide +kernel) rfl
theorem nf_Ho : ∀ j, j < 10 → defaultValue (yHo j) = vp_V [.null, .null, .null, .null, .int 0, .int 0, .int 0, .int 0, .int 0, .int 0] j := by
  intro j hj
  match j, hj with
  | 0, _ => rfl
  | 1, _ => rfl
  | 2, _ => rfl
  | 3, _ => rfl
  | 4, _ => rfl
  | 5, _ => rfl
  | 6, _ => rfl
  | 7, _ => rfl
  | 8, _ => rfl
  | 9, _ => rfl
  | n + 10, h => omega
set_option maxRecDepth 100000 in
theorem nl_St : Cond.classLink rSb_init.1.cls 23 RSt ∈ sx_T := sx_in 140 (by decide +kernel) rfl
set_option maxRecDepth 100000 in
theorem ni_St : Cond.instantiable RSt 5 ∈ sx_T := sx_in 141 (by decide +kernel) rfl
set_option maxRecDepth 100000 in
theorem nn_St : Cond.initialized RSt ∈ sx_T := sx_in 57 (by decide +kernel) rfl
theorem nf_St : ∀ j, j < 5 → defaultValue (ySt j) = vp_V [.null, .null, .null, .null, .null] j := by
  intro j hj
  match j, hj with
  | 0, _ => rfl
  | 1, _ => rfl
  | 2, _ => rfl
  | 3, _ => rfl
  | 4, _ => rfl
  | n + 5, h => omega
set_option maxRecDepth 100000 in
theorem ml_St : Cond.methodLink rSb_init.1.cls 25 rSt_init.1 ∈ sx_T := sx_in 142 (by decide +kernel) rfl
set_option maxRecDepth 100000 in
theorem nl_Se : Cond.classLink rSb_init.1.cls 32 RSe ∈ sx_T := sx_in 166 (by decide +kernel) rfl
set_option maxRecDepth 100000 in
theorem ni_Se : Cond.instantiable RSe 14 ∈ sx_T := sx_in 167 (by decide +kernel) rfl
set_option maxRecDepth 100000 in
theorem nn_Se : Cond.initialized RSe ∈ sx_T := sx_in 58 (by decide +kernel) rfl
theorem nf_Se : ∀ j, j < 14 → defaultValue (ySe j) = vp_V [.null, .null, .null, .null, .null, .null, .null, .null, .int 0, .int 0, .null, .int 0, .int 0, .int 0] j := by
  intro j hj
  match j, hj with
  | 0, _ => rfl
  | 1, _ => rfl
  | 2, _ => rfl
  | 3, _ => rfl
  | 4, _ => rfl
  | 5, _ => rfl
  | 6, _ => rfl
  | 7, _ => rfl
  | 8, _ => rfl
  | 9, _ => rfl
  | 10, _ => rfl
  | 11, _ => rfl
  | 12, _ => rfl
  | 13, _ => rfl
  | n + 14, h => omega
set_option maxRecDepth 100000 in
theorem ml_Se : Cond.methodLink rSb_init.1.cls 34 rSe_init.1 ∈ sx_T := sx_in 168 (by decide +kernel) rfl
set_option maxRecDepth 100000 in
theorem nl_Ma : Cond.classLink rSb_init.1.cls 41 RMa ∈ sx_T := sx_in 218 (by decide +kernel) rfl
set_option maxRecDepth 100000 in
theorem ni_Ma : Cond.instantiable RMa 7 ∈ sx_T := sx_in 219 (by decide +kernel) rfl
set_option maxRecDepth 100000 in
theorem nn_Ma : Cond.initialized RMa ∈ sx_T := sx_in 59 (by decide +kernel) rfl
theorem nf_Ma : ∀ j, j < 7 → defaultValue (yMa j) = vp_V [.null, .null, .null, .null, .int 0, .int 0, .int 0] j := by
  intro j hj
  match j, hj with
  | 0, _ => rfl
  | 1, _ => rfl
  | 2, _ => rfl
  | 3, _ => rfl
  | 4, _ => rfl
  | 5, _ => rfl
  | 6, _ => rfl
  | n + 7, h => omega
set_option maxRecDepth 100000 in
theorem ml_Ma : Cond.methodLink rSb_init.1.cls 43 rMa_init.1 ∈ sx_T := sx_in 220 (by decide +kernel) rfl
set_option maxRecDepth 100000 in
theorem nl_Ni : Cond.classLink rSb_init.1.cls 48 RNi ∈ sx_T := sx_in 248 (by decide +kernel) rfl
set_option maxRecDepth 100000 in
theorem ni_Ni : Cond.instantiable RNi 8 ∈ sx_T := sx_in 249 (by decide +kernel) rfl
set_option maxRecDepth 100000 in
theorem nn_Ni : Cond.initialized RNi ∈ sx_T := sx_in 60 (by decide +kernel) rfl
theorem nf_Ni : ∀ j, j < 8 → defaultValue (yNi j) = vp_V [.null, .null, .null, .null, .int 0, .int 0, .null, .null] j := by
  intro j hj
  match j, hj with
  | 0, _ => rfl
  | 1, _ => rfl
  | 2, _ => rfl
  | 3, _ => rfl
  | 4, _ => rfl
  | 5, _ => rfl
  | 6, _ => rfl
  | 7, _ => rfl
  | n + 8, h => omega
set_option maxRecDepth 100000 in
theorem ml_Ni : Cond.methodLink rSb_init.1.cls 50 rNi_init.1 ∈ sx_T := sx_in 250 (by decide +kernel) rfl
set_option maxRecDepth 100000 in
theorem nl_Ta : Cond.classLink rSb_init.1.cls 55 RTa ∈ sx_T := sx_in 279 (by decide +kernel) rfl
set_option maxRecDepth 100000 in
theorem ni_Ta : Cond.instantiable RTa 7 ∈ sx_T := sx_in 280 (by decide +kernel) rfl
set_option maxRecDepth 100000 in
theorem nn_Ta : Cond.initialized RTa ∈ sx_T := sx_in 61 (by decide +kernel) rfl
theorem nf_Ta : ∀ j, j < 7 → defaultValue (yTa j) = vp_V [.null, .int 0, .int 0, .int 0, .null, .null, .null] j := by
  intro j hj
  match j, hj with
  | 0, _ => rfl
  | 1, _ => rfl
  | 2, _ => rfl
  | 3, _ => rfl
  | 4, _ => rfl
  | 5, _ => rfl
  | 6, _ => rfl
  | n + 7, h => omega
set_option maxRecDepth 100000 in
theorem nl_Sh : Cond.classLink rSb_init.1.cls 62 RSh ∈ sx_T := sx_in 313 (by decide +kernel) rfl
set_option maxRecDepth 100000 in
theorem ni_Sh : Cond.instantiable RSh 4 ∈ sx_T := sx_in 315 (by decide +kernel) rfl
set_option maxRecDepth 100000 in
theorem nn_Sh : Cond.initialized RSh ∈ sx_T := sx_in 62 (by decide +kernel) rfl
theorem nf_Sh : ∀ j, j < 4 → defaultValue (ySh j) = vp_V [.null, .int 0, .int 0, .int 0] j := by
  intro j hj
  match j, hj with
  | 0, _ => rfl
  | 1, _ => rfl
  | 2, _ => rfl
  | 3, _ => rfl
  | n + 4, h => omega
set_option maxRecDepth 100000 in
theorem dx_sq : Cond.classLink rSb_init.1.cls 62 "SixBeds$Sheet" ∈ sx_T := sx_in 313 (by decide +kernel) rfl
def rmSb : Room := { frames := 3, cells := 47, slots := 754, locals := 200 }
def wSb (K : dx_K) (q : Nat → Nat) : va_W := [(q 0, .inr (7, [.ref (q 1), .ref (q 6), .int (0 : Int32), .ref (q 11), .ref (q 16), .ref (q 24), .ref (q 27), .ref (q 33), .ref (q 38), .ref (q 39)])), (q 1, .inr (0, [.ref (q 2), .ref (q 3), .ref (q 4), .ref (q 5), .int (0 : Int32), .int (6 : Int32), .int (7 : Int32), .int (0 : Int32), .int (0 : Int32), .int (0 : Int32)])), (q 2, .inl (K.2.1, 7, .inl (fun _ => 0))), (q 3, .inl (K.2.1, 7, .inl (fun _ => 0))), (q 4, .inl (K.2.1, 7, .inl (fun _ => 0))), (q 5, .inl (K.2.1, 7, .inl (fun _ => 0))), (q 6, .inr (0, [.ref (q 7), .ref (q 8), .ref (q 9), .ref (q 10), .int (0 : Int32), .int (6 : Int32), .int (7 : Int32), .int (0 : Int32), .int (0 : Int32), .int (0 : Int32)])), (q 7, .inl (K.2.1, 7, .inl (fun _ => 0))), (q 8, .inl (K.2.1, 7, .inl (fun _ => 0))), (q 9, .inl (K.2.1, 7, .inl (fun _ => 0))), (q 10, .inl (K.2.1, 7, .inl (fun _ => 0))), (q 11, .inr (5, [.ref (q 1), .ref (q 12), .ref (q 13), .ref (q 14), .ref (q 15)])), (q 12, .inl (K.2.1, 7, .inl (fun _ => 0))), (q 13, .inl (K.2.2.1, 56, .inr (.inl (fun _ => 0)))), (q 14, .inl (K.2.2.1, 56, .inr (.inl (fun _ => 0)))), (q 15, .inl (K.2.2.1, 56, .inr (.inl (fun _ => 0)))), (q 16, .inr (3, [.ref (q 1), .ref (q 11), .ref (q 17), .ref (q 18), .ref (q 19), .ref (q 20), .ref (q 21), .ref (q 22), .int (0 : Int32), .int (-1 : Int32), .ref (q 23), .int (0 : Int32), .int (0 : Int32), .int (-1 : Int32)])), (q 17, .inl (K.2.1, 7, .inl (fun _ => 0))), (q 18, .inl (K.2.1, 7, .inl (fun _ => 0))), (q 19, .inl (K.2.1, 7, .inl (fun _ => 0))), (q 20, .inl (K.2.1, 8, .inl (fun _ => 0))), (q 21, .inl (K.2.1, 7, .inl (fun _ => 0))), (q 22, .inl (K.2.1, 7, .inl (fun _ => 0))), (q 23, .inl (K.2.1, 7, .inl (fun _ => 0))), (q 24, .inr (1, [.ref (q 1), .ref (q 11), .ref (q 25), .ref (q 26), .int (0 : Int32), .int (0 : Int32), .int (-1 : Int32)])), (q 25, .inl (K.2.2.1, 9, .inr (.inl (fun _ => 0)))), (q 26, .inl (K.2.1, 8, .inl (fun _ => 0))), (q 27, .inr (2, [.ref (q 1), .ref (q 28), .ref (q 29), .ref (q 30), .int (0 : Int32), .int (-1 : Int32), .ref (q 31), .ref (q 32)])), (q 28, .inl (K.2.1, 56, .inl (fun _ => 0))), (q 29, .inl (K.2.1, 56, .inl (fun _ => 0))), (q 30, .inl (K.2.1, 56, .inl (fun _ => 0))), (q 31, .inl (K.2.1, 7, .inl (fun _ => 0))), (q 32, .inl (K.2.1, 7, .inl (fun _ => 0))), (q 33, .inr (6, [.ref (q 34), .int (0 : Int32), .int (0 : Int32), .int (0 : Int32), .ref (q 35), .ref (q 36), .ref (q 37)])), (q 34, .inl (K.2.1, 100, .inl (fun _ => 0))), (q 35, .inl (K.2.1, 7, .inl (fun _ => 0))), (q 36, .inl (K.2.1, 7, .inl (fun _ => 0))), (q 37, .inl (K.2.1, 7, .inl (fun _ => 0))), (q 38, .inl (K.2.2.2, 4, .inr (.inr (.inr (.inr (va_up (va_up (va_up (va_up (fun _ => none) 0 (some (q 40))) 1 (some (q 42))) 2 (some (q 44))) 3 (some (q 46)))))))), (q 39, .inl (K.2.1, 8, .inl (fun _ => 0))), (q 40, .inr (4, [.ref (q 41), .int (1 : Int32), .int (0 : Int32), .int (0 : Int32)])), (q 41, .inl (K.2.2.1, 16, .inr (.inl (fun _ => 0)))), (q 42, .inr (4, [.ref (q 43), .int (1 : Int32), .int (0 : Int32), .int (0 : Int32)])), (q 43, .inl (K.2.2.1, 16, .inr (.inl (fun _ => 0)))), (q 44, .inr (4, [.ref (q 45), .int (1 : Int32), .int (0 : Int32), .int (0 : Int32)])), (q 45, .inl (K.2.2.1, 16, .inr (.inl (fun _ => 0)))), (q 46, .inr (4, [.ref (q 47), .int (1 : Int32), .int (0 : Int32), .int (0 : Int32)])), (q 47, .inl (K.2.2.1, 16, .inr (.inl (fun _ => 0))))]
def pSb (K : dx_K) (h0 : Nat) : va_W → Prop := fun u => ∃ q : Nat → Nat, q 0 = h0 ∧ u = wSb K q
set_option maxHeartbeats 16000000 in
set_option maxRecDepth 20000 in
theorem nSb {K : dx_K} {h0 : Nat} : dx_met K rSb_init rmSb [.ref h0] [(h0, .inr (7, [.null, .null, .int 0, .null, .null, .null, .null, .null, .null, .null]))] (pSb K h0) := by
  refine dx_met_of rfl rfl rfl rfl rfl ?_
  refine dx_aload_n (dSb_init.at 0 rfl) rfl ?_
  refine dx_objInit (dSb_init.at 1 rfl) oSb_init dx_oi dx_oc (by decide) (by decide) (by decide) ?_
  refine dx_aload_n (dSb_init.at 2 rfl) rfl ?_
  refine dx_new (ci := 0) (N := 10) (C := RHo) (T := THo) (ty := yHo) (fs := [.null, .null, .null, .null, .int 0, .int 0, .int 0, .int 0, .int 0, .int 0]) (dSb_init.at 3 rfl) nl_Ho ni_Ho nn_Ho rfl ykHo nf_Ho (by decide) (by decide) (fun q1 => ?_)
  refine dx_dup (dSb_init.at 4 rfl) rfl ?_
  refine dx_initN (host := "SixBeds") (x := .inr (0, [.null, .null, .null, .null, .int 0, .int 0, .int 0, .int 0, .int 0, .int 0])) (As := []) (rm2 := rmHo) (st := [.ref q1, .ref h0]) (dSb_init.at 5 rfl) (List.mem_of_getElem? (i := 0) rfl) kHo_init rfl (Nat.le_of_ble_eq_true rfl) rfl ⟨by decide, by decide, by decide, by decide⟩ nHo (fun u hu => ?_)
  obtain ⟨q2, q3, q4, q5, rfl⟩ := hu
  refine dx_putF (q0 := 0) (ws' := [(h0, .inr (7, [.ref q1, .null, .int 0, .null, .null, .null, .null, .null, .null, .null])), (q1, .inr (0, [.ref q2, .ref q3, .ref q4, .ref q5, .int (0 : Int32), .int (6 : Int32), .int (7 : Int32), .int (0 : Int32), .int (0 : Int32), .int (0 : Int32)])), (q2, .inl (K.2.1, 7, .inl (fun _ => 0))), (q3, .inl (K.2.1, 7, .inl (fun _ => 0))), (q4, .inl (K.2.1, 7, .inl (fun _ => 0))), (q5, .inl (K.2.1, 7, .inl (fun _ => 0)))]) (dSb_init.at 6 rfl) (own := 7) rfl fkSb_10 rfl rfl rfl rfl (ykSb 0 (by decide)) rfl rfl rfl (Nat.le_of_ble_eq_true rfl) rfl ?_
  refine dx_aload_n (dSb_init.at 7 rfl) rfl ?_
  refine dx_new (ci := 0) (N := 10) (C := RHo) (T := THo) (ty := yHo) (fs := [.null, .null, .null, .null, .int 0, .int 0, .int 0, .int 0, .int 0, .int 0]) (dSb_init.at 8 rfl) nl_Ho ni_Ho nn_Ho rfl ykHo nf_Ho (by decide) (by decide) (fun q6 => ?_)
  refine dx_dup (dSb_init.at 9 rfl) rfl ?_
  refine dx_initN (host := "SixBeds") (x := .inr (0, [.null, .null, .null, .null, .int 0, .int 0, .int 0, .int 0, .int 0, .int 0])) (As := []) (rm2 := rmHo) (st := [.ref q6, .ref h0]) (dSb_init.at 10 rfl) (List.mem_of_getElem? (i := 0) rfl) kHo_init rfl (Nat.le_of_ble_eq_true rfl) rfl ⟨by decide, by decide, by decide, by decide⟩ nHo (fun u hu => ?_)
  obtain ⟨q7, q8, q9, q10, rfl⟩ := hu
  refine dx_putF (q0 := 0) (ws' := [(h0, .inr (7, [.ref q1, .ref q6, .int 0, .null, .null, .null, .null, .null, .null, .null])), (q1, .inr (0, [.ref q2, .ref q3, .ref q4, .ref q5, .int (0 : Int32), .int (6 : Int32), .int (7 : Int32), .int (0 : Int32), .int (0 : Int32), .int (0 : Int32)])), (q2, .inl (K.2.1, 7, .inl (fun _ => 0))), (q3, .inl (K.2.1, 7, .inl (fun _ => 0))), (q4, .inl (K.2.1, 7, .inl (fun _ => 0))), (q5, .inl (K.2.1, 7, .inl (fun _ => 0))), (q6, .inr (0, [.ref q7, .ref q8, .ref q9, .ref q10, .int (0 : Int32), .int (6 : Int32), .int (7 : Int32), .int (0 : Int32), .int (0 : Int32), .int (0 : Int32)])), (q7, .inl (K.2.1, 7, .inl (fun _ => 0))), (q8, .inl (K.2.1, 7, .inl (fun _ => 0))), (q9, .inl (K.2.1, 7, .inl (fun _ => 0))), (q10, .inl (K.2.1, 7, .inl (fun _ => 0)))]) (dSb_init.at 11 rfl) (own := 7) rfl fkSb_16 rfl rfl rfl rfl (ykSb 1 (by decide)) rfl rfl rfl (Nat.le_of_ble_eq_true rfl) rfl ?_
  refine dx_aload_n (dSb_init.at 12 rfl) rfl ?_
  refine dx_iconst (v := (0 : Int32)) (dSb_init.at 13 rfl) (by decide) ?_
  refine dx_putz (q0 := 0) (ws' := [(h0, .inr (7, [.ref q1, .ref q6, .int (0 : Int32), .null, .null, .null, .null, .null, .null, .null])), (q1, .inr (0, [.ref q2, .ref q3, .ref q4, .ref q5, .int (0 : Int32), .int (6 : Int32), .int (7 : Int32), .int (0 : Int32), .int (0 : Int32), .int (0 : Int32)])), (q2, .inl (K.2.1, 7, .inl (fun _ => 0))), (q3, .inl (K.2.1, 7, .inl (fun _ => 0))), (q4, .inl (K.2.1, 7, .inl (fun _ => 0))), (q5, .inl (K.2.1, 7, .inl (fun _ => 0))), (q6, .inr (0, [.ref q7, .ref q8, .ref q9, .ref q10, .int (0 : Int32), .int (6 : Int32), .int (7 : Int32), .int (0 : Int32), .int (0 : Int32), .int (0 : Int32)])), (q7, .inl (K.2.1, 7, .inl (fun _ => 0))), (q8, .inl (K.2.1, 7, .inl (fun _ => 0))), (q9, .inl (K.2.1, 7, .inl (fun _ => 0))), (q10, .inl (K.2.1, 7, .inl (fun _ => 0)))]) (dSb_init.at 14 rfl) (own := 7) rfl fkSb_19 (by decide) rfl (Nat.le_of_ble_eq_true rfl) rfl ?_
  refine dx_aload_n (dSb_init.at 15 rfl) rfl ?_
  refine dx_new (ci := 5) (N := 5) (C := RSt) (T := TSt) (ty := ySt) (fs := [.null, .null, .null, .null, .null]) (dSb_init.at 16 rfl) nl_St ni_St nn_St rfl ykSt nf_St (by decide) (by decide) (fun q11 => ?_)
  refine dx_dup (dSb_init.at 17 rfl) rfl ?_
  refine dx_aload_n (dSb_init.at 18 rfl) rfl ?_
  refine dx_getr (q0 := 0) (dSb_init.at 19 rfl) (own := 7) rfl fkSb_10 rfl rfl ?_
  refine dx_init (x := .inr (5, [.null, .null, .null, .null, .null])) (As := [.ref q1]) (rm2 := rmSt) (st := [.ref q11, .ref h0]) (dSb_init.at 20 rfl) ml_St kSt_init rfl (Nat.le_of_ble_eq_true rfl) rfl ⟨by decide, by decide, by decide, by decide⟩ nSt (fun u hu => ?_)
  obtain ⟨q12, q13, q14, q15, rfl⟩ := hu
  refine dx_putF (q0 := 0) (ws' := [(h0, .inr (7, [.ref q1, .ref q6, .int (0 : Int32), .ref q11, .null, .null, .null, .null, .null, .null])), (q1, .inr (0, [.ref q2, .ref q3, .ref q4, .ref q5, .int (0 : Int32), .int (6 : Int32), .int (7 : Int32), .int (0 : Int32), .int (0 : Int32), .int (0 : Int32)])), (q2, .inl (K.2.1, 7, .inl (fun _ => 0))), (q3, .inl (K.2.1, 7, .inl (fun _ => 0))), (q4, .inl (K.2.1, 7, .inl (fun _ => 0))), (q5, .inl (K.2.1, 7, .inl (fun _ => 0))), (q6, .inr (0, [.ref q7, .ref q8, .ref q9, .ref q10, .int (0 : Int32), .int (6 : Int32), .int (7 : Int32), .int (0 : Int32), .int (0 : Int32), .int (0 : Int32)])), (q7, .inl (K.2.1, 7, .inl (fun _ => 0))), (q8, .inl (K.2.1, 7, .inl (fun _ => 0))), (q9, .inl (K.2.1, 7, .inl (fun _ => 0))), (q10, .inl (K.2.1, 7, .inl (fun _ => 0))), (q11, .inr (5, [.ref q1, .ref q12, .ref q13, .ref q14, .ref q15])), (q12, .inl (K.2.1, 7, .inl (fun _ => 0))), (q13, .inl (K.2.2.1, 56, .inr (.inl (fun _ => 0)))), (q14, .inl (K.2.2.1, 56, .inr (.inl (fun _ => 0)))), (q15, .inl (K.2.2.1, 56, .inr (.inl (fun _ => 0))))]) (dSb_init.at 21 rfl) (own := 7) rfl fkSb_28 rfl rfl rfl rfl (ykSb 3 (by decide)) rfl rfl rfl (Nat.le_of_ble_eq_true rfl) rfl ?_
  refine dx_aload_n (dSb_init.at 22 rfl) rfl ?_
  refine dx_new (ci := 3) (N := 14) (C := RSe) (T := TSe) (ty := ySe) (fs := [.null, .null, .null, .null, .null, .null, .null, .null, .int 0, .int 0, .null, .int 0, .int 0, .int 0]) (dSb_init.at 23 rfl) nl_Se ni_Se nn_Se rfl ykSe nf_Se (by decide) (by decide) (fun q16 => ?_)
  refine dx_dup (dSb_init.at 24 rfl) rfl ?_
  refine dx_aload_n (dSb_init.at 25 rfl) rfl ?_
  refine dx_getr (q0 := 0) (dSb_init.at 26 rfl) (own := 7) rfl fkSb_10 rfl rfl ?_
  refine dx_aload_n (dSb_init.at 27 rfl) rfl ?_
  refine dx_getr (q0 := 0) (dSb_init.at 28 rfl) (own := 7) rfl fkSb_28 rfl rfl ?_
  refine dx_init (x := .inr (3, [.null, .null, .null, .null, .null, .null, .null, .null, .int 0, .int 0, .null, .int 0, .int 0, .int 0])) (As := [.ref q1, .ref q11]) (rm2 := rmSe) (st := [.ref q16, .ref h0]) (dSb_init.at 29 rfl) ml_Se kSe_init rfl (Nat.le_of_ble_eq_true rfl) rfl ⟨by decide, by decide, by decide, by decide⟩ nSe (fun u hu => ?_)
  obtain ⟨q17, q18, q19, q20, q21, q22, q23, rfl⟩ := hu
  refine dx_putF (q0 := 0) (ws' := [(h0, .inr (7, [.ref q1, .ref q6, .int (0 : Int32), .ref q11, .ref q16, .null, .null, .null, .null, .null])), (q1, .inr (0, [.ref q2, .ref q3, .ref q4, .ref q5, .int (0 : Int32), .int (6 : Int32), .int (7 : Int32), .int (0 : Int32), .int (0 : Int32), .int (0 : Int32)])), (q2, .inl (K.2.1, 7, .inl (fun _ => 0))), (q3, .inl (K.2.1, 7, .inl (fun _ => 0))), (q4, .inl (K.2.1, 7, .inl (fun _ => 0))), (q5, .inl (K.2.1, 7, .inl (fun _ => 0))), (q6, .inr (0, [.ref q7, .ref q8, .ref q9, .ref q10, .int (0 : Int32), .int (6 : Int32), .int (7 : Int32), .int (0 : Int32), .int (0 : Int32), .int (0 : Int32)])), (q7, .inl (K.2.1, 7, .inl (fun _ => 0))), (q8, .inl (K.2.1, 7, .inl (fun _ => 0))), (q9, .inl (K.2.1, 7, .inl (fun _ => 0))), (q10, .inl (K.2.1, 7, .inl (fun _ => 0))), (q11, .inr (5, [.ref q1, .ref q12, .ref q13, .ref q14, .ref q15])), (q12, .inl (K.2.1, 7, .inl (fun _ => 0))), (q13, .inl (K.2.2.1, 56, .inr (.inl (fun _ => 0)))), (q14, .inl (K.2.2.1, 56, .inr (.inl (fun _ => 0)))), (q15, .inl (K.2.2.1, 56, .inr (.inl (fun _ => 0)))), (q16, .inr (3, [.ref q1, .ref q11, .ref q17, .ref q18, .ref q19, .ref q20, .ref q21, .ref q22, .int (0 : Int32), .int (-1 : Int32), .ref q23, .int (0 : Int32), .int (0 : Int32), .int (-1 : Int32)])), (q17, .inl (K.2.1, 7, .inl (fun _ => 0))), (q18, .inl (K.2.1, 7, .inl (fun _ => 0))), (q19, .inl (K.2.1, 7, .inl (fun _ => 0))), (q20, .inl (K.2.1, 8, .inl (fun _ => 0))), (q21, .inl (K.2.1, 7, .inl (fun _ => 0))), (q22, .inl (K.2.1, 7, .inl (fun _ => 0))), (q23, .inl (K.2.1, 7, .inl (fun _ => 0)))]) (dSb_init.at 30 rfl) (own := 7) rfl fkSb_37 rfl rfl rfl rfl (ykSb 4 (by decide)) rfl rfl rfl (Nat.le_of_ble_eq_true rfl) rfl ?_
  refine dx_aload_n (dSb_init.at 31 rfl) rfl ?_
  refine dx_new (ci := 1) (N := 7) (C := RMa) (T := TMa) (ty := yMa) (fs := [.null, .null, .null, .null, .int 0, .int 0, .int 0]) (dSb_init.at 32 rfl) nl_Ma ni_Ma nn_Ma rfl ykMa nf_Ma (by decide) (by decide) (fun q24 => ?_)
  refine dx_dup (dSb_init.at 33 rfl) rfl ?_
  refine dx_aload_n (dSb_init.at 34 rfl) rfl ?_
  refine dx_getr (q0 := 0) (dSb_init.at 35 rfl) (own := 7) rfl fkSb_10 rfl rfl ?_
  refine dx_aload_n (dSb_init.at 36 rfl) rfl ?_
  refine dx_getr (q0 := 0) (dSb_init.at 37 rfl) (own := 7) rfl fkSb_28 rfl rfl ?_
  refine dx_init (x := .inr (1, [.null, .null, .null, .null, .int 0, .int 0, .int 0])) (As := [.ref q1, .ref q11]) (rm2 := rmMa) (st := [.ref q24, .ref h0]) (dSb_init.at 38 rfl) ml_Ma kMa_init rfl (Nat.le_of_ble_eq_true rfl) rfl ⟨by decide, by decide, by decide, by decide⟩ nMa (fun u hu => ?_)
  obtain ⟨q25, q26, rfl⟩ := hu
  refine dx_putF (q0 := 0) (ws' := [(h0, .inr (7, [.ref q1, .ref q6, .int (0 : Int32), .ref q11, .ref q16, .ref q24, .null, .null, .null, .null])), (q1, .inr (0, [.ref q2, .ref q3, .ref q4, .ref q5, .int (0 : Int32), .int (6 : Int32), .int (7 : Int32), .int (0 : Int32), .int (0 : Int32), .int (0 : Int32)])), (q2, .inl (K.2.1, 7, .inl (fun _ => 0))), (q3, .inl (K.2.1, 7, .inl (fun _ => 0))), (q4, .inl (K.2.1, 7, .inl (fun _ => 0))), (q5, .inl (K.2.1, 7, .inl (fun _ => 0))), (q6, .inr (0, [.ref q7, .ref q8, .ref q9, .ref q10, .int (0 : Int32), .int (6 : Int32), .int (7 : Int32), .int (0 : Int32), .int (0 : Int32), .int (0 : Int32)])), (q7, .inl (K.2.1, 7, .inl (fun _ => 0))), (q8, .inl (K.2.1, 7, .inl (fun _ => 0))), (q9, .inl (K.2.1, 7, .inl (fun _ => 0))), (q10, .inl (K.2.1, 7, .inl (fun _ => 0))), (q11, .inr (5, [.ref q1, .ref q12, .ref q13, .ref q14, .ref q15])), (q12, .inl (K.2.1, 7, .inl (fun _ => 0))), (q13, .inl (K.2.2.1, 56, .inr (.inl (fun _ => 0)))), (q14, .inl (K.2.2.1, 56, .inr (.inl (fun _ => 0)))), (q15, .inl (K.2.2.1, 56, .inr (.inl (fun _ => 0)))), (q16, .inr (3, [.ref q1, .ref q11, .ref q17, .ref q18, .ref q19, .ref q20, .ref q21, .ref q22, .int (0 : Int32), .int (-1 : Int32), .ref q23, .int (0 : Int32), .int (0 : Int32), .int (-1 : Int32)])), (q17, .inl (K.2.1, 7, .inl (fun _ => 0))), (q18, .inl (K.2.1, 7, .inl (fun _ => 0))), (q19, .inl (K.2.1, 7, .inl (fun _ => 0))), (q20, .inl (K.2.1, 8, .inl (fun _ => 0))), (q21, .inl (K.2.1, 7, .inl (fun _ => 0))), (q22, .inl (K.2.1, 7, .inl (fun _ => 0))), (q23, .inl (K.2.1, 7, .inl (fun _ => 0))), (q24, .inr (1, [.ref q1, .ref q11, .ref q25, .ref q26, .int (0 : Int32), .int (0 : Int32), .int (-1 : Int32)])), (q25, .inl (K.2.2.1, 9, .inr (.inl (fun _ => 0)))), (q26, .inl (K.2.1, 8, .inl (fun _ => 0)))]) (dSb_init.at 39 rfl) (own := 7) rfl fkSb_44 rfl rfl rfl rfl (ykSb 5 (by decide)) rfl rfl rfl (Nat.le_of_ble_eq_true rfl) rfl ?_
  refine dx_aload_n (dSb_init.at 40 rfl) rfl ?_
  refine dx_new (ci := 2) (N := 8) (C := RNi) (T := TNi) (ty := yNi) (fs := [.null, .null, .null, .null, .int 0, .int 0, .null, .null]) (dSb_init.at 41 rfl) nl_Ni ni_Ni nn_Ni rfl ykNi nf_Ni (by decide) (by decide) (fun q27 => ?_)
  refine dx_dup (dSb_init.at 42 rfl) rfl ?_
  refine dx_aload_n (dSb_init.at 43 rfl) rfl ?_
  refine dx_getr (q0 := 0) (dSb_init.at 44 rfl) (own := 7) rfl fkSb_10 rfl rfl ?_
  refine dx_init (x := .inr (2, [.null, .null, .null, .null, .int 0, .int 0, .null, .null])) (As := [.ref q1]) (rm2 := rmNi) (st := [.ref q27, .ref h0]) (dSb_init.at 45 rfl) ml_Ni kNi_init rfl (Nat.le_of_ble_eq_true rfl) rfl ⟨by decide, by decide, by decide, by decide⟩ nNi (fun u hu => ?_)
  obtain ⟨q28, q29, q30, q31, q32, rfl⟩ := hu
  refine dx_putF (q0 := 0) (ws' := [(h0, .inr (7, [.ref q1, .ref q6, .int (0 : Int32), .ref q11, .ref q16, .ref q24, .ref q27, .null, .null, .null])), (q1, .inr (0, [.ref q2, .ref q3, .ref q4, .ref q5, .int (0 : Int32), .int (6 : Int32), .int (7 : Int32), .int (0 : Int32), .int (0 : Int32), .int (0 : Int32)])), (q2, .inl (K.2.1, 7, .inl (fun _ => 0))), (q3, .inl (K.2.1, 7, .inl (fun _ => 0))), (q4, .inl (K.2.1, 7, .inl (fun _ => 0))), (q5, .inl (K.2.1, 7, .inl (fun _ => 0))), (q6, .inr (0, [.ref q7, .ref q8, .ref q9, .ref q10, .int (0 : Int32), .int (6 : Int32), .int (7 : Int32), .int (0 : Int32), .int (0 : Int32), .int (0 : Int32)])), (q7, .inl (K.2.1, 7, .inl (fun _ => 0))), (q8, .inl (K.2.1, 7, .inl (fun _ => 0))), (q9, .inl (K.2.1, 7, .inl (fun _ => 0))), (q10, .inl (K.2.1, 7, .inl (fun _ => 0))), (q11, .inr (5, [.ref q1, .ref q12, .ref q13, .ref q14, .ref q15])), (q12, .inl (K.2.1, 7, .inl (fun _ => 0))), (q13, .inl (K.2.2.1, 56, .inr (.inl (fun _ => 0)))), (q14, .inl (K.2.2.1, 56, .inr (.inl (fun _ => 0)))), (q15, .inl (K.2.2.1, 56, .inr (.inl (fun _ => 0)))), (q16, .inr (3, [.ref q1, .ref q11, .ref q17, .ref q18, .ref q19, .ref q20, .ref q21, .ref q22, .int (0 : Int32), .int (-1 : Int32), .ref q23, .int (0 : Int32), .int (0 : Int32), .int (-1 : Int32)])), (q17, .inl (K.2.1, 7, .inl (fun _ => 0))), (q18, .inl (K.2.1, 7, .inl (fun _ => 0))), (q19, .inl (K.2.1, 7, .inl (fun _ => 0))), (q20, .inl (K.2.1, 8, .inl (fun _ => 0))), (q21, .inl (K.2.1, 7, .inl (fun _ => 0))), (q22, .inl (K.2.1, 7, .inl (fun _ => 0))), (q23, .inl (K.2.1, 7, .inl (fun _ => 0))), (q24, .inr (1, [.ref q1, .ref q11, .ref q25, .ref q26, .int (0 : Int32), .int (0 : Int32), .int (-1 : Int32)])), (q25, .inl (K.2.2.1, 9, .inr (.inl (fun _ => 0)))), (q26, .inl (K.2.1, 8, .inl (fun _ => 0))), (q27, .inr (2, [.ref q1, .ref q28, .ref q29, .ref q30, .int (0 : Int32), .int (-1 : Int32), .ref q31, .ref q32])), (q28, .inl (K.2.1, 56, .inl (fun _ => 0))), (q29, .inl (K.2.1, 56, .inl (fun _ => 0))), (q30, .inl (K.2.1, 56, .inl (fun _ => 0))), (q31, .inl (K.2.1, 7, .inl (fun _ => 0))), (q32, .inl (K.2.1, 7, .inl (fun _ => 0)))]) (dSb_init.at 46 rfl) (own := 7) rfl fkSb_51 rfl rfl rfl rfl (ykSb 6 (by decide)) rfl rfl rfl (Nat.le_of_ble_eq_true rfl) rfl ?_
  refine dx_aload_n (dSb_init.at 47 rfl) rfl ?_
  refine dx_new (ci := 6) (N := 7) (C := RTa) (T := TTa) (ty := yTa) (fs := [.null, .int 0, .int 0, .int 0, .null, .null, .null]) (dSb_init.at 48 rfl) nl_Ta ni_Ta nn_Ta rfl ykTa nf_Ta (by decide) (by decide) (fun q33 => ?_)
  refine dx_dup (dSb_init.at 49 rfl) rfl ?_
  refine dx_initN (host := "SixBeds") (x := .inr (6, [.null, .int 0, .int 0, .int 0, .null, .null, .null])) (As := []) (rm2 := rmTa) (st := [.ref q33, .ref h0]) (dSb_init.at 50 rfl) (List.mem_of_getElem? (i := 1) rfl) kTa_init rfl (Nat.le_of_ble_eq_true rfl) rfl ⟨by decide, by decide, by decide, by decide⟩ nTa (fun u hu => ?_)
  obtain ⟨q34, q35, q36, q37, rfl⟩ := hu
  refine dx_putF (q0 := 0) (ws' := [(h0, .inr (7, [.ref q1, .ref q6, .int (0 : Int32), .ref q11, .ref q16, .ref q24, .ref q27, .ref q33, .null, .null])), (q1, .inr (0, [.ref q2, .ref q3, .ref q4, .ref q5, .int (0 : Int32), .int (6 : Int32), .int (7 : Int32), .int (0 : Int32), .int (0 : Int32), .int (0 : Int32)])), (q2, .inl (K.2.1, 7, .inl (fun _ => 0))), (q3, .inl (K.2.1, 7, .inl (fun _ => 0))), (q4, .inl (K.2.1, 7, .inl (fun _ => 0))), (q5, .inl (K.2.1, 7, .inl (fun _ => 0))), (q6, .inr (0, [.ref q7, .ref q8, .ref q9, .ref q10, .int (0 : Int32), .int (6 : Int32), .int (7 : Int32), .int (0 : Int32), .int (0 : Int32), .int (0 : Int32)])), (q7, .inl (K.2.1, 7, .inl (fun _ => 0))), (q8, .inl (K.2.1, 7, .inl (fun _ => 0))), (q9, .inl (K.2.1, 7, .inl (fun _ => 0))), (q10, .inl (K.2.1, 7, .inl (fun _ => 0))), (q11, .inr (5, [.ref q1, .ref q12, .ref q13, .ref q14, .ref q15])), (q12, .inl (K.2.1, 7, .inl (fun _ => 0))), (q13, .inl (K.2.2.1, 56, .inr (.inl (fun _ => 0)))), (q14, .inl (K.2.2.1, 56, .inr (.inl (fun _ => 0)))), (q15, .inl (K.2.2.1, 56, .inr (.inl (fun _ => 0)))), (q16, .inr (3, [.ref q1, .ref q11, .ref q17, .ref q18, .ref q19, .ref q20, .ref q21, .ref q22, .int (0 : Int32), .int (-1 : Int32), .ref q23, .int (0 : Int32), .int (0 : Int32), .int (-1 : Int32)])), (q17, .inl (K.2.1, 7, .inl (fun _ => 0))), (q18, .inl (K.2.1, 7, .inl (fun _ => 0))), (q19, .inl (K.2.1, 7, .inl (fun _ => 0))), (q20, .inl (K.2.1, 8, .inl (fun _ => 0))), (q21, .inl (K.2.1, 7, .inl (fun _ => 0))), (q22, .inl (K.2.1, 7, .inl (fun _ => 0))), (q23, .inl (K.2.1, 7, .inl (fun _ => 0))), (q24, .inr (1, [.ref q1, .ref q11, .ref q25, .ref q26, .int (0 : Int32), .int (0 : Int32), .int (-1 : Int32)])), (q25, .inl (K.2.2.1, 9, .inr (.inl (fun _ => 0)))), (q26, .inl (K.2.1, 8, .inl (fun _ => 0))), (q27, .inr (2, [.ref q1, .ref q28, .ref q29, .ref q30, .int (0 : Int32), .int (-1 : Int32), .ref q31, .ref q32])), (q28, .inl (K.2.1, 56, .inl (fun _ => 0))), (q29, .inl (K.2.1, 56, .inl (fun _ => 0))), (q30, .inl (K.2.1, 56, .inl (fun _ => 0))), (q31, .inl (K.2.1, 7, .inl (fun _ => 0))), (q32, .inl (K.2.1, 7, .inl (fun _ => 0))), (q33, .inr (6, [.ref q34, .int (0 : Int32), .int (0 : Int32), .int (0 : Int32), .ref q35, .ref q36, .ref q37])), (q34, .inl (K.2.1, 100, .inl (fun _ => 0))), (q35, .inl (K.2.1, 7, .inl (fun _ => 0))), (q36, .inl (K.2.1, 7, .inl (fun _ => 0))), (q37, .inl (K.2.1, 7, .inl (fun _ => 0)))]) (dSb_init.at 51 rfl) (own := 7) rfl fkSb_58 rfl rfl rfl rfl (ykSb 7 (by decide)) rfl rfl rfl (Nat.le_of_ble_eq_true rfl) rfl ?_
  refine dx_aload_n (dSb_init.at 52 rfl) rfl ?_
  refine dx_iconst (v := (4 : Int32)) (dSb_init.at 53 rfl) (by decide) ?_
  refine dx_newq (N := 4) (dSb_init.at 54 rfl) dx_sq (by decide) (by decide) (by decide) (by decide) (by decide) (fun q38 => ?_)
  refine dx_putF (q0 := 0) (ws' := [(h0, .inr (7, [.ref q1, .ref q6, .int (0 : Int32), .ref q11, .ref q16, .ref q24, .ref q27, .ref q33, .ref q38, .null])), (q1, .inr (0, [.ref q2, .ref q3, .ref q4, .ref q5, .int (0 : Int32), .int (6 : Int32), .int (7 : Int32), .int (0 : Int32), .int (0 : Int32), .int (0 : Int32)])), (q2, .inl (K.2.1, 7, .inl (fun _ => 0))), (q3, .inl (K.2.1, 7, .inl (fun _ => 0))), (q4, .inl (K.2.1, 7, .inl (fun _ => 0))), (q5, .inl (K.2.1, 7, .inl (fun _ => 0))), (q6, .inr (0, [.ref q7, .ref q8, .ref q9, .ref q10, .int (0 : Int32), .int (6 : Int32), .int (7 : Int32), .int (0 : Int32), .int (0 : Int32), .int (0 : Int32)])), (q7, .inl (K.2.1, 7, .inl (fun _ => 0))), (q8, .inl (K.2.1, 7, .inl (fun _ => 0))), (q9, .inl (K.2.1, 7, .inl (fun _ => 0))), (q10, .inl (K.2.1, 7, .inl (fun _ => 0))), (q11, .inr (5, [.ref q1, .ref q12, .ref q13, .ref q14, .ref q15])), (q12, .inl (K.2.1, 7, .inl (fun _ => 0))), (q13, .inl (K.2.2.1, 56, .inr (.inl (fun _ => 0)))), (q14, .inl (K.2.2.1, 56, .inr (.inl (fun _ => 0)))), (q15, .inl (K.2.2.1, 56, .inr (.inl (fun _ => 0)))), (q16, .inr (3, [.ref q1, .ref q11, .ref q17, .ref q18, .ref q19, .ref q20, .ref q21, .ref q22, .int (0 : Int32), .int (-1 : Int32), .ref q23, .int (0 : Int32), .int (0 : Int32), .int (-1 : Int32)])), (q17, .inl (K.2.1, 7, .inl (fun _ => 0))), (q18, .inl (K.2.1, 7, .inl (fun _ => 0))), (q19, .inl (K.2.1, 7, .inl (fun _ => 0))), (q20, .inl (K.2.1, 8, .inl (fun _ => 0))), (q21, .inl (K.2.1, 7, .inl (fun _ => 0))), (q22, .inl (K.2.1, 7, .inl (fun _ => 0))), (q23, .inl (K.2.1, 7, .inl (fun _ => 0))), (q24, .inr (1, [.ref q1, .ref q11, .ref q25, .ref q26, .int (0 : Int32), .int (0 : Int32), .int (-1 : Int32)])), (q25, .inl (K.2.2.1, 9, .inr (.inl (fun _ => 0)))), (q26, .inl (K.2.1, 8, .inl (fun _ => 0))), (q27, .inr (2, [.ref q1, .ref q28, .ref q29, .ref q30, .int (0 : Int32), .int (-1 : Int32), .ref q31, .ref q32])), (q28, .inl (K.2.1, 56, .inl (fun _ => 0))), (q29, .inl (K.2.1, 56, .inl (fun _ => 0))), (q30, .inl (K.2.1, 56, .inl (fun _ => 0))), (q31, .inl (K.2.1, 7, .inl (fun _ => 0))), (q32, .inl (K.2.1, 7, .inl (fun _ => 0))), (q33, .inr (6, [.ref q34, .int (0 : Int32), .int (0 : Int32), .int (0 : Int32), .ref q35, .ref q36, .ref q37])), (q34, .inl (K.2.1, 100, .inl (fun _ => 0))), (q35, .inl (K.2.1, 7, .inl (fun _ => 0))), (q36, .inl (K.2.1, 7, .inl (fun _ => 0))), (q37, .inl (K.2.1, 7, .inl (fun _ => 0))), (q38, .inl (K.2.2.2, 4, .inr (.inr (.inr (.inr (fun _ => none))))))]) (dSb_init.at 55 rfl) (own := 7) rfl fkSb_64 rfl rfl rfl rfl (ykSb 8 (by decide)) rfl rfl rfl (Nat.le_of_ble_eq_true rfl) rfl ?_
  refine dx_aload_n (dSb_init.at 56 rfl) rfl ?_
  refine dx_bipush (v := (8 : Int32)) (dSb_init.at 57 rfl) (by decide) ?_
  refine dx_newi (N := 8) (dSb_init.at 58 rfl) dx_ai (by decide) (by decide) (by decide) (by decide) (by decide) (fun q39 => ?_)
  refine dx_putF (q0 := 0) (ws' := [(h0, .inr (7, [.ref q1, .ref q6, .int (0 : Int32), .ref q11, .ref q16, .ref q24, .ref q27, .ref q33, .ref q38, .ref q39])), (q1, .inr (0, [.ref q2, .ref q3, .ref q4, .ref q5, .int (0 : Int32), .int (6 : Int32), .int (7 : Int32), .int (0 : Int32), .int (0 : Int32), .int (0 : Int32)])), (q2, .inl (K.2.1, 7, .inl (fun _ => 0))), (q3, .inl (K.2.1, 7, .inl (fun _ => 0))), (q4, .inl (K.2.1, 7, .inl (fun _ => 0))), (q5, .inl (K.2.1, 7, .inl (fun _ => 0))), (q6, .inr (0, [.ref q7, .ref q8, .ref q9, .ref q10, .int (0 : Int32), .int (6 : Int32), .int (7 : Int32), .int (0 : Int32), .int (0 : Int32), .int (0 : Int32)])), (q7, .inl (K.2.1, 7, .inl (fun _ => 0))), (q8, .inl (K.2.1, 7, .inl (fun _ => 0))), (q9, .inl (K.2.1, 7, .inl (fun _ => 0))), (q10, .inl (K.2.1, 7, .inl (fun _ => 0))), (q11, .inr (5, [.ref q1, .ref q12, .ref q13, .ref q14, .ref q15])), (q12, .inl (K.2.1, 7, .inl (fun _ => 0))), (q13, .inl (K.2.2.1, 56, .inr (.inl (fun _ => 0)))), (q14, .inl (K.2.2.1, 56, .inr (.inl (fun _ => 0)))), (q15, .inl (K.2.2.1, 56, .inr (.inl (fun _ => 0)))), (q16, .inr (3, [.ref q1, .ref q11, .ref q17, .ref q18, .ref q19, .ref q20, .ref q21, .ref q22, .int (0 : Int32), .int (-1 : Int32), .ref q23, .int (0 : Int32), .int (0 : Int32), .int (-1 : Int32)])), (q17, .inl (K.2.1, 7, .inl (fun _ => 0))), (q18, .inl (K.2.1, 7, .inl (fun _ => 0))), (q19, .inl (K.2.1, 7, .inl (fun _ => 0))), (q20, .inl (K.2.1, 8, .inl (fun _ => 0))), (q21, .inl (K.2.1, 7, .inl (fun _ => 0))), (q22, .inl (K.2.1, 7, .inl (fun _ => 0))), (q23, .inl (K.2.1, 7, .inl (fun _ => 0))), (q24, .inr (1, [.ref q1, .ref q11, .ref q25, .ref q26, .int (0 : Int32), .int (0 : Int32), .int (-1 : Int32)])), (q25, .inl (K.2.2.1, 9, .inr (.inl (fun _ => 0)))), (q26, .inl (K.2.1, 8, .inl (fun _ => 0))), (q27, .inr (2, [.ref q1, .ref q28, .ref q29, .ref q30, .int (0 : Int32), .int (-1 : Int32), .ref q31, .ref q32])), (q28, .inl (K.2.1, 56, .inl (fun _ => 0))), (q29, .inl (K.2.1, 56, .inl (fun _ => 0))), (q30, .inl (K.2.1, 56, .inl (fun _ => 0))), (q31, .inl (K.2.1, 7, .inl (fun _ => 0))), (q32, .inl (K.2.1, 7, .inl (fun _ => 0))), (q33, .inr (6, [.ref q34, .int (0 : Int32), .int (0 : Int32), .int (0 : Int32), .ref q35, .ref q36, .ref q37])), (q34, .inl (K.2.1, 100, .inl (fun _ => 0))), (q35, .inl (K.2.1, 7, .inl (fun _ => 0))), (q36, .inl (K.2.1, 7, .inl (fun _ => 0))), (q37, .inl (K.2.1, 7, .inl (fun _ => 0))), (q38, .inl (K.2.2.2, 4, .inr (.inr (.inr (.inr (fun _ => none)))))), (q39, .inl (K.2.1, 8, .inl (fun _ => 0)))]) (dSb_init.at 59 rfl) (own := 7) rfl fkSb_68 rfl rfl rfl rfl (ykSb 9 (by decide)) rfl rfl rfl (Nat.le_of_ble_eq_true rfl) rfl ?_
  refine dx_iconst (v := (0 : Int32)) (dSb_init.at 60 rfl) (by decide) ?_
  refine dx_istore_n (lo' := [.ref h0, .int (0 : Int32)]) (dSb_init.at 61 rfl) (by decide) rfl ?_
  refine dx_iload_n (dSb_init.at 62 rfl) rfl ?_
  refine dx_iconst (v := (4 : Int32)) (dSb_init.at 63 rfl) (by decide) ?_
  refine dx_icmp_ge (tgt := 152) (dSb_init.at 64 rfl) rfl (fun c => absurd c (by decide)) (fun _ => ?_)
  refine dx_aload_n (dSb_init.at 65 rfl) rfl ?_
  refine dx_getr (q0 := 0) (dSb_init.at 66 rfl) (own := 7) rfl fkSb_64 rfl rfl ?_
  refine dx_iload_n (dSb_init.at 67 rfl) rfl ?_
  refine dx_new (ci := 4) (N := 4) (C := RSh) (T := TSh) (ty := ySh) (fs := [.null, .int 0, .int 0, .int 0]) (dSb_init.at 68 rfl) nl_Sh ni_Sh nn_Sh rfl ykSh nf_Sh (by decide) (by decide) (fun q40 => ?_)
  refine dx_dup (dSb_init.at 69 rfl) rfl ?_
  refine dx_initN (host := "SixBeds") (x := .inr (4, [.null, .int 0, .int 0, .int 0])) (As := []) (rm2 := rmSh) (st := [.ref q40, .int (0 : Int32), .ref q38]) (dSb_init.at 70 rfl) (List.mem_of_getElem? (i := 2) rfl) kSh_init rfl (Nat.le_of_ble_eq_true rfl) rfl ⟨by decide, by decide, by decide, by decide⟩ nSh (fun u hu => ?_)
  obtain ⟨q41, rfl⟩ := hu
  refine dx_astq (q0 := 38) (qk := 40) (j := 0) (ws' := [(h0, .inr (7, [.ref q1, .ref q6, .int (0 : Int32), .ref q11, .ref q16, .ref q24, .ref q27, .ref q33, .ref q38, .ref q39])), (q1, .inr (0, [.ref q2, .ref q3, .ref q4, .ref q5, .int (0 : Int32), .int (6 : Int32), .int (7 : Int32), .int (0 : Int32), .int (0 : Int32), .int (0 : Int32)])), (q2, .inl (K.2.1, 7, .inl (fun _ => 0))), (q3, .inl (K.2.1, 7, .inl (fun _ => 0))), (q4, .inl (K.2.1, 7, .inl (fun _ => 0))), (q5, .inl (K.2.1, 7, .inl (fun _ => 0))), (q6, .inr (0, [.ref q7, .ref q8, .ref q9, .ref q10, .int (0 : Int32), .int (6 : Int32), .int (7 : Int32), .int (0 : Int32), .int (0 : Int32), .int (0 : Int32)])), (q7, .inl (K.2.1, 7, .inl (fun _ => 0))), (q8, .inl (K.2.1, 7, .inl (fun _ => 0))), (q9, .inl (K.2.1, 7, .inl (fun _ => 0))), (q10, .inl (K.2.1, 7, .inl (fun _ => 0))), (q11, .inr (5, [.ref q1, .ref q12, .ref q13, .ref q14, .ref q15])), (q12, .inl (K.2.1, 7, .inl (fun _ => 0))), (q13, .inl (K.2.2.1, 56, .inr (.inl (fun _ => 0)))), (q14, .inl (K.2.2.1, 56, .inr (.inl (fun _ => 0)))), (q15, .inl (K.2.2.1, 56, .inr (.inl (fun _ => 0)))), (q16, .inr (3, [.ref q1, .ref q11, .ref q17, .ref q18, .ref q19, .ref q20, .ref q21, .ref q22, .int (0 : Int32), .int (-1 : Int32), .ref q23, .int (0 : Int32), .int (0 : Int32), .int (-1 : Int32)])), (q17, .inl (K.2.1, 7, .inl (fun _ => 0))), (q18, .inl (K.2.1, 7, .inl (fun _ => 0))), (q19, .inl (K.2.1, 7, .inl (fun _ => 0))), (q20, .inl (K.2.1, 8, .inl (fun _ => 0))), (q21, .inl (K.2.1, 7, .inl (fun _ => 0))), (q22, .inl (K.2.1, 7, .inl (fun _ => 0))), (q23, .inl (K.2.1, 7, .inl (fun _ => 0))), (q24, .inr (1, [.ref q1, .ref q11, .ref q25, .ref q26, .int (0 : Int32), .int (0 : Int32), .int (-1 : Int32)])), (q25, .inl (K.2.2.1, 9, .inr (.inl (fun _ => 0)))), (q26, .inl (K.2.1, 8, .inl (fun _ => 0))), (q27, .inr (2, [.ref q1, .ref q28, .ref q29, .ref q30, .int (0 : Int32), .int (-1 : Int32), .ref q31, .ref q32])), (q28, .inl (K.2.1, 56, .inl (fun _ => 0))), (q29, .inl (K.2.1, 56, .inl (fun _ => 0))), (q30, .inl (K.2.1, 56, .inl (fun _ => 0))), (q31, .inl (K.2.1, 7, .inl (fun _ => 0))), (q32, .inl (K.2.1, 7, .inl (fun _ => 0))), (q33, .inr (6, [.ref q34, .int (0 : Int32), .int (0 : Int32), .int (0 : Int32), .ref q35, .ref q36, .ref q37])), (q34, .inl (K.2.1, 100, .inl (fun _ => 0))), (q35, .inl (K.2.1, 7, .inl (fun _ => 0))), (q36, .inl (K.2.1, 7, .inl (fun _ => 0))), (q37, .inl (K.2.1, 7, .inl (fun _ => 0))), (q38, .inl (K.2.2.2, 4, .inr (.inr (.inr (.inr (va_up (fun _ => none) 0 (some q40))))))), (q39, .inl (K.2.1, 8, .inl (fun _ => 0))), (q40, .inr (4, [.ref q41, .int (1 : Int32), .int (0 : Int32), .int (0 : Int32)])), (q41, .inl (K.2.2.1, 16, .inr (.inl (fun _ => 0))))]) (dSb_init.at 71 rfl) rfl rfl (vp_in_nI (n := 0) (by decide) (by decide)) (by decide) rfl ?_
  refine dx_iinc (lo' := [.ref h0, .int (1 : Int32)]) (v := (1 : Int32)) (dSb_init.at 72 rfl) (by decide) rfl (by decide) rfl ?_
  refine dx_goto (tgt := 128) (dSb_init.at 73 rfl) rfl ?_
  refine dx_iload_n (dSb_init.at 62 rfl) rfl ?_
  refine dx_iconst (v := (4 : Int32)) (dSb_init.at 63 rfl) (by decide) ?_
  refine dx_icmp_ge (tgt := 152) (dSb_init.at 64 rfl) rfl (fun c => absurd c (by decide)) (fun _ => ?_)
  refine dx_aload_n (dSb_init.at 65 rfl) rfl ?_
  refine dx_getr (q0 := 0) (dSb_init.at 66 rfl) (own := 7) rfl fkSb_64 rfl rfl ?_
  refine dx_iload_n (dSb_init.at 67 rfl) rfl ?_
  refine dx_new (ci := 4) (N := 4) (C := RSh) (T := TSh) (ty := ySh) (fs := [.null, .int 0, .int 0, .int 0]) (dSb_init.at 68 rfl) nl_Sh ni_Sh nn_Sh rfl ykSh nf_Sh (by decide) (by decide) (fun q42 => ?_)
  refine dx_dup (dSb_init.at 69 rfl) rfl ?_
  refine dx_initN (host := "SixBeds") (x := .inr (4, [.null, .int 0, .int 0, .int 0])) (As := []) (rm2 := rmSh) (st := [.ref q42, .int (1 : Int32), .ref q38]) (dSb_init.at 70 rfl) (List.mem_of_getElem? (i := 2) rfl) kSh_init rfl (Nat.le_of_ble_eq_true rfl) rfl ⟨by decide, by decide, by decide, by decide⟩ nSh (fun u hu => ?_)
  obtain ⟨q43, rfl⟩ := hu
  refine dx_astq (q0 := 38) (qk := 42) (j := 1) (ws' := [(h0, .inr (7, [.ref q1, .ref q6, .int (0 : Int32), .ref q11, .ref q16, .ref q24, .ref q27, .ref q33, .ref q38, .ref q39])), (q1, .inr (0, [.ref q2, .ref q3, .ref q4, .ref q5, .int (0 : Int32), .int (6 : Int32), .int (7 : Int32), .int (0 : Int32), .int (0 : Int32), .int (0 : Int32)])), (q2, .inl (K.2.1, 7, .inl (fun _ => 0))), (q3, .inl (K.2.1, 7, .inl (fun _ => 0))), (q4, .inl (K.2.1, 7, .inl (fun _ => 0))), (q5, .inl (K.2.1, 7, .inl (fun _ => 0))), (q6, .inr (0, [.ref q7, .ref q8, .ref q9, .ref q10, .int (0 : Int32), .int (6 : Int32), .int (7 : Int32), .int (0 : Int32), .int (0 : Int32), .int (0 : Int32)])), (q7, .inl (K.2.1, 7, .inl (fun _ => 0))), (q8, .inl (K.2.1, 7, .inl (fun _ => 0))), (q9, .inl (K.2.1, 7, .inl (fun _ => 0))), (q10, .inl (K.2.1, 7, .inl (fun _ => 0))), (q11, .inr (5, [.ref q1, .ref q12, .ref q13, .ref q14, .ref q15])), (q12, .inl (K.2.1, 7, .inl (fun _ => 0))), (q13, .inl (K.2.2.1, 56, .inr (.inl (fun _ => 0)))), (q14, .inl (K.2.2.1, 56, .inr (.inl (fun _ => 0)))), (q15, .inl (K.2.2.1, 56, .inr (.inl (fun _ => 0)))), (q16, .inr (3, [.ref q1, .ref q11, .ref q17, .ref q18, .ref q19, .ref q20, .ref q21, .ref q22, .int (0 : Int32), .int (-1 : Int32), .ref q23, .int (0 : Int32), .int (0 : Int32), .int (-1 : Int32)])), (q17, .inl (K.2.1, 7, .inl (fun _ => 0))), (q18, .inl (K.2.1, 7, .inl (fun _ => 0))), (q19, .inl (K.2.1, 7, .inl (fun _ => 0))), (q20, .inl (K.2.1, 8, .inl (fun _ => 0))), (q21, .inl (K.2.1, 7, .inl (fun _ => 0))), (q22, .inl (K.2.1, 7, .inl (fun _ => 0))), (q23, .inl (K.2.1, 7, .inl (fun _ => 0))), (q24, .inr (1, [.ref q1, .ref q11, .ref q25, .ref q26, .int (0 : Int32), .int (0 : Int32), .int (-1 : Int32)])), (q25, .inl (K.2.2.1, 9, .inr (.inl (fun _ => 0)))), (q26, .inl (K.2.1, 8, .inl (fun _ => 0))), (q27, .inr (2, [.ref q1, .ref q28, .ref q29, .ref q30, .int (0 : Int32), .int (-1 : Int32), .ref q31, .ref q32])), (q28, .inl (K.2.1, 56, .inl (fun _ => 0))), (q29, .inl (K.2.1, 56, .inl (fun _ => 0))), (q30, .inl (K.2.1, 56, .inl (fun _ => 0))), (q31, .inl (K.2.1, 7, .inl (fun _ => 0))), (q32, .inl (K.2.1, 7, .inl (fun _ => 0))), (q33, .inr (6, [.ref q34, .int (0 : Int32), .int (0 : Int32), .int (0 : Int32), .ref q35, .ref q36, .ref q37])), (q34, .inl (K.2.1, 100, .inl (fun _ => 0))), (q35, .inl (K.2.1, 7, .inl (fun _ => 0))), (q36, .inl (K.2.1, 7, .inl (fun _ => 0))), (q37, .inl (K.2.1, 7, .inl (fun _ => 0))), (q38, .inl (K.2.2.2, 4, .inr (.inr (.inr (.inr (va_up (va_up (fun _ => none) 0 (some q40)) 1 (some q42))))))), (q39, .inl (K.2.1, 8, .inl (fun _ => 0))), (q40, .inr (4, [.ref q41, .int (1 : Int32), .int (0 : Int32), .int (0 : Int32)])), (q41, .inl (K.2.2.1, 16, .inr (.inl (fun _ => 0)))), (q42, .inr (4, [.ref q43, .int (1 : Int32), .int (0 : Int32), .int (0 : Int32)])), (q43, .inl (K.2.2.1, 16, .inr (.inl (fun _ => 0))))]) (dSb_init.at 71 rfl) rfl rfl (vp_in_nI (n := 1) (by decide) (by decide)) (by decide) rfl ?_
  refine dx_iinc (lo' := [.ref h0, .int (2 : Int32)]) (v := (1 : Int32)) (dSb_init.at 72 rfl) (by decide) rfl (by decide) rfl ?_
  refine dx_goto (tgt := 128) (dSb_init.at 73 rfl) rfl ?_
  refine dx_iload_n (dSb_init.at 62 rfl) rfl ?_
  refine dx_iconst (v := (4 : Int32)) (dSb_init.at 63 rfl) (by decide) ?_
  refine dx_icmp_ge (tgt := 152) (dSb_init.at 64 rfl) rfl (fun c => absurd c (by decide)) (fun _ => ?_)
  refine dx_aload_n (dSb_init.at 65 rfl) rfl ?_
  refine dx_getr (q0 := 0) (dSb_init.at 66 rfl) (own := 7) rfl fkSb_64 rfl rfl ?_
  refine dx_iload_n (dSb_init.at 67 rfl) rfl ?_
  refine dx_new (ci := 4) (N := 4) (C := RSh) (T := TSh) (ty := ySh) (fs := [.null, .int 0, .int 0, .int 0]) (dSb_init.at 68 rfl) nl_Sh ni_Sh nn_Sh rfl ykSh nf_Sh (by decide) (by decide) (fun q44 => ?_)
  refine dx_dup (dSb_init.at 69 rfl) rfl ?_
  refine dx_initN (host := "SixBeds") (x := .inr (4, [.null, .int 0, .int 0, .int 0])) (As := []) (rm2 := rmSh) (st := [.ref q44, .int (2 : Int32), .ref q38]) (dSb_init.at 70 rfl) (List.mem_of_getElem? (i := 2) rfl) kSh_init rfl (Nat.le_of_ble_eq_true rfl) rfl ⟨by decide, by decide, by decide, by decide⟩ nSh (fun u hu => ?_)
  obtain ⟨q45, rfl⟩ := hu
  refine dx_astq (q0 := 38) (qk := 44) (j := 2) (ws' := [(h0, .inr (7, [.ref q1, .ref q6, .int (0 : Int32), .ref q11, .ref q16, .ref q24, .ref q27, .ref q33, .ref q38, .ref q39])), (q1, .inr (0, [.ref q2, .ref q3, .ref q4, .ref q5, .int (0 : Int32), .int (6 : Int32), .int (7 : Int32), .int (0 : Int32), .int (0 : Int32), .int (0 : Int32)])), (q2, .inl (K.2.1, 7, .inl (fun _ => 0))), (q3, .inl (K.2.1, 7, .inl (fun _ => 0))), (q4, .inl (K.2.1, 7, .inl (fun _ => 0))), (q5, .inl (K.2.1, 7, .inl (fun _ => 0))), (q6, .inr (0, [.ref q7, .ref q8, .ref q9, .ref q10, .int (0 : Int32), .int (6 : Int32), .int (7 : Int32), .int (0 : Int32), .int (0 : Int32), .int (0 : Int32)])), (q7, .inl (K.2.1, 7, .inl (fun _ => 0))), (q8, .inl (K.2.1, 7, .inl (fun _ => 0))), (q9, .inl (K.2.1, 7, .inl (fun _ => 0))), (q10, .inl (K.2.1, 7, .inl (fun _ => 0))), (q11, .inr (5, [.ref q1, .ref q12, .ref q13, .ref q14, .ref q15])), (q12, .inl (K.2.1, 7, .inl (fun _ => 0))), (q13, .inl (K.2.2.1, 56, .inr (.inl (fun _ => 0)))), (q14, .inl (K.2.2.1, 56, .inr (.inl (fun _ => 0)))), (q15, .inl (K.2.2.1, 56, .inr (.inl (fun _ => 0)))), (q16, .inr (3, [.ref q1, .ref q11, .ref q17, .ref q18, .ref q19, .ref q20, .ref q21, .ref q22, .int (0 : Int32), .int (-1 : Int32), .ref q23, .int (0 : Int32), .int (0 : Int32), .int (-1 : Int32)])), (q17, .inl (K.2.1, 7, .inl (fun _ => 0))), (q18, .inl (K.2.1, 7, .inl (fun _ => 0))), (q19, .inl (K.2.1, 7, .inl (fun _ => 0))), (q20, .inl (K.2.1, 8, .inl (fun _ => 0))), (q21, .inl (K.2.1, 7, .inl (fun _ => 0))), (q22, .inl (K.2.1, 7, .inl (fun _ => 0))), (q23, .inl (K.2.1, 7, .inl (fun _ => 0))), (q24, .inr (1, [.ref q1, .ref q11, .ref q25, .ref q26, .int (0 : Int32), .int (0 : Int32), .int (-1 : Int32)])), (q25, .inl (K.2.2.1, 9, .inr (.inl (fun _ => 0)))), (q26, .inl (K.2.1, 8, .inl (fun _ => 0))), (q27, .inr (2, [.ref q1, .ref q28, .ref q29, .ref q30, .int (0 : Int32), .int (-1 : Int32), .ref q31, .ref q32])), (q28, .inl (K.2.1, 56, .inl (fun _ => 0))), (q29, .inl (K.2.1, 56, .inl (fun _ => 0))), (q30, .inl (K.2.1, 56, .inl (fun _ => 0))), (q31, .inl (K.2.1, 7, .inl (fun _ => 0))), (q32, .inl (K.2.1, 7, .inl (fun _ => 0))), (q33, .inr (6, [.ref q34, .int (0 : Int32), .int (0 : Int32), .int (0 : Int32), .ref q35, .ref q36, .ref q37])), (q34, .inl (K.2.1, 100, .inl (fun _ => 0))), (q35, .inl (K.2.1, 7, .inl (fun _ => 0))), (q36, .inl (K.2.1, 7, .inl (fun _ => 0))), (q37, .inl (K.2.1, 7, .inl (fun _ => 0))), (q38, .inl (K.2.2.2, 4, .inr (.inr (.inr (.inr (va_up (va_up (va_up (fun _ => none) 0 (some q40)) 1 (some q42)) 2 (some q44))))))), (q39, .inl (K.2.1, 8, .inl (fun _ => 0))), (q40, .inr (4, [.ref q41, .int (1 : Int32), .int (0 : Int32), .int (0 : Int32)])), (q41, .inl (K.2.2.1, 16, .inr (.inl (fun _ => 0)))), (q42, .inr (4, [.ref q43, .int (1 : Int32), .int (0 : Int32), .int (0 : Int32)])), (q43, .inl (K.2.2.1, 16, .inr (.inl (fun _ => 0)))), (q44, .inr (4, [.ref q45, .int (1 : Int32), .int (0 : Int32), .int (0 : Int32)])), (q45, .inl (K.2.2.1, 16, .inr (.inl (fun _ => 0))))]) (dSb_init.at 71 rfl) rfl rfl (vp_in_nI (n := 2) (by decide) (by decide)) (by decide) rfl ?_
  refine dx_iinc (lo' := [.ref h0, .int (3 : Int32)]) (v := (1 : Int32)) (dSb_init.at 72 rfl) (by decide) rfl (by decide) rfl ?_
  refine dx_goto (tgt := 128) (dSb_init.at 73 rfl) rfl ?_
  refine dx_iload_n (dSb_init.at 62 rfl) rfl ?_
  refine dx_iconst (v := (4 : Int32)) (dSb_init.at 63 rfl) (by decide) ?_
  refine dx_icmp_ge (tgt := 152) (dSb_init.at 64 rfl) rfl (fun c => absurd c (by decide)) (fun _ => ?_)
  refine dx_aload_n (dSb_init.at 65 rfl) rfl ?_
  refine dx_getr (q0 := 0) (dSb_init.at 66 rfl) (own := 7) rfl fkSb_64 rfl rfl ?_
  refine dx_iload_n (dSb_init.at 67 rfl) rfl ?_
  refine dx_new (ci := 4) (N := 4) (C := RSh) (T := TSh) (ty := ySh) (fs := [.null, .int 0, .int 0, .int 0]) (dSb_init.at 68 rfl) nl_Sh ni_Sh nn_Sh rfl ykSh nf_Sh (by decide) (by decide) (fun q46 => ?_)
  refine dx_dup (dSb_init.at 69 rfl) rfl ?_
  refine dx_initN (host := "SixBeds") (x := .inr (4, [.null, .int 0, .int 0, .int 0])) (As := []) (rm2 := rmSh) (st := [.ref q46, .int (3 : Int32), .ref q38]) (dSb_init.at 70 rfl) (List.mem_of_getElem? (i := 2) rfl) kSh_init rfl (Nat.le_of_ble_eq_true rfl) rfl ⟨by decide, by decide, by decide, by decide⟩ nSh (fun u hu => ?_)
  obtain ⟨q47, rfl⟩ := hu
  refine dx_astq (q0 := 38) (qk := 46) (j := 3) (ws' := [(h0, .inr (7, [.ref q1, .ref q6, .int (0 : Int32), .ref q11, .ref q16, .ref q24, .ref q27, .ref q33, .ref q38, .ref q39])), (q1, .inr (0, [.ref q2, .ref q3, .ref q4, .ref q5, .int (0 : Int32), .int (6 : Int32), .int (7 : Int32), .int (0 : Int32), .int (0 : Int32), .int (0 : Int32)])), (q2, .inl (K.2.1, 7, .inl (fun _ => 0))), (q3, .inl (K.2.1, 7, .inl (fun _ => 0))), (q4, .inl (K.2.1, 7, .inl (fun _ => 0))), (q5, .inl (K.2.1, 7, .inl (fun _ => 0))), (q6, .inr (0, [.ref q7, .ref q8, .ref q9, .ref q10, .int (0 : Int32), .int (6 : Int32), .int (7 : Int32), .int (0 : Int32), .int (0 : Int32), .int (0 : Int32)])), (q7, .inl (K.2.1, 7, .inl (fun _ => 0))), (q8, .inl (K.2.1, 7, .inl (fun _ => 0))), (q9, .inl (K.2.1, 7, .inl (fun _ => 0))), (q10, .inl (K.2.1, 7, .inl (fun _ => 0))), (q11, .inr (5, [.ref q1, .ref q12, .ref q13, .ref q14, .ref q15])), (q12, .inl (K.2.1, 7, .inl (fun _ => 0))), (q13, .inl (K.2.2.1, 56, .inr (.inl (fun _ => 0)))), (q14, .inl (K.2.2.1, 56, .inr (.inl (fun _ => 0)))), (q15, .inl (K.2.2.1, 56, .inr (.inl (fun _ => 0)))), (q16, .inr (3, [.ref q1, .ref q11, .ref q17, .ref q18, .ref q19, .ref q20, .ref q21, .ref q22, .int (0 : Int32), .int (-1 : Int32), .ref q23, .int (0 : Int32), .int (0 : Int32), .int (-1 : Int32)])), (q17, .inl (K.2.1, 7, .inl (fun _ => 0))), (q18, .inl (K.2.1, 7, .inl (fun _ => 0))), (q19, .inl (K.2.1, 7, .inl (fun _ => 0))), (q20, .inl (K.2.1, 8, .inl (fun _ => 0))), (q21, .inl (K.2.1, 7, .inl (fun _ => 0))), (q22, .inl (K.2.1, 7, .inl (fun _ => 0))), (q23, .inl (K.2.1, 7, .inl (fun _ => 0))), (q24, .inr (1, [.ref q1, .ref q11, .ref q25, .ref q26, .int (0 : Int32), .int (0 : Int32), .int (-1 : Int32)])), (q25, .inl (K.2.2.1, 9, .inr (.inl (fun _ => 0)))), (q26, .inl (K.2.1, 8, .inl (fun _ => 0))), (q27, .inr (2, [.ref q1, .ref q28, .ref q29, .ref q30, .int (0 : Int32), .int (-1 : Int32), .ref q31, .ref q32])), (q28, .inl (K.2.1, 56, .inl (fun _ => 0))), (q29, .inl (K.2.1, 56, .inl (fun _ => 0))), (q30, .inl (K.2.1, 56, .inl (fun _ => 0))), (q31, .inl (K.2.1, 7, .inl (fun _ => 0))), (q32, .inl (K.2.1, 7, .inl (fun _ => 0))), (q33, .inr (6, [.ref q34, .int (0 : Int32), .int (0 : Int32), .int (0 : Int32), .ref q35, .ref q36, .ref q37])), (q34, .inl (K.2.1, 100, .inl (fun _ => 0))), (q35, .inl (K.2.1, 7, .inl (fun _ => 0))), (q36, .inl (K.2.1, 7, .inl (fun _ => 0))), (q37, .inl (K.2.1, 7, .inl (fun _ => 0))), (q38, .inl (K.2.2.2, 4, .inr (.inr (.inr (.inr (va_up (va_up (va_up (va_up (fun _ => none) 0 (some q40)) 1 (some q42)) 2 (some q44)) 3 (some q46))))))), (q39, .inl (K.2.1, 8, .inl (fun _ => 0))), (q40, .inr (4, [.ref q41, .int (1 : Int32), .int (0 : Int32), .int (0 : Int32)])), (q41, .inl (K.2.2.1, 16, .inr (.inl (fun _ => 0)))), (q42, .inr (4, [.ref q43, .int (1 : Int32), .int (0 : Int32), .int (0 : Int32)])), (q43, .inl (K.2.2.1, 16, .inr (.inl (fun _ => 0)))), (q44, .inr (4, [.ref q45, .int (1 : Int32), .int (0 : Int32), .int (0 : Int32)])), (q45, .inl (K.2.2.1, 16, .inr (.inl (fun _ => 0)))), (q46, .inr (4, [.ref q47, .int (1 : Int32), .int (0 : Int32), .int (0 : Int32)])), (q47, .inl (K.2.2.1, 16, .inr (.inl (fun _ => 0))))]) (dSb_init.at 71 rfl) rfl rfl (vp_in_nI (n := 3) (by decide) (by decide)) (by decide) rfl ?_
  refine dx_iinc (lo' := [.ref h0, .int (4 : Int32)]) (v := (1 : Int32)) (dSb_init.at 72 rfl) (by decide) rfl (by decide) rfl ?_
  refine dx_goto (tgt := 128) (dSb_init.at 73 rfl) rfl ?_
  refine dx_iload_n (dSb_init.at 62 rfl) rfl ?_
  refine dx_iconst (v := (4 : Int32)) (dSb_init.at 63 rfl) (by decide) ?_
  refine dx_icmp_ge (tgt := 152) (dSb_init.at 64 rfl) rfl (fun _ => ?_) (fun c => absurd (by decide) c)
  exact dx_vret (dSb_init.at 74 rfl) rfl rfl rfl ⟨fun k => [h0, q1, q2, q3, q4, q5, q6, q7, q8, q9, q10, q11, q12, q13, q14, q15, q16, q17, q18, q19, q20, q21, q22, q23, q24, q25, q26, q27, q28, q29, q30, q31, q32, q33, q34, q35, q36, q37, q38, q39, q40, q41, q42, q43, q44, q45, q46, q47].getD (k - 0) 0, rfl, rfl⟩
