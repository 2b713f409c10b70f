/-! ===== blocks of the methods between cut points, written by program ===== -/
set_option maxHeartbeats 4000000 in
theorem bMo_in_0 {d : Nat} {w : sx_W} {Q : sx_Q} {y0 : Int64} {y2 : Int64} {y4 : Int64}
    (k1 : (y0 < y2) → Q (0 : Int32) 0 w)
    (k2 : (¬ y0 < y2) → (y4 < y0) → Q (0 : Int32) 0 w)
    (k3 : (¬ y0 < y2) → (¬ y4 < y0) → Q (1 : Int32) 0 w) :
    sx_ev d rMo_in 0 [.long y0, .null, .long y2, .null, .long y4, .null] [] w Q := by
  refine ev_lload_n (dMo_in.at 0 rfl) rfl ?_
  refine ev_lload_n (dMo_in.at 1 rfl) rfl ?_
  refine ev_lcmp (dMo_in.at 2 rfl) ?_
  refine ev_if_lt (tgt := 17) (dMo_in.at 3 rfl) rfl (fun c1 => ?_) (fun c1 => ?_)
  · rw [lg_cmp_lt] at c1
    refine ev_iconst (dMo_in.at 10 rfl) kI_0 ?_
    exact ev_zret (dMo_in.at 11 rfl) rfl (by decide) (k1 c1)
  · rw [lg_cmp_lt] at c1
    refine ev_lload_n (dMo_in.at 4 rfl) rfl ?_
    refine ev_lload (dMo_in.at 5 rfl) rfl ?_
    refine ev_lcmp (dMo_in.at 6 rfl) ?_
    refine ev_if_gt (tgt := 17) (dMo_in.at 7 rfl) rfl (fun c2 => ?_) (fun c2 => ?_)
    · rw [lg_cmp_gt] at c2
      refine ev_iconst (dMo_in.at 10 rfl) kI_0 ?_
      exact ev_zret (dMo_in.at 11 rfl) rfl (by decide) (k2 c1 c2)
    · rw [lg_cmp_gt] at c2
      refine ev_iconst (dMo_in.at 8 rfl) kI_1 ?_
      refine ev_goto (tgt := 18) (dMo_in.at 9 rfl) rfl ?_
      exact ev_zret (dMo_in.at 11 rfl) rfl (by decide) (k3 c1 c2)
set_option maxHeartbeats 4000000 in
theorem bMo_isLodger_0 {d : Nat} {w : sx_W} {Q : sx_Q} {x1 : Int32} {f1 : Int32}
    (m1 : sx_de d rMo_in [.long (x1).toInt64, .long (0 : Int64), .long ((w.1 48 0) - (1 : Int32)).toInt64] w f1 0 w)
    (k1 : Q f1 0 w)
    (o1 : (f1 = 0 ∨ f1 = 1)) :
    sx_ev (d + 1) rMo_isLodger 0 [.ref 48, .int x1] [] w Q := by
  refine ev_iload_n (dMo_isLodger.at 0 rfl) rfl ?_
  refine ev_i2l (dMo_isLodger.at 1 rfl) ?_
  refine ev_lconst (dMo_isLodger.at 2 rfl) rfl ?_
  refine ev_aload_n (dMo_isLodger.at 3 rfl) rfl ?_
  refine ev_get (dMo_isLodger.at 4 rfl) (own := 8) rfl fkMo_66 rfl rfl ?_
  refine ev_iconst (dMo_isLodger.at 5 rfl) kI_1 ?_
  refine ev_isub (dMo_isLodger.at 6 rfl) ?_
  refine ev_i2l (dMo_isLodger.at 7 rfl) ?_
  refine ev_cSi (dMo_isLodger.at 8 rfl) (As := [.long (x1).toInt64, .long (0 : Int64), .long ((w.1 48 0) - (1 : Int32)).toInt64]) (own := 8) rfl ckMo_69 (Or.inr rfl) rfl (Nat.le_of_ble_eq_true rfl) rfl m1 ?_
  exact ev_zret (dMo_isLodger.at 9 rfl) rfl o1 k1
set_option maxHeartbeats 4000000 in
theorem bMo_isPart_0 {d : Nat} {w : sx_W} {Q : sx_Q} {y0 : Int64} {f1 : Int32}
    (m1 : sx_de d rMo_in [.long y0, .long (0 : Int64), .long (lN 7)] w f1 0 w)
    (k1 : Q f1 0 w)
    (o1 : (f1 = 0 ∨ f1 = 1)) :
    sx_ev (d + 1) rMo_isPart 0 [.long y0, .null] [] w Q := by
  refine ev_lload_n (dMo_isPart.at 0 rfl) rfl ?_
  refine ev_lconst (dMo_isPart.at 1 rfl) rfl ?_
  refine ev_ldc2 (dMo_isPart.at 2 rfl) (own := 8) rfl (List.mem_of_getElem? (i := 3) rfl) ?_
  refine ev_cSi (dMo_isPart.at 3 rfl) (As := [.long y0, .long (0 : Int64), .long (lN 7)]) (own := 8) rfl ckMo_69 (Or.inr rfl) rfl (Nat.le_of_ble_eq_true rfl) rfl m1 ?_
  exact ev_zret (dMo_isPart.at 4 rfl) rfl o1 k1
set_option maxHeartbeats 4000000 in
theorem bMo_comes_0 {d : Nat} {w : sx_W} {Q : sx_Q} {x1 : Int32} {x2 : Int32} {x3 : Int32}
    (o1 : vp_in (w.1 48 0) 7)
    (k1 : Q 0 0 ((sx_u (sx_u (sx_u (sx_u (sx_u w.1 49 (w.1 48 0).toNatClampNeg x1) 50 (w.1 48 0).toNatClampNeg x2) 51 (w.1 48 0).toNatClampNeg x3) 48 0 ((w.1 48 0) + (1 : Int32))) 48 5 (0 : Int32)), w.2)) :
    sx_ev d rMo_comes 0 [.ref 48, .int x1, .int x2, .int x3] [] w Q := by
  refine ev_aload_n (dMo_comes.at 0 rfl) rfl ?_
  refine ev_getr (dMo_comes.at 1 rfl) (own := 8) rfl fkMo_7 rfl rfl ?_
  refine ev_aload_n (dMo_comes.at 2 rfl) rfl ?_
  refine ev_get (dMo_comes.at 3 rfl) (own := 8) rfl fkMo_66 rfl rfl ?_
  refine ev_iload_n (dMo_comes.at 4 rfl) rfl ?_
  refine ev_iastore (dMo_comes.at 5 rfl) rfl o1 ?_
  refine ev_aload_n (dMo_comes.at 6 rfl) rfl ?_
  refine ev_getr (dMo_comes.at 7 rfl) (own := 8) rfl fkMo_13 rfl rfl ?_
  refine ev_aload_n (dMo_comes.at 8 rfl) rfl ?_
  refine ev_get (dMo_comes.at 9 rfl) (own := 8) rfl fkMo_66 rfl rfl ?_
  refine ev_iload_n (dMo_comes.at 10 rfl) rfl ?_
  refine ev_iastore (dMo_comes.at 11 rfl) rfl o1 ?_
  refine ev_aload_n (dMo_comes.at 12 rfl) rfl ?_
  refine ev_getr (dMo_comes.at 13 rfl) (own := 8) rfl fkMo_16 rfl rfl ?_
  refine ev_aload_n (dMo_comes.at 14 rfl) rfl ?_
  refine ev_get (dMo_comes.at 15 rfl) (own := 8) rfl fkMo_66 rfl rfl ?_
  refine ev_iload_n (dMo_comes.at 16 rfl) rfl ?_
  refine ev_iastore (dMo_comes.at 17 rfl) rfl o1 ?_
  refine ev_aload_n (dMo_comes.at 18 rfl) rfl ?_
  refine ev_dup (dMo_comes.at 19 rfl) rfl ?_
  refine ev_get (dMo_comes.at 20 rfl) (own := 8) rfl fkMo_66 rfl rfl ?_
  refine ev_iconst (dMo_comes.at 21 rfl) kI_1 ?_
  refine ev_iadd (dMo_comes.at 22 rfl) ?_
  refine ev_put (dMo_comes.at 23 rfl) (own := 8) rfl fkMo_66 rfl rfl ?_
  refine ev_aload_n (dMo_comes.at 24 rfl) rfl ?_
  refine ev_iconst (dMo_comes.at 25 rfl) kI_0 ?_
  refine ev_putz (dMo_comes.at 26 rfl) (own := 8) rfl fkMo_75 rfl rfl (by decide) ?_
  exact ev_vret (dMo_comes.at 27 rfl) rfl k1
set_option maxHeartbeats 4000000 in
theorem bMo_lodger_0 {d : Nat} {w : sx_W} {Q : sx_Q} {x1 : Int32} {x2 : Int32} {x3 : Int32} {f1 : Int32} {f2 : Int32} {f3 : Int32} {w4 : sx_W}
    (m1 : sx_de d rMo_in [.long (x1).toInt64, .long (0 : Int64), .long (lN 3)] w f1 0 w)
    (k1 : (f1 = 0) → Q (-1 : Int32) 0 w)
    (m2 : (¬ f1 = 0) → sx_de d rMo_in [.long (x2).toInt64, .long (1 : Int64), .long (lN 4)] w f2 0 w)
    (k2 : (¬ f1 = 0) → (f2 = 0) → Q (-1 : Int32) 0 w)
    (m3 : (¬ f1 = 0) → (¬ f2 = 0) → sx_de d rMo_in [.long (x3).toInt64, .long (0 : Int64), .long (lN 255)] w f3 0 w)
    (m4 : (¬ f1 = 0) → (¬ f2 = 0) → (¬ f3 = 0) → (¬ (w.1 48 0) = (7 : Int32)) → sx_de d rMo_comes [.ref 48, .int x1, .int x2, .int x3] w 0 0 w4)
    (k3 : (¬ f1 = 0) → (¬ f2 = 0) → (¬ f3 = 0) → (¬ (w.1 48 0) = (7 : Int32)) → Q ((w4.1 48 0) - (1 : Int32)) 0 w4)
    (k4 : (¬ f1 = 0) → (¬ f2 = 0) → (¬ f3 = 0) → ((w.1 48 0) = (7 : Int32)) → Q (-3 : Int32) 0 w)
    (k5 : (¬ f1 = 0) → (¬ f2 = 0) → (f3 = 0) → Q (-1 : Int32) 0 w) :
    sx_ev (d + 1) rMo_lodger 0 [.ref 48, .int x1, .int x2, .int x3] [] w Q := by
  refine ev_iload_n (dMo_lodger.at 0 rfl) rfl ?_
  refine ev_i2l (dMo_lodger.at 1 rfl) ?_
  refine ev_lconst (dMo_lodger.at 2 rfl) rfl ?_
  refine ev_ldc2 (dMo_lodger.at 3 rfl) (own := 8) rfl (List.mem_of_getElem? (i := 0) rfl) ?_
  refine ev_cSi (dMo_lodger.at 4 rfl) (As := [.long (x1).toInt64, .long (0 : Int64), .long (lN 3)]) (own := 8) rfl ckMo_69 (Or.inr rfl) rfl (Nat.le_of_ble_eq_true rfl) rfl m1 ?_
  refine ev_if_eq (tgt := 36) (dMo_lodger.at 5 rfl) rfl (fun c1 => ?_) (fun c1 => ?_)
  · refine ev_iconst (dMo_lodger.at 18 rfl) kI_m1 ?_
    exact ev_iret (dMo_lodger.at 19 rfl) rfl (k1 c1)
  · refine ev_iload_n (dMo_lodger.at 6 rfl) rfl ?_
    refine ev_i2l (dMo_lodger.at 7 rfl) ?_
    refine ev_lconst (dMo_lodger.at 8 rfl) rfl ?_
    refine ev_ldc2 (dMo_lodger.at 9 rfl) (own := 8) rfl (List.mem_of_getElem? (i := 1) rfl) ?_
    refine ev_cSi (dMo_lodger.at 10 rfl) (As := [.long (x2).toInt64, .long (1 : Int64), .long (lN 4)]) (own := 8) rfl ckMo_69 (Or.inr rfl) rfl (Nat.le_of_ble_eq_true rfl) rfl (m2 c1) ?_
    refine ev_if_eq (tgt := 36) (dMo_lodger.at 11 rfl) rfl (fun c2 => ?_) (fun c2 => ?_)
    · refine ev_iconst (dMo_lodger.at 18 rfl) kI_m1 ?_
      exact ev_iret (dMo_lodger.at 19 rfl) rfl (k2 c1 c2)
    · refine ev_iload_n (dMo_lodger.at 12 rfl) rfl ?_
      refine ev_i2l (dMo_lodger.at 13 rfl) ?_
      refine ev_lconst (dMo_lodger.at 14 rfl) rfl ?_
      refine ev_ldc2 (dMo_lodger.at 15 rfl) (own := 8) rfl (List.mem_of_getElem? (i := 2) rfl) ?_
      refine ev_cSi (dMo_lodger.at 16 rfl) (As := [.long (x3).toInt64, .long (0 : Int64), .long (lN 255)]) (own := 8) rfl ckMo_69 (Or.inr rfl) rfl (Nat.le_of_ble_eq_true rfl) rfl (m3 c1 c2) ?_
      refine ev_if_ne (tgt := 38) (dMo_lodger.at 17 rfl) rfl (fun c3 => ?_) (fun c3 => ?_)
      · refine ev_aload_n (dMo_lodger.at 20 rfl) rfl ?_
        refine ev_get (dMo_lodger.at 21 rfl) (own := 8) rfl fkMo_66 rfl rfl ?_
        refine ev_bipush (dMo_lodger.at 22 rfl) kB_7 ?_
        refine ev_icmp_ne (tgt := 50) (dMo_lodger.at 23 rfl) rfl (fun c4 => ?_) (fun c4 => ?_)
        · refine ev_aload_n (dMo_lodger.at 26 rfl) rfl ?_
          refine ev_iload_n (dMo_lodger.at 27 rfl) rfl ?_
          refine ev_iload_n (dMo_lodger.at 28 rfl) rfl ?_
          refine ev_iload_n (dMo_lodger.at 29 rfl) rfl ?_
          refine ev_cVv (dMo_lodger.at 30 rfl) (As := [.int x1, .int x2, .int x3]) (own := 8) rfl ckMo_85 rfl rfl rfl (Nat.le_of_ble_eq_true rfl) rfl (m4 c1 c2 c3 c4) ?_
          refine ev_aload_n (dMo_lodger.at 31 rfl) rfl ?_
          refine ev_get (dMo_lodger.at 32 rfl) (own := 8) rfl fkMo_66 rfl rfl ?_
          refine ev_iconst (dMo_lodger.at 33 rfl) kI_1 ?_
          refine ev_isub (dMo_lodger.at 34 rfl) ?_
          exact ev_iret (dMo_lodger.at 35 rfl) rfl (k3 c1 c2 c3 c4)
        · refine ev_bipush (dMo_lodger.at 24 rfl) kB_m3 ?_
          exact ev_iret (dMo_lodger.at 25 rfl) rfl (k4 c1 c2 c3 c4)
      · refine ev_iconst (dMo_lodger.at 18 rfl) kI_m1 ?_
        exact ev_iret (dMo_lodger.at 19 rfl) rfl (k5 c1 c2 c3)
set_option maxHeartbeats 4000000 in
theorem bMo_leave_0 {d : Nat} {w : sx_W} {Q : sx_Q} {x1 : Int32} {f1 : Int32}
    (m1 : sx_de d rMo_isLodger [.ref 48, .int x1] w f1 0 w)
    (k1 : (¬ f1 = 0) → sx_ev (d + 1) rMo_leave 12 [.ref 48, .null, .int x1] [] w Q)
    (k2 : (f1 = 0) → Q (-1 : Int32) 0 w) :
    sx_ev (d + 1) rMo_leave 0 [.ref 48, .int x1, .null] [] w Q := by
  refine ev_aload_n (dMo_leave.at 0 rfl) rfl ?_
  refine ev_iload_n (dMo_leave.at 1 rfl) rfl ?_
  refine ev_cVi (dMo_leave.at 2 rfl) (As := [.int x1]) (own := 8) rfl ckMo_89 rfl (Or.inr rfl) rfl (Nat.le_of_ble_eq_true rfl) rfl m1 ?_
  refine ev_if_ne (tgt := 10) (dMo_leave.at 3 rfl) rfl (fun c1 => ?_) (fun c1 => ?_)
  · refine ev_iload_n (dMo_leave.at 6 rfl) rfl ?_
    refine ev_istore_n (dMo_leave.at 7 rfl) (by decide) rfl ?_
    refine ev_kp [true, false, true] rfl ?_
    exact (k1 c1)
  · refine ev_iconst (dMo_leave.at 4 rfl) kI_m1 ?_
    exact ev_iret (dMo_leave.at 5 rfl) rfl (k2 c1)
set_option maxHeartbeats 4000000 in
theorem bMo_leave_12 {d : Nat} {w : sx_W} {Q : sx_Q} {x2 : Int32}
    (k1 : (((w.1 48 0) - (1 : Int32)) ≤ x2) → Q ((w.1 48 0) - (1 : Int32)) 0 ((sx_u (sx_u w.1 48 0 ((w.1 48 0) - (1 : Int32))) 48 5 (0 : Int32)), w.2))
    (o1 : (¬ ((w.1 48 0) - (1 : Int32)) ≤ x2) → vp_in (x2 + (1 : Int32)) 7)
    (o2 : (¬ ((w.1 48 0) - (1 : Int32)) ≤ x2) → vp_in x2 7)
    (k2 : (¬ ((w.1 48 0) - (1 : Int32)) ≤ x2) → sx_ev d rMo_leave 12 [.ref 48, .null, .int (x2 + (1 : Int32))] [] ((sx_u (sx_u (sx_u w.1 49 x2.toNatClampNeg (w.1 49 (x2 + (1 : Int32)).toNatClampNeg)) 50 x2.toNatClampNeg (w.1 50 (x2 + (1 : Int32)).toNatClampNeg)) 51 x2.toNatClampNeg (w.1 51 (x2 + (1 : Int32)).toNatClampNeg)), w.2) Q) :
    sx_ev d rMo_leave 12 [.ref 48, .null, .int x2] [] w Q := by
  refine ev_iload_n (dMo_leave.at 8 rfl) rfl ?_
  refine ev_aload_n (dMo_leave.at 9 rfl) rfl ?_
  refine ev_get (dMo_leave.at 10 rfl) (own := 8) rfl fkMo_66 rfl rfl ?_
  refine ev_iconst (dMo_leave.at 11 rfl) kI_1 ?_
  refine ev_isub (dMo_leave.at 12 rfl) ?_
  refine ev_icmp_ge (tgt := 70) (dMo_leave.at 13 rfl) rfl (fun c1 => ?_) (fun c1 => ?_)
  · refine ev_aload_n (dMo_leave.at 46 rfl) rfl ?_
    refine ev_dup (dMo_leave.at 47 rfl) rfl ?_
    refine ev_get (dMo_leave.at 48 rfl) (own := 8) rfl fkMo_66 rfl rfl ?_
    refine ev_iconst (dMo_leave.at 49 rfl) kI_1 ?_
    refine ev_isub (dMo_leave.at 50 rfl) ?_
    refine ev_put (dMo_leave.at 51 rfl) (own := 8) rfl fkMo_66 rfl rfl ?_
    refine ev_aload_n (dMo_leave.at 52 rfl) rfl ?_
    refine ev_iconst (dMo_leave.at 53 rfl) kI_0 ?_
    refine ev_putz (dMo_leave.at 54 rfl) (own := 8) rfl fkMo_75 rfl rfl (by decide) ?_
    refine ev_aload_n (dMo_leave.at 55 rfl) rfl ?_
    refine ev_get (dMo_leave.at 56 rfl) (own := 8) rfl fkMo_66 rfl rfl ?_
    exact ev_iret (dMo_leave.at 57 rfl) rfl (k1 c1)
  · refine ev_aload_n (dMo_leave.at 14 rfl) rfl ?_
    refine ev_getr (dMo_leave.at 15 rfl) (own := 8) rfl fkMo_7 rfl rfl ?_
    refine ev_iload_n (dMo_leave.at 16 rfl) rfl ?_
    refine ev_aload_n (dMo_leave.at 17 rfl) rfl ?_
    refine ev_getr (dMo_leave.at 18 rfl) (own := 8) rfl fkMo_7 rfl rfl ?_
    refine ev_iload_n (dMo_leave.at 19 rfl) rfl ?_
    refine ev_iconst (dMo_leave.at 20 rfl) kI_1 ?_
    refine ev_iadd (dMo_leave.at 21 rfl) ?_
    refine ev_iaload (dMo_leave.at 22 rfl) rfl (o1 c1) ?_
    refine ev_iastore (dMo_leave.at 23 rfl) rfl (o2 c1) ?_
    refine ev_aload_n (dMo_leave.at 24 rfl) rfl ?_
    refine ev_getr (dMo_leave.at 25 rfl) (own := 8) rfl fkMo_13 rfl rfl ?_
    refine ev_iload_n (dMo_leave.at 26 rfl) rfl ?_
    refine ev_aload_n (dMo_leave.at 27 rfl) rfl ?_
    refine ev_getr (dMo_leave.at 28 rfl) (own := 8) rfl fkMo_13 rfl rfl ?_
    refine ev_iload_n (dMo_leave.at 29 rfl) rfl ?_
    refine ev_iconst (dMo_leave.at 30 rfl) kI_1 ?_
    refine ev_iadd (dMo_leave.at 31 rfl) ?_
    refine ev_iaload (dMo_leave.at 32 rfl) rfl (o1 c1) ?_
    refine ev_iastore (dMo_leave.at 33 rfl) rfl (o2 c1) ?_
    refine ev_aload_n (dMo_leave.at 34 rfl) rfl ?_
    refine ev_getr (dMo_leave.at 35 rfl) (own := 8) rfl fkMo_16 rfl rfl ?_
    refine ev_iload_n (dMo_leave.at 36 rfl) rfl ?_
    refine ev_aload_n (dMo_leave.at 37 rfl) rfl ?_
    refine ev_getr (dMo_leave.at 38 rfl) (own := 8) rfl fkMo_16 rfl rfl ?_
    refine ev_iload_n (dMo_leave.at 39 rfl) rfl ?_
    refine ev_iconst (dMo_leave.at 40 rfl) kI_1 ?_
    refine ev_iadd (dMo_leave.at 41 rfl) ?_
    refine ev_iaload (dMo_leave.at 42 rfl) rfl (o1 c1) ?_
    refine ev_iastore (dMo_leave.at 43 rfl) rfl (o2 c1) ?_
    refine ev_iinc (dMo_leave.at 44 rfl) kI_1 rfl (by decide) rfl ?_
    refine ev_goto (tgt := 12) (dMo_leave.at 45 rfl) rfl ?_
    exact (k2 c1)
set_option maxHeartbeats 4000000 in
theorem bMo_sleep_0 {d : Nat} {w : sx_W} {Q : sx_Q} {x1 : Int32} {x2 : Int32}
    (o1 : vp_in x1 7)
    (k1 : (¬ (w.1 49 x1.toNatClampNeg) = (1 : Int32)) → sx_ev d rMo_sleep 58 [.null, .null, .int x2, .int ((1 : Int32) <<< (x2 &&& 31)), .int (0 : Int32), .int (w.1 50 x1.toNatClampNeg), .int (1 : Int32)] [] w Q)
    (k2 : ((w.1 49 x1.toNatClampNeg) = (1 : Int32)) → ((w.1 50 x1.toNatClampNeg) ≤ (1 : Int32)) → sx_ev d rMo_sleep 58 [.null, .null, .int x2, .int ((1 : Int32) <<< (x2 &&& 31)), .int (0 : Int32), .int (w.1 50 x1.toNatClampNeg), .int (1 : Int32)] [] w Q)
    (k3 : ((w.1 49 x1.toNatClampNeg) = (1 : Int32)) → (¬ (w.1 50 x1.toNatClampNeg) ≤ (1 : Int32)) → sx_ev d rMo_sleep 58 [.null, .null, .int x2, .int ((1 : Int32) <<< (x2 &&& 31)), .int (1 : Int32), .int ((w.1 50 x1.toNatClampNeg) - (1 : Int32)), .int (1 : Int32)] [] w Q) :
    sx_ev d rMo_sleep 0 [.ref 48, .int x1, .int x2, .null, .null, .null, .null] [] w Q := by
  refine ev_iconst (dMo_sleep.at 0 rfl) kI_1 ?_
  refine ev_iload_n (dMo_sleep.at 1 rfl) rfl ?_
  refine ev_ishl (dMo_sleep.at 2 rfl) ?_
  refine ev_istore_n (dMo_sleep.at 3 rfl) (by decide) rfl ?_
  refine ev_aload_n (dMo_sleep.at 4 rfl) rfl ?_
  refine ev_getr (dMo_sleep.at 5 rfl) (own := 8) rfl fkMo_7 rfl rfl ?_
  refine ev_iload_n (dMo_sleep.at 6 rfl) rfl ?_
  refine ev_iaload (dMo_sleep.at 7 rfl) rfl o1 ?_
  refine ev_iconst (dMo_sleep.at 8 rfl) kI_1 ?_
  refine ev_icmp_ne (tgt := 28) (dMo_sleep.at 9 rfl) rfl (fun c1 => ?_) (fun c1 => ?_)
  · refine ev_iconst (dMo_sleep.at 18 rfl) kI_0 ?_
    refine ev_istore (dMo_sleep.at 19 rfl) (by decide) rfl ?_
    refine ev_iload (dMo_sleep.at 20 rfl) rfl ?_
    refine ev_if_eq (tgt := 47) (dMo_sleep.at 21 rfl) rfl (fun _ => ?_) (fun h => absurd h (by decide))
    refine ev_aload_n (dMo_sleep.at 29 rfl) rfl ?_
    refine ev_getr (dMo_sleep.at 30 rfl) (own := 8) rfl fkMo_13 rfl rfl ?_
    refine ev_iload_n (dMo_sleep.at 31 rfl) rfl ?_
    refine ev_iaload (dMo_sleep.at 32 rfl) rfl o1 ?_
    refine ev_istore (dMo_sleep.at 33 rfl) (by decide) rfl ?_
    refine ev_iconst (dMo_sleep.at 34 rfl) kI_1 ?_
    refine ev_istore (dMo_sleep.at 35 rfl) (by decide) rfl ?_
    refine ev_kp [false, false, true, true, true, true, true] rfl ?_
    exact (k1 c1)
  · refine ev_aload_n (dMo_sleep.at 10 rfl) rfl ?_
    refine ev_getr (dMo_sleep.at 11 rfl) (own := 8) rfl fkMo_13 rfl rfl ?_
    refine ev_iload_n (dMo_sleep.at 12 rfl) rfl ?_
    refine ev_iaload (dMo_sleep.at 13 rfl) rfl o1 ?_
    refine ev_iconst (dMo_sleep.at 14 rfl) kI_1 ?_
    refine ev_icmp_le (tgt := 28) (dMo_sleep.at 15 rfl) rfl (fun c2 => ?_) (fun c2 => ?_)
    · refine ev_iconst (dMo_sleep.at 18 rfl) kI_0 ?_
      refine ev_istore (dMo_sleep.at 19 rfl) (by decide) rfl ?_
      refine ev_iload (dMo_sleep.at 20 rfl) rfl ?_
      refine ev_if_eq (tgt := 47) (dMo_sleep.at 21 rfl) rfl (fun _ => ?_) (fun h => absurd h (by decide))
      refine ev_aload_n (dMo_sleep.at 29 rfl) rfl ?_
      refine ev_getr (dMo_sleep.at 30 rfl) (own := 8) rfl fkMo_13 rfl rfl ?_
      refine ev_iload_n (dMo_sleep.at 31 rfl) rfl ?_
      refine ev_iaload (dMo_sleep.at 32 rfl) rfl o1 ?_
      refine ev_istore (dMo_sleep.at 33 rfl) (by decide) rfl ?_
      refine ev_iconst (dMo_sleep.at 34 rfl) kI_1 ?_
      refine ev_istore (dMo_sleep.at 35 rfl) (by decide) rfl ?_
      refine ev_kp [false, false, true, true, true, true, true] rfl ?_
      exact (k2 c1 c2)
    · refine ev_iconst (dMo_sleep.at 16 rfl) kI_1 ?_
      refine ev_goto (tgt := 29) (dMo_sleep.at 17 rfl) rfl ?_
      refine ev_istore (dMo_sleep.at 19 rfl) (by decide) rfl ?_
      refine ev_iload (dMo_sleep.at 20 rfl) rfl ?_
      refine ev_if_eq (tgt := 47) (dMo_sleep.at 21 rfl) rfl (fun h => absurd h (by decide)) (fun _ => ?_)
      refine ev_aload_n (dMo_sleep.at 22 rfl) rfl ?_
      refine ev_getr (dMo_sleep.at 23 rfl) (own := 8) rfl fkMo_13 rfl rfl ?_
      refine ev_iload_n (dMo_sleep.at 24 rfl) rfl ?_
      refine ev_iaload (dMo_sleep.at 25 rfl) rfl o1 ?_
      refine ev_iconst (dMo_sleep.at 26 rfl) kI_1 ?_
      refine ev_isub (dMo_sleep.at 27 rfl) ?_
      refine ev_goto (tgt := 53) (dMo_sleep.at 28 rfl) rfl ?_
      refine ev_istore (dMo_sleep.at 33 rfl) (by decide) rfl ?_
      refine ev_iconst (dMo_sleep.at 34 rfl) kI_1 ?_
      refine ev_istore (dMo_sleep.at 35 rfl) (by decide) rfl ?_
      refine ev_kp [false, false, true, true, true, true, true] rfl ?_
      exact (k3 c1 c2)
set_option maxHeartbeats 4000000 in
theorem bMo_sleep_58 {d : Nat} {w : sx_W} {Q : sx_Q} {x2 : Int32} {x3 : Int32} {x4 : Int32} {x5 : Int32} {x6 : Int32}
    (k1 : (x5 ≤ x6) → (x4 = 0) → Q x3 0 w)
    (k2 : (x5 ≤ x6) → (¬ x4 = 0) → Q (x3 ||| ((1 : Int32) <<< (((x2 + (4 : Int32)) - (x2 + (4 : Int32)) / (8 : Int32) * (8 : Int32)) &&& 31))) 0 w)
    (k3 : (¬ x5 ≤ x6) → sx_ev d rMo_sleep 58 [.null, .null, .int x2, .int (x3 ||| ((1 : Int32) <<< (((x2 + x6) - (x2 + x6) / (8 : Int32) * (8 : Int32)) &&& 31))), .int x4, .int x5, .int (x6 + (1 : Int32))] [] w Q) :
    sx_ev d rMo_sleep 58 [.null, .null, .int x2, .int x3, .int x4, .int x5, .int x6] [] w Q := by
  refine ev_iload (dMo_sleep.at 36 rfl) rfl ?_
  refine ev_iload (dMo_sleep.at 37 rfl) rfl ?_
  refine ev_icmp_ge (tgt := 83) (dMo_sleep.at 38 rfl) rfl (fun c1 => ?_) (fun c1 => ?_)
  · refine ev_iload (dMo_sleep.at 51 rfl) rfl ?_
    refine ev_if_eq (tgt := 101) (dMo_sleep.at 52 rfl) rfl (fun c2 => ?_) (fun c2 => ?_)
    · refine ev_iload_n (dMo_sleep.at 63 rfl) rfl ?_
      exact ev_iret (dMo_sleep.at 64 rfl) rfl (k1 c1 c2)
    · refine ev_iload_n (dMo_sleep.at 53 rfl) rfl ?_
      refine ev_iconst (dMo_sleep.at 54 rfl) kI_1 ?_
      refine ev_iload_n (dMo_sleep.at 55 rfl) rfl ?_
      refine ev_iconst (dMo_sleep.at 56 rfl) kI_4 ?_
      refine ev_iadd (dMo_sleep.at 57 rfl) ?_
      refine ev_bipush (dMo_sleep.at 58 rfl) kB_8 ?_
      refine ev_irem (dMo_sleep.at 59 rfl) (by decide) ?_
      refine ev_ishl (dMo_sleep.at 60 rfl) ?_
      refine ev_ior (dMo_sleep.at 61 rfl) ?_
      refine ev_goto (tgt := 102) (dMo_sleep.at 62 rfl) rfl ?_
      exact ev_iret (dMo_sleep.at 64 rfl) rfl (k2 c1 c2)
  · refine ev_iload_n (dMo_sleep.at 39 rfl) rfl ?_
    refine ev_iconst (dMo_sleep.at 40 rfl) kI_1 ?_
    refine ev_iload_n (dMo_sleep.at 41 rfl) rfl ?_
    refine ev_iload (dMo_sleep.at 42 rfl) rfl ?_
    refine ev_iadd (dMo_sleep.at 43 rfl) ?_
    refine ev_bipush (dMo_sleep.at 44 rfl) kB_8 ?_
    refine ev_irem (dMo_sleep.at 45 rfl) (by decide) ?_
    refine ev_ishl (dMo_sleep.at 46 rfl) ?_
    refine ev_ior (dMo_sleep.at 47 rfl) ?_
    refine ev_istore_n (dMo_sleep.at 48 rfl) (by decide) rfl ?_
    refine ev_iinc (dMo_sleep.at 49 rfl) kI_1 rfl (by decide) rfl ?_
    refine ev_goto (tgt := 58) (dMo_sleep.at 50 rfl) rfl ?_
    exact (k3 c1)
set_option maxHeartbeats 4000000 in
theorem bMo_may_0 {d : Nat} {w : sx_W} {Q : sx_Q} {x1 : Int32} {x2 : Int32} {f1 : Int32}
    (m1 : sx_de d rMo_sleep [.ref 48, .int x1, .int x2] w f1 0 w)
    (o1 : vp_in x1 7)
    (k1 : (¬ (f1 &&& (w.1 51 x1.toNatClampNeg)) = 0) → Q (0 : Int32) 0 w)
    (k2 : ((f1 &&& (w.1 51 x1.toNatClampNeg)) = 0) → Q (1 : Int32) 0 w) :
    sx_ev (d + 1) rMo_may 0 [.ref 48, .int x1, .int x2] [] w Q := by
  refine ev_aload_n (dMo_may.at 0 rfl) rfl ?_
  refine ev_iload_n (dMo_may.at 1 rfl) rfl ?_
  refine ev_iload_n (dMo_may.at 2 rfl) rfl ?_
  refine ev_cVi (dMo_may.at 3 rfl) (As := [.int x1, .int x2]) (own := 8) rfl ckMo_93 rfl (Or.inl rfl) rfl (Nat.le_of_ble_eq_true rfl) rfl m1 ?_
  refine ev_aload_n (dMo_may.at 4 rfl) rfl ?_
  refine ev_getr (dMo_may.at 5 rfl) (own := 8) rfl fkMo_16 rfl rfl ?_
  refine ev_iload_n (dMo_may.at 6 rfl) rfl ?_
  refine ev_iaload (dMo_may.at 7 rfl) rfl o1 ?_
  refine ev_iand (dMo_may.at 8 rfl) ?_
  refine ev_if_ne (tgt := 20) (dMo_may.at 9 rfl) rfl (fun c1 => ?_) (fun c1 => ?_)
  · refine ev_iconst (dMo_may.at 12 rfl) kI_0 ?_
    exact ev_zret (dMo_may.at 13 rfl) rfl (by decide) (k1 c1)
  · refine ev_iconst (dMo_may.at 10 rfl) kI_1 ?_
    refine ev_goto (tgt := 21) (dMo_may.at 11 rfl) rfl ?_
    exact ev_zret (dMo_may.at 13 rfl) rfl (by decide) (k2 c1)
set_option maxHeartbeats 4000000 in
theorem bMo_mays_0 {d : Nat} {w : sx_W} {Q : sx_Q} {x1 : Int32}
    (k1 : sx_ev d rMo_mays 4 [.ref 48, .int x1, .int (0 : Int32), .int (0 : Int32)] [] w Q) :
    sx_ev d rMo_mays 0 [.ref 48, .int x1, .null, .null] [] w Q := by
  refine ev_iconst (dMo_mays.at 0 rfl) kI_0 ?_
  refine ev_istore_n (dMo_mays.at 1 rfl) (by decide) rfl ?_
  refine ev_iconst (dMo_mays.at 2 rfl) kI_0 ?_
  refine ev_istore_n (dMo_mays.at 3 rfl) (by decide) rfl ?_
  exact k1
set_option maxHeartbeats 4000000 in
theorem bMo_mays_4 {d : Nat} {w : sx_W} {Q : sx_Q} {x1 : Int32} {x2 : Int32} {x3 : Int32} {f1 : Int32}
    (k1 : ((8 : Int32) ≤ x3) → Q x2 0 w)
    (m1 : (¬ (8 : Int32) ≤ x3) → sx_de d rMo_may [.ref 48, .int x1, .int x3] w f1 0 w)
    (k2 : (¬ (8 : Int32) ≤ x3) → (f1 = 0) → sx_ev (d + 1) rMo_mays 4 [.ref 48, .int x1, .int (x2 ||| (0 : Int32)), .int (x3 + (1 : Int32))] [] w Q)
    (k3 : (¬ (8 : Int32) ≤ x3) → (¬ f1 = 0) → sx_ev (d + 1) rMo_mays 4 [.ref 48, .int x1, .int (x2 ||| ((1 : Int32) <<< (x3 &&& 31))), .int (x3 + (1 : Int32))] [] w Q) :
    sx_ev (d + 1) rMo_mays 4 [.ref 48, .int x1, .int x2, .int x3] [] w Q := by
  refine ev_iload_n (dMo_mays.at 4 rfl) rfl ?_
  refine ev_bipush (dMo_mays.at 5 rfl) kB_8 ?_
  refine ev_icmp_ge (tgt := 35) (dMo_mays.at 6 rfl) rfl (fun c1 => ?_) (fun c1 => ?_)
  · refine ev_iload_n (dMo_mays.at 22 rfl) rfl ?_
    exact ev_iret (dMo_mays.at 23 rfl) rfl (k1 c1)
  · refine ev_iload_n (dMo_mays.at 7 rfl) rfl ?_
    refine ev_aload_n (dMo_mays.at 8 rfl) rfl ?_
    refine ev_iload_n (dMo_mays.at 9 rfl) rfl ?_
    refine ev_iload_n (dMo_mays.at 10 rfl) rfl ?_
    refine ev_cVi (dMo_mays.at 11 rfl) (As := [.int x1, .int x3]) (own := 8) rfl ckMo_97 rfl (Or.inr rfl) rfl (Nat.le_of_ble_eq_true rfl) rfl (m1 c1) ?_
    refine ev_if_eq (tgt := 26) (dMo_mays.at 12 rfl) rfl (fun c2 => ?_) (fun c2 => ?_)
    · refine ev_iconst (dMo_mays.at 17 rfl) kI_0 ?_
      refine ev_ior (dMo_mays.at 18 rfl) ?_
      refine ev_istore_n (dMo_mays.at 19 rfl) (by decide) rfl ?_
      refine ev_iinc (dMo_mays.at 20 rfl) kI_1 rfl (by decide) rfl ?_
      refine ev_goto (tgt := 4) (dMo_mays.at 21 rfl) rfl ?_
      exact (k2 c1 c2)
    · refine ev_iconst (dMo_mays.at 13 rfl) kI_1 ?_
      refine ev_iload_n (dMo_mays.at 14 rfl) rfl ?_
      refine ev_ishl (dMo_mays.at 15 rfl) ?_
      refine ev_goto (tgt := 27) (dMo_mays.at 16 rfl) rfl ?_
      refine ev_ior (dMo_mays.at 18 rfl) ?_
      refine ev_istore_n (dMo_mays.at 19 rfl) (by decide) rfl ?_
      refine ev_iinc (dMo_mays.at 20 rfl) kI_1 rfl (by decide) rfl ?_
      refine ev_goto (tgt := 4) (dMo_mays.at 21 rfl) rfl ?_
      exact (k3 c1 c2)
set_option maxHeartbeats 4000000 in
theorem bMo_told_0 {d : Nat} {w : sx_W} {Q : sx_Q} {x1 : Int32} {x2 : Int32} {f1 : Int32} {f2 : Int32} {f3 : Int32}
    (m1 : sx_de d rMo_isLodger [.ref 48, .int x1] w f1 0 w)
    (k1 : (f1 = 0) → Q (-1 : Int32) 0 w)
    (m2 : (¬ f1 = 0) → sx_de d rMo_in [.long (x2).toInt64, .long (0 : Int64), .long (lN 4)] w f2 0 w)
    (o1 : (¬ f1 = 0) → (¬ f2 = 0) → (x2.toInt = 0 + 0) → vp_in x1 7)
    (k2 : (¬ f1 = 0) → (¬ f2 = 0) → (x2.toInt = 0 + 0) → Q (w.1 49 x1.toNatClampNeg) 0 w)
    (o2 : (¬ f1 = 0) → (¬ f2 = 0) → (x2.toInt = 0 + 1) → vp_in x1 7)
    (k3 : (¬ f1 = 0) → (¬ f2 = 0) → (x2.toInt = 0 + 1) → Q (w.1 50 x1.toNatClampNeg) 0 w)
    (o3 : (¬ f1 = 0) → (¬ f2 = 0) → (x2.toInt = 0 + 2) → vp_in x1 7)
    (k4 : (¬ f1 = 0) → (¬ f2 = 0) → (x2.toInt = 0 + 2) → Q (w.1 51 x1.toNatClampNeg) 0 w)
    (m3 : (¬ f1 = 0) → (¬ f2 = 0) → (x2.toInt = 0 + 3) → sx_de d rMo_mays [.ref 48, .int x1] w f3 0 w)
    (k5 : (¬ f1 = 0) → (¬ f2 = 0) → (x2.toInt = 0 + 3) → Q f3 0 w)
    (k6 : (¬ f1 = 0) → (¬ f2 = 0) → (x2.toInt < 0 ∨ 3 < x2.toInt) → ((w.1 48 5) = 0) → Q (-4 : Int32) 0 w)
    (o4 : (¬ f1 = 0) → (¬ f2 = 0) → (x2.toInt < 0 ∨ 3 < x2.toInt) → (¬ (w.1 48 5) = 0) → vp_in x1 7)
    (k7 : (¬ f1 = 0) → (¬ f2 = 0) → (x2.toInt < 0 ∨ 3 < x2.toInt) → (¬ (w.1 48 5) = 0) → Q (w.1 52 x1.toNatClampNeg) 0 w)
    (k8 : (¬ f1 = 0) → (f2 = 0) → Q (-1 : Int32) 0 w) :
    sx_ev (d + 1) rMo_told 0 [.ref 48, .int x1, .int x2] [] w Q := by
  refine ev_aload_n (dMo_told.at 0 rfl) rfl ?_
  refine ev_iload_n (dMo_told.at 1 rfl) rfl ?_
  refine ev_cVi (dMo_told.at 2 rfl) (As := [.int x1]) (own := 8) rfl ckMo_89 rfl (Or.inr rfl) rfl (Nat.le_of_ble_eq_true rfl) rfl m1 ?_
  refine ev_if_eq (tgt := 20) (dMo_told.at 3 rfl) rfl (fun c1 => ?_) (fun c1 => ?_)
  · refine ev_iconst (dMo_told.at 10 rfl) kI_m1 ?_
    exact ev_iret (dMo_told.at 11 rfl) rfl (k1 c1)
  · refine ev_iload_n (dMo_told.at 4 rfl) rfl ?_
    refine ev_i2l (dMo_told.at 5 rfl) ?_
    refine ev_lconst (dMo_told.at 6 rfl) rfl ?_
    refine ev_ldc2 (dMo_told.at 7 rfl) (own := 8) rfl (List.mem_of_getElem? (i := 1) rfl) ?_
    refine ev_cSi (dMo_told.at 8 rfl) (As := [.long (x2).toInt64, .long (0 : Int64), .long (lN 4)]) (own := 8) rfl ckMo_69 (Or.inr rfl) rfl (Nat.le_of_ble_eq_true rfl) rfl (m2 c1) ?_
    refine ev_if_ne (tgt := 22) (dMo_told.at 9 rfl) rfl (fun c2 => ?_) (fun c2 => ?_)
    · refine ev_iload_n (dMo_told.at 12 rfl) rfl ?_
      refine ev_tsw (td := 79) (dMo_told.at 13 rfl) rfl rfl (fun j off ho c3 => ?_) (fun c3 => ?_)
      · match j, ho, c3 with
        | 0, ho, c3 =>
          obtain rfl : (29 : Int) = off := Option.some.inj ho
          refine ⟨52, rfl, ?_⟩
          refine ev_aload_n (dMo_told.at 14 rfl) rfl ?_
          refine ev_getr (dMo_told.at 15 rfl) (own := 8) rfl fkMo_7 rfl rfl ?_
          refine ev_iload_n (dMo_told.at 16 rfl) rfl ?_
          refine ev_iaload (dMo_told.at 17 rfl) rfl (o1 c1 c2 c3) ?_
          exact ev_iret (dMo_told.at 18 rfl) rfl (k2 c1 c2 c3)
        | 1, ho, c3 =>
          obtain rfl : (36 : Int) = off := Option.some.inj ho
          refine ⟨59, rfl, ?_⟩
          refine ev_aload_n (dMo_told.at 19 rfl) rfl ?_
          refine ev_getr (dMo_told.at 20 rfl) (own := 8) rfl fkMo_13 rfl rfl ?_
          refine ev_iload_n (dMo_told.at 21 rfl) rfl ?_
          refine ev_iaload (dMo_told.at 22 rfl) rfl (o2 c1 c2 c3) ?_
          exact ev_iret (dMo_told.at 23 rfl) rfl (k3 c1 c2 c3)
        | 2, ho, c3 =>
          obtain rfl : (43 : Int) = off := Option.some.inj ho
          refine ⟨66, rfl, ?_⟩
          refine ev_aload_n (dMo_told.at 24 rfl) rfl ?_
          refine ev_getr (dMo_told.at 25 rfl) (own := 8) rfl fkMo_16 rfl rfl ?_
          refine ev_iload_n (dMo_told.at 26 rfl) rfl ?_
          refine ev_iaload (dMo_told.at 27 rfl) rfl (o3 c1 c2 c3) ?_
          exact ev_iret (dMo_told.at 28 rfl) rfl (k4 c1 c2 c3)
        | 3, ho, c3 =>
          obtain rfl : (50 : Int) = off := Option.some.inj ho
          refine ⟨73, rfl, ?_⟩
          refine ev_aload_n (dMo_told.at 29 rfl) rfl ?_
          refine ev_iload_n (dMo_told.at 30 rfl) rfl ?_
          refine ev_cVi (dMo_told.at 31 rfl) (As := [.int x1]) (own := 8) rfl ckMo_101 rfl (Or.inl rfl) rfl (Nat.le_of_ble_eq_true rfl) rfl (m3 c1 c2 c3) ?_
          exact ev_iret (dMo_told.at 32 rfl) rfl (k5 c1 c2 c3)
        | j + 4, ho, _ => cases ho
      · refine ev_aload_n (dMo_told.at 33 rfl) rfl ?_
        refine ev_get (dMo_told.at 34 rfl) (own := 8) rfl fkMo_75 rfl rfl ?_
        refine ev_if_eq (tgt := 95) (dMo_told.at 35 rfl) rfl (fun c4 => ?_) (fun c4 => ?_)
        · refine ev_bipush (dMo_told.at 41 rfl) kB_m4 ?_
          exact ev_iret (dMo_told.at 42 rfl) rfl (k6 c1 c2 c3 c4)
        · refine ev_aload_n (dMo_told.at 36 rfl) rfl ?_
          refine ev_getr (dMo_told.at 37 rfl) (own := 8) rfl fkMo_19 rfl rfl ?_
          refine ev_iload_n (dMo_told.at 38 rfl) rfl ?_
          refine ev_iaload (dMo_told.at 39 rfl) rfl (o4 c1 c2 c3 c4) ?_
          refine ev_goto (tgt := 97) (dMo_told.at 40 rfl) rfl ?_
          exact ev_iret (dMo_told.at 42 rfl) rfl (k7 c1 c2 c3 c4)
    · refine ev_iconst (dMo_told.at 10 rfl) kI_m1 ?_
      exact ev_iret (dMo_told.at 11 rfl) rfl (k8 c1 c2)
set_option maxHeartbeats 4000000 in
theorem bMo_work_0 {d : Nat} {w : sx_W} {Q : sx_Q} {x1 : Int32} {x2 : Int32} {f1 : Int32} {f2 : Int32}
    (m1 : sx_de d rMo_isLodger [.ref 48, .int x1] w f1 0 w)
    (k1 : (f1 = 0) → Q (-1 : Int32) 0 w)
    (m2 : (¬ f1 = 0) → sx_de d rMo_in [.long (x2).toInt64, .long (0 : Int64), .long (lN 255)] w f2 0 w)
    (o1 : (¬ f1 = 0) → (¬ f2 = 0) → vp_in x1 7)
    (k2 : (¬ f1 = 0) → (¬ f2 = 0) → Q (w.1 51 x1.toNatClampNeg) 0 ((sx_u w.1 51 x1.toNatClampNeg x2), w.2))
    (k3 : (¬ f1 = 0) → (f2 = 0) → Q (-1 : Int32) 0 w) :
    sx_ev (d + 1) rMo_work 0 [.ref 48, .int x1, .int x2, .null] [] w Q := by
  refine ev_aload_n (dMo_work.at 0 rfl) rfl ?_
  refine ev_iload_n (dMo_work.at 1 rfl) rfl ?_
  refine ev_cVi (dMo_work.at 2 rfl) (As := [.int x1]) (own := 8) rfl ckMo_89 rfl (Or.inr rfl) rfl (Nat.le_of_ble_eq_true rfl) rfl m1 ?_
  refine ev_if_eq (tgt := 20) (dMo_work.at 3 rfl) rfl (fun c1 => ?_) (fun c1 => ?_)
  · refine ev_iconst (dMo_work.at 10 rfl) kI_m1 ?_
    exact ev_iret (dMo_work.at 11 rfl) rfl (k1 c1)
  · refine ev_iload_n (dMo_work.at 4 rfl) rfl ?_
    refine ev_i2l (dMo_work.at 5 rfl) ?_
    refine ev_lconst (dMo_work.at 6 rfl) rfl ?_
    refine ev_ldc2 (dMo_work.at 7 rfl) (own := 8) rfl (List.mem_of_getElem? (i := 2) rfl) ?_
    refine ev_cSi (dMo_work.at 8 rfl) (As := [.long (x2).toInt64, .long (0 : Int64), .long (lN 255)]) (own := 8) rfl ckMo_69 (Or.inr rfl) rfl (Nat.le_of_ble_eq_true rfl) rfl (m2 c1) ?_
    refine ev_if_ne (tgt := 22) (dMo_work.at 9 rfl) rfl (fun c2 => ?_) (fun c2 => ?_)
    · refine ev_aload_n (dMo_work.at 12 rfl) rfl ?_
      refine ev_getr (dMo_work.at 13 rfl) (own := 8) rfl fkMo_16 rfl rfl ?_
      refine ev_iload_n (dMo_work.at 14 rfl) rfl ?_
      refine ev_iaload (dMo_work.at 15 rfl) rfl (o1 c1 c2) ?_
      refine ev_istore_n (dMo_work.at 16 rfl) (by decide) rfl ?_
      refine ev_aload_n (dMo_work.at 17 rfl) rfl ?_
      refine ev_getr (dMo_work.at 18 rfl) (own := 8) rfl fkMo_16 rfl rfl ?_
      refine ev_iload_n (dMo_work.at 19 rfl) rfl ?_
      refine ev_iload_n (dMo_work.at 20 rfl) rfl ?_
      refine ev_iastore (dMo_work.at 21 rfl) rfl (o1 c1 c2) ?_
      refine ev_iload_n (dMo_work.at 22 rfl) rfl ?_
      exact ev_iret (dMo_work.at 23 rfl) rfl (k2 c1 c2)
    · refine ev_iconst (dMo_work.at 10 rfl) kI_m1 ?_
      exact ev_iret (dMo_work.at 11 rfl) rfl (k3 c1 c2)
set_option maxHeartbeats 4000000 in
theorem bMo_sleeps_0 {d : Nat} {w : sx_W} {Q : sx_Q} {x1 : Int32} {x2 : Int32} {f1 : Int32} {f2 : Int32} {f3 : Int32}
    (m1 : sx_de d rMo_isLodger [.ref 48, .int x1] w f1 0 w)
    (k1 : (f1 = 0) → Q (-1 : Int32) 0 w)
    (m2 : (¬ f1 = 0) → sx_de d rMo_isPart [.long (x2).toInt64] w f2 0 w)
    (k2 : (¬ f1 = 0) → (f2 = 0) → Q (-1 : Int32) 0 w)
    (m3 : (¬ f1 = 0) → (¬ f2 = 0) → sx_de d rMo_sleep [.ref 48, .int x1, .int x2] w f3 0 w)
    (k3 : (¬ f1 = 0) → (¬ f2 = 0) → Q f3 0 w) :
    sx_ev (d + 1) rMo_sleeps 0 [.ref 48, .int x1, .int x2] [] w Q := by
  refine ev_aload_n (dMo_sleeps.at 0 rfl) rfl ?_
  refine ev_iload_n (dMo_sleeps.at 1 rfl) rfl ?_
  refine ev_cVi (dMo_sleeps.at 2 rfl) (As := [.int x1]) (own := 8) rfl ckMo_89 rfl (Or.inr rfl) rfl (Nat.le_of_ble_eq_true rfl) rfl m1 ?_
  refine ev_if_eq (tgt := 25) (dMo_sleeps.at 3 rfl) rfl (fun c1 => ?_) (fun c1 => ?_)
  · refine ev_iconst (dMo_sleeps.at 13 rfl) kI_m1 ?_
    exact ev_iret (dMo_sleeps.at 14 rfl) rfl (k1 c1)
  · refine ev_iload_n (dMo_sleeps.at 4 rfl) rfl ?_
    refine ev_i2l (dMo_sleeps.at 5 rfl) ?_
    refine ev_cSi (dMo_sleeps.at 6 rfl) (As := [.long (x2).toInt64]) (own := 8) rfl ckMo_105 (Or.inr rfl) rfl (Nat.le_of_ble_eq_true rfl) rfl (m2 c1) ?_
    refine ev_if_eq (tgt := 25) (dMo_sleeps.at 7 rfl) rfl (fun c2 => ?_) (fun c2 => ?_)
    · refine ev_iconst (dMo_sleeps.at 13 rfl) kI_m1 ?_
      exact ev_iret (dMo_sleeps.at 14 rfl) rfl (k2 c1 c2)
    · refine ev_aload_n (dMo_sleeps.at 8 rfl) rfl ?_
      refine ev_iload_n (dMo_sleeps.at 9 rfl) rfl ?_
      refine ev_iload_n (dMo_sleeps.at 10 rfl) rfl ?_
      refine ev_cVi (dMo_sleeps.at 11 rfl) (As := [.int x1, .int x2]) (own := 8) rfl ckMo_93 rfl (Or.inl rfl) rfl (Nat.le_of_ble_eq_true rfl) rfl (m3 c1 c2) ?_
      refine ev_goto (tgt := 26) (dMo_sleeps.at 12 rfl) rfl ?_
      exact ev_iret (dMo_sleeps.at 14 rfl) rfl (k3 c1 c2)
set_option maxHeartbeats 4000000 in
theorem bMo_beds_0 {d : Nat} {w : sx_W} {Q : sx_Q} {x1 : Int32} {f1 : Int32}
    (m1 : sx_de d rMo_in [.long (x1).toInt64, .long (1 : Int64), .long (lN 7)] w f1 0 w)
    (k1 : (¬ f1 = 0) → Q (w.1 48 6) 0 ((sx_u w.1 48 6 x1), w.2))
    (k2 : (f1 = 0) → Q (-1 : Int32) 0 w) :
    sx_ev (d + 1) rMo_beds 0 [.ref 48, .int x1, .null] [] w Q := by
  refine ev_iload_n (dMo_beds.at 0 rfl) rfl ?_
  refine ev_i2l (dMo_beds.at 1 rfl) ?_
  refine ev_lconst (dMo_beds.at 2 rfl) rfl ?_
  refine ev_ldc2 (dMo_beds.at 3 rfl) (own := 8) rfl (List.mem_of_getElem? (i := 3) rfl) ?_
  refine ev_cSi (dMo_beds.at 4 rfl) (As := [.long (x1).toInt64, .long (1 : Int64), .long (lN 7)]) (own := 8) rfl ckMo_69 (Or.inr rfl) rfl (Nat.le_of_ble_eq_true rfl) rfl m1 ?_
  refine ev_if_ne (tgt := 14) (dMo_beds.at 5 rfl) rfl (fun c1 => ?_) (fun c1 => ?_)
  · refine ev_aload_n (dMo_beds.at 8 rfl) rfl ?_
    refine ev_get (dMo_beds.at 9 rfl) (own := 8) rfl fkMo_59 rfl rfl ?_
    refine ev_istore_n (dMo_beds.at 10 rfl) (by decide) rfl ?_
    refine ev_aload_n (dMo_beds.at 11 rfl) rfl ?_
    refine ev_iload_n (dMo_beds.at 12 rfl) rfl ?_
    refine ev_put (dMo_beds.at 13 rfl) (own := 8) rfl fkMo_59 rfl rfl ?_
    refine ev_iload_n (dMo_beds.at 14 rfl) rfl ?_
    exact ev_iret (dMo_beds.at 15 rfl) rfl (k1 c1)
  · refine ev_iconst (dMo_beds.at 6 rfl) kI_m1 ?_
    exact ev_iret (dMo_beds.at 7 rfl) rfl (k2 c1)
set_option maxHeartbeats 4000000 in
theorem bMo_lasts_0 {d : Nat} {w : sx_W} {Q : sx_Q} {x1 : Int32} {f1 : Int32}
    (m1 : sx_de d rMo_in [.long (x1).toInt64, .long (1 : Int64), .long (lN 9)] w f1 0 w)
    (k1 : (¬ f1 = 0) → Q (w.1 48 7) 0 ((sx_u w.1 48 7 x1), w.2))
    (k2 : (f1 = 0) → Q (-1 : Int32) 0 w) :
    sx_ev (d + 1) rMo_lasts 0 [.ref 48, .int x1, .null] [] w Q := by
  refine ev_iload_n (dMo_lasts.at 0 rfl) rfl ?_
  refine ev_i2l (dMo_lasts.at 1 rfl) ?_
  refine ev_lconst (dMo_lasts.at 2 rfl) rfl ?_
  refine ev_ldc2 (dMo_lasts.at 3 rfl) (own := 8) rfl (List.mem_of_getElem? (i := 4) rfl) ?_
  refine ev_cSi (dMo_lasts.at 4 rfl) (As := [.long (x1).toInt64, .long (1 : Int64), .long (lN 9)]) (own := 8) rfl ckMo_69 (Or.inr rfl) rfl (Nat.le_of_ble_eq_true rfl) rfl m1 ?_
  refine ev_if_ne (tgt := 14) (dMo_lasts.at 5 rfl) rfl (fun c1 => ?_) (fun c1 => ?_)
  · refine ev_aload_n (dMo_lasts.at 8 rfl) rfl ?_
    refine ev_get (dMo_lasts.at 9 rfl) (own := 8) rfl fkMo_63 rfl rfl ?_
    refine ev_istore_n (dMo_lasts.at 10 rfl) (by decide) rfl ?_
    refine ev_aload_n (dMo_lasts.at 11 rfl) rfl ?_
    refine ev_iload_n (dMo_lasts.at 12 rfl) rfl ?_
    refine ev_put (dMo_lasts.at 13 rfl) (own := 8) rfl fkMo_63 rfl rfl ?_
    refine ev_iload_n (dMo_lasts.at 14 rfl) rfl ?_
    exact ev_iret (dMo_lasts.at 15 rfl) rfl (k1 c1)
  · refine ev_iconst (dMo_lasts.at 6 rfl) kI_m1 ?_
    exact ev_iret (dMo_lasts.at 7 rfl) rfl (k2 c1)
set_option maxHeartbeats 4000000 in
theorem bMo_fits_53_0 {d : Nat} {w : sx_W} {Q : sx_Q} {x2 : Int32} {f1 : Int32}
    (o1 : vp_in x2 7)
    (m1 : sx_de d rMo_sleep [.ref 48, .int x2, .int (w.1 53 x2.toNatClampNeg)] w f1 0 w)
    (k1 : ((f1 &&& (w.1 51 x2.toNatClampNeg)) = 0) → sx_ev (d + 1) rMo_fits 25 [.ref 48, .ref 53, .int x2, .int f1, .int (0 : Int32), .null, .null] [] w Q)
    (k2 : (¬ (f1 &&& (w.1 51 x2.toNatClampNeg)) = 0) → Q (0 : Int32) 0 w) :
    sx_ev (d + 1) rMo_fits 0 [.ref 48, .ref 53, .int x2, .null, .null, .null, .null] [] w Q := by
  refine ev_aload_n (dMo_fits.at 0 rfl) rfl ?_
  refine ev_iload_n (dMo_fits.at 1 rfl) rfl ?_
  refine ev_aload_n (dMo_fits.at 2 rfl) rfl ?_
  refine ev_iload_n (dMo_fits.at 3 rfl) rfl ?_
  refine ev_iaload (dMo_fits.at 4 rfl) rfl o1 ?_
  refine ev_cVi (dMo_fits.at 5 rfl) (As := [.int x2, .int (w.1 53 x2.toNatClampNeg)]) (own := 8) rfl ckMo_93 rfl (Or.inl rfl) rfl (Nat.le_of_ble_eq_true rfl) rfl m1 ?_
  refine ev_istore_n (dMo_fits.at 6 rfl) (by decide) rfl ?_
  refine ev_iload_n (dMo_fits.at 7 rfl) rfl ?_
  refine ev_aload_n (dMo_fits.at 8 rfl) rfl ?_
  refine ev_getr (dMo_fits.at 9 rfl) (own := 8) rfl fkMo_16 rfl rfl ?_
  refine ev_iload_n (dMo_fits.at 10 rfl) rfl ?_
  refine ev_iaload (dMo_fits.at 11 rfl) rfl o1 ?_
  refine ev_iand (dMo_fits.at 12 rfl) ?_
  refine ev_if_eq (tgt := 22) (dMo_fits.at 13 rfl) rfl (fun c1 => ?_) (fun c1 => ?_)
  · refine ev_iconst (dMo_fits.at 16 rfl) kI_0 ?_
    refine ev_istore (dMo_fits.at 17 rfl) (by decide) rfl ?_
    exact (k1 c1)
  · refine ev_iconst (dMo_fits.at 14 rfl) kI_0 ?_
    exact ev_zret (dMo_fits.at 15 rfl) rfl (by decide) (k2 c1)
set_option maxHeartbeats 4000000 in
theorem bMo_fits_53_25 {d : Nat} {w : sx_W} {Q : sx_Q} {x2 : Int32} {x3 : Int32} {x4 : Int32}
    (k1 : ((8 : Int32) ≤ x4) → sx_ev d rMo_fits 105 [.ref 48, .ref 53, .int x2, .int x3, .int (0 : Int32), .null, .null] [] w Q)
    (k2 : (¬ (8 : Int32) ≤ x4) → sx_ev d rMo_fits 43 [.ref 48, .ref 53, .int x2, .int x3, .int x4, .int ((x3 >>> (x4 &&& 31)) &&& (1 : Int32)), .int (0 : Int32)] [] w Q) :
    sx_ev d rMo_fits 25 [.ref 48, .ref 53, .int x2, .int x3, .int x4, .null, .null] [] w Q := by
  refine ev_iload (dMo_fits.at 18 rfl) rfl ?_
  refine ev_bipush (dMo_fits.at 19 rfl) kB_8 ?_
  refine ev_icmp_ge (tgt := 102) (dMo_fits.at 20 rfl) rfl (fun c1 => ?_) (fun c1 => ?_)
  · refine ev_iconst (dMo_fits.at 62 rfl) kI_0 ?_
    refine ev_istore (dMo_fits.at 63 rfl) (by decide) rfl ?_
    exact (k1 c1)
  · refine ev_iload_n (dMo_fits.at 21 rfl) rfl ?_
    refine ev_iload (dMo_fits.at 22 rfl) rfl ?_
    refine ev_ishr (dMo_fits.at 23 rfl) ?_
    refine ev_iconst (dMo_fits.at 24 rfl) kI_1 ?_
    refine ev_iand (dMo_fits.at 25 rfl) ?_
    refine ev_istore (dMo_fits.at 26 rfl) (by decide) rfl ?_
    refine ev_iconst (dMo_fits.at 27 rfl) kI_0 ?_
    refine ev_istore (dMo_fits.at 28 rfl) (by decide) rfl ?_
    exact (k2 c1)
set_option maxHeartbeats 4000000 in
theorem bMo_fits_53_105 {d : Nat} {w : sx_W} {Q : sx_Q} {x2 : Int32} {x3 : Int32} {x4 : Int32} {f1 : Int32} {f2 : Int32}
    (k1 : (x2 ≤ x4) → Q (1 : Int32) 0 w)
    (o1 : (¬ x2 ≤ x4) → vp_in x4 7)
    (k2 : (¬ x2 ≤ x4) → (¬ (w.1 49 x4.toNatClampNeg) = (2 : Int32)) → (¬ (w.1 49 x4.toNatClampNeg) = (3 : Int32)) → sx_ev (d + 1) rMo_fits 105 [.ref 48, .ref 53, .int x2, .int x3, .int (x4 + (1 : Int32)), .null, .null] [] w Q)
    (o2 : (¬ x2 ≤ x4) → (¬ (w.1 49 x4.toNatClampNeg) = (2 : Int32)) → ((w.1 49 x4.toNatClampNeg) = (3 : Int32)) → vp_in x2 7)
    (k3 : (¬ x2 ≤ x4) → (¬ (w.1 49 x4.toNatClampNeg) = (2 : Int32)) → ((w.1 49 x4.toNatClampNeg) = (3 : Int32)) → (¬ (w.1 49 x2.toNatClampNeg) = (2 : Int32)) → sx_ev (d + 1) rMo_fits 105 [.ref 48, .ref 53, .int x2, .int x3, .int (x4 + (1 : Int32)), .null, .null] [] w Q)
    (m1 : (¬ x2 ≤ x4) → (¬ (w.1 49 x4.toNatClampNeg) = (2 : Int32)) → ((w.1 49 x4.toNatClampNeg) = (3 : Int32)) → ((w.1 49 x2.toNatClampNeg) = (2 : Int32)) → sx_de d rMo_sleep [.ref 48, .int x4, .int (w.1 53 x4.toNatClampNeg)] w f1 0 w)
    (k4 : (¬ x2 ≤ x4) → (¬ (w.1 49 x4.toNatClampNeg) = (2 : Int32)) → ((w.1 49 x4.toNatClampNeg) = (3 : Int32)) → ((w.1 49 x2.toNatClampNeg) = (2 : Int32)) → ((f1 &&& x3) = 0) → sx_ev (d + 1) rMo_fits 105 [.ref 48, .ref 53, .int x2, .int x3, .int (x4 + (1 : Int32)), .null, .null] [] w Q)
    (k5 : (¬ x2 ≤ x4) → (¬ (w.1 49 x4.toNatClampNeg) = (2 : Int32)) → ((w.1 49 x4.toNatClampNeg) = (3 : Int32)) → ((w.1 49 x2.toNatClampNeg) = (2 : Int32)) → (¬ (f1 &&& x3) = 0) → Q (0 : Int32) 0 w)
    (o3 : (¬ x2 ≤ x4) → ((w.1 49 x4.toNatClampNeg) = (2 : Int32)) → vp_in x2 7)
    (m2 : (¬ x2 ≤ x4) → ((w.1 49 x4.toNatClampNeg) = (2 : Int32)) → ((w.1 49 x2.toNatClampNeg) = (3 : Int32)) → sx_de d rMo_sleep [.ref 48, .int x4, .int (w.1 53 x4.toNatClampNeg)] w f2 0 w)
    (k6 : (¬ x2 ≤ x4) → ((w.1 49 x4.toNatClampNeg) = (2 : Int32)) → ((w.1 49 x2.toNatClampNeg) = (3 : Int32)) → ((f2 &&& x3) = 0) → sx_ev (d + 1) rMo_fits 105 [.ref 48, .ref 53, .int x2, .int x3, .int (x4 + (1 : Int32)), .null, .null] [] w Q)
    (k7 : (¬ x2 ≤ x4) → ((w.1 49 x4.toNatClampNeg) = (2 : Int32)) → ((w.1 49 x2.toNatClampNeg) = (3 : Int32)) → (¬ (f2 &&& x3) = 0) → Q (0 : Int32) 0 w)
    (k8 : (¬ x2 ≤ x4) → ((w.1 49 x4.toNatClampNeg) = (2 : Int32)) → (¬ (w.1 49 x2.toNatClampNeg) = (3 : Int32)) → sx_ev (d + 1) rMo_fits 105 [.ref 48, .ref 53, .int x2, .int x3, .int (x4 + (1 : Int32)), .null, .null] [] w Q) :
    sx_ev (d + 1) rMo_fits 105 [.ref 48, .ref 53, .int x2, .int x3, .int x4, .null, .null] [] w Q := by
  refine ev_iload (dMo_fits.at 64 rfl) rfl ?_
  refine ev_iload_n (dMo_fits.at 65 rfl) rfl ?_
  refine ev_icmp_ge (tgt := 188) (dMo_fits.at 66 rfl) rfl (fun c1 => ?_) (fun c1 => ?_)
  · refine ev_iconst (dMo_fits.at 110 rfl) kI_1 ?_
    exact ev_zret (dMo_fits.at 111 rfl) rfl (by decide) (k1 c1)
  · refine ev_aload_n (dMo_fits.at 67 rfl) rfl ?_
    refine ev_getr (dMo_fits.at 68 rfl) (own := 8) rfl fkMo_7 rfl rfl ?_
    refine ev_iload (dMo_fits.at 69 rfl) rfl ?_
    refine ev_iaload (dMo_fits.at 70 rfl) rfl (o1 c1) ?_
    refine ev_iconst (dMo_fits.at 71 rfl) kI_2 ?_
    refine ev_icmp_ne (tgt := 132) (dMo_fits.at 72 rfl) rfl (fun c2 => ?_) (fun c2 => ?_)
    · refine ev_aload_n (dMo_fits.at 79 rfl) rfl ?_
      refine ev_getr (dMo_fits.at 80 rfl) (own := 8) rfl fkMo_7 rfl rfl ?_
      refine ev_iload (dMo_fits.at 81 rfl) rfl ?_
      refine ev_iaload (dMo_fits.at 82 rfl) rfl (o1 c1) ?_
      refine ev_iconst (dMo_fits.at 83 rfl) kI_3 ?_
      refine ev_icmp_ne (tgt := 157) (dMo_fits.at 84 rfl) rfl (fun c3 => ?_) (fun c3 => ?_)
      · refine ev_iconst (dMo_fits.at 93 rfl) kI_0 ?_
        refine ev_istore (dMo_fits.at 94 rfl) (by decide) rfl ?_
        refine ev_iload (dMo_fits.at 95 rfl) rfl ?_
        refine ev_if_eq (tgt := 182) (dMo_fits.at 96 rfl) rfl (fun _ => ?_) (fun h => absurd h (by decide))
        refine ev_iinc (dMo_fits.at 108 rfl) kI_1 rfl (by decide) rfl ?_
        refine ev_goto (tgt := 105) (dMo_fits.at 109 rfl) rfl ?_
        refine ev_kp [true, true, true, true, true, false, false] rfl ?_
        exact (k2 c1 c2 c3)
      · refine ev_aload_n (dMo_fits.at 85 rfl) rfl ?_
        refine ev_getr (dMo_fits.at 86 rfl) (own := 8) rfl fkMo_7 rfl rfl ?_
        refine ev_iload_n (dMo_fits.at 87 rfl) rfl ?_
        refine ev_iaload (dMo_fits.at 88 rfl) rfl (o2 c1 c2 c3) ?_
        refine ev_iconst (dMo_fits.at 89 rfl) kI_2 ?_
        refine ev_icmp_ne (tgt := 157) (dMo_fits.at 90 rfl) rfl (fun c4 => ?_) (fun c4 => ?_)
        · refine ev_iconst (dMo_fits.at 93 rfl) kI_0 ?_
          refine ev_istore (dMo_fits.at 94 rfl) (by decide) rfl ?_
          refine ev_iload (dMo_fits.at 95 rfl) rfl ?_
          refine ev_if_eq (tgt := 182) (dMo_fits.at 96 rfl) rfl (fun _ => ?_) (fun h => absurd h (by decide))
          refine ev_iinc (dMo_fits.at 108 rfl) kI_1 rfl (by decide) rfl ?_
          refine ev_goto (tgt := 105) (dMo_fits.at 109 rfl) rfl ?_
          refine ev_kp [true, true, true, true, true, false, false] rfl ?_
          exact (k3 c1 c2 c3 c4)
        · refine ev_iconst (dMo_fits.at 91 rfl) kI_1 ?_
          refine ev_goto (tgt := 158) (dMo_fits.at 92 rfl) rfl ?_
          refine ev_istore (dMo_fits.at 94 rfl) (by decide) rfl ?_
          refine ev_iload (dMo_fits.at 95 rfl) rfl ?_
          refine ev_if_eq (tgt := 182) (dMo_fits.at 96 rfl) rfl (fun h => absurd h (by decide)) (fun _ => ?_)
          refine ev_aload_n (dMo_fits.at 97 rfl) rfl ?_
          refine ev_iload (dMo_fits.at 98 rfl) rfl ?_
          refine ev_aload_n (dMo_fits.at 99 rfl) rfl ?_
          refine ev_iload (dMo_fits.at 100 rfl) rfl ?_
          refine ev_iaload (dMo_fits.at 101 rfl) rfl (o1 c1) ?_
          refine ev_cVi (dMo_fits.at 102 rfl) (As := [.int x4, .int (w.1 53 x4.toNatClampNeg)]) (own := 8) rfl ckMo_93 rfl (Or.inl rfl) rfl (Nat.le_of_ble_eq_true rfl) rfl (m1 c1 c2 c3 c4) ?_
          refine ev_iload_n (dMo_fits.at 103 rfl) rfl ?_
          refine ev_iand (dMo_fits.at 104 rfl) ?_
          refine ev_if_eq (tgt := 182) (dMo_fits.at 105 rfl) rfl (fun c5 => ?_) (fun c5 => ?_)
          · refine ev_iinc (dMo_fits.at 108 rfl) kI_1 rfl (by decide) rfl ?_
            refine ev_goto (tgt := 105) (dMo_fits.at 109 rfl) rfl ?_
            refine ev_kp [true, true, true, true, true, false, false] rfl ?_
            exact (k4 c1 c2 c3 c4 c5)
          · refine ev_iconst (dMo_fits.at 106 rfl) kI_0 ?_
            exact ev_zret (dMo_fits.at 107 rfl) rfl (by decide) (k5 c1 c2 c3 c4 c5)
    · refine ev_aload_n (dMo_fits.at 73 rfl) rfl ?_
      refine ev_getr (dMo_fits.at 74 rfl) (own := 8) rfl fkMo_7 rfl rfl ?_
      refine ev_iload_n (dMo_fits.at 75 rfl) rfl ?_
      refine ev_iaload (dMo_fits.at 76 rfl) rfl (o3 c1 c2) ?_
      refine ev_iconst (dMo_fits.at 77 rfl) kI_3 ?_
      refine ev_icmp_eq (tgt := 153) (dMo_fits.at 78 rfl) rfl (fun c6 => ?_) (fun c6 => ?_)
      · refine ev_iconst (dMo_fits.at 91 rfl) kI_1 ?_
        refine ev_goto (tgt := 158) (dMo_fits.at 92 rfl) rfl ?_
        refine ev_istore (dMo_fits.at 94 rfl) (by decide) rfl ?_
        refine ev_iload (dMo_fits.at 95 rfl) rfl ?_
        refine ev_if_eq (tgt := 182) (dMo_fits.at 96 rfl) rfl (fun h => absurd h (by decide)) (fun _ => ?_)
        refine ev_aload_n (dMo_fits.at 97 rfl) rfl ?_
        refine ev_iload (dMo_fits.at 98 rfl) rfl ?_
        refine ev_aload_n (dMo_fits.at 99 rfl) rfl ?_
        refine ev_iload (dMo_fits.at 100 rfl) rfl ?_
        refine ev_iaload (dMo_fits.at 101 rfl) rfl (o1 c1) ?_
        refine ev_cVi (dMo_fits.at 102 rfl) (As := [.int x4, .int (w.1 53 x4.toNatClampNeg)]) (own := 8) rfl ckMo_93 rfl (Or.inl rfl) rfl (Nat.le_of_ble_eq_true rfl) rfl (m2 c1 c2 c6) ?_
        refine ev_iload_n (dMo_fits.at 103 rfl) rfl ?_
        refine ev_iand (dMo_fits.at 104 rfl) ?_
        refine ev_if_eq (tgt := 182) (dMo_fits.at 105 rfl) rfl (fun c7 => ?_) (fun c7 => ?_)
        · refine ev_iinc (dMo_fits.at 108 rfl) kI_1 rfl (by decide) rfl ?_
          refine ev_goto (tgt := 105) (dMo_fits.at 109 rfl) rfl ?_
          refine ev_kp [true, true, true, true, true, false, false] rfl ?_
          exact (k6 c1 c2 c6 c7)
        · refine ev_iconst (dMo_fits.at 106 rfl) kI_0 ?_
          exact ev_zret (dMo_fits.at 107 rfl) rfl (by decide) (k7 c1 c2 c6 c7)
      · refine ev_aload_n (dMo_fits.at 79 rfl) rfl ?_
        refine ev_getr (dMo_fits.at 80 rfl) (own := 8) rfl fkMo_7 rfl rfl ?_
        refine ev_iload (dMo_fits.at 81 rfl) rfl ?_
        refine ev_iaload (dMo_fits.at 82 rfl) rfl (o1 c1) ?_
        refine ev_iconst (dMo_fits.at 83 rfl) kI_3 ?_
        refine ev_icmp_ne (tgt := 157) (dMo_fits.at 84 rfl) rfl (fun _ => ?_) (fun h => absurd (c2.symm.trans h) (by decide))
        refine ev_iconst (dMo_fits.at 93 rfl) kI_0 ?_
        refine ev_istore (dMo_fits.at 94 rfl) (by decide) rfl ?_
        refine ev_iload (dMo_fits.at 95 rfl) rfl ?_
        refine ev_if_eq (tgt := 182) (dMo_fits.at 96 rfl) rfl (fun _ => ?_) (fun h => absurd h (by decide))
        refine ev_iinc (dMo_fits.at 108 rfl) kI_1 rfl (by decide) rfl ?_
        refine ev_goto (tgt := 105) (dMo_fits.at 109 rfl) rfl ?_
        refine ev_kp [true, true, true, true, true, false, false] rfl ?_
        exact (k8 c1 c2 c6)
set_option maxHeartbeats 4000000 in
theorem bMo_fits_53_43 {d : Nat} {w : sx_W} {Q : sx_Q} {x2 : Int32} {x3 : Int32} {x4 : Int32} {x5 : Int32} {x6 : Int32} {f1 : Int32}
    (k1 : (x2 ≤ x6) → (x5 ≤ (w.1 48 6)) → sx_ev (d + 1) rMo_fits 25 [.ref 48, .ref 53, .int x2, .int x3, .int (x4 + (1 : Int32)), .null, .null] [] w Q)
    (k2 : (x2 ≤ x6) → (¬ x5 ≤ (w.1 48 6)) → (¬ ((x3 >>> (x4 &&& 31)) &&& (1 : Int32)) = (1 : Int32)) → sx_ev (d + 1) rMo_fits 25 [.ref 48, .ref 53, .int x2, .int x3, .int (x4 + (1 : Int32)), .null, .null] [] w Q)
    (k3 : (x2 ≤ x6) → (¬ x5 ≤ (w.1 48 6)) → (((x3 >>> (x4 &&& 31)) &&& (1 : Int32)) = (1 : Int32)) → Q (0 : Int32) 0 w)
    (o1 : (¬ x2 ≤ x6) → vp_in x6 7)
    (m1 : (¬ x2 ≤ x6) → sx_de d rMo_sleep [.ref 48, .int x6, .int (w.1 53 x6.toNatClampNeg)] w f1 0 w)
    (k4 : (¬ x2 ≤ x6) → sx_ev (d + 1) rMo_fits 43 [.ref 48, .ref 53, .int x2, .int x3, .int x4, .int (x5 + ((f1 >>> (x4 &&& 31)) &&& (1 : Int32))), .int (x6 + (1 : Int32))] [] w Q) :
    sx_ev (d + 1) rMo_fits 43 [.ref 48, .ref 53, .int x2, .int x3, .int x4, .int x5, .int x6] [] w Q := by
  refine ev_iload (dMo_fits.at 29 rfl) rfl ?_
  refine ev_iload_n (dMo_fits.at 30 rfl) rfl ?_
  refine ev_icmp_ge (tgt := 75) (dMo_fits.at 31 rfl) rfl (fun c1 => ?_) (fun c1 => ?_)
  · refine ev_iload (dMo_fits.at 47 rfl) rfl ?_
    refine ev_aload_n (dMo_fits.at 48 rfl) rfl ?_
    refine ev_get (dMo_fits.at 49 rfl) (own := 8) rfl fkMo_59 rfl rfl ?_
    refine ev_icmp_le (tgt := 96) (dMo_fits.at 50 rfl) rfl (fun c2 => ?_) (fun c2 => ?_)
    · refine ev_iinc (dMo_fits.at 60 rfl) kI_1 rfl (by decide) rfl ?_
      refine ev_goto (tgt := 25) (dMo_fits.at 61 rfl) rfl ?_
      refine ev_kp [true, true, true, true, true, false, false] rfl ?_
      exact (k1 c1 c2)
    · refine ev_iload_n (dMo_fits.at 51 rfl) rfl ?_
      refine ev_iload (dMo_fits.at 52 rfl) rfl ?_
      refine ev_ishr (dMo_fits.at 53 rfl) ?_
      refine ev_iconst (dMo_fits.at 54 rfl) kI_1 ?_
      refine ev_iand (dMo_fits.at 55 rfl) ?_
      refine ev_iconst (dMo_fits.at 56 rfl) kI_1 ?_
      refine ev_icmp_ne (tgt := 96) (dMo_fits.at 57 rfl) rfl (fun c3 => ?_) (fun c3 => ?_)
      · refine ev_iinc (dMo_fits.at 60 rfl) kI_1 rfl (by decide) rfl ?_
        refine ev_goto (tgt := 25) (dMo_fits.at 61 rfl) rfl ?_
        refine ev_kp [true, true, true, true, true, false, false] rfl ?_
        exact (k2 c1 c2 c3)
      · refine ev_iconst (dMo_fits.at 58 rfl) kI_0 ?_
        exact ev_zret (dMo_fits.at 59 rfl) rfl (by decide) (k3 c1 c2 c3)
  · refine ev_iload (dMo_fits.at 32 rfl) rfl ?_
    refine ev_aload_n (dMo_fits.at 33 rfl) rfl ?_
    refine ev_iload (dMo_fits.at 34 rfl) rfl ?_
    refine ev_aload_n (dMo_fits.at 35 rfl) rfl ?_
    refine ev_iload (dMo_fits.at 36 rfl) rfl ?_
    refine ev_iaload (dMo_fits.at 37 rfl) rfl (o1 c1) ?_
    refine ev_cVi (dMo_fits.at 38 rfl) (As := [.int x6, .int (w.1 53 x6.toNatClampNeg)]) (own := 8) rfl ckMo_93 rfl (Or.inl rfl) rfl (Nat.le_of_ble_eq_true rfl) rfl (m1 c1) ?_
    refine ev_iload (dMo_fits.at 39 rfl) rfl ?_
    refine ev_ishr (dMo_fits.at 40 rfl) ?_
    refine ev_iconst (dMo_fits.at 41 rfl) kI_1 ?_
    refine ev_iand (dMo_fits.at 42 rfl) ?_
    refine ev_iadd (dMo_fits.at 43 rfl) ?_
    refine ev_istore (dMo_fits.at 44 rfl) (by decide) rfl ?_
    refine ev_iinc (dMo_fits.at 45 rfl) kI_1 rfl (by decide) rfl ?_
    refine ev_goto (tgt := 43) (dMo_fits.at 46 rfl) rfl ?_
    exact (k4 c1)
set_option maxHeartbeats 4000000 in
theorem bMo_fits_52_0 {d : Nat} {w : sx_W} {Q : sx_Q} {x2 : Int32} {f1 : Int32}
    (o1 : vp_in x2 7)
    (m1 : sx_de d rMo_sleep [.ref 48, .int x2, .int (w.1 52 x2.toNatClampNeg)] w f1 0 w)
    (k1 : ((f1 &&& (w.1 51 x2.toNatClampNeg)) = 0) → sx_ev (d + 1) rMo_fits 25 [.ref 48, .ref 52, .int x2, .int f1, .int (0 : Int32), .null, .null] [] w Q)
    (k2 : (¬ (f1 &&& (w.1 51 x2.toNatClampNeg)) = 0) → Q (0 : Int32) 0 w) :
    sx_ev (d + 1) rMo_fits 0 [.ref 48, .ref 52, .int x2, .null, .null, .null, .null] [] w Q := by
  refine ev_aload_n (dMo_fits.at 0 rfl) rfl ?_
  refine ev_iload_n (dMo_fits.at 1 rfl) rfl ?_
  refine ev_aload_n (dMo_fits.at 2 rfl) rfl ?_
  refine ev_iload_n (dMo_fits.at 3 rfl) rfl ?_
  refine ev_iaload (dMo_fits.at 4 rfl) rfl o1 ?_
  refine ev_cVi (dMo_fits.at 5 rfl) (As := [.int x2, .int (w.1 52 x2.toNatClampNeg)]) (own := 8) rfl ckMo_93 rfl (Or.inl rfl) rfl (Nat.le_of_ble_eq_true rfl) rfl m1 ?_
  refine ev_istore_n (dMo_fits.at 6 rfl) (by decide) rfl ?_
  refine ev_iload_n (dMo_fits.at 7 rfl) rfl ?_
  refine ev_aload_n (dMo_fits.at 8 rfl) rfl ?_
  refine ev_getr (dMo_fits.at 9 rfl) (own := 8) rfl fkMo_16 rfl rfl ?_
  refine ev_iload_n (dMo_fits.at 10 rfl) rfl ?_
  refine ev_iaload (dMo_fits.at 11 rfl) rfl o1 ?_
  refine ev_iand (dMo_fits.at 12 rfl) ?_
  refine ev_if_eq (tgt := 22) (dMo_fits.at 13 rfl) rfl (fun c1 => ?_) (fun c1 => ?_)
  · refine ev_iconst (dMo_fits.at 16 rfl) kI_0 ?_
    refine ev_istore (dMo_fits.at 17 rfl) (by decide) rfl ?_
    exact (k1 c1)
  · refine ev_iconst (dMo_fits.at 14 rfl) kI_0 ?_
    exact ev_zret (dMo_fits.at 15 rfl) rfl (by decide) (k2 c1)
set_option maxHeartbeats 4000000 in
theorem bMo_fits_52_25 {d : Nat} {w : sx_W} {Q : sx_Q} {x2 : Int32} {x3 : Int32} {x4 : Int32}
    (k1 : ((8 : Int32) ≤ x4) → sx_ev d rMo_fits 105 [.ref 48, .ref 52, .int x2, .int x3, .int (0 : Int32), .null, .null] [] w Q)
    (k2 : (¬ (8 : Int32) ≤ x4) → sx_ev d rMo_fits 43 [.ref 48, .ref 52, .int x2, .int x3, .int x4, .int ((x3 >>> (x4 &&& 31)) &&& (1 : Int32)), .int (0 : Int32)] [] w Q) :
    sx_ev d rMo_fits 25 [.ref 48, .ref 52, .int x2, .int x3, .int x4, .null, .null] [] w Q := by
  refine ev_iload (dMo_fits.at 18 rfl) rfl ?_
  refine ev_bipush (dMo_fits.at 19 rfl) kB_8 ?_
  refine ev_icmp_ge (tgt := 102) (dMo_fits.at 20 rfl) rfl (fun c1 => ?_) (fun c1 => ?_)
  · refine ev_iconst (dMo_fits.at 62 rfl) kI_0 ?_
    refine ev_istore (dMo_fits.at 63 rfl) (by decide) rfl ?_
    exact (k1 c1)
  · refine ev_iload_n (dMo_fits.at 21 rfl) rfl ?_
    refine ev_iload (dMo_fits.at 22 rfl) rfl ?_
    refine ev_ishr (dMo_fits.at 23 rfl) ?_
    refine ev_iconst (dMo_fits.at 24 rfl) kI_1 ?_
    refine ev_iand (dMo_fits.at 25 rfl) ?_
    refine ev_istore (dMo_fits.at 26 rfl) (by decide) rfl ?_
    refine ev_iconst (dMo_fits.at 27 rfl) kI_0 ?_
    refine ev_istore (dMo_fits.at 28 rfl) (by decide) rfl ?_
    exact (k2 c1)
set_option maxHeartbeats 4000000 in
theorem bMo_fits_52_105 {d : Nat} {w : sx_W} {Q : sx_Q} {x2 : Int32} {x3 : Int32} {x4 : Int32} {f1 : Int32} {f2 : Int32}
    (k1 : (x2 ≤ x4) → Q (1 : Int32) 0 w)
    (o1 : (¬ x2 ≤ x4) → vp_in x4 7)
    (k2 : (¬ x2 ≤ x4) → (¬ (w.1 49 x4.toNatClampNeg) = (2 : Int32)) → (¬ (w.1 49 x4.toNatClampNeg) = (3 : Int32)) → sx_ev (d + 1) rMo_fits 105 [.ref 48, .ref 52, .int x2, .int x3, .int (x4 + (1 : Int32)), .null, .null] [] w Q)
    (o2 : (¬ x2 ≤ x4) → (¬ (w.1 49 x4.toNatClampNeg) = (2 : Int32)) → ((w.1 49 x4.toNatClampNeg) = (3 : Int32)) → vp_in x2 7)
    (k3 : (¬ x2 ≤ x4) → (¬ (w.1 49 x4.toNatClampNeg) = (2 : Int32)) → ((w.1 49 x4.toNatClampNeg) = (3 : Int32)) → (¬ (w.1 49 x2.toNatClampNeg) = (2 : Int32)) → sx_ev (d + 1) rMo_fits 105 [.ref 48, .ref 52, .int x2, .int x3, .int (x4 + (1 : Int32)), .null, .null] [] w Q)
    (m1 : (¬ x2 ≤ x4) → (¬ (w.1 49 x4.toNatClampNeg) = (2 : Int32)) → ((w.1 49 x4.toNatClampNeg) = (3 : Int32)) → ((w.1 49 x2.toNatClampNeg) = (2 : Int32)) → sx_de d rMo_sleep [.ref 48, .int x4, .int (w.1 52 x4.toNatClampNeg)] w f1 0 w)
    (k4 : (¬ x2 ≤ x4) → (¬ (w.1 49 x4.toNatClampNeg) = (2 : Int32)) → ((w.1 49 x4.toNatClampNeg) = (3 : Int32)) → ((w.1 49 x2.toNatClampNeg) = (2 : Int32)) → ((f1 &&& x3) = 0) → sx_ev (d + 1) rMo_fits 105 [.ref 48, .ref 52, .int x2, .int x3, .int (x4 + (1 : Int32)), .null, .null] [] w Q)
    (k5 : (¬ x2 ≤ x4) → (¬ (w.1 49 x4.toNatClampNeg) = (2 : Int32)) → ((w.1 49 x4.toNatClampNeg) = (3 : Int32)) → ((w.1 49 x2.toNatClampNeg) = (2 : Int32)) → (¬ (f1 &&& x3) = 0) → Q (0 : Int32) 0 w)
    (o3 : (¬ x2 ≤ x4) → ((w.1 49 x4.toNatClampNeg) = (2 : Int32)) → vp_in x2 7)
    (m2 : (¬ x2 ≤ x4) → ((w.1 49 x4.toNatClampNeg) = (2 : Int32)) → ((w.1 49 x2.toNatClampNeg) = (3 : Int32)) → sx_de d rMo_sleep [.ref 48, .int x4, .int (w.1 52 x4.toNatClampNeg)] w f2 0 w)
    (k6 : (¬ x2 ≤ x4) → ((w.1 49 x4.toNatClampNeg) = (2 : Int32)) → ((w.1 49 x2.toNatClampNeg) = (3 : Int32)) → ((f2 &&& x3) = 0) → sx_ev (d + 1) rMo_fits 105 [.ref 48, .ref 52, .int x2, .int x3, .int (x4 + (1 : Int32)), .null, .null] [] w Q)
    (k7 : (¬ x2 ≤ x4) → ((w.1 49 x4.toNatClampNeg) = (2 : Int32)) → ((w.1 49 x2.toNatClampNeg) = (3 : Int32)) → (¬ (f2 &&& x3) = 0) → Q (0 : Int32) 0 w)
    (k8 : (¬ x2 ≤ x4) → ((w.1 49 x4.toNatClampNeg) = (2 : Int32)) → (¬ (w.1 49 x2.toNatClampNeg) = (3 : Int32)) → sx_ev (d + 1) rMo_fits 105 [.ref 48, .ref 52, .int x2, .int x3, .int (x4 + (1 : Int32)), .null, .null] [] w Q) :
    sx_ev (d + 1) rMo_fits 105 [.ref 48, .ref 52, .int x2, .int x3, .int x4, .null, .null] [] w Q := by
  refine ev_iload (dMo_fits.at 64 rfl) rfl ?_
  refine ev_iload_n (dMo_fits.at 65 rfl) rfl ?_
  refine ev_icmp_ge (tgt := 188) (dMo_fits.at 66 rfl) rfl (fun c1 => ?_) (fun c1 => ?_)
  · refine ev_iconst (dMo_fits.at 110 rfl) kI_1 ?_
    exact ev_zret (dMo_fits.at 111 rfl) rfl (by decide) (k1 c1)
  · refine ev_aload_n (dMo_fits.at 67 rfl) rfl ?_
    refine ev_getr (dMo_fits.at 68 rfl) (own := 8) rfl fkMo_7 rfl rfl ?_
    refine ev_iload (dMo_fits.at 69 rfl) rfl ?_
    refine ev_iaload (dMo_fits.at 70 rfl) rfl (o1 c1) ?_
    refine ev_iconst (dMo_fits.at 71 rfl) kI_2 ?_
    refine ev_icmp_ne (tgt := 132) (dMo_fits.at 72 rfl) rfl (fun c2 => ?_) (fun c2 => ?_)
    · refine ev_aload_n (dMo_fits.at 79 rfl) rfl ?_
      refine ev_getr (dMo_fits.at 80 rfl) (own := 8) rfl fkMo_7 rfl rfl ?_
      refine ev_iload (dMo_fits.at 81 rfl) rfl ?_
      refine ev_iaload (dMo_fits.at 82 rfl) rfl (o1 c1) ?_
      refine ev_iconst (dMo_fits.at 83 rfl) kI_3 ?_
      refine ev_icmp_ne (tgt := 157) (dMo_fits.at 84 rfl) rfl (fun c3 => ?_) (fun c3 => ?_)
      · refine ev_iconst (dMo_fits.at 93 rfl) kI_0 ?_
        refine ev_istore (dMo_fits.at 94 rfl) (by decide) rfl ?_
        refine ev_iload (dMo_fits.at 95 rfl) rfl ?_
        refine ev_if_eq (tgt := 182) (dMo_fits.at 96 rfl) rfl (fun _ => ?_) (fun h => absurd h (by decide))
        refine ev_iinc (dMo_fits.at 108 rfl) kI_1 rfl (by decide) rfl ?_
        refine ev_goto (tgt := 105) (dMo_fits.at 109 rfl) rfl ?_
        refine ev_kp [true, true, true, true, true, false, false] rfl ?_
        exact (k2 c1 c2 c3)
      · refine ev_aload_n (dMo_fits.at 85 rfl) rfl ?_
        refine ev_getr (dMo_fits.at 86 rfl) (own := 8) rfl fkMo_7 rfl rfl ?_
        refine ev_iload_n (dMo_fits.at 87 rfl) rfl ?_
        refine ev_iaload (dMo_fits.at 88 rfl) rfl (o2 c1 c2 c3) ?_
        refine ev_iconst (dMo_fits.at 89 rfl) kI_2 ?_
        refine ev_icmp_ne (tgt := 157) (dMo_fits.at 90 rfl) rfl (fun c4 => ?_) (fun c4 => ?_)
        · refine ev_iconst (dMo_fits.at 93 rfl) kI_0 ?_
          refine ev_istore (dMo_fits.at 94 rfl) (by decide) rfl ?_
          refine ev_iload (dMo_fits.at 95 rfl) rfl ?_
          refine ev_if_eq (tgt := 182) (dMo_fits.at 96 rfl) rfl (fun _ => ?_) (fun h => absurd h (by decide))
          refine ev_iinc (dMo_fits.at 108 rfl) kI_1 rfl (by decide) rfl ?_
          refine ev_goto (tgt := 105) (dMo_fits.at 109 rfl) rfl ?_
          refine ev_kp [true, true, true, true, true, false, false] rfl ?_
          exact (k3 c1 c2 c3 c4)
        · refine ev_iconst (dMo_fits.at 91 rfl) kI_1 ?_
          refine ev_goto (tgt := 158) (dMo_fits.at 92 rfl) rfl ?_
          refine ev_istore (dMo_fits.at 94 rfl) (by decide) rfl ?_
          refine ev_iload (dMo_fits.at 95 rfl) rfl ?_
          refine ev_if_eq (tgt := 182) (dMo_fits.at 96 rfl) rfl (fun h => absurd h (by decide)) (fun _ => ?_)
          refine ev_aload_n (dMo_fits.at 97 rfl) rfl ?_
          refine ev_iload (dMo_fits.at 98 rfl) rfl ?_
          refine ev_aload_n (dMo_fits.at 99 rfl) rfl ?_
          refine ev_iload (dMo_fits.at 100 rfl) rfl ?_
          refine ev_iaload (dMo_fits.at 101 rfl) rfl (o1 c1) ?_
          refine ev_cVi (dMo_fits.at 102 rfl) (As := [.int x4, .int (w.1 52 x4.toNatClampNeg)]) (own := 8) rfl ckMo_93 rfl (Or.inl rfl) rfl (Nat.le_of_ble_eq_true rfl) rfl (m1 c1 c2 c3 c4) ?_
          refine ev_iload_n (dMo_fits.at 103 rfl) rfl ?_
          refine ev_iand (dMo_fits.at 104 rfl) ?_
          refine ev_if_eq (tgt := 182) (dMo_fits.at 105 rfl) rfl (fun c5 => ?_) (fun c5 => ?_)
          · refine ev_iinc (dMo_fits.at 108 rfl) kI_1 rfl (by decide) rfl ?_
            refine ev_goto (tgt := 105) (dMo_fits.at 109 rfl) rfl ?_
            refine ev_kp [true, true, true, true, true, false, false] rfl ?_
            exact (k4 c1 c2 c3 c4 c5)
          · refine ev_iconst (dMo_fits.at 106 rfl) kI_0 ?_
            exact ev_zret (dMo_fits.at 107 rfl) rfl (by decide) (k5 c1 c2 c3 c4 c5)
    · refine ev_aload_n (dMo_fits.at 73 rfl) rfl ?_
      refine ev_getr (dMo_fits.at 74 rfl) (own := 8) rfl fkMo_7 rfl rfl ?_
      refine ev_iload_n (dMo_fits.at 75 rfl) rfl ?_
      refine ev_iaload (dMo_fits.at 76 rfl) rfl (o3 c1 c2) ?_
      refine ev_iconst (dMo_fits.at 77 rfl) kI_3 ?_
      refine ev_icmp_eq (tgt := 153) (dMo_fits.at 78 rfl) rfl (fun c6 => ?_) (fun c6 => ?_)
      · refine ev_iconst (dMo_fits.at 91 rfl) kI_1 ?_
        refine ev_goto (tgt := 158) (dMo_fits.at 92 rfl) rfl ?_
        refine ev_istore (dMo_fits.at 94 rfl) (by decide) rfl ?_
        refine ev_iload (dMo_fits.at 95 rfl) rfl ?_
        refine ev_if_eq (tgt := 182) (dMo_fits.at 96 rfl) rfl (fun h => absurd h (by decide)) (fun _ => ?_)
        refine ev_aload_n (dMo_fits.at 97 rfl) rfl ?_
        refine ev_iload (dMo_fits.at 98 rfl) rfl ?_
        refine ev_aload_n (dMo_fits.at 99 rfl) rfl ?_
        refine ev_iload (dMo_fits.at 100 rfl) rfl ?_
        refine ev_iaload (dMo_fits.at 101 rfl) rfl (o1 c1) ?_
        refine ev_cVi (dMo_fits.at 102 rfl) (As := [.int x4, .int (w.1 52 x4.toNatClampNeg)]) (own := 8) rfl ckMo_93 rfl (Or.inl rfl) rfl (Nat.le_of_ble_eq_true rfl) rfl (m2 c1 c2 c6) ?_
        refine ev_iload_n (dMo_fits.at 103 rfl) rfl ?_
        refine ev_iand (dMo_fits.at 104 rfl) ?_
        refine ev_if_eq (tgt := 182) (dMo_fits.at 105 rfl) rfl (fun c7 => ?_) (fun c7 => ?_)
        · refine ev_iinc (dMo_fits.at 108 rfl) kI_1 rfl (by decide) rfl ?_
          refine ev_goto (tgt := 105) (dMo_fits.at 109 rfl) rfl ?_
          refine ev_kp [true, true, true, true, true, false, false] rfl ?_
          exact (k6 c1 c2 c6 c7)
        · refine ev_iconst (dMo_fits.at 106 rfl) kI_0 ?_
          exact ev_zret (dMo_fits.at 107 rfl) rfl (by decide) (k7 c1 c2 c6 c7)
      · refine ev_aload_n (dMo_fits.at 79 rfl) rfl ?_
        refine ev_getr (dMo_fits.at 80 rfl) (own := 8) rfl fkMo_7 rfl rfl ?_
        refine ev_iload (dMo_fits.at 81 rfl) rfl ?_
        refine ev_iaload (dMo_fits.at 82 rfl) rfl (o1 c1) ?_
        refine ev_iconst (dMo_fits.at 83 rfl) kI_3 ?_
        refine ev_icmp_ne (tgt := 157) (dMo_fits.at 84 rfl) rfl (fun _ => ?_) (fun h => absurd (c2.symm.trans h) (by decide))
        refine ev_iconst (dMo_fits.at 93 rfl) kI_0 ?_
        refine ev_istore (dMo_fits.at 94 rfl) (by decide) rfl ?_
        refine ev_iload (dMo_fits.at 95 rfl) rfl ?_
        refine ev_if_eq (tgt := 182) (dMo_fits.at 96 rfl) rfl (fun _ => ?_) (fun h => absurd h (by decide))
        refine ev_iinc (dMo_fits.at 108 rfl) kI_1 rfl (by decide) rfl ?_
        refine ev_goto (tgt := 105) (dMo_fits.at 109 rfl) rfl ?_
        refine ev_kp [true, true, true, true, true, false, false] rfl ?_
        exact (k8 c1 c2 c6)
set_option maxHeartbeats 4000000 in
theorem bMo_fits_52_43 {d : Nat} {w : sx_W} {Q : sx_Q} {x2 : Int32} {x3 : Int32} {x4 : Int32} {x5 : Int32} {x6 : Int32} {f1 : Int32}
    (k1 : (x2 ≤ x6) → (x5 ≤ (w.1 48 6)) → sx_ev (d + 1) rMo_fits 25 [.ref 48, .ref 52, .int x2, .int x3, .int (x4 + (1 : Int32)), .null, .null] [] w Q)
    (k2 : (x2 ≤ x6) → (¬ x5 ≤ (w.1 48 6)) → (¬ ((x3 >>> (x4 &&& 31)) &&& (1 : Int32)) = (1 : Int32)) → sx_ev (d + 1) rMo_fits 25 [.ref 48, .ref 52, .int x2, .int x3, .int (x4 + (1 : Int32)), .null, .null] [] w Q)
    (k3 : (x2 ≤ x6) → (¬ x5 ≤ (w.1 48 6)) → (((x3 >>> (x4 &&& 31)) &&& (1 : Int32)) = (1 : Int32)) → Q (0 : Int32) 0 w)
    (o1 : (¬ x2 ≤ x6) → vp_in x6 7)
    (m1 : (¬ x2 ≤ x6) → sx_de d rMo_sleep [.ref 48, .int x6, .int (w.1 52 x6.toNatClampNeg)] w f1 0 w)
    (k4 : (¬ x2 ≤ x6) → sx_ev (d + 1) rMo_fits 43 [.ref 48, .ref 52, .int x2, .int x3, .int x4, .int (x5 + ((f1 >>> (x4 &&& 31)) &&& (1 : Int32))), .int (x6 + (1 : Int32))] [] w Q) :
    sx_ev (d + 1) rMo_fits 43 [.ref 48, .ref 52, .int x2, .int x3, .int x4, .int x5, .int x6] [] w Q := by
  refine ev_iload (dMo_fits.at 29 rfl) rfl ?_
  refine ev_iload_n (dMo_fits.at 30 rfl) rfl ?_
  refine ev_icmp_ge (tgt := 75) (dMo_fits.at 31 rfl) rfl (fun c1 => ?_) (fun c1 => ?_)
  · refine ev_iload (dMo_fits.at 47 rfl) rfl ?_
    refine ev_aload_n (dMo_fits.at 48 rfl) rfl ?_
    refine ev_get (dMo_fits.at 49 rfl) (own := 8) rfl fkMo_59 rfl rfl ?_
    refine ev_icmp_le (tgt := 96) (dMo_fits.at 50 rfl) rfl (fun c2 => ?_) (fun c2 => ?_)
    · refine ev_iinc (dMo_fits.at 60 rfl) kI_1 rfl (by decide) rfl ?_
      refine ev_goto (tgt := 25) (dMo_fits.at 61 rfl) rfl ?_
      refine ev_kp [true, true, true, true, true, false, false] rfl ?_
      exact (k1 c1 c2)
    · refine ev_iload_n (dMo_fits.at 51 rfl) rfl ?_
      refine ev_iload (dMo_fits.at 52 rfl) rfl ?_
      refine ev_ishr (dMo_fits.at 53 rfl) ?_
      refine ev_iconst (dMo_fits.at 54 rfl) kI_1 ?_
      refine ev_iand (dMo_fits.at 55 rfl) ?_
      refine ev_iconst (dMo_fits.at 56 rfl) kI_1 ?_
      refine ev_icmp_ne (tgt := 96) (dMo_fits.at 57 rfl) rfl (fun c3 => ?_) (fun c3 => ?_)
      · refine ev_iinc (dMo_fits.at 60 rfl) kI_1 rfl (by decide) rfl ?_
        refine ev_goto (tgt := 25) (dMo_fits.at 61 rfl) rfl ?_
        refine ev_kp [true, true, true, true, true, false, false] rfl ?_
        exact (k2 c1 c2 c3)
      · refine ev_iconst (dMo_fits.at 58 rfl) kI_0 ?_
        exact ev_zret (dMo_fits.at 59 rfl) rfl (by decide) (k3 c1 c2 c3)
  · refine ev_iload (dMo_fits.at 32 rfl) rfl ?_
    refine ev_aload_n (dMo_fits.at 33 rfl) rfl ?_
    refine ev_iload (dMo_fits.at 34 rfl) rfl ?_
    refine ev_aload_n (dMo_fits.at 35 rfl) rfl ?_
    refine ev_iload (dMo_fits.at 36 rfl) rfl ?_
    refine ev_iaload (dMo_fits.at 37 rfl) rfl (o1 c1) ?_
    refine ev_cVi (dMo_fits.at 38 rfl) (As := [.int x6, .int (w.1 52 x6.toNatClampNeg)]) (own := 8) rfl ckMo_93 rfl (Or.inl rfl) rfl (Nat.le_of_ble_eq_true rfl) rfl (m1 c1) ?_
    refine ev_iload (dMo_fits.at 39 rfl) rfl ?_
    refine ev_ishr (dMo_fits.at 40 rfl) ?_
    refine ev_iconst (dMo_fits.at 41 rfl) kI_1 ?_
    refine ev_iand (dMo_fits.at 42 rfl) ?_
    refine ev_iadd (dMo_fits.at 43 rfl) ?_
    refine ev_istore (dMo_fits.at 44 rfl) (by decide) rfl ?_
    refine ev_iinc (dMo_fits.at 45 rfl) kI_1 rfl (by decide) rfl ?_
    refine ev_goto (tgt := 43) (dMo_fits.at 46 rfl) rfl ?_
    exact (k4 c1)
set_option maxHeartbeats 4000000 in
theorem bMo_wrongBy_52_0 {d : Nat} {w : sx_W} {Q : sx_Q}
    (k1 : sx_ev d rMo_wrongBy 2 [.ref 48, .ref 52, .int (0 : Int32)] [] w Q) :
    sx_ev d rMo_wrongBy 0 [.ref 48, .ref 52, .null] [] w Q := by
  refine ev_iconst (dMo_wrongBy.at 0 rfl) kI_0 ?_
  refine ev_istore_n (dMo_wrongBy.at 1 rfl) (by decide) rfl ?_
  exact k1
set_option maxHeartbeats 4000000 in
theorem bMo_wrongBy_52_2 {d : Nat} {w : sx_W} {Q : sx_Q} {x2 : Int32} {f1 : Int32}
    (k1 : ((w.1 48 0) ≤ x2) → Q (-4 : Int32) 0 w)
    (m1 : (¬ (w.1 48 0) ≤ x2) → sx_de d rMo_fits [.ref 48, .ref 52, .int x2] w f1 0 w)
    (k2 : (¬ (w.1 48 0) ≤ x2) → (¬ f1 = 0) → sx_ev (d + 1) rMo_wrongBy 2 [.ref 48, .ref 52, .int (x2 + (1 : Int32))] [] w Q)
    (k3 : (¬ (w.1 48 0) ≤ x2) → (f1 = 0) → Q x2 0 w) :
    sx_ev (d + 1) rMo_wrongBy 2 [.ref 48, .ref 52, .int x2] [] w Q := by
  refine ev_iload_n (dMo_wrongBy.at 2 rfl) rfl ?_
  refine ev_aload_n (dMo_wrongBy.at 3 rfl) rfl ?_
  refine ev_get (dMo_wrongBy.at 4 rfl) (own := 8) rfl fkMo_66 rfl rfl ?_
  refine ev_icmp_ge (tgt := 27) (dMo_wrongBy.at 5 rfl) rfl (fun c1 => ?_) (fun c1 => ?_)
  · refine ev_bipush (dMo_wrongBy.at 15 rfl) kB_m4 ?_
    exact ev_iret (dMo_wrongBy.at 16 rfl) rfl (k1 c1)
  · refine ev_aload_n (dMo_wrongBy.at 6 rfl) rfl ?_
    refine ev_aload_n (dMo_wrongBy.at 7 rfl) rfl ?_
    refine ev_iload_n (dMo_wrongBy.at 8 rfl) rfl ?_
    refine ev_cVi (dMo_wrongBy.at 9 rfl) (As := [.ref 52, .int x2]) (own := 8) rfl ckMo_111 rfl (Or.inr rfl) rfl (Nat.le_of_ble_eq_true rfl) rfl (m1 c1) ?_
    refine ev_if_ne (tgt := 21) (dMo_wrongBy.at 10 rfl) rfl (fun c2 => ?_) (fun c2 => ?_)
    · refine ev_iinc (dMo_wrongBy.at 13 rfl) kI_1 rfl (by decide) rfl ?_
      refine ev_goto (tgt := 2) (dMo_wrongBy.at 14 rfl) rfl ?_
      exact (k2 c1 c2)
    · refine ev_iload_n (dMo_wrongBy.at 11 rfl) rfl ?_
      exact ev_iret (dMo_wrongBy.at 12 rfl) rfl (k3 c1 c2)
set_option maxHeartbeats 4000000 in
theorem bMo_isGood_0 {d : Nat} {w : sx_W} {Q : sx_Q} {f1 : Int32}
    (k1 : ((w.1 48 5) = 0) → Q (0 : Int32) 0 w)
    (m1 : (¬ (w.1 48 5) = 0) → sx_de d rMo_wrongBy [.ref 48, .ref 52] w f1 0 w)
    (k2 : (¬ (w.1 48 5) = 0) → (¬ f1 = (-4 : Int32)) → Q (0 : Int32) 0 w)
    (k3 : (¬ (w.1 48 5) = 0) → (f1 = (-4 : Int32)) → Q (1 : Int32) 0 w) :
    sx_ev (d + 1) rMo_isGood 0 [.ref 48] [] w Q := by
  refine ev_aload_n (dMo_isGood.at 0 rfl) rfl ?_
  refine ev_get (dMo_isGood.at 1 rfl) (own := 8) rfl fkMo_75 rfl rfl ?_
  refine ev_if_eq (tgt := 24) (dMo_isGood.at 2 rfl) rfl (fun c1 => ?_) (fun c1 => ?_)
  · refine ev_iconst (dMo_isGood.at 11 rfl) kI_0 ?_
    exact ev_zret (dMo_isGood.at 12 rfl) rfl (by decide) (k1 c1)
  · refine ev_aload_n (dMo_isGood.at 3 rfl) rfl ?_
    refine ev_aload_n (dMo_isGood.at 4 rfl) rfl ?_
    refine ev_getr (dMo_isGood.at 5 rfl) (own := 8) rfl fkMo_19 rfl rfl ?_
    refine ev_cVi (dMo_isGood.at 6 rfl) (As := [.ref 52]) (own := 8) rfl ckMo_115 rfl (Or.inl rfl) rfl (Nat.le_of_ble_eq_true rfl) rfl (m1 c1) ?_
    refine ev_bipush (dMo_isGood.at 7 rfl) kB_m4 ?_
    refine ev_icmp_ne (tgt := 24) (dMo_isGood.at 8 rfl) rfl (fun c2 => ?_) (fun c2 => ?_)
    · refine ev_iconst (dMo_isGood.at 11 rfl) kI_0 ?_
      exact ev_zret (dMo_isGood.at 12 rfl) rfl (by decide) (k2 c1 c2)
    · refine ev_iconst (dMo_isGood.at 9 rfl) kI_1 ?_
      refine ev_goto (tgt := 25) (dMo_isGood.at 10 rfl) rfl ?_
      exact ev_zret (dMo_isGood.at 12 rfl) rfl (by decide) (k3 c1 c2)
set_option maxHeartbeats 4000000 in
theorem bMo_count_0 {d : Nat} {w : sx_W} {Q : sx_Q} {x1 : Int32}
    (k1 : sx_ev d rMo_count 4 [.ref 48, .int x1, .int (0 : Int32), .int (0 : Int32)] [] w Q) :
    sx_ev d rMo_count 0 [.ref 48, .int x1, .null, .null] [] w Q := by
  refine ev_iconst (dMo_count.at 0 rfl) kI_0 ?_
  refine ev_istore_n (dMo_count.at 1 rfl) (by decide) rfl ?_
  refine ev_iconst (dMo_count.at 2 rfl) kI_0 ?_
  refine ev_istore_n (dMo_count.at 3 rfl) (by decide) rfl ?_
  exact k1
set_option maxHeartbeats 4000000 in
theorem bMo_count_4 {d : Nat} {w : sx_W} {Q : sx_Q} {x1 : Int32} {x2 : Int32} {x3 : Int32} {f1 : Int32}
    (k1 : ((w.1 48 0) ≤ x3) → (x1.toInt = 0 + 0) → Q (w.1 48 0) 0 w)
    (k2 : ((w.1 48 0) ≤ x3) → (x1.toInt = 0 + 1) → Q (w.1 48 6) 0 w)
    (k3 : ((w.1 48 0) ≤ x3) → (x1.toInt = 0 + 2) → Q x2 0 w)
    (k4 : ((w.1 48 0) ≤ x3) → (x1.toInt = 0 + 3) → ((w.1 48 5) = 0) → Q (0 : Int32) 0 w)
    (k5 : ((w.1 48 0) ≤ x3) → (x1.toInt = 0 + 3) → (¬ (w.1 48 5) = 0) → Q (1 : Int32) 0 w)
    (m1 : ((w.1 48 0) ≤ x3) → (x1.toInt = 0 + 4) → sx_de d rMo_isGood [.ref 48] w f1 0 w)
    (k6 : ((w.1 48 0) ≤ x3) → (x1.toInt = 0 + 4) → (f1 = 0) → Q (0 : Int32) 0 w)
    (k7 : ((w.1 48 0) ≤ x3) → (x1.toInt = 0 + 4) → (¬ f1 = 0) → Q (1 : Int32) 0 w)
    (k8 : ((w.1 48 0) ≤ x3) → (x1.toInt < 0 ∨ 4 < x1.toInt) → Q (-1 : Int32) 0 w)
    (o1 : (¬ (w.1 48 0) ≤ x3) → vp_in x3 7)
    (k9 : (¬ (w.1 48 0) ≤ x3) → sx_ev (d + 1) rMo_count 4 [.ref 48, .int x1, .int (x2 + (w.1 50 x3.toNatClampNeg)), .int (x3 + (1 : Int32))] [] w Q) :
    sx_ev (d + 1) rMo_count 4 [.ref 48, .int x1, .int x2, .int x3] [] w Q := by
  refine ev_iload_n (dMo_count.at 4 rfl) rfl ?_
  refine ev_aload_n (dMo_count.at 5 rfl) rfl ?_
  refine ev_get (dMo_count.at 6 rfl) (own := 8) rfl fkMo_66 rfl rfl ?_
  refine ev_icmp_ge (tgt := 27) (dMo_count.at 7 rfl) rfl (fun c1 => ?_) (fun c1 => ?_)
  · refine ev_iload_n (dMo_count.at 17 rfl) rfl ?_
    refine ev_tsw (td := 102) (dMo_count.at 18 rfl) rfl rfl (fun j off ho c2 => ?_) (fun c2 => ?_)
    · match j, ho, c2 with
      | 0, ho, c2 =>
        obtain rfl : (36 : Int) = off := Option.some.inj ho
        refine ⟨64, rfl, ?_⟩
        refine ev_aload_n (dMo_count.at 19 rfl) rfl ?_
        refine ev_get (dMo_count.at 20 rfl) (own := 8) rfl fkMo_66 rfl rfl ?_
        exact ev_iret (dMo_count.at 21 rfl) rfl (k1 c1 c2)
      | 1, ho, c2 =>
        obtain rfl : (41 : Int) = off := Option.some.inj ho
        refine ⟨69, rfl, ?_⟩
        refine ev_aload_n (dMo_count.at 22 rfl) rfl ?_
        refine ev_get (dMo_count.at 23 rfl) (own := 8) rfl fkMo_59 rfl rfl ?_
        exact ev_iret (dMo_count.at 24 rfl) rfl (k2 c1 c2)
      | 2, ho, c2 =>
        obtain rfl : (46 : Int) = off := Option.some.inj ho
        refine ⟨74, rfl, ?_⟩
        refine ev_iload_n (dMo_count.at 25 rfl) rfl ?_
        exact ev_iret (dMo_count.at 26 rfl) rfl (k3 c1 c2)
      | 3, ho, c2 =>
        obtain rfl : (48 : Int) = off := Option.some.inj ho
        refine ⟨76, rfl, ?_⟩
        refine ev_aload_n (dMo_count.at 27 rfl) rfl ?_
        refine ev_get (dMo_count.at 28 rfl) (own := 8) rfl fkMo_75 rfl rfl ?_
        refine ev_if_eq (tgt := 87) (dMo_count.at 29 rfl) rfl (fun c3 => ?_) (fun c3 => ?_)
        · refine ev_iconst (dMo_count.at 32 rfl) kI_0 ?_
          exact ev_iret (dMo_count.at 33 rfl) rfl (k4 c1 c2 c3)
        · refine ev_iconst (dMo_count.at 30 rfl) kI_1 ?_
          refine ev_goto (tgt := 88) (dMo_count.at 31 rfl) rfl ?_
          exact ev_iret (dMo_count.at 33 rfl) rfl (k5 c1 c2 c3)
      | 4, ho, c2 =>
        obtain rfl : (61 : Int) = off := Option.some.inj ho
        refine ⟨89, rfl, ?_⟩
        refine ev_aload_n (dMo_count.at 34 rfl) rfl ?_
        refine ev_cVi (dMo_count.at 35 rfl) (As := []) (own := 8) rfl ckMo_119 rfl (Or.inr rfl) rfl (Nat.le_of_ble_eq_true rfl) rfl (m1 c1 c2) ?_
        refine ev_if_eq (tgt := 100) (dMo_count.at 36 rfl) rfl (fun c4 => ?_) (fun c4 => ?_)
        · refine ev_iconst (dMo_count.at 39 rfl) kI_0 ?_
          exact ev_iret (dMo_count.at 40 rfl) rfl (k6 c1 c2 c4)
        · refine ev_iconst (dMo_count.at 37 rfl) kI_1 ?_
          refine ev_goto (tgt := 101) (dMo_count.at 38 rfl) rfl ?_
          exact ev_iret (dMo_count.at 40 rfl) rfl (k7 c1 c2 c4)
      | j + 5, ho, _ => cases ho
    · refine ev_iconst (dMo_count.at 41 rfl) kI_m1 ?_
      exact ev_iret (dMo_count.at 42 rfl) rfl (k8 c1 c2)
  · refine ev_iload_n (dMo_count.at 8 rfl) rfl ?_
    refine ev_aload_n (dMo_count.at 9 rfl) rfl ?_
    refine ev_getr (dMo_count.at 10 rfl) (own := 8) rfl fkMo_13 rfl rfl ?_
    refine ev_iload_n (dMo_count.at 11 rfl) rfl ?_
    refine ev_iaload (dMo_count.at 12 rfl) rfl (o1 c1) ?_
    refine ev_iadd (dMo_count.at 13 rfl) ?_
    refine ev_istore_n (dMo_count.at 14 rfl) (by decide) rfl ?_
    refine ev_iinc (dMo_count.at 15 rfl) kI_1 rfl (by decide) rfl ?_
    refine ev_goto (tgt := 4) (dMo_count.at 16 rfl) rfl ?_
    exact (k9 c1)
set_option maxHeartbeats 4000000 in
theorem bMo_goes_0 {d : Nat} {w : sx_W} {Q : sx_Q} {x1 : Int32} {x2 : Int32}
    (k1 : sx_ev d rMo_goes 8 [.ref 48, .int x1, .int x2, .int (0 : Int32), .int (0 : Int32), .int (0 : Int32)] [] w Q) :
    sx_ev d rMo_goes 0 [.ref 48, .int x1, .int x2, .null, .null, .null] [] w Q := by
  refine ev_iconst (dMo_goes.at 0 rfl) kI_0 ?_
  refine ev_istore_n (dMo_goes.at 1 rfl) (by decide) rfl ?_
  refine ev_iconst (dMo_goes.at 2 rfl) kI_0 ?_
  refine ev_istore (dMo_goes.at 3 rfl) (by decide) rfl ?_
  refine ev_iconst (dMo_goes.at 4 rfl) kI_0 ?_
  refine ev_istore (dMo_goes.at 5 rfl) (by decide) rfl ?_
  exact k1
set_option maxHeartbeats 4000000 in
theorem bMo_goes_8 {d : Nat} {w : sx_W} {Q : sx_Q} {x1 : Int32} {x2 : Int32} {x3 : Int32} {x4 : Int32} {x5 : Int32}
    (k1 : ((7 : Int32) ≤ x5) → sx_ev d rMo_goes 29 [.ref 48, .int x1, .int x2, .int x3, .int x4, .null] [] w Q)
    (o1 : (¬ (7 : Int32) ≤ x5) → vp_in x5 7)
    (k2 : (¬ (7 : Int32) ≤ x5) → sx_ev d rMo_goes 8 [.ref 48, .int x1, .int x2, .int x3, .int x4, .int (x5 + (1 : Int32))] [] ((sx_u w.1 53 x5.toNatClampNeg (-1 : Int32)), w.2) Q) :
    sx_ev d rMo_goes 8 [.ref 48, .int x1, .int x2, .int x3, .int x4, .int x5] [] w Q := by
  refine ev_iload (dMo_goes.at 6 rfl) rfl ?_
  refine ev_bipush (dMo_goes.at 7 rfl) kB_7 ?_
  refine ev_icmp_ge (tgt := 29) (dMo_goes.at 8 rfl) rfl (fun c1 => ?_) (fun c1 => ?_)
  · refine ev_kp [true, true, true, true, true, false] rfl ?_
    exact (k1 c1)
  · refine ev_aload_n (dMo_goes.at 9 rfl) rfl ?_
    refine ev_getr (dMo_goes.at 10 rfl) (own := 8) rfl fkMo_22 rfl rfl ?_
    refine ev_iload (dMo_goes.at 11 rfl) rfl ?_
    refine ev_iconst (dMo_goes.at 12 rfl) kI_m1 ?_
    refine ev_iastore (dMo_goes.at 13 rfl) rfl (o1 c1) ?_
    refine ev_iinc (dMo_goes.at 14 rfl) kI_1 rfl (by decide) rfl ?_
    refine ev_goto (tgt := 8) (dMo_goes.at 15 rfl) rfl ?_
    exact (k2 c1)
set_option maxHeartbeats 4000000 in
theorem bMo_goes_29 {d : Nat} {w : sx_W} {Q : sx_Q} {x1 : Int32} {x2 : Int32} {x3 : Int32} {x4 : Int32} {f1 : Int32} {f2 : Int32}
    (k1 : (x4 < 0) → Q x3 0 w)
    (o1 : (¬ x4 < 0) → (¬ x4 = (w.1 48 0)) → vp_in x4 7)
    (m1 : (¬ x4 < 0) → (¬ x4 = (w.1 48 0)) → (¬ ((upd (w.1 53) x4.toNatClampNeg ((w.1 53 x4.toNatClampNeg) + (1 : Int32))) x4.toNatClampNeg) = (8 : Int32)) → sx_de d rMo_changed [.ref 48, .int x4] ((sx_u w.1 53 x4.toNatClampNeg ((w.1 53 x4.toNatClampNeg) + (1 : Int32))), w.2) f1 0 ((sx_u w.1 53 x4.toNatClampNeg ((w.1 53 x4.toNatClampNeg) + (1 : Int32))), w.2))
    (k2 : (¬ x4 < 0) → (¬ x4 = (w.1 48 0)) → (¬ ((upd (w.1 53) x4.toNatClampNeg ((w.1 53 x4.toNatClampNeg) + (1 : Int32))) x4.toNatClampNeg) = (8 : Int32)) → (x2 < f1) → sx_ev (d + 1) rMo_goes 29 [.ref 48, .int x1, .int x2, .int x3, .int x4, .null] [] ((sx_u w.1 53 x4.toNatClampNeg ((w.1 53 x4.toNatClampNeg) + (1 : Int32))), w.2) Q)
    (m2 : (¬ x4 < 0) → (¬ x4 = (w.1 48 0)) → (¬ ((upd (w.1 53) x4.toNatClampNeg ((w.1 53 x4.toNatClampNeg) + (1 : Int32))) x4.toNatClampNeg) = (8 : Int32)) → (¬ x2 < f1) → sx_de d rMo_fits [.ref 48, .ref 53, .int x4] ((sx_u w.1 53 x4.toNatClampNeg ((w.1 53 x4.toNatClampNeg) + (1 : Int32))), w.2) f2 0 ((sx_u w.1 53 x4.toNatClampNeg ((w.1 53 x4.toNatClampNeg) + (1 : Int32))), w.2))
    (k3 : (¬ x4 < 0) → (¬ x4 = (w.1 48 0)) → (¬ ((upd (w.1 53) x4.toNatClampNeg ((w.1 53 x4.toNatClampNeg) + (1 : Int32))) x4.toNatClampNeg) = (8 : Int32)) → (¬ x2 < f1) → (f2 = 0) → sx_ev (d + 1) rMo_goes 29 [.ref 48, .int x1, .int x2, .int x3, .int x4, .null] [] ((sx_u w.1 53 x4.toNatClampNeg ((w.1 53 x4.toNatClampNeg) + (1 : Int32))), w.2) Q)
    (k4 : (¬ x4 < 0) → (¬ x4 = (w.1 48 0)) → (¬ ((upd (w.1 53) x4.toNatClampNeg ((w.1 53 x4.toNatClampNeg) + (1 : Int32))) x4.toNatClampNeg) = (8 : Int32)) → (¬ x2 < f1) → (¬ f2 = 0) → sx_ev (d + 1) rMo_goes 29 [.ref 48, .int x1, .int x2, .int x3, .int (x4 + (1 : Int32)), .null] [] ((sx_u w.1 53 x4.toNatClampNeg ((w.1 53 x4.toNatClampNeg) + (1 : Int32))), w.2) Q)
    (k5 : (¬ x4 < 0) → (¬ x4 = (w.1 48 0)) → (((upd (w.1 53) x4.toNatClampNeg ((w.1 53 x4.toNatClampNeg) + (1 : Int32))) x4.toNatClampNeg) = (8 : Int32)) → sx_ev (d + 1) rMo_goes 29 [.ref 48, .int x1, .int x2, .int x3, .int (x4 + (-1 : Int32)), .null] [] ((sx_u (sx_u w.1 53 x4.toNatClampNeg ((w.1 53 x4.toNatClampNeg) + (1 : Int32))) 53 x4.toNatClampNeg (-1 : Int32)), w.2) Q)
    (k6 : (¬ x4 < 0) → (x4 = (w.1 48 0)) → (¬ (x3 + (1 : Int32)) = x1) → sx_ev (d + 1) rMo_goes 29 [.ref 48, .int x1, .int x2, .int (x3 + (1 : Int32)), .int (x4 + (-1 : Int32)), .null] [] w Q)
    (k7 : (¬ x4 < 0) → (x4 = (w.1 48 0)) → ((x3 + (1 : Int32)) = x1) → Q (x3 + (1 : Int32)) 0 w) :
    sx_ev (d + 1) rMo_goes 29 [.ref 48, .int x1, .int x2, .int x3, .int x4, .null] [] w Q := by
  refine ev_iload (dMo_goes.at 16 rfl) rfl ?_
  refine ev_if_lt (tgt := 125) (dMo_goes.at 17 rfl) rfl (fun c1 => ?_) (fun c1 => ?_)
  · refine ev_iload_n (dMo_goes.at 64 rfl) rfl ?_
    exact ev_iret (dMo_goes.at 65 rfl) rfl (k1 c1)
  · refine ev_iload (dMo_goes.at 18 rfl) rfl ?_
    refine ev_aload_n (dMo_goes.at 19 rfl) rfl ?_
    refine ev_get (dMo_goes.at 20 rfl) (own := 8) rfl fkMo_66 rfl rfl ?_
    refine ev_icmp_ne (tgt := 59) (dMo_goes.at 21 rfl) rfl (fun c2 => ?_) (fun c2 => ?_)
    · refine ev_aload_n (dMo_goes.at 30 rfl) rfl ?_
      refine ev_getr (dMo_goes.at 31 rfl) (own := 8) rfl fkMo_22 rfl rfl ?_
      refine ev_iload (dMo_goes.at 32 rfl) rfl ?_
      refine ev_dup2 (dMo_goes.at 33 rfl) rfl rfl ?_
      refine ev_iaload (dMo_goes.at 34 rfl) rfl (o1 c1 c2) ?_
      refine ev_iconst (dMo_goes.at 35 rfl) kI_1 ?_
      refine ev_iadd (dMo_goes.at 36 rfl) ?_
      refine ev_iastore (dMo_goes.at 37 rfl) rfl (o1 c1 c2) ?_
      refine ev_aload_n (dMo_goes.at 38 rfl) rfl ?_
      refine ev_getr (dMo_goes.at 39 rfl) (own := 8) rfl fkMo_22 rfl rfl ?_
      refine ev_iload (dMo_goes.at 40 rfl) rfl ?_
      refine ev_iaload (dMo_goes.at 41 rfl) rfl (o1 c1 c2) ?_
      refine ev_bipush (dMo_goes.at 42 rfl) kB_8 ?_
      refine ev_icmp_ne (tgt := 96) (dMo_goes.at 43 rfl) rfl (fun c3 => ?_) (fun c3 => ?_)
      · refine ev_aload_n (dMo_goes.at 51 rfl) rfl ?_
        refine ev_iload (dMo_goes.at 52 rfl) rfl ?_
        refine ev_cVi (dMo_goes.at 53 rfl) (As := [.int x4]) (own := 8) rfl ckMo_123 rfl (Or.inl rfl) rfl (Nat.le_of_ble_eq_true rfl) rfl (m1 c1 c2 c3) ?_
        refine ev_iload_n (dMo_goes.at 54 rfl) rfl ?_
        refine ev_icmp_gt (tgt := 29) (dMo_goes.at 55 rfl) rfl (fun c4 => ?_) (fun c4 => ?_)
        · exact (k2 c1 c2 c3 c4)
        · refine ev_aload_n (dMo_goes.at 56 rfl) rfl ?_
          refine ev_aload_n (dMo_goes.at 57 rfl) rfl ?_
          refine ev_getr (dMo_goes.at 58 rfl) (own := 8) rfl fkMo_22 rfl rfl ?_
          refine ev_iload (dMo_goes.at 59 rfl) rfl ?_
          refine ev_cVi (dMo_goes.at 60 rfl) (As := [.ref 53, .int x4]) (own := 8) rfl ckMo_111 rfl (Or.inr rfl) rfl (Nat.le_of_ble_eq_true rfl) rfl (m2 c1 c2 c3 c4) ?_
          refine ev_if_eq (tgt := 29) (dMo_goes.at 61 rfl) rfl (fun c5 => ?_) (fun c5 => ?_)
          · exact (k3 c1 c2 c3 c4 c5)
          · refine ev_iinc (dMo_goes.at 62 rfl) kI_1 rfl (by decide) rfl ?_
            refine ev_goto (tgt := 29) (dMo_goes.at 63 rfl) rfl ?_
            exact (k4 c1 c2 c3 c4 c5)
      · refine ev_aload_n (dMo_goes.at 44 rfl) rfl ?_
        refine ev_getr (dMo_goes.at 45 rfl) (own := 8) rfl fkMo_22 rfl rfl ?_
        refine ev_iload (dMo_goes.at 46 rfl) rfl ?_
        refine ev_iconst (dMo_goes.at 47 rfl) kI_m1 ?_
        refine ev_iastore (dMo_goes.at 48 rfl) rfl (o1 c1 c2) ?_
        refine ev_iinc (dMo_goes.at 49 rfl) kI_m1 rfl (by decide) rfl ?_
        refine ev_goto (tgt := 29) (dMo_goes.at 50 rfl) rfl ?_
        exact (k5 c1 c2 c3)
    · refine ev_iinc (dMo_goes.at 22 rfl) kI_1 rfl (by decide) rfl ?_
      refine ev_iload_n (dMo_goes.at 23 rfl) rfl ?_
      refine ev_iload_n (dMo_goes.at 24 rfl) rfl ?_
      refine ev_icmp_ne (tgt := 53) (dMo_goes.at 25 rfl) rfl (fun c6 => ?_) (fun c6 => ?_)
      · refine ev_iinc (dMo_goes.at 28 rfl) kI_m1 rfl (by decide) rfl ?_
        refine ev_goto (tgt := 29) (dMo_goes.at 29 rfl) rfl ?_
        exact (k6 c1 c2 c6)
      · refine ev_iload_n (dMo_goes.at 26 rfl) rfl ?_
        exact ev_iret (dMo_goes.at 27 rfl) rfl (k7 c1 c2 c6)
set_option maxHeartbeats 4000000 in
theorem bMo_changed_0 {d : Nat} {w : sx_W} {Q : sx_Q} {x1 : Int32}
    (k1 : sx_ev d rMo_changed 4 [.ref 48, .int x1, .int (0 : Int32), .int (0 : Int32)] [] w Q) :
    sx_ev d rMo_changed 0 [.ref 48, .int x1, .null, .null] [] w Q := by
  refine ev_iconst (dMo_changed.at 0 rfl) kI_0 ?_
  refine ev_istore_n (dMo_changed.at 1 rfl) (by decide) rfl ?_
  refine ev_iconst (dMo_changed.at 2 rfl) kI_0 ?_
  refine ev_istore_n (dMo_changed.at 3 rfl) (by decide) rfl ?_
  exact k1
set_option maxHeartbeats 4000000 in
theorem bMo_changed_4 {d : Nat} {w : sx_W} {Q : sx_Q} {x1 : Int32} {x2 : Int32} {x3 : Int32}
    (k1 : (x1 < x3) → Q x2 0 w)
    (k2 : (¬ x1 < x3) → ((w.1 48 5) = 0) → Q x2 0 w)
    (o1 : (¬ x1 < x3) → (¬ (w.1 48 5) = 0) → vp_in x3 7)
    (k3 : (¬ x1 < x3) → (¬ (w.1 48 5) = 0) → (¬ (w.1 53 x3.toNatClampNeg) = (w.1 52 x3.toNatClampNeg)) → sx_ev d rMo_changed 4 [.ref 48, .int x1, .int (x2 + (1 : Int32)), .int (x3 + (1 : Int32))] [] w Q)
    (k4 : (¬ x1 < x3) → (¬ (w.1 48 5) = 0) → ((w.1 53 x3.toNatClampNeg) = (w.1 52 x3.toNatClampNeg)) → sx_ev d rMo_changed 4 [.ref 48, .int x1, .int (x2 + (0 : Int32)), .int (x3 + (1 : Int32))] [] w Q) :
    sx_ev d rMo_changed 4 [.ref 48, .int x1, .int x2, .int x3] [] w Q := by
  refine ev_iload_n (dMo_changed.at 4 rfl) rfl ?_
  refine ev_iload_n (dMo_changed.at 5 rfl) rfl ?_
  refine ev_icmp_gt (tgt := 45) (dMo_changed.at 6 rfl) rfl (fun c1 => ?_) (fun c1 => ?_)
  · refine ev_iload_n (dMo_changed.at 27 rfl) rfl ?_
    exact ev_iret (dMo_changed.at 28 rfl) rfl (k1 c1)
  · refine ev_aload_n (dMo_changed.at 7 rfl) rfl ?_
    refine ev_get (dMo_changed.at 8 rfl) (own := 8) rfl fkMo_75 rfl rfl ?_
    refine ev_if_eq (tgt := 45) (dMo_changed.at 9 rfl) rfl (fun c2 => ?_) (fun c2 => ?_)
    · refine ev_iload_n (dMo_changed.at 27 rfl) rfl ?_
      exact ev_iret (dMo_changed.at 28 rfl) rfl (k2 c1 c2)
    · refine ev_iload_n (dMo_changed.at 10 rfl) rfl ?_
      refine ev_aload_n (dMo_changed.at 11 rfl) rfl ?_
      refine ev_getr (dMo_changed.at 12 rfl) (own := 8) rfl fkMo_22 rfl rfl ?_
      refine ev_iload_n (dMo_changed.at 13 rfl) rfl ?_
      refine ev_iaload (dMo_changed.at 14 rfl) rfl (o1 c1 c2) ?_
      refine ev_aload_n (dMo_changed.at 15 rfl) rfl ?_
      refine ev_getr (dMo_changed.at 16 rfl) (own := 8) rfl fkMo_19 rfl rfl ?_
      refine ev_iload_n (dMo_changed.at 17 rfl) rfl ?_
      refine ev_iaload (dMo_changed.at 18 rfl) rfl (o1 c1 c2) ?_
      refine ev_icmp_ne (tgt := 36) (dMo_changed.at 19 rfl) rfl (fun c3 => ?_) (fun c3 => ?_)
      · refine ev_iconst (dMo_changed.at 22 rfl) kI_1 ?_
        refine ev_iadd (dMo_changed.at 23 rfl) ?_
        refine ev_istore_n (dMo_changed.at 24 rfl) (by decide) rfl ?_
        refine ev_iinc (dMo_changed.at 25 rfl) kI_1 rfl (by decide) rfl ?_
        refine ev_goto (tgt := 4) (dMo_changed.at 26 rfl) rfl ?_
        exact (k3 c1 c2 c3)
      · refine ev_iconst (dMo_changed.at 20 rfl) kI_0 ?_
        refine ev_goto (tgt := 37) (dMo_changed.at 21 rfl) rfl ?_
        refine ev_iadd (dMo_changed.at 23 rfl) ?_
        refine ev_istore_n (dMo_changed.at 24 rfl) (by decide) rfl ?_
        refine ev_iinc (dMo_changed.at 25 rfl) kI_1 rfl (by decide) rfl ?_
        refine ev_goto (tgt := 4) (dMo_changed.at 26 rfl) rfl ?_
        exact (k4 c1 c2 c3)
set_option maxHeartbeats 4000000 in
theorem bMo_first_0 {d : Nat} {w : sx_W} {Q : sx_Q} {x1 : Int32} {f1 : Int32} {f2 : Int32} {w2 : sx_W}
    (m1 : sx_de d rMo_isLodger [.ref 48, .int x1] w f1 0 w)
    (m2 : (¬ f1 = 0) → sx_de d rMo_goes [.ref 48, .int (1 : Int32), .int (7 : Int32)] w f2 0 w2)
    (o1 : (¬ f1 = 0) → (¬ f2 = 0) → vp_in x1 7)
    (k1 : (¬ f1 = 0) → (¬ f2 = 0) → Q (w2.1 53 x1.toNatClampNeg) 0 w2)
    (k2 : (¬ f1 = 0) → (f2 = 0) → Q (-4 : Int32) 0 w2)
    (k3 : (f1 = 0) → Q (-1 : Int32) 0 w) :
    sx_ev (d + 1) rMo_first 0 [.ref 48, .int x1] [] w Q := by
  refine ev_aload_n (dMo_first.at 0 rfl) rfl ?_
  refine ev_iload_n (dMo_first.at 1 rfl) rfl ?_
  refine ev_cVi (dMo_first.at 2 rfl) (As := [.int x1]) (own := 8) rfl ckMo_89 rfl (Or.inr rfl) rfl (Nat.le_of_ble_eq_true rfl) rfl m1 ?_
  refine ev_if_ne (tgt := 10) (dMo_first.at 3 rfl) rfl (fun c1 => ?_) (fun c1 => ?_)
  · refine ev_aload_n (dMo_first.at 6 rfl) rfl ?_
    refine ev_iconst (dMo_first.at 7 rfl) kI_1 ?_
    refine ev_bipush (dMo_first.at 8 rfl) kB_7 ?_
    refine ev_cVi (dMo_first.at 9 rfl) (As := [.int (1 : Int32), .int (7 : Int32)]) (own := 8) rfl ckMo_126 rfl (Or.inl rfl) rfl (Nat.le_of_ble_eq_true rfl) rfl (m2 c1) ?_
    refine ev_if_ne (tgt := 25) (dMo_first.at 10 rfl) rfl (fun c2 => ?_) (fun c2 => ?_)
    · refine ev_aload_n (dMo_first.at 13 rfl) rfl ?_
      refine ev_getr (dMo_first.at 14 rfl) (own := 8) rfl fkMo_22 rfl rfl ?_
      refine ev_iload_n (dMo_first.at 15 rfl) rfl ?_
      refine ev_iaload (dMo_first.at 16 rfl) rfl (o1 c1 c2) ?_
      exact ev_iret (dMo_first.at 17 rfl) rfl (k1 c1 c2)
    · refine ev_bipush (dMo_first.at 11 rfl) kB_m4 ?_
      refine ev_goto (tgt := 31) (dMo_first.at 12 rfl) rfl ?_
      exact ev_iret (dMo_first.at 17 rfl) rfl (k2 c1 c2)
  · refine ev_iconst (dMo_first.at 4 rfl) kI_m1 ?_
    exact ev_iret (dMo_first.at 5 rfl) rfl (k3 c1)
set_option maxHeartbeats 4000000 in
theorem bMo_ways_0 {d : Nat} {w : sx_W} {Q : sx_Q} {f1 : Int32} {w1 : sx_W}
    (m1 : sx_de d rMo_goes [.ref 48, .int (9999 : Int32), .int (7 : Int32)] w f1 0 w1)
    (k1 : Q f1 0 w1) :
    sx_ev (d + 1) rMo_ways 0 [.ref 48] [] w Q := by
  refine ev_aload_n (dMo_ways.at 0 rfl) rfl ?_
  refine ev_sipush (dMo_ways.at 1 rfl) kS_9999 ?_
  refine ev_bipush (dMo_ways.at 2 rfl) kB_7 ?_
  refine ev_cVi (dMo_ways.at 3 rfl) (As := [.int (9999 : Int32), .int (7 : Int32)]) (own := 8) rfl ckMo_126 rfl (Or.inl rfl) rfl (Nat.le_of_ble_eq_true rfl) rfl m1 ?_
  exact ev_iret (dMo_ways.at 4 rfl) rfl k1
set_option maxHeartbeats 4000000 in
theorem bMo_fewest_0 {d : Nat} {w : sx_W} {Q : sx_Q}
    (k1 : sx_ev d rMo_fewest 11 [.ref 48, .int (w.1 48 6), .int (-4 : Int32), .int (7 : Int32)] [] w Q) :
    sx_ev d rMo_fewest 0 [.ref 48, .null, .null, .null] [] w Q := by
  refine ev_aload_n (dMo_fewest.at 0 rfl) rfl ?_
  refine ev_get (dMo_fewest.at 1 rfl) (own := 8) rfl fkMo_59 rfl rfl ?_
  refine ev_istore_n (dMo_fewest.at 2 rfl) (by decide) rfl ?_
  refine ev_bipush (dMo_fewest.at 3 rfl) kB_m4 ?_
  refine ev_istore_n (dMo_fewest.at 4 rfl) (by decide) rfl ?_
  refine ev_bipush (dMo_fewest.at 5 rfl) kB_7 ?_
  refine ev_istore_n (dMo_fewest.at 6 rfl) (by decide) rfl ?_
  exact k1
set_option maxHeartbeats 4000000 in
theorem bMo_fewest_11 {d : Nat} {w : sx_W} {Q : sx_Q} {x1 : Int32} {x2 : Int32} {x3 : Int32} {f1 : Int32} {w1 : sx_W}
    (k1 : (x3 ≤ 0) → Q x2 0 ((sx_u w.1 48 6 x1), w.2))
    (m1 : (¬ x3 ≤ 0) → sx_de d rMo_goes [.ref 48, .int (1 : Int32), .int (7 : Int32)] ((sx_u w.1 48 6 x3), w.2) f1 0 w1)
    (k2 : (¬ x3 ≤ 0) → (f1 ≤ 0) → sx_ev (d + 1) rMo_fewest 11 [.ref 48, .int x1, .int x2, .int (x3 + (-1 : Int32))] [] w1 Q)
    (k3 : (¬ x3 ≤ 0) → (¬ f1 ≤ 0) → sx_ev (d + 1) rMo_fewest 11 [.ref 48, .int x1, .int x3, .int (x3 + (-1 : Int32))] [] w1 Q) :
    sx_ev (d + 1) rMo_fewest 11 [.ref 48, .int x1, .int x2, .int x3] [] w Q := by
  refine ev_iload_n (dMo_fewest.at 7 rfl) rfl ?_
  refine ev_if_le (tgt := 42) (dMo_fewest.at 8 rfl) rfl (fun c1 => ?_) (fun c1 => ?_)
  · refine ev_aload_n (dMo_fewest.at 23 rfl) rfl ?_
    refine ev_iload_n (dMo_fewest.at 24 rfl) rfl ?_
    refine ev_put (dMo_fewest.at 25 rfl) (own := 8) rfl fkMo_59 rfl rfl ?_
    refine ev_iload_n (dMo_fewest.at 26 rfl) rfl ?_
    exact ev_iret (dMo_fewest.at 27 rfl) rfl (k1 c1)
  · refine ev_aload_n (dMo_fewest.at 9 rfl) rfl ?_
    refine ev_iload_n (dMo_fewest.at 10 rfl) rfl ?_
    refine ev_put (dMo_fewest.at 11 rfl) (own := 8) rfl fkMo_59 rfl rfl ?_
    refine ev_aload_n (dMo_fewest.at 12 rfl) rfl ?_
    refine ev_iconst (dMo_fewest.at 13 rfl) kI_1 ?_
    refine ev_bipush (dMo_fewest.at 14 rfl) kB_7 ?_
    refine ev_cVi (dMo_fewest.at 15 rfl) (As := [.int (1 : Int32), .int (7 : Int32)]) (own := 8) rfl ckMo_126 rfl (Or.inl rfl) rfl (Nat.le_of_ble_eq_true rfl) rfl (m1 c1) ?_
    refine ev_if_le (tgt := 34) (dMo_fewest.at 16 rfl) rfl (fun c2 => ?_) (fun c2 => ?_)
    · refine ev_iload_n (dMo_fewest.at 19 rfl) rfl ?_
      refine ev_istore_n (dMo_fewest.at 20 rfl) (by decide) rfl ?_
      refine ev_iinc (dMo_fewest.at 21 rfl) kI_m1 rfl (by decide) rfl ?_
      refine ev_goto (tgt := 11) (dMo_fewest.at 22 rfl) rfl ?_
      exact (k2 c1 c2)
    · refine ev_iload_n (dMo_fewest.at 17 rfl) rfl ?_
      refine ev_goto (tgt := 35) (dMo_fewest.at 18 rfl) rfl ?_
      refine ev_istore_n (dMo_fewest.at 20 rfl) (by decide) rfl ?_
      refine ev_iinc (dMo_fewest.at 21 rfl) kI_m1 rfl (by decide) rfl ?_
      refine ev_goto (tgt := 11) (dMo_fewest.at 22 rfl) rfl ?_
      exact (k3 c1 c2)
set_option maxHeartbeats 4000000 in
theorem bMo_takes_0 {d : Nat} {w : sx_W} {Q : sx_Q}
    (k1 : sx_ev d rMo_takes 2 [.ref 48, .int (0 : Int32)] [] w Q) :
    sx_ev d rMo_takes 0 [.ref 48, .null] [] w Q := by
  refine ev_iconst (dMo_takes.at 0 rfl) kI_0 ?_
  refine ev_istore_n (dMo_takes.at 1 rfl) (by decide) rfl ?_
  exact k1
set_option maxHeartbeats 4000000 in
theorem bMo_takes_2 {d : Nat} {w : sx_W} {Q : sx_Q} {x1 : Int32}
    (k1 : ((w.1 48 0) ≤ x1) → Q 0 0 ((sx_u w.1 48 5 (1 : Int32)), w.2))
    (o1 : (¬ (w.1 48 0) ≤ x1) → vp_in x1 7)
    (k2 : (¬ (w.1 48 0) ≤ x1) → sx_ev d rMo_takes 2 [.ref 48, .int (x1 + (1 : Int32))] [] ((sx_u w.1 52 x1.toNatClampNeg (w.1 53 x1.toNatClampNeg)), w.2) Q) :
    sx_ev d rMo_takes 2 [.ref 48, .int x1] [] w Q := by
  refine ev_iload_n (dMo_takes.at 2 rfl) rfl ?_
  refine ev_aload_n (dMo_takes.at 3 rfl) rfl ?_
  refine ev_get (dMo_takes.at 4 rfl) (own := 8) rfl fkMo_66 rfl rfl ?_
  refine ev_icmp_ge (tgt := 28) (dMo_takes.at 5 rfl) rfl (fun c1 => ?_) (fun c1 => ?_)
  · refine ev_aload_n (dMo_takes.at 16 rfl) rfl ?_
    refine ev_iconst (dMo_takes.at 17 rfl) kI_1 ?_
    refine ev_putz (dMo_takes.at 18 rfl) (own := 8) rfl fkMo_75 rfl rfl (by decide) ?_
    exact ev_vret (dMo_takes.at 19 rfl) rfl (k1 c1)
  · refine ev_aload_n (dMo_takes.at 6 rfl) rfl ?_
    refine ev_getr (dMo_takes.at 7 rfl) (own := 8) rfl fkMo_19 rfl rfl ?_
    refine ev_iload_n (dMo_takes.at 8 rfl) rfl ?_
    refine ev_aload_n (dMo_takes.at 9 rfl) rfl ?_
    refine ev_getr (dMo_takes.at 10 rfl) (own := 8) rfl fkMo_22 rfl rfl ?_
    refine ev_iload_n (dMo_takes.at 11 rfl) rfl ?_
    refine ev_iaload (dMo_takes.at 12 rfl) rfl (o1 c1) ?_
    refine ev_iastore (dMo_takes.at 13 rfl) rfl (o1 c1) ?_
    refine ev_iinc (dMo_takes.at 14 rfl) kI_1 rfl (by decide) rfl ?_
    refine ev_goto (tgt := 2) (dMo_takes.at 15 rfl) rfl ?_
    exact (k2 c1)
set_option maxHeartbeats 4000000 in
theorem bMo_take_0 {d : Nat} {w : sx_W} {Q : sx_Q} {f1 : Int32} {w1 : sx_W} {w2 : sx_W}
    (m1 : sx_de d rMo_goes [.ref 48, .int (1 : Int32), .int (7 : Int32)] w f1 0 w1)
    (m2 : (¬ f1 = 0) → sx_de d rMo_takes [.ref 48] w1 0 0 w2)
    (k1 : (¬ f1 = 0) → Q (w2.1 48 0) 0 w2)
    (k2 : (f1 = 0) → Q (-4 : Int32) 0 w1) :
    sx_ev (d + 1) rMo_take 0 [.ref 48] [] w Q := by
  refine ev_aload_n (dMo_take.at 0 rfl) rfl ?_
  refine ev_iconst (dMo_take.at 1 rfl) kI_1 ?_
  refine ev_bipush (dMo_take.at 2 rfl) kB_7 ?_
  refine ev_cVi (dMo_take.at 3 rfl) (As := [.int (1 : Int32), .int (7 : Int32)]) (own := 8) rfl ckMo_126 rfl (Or.inl rfl) rfl (Nat.le_of_ble_eq_true rfl) rfl m1 ?_
  refine ev_if_ne (tgt := 13) (dMo_take.at 4 rfl) rfl (fun c1 => ?_) (fun c1 => ?_)
  · refine ev_aload_n (dMo_take.at 7 rfl) rfl ?_
    refine ev_cVv (dMo_take.at 8 rfl) (As := []) (own := 8) rfl ckMo_129 rfl rfl rfl (Nat.le_of_ble_eq_true rfl) rfl (m2 c1) ?_
    refine ev_aload_n (dMo_take.at 9 rfl) rfl ?_
    refine ev_get (dMo_take.at 10 rfl) (own := 8) rfl fkMo_66 rfl rfl ?_
    exact ev_iret (dMo_take.at 11 rfl) rfl (k1 c1)
  · refine ev_bipush (dMo_take.at 5 rfl) kB_m4 ?_
    exact ev_iret (dMo_take.at 6 rfl) rfl (k2 c1)
set_option maxHeartbeats 4000000 in
theorem bMo_move_0 {d : Nat} {w : sx_W} {Q : sx_Q} {x1 : Int32} {x2 : Int32} {f1 : Int32} {f2 : Int32}
    (m1 : sx_de d rMo_isLodger [.ref 48, .int x1] w f1 0 w)
    (k1 : (f1 = 0) → Q (-1 : Int32) 0 w)
    (m2 : (¬ f1 = 0) → sx_de d rMo_isPart [.long (x2).toInt64] w f2 0 w)
    (o1 : (¬ f1 = 0) → (¬ f2 = 0) → (¬ (w.1 48 5) = 0) → vp_in x1 7)
    (k2 : (¬ f1 = 0) → (¬ f2 = 0) → (¬ (w.1 48 5) = 0) → Q (w.1 52 x1.toNatClampNeg) 0 ((sx_u w.1 52 x1.toNatClampNeg x2), w.2))
    (k3 : (¬ f1 = 0) → (¬ f2 = 0) → ((w.1 48 5) = 0) → Q (-2 : Int32) 0 w)
    (k4 : (¬ f1 = 0) → (f2 = 0) → Q (-1 : Int32) 0 w) :
    sx_ev (d + 1) rMo_move 0 [.ref 48, .int x1, .int x2, .null] [] w Q := by
  refine ev_aload_n (dMo_move.at 0 rfl) rfl ?_
  refine ev_iload_n (dMo_move.at 1 rfl) rfl ?_
  refine ev_cVi (dMo_move.at 2 rfl) (As := [.int x1]) (own := 8) rfl ckMo_89 rfl (Or.inr rfl) rfl (Nat.le_of_ble_eq_true rfl) rfl m1 ?_
  refine ev_if_eq (tgt := 16) (dMo_move.at 3 rfl) rfl (fun c1 => ?_) (fun c1 => ?_)
  · refine ev_iconst (dMo_move.at 8 rfl) kI_m1 ?_
    exact ev_iret (dMo_move.at 9 rfl) rfl (k1 c1)
  · refine ev_iload_n (dMo_move.at 4 rfl) rfl ?_
    refine ev_i2l (dMo_move.at 5 rfl) ?_
    refine ev_cSi (dMo_move.at 6 rfl) (As := [.long (x2).toInt64]) (own := 8) rfl ckMo_105 (Or.inr rfl) rfl (Nat.le_of_ble_eq_true rfl) rfl (m2 c1) ?_
    refine ev_if_ne (tgt := 18) (dMo_move.at 7 rfl) rfl (fun c2 => ?_) (fun c2 => ?_)
    · refine ev_aload_n (dMo_move.at 10 rfl) rfl ?_
      refine ev_get (dMo_move.at 11 rfl) (own := 8) rfl fkMo_75 rfl rfl ?_
      refine ev_if_ne (tgt := 28) (dMo_move.at 12 rfl) rfl (fun c3 => ?_) (fun c3 => ?_)
      · refine ev_aload_n (dMo_move.at 15 rfl) rfl ?_
        refine ev_getr (dMo_move.at 16 rfl) (own := 8) rfl fkMo_19 rfl rfl ?_
        refine ev_iload_n (dMo_move.at 17 rfl) rfl ?_
        refine ev_iaload (dMo_move.at 18 rfl) rfl (o1 c1 c2 c3) ?_
        refine ev_istore_n (dMo_move.at 19 rfl) (by decide) rfl ?_
        refine ev_aload_n (dMo_move.at 20 rfl) rfl ?_
        refine ev_getr (dMo_move.at 21 rfl) (own := 8) rfl fkMo_19 rfl rfl ?_
        refine ev_iload_n (dMo_move.at 22 rfl) rfl ?_
        refine ev_iload_n (dMo_move.at 23 rfl) rfl ?_
        refine ev_iastore (dMo_move.at 24 rfl) rfl (o1 c1 c2 c3) ?_
        refine ev_iload_n (dMo_move.at 25 rfl) rfl ?_
        exact ev_iret (dMo_move.at 26 rfl) rfl (k2 c1 c2 c3)
      · refine ev_bipush (dMo_move.at 13 rfl) kB_m2 ?_
        exact ev_iret (dMo_move.at 14 rfl) rfl (k3 c1 c2 c3)
    · refine ev_iconst (dMo_move.at 8 rfl) kI_m1 ?_
      exact ev_iret (dMo_move.at 9 rfl) rfl (k4 c1 c2)
set_option maxHeartbeats 4000000 in
theorem bMo_mended_0 {d : Nat} {w : sx_W} {Q : sx_Q} {x1 : Int32} {f1 : Int32}
    (k1 : (x1 = (-1 : Int32)) → (¬ (w.1 48 5) = 0) → sx_ev (d + 1) rMo_mended 27 [.ref 48, .int x1, .int (0 : Int32)] [] w Q)
    (k2 : (x1 = (-1 : Int32)) → ((w.1 48 5) = 0) → Q (-2 : Int32) 0 w)
    (m1 : (¬ x1 = (-1 : Int32)) → sx_de d rMo_isLodger [.ref 48, .int x1] w f1 0 w)
    (k3 : (¬ x1 = (-1 : Int32)) → (¬ f1 = 0) → (¬ (w.1 48 5) = 0) → sx_ev (d + 1) rMo_mended 27 [.ref 48, .int x1, .int (0 : Int32)] [] w Q)
    (k4 : (¬ x1 = (-1 : Int32)) → (¬ f1 = 0) → ((w.1 48 5) = 0) → Q (-2 : Int32) 0 w)
    (k5 : (¬ x1 = (-1 : Int32)) → (f1 = 0) → Q (-1 : Int32) 0 w) :
    sx_ev (d + 1) rMo_mended 0 [.ref 48, .int x1, .null] [] w Q := by
  refine ev_iload_n (dMo_mended.at 0 rfl) rfl ?_
  refine ev_iconst (dMo_mended.at 1 rfl) kI_m1 ?_
  refine ev_icmp_eq (tgt := 15) (dMo_mended.at 2 rfl) rfl (fun c1 => ?_) (fun c1 => ?_)
  · refine ev_aload_n (dMo_mended.at 9 rfl) rfl ?_
    refine ev_get (dMo_mended.at 10 rfl) (own := 8) rfl fkMo_75 rfl rfl ?_
    refine ev_if_ne (tgt := 25) (dMo_mended.at 11 rfl) rfl (fun c2 => ?_) (fun c2 => ?_)
    · refine ev_iconst (dMo_mended.at 14 rfl) kI_0 ?_
      refine ev_istore_n (dMo_mended.at 15 rfl) (by decide) rfl ?_
      exact (k1 c1 c2)
    · refine ev_bipush (dMo_mended.at 12 rfl) kB_m2 ?_
      exact ev_iret (dMo_mended.at 13 rfl) rfl (k2 c1 c2)
  · refine ev_aload_n (dMo_mended.at 3 rfl) rfl ?_
    refine ev_iload_n (dMo_mended.at 4 rfl) rfl ?_
    refine ev_cVi (dMo_mended.at 5 rfl) (As := [.int x1]) (own := 8) rfl ckMo_89 rfl (Or.inr rfl) rfl (Nat.le_of_ble_eq_true rfl) rfl (m1 c1) ?_
    refine ev_if_ne (tgt := 15) (dMo_mended.at 6 rfl) rfl (fun c3 => ?_) (fun c3 => ?_)
    · refine ev_aload_n (dMo_mended.at 9 rfl) rfl ?_
      refine ev_get (dMo_mended.at 10 rfl) (own := 8) rfl fkMo_75 rfl rfl ?_
      refine ev_if_ne (tgt := 25) (dMo_mended.at 11 rfl) rfl (fun c4 => ?_) (fun c4 => ?_)
      · refine ev_iconst (dMo_mended.at 14 rfl) kI_0 ?_
        refine ev_istore_n (dMo_mended.at 15 rfl) (by decide) rfl ?_
        exact (k3 c1 c3 c4)
      · refine ev_bipush (dMo_mended.at 12 rfl) kB_m2 ?_
        exact ev_iret (dMo_mended.at 13 rfl) rfl (k4 c1 c3 c4)
    · refine ev_iconst (dMo_mended.at 7 rfl) kI_m1 ?_
      exact ev_iret (dMo_mended.at 8 rfl) rfl (k5 c1 c3)
set_option maxHeartbeats 4000000 in
theorem bMo_mended_27 {d : Nat} {w : sx_W} {Q : sx_Q} {x1 : Int32} {x2 : Int32} {f1 : Int32} {w1 : sx_W}
    (k1 : ((w.1 48 0) < x2) → Q (-4 : Int32) 0 w)
    (m1 : (¬ (w.1 48 0) < x2) → sx_de d rMo_goes [.ref 48, .int (1 : Int32), .int x2] w f1 0 w1)
    (k2 : (¬ (w.1 48 0) < x2) → (f1 ≤ 0) → sx_ev (d + 1) rMo_mended 27 [.ref 48, .int x1, .int (x2 + (1 : Int32))] [] w1 Q)
    (o1 : (¬ (w.1 48 0) < x2) → (¬ f1 ≤ 0) → (0 ≤ x1) → vp_in x1 7)
    (k3 : (¬ (w.1 48 0) < x2) → (¬ f1 ≤ 0) → (0 ≤ x1) → Q (w1.1 53 x1.toNatClampNeg) 0 w1)
    (k4 : (¬ (w.1 48 0) < x2) → (¬ f1 ≤ 0) → (¬ 0 ≤ x1) → Q x2 0 w1) :
    sx_ev (d + 1) rMo_mended 27 [.ref 48, .int x1, .int x2] [] w Q := by
  refine ev_iload_n (dMo_mended.at 16 rfl) rfl ?_
  refine ev_aload_n (dMo_mended.at 17 rfl) rfl ?_
  refine ev_get (dMo_mended.at 18 rfl) (own := 8) rfl fkMo_66 rfl rfl ?_
  refine ev_icmp_gt (tgt := 65) (dMo_mended.at 19 rfl) rfl (fun c1 => ?_) (fun c1 => ?_)
  · refine ev_bipush (dMo_mended.at 36 rfl) kB_m4 ?_
    exact ev_iret (dMo_mended.at 37 rfl) rfl (k1 c1)
  · refine ev_aload_n (dMo_mended.at 20 rfl) rfl ?_
    refine ev_iconst (dMo_mended.at 21 rfl) kI_1 ?_
    refine ev_iload_n (dMo_mended.at 22 rfl) rfl ?_
    refine ev_cVi (dMo_mended.at 23 rfl) (As := [.int (1 : Int32), .int x2]) (own := 8) rfl ckMo_126 rfl (Or.inl rfl) rfl (Nat.le_of_ble_eq_true rfl) rfl (m1 c1) ?_
    refine ev_if_le (tgt := 59) (dMo_mended.at 24 rfl) rfl (fun c2 => ?_) (fun c2 => ?_)
    · refine ev_iinc (dMo_mended.at 34 rfl) kI_1 rfl (by decide) rfl ?_
      refine ev_goto (tgt := 27) (dMo_mended.at 35 rfl) rfl ?_
      exact (k2 c1 c2)
    · refine ev_iload_n (dMo_mended.at 25 rfl) rfl ?_
      refine ev_if_ge (tgt := 52) (dMo_mended.at 26 rfl) rfl (fun c3 => ?_) (fun c3 => ?_)
      · refine ev_aload_n (dMo_mended.at 29 rfl) rfl ?_
        refine ev_getr (dMo_mended.at 30 rfl) (own := 8) rfl fkMo_22 rfl rfl ?_
        refine ev_iload_n (dMo_mended.at 31 rfl) rfl ?_
        refine ev_iaload (dMo_mended.at 32 rfl) rfl (o1 c1 c2 c3) ?_
        exact ev_iret (dMo_mended.at 33 rfl) rfl (k3 c1 c2 c3)
      · refine ev_iload_n (dMo_mended.at 27 rfl) rfl ?_
        refine ev_goto (tgt := 58) (dMo_mended.at 28 rfl) rfl ?_
        exact ev_iret (dMo_mended.at 33 rfl) rfl (k4 c1 c2 c3)
set_option maxHeartbeats 4000000 in
theorem bMo_clear_0 {d : Nat} {w : sx_W} {Q : sx_Q}
    (k1 : sx_ev d rMo_clear 2 [.ref 48, .int (0 : Int32), .null, .null, .null, .null, .null, .null] [] w Q) :
    sx_ev d rMo_clear 0 [.ref 48, .null, .null, .null, .null, .null, .null, .null] [] w Q := by
  refine ev_iconst (dMo_clear.at 0 rfl) kI_0 ?_
  refine ev_istore_n (dMo_clear.at 1 rfl) (by decide) rfl ?_
  exact k1
set_option maxHeartbeats 4000000 in
theorem bMo_clear_2 {d : Nat} {w : sx_W} {Q : sx_Q} {x1 : Int32}
    (k1 : ((w.1 48 0) ≤ x1) → Q (1 : Int32) 0 w)
    (k2 : (¬ (w.1 48 0) ≤ x1) → sx_ev d rMo_clear 18 [.ref 48, .int x1, .int (-1 : Int32), .int (99 : Int32), .int (0 : Int32), .null, .null, .null] [] w Q) :
    sx_ev d rMo_clear 2 [.ref 48, .int x1, .null, .null, .null, .null, .null, .null] [] w Q := by
  refine ev_iload_n (dMo_clear.at 2 rfl) rfl ?_
  refine ev_aload_n (dMo_clear.at 3 rfl) rfl ?_
  refine ev_get (dMo_clear.at 4 rfl) (own := 8) rfl fkMo_66 rfl rfl ?_
  refine ev_icmp_ge (tgt := 157) (dMo_clear.at 5 rfl) rfl (fun c1 => ?_) (fun c1 => ?_)
  · refine ev_iconst (dMo_clear.at 85 rfl) kI_1 ?_
    exact ev_zret (dMo_clear.at 86 rfl) rfl (by decide) (k1 c1)
  · refine ev_iconst (dMo_clear.at 6 rfl) kI_m1 ?_
    refine ev_istore_n (dMo_clear.at 7 rfl) (by decide) rfl ?_
    refine ev_bipush (dMo_clear.at 8 rfl) kB_99 ?_
    refine ev_istore_n (dMo_clear.at 9 rfl) (by decide) rfl ?_
    refine ev_iconst (dMo_clear.at 10 rfl) kI_0 ?_
    refine ev_istore (dMo_clear.at 11 rfl) (by decide) rfl ?_
    exact (k2 c1)
set_option maxHeartbeats 4000000 in
theorem bMo_clear_18 {d : Nat} {w : sx_W} {Q : sx_Q} {x1 : Int32} {x2 : Int32} {x3 : Int32} {x4 : Int32} {f1 : Int32} {f2 : Int32}
    (o1 : ((8 : Int32) ≤ x4) → vp_in x1 7)
    (k1 : ((8 : Int32) ≤ x4) → (x2 < 0) → Q (0 : Int32) 0 ((sx_u w.1 53 x1.toNatClampNeg x2), w.2))
    (m1 : ((8 : Int32) ≤ x4) → (¬ x2 < 0) → sx_de d rMo_fits [.ref 48, .ref 53, .int x1] ((sx_u w.1 53 x1.toNatClampNeg x2), w.2) f1 0 ((sx_u w.1 53 x1.toNatClampNeg x2), w.2))
    (k2 : ((8 : Int32) ≤ x4) → (¬ x2 < 0) → (¬ f1 = 0) → sx_ev (d + 1) rMo_clear 2 [.ref 48, .int (x1 + (1 : Int32)), .null, .null, .null, .null, .null, .null] [] ((sx_u w.1 53 x1.toNatClampNeg x2), w.2) Q)
    (k3 : ((8 : Int32) ≤ x4) → (¬ x2 < 0) → (f1 = 0) → Q (0 : Int32) 0 ((sx_u w.1 53 x1.toNatClampNeg x2), w.2))
    (m2 : (¬ (8 : Int32) ≤ x4) → sx_de d rMo_sleep [.ref 48, .int x1, .int x4] w f2 0 w)
    (k4 : (¬ (8 : Int32) ≤ x4) → sx_ev (d + 1) rMo_clear 40 [.ref 48, .int x1, .int x2, .int x3, .int x4, .int f2, .int (0 : Int32), .int (0 : Int32)] [] w Q) :
    sx_ev (d + 1) rMo_clear 18 [.ref 48, .int x1, .int x2, .int x3, .int x4, .null, .null, .null] [] w Q := by
  refine ev_iload (dMo_clear.at 12 rfl) rfl ?_
  refine ev_bipush (dMo_clear.at 13 rfl) kB_8 ?_
  refine ev_icmp_ge (tgt := 126) (dMo_clear.at 14 rfl) rfl (fun c1 => ?_) (fun c1 => ?_)
  · refine ev_aload_n (dMo_clear.at 68 rfl) rfl ?_
    refine ev_getr (dMo_clear.at 69 rfl) (own := 8) rfl fkMo_22 rfl rfl ?_
    refine ev_iload_n (dMo_clear.at 70 rfl) rfl ?_
    refine ev_iload_n (dMo_clear.at 71 rfl) rfl ?_
    refine ev_iastore (dMo_clear.at 72 rfl) rfl (o1 c1) ?_
    refine ev_iload_n (dMo_clear.at 73 rfl) rfl ?_
    refine ev_if_lt (tgt := 149) (dMo_clear.at 74 rfl) rfl (fun c2 => ?_) (fun c2 => ?_)
    · refine ev_iconst (dMo_clear.at 81 rfl) kI_0 ?_
      exact ev_zret (dMo_clear.at 82 rfl) rfl (by decide) (k1 c1 c2)
    · refine ev_aload_n (dMo_clear.at 75 rfl) rfl ?_
      refine ev_aload_n (dMo_clear.at 76 rfl) rfl ?_
      refine ev_getr (dMo_clear.at 77 rfl) (own := 8) rfl fkMo_22 rfl rfl ?_
      refine ev_iload_n (dMo_clear.at 78 rfl) rfl ?_
      refine ev_cVi (dMo_clear.at 79 rfl) (As := [.ref 53, .int x1]) (own := 8) rfl ckMo_111 rfl (Or.inr rfl) rfl (Nat.le_of_ble_eq_true rfl) rfl (m1 c1 c2) ?_
      refine ev_if_ne (tgt := 151) (dMo_clear.at 80 rfl) rfl (fun c3 => ?_) (fun c3 => ?_)
      · refine ev_iinc (dMo_clear.at 83 rfl) kI_1 rfl (by decide) rfl ?_
        refine ev_goto (tgt := 2) (dMo_clear.at 84 rfl) rfl ?_
        refine ev_kp [true, true, false, false, false, false, false, false] rfl ?_
        exact (k2 c1 c2 c3)
      · refine ev_iconst (dMo_clear.at 81 rfl) kI_0 ?_
        exact ev_zret (dMo_clear.at 82 rfl) rfl (by decide) (k3 c1 c2 c3)
  · refine ev_aload_n (dMo_clear.at 15 rfl) rfl ?_
    refine ev_iload_n (dMo_clear.at 16 rfl) rfl ?_
    refine ev_iload (dMo_clear.at 17 rfl) rfl ?_
    refine ev_cVi (dMo_clear.at 18 rfl) (As := [.int x1, .int x4]) (own := 8) rfl ckMo_93 rfl (Or.inl rfl) rfl (Nat.le_of_ble_eq_true rfl) rfl (m2 c1) ?_
    refine ev_istore (dMo_clear.at 19 rfl) (by decide) rfl ?_
    refine ev_iconst (dMo_clear.at 20 rfl) kI_0 ?_
    refine ev_istore (dMo_clear.at 21 rfl) (by decide) rfl ?_
    refine ev_iconst (dMo_clear.at 22 rfl) kI_0 ?_
    refine ev_istore (dMo_clear.at 23 rfl) (by decide) rfl ?_
    exact (k4 c1)
set_option maxHeartbeats 4000000 in
theorem bMo_clear_40 {d : Nat} {w : sx_W} {Q : sx_Q} {x1 : Int32} {x2 : Int32} {x3 : Int32} {x4 : Int32} {x5 : Int32} {x6 : Int32} {x7 : Int32} {f1 : Int32}
    (m1 : ((8 : Int32) ≤ x7) → sx_de d rMo_may [.ref 48, .int x1, .int x4] w f1 0 w)
    (k1 : ((8 : Int32) ≤ x7) → (f1 = 0) → sx_ev (d + 1) rMo_clear 18 [.ref 48, .int x1, .int x2, .int x3, .int (x4 + (1 : Int32)), .null, .null, .null] [] w Q)
    (k2 : ((8 : Int32) ≤ x7) → (¬ f1 = 0) → (x3 ≤ x6) → sx_ev (d + 1) rMo_clear 18 [.ref 48, .int x1, .int x2, .int x3, .int (x4 + (1 : Int32)), .null, .null, .null] [] w Q)
    (k3 : ((8 : Int32) ≤ x7) → (¬ f1 = 0) → (¬ x3 ≤ x6) → sx_ev (d + 1) rMo_clear 18 [.ref 48, .int x1, .int x4, .int x6, .int (x4 + (1 : Int32)), .null, .null, .null] [] w Q)
    (o1 : (¬ (8 : Int32) ≤ x7) → vp_in x7 8)
    (k4 : (¬ (8 : Int32) ≤ x7) → sx_ev (d + 1) rMo_clear 40 [.ref 48, .int x1, .int x2, .int x3, .int x4, .int x5, .int (x6 + (((x5 >>> (x7 &&& 31)) &&& (1 : Int32)) * (w.1 54 x7.toNatClampNeg))), .int (x7 + (1 : Int32))] [] w Q) :
    sx_ev (d + 1) rMo_clear 40 [.ref 48, .int x1, .int x2, .int x3, .int x4, .int x5, .int x6, .int x7] [] w Q := by
  refine ev_iload (dMo_clear.at 24 rfl) rfl ?_
  refine ev_bipush (dMo_clear.at 25 rfl) kB_8 ?_
  refine ev_icmp_ge (tgt := 73) (dMo_clear.at 26 rfl) rfl (fun c1 => ?_) (fun c1 => ?_)
  · refine ev_aload_n (dMo_clear.at 42 rfl) rfl ?_
    refine ev_iload_n (dMo_clear.at 43 rfl) rfl ?_
    refine ev_iload (dMo_clear.at 44 rfl) rfl ?_
    refine ev_cVi (dMo_clear.at 45 rfl) (As := [.int x1, .int x4]) (own := 8) rfl ckMo_97 rfl (Or.inr rfl) rfl (Nat.le_of_ble_eq_true rfl) rfl (m1 c1) ?_
    refine ev_if_eq (tgt := 93) (dMo_clear.at 46 rfl) rfl (fun c2 => ?_) (fun c2 => ?_)
    · refine ev_iconst (dMo_clear.at 52 rfl) kI_0 ?_
      refine ev_istore (dMo_clear.at 53 rfl) (by decide) rfl ?_
      refine ev_iload (dMo_clear.at 54 rfl) rfl ?_
      refine ev_if_eq (tgt := 106) (dMo_clear.at 55 rfl) rfl (fun _ => ?_) (fun h => absurd h (by decide))
      refine ev_iload_n (dMo_clear.at 58 rfl) rfl ?_
      refine ev_istore_n (dMo_clear.at 59 rfl) (by decide) rfl ?_
      refine ev_iload (dMo_clear.at 60 rfl) rfl ?_
      refine ev_if_eq (tgt := 118) (dMo_clear.at 61 rfl) rfl (fun _ => ?_) (fun h => absurd h (by decide))
      refine ev_iload_n (dMo_clear.at 64 rfl) rfl ?_
      refine ev_istore_n (dMo_clear.at 65 rfl) (by decide) rfl ?_
      refine ev_iinc (dMo_clear.at 66 rfl) kI_1 rfl (by decide) rfl ?_
      refine ev_goto (tgt := 18) (dMo_clear.at 67 rfl) rfl ?_
      refine ev_kp [true, true, true, true, true, false, false, false] rfl ?_
      exact (k1 c1 c2)
    · refine ev_iload (dMo_clear.at 47 rfl) rfl ?_
      refine ev_iload_n (dMo_clear.at 48 rfl) rfl ?_
      refine ev_icmp_ge (tgt := 93) (dMo_clear.at 49 rfl) rfl (fun c3 => ?_) (fun c3 => ?_)
      · refine ev_iconst (dMo_clear.at 52 rfl) kI_0 ?_
        refine ev_istore (dMo_clear.at 53 rfl) (by decide) rfl ?_
        refine ev_iload (dMo_clear.at 54 rfl) rfl ?_
        refine ev_if_eq (tgt := 106) (dMo_clear.at 55 rfl) rfl (fun _ => ?_) (fun h => absurd h (by decide))
        refine ev_iload_n (dMo_clear.at 58 rfl) rfl ?_
        refine ev_istore_n (dMo_clear.at 59 rfl) (by decide) rfl ?_
        refine ev_iload (dMo_clear.at 60 rfl) rfl ?_
        refine ev_if_eq (tgt := 118) (dMo_clear.at 61 rfl) rfl (fun _ => ?_) (fun h => absurd h (by decide))
        refine ev_iload_n (dMo_clear.at 64 rfl) rfl ?_
        refine ev_istore_n (dMo_clear.at 65 rfl) (by decide) rfl ?_
        refine ev_iinc (dMo_clear.at 66 rfl) kI_1 rfl (by decide) rfl ?_
        refine ev_goto (tgt := 18) (dMo_clear.at 67 rfl) rfl ?_
        refine ev_kp [true, true, true, true, true, false, false, false] rfl ?_
        exact (k2 c1 c2 c3)
      · refine ev_iconst (dMo_clear.at 50 rfl) kI_1 ?_
        refine ev_goto (tgt := 94) (dMo_clear.at 51 rfl) rfl ?_
        refine ev_istore (dMo_clear.at 53 rfl) (by decide) rfl ?_
        refine ev_iload (dMo_clear.at 54 rfl) rfl ?_
        refine ev_if_eq (tgt := 106) (dMo_clear.at 55 rfl) rfl (fun h => absurd h (by decide)) (fun _ => ?_)
        refine ev_iload (dMo_clear.at 56 rfl) rfl ?_
        refine ev_goto (tgt := 107) (dMo_clear.at 57 rfl) rfl ?_
        refine ev_istore_n (dMo_clear.at 59 rfl) (by decide) rfl ?_
        refine ev_iload (dMo_clear.at 60 rfl) rfl ?_
        refine ev_if_eq (tgt := 118) (dMo_clear.at 61 rfl) rfl (fun h => absurd h (by decide)) (fun _ => ?_)
        refine ev_iload (dMo_clear.at 62 rfl) rfl ?_
        refine ev_goto (tgt := 119) (dMo_clear.at 63 rfl) rfl ?_
        refine ev_istore_n (dMo_clear.at 65 rfl) (by decide) rfl ?_
        refine ev_iinc (dMo_clear.at 66 rfl) kI_1 rfl (by decide) rfl ?_
        refine ev_goto (tgt := 18) (dMo_clear.at 67 rfl) rfl ?_
        refine ev_kp [true, true, true, true, true, false, false, false] rfl ?_
        exact (k3 c1 c2 c3)
  · refine ev_iload (dMo_clear.at 27 rfl) rfl ?_
    refine ev_iload (dMo_clear.at 28 rfl) rfl ?_
    refine ev_iload (dMo_clear.at 29 rfl) rfl ?_
    refine ev_ishr (dMo_clear.at 30 rfl) ?_
    refine ev_iconst (dMo_clear.at 31 rfl) kI_1 ?_
    refine ev_iand (dMo_clear.at 32 rfl) ?_
    refine ev_aload_n (dMo_clear.at 33 rfl) rfl ?_
    refine ev_getr (dMo_clear.at 34 rfl) (own := 8) rfl fkMo_25 rfl rfl ?_
    refine ev_iload (dMo_clear.at 35 rfl) rfl ?_
    refine ev_iaload (dMo_clear.at 36 rfl) rfl (o1 c1) ?_
    refine ev_imul (dMo_clear.at 37 rfl) ?_
    refine ev_iadd (dMo_clear.at 38 rfl) ?_
    refine ev_istore (dMo_clear.at 39 rfl) (by decide) rfl ?_
    refine ev_iinc (dMo_clear.at 40 rfl) kI_1 rfl (by decide) rfl ?_
    refine ev_goto (tgt := 40) (dMo_clear.at 41 rfl) rfl ?_
    exact (k4 c1)
set_option maxHeartbeats 4000000 in
theorem bMo_tells_0 {d : Nat} {w : sx_W} {Q : sx_Q} {x1 : Int32}
    (k1 : sx_ev d rMo_tells 5 [.ref 48, .null, .int x1, .int (7 : Int32)] [] w Q) :
    sx_ev d rMo_tells 0 [.ref 48, .int x1, .null, .null] [] w Q := by
  refine ev_iload_n (dMo_tells.at 0 rfl) rfl ?_
  refine ev_istore_n (dMo_tells.at 1 rfl) (by decide) rfl ?_
  refine ev_bipush (dMo_tells.at 2 rfl) kB_7 ?_
  refine ev_istore_n (dMo_tells.at 3 rfl) (by decide) rfl ?_
  refine ev_kp [true, false, true, true] rfl ?_
  exact k1
set_option maxHeartbeats 4000000 in
theorem bMo_tells_5 {d : Nat} {w : sx_W} {Q : sx_Q} {x2 : Int32} {x3 : Int32}
    (k1 : (x3 < 0) → Q 0 0 w)
    (o1 : (¬ x3 < 0) → vp_in x3 8)
    (k2 : (¬ x3 < 0) → sx_ev d rMo_tells 5 [.ref 48, .null, .int (x2 / (3 : Int32)), .int (x3 + (-1 : Int32))] [] ((sx_u w.1 54 x3.toNatClampNeg (x2 - x2 / (3 : Int32) * (3 : Int32))), w.2) Q) :
    sx_ev d rMo_tells 5 [.ref 48, .null, .int x2, .int x3] [] w Q := by
  refine ev_iload_n (dMo_tells.at 4 rfl) rfl ?_
  refine ev_if_lt (tgt := 28) (dMo_tells.at 5 rfl) rfl (fun c1 => ?_) (fun c1 => ?_)
  · exact ev_vret (dMo_tells.at 19 rfl) rfl (k1 c1)
  · refine ev_aload_n (dMo_tells.at 6 rfl) rfl ?_
    refine ev_getr (dMo_tells.at 7 rfl) (own := 8) rfl fkMo_25 rfl rfl ?_
    refine ev_iload_n (dMo_tells.at 8 rfl) rfl ?_
    refine ev_iload_n (dMo_tells.at 9 rfl) rfl ?_
    refine ev_iconst (dMo_tells.at 10 rfl) kI_3 ?_
    refine ev_irem (dMo_tells.at 11 rfl) (by decide) ?_
    refine ev_iastore (dMo_tells.at 12 rfl) rfl (o1 c1) ?_
    refine ev_iload_n (dMo_tells.at 13 rfl) rfl ?_
    refine ev_iconst (dMo_tells.at 14 rfl) kI_3 ?_
    refine ev_idiv (dMo_tells.at 15 rfl) (by decide) ?_
    refine ev_istore_n (dMo_tells.at 16 rfl) (by decide) rfl ?_
    refine ev_iinc (dMo_tells.at 17 rfl) kI_m1 rfl (by decide) rfl ?_
    refine ev_goto (tgt := 5) (dMo_tells.at 18 rfl) rfl ?_
    exact (k2 c1)
set_option maxHeartbeats 4000000 in
theorem bMo_rents_0 {d : Nat} {w : sx_W} {Q : sx_Q} {x1 : Int32} {f1 : Int32}
    (m1 : sx_de d rMo_in [.long (x1).toInt64, .long (-1 : Int64), .long (lN 7)] w f1 0 w)
    (k1 : (¬ f1 = 0) → sx_ev (d + 1) rMo_rents 25 [.ref 48, .int x1, .int (-4 : Int32), .int (17 : Int32), .int (0 : Int32), .null, .null] [] w Q)
    (k2 : (f1 = 0) → Q (-1 : Int32) 0 w) :
    sx_ev (d + 1) rMo_rents 0 [.ref 48, .int x1, .null, .null, .null, .null, .null] [] w Q := by
  refine ev_iload_n (dMo_rents.at 0 rfl) rfl ?_
  refine ev_i2l (dMo_rents.at 1 rfl) ?_
  refine ev_ldc2 (dMo_rents.at 2 rfl) (own := 8) rfl (List.mem_of_getElem? (i := 5) rfl) ?_
  refine ev_ldc2 (dMo_rents.at 3 rfl) (own := 8) rfl (List.mem_of_getElem? (i := 3) rfl) ?_
  refine ev_cSi (dMo_rents.at 4 rfl) (As := [.long (x1).toInt64, .long (-1 : Int64), .long (lN 7)]) (own := 8) rfl ckMo_69 (Or.inr rfl) rfl (Nat.le_of_ble_eq_true rfl) rfl m1 ?_
  refine ev_if_ne (tgt := 16) (dMo_rents.at 5 rfl) rfl (fun c1 => ?_) (fun c1 => ?_)
  · refine ev_bipush (dMo_rents.at 8 rfl) kB_m4 ?_
    refine ev_istore_n (dMo_rents.at 9 rfl) (by decide) rfl ?_
    refine ev_bipush (dMo_rents.at 10 rfl) kB_17 ?_
    refine ev_istore_n (dMo_rents.at 11 rfl) (by decide) rfl ?_
    refine ev_iconst (dMo_rents.at 12 rfl) kI_0 ?_
    refine ev_istore (dMo_rents.at 13 rfl) (by decide) rfl ?_
    exact (k1 c1)
  · refine ev_iconst (dMo_rents.at 6 rfl) kI_m1 ?_
    exact ev_iret (dMo_rents.at 7 rfl) rfl (k2 c1)
set_option maxHeartbeats 4000000 in
theorem bMo_rents_25 {d : Nat} {w : sx_W} {Q : sx_Q} {x1 : Int32} {x2 : Int32} {x3 : Int32} {x4 : Int32} {w1 : sx_W} {w2 : sx_W}
    (m1 : ((6561 : Int32) ≤ x4) → (¬ x2 = (-4 : Int32)) → sx_de d rMo_tells [.ref 48, .int x2] w 0 0 w1)
    (o1 : ((6561 : Int32) ≤ x4) → (¬ x2 = (-4 : Int32)) → (0 ≤ x1) → vp_in x1 8)
    (k1 : ((6561 : Int32) ≤ x4) → (¬ x2 = (-4 : Int32)) → (0 ≤ x1) → Q (w1.1 54 x1.toNatClampNeg) 0 w1)
    (k2 : ((6561 : Int32) ≤ x4) → (¬ x2 = (-4 : Int32)) → (¬ 0 ≤ x1) → Q x3 0 w1)
    (k3 : ((6561 : Int32) ≤ x4) → (x2 = (-4 : Int32)) → Q (-4 : Int32) 0 w)
    (m2 : (¬ (6561 : Int32) ≤ x4) → sx_de d rMo_tells [.ref 48, .int x4] w 0 0 w2)
    (k4 : (¬ (6561 : Int32) ≤ x4) → sx_ev (d + 1) rMo_rents 45 [.ref 48, .int x1, .int x2, .int x3, .int x4, .int (0 : Int32), .int (0 : Int32)] [] w2 Q) :
    sx_ev (d + 1) rMo_rents 25 [.ref 48, .int x1, .int x2, .int x3, .int x4, .null, .null] [] w Q := by
  refine ev_iload (dMo_rents.at 14 rfl) rfl ?_
  refine ev_sipush (dMo_rents.at 15 rfl) kS_6561 ?_
  refine ev_icmp_ge (tgt := 95) (dMo_rents.at 16 rfl) rfl (fun c1 => ?_) (fun c1 => ?_)
  · refine ev_iload_n (dMo_rents.at 48 rfl) rfl ?_
    refine ev_bipush (dMo_rents.at 49 rfl) kB_m4 ?_
    refine ev_icmp_ne (tgt := 104) (dMo_rents.at 50 rfl) rfl (fun c2 => ?_) (fun c2 => ?_)
    · refine ev_aload_n (dMo_rents.at 53 rfl) rfl ?_
      refine ev_iload_n (dMo_rents.at 54 rfl) rfl ?_
      refine ev_cVv (dMo_rents.at 55 rfl) (As := [.int x2]) (own := 8) rfl ckMo_134 rfl rfl rfl (Nat.le_of_ble_eq_true rfl) rfl (m1 c1 c2) ?_
      refine ev_iload_n (dMo_rents.at 56 rfl) rfl ?_
      refine ev_if_ge (tgt := 117) (dMo_rents.at 57 rfl) rfl (fun c3 => ?_) (fun c3 => ?_)
      · refine ev_aload_n (dMo_rents.at 60 rfl) rfl ?_
        refine ev_getr (dMo_rents.at 61 rfl) (own := 8) rfl fkMo_25 rfl rfl ?_
        refine ev_iload_n (dMo_rents.at 62 rfl) rfl ?_
        refine ev_iaload (dMo_rents.at 63 rfl) rfl (o1 c1 c2 c3) ?_
        exact ev_iret (dMo_rents.at 64 rfl) rfl (k1 c1 c2 c3)
      · refine ev_iload_n (dMo_rents.at 58 rfl) rfl ?_
        refine ev_goto (tgt := 123) (dMo_rents.at 59 rfl) rfl ?_
        exact ev_iret (dMo_rents.at 64 rfl) rfl (k2 c1 c2 c3)
    · refine ev_bipush (dMo_rents.at 51 rfl) kB_m4 ?_
      exact ev_iret (dMo_rents.at 52 rfl) rfl (k3 c1 c2)
  · refine ev_aload_n (dMo_rents.at 17 rfl) rfl ?_
    refine ev_iload (dMo_rents.at 18 rfl) rfl ?_
    refine ev_cVv (dMo_rents.at 19 rfl) (As := [.int x4]) (own := 8) rfl ckMo_134 rfl rfl rfl (Nat.le_of_ble_eq_true rfl) rfl (m2 c1) ?_
    refine ev_iconst (dMo_rents.at 20 rfl) kI_0 ?_
    refine ev_istore (dMo_rents.at 21 rfl) (by decide) rfl ?_
    refine ev_iconst (dMo_rents.at 22 rfl) kI_0 ?_
    refine ev_istore (dMo_rents.at 23 rfl) (by decide) rfl ?_
    exact (k4 c1)
set_option maxHeartbeats 4000000 in
theorem bMo_rents_45 {d : Nat} {w : sx_W} {Q : sx_Q} {x1 : Int32} {x2 : Int32} {x3 : Int32} {x4 : Int32} {x5 : Int32} {x6 : Int32} {f1 : Int32} {w1 : sx_W}
    (k1 : ((8 : Int32) ≤ x6) → (x3 ≤ x5) → sx_ev (d + 1) rMo_rents 25 [.ref 48, .int x1, .int x2, .int x3, .int (x4 + (1 : Int32)), .null, .null] [] w Q)
    (m1 : ((8 : Int32) ≤ x6) → (¬ x3 ≤ x5) → sx_de d rMo_clear [.ref 48] w f1 0 w1)
    (k2 : ((8 : Int32) ≤ x6) → (¬ x3 ≤ x5) → (f1 = 0) → sx_ev (d + 1) rMo_rents 25 [.ref 48, .int x1, .int x2, .int x3, .int (x4 + (1 : Int32)), .null, .null] [] w1 Q)
    (k3 : ((8 : Int32) ≤ x6) → (¬ x3 ≤ x5) → (¬ f1 = 0) → sx_ev (d + 1) rMo_rents 25 [.ref 48, .int x1, .int x4, .int x5, .int (x4 + (1 : Int32)), .null, .null] [] w1 Q)
    (o1 : (¬ (8 : Int32) ≤ x6) → vp_in x6 8)
    (k4 : (¬ (8 : Int32) ≤ x6) → sx_ev (d + 1) rMo_rents 45 [.ref 48, .int x1, .int x2, .int x3, .int x4, .int (x5 + (w.1 54 x6.toNatClampNeg)), .int (x6 + (1 : Int32))] [] w Q) :
    sx_ev (d + 1) rMo_rents 45 [.ref 48, .int x1, .int x2, .int x3, .int x4, .int x5, .int x6] [] w Q := by
  refine ev_iload (dMo_rents.at 24 rfl) rfl ?_
  refine ev_bipush (dMo_rents.at 25 rfl) kB_8 ?_
  refine ev_icmp_ge (tgt := 70) (dMo_rents.at 26 rfl) rfl (fun c1 => ?_) (fun c1 => ?_)
  · refine ev_iload (dMo_rents.at 36 rfl) rfl ?_
    refine ev_iload_n (dMo_rents.at 37 rfl) rfl ?_
    refine ev_icmp_ge (tgt := 89) (dMo_rents.at 38 rfl) rfl (fun c2 => ?_) (fun c2 => ?_)
    · refine ev_iinc (dMo_rents.at 46 rfl) kI_1 rfl (by decide) rfl ?_
      refine ev_goto (tgt := 25) (dMo_rents.at 47 rfl) rfl ?_
      refine ev_kp [true, true, true, true, true, false, false] rfl ?_
      exact (k1 c1 c2)
    · refine ev_aload_n (dMo_rents.at 39 rfl) rfl ?_
      refine ev_cVi (dMo_rents.at 40 rfl) (As := []) (own := 8) rfl ckMo_138 rfl (Or.inr rfl) rfl (Nat.le_of_ble_eq_true rfl) rfl (m1 c1 c2) ?_
      refine ev_if_eq (tgt := 89) (dMo_rents.at 41 rfl) rfl (fun c3 => ?_) (fun c3 => ?_)
      · refine ev_iinc (dMo_rents.at 46 rfl) kI_1 rfl (by decide) rfl ?_
        refine ev_goto (tgt := 25) (dMo_rents.at 47 rfl) rfl ?_
        refine ev_kp [true, true, true, true, true, false, false] rfl ?_
        exact (k2 c1 c2 c3)
      · refine ev_iload (dMo_rents.at 42 rfl) rfl ?_
        refine ev_istore_n (dMo_rents.at 43 rfl) (by decide) rfl ?_
        refine ev_iload (dMo_rents.at 44 rfl) rfl ?_
        refine ev_istore_n (dMo_rents.at 45 rfl) (by decide) rfl ?_
        refine ev_iinc (dMo_rents.at 46 rfl) kI_1 rfl (by decide) rfl ?_
        refine ev_goto (tgt := 25) (dMo_rents.at 47 rfl) rfl ?_
        refine ev_kp [true, true, true, true, true, false, false] rfl ?_
        exact (k3 c1 c2 c3)
  · refine ev_iload (dMo_rents.at 27 rfl) rfl ?_
    refine ev_aload_n (dMo_rents.at 28 rfl) rfl ?_
    refine ev_getr (dMo_rents.at 29 rfl) (own := 8) rfl fkMo_25 rfl rfl ?_
    refine ev_iload (dMo_rents.at 30 rfl) rfl ?_
    refine ev_iaload (dMo_rents.at 31 rfl) rfl (o1 c1) ?_
    refine ev_iadd (dMo_rents.at 32 rfl) ?_
    refine ev_istore (dMo_rents.at 33 rfl) (by decide) rfl ?_
    refine ev_iinc (dMo_rents.at 34 rfl) kI_1 rfl (by decide) rfl ?_
    refine ev_goto (tgt := 45) (dMo_rents.at 35 rfl) rfl ?_
    exact (k4 c1)
set_option maxHeartbeats 4000000 in
theorem bMo_isAsleep_0 {d : Nat} {w : sx_W} {Q : sx_Q} {x1 : Int32} {x2 : Int32} {f1 : Int32}
    (o1 : vp_in x1 7)
    (m1 : sx_de d rMo_sleep [.ref 48, .int x1, .int (w.1 52 x1.toNatClampNeg)] w f1 0 w)
    (k1 : (¬ ((f1 >>> (x2 &&& 31)) &&& (1 : Int32)) = (1 : Int32)) → Q (0 : Int32) 0 w)
    (k2 : (((f1 >>> (x2 &&& 31)) &&& (1 : Int32)) = (1 : Int32)) → Q (1 : Int32) 0 w) :
    sx_ev (d + 1) rMo_isAsleep 0 [.ref 48, .int x1, .int x2] [] w Q := by
  refine ev_aload_n (dMo_isAsleep.at 0 rfl) rfl ?_
  refine ev_iload_n (dMo_isAsleep.at 1 rfl) rfl ?_
  refine ev_aload_n (dMo_isAsleep.at 2 rfl) rfl ?_
  refine ev_getr (dMo_isAsleep.at 3 rfl) (own := 8) rfl fkMo_19 rfl rfl ?_
  refine ev_iload_n (dMo_isAsleep.at 4 rfl) rfl ?_
  refine ev_iaload (dMo_isAsleep.at 5 rfl) rfl o1 ?_
  refine ev_cVi (dMo_isAsleep.at 6 rfl) (As := [.int x1, .int (w.1 52 x1.toNatClampNeg)]) (own := 8) rfl ckMo_93 rfl (Or.inl rfl) rfl (Nat.le_of_ble_eq_true rfl) rfl m1 ?_
  refine ev_iload_n (dMo_isAsleep.at 7 rfl) rfl ?_
  refine ev_ishr (dMo_isAsleep.at 8 rfl) ?_
  refine ev_iconst (dMo_isAsleep.at 9 rfl) kI_1 ?_
  refine ev_iand (dMo_isAsleep.at 10 rfl) ?_
  refine ev_iconst (dMo_isAsleep.at 11 rfl) kI_1 ?_
  refine ev_icmp_ne (tgt := 23) (dMo_isAsleep.at 12 rfl) rfl (fun c1 => ?_) (fun c1 => ?_)
  · refine ev_iconst (dMo_isAsleep.at 15 rfl) kI_0 ?_
    exact ev_zret (dMo_isAsleep.at 16 rfl) rfl (by decide) (k1 c1)
  · refine ev_iconst (dMo_isAsleep.at 13 rfl) kI_1 ?_
    refine ev_goto (tgt := 24) (dMo_isAsleep.at 14 rfl) rfl ?_
    exact ev_zret (dMo_isAsleep.at 16 rfl) rfl (by decide) (k2 c1)
set_option maxHeartbeats 4000000 in
theorem bMo_liesDown_0 {d : Nat} {w : sx_W} {Q : sx_Q} {x1 : Int32} {x2 : Int32} {f1 : Int32} {f2 : Int32}
    (m1 : sx_de d rMo_isAsleep [.ref 48, .int x1, .int x2] w f1 0 w)
    (k1 : (f1 = 0) → Q (0 : Int32) 0 w)
    (k2 : (¬ f1 = 0) → (x2 = 0) → Q (1 : Int32) 0 w)
    (m2 : (¬ f1 = 0) → (¬ x2 = 0) → sx_de d rMo_isAsleep [.ref 48, .int x1, .int (x2 - (1 : Int32))] w f2 0 w)
    (k3 : (¬ f1 = 0) → (¬ x2 = 0) → (¬ f2 = 0) → Q (0 : Int32) 0 w)
    (k4 : (¬ f1 = 0) → (¬ x2 = 0) → (f2 = 0) → Q (1 : Int32) 0 w) :
    sx_ev (d + 1) rMo_liesDown 0 [.ref 48, .int x1, .int x2] [] w Q := by
  refine ev_aload_n (dMo_liesDown.at 0 rfl) rfl ?_
  refine ev_iload_n (dMo_liesDown.at 1 rfl) rfl ?_
  refine ev_iload_n (dMo_liesDown.at 2 rfl) rfl ?_
  refine ev_cVi (dMo_liesDown.at 3 rfl) (As := [.int x1, .int x2]) (own := 8) rfl ckMo_141 rfl (Or.inr rfl) rfl (Nat.le_of_ble_eq_true rfl) rfl m1 ?_
  refine ev_if_eq (tgt := 28) (dMo_liesDown.at 4 rfl) rfl (fun c1 => ?_) (fun c1 => ?_)
  · refine ev_iconst (dMo_liesDown.at 16 rfl) kI_0 ?_
    exact ev_zret (dMo_liesDown.at 17 rfl) rfl (by decide) (k1 c1)
  · refine ev_iload_n (dMo_liesDown.at 5 rfl) rfl ?_
    refine ev_if_eq (tgt := 24) (dMo_liesDown.at 6 rfl) rfl (fun c2 => ?_) (fun c2 => ?_)
    · refine ev_iconst (dMo_liesDown.at 14 rfl) kI_1 ?_
      refine ev_goto (tgt := 29) (dMo_liesDown.at 15 rfl) rfl ?_
      exact ev_zret (dMo_liesDown.at 17 rfl) rfl (by decide) (k2 c1 c2)
    · refine ev_aload_n (dMo_liesDown.at 7 rfl) rfl ?_
      refine ev_iload_n (dMo_liesDown.at 8 rfl) rfl ?_
      refine ev_iload_n (dMo_liesDown.at 9 rfl) rfl ?_
      refine ev_iconst (dMo_liesDown.at 10 rfl) kI_1 ?_
      refine ev_isub (dMo_liesDown.at 11 rfl) ?_
      refine ev_cVi (dMo_liesDown.at 12 rfl) (As := [.int x1, .int (x2 - (1 : Int32))]) (own := 8) rfl ckMo_141 rfl (Or.inr rfl) rfl (Nat.le_of_ble_eq_true rfl) rfl (m2 c1 c2) ?_
      refine ev_if_ne (tgt := 28) (dMo_liesDown.at 13 rfl) rfl (fun c3 => ?_) (fun c3 => ?_)
      · refine ev_iconst (dMo_liesDown.at 16 rfl) kI_0 ?_
        exact ev_zret (dMo_liesDown.at 17 rfl) rfl (by decide) (k3 c1 c2 c3)
      · refine ev_iconst (dMo_liesDown.at 14 rfl) kI_1 ?_
        refine ev_goto (tgt := 29) (dMo_liesDown.at 15 rfl) rfl ?_
        exact ev_zret (dMo_liesDown.at 17 rfl) rfl (by decide) (k4 c1 c2 c3)
set_option maxHeartbeats 4000000 in
theorem bMo_liesAll_0 {d : Nat} {w : sx_W} {Q : sx_Q}
    (k1 : sx_ev d rMo_liesAll 2 [.ref 48, .int (0 : Int32), .null, .null, .null] [] w Q) :
    sx_ev d rMo_liesAll 0 [.ref 48, .null, .null, .null, .null] [] w Q := by
  refine ev_iconst (dMo_liesAll.at 0 rfl) kI_0 ?_
  refine ev_istore_n (dMo_liesAll.at 1 rfl) (by decide) rfl ?_
  exact k1
set_option maxHeartbeats 4000000 in
theorem bMo_liesAll_2 {d : Nat} {w : sx_W} {Q : sx_Q} {x1 : Int32}
    (k1 : ((8 : Int32) ≤ x1) → Q 0 0 w)
    (k2 : (¬ (8 : Int32) ≤ x1) → sx_ev d rMo_liesAll 12 [.ref 48, .int x1, .int (0 : Int32), .int (0 : Int32), .null] [] w Q) :
    sx_ev d rMo_liesAll 2 [.ref 48, .int x1, .null, .null, .null] [] w Q := by
  refine ev_iload_n (dMo_liesAll.at 2 rfl) rfl ?_
  refine ev_bipush (dMo_liesAll.at 3 rfl) kB_8 ?_
  refine ev_icmp_ge (tgt := 180) (dMo_liesAll.at 4 rfl) rfl (fun c1 => ?_) (fun c1 => ?_)
  · exact ev_vret (dMo_liesAll.at 109 rfl) rfl (k1 c1)
  · refine ev_iconst (dMo_liesAll.at 5 rfl) kI_0 ?_
    refine ev_istore_n (dMo_liesAll.at 6 rfl) (by decide) rfl ?_
    refine ev_iconst (dMo_liesAll.at 7 rfl) kI_0 ?_
    refine ev_istore_n (dMo_liesAll.at 8 rfl) (by decide) rfl ?_
    exact (k2 c1)
set_option maxHeartbeats 4000000 in
theorem bMo_liesAll_12 {d : Nat} {w : sx_W} {Q : sx_Q} {x1 : Int32} {x2 : Int32} {x3 : Int32} {f1 : Int32} {f2 : Int32}
    (k1 : ((w.1 48 0) ≤ x3) → sx_ev (d + 1) rMo_liesAll 112 [.ref 48, .int x1, .int x2, .int (0 : Int32), .null] [] w Q)
    (m1 : (¬ (w.1 48 0) ≤ x3) → sx_de d rMo_isAsleep [.ref 48, .int x3, .int x1] w f1 0 w)
    (o1 : (¬ (w.1 48 0) ≤ x3) → (f1 = 0) → vp_in (((8 : Int32) * x3) + x1) 56)
    (k2 : (¬ (w.1 48 0) ≤ x3) → (f1 = 0) → sx_ev (d + 1) rMo_liesAll 12 [.ref 48, .int x1, .int (x2 ||| (0 : Int32)), .int (x3 + (1 : Int32)), .null] [] ((sx_u w.1 55 (((8 : Int32) * x3) + x1).toNatClampNeg (-4 : Int32)), w.2) Q)
    (m2 : (¬ (w.1 48 0) ≤ x3) → (¬ f1 = 0) → sx_de d rMo_liesDown [.ref 48, .int x3, .int x1] w f2 0 w)
    (o2 : (¬ (w.1 48 0) ≤ x3) → (¬ f1 = 0) → (¬ f2 = 0) → vp_in (((8 : Int32) * x3) + x1) 56)
    (k3 : (¬ (w.1 48 0) ≤ x3) → (¬ f1 = 0) → (¬ f2 = 0) → sx_ev (d + 1) rMo_liesAll 12 [.ref 48, .int x1, .int (x2 ||| (0 : Int32)), .int (x3 + (1 : Int32)), .null] [] ((sx_u w.1 55 (((8 : Int32) * x3) + x1).toNatClampNeg (-4 : Int32)), w.2) Q)
    (o3 : (¬ (w.1 48 0) ≤ x3) → (¬ f1 = 0) → (f2 = 0) → vp_in ((((8 : Int32) * x3) + x1) - (1 : Int32)) 56)
    (o4 : (¬ (w.1 48 0) ≤ x3) → (¬ f1 = 0) → (f2 = 0) → vp_in (((8 : Int32) * x3) + x1) 56)
    (k4 : (¬ (w.1 48 0) ≤ x3) → (¬ f1 = 0) → (f2 = 0) → sx_ev (d + 1) rMo_liesAll 12 [.ref 48, .int x1, .int (x2 ||| ((1 : Int32) <<< (((upd (w.1 55) (((8 : Int32) * x3) + x1).toNatClampNeg (w.1 55 ((((8 : Int32) * x3) + x1) - (1 : Int32)).toNatClampNeg)) (((8 : Int32) * x3) + x1).toNatClampNeg) &&& 31))), .int (x3 + (1 : Int32)), .null] [] ((sx_u w.1 55 (((8 : Int32) * x3) + x1).toNatClampNeg (w.1 55 ((((8 : Int32) * x3) + x1) - (1 : Int32)).toNatClampNeg)), w.2) Q) :
    sx_ev (d + 1) rMo_liesAll 12 [.ref 48, .int x1, .int x2, .int x3, .null] [] w Q := by
  refine ev_iload_n (dMo_liesAll.at 9 rfl) rfl ?_
  refine ev_aload_n (dMo_liesAll.at 10 rfl) rfl ?_
  refine ev_get (dMo_liesAll.at 11 rfl) (own := 8) rfl fkMo_66 rfl rfl ?_
  refine ev_icmp_ge (tgt := 110) (dMo_liesAll.at 12 rfl) rfl (fun c1 => ?_) (fun c1 => ?_)
  · refine ev_iconst (dMo_liesAll.at 68 rfl) kI_0 ?_
    refine ev_istore_n (dMo_liesAll.at 69 rfl) (by decide) rfl ?_
    exact (k1 c1)
  · refine ev_aload_n (dMo_liesAll.at 13 rfl) rfl ?_
    refine ev_iload_n (dMo_liesAll.at 14 rfl) rfl ?_
    refine ev_iload_n (dMo_liesAll.at 15 rfl) rfl ?_
    refine ev_cVi (dMo_liesAll.at 16 rfl) (As := [.int x3, .int x1]) (own := 8) rfl ckMo_141 rfl (Or.inr rfl) rfl (Nat.le_of_ble_eq_true rfl) rfl (m1 c1) ?_
    refine ev_if_eq (tgt := 42) (dMo_liesAll.at 17 rfl) rfl (fun c2 => ?_) (fun c2 => ?_)
    · refine ev_iconst (dMo_liesAll.at 25 rfl) kI_0 ?_
      refine ev_istore (dMo_liesAll.at 26 rfl) (by decide) rfl ?_
      refine ev_aload_n (dMo_liesAll.at 27 rfl) rfl ?_
      refine ev_getr (dMo_liesAll.at 28 rfl) (own := 8) rfl fkMo_28 rfl rfl ?_
      refine ev_bipush (dMo_liesAll.at 29 rfl) kB_8 ?_
      refine ev_iload_n (dMo_liesAll.at 30 rfl) rfl ?_
      refine ev_imul (dMo_liesAll.at 31 rfl) ?_
      refine ev_iload_n (dMo_liesAll.at 32 rfl) rfl ?_
      refine ev_iadd (dMo_liesAll.at 33 rfl) ?_
      refine ev_iload (dMo_liesAll.at 34 rfl) rfl ?_
      refine ev_if_eq (tgt := 76) (dMo_liesAll.at 35 rfl) rfl (fun _ => ?_) (fun h => absurd h (by decide))
      refine ev_bipush (dMo_liesAll.at 47 rfl) kB_m4 ?_
      refine ev_iastore (dMo_liesAll.at 48 rfl) rfl (o1 c1 c2) ?_
      refine ev_iload_n (dMo_liesAll.at 49 rfl) rfl ?_
      refine ev_iload (dMo_liesAll.at 50 rfl) rfl ?_
      refine ev_if_eq (tgt := 101) (dMo_liesAll.at 51 rfl) rfl (fun _ => ?_) (fun h => absurd h (by decide))
      refine ev_iconst (dMo_liesAll.at 63 rfl) kI_0 ?_
      refine ev_ior (dMo_liesAll.at 64 rfl) ?_
      refine ev_istore_n (dMo_liesAll.at 65 rfl) (by decide) rfl ?_
      refine ev_iinc (dMo_liesAll.at 66 rfl) kI_1 rfl (by decide) rfl ?_
      refine ev_goto (tgt := 12) (dMo_liesAll.at 67 rfl) rfl ?_
      refine ev_kp [true, true, true, true, false] rfl ?_
      exact (k2 c1 c2)
    · refine ev_aload_n (dMo_liesAll.at 18 rfl) rfl ?_
      refine ev_iload_n (dMo_liesAll.at 19 rfl) rfl ?_
      refine ev_iload_n (dMo_liesAll.at 20 rfl) rfl ?_
      refine ev_cVi (dMo_liesAll.at 21 rfl) (As := [.int x3, .int x1]) (own := 8) rfl ckMo_144 rfl (Or.inr rfl) rfl (Nat.le_of_ble_eq_true rfl) rfl (m2 c1 c2) ?_
      refine ev_if_ne (tgt := 42) (dMo_liesAll.at 22 rfl) rfl (fun c3 => ?_) (fun c3 => ?_)
      · refine ev_iconst (dMo_liesAll.at 25 rfl) kI_0 ?_
        refine ev_istore (dMo_liesAll.at 26 rfl) (by decide) rfl ?_
        refine ev_aload_n (dMo_liesAll.at 27 rfl) rfl ?_
        refine ev_getr (dMo_liesAll.at 28 rfl) (own := 8) rfl fkMo_28 rfl rfl ?_
        refine ev_bipush (dMo_liesAll.at 29 rfl) kB_8 ?_
        refine ev_iload_n (dMo_liesAll.at 30 rfl) rfl ?_
        refine ev_imul (dMo_liesAll.at 31 rfl) ?_
        refine ev_iload_n (dMo_liesAll.at 32 rfl) rfl ?_
        refine ev_iadd (dMo_liesAll.at 33 rfl) ?_
        refine ev_iload (dMo_liesAll.at 34 rfl) rfl ?_
        refine ev_if_eq (tgt := 76) (dMo_liesAll.at 35 rfl) rfl (fun _ => ?_) (fun h => absurd h (by decide))
        refine ev_bipush (dMo_liesAll.at 47 rfl) kB_m4 ?_
        refine ev_iastore (dMo_liesAll.at 48 rfl) rfl (o2 c1 c2 c3) ?_
        refine ev_iload_n (dMo_liesAll.at 49 rfl) rfl ?_
        refine ev_iload (dMo_liesAll.at 50 rfl) rfl ?_
        refine ev_if_eq (tgt := 101) (dMo_liesAll.at 51 rfl) rfl (fun _ => ?_) (fun h => absurd h (by decide))
        refine ev_iconst (dMo_liesAll.at 63 rfl) kI_0 ?_
        refine ev_ior (dMo_liesAll.at 64 rfl) ?_
        refine ev_istore_n (dMo_liesAll.at 65 rfl) (by decide) rfl ?_
        refine ev_iinc (dMo_liesAll.at 66 rfl) kI_1 rfl (by decide) rfl ?_
        refine ev_goto (tgt := 12) (dMo_liesAll.at 67 rfl) rfl ?_
        refine ev_kp [true, true, true, true, false] rfl ?_
        exact (k3 c1 c2 c3)
      · refine ev_iconst (dMo_liesAll.at 23 rfl) kI_1 ?_
        refine ev_goto (tgt := 43) (dMo_liesAll.at 24 rfl) rfl ?_
        refine ev_istore (dMo_liesAll.at 26 rfl) (by decide) rfl ?_
        refine ev_aload_n (dMo_liesAll.at 27 rfl) rfl ?_
        refine ev_getr (dMo_liesAll.at 28 rfl) (own := 8) rfl fkMo_28 rfl rfl ?_
        refine ev_bipush (dMo_liesAll.at 29 rfl) kB_8 ?_
        refine ev_iload_n (dMo_liesAll.at 30 rfl) rfl ?_
        refine ev_imul (dMo_liesAll.at 31 rfl) ?_
        refine ev_iload_n (dMo_liesAll.at 32 rfl) rfl ?_
        refine ev_iadd (dMo_liesAll.at 33 rfl) ?_
        refine ev_iload (dMo_liesAll.at 34 rfl) rfl ?_
        refine ev_if_eq (tgt := 76) (dMo_liesAll.at 35 rfl) rfl (fun h => absurd h (by decide)) (fun _ => ?_)
        refine ev_aload_n (dMo_liesAll.at 36 rfl) rfl ?_
        refine ev_getr (dMo_liesAll.at 37 rfl) (own := 8) rfl fkMo_28 rfl rfl ?_
        refine ev_bipush (dMo_liesAll.at 38 rfl) kB_8 ?_
        refine ev_iload_n (dMo_liesAll.at 39 rfl) rfl ?_
        refine ev_imul (dMo_liesAll.at 40 rfl) ?_
        refine ev_iload_n (dMo_liesAll.at 41 rfl) rfl ?_
        refine ev_iadd (dMo_liesAll.at 42 rfl) ?_
        refine ev_iconst (dMo_liesAll.at 43 rfl) kI_1 ?_
        refine ev_isub (dMo_liesAll.at 44 rfl) ?_
        refine ev_iaload (dMo_liesAll.at 45 rfl) rfl (o3 c1 c2 c3) ?_
        refine ev_goto (tgt := 78) (dMo_liesAll.at 46 rfl) rfl ?_
        refine ev_iastore (dMo_liesAll.at 48 rfl) rfl (o4 c1 c2 c3) ?_
        refine ev_iload_n (dMo_liesAll.at 49 rfl) rfl ?_
        refine ev_iload (dMo_liesAll.at 50 rfl) rfl ?_
        refine ev_if_eq (tgt := 101) (dMo_liesAll.at 51 rfl) rfl (fun h => absurd h (by decide)) (fun _ => ?_)
        refine ev_iconst (dMo_liesAll.at 52 rfl) kI_1 ?_
        refine ev_aload_n (dMo_liesAll.at 53 rfl) rfl ?_
        refine ev_getr (dMo_liesAll.at 54 rfl) (own := 8) rfl fkMo_28 rfl rfl ?_
        refine ev_bipush (dMo_liesAll.at 55 rfl) kB_8 ?_
        refine ev_iload_n (dMo_liesAll.at 56 rfl) rfl ?_
        refine ev_imul (dMo_liesAll.at 57 rfl) ?_
        refine ev_iload_n (dMo_liesAll.at 58 rfl) rfl ?_
        refine ev_iadd (dMo_liesAll.at 59 rfl) ?_
        refine ev_iaload (dMo_liesAll.at 60 rfl) rfl (o4 c1 c2 c3) ?_
        refine ev_ishl (dMo_liesAll.at 61 rfl) ?_
        refine ev_goto (tgt := 102) (dMo_liesAll.at 62 rfl) rfl ?_
        refine ev_ior (dMo_liesAll.at 64 rfl) ?_
        refine ev_istore_n (dMo_liesAll.at 65 rfl) (by decide) rfl ?_
        refine ev_iinc (dMo_liesAll.at 66 rfl) kI_1 rfl (by decide) rfl ?_
        refine ev_goto (tgt := 12) (dMo_liesAll.at 67 rfl) rfl ?_
        refine ev_kp [true, true, true, true, false] rfl ?_
        exact (k4 c1 c2 c3)
set_option maxHeartbeats 4000000 in
theorem bMo_liesAll_112 {d : Nat} {w : sx_W} {Q : sx_Q} {x1 : Int32} {x2 : Int32} {x3 : Int32} {f1 : Int32}
    (k1 : ((w.1 48 0) ≤ x3) → sx_ev (d + 1) rMo_liesAll 2 [.ref 48, .int (x1 + (1 : Int32)), .null, .null, .null] [] w Q)
    (m1 : (¬ (w.1 48 0) ≤ x3) → sx_de d rMo_liesDown [.ref 48, .int x3, .int x1] w f1 0 w)
    (k2 : (¬ (w.1 48 0) ≤ x3) → (f1 = 0) → sx_ev (d + 1) rMo_liesAll 112 [.ref 48, .int x1, .int x2, .int (x3 + (1 : Int32)), .null] [] w Q)
    (k3 : (¬ (w.1 48 0) ≤ x3) → (¬ f1 = 0) → sx_ev (d + 1) rMo_liesAll 132 [.ref 48, .int x1, .int x2, .int x3, .int (0 : Int32)] [] w Q) :
    sx_ev (d + 1) rMo_liesAll 112 [.ref 48, .int x1, .int x2, .int x3, .null] [] w Q := by
  refine ev_iload_n (dMo_liesAll.at 70 rfl) rfl ?_
  refine ev_aload_n (dMo_liesAll.at 71 rfl) rfl ?_
  refine ev_get (dMo_liesAll.at 72 rfl) (own := 8) rfl fkMo_66 rfl rfl ?_
  refine ev_icmp_ge (tgt := 174) (dMo_liesAll.at 73 rfl) rfl (fun c1 => ?_) (fun c1 => ?_)
  · refine ev_iinc (dMo_liesAll.at 107 rfl) kI_1 rfl (by decide) rfl ?_
    refine ev_goto (tgt := 2) (dMo_liesAll.at 108 rfl) rfl ?_
    refine ev_kp [true, true, false, false, false] rfl ?_
    exact (k1 c1)
  · refine ev_aload_n (dMo_liesAll.at 74 rfl) rfl ?_
    refine ev_iload_n (dMo_liesAll.at 75 rfl) rfl ?_
    refine ev_iload_n (dMo_liesAll.at 76 rfl) rfl ?_
    refine ev_cVi (dMo_liesAll.at 77 rfl) (As := [.int x3, .int x1]) (own := 8) rfl ckMo_144 rfl (Or.inr rfl) rfl (Nat.le_of_ble_eq_true rfl) rfl (m1 c1) ?_
    refine ev_if_eq (tgt := 168) (dMo_liesAll.at 78 rfl) rfl (fun c2 => ?_) (fun c2 => ?_)
    · refine ev_iinc (dMo_liesAll.at 105 rfl) kI_1 rfl (by decide) rfl ?_
      refine ev_goto (tgt := 112) (dMo_liesAll.at 106 rfl) rfl ?_
      exact (k2 c1 c2)
    · refine ev_iconst (dMo_liesAll.at 79 rfl) kI_0 ?_
      refine ev_istore (dMo_liesAll.at 80 rfl) (by decide) rfl ?_
      exact (k3 c1 c2)
set_option maxHeartbeats 4000000 in
theorem bMo_liesAll_132 {d : Nat} {w : sx_W} {Q : sx_Q} {x1 : Int32} {x2 : Int32} {x3 : Int32} {x4 : Int32}
    (o1 : (¬ ((x2 >>> (x4 &&& 31)) &&& (1 : Int32)) = (1 : Int32)) → vp_in (((8 : Int32) * x3) + x1) 56)
    (k1 : (¬ ((x2 >>> (x4 &&& 31)) &&& (1 : Int32)) = (1 : Int32)) → sx_ev d rMo_liesAll 112 [.ref 48, .int x1, .int (x2 ||| ((1 : Int32) <<< (x4 &&& 31))), .int (x3 + (1 : Int32)), .null] [] ((sx_u w.1 55 (((8 : Int32) * x3) + x1).toNatClampNeg x4), w.2) Q)
    (k2 : (((x2 >>> (x4 &&& 31)) &&& (1 : Int32)) = (1 : Int32)) → sx_ev d rMo_liesAll 132 [.ref 48, .int x1, .int x2, .int x3, .int (x4 + (1 : Int32))] [] w Q) :
    sx_ev d rMo_liesAll 132 [.ref 48, .int x1, .int x2, .int x3, .int x4] [] w Q := by
  refine ev_iload_n (dMo_liesAll.at 81 rfl) rfl ?_
  refine ev_iload (dMo_liesAll.at 82 rfl) rfl ?_
  refine ev_ishr (dMo_liesAll.at 83 rfl) ?_
  refine ev_iconst (dMo_liesAll.at 84 rfl) kI_1 ?_
  refine ev_iand (dMo_liesAll.at 85 rfl) ?_
  refine ev_iconst (dMo_liesAll.at 86 rfl) kI_1 ?_
  refine ev_icmp_ne (tgt := 148) (dMo_liesAll.at 87 rfl) rfl (fun c1 => ?_) (fun c1 => ?_)
  · refine ev_aload_n (dMo_liesAll.at 90 rfl) rfl ?_
    refine ev_getr (dMo_liesAll.at 91 rfl) (own := 8) rfl fkMo_28 rfl rfl ?_
    refine ev_bipush (dMo_liesAll.at 92 rfl) kB_8 ?_
    refine ev_iload_n (dMo_liesAll.at 93 rfl) rfl ?_
    refine ev_imul (dMo_liesAll.at 94 rfl) ?_
    refine ev_iload_n (dMo_liesAll.at 95 rfl) rfl ?_
    refine ev_iadd (dMo_liesAll.at 96 rfl) ?_
    refine ev_iload (dMo_liesAll.at 97 rfl) rfl ?_
    refine ev_iastore (dMo_liesAll.at 98 rfl) rfl (o1 c1) ?_
    refine ev_iload_n (dMo_liesAll.at 99 rfl) rfl ?_
    refine ev_iconst (dMo_liesAll.at 100 rfl) kI_1 ?_
    refine ev_iload (dMo_liesAll.at 101 rfl) rfl ?_
    refine ev_ishl (dMo_liesAll.at 102 rfl) ?_
    refine ev_ior (dMo_liesAll.at 103 rfl) ?_
    refine ev_istore_n (dMo_liesAll.at 104 rfl) (by decide) rfl ?_
    refine ev_iinc (dMo_liesAll.at 105 rfl) kI_1 rfl (by decide) rfl ?_
    refine ev_goto (tgt := 112) (dMo_liesAll.at 106 rfl) rfl ?_
    refine ev_kp [true, true, true, true, false] rfl ?_
    exact (k1 c1)
  · refine ev_iinc (dMo_liesAll.at 88 rfl) kI_1 rfl (by decide) rfl ?_
    refine ev_goto (tgt := 132) (dMo_liesAll.at 89 rfl) rfl ?_
    exact (k2 c1)
set_option maxHeartbeats 4000000 in
theorem bMo_bed_0 {d : Nat} {w : sx_W} {Q : sx_Q} {x1 : Int32} {x2 : Int32} {f1 : Int32} {f2 : Int32} {f3 : Int32} {w4 : sx_W}
    (m1 : sx_de d rMo_isLodger [.ref 48, .int x1] w f1 0 w)
    (k1 : (f1 = 0) → Q (-1 : Int32) 0 w)
    (m2 : (¬ f1 = 0) → sx_de d rMo_isPart [.long (x2).toInt64] w f2 0 w)
    (m3 : (¬ f1 = 0) → (¬ f2 = 0) → sx_de d rMo_isGood [.ref 48] w f3 0 w)
    (m4 : (¬ f1 = 0) → (¬ f2 = 0) → (¬ f3 = 0) → sx_de d rMo_liesAll [.ref 48] w 0 0 w4)
    (o1 : (¬ f1 = 0) → (¬ f2 = 0) → (¬ f3 = 0) → vp_in (((8 : Int32) * x1) + x2) 56)
    (k2 : (¬ f1 = 0) → (¬ f2 = 0) → (¬ f3 = 0) → Q (w4.1 55 (((8 : Int32) * x1) + x2).toNatClampNeg) 0 w4)
    (k3 : (¬ f1 = 0) → (¬ f2 = 0) → (f3 = 0) → Q (-2 : Int32) 0 w)
    (k4 : (¬ f1 = 0) → (f2 = 0) → Q (-1 : Int32) 0 w) :
    sx_ev (d + 1) rMo_bed 0 [.ref 48, .int x1, .int x2] [] w Q := by
  refine ev_aload_n (dMo_bed.at 0 rfl) rfl ?_
  refine ev_iload_n (dMo_bed.at 1 rfl) rfl ?_
  refine ev_cVi (dMo_bed.at 2 rfl) (As := [.int x1]) (own := 8) rfl ckMo_89 rfl (Or.inr rfl) rfl (Nat.le_of_ble_eq_true rfl) rfl m1 ?_
  refine ev_if_eq (tgt := 16) (dMo_bed.at 3 rfl) rfl (fun c1 => ?_) (fun c1 => ?_)
  · refine ev_iconst (dMo_bed.at 8 rfl) kI_m1 ?_
    exact ev_iret (dMo_bed.at 9 rfl) rfl (k1 c1)
  · refine ev_iload_n (dMo_bed.at 4 rfl) rfl ?_
    refine ev_i2l (dMo_bed.at 5 rfl) ?_
    refine ev_cSi (dMo_bed.at 6 rfl) (As := [.long (x2).toInt64]) (own := 8) rfl ckMo_105 (Or.inr rfl) rfl (Nat.le_of_ble_eq_true rfl) rfl (m2 c1) ?_
    refine ev_if_ne (tgt := 18) (dMo_bed.at 7 rfl) rfl (fun c2 => ?_) (fun c2 => ?_)
    · refine ev_aload_n (dMo_bed.at 10 rfl) rfl ?_
      refine ev_cVi (dMo_bed.at 11 rfl) (As := []) (own := 8) rfl ckMo_119 rfl (Or.inr rfl) rfl (Nat.le_of_ble_eq_true rfl) rfl (m3 c1 c2) ?_
      refine ev_if_ne (tgt := 28) (dMo_bed.at 12 rfl) rfl (fun c3 => ?_) (fun c3 => ?_)
      · refine ev_aload_n (dMo_bed.at 15 rfl) rfl ?_
        refine ev_cVv (dMo_bed.at 16 rfl) (As := []) (own := 8) rfl ckMo_147 rfl rfl rfl (Nat.le_of_ble_eq_true rfl) rfl (m4 c1 c2 c3) ?_
        refine ev_aload_n (dMo_bed.at 17 rfl) rfl ?_
        refine ev_getr (dMo_bed.at 18 rfl) (own := 8) rfl fkMo_28 rfl rfl ?_
        refine ev_bipush (dMo_bed.at 19 rfl) kB_8 ?_
        refine ev_iload_n (dMo_bed.at 20 rfl) rfl ?_
        refine ev_imul (dMo_bed.at 21 rfl) ?_
        refine ev_iload_n (dMo_bed.at 22 rfl) rfl ?_
        refine ev_iadd (dMo_bed.at 23 rfl) ?_
        refine ev_iaload (dMo_bed.at 24 rfl) rfl (o1 c1 c2 c3) ?_
        exact ev_iret (dMo_bed.at 25 rfl) rfl (k2 c1 c2 c3)
      · refine ev_bipush (dMo_bed.at 13 rfl) kB_m2 ?_
        exact ev_iret (dMo_bed.at 14 rfl) rfl (k3 c1 c2 c3)
    · refine ev_iconst (dMo_bed.at 8 rfl) kI_m1 ?_
      exact ev_iret (dMo_bed.at 9 rfl) rfl (k4 c1 c2)
set_option maxHeartbeats 4000000 in
theorem bMo_days_0 {d : Nat} {w : sx_W} {Q : sx_Q} {x1 : Int32}
    (k1 : sx_ev d rMo_days 4 [.ref 48, .int x1, .int (0 : Int32), .int (0 : Int32), .null, .null, .null, .null] [] w Q) :
    sx_ev d rMo_days 0 [.ref 48, .int x1, .null, .null, .null, .null, .null, .null] [] w Q := by
  refine ev_iconst (dMo_days.at 0 rfl) kI_0 ?_
  refine ev_istore_n (dMo_days.at 1 rfl) (by decide) rfl ?_
  refine ev_iconst (dMo_days.at 2 rfl) kI_0 ?_
  refine ev_istore_n (dMo_days.at 3 rfl) (by decide) rfl ?_
  exact k1
set_option maxHeartbeats 4000000 in
theorem bMo_days_4 {d : Nat} {w : sx_W} {Q : sx_Q} {x1 : Int32} {x2 : Int32} {x3 : Int32}
    (k1 : ((8 : Int32) ≤ x3) → Q x2 0 w)
    (k2 : (¬ (8 : Int32) ≤ x3) → sx_ev d rMo_days 13 [.ref 48, .int x1, .int x2, .int x3, .int (0 : Int32), .null, .null, .null] [] w Q) :
    sx_ev d rMo_days 4 [.ref 48, .int x1, .int x2, .int x3, .null, .null, .null, .null] [] w Q := by
  refine ev_iload_n (dMo_days.at 4 rfl) rfl ?_
  refine ev_bipush (dMo_days.at 5 rfl) kB_8 ?_
  refine ev_icmp_ge (tgt := 213) (dMo_days.at 6 rfl) rfl (fun c1 => ?_) (fun c1 => ?_)
  · refine ev_iload_n (dMo_days.at 113 rfl) rfl ?_
    exact ev_iret (dMo_days.at 114 rfl) rfl (k1 c1)
  · refine ev_iconst (dMo_days.at 7 rfl) kI_0 ?_
    refine ev_istore (dMo_days.at 8 rfl) (by decide) rfl ?_
    exact (k2 c1)
set_option maxHeartbeats 4000000 in
theorem bMo_days_13 {d : Nat} {w : sx_W} {Q : sx_Q} {x1 : Int32} {x2 : Int32} {x3 : Int32} {x4 : Int32} {f1 : Int32}
    (k1 : ((w.1 48 0) ≤ x4) → sx_ev (d + 1) rMo_days 163 [.ref 48, .int x1, .int x2, .int x3, .int (0 : Int32), .null, .null, .null] [] w Q)
    (m1 : (¬ (w.1 48 0) ≤ x4) → sx_de d rMo_liesDown [.ref 48, .int x4, .int x3] w f1 0 w)
    (k2 : (¬ (w.1 48 0) ≤ x4) → (f1 = 0) → sx_ev (d + 1) rMo_days 13 [.ref 48, .int x1, .int x2, .int x3, .int (x4 + (1 : Int32)), .null, .null, .null] [] w Q)
    (o1 : (¬ (w.1 48 0) ≤ x4) → (¬ f1 = 0) → vp_in (((8 : Int32) * x4) + x3) 56)
    (o2 : (¬ (w.1 48 0) ≤ x4) → (¬ f1 = 0) → vp_in (w.1 55 (((8 : Int32) * x4) + x3).toNatClampNeg) 7)
    (o3 : (¬ (w.1 48 0) ≤ x4) → (¬ f1 = 0) → ((w.1 56 (w.1 55 (((8 : Int32) * x4) + x3).toNatClampNeg).toNatClampNeg) < 0) → vp_in x4 7)
    (k3 : (¬ (w.1 48 0) ≤ x4) → (¬ f1 = 0) → ((w.1 56 (w.1 55 (((8 : Int32) * x4) + x3).toNatClampNeg).toNatClampNeg) < 0) → sx_ev (d + 1) rMo_days 13 [.ref 48, .int x1, .int (x2 + (0 : Int32)), .int x3, .int (x4 + (1 : Int32)), .null, .null, .null] [] ((sx_u w.1 57 x4.toNatClampNeg (w.1 57 x4.toNatClampNeg)), w.2) Q)
    (o4 : (¬ (w.1 48 0) ≤ x4) → (¬ f1 = 0) → (¬ (w.1 56 (w.1 55 (((8 : Int32) * x4) + x3).toNatClampNeg).toNatClampNeg) < 0) → ((w.1 56 (w.1 55 (((8 : Int32) * x4) + x3).toNatClampNeg).toNatClampNeg) = x4) → vp_in x4 7)
    (k4 : (¬ (w.1 48 0) ≤ x4) → (¬ f1 = 0) → (¬ (w.1 56 (w.1 55 (((8 : Int32) * x4) + x3).toNatClampNeg).toNatClampNeg) < 0) → ((w.1 56 (w.1 55 (((8 : Int32) * x4) + x3).toNatClampNeg).toNatClampNeg) = x4) → sx_ev (d + 1) rMo_days 13 [.ref 48, .int x1, .int (x2 + (0 : Int32)), .int x3, .int (x4 + (1 : Int32)), .null, .null, .null] [] ((sx_u w.1 57 x4.toNatClampNeg (w.1 57 x4.toNatClampNeg)), w.2) Q)
    (o5 : (¬ (w.1 48 0) ≤ x4) → (¬ f1 = 0) → (¬ (w.1 56 (w.1 55 (((8 : Int32) * x4) + x3).toNatClampNeg).toNatClampNeg) < 0) → (¬ (w.1 56 (w.1 55 (((8 : Int32) * x4) + x3).toNatClampNeg).toNatClampNeg) = x4) → vp_in (w.1 56 (w.1 55 (((8 : Int32) * x4) + x3).toNatClampNeg).toNatClampNeg) 7)
    (o6 : (¬ (w.1 48 0) ≤ x4) → (¬ f1 = 0) → (¬ (w.1 56 (w.1 55 (((8 : Int32) * x4) + x3).toNatClampNeg).toNatClampNeg) < 0) → (¬ (w.1 56 (w.1 55 (((8 : Int32) * x4) + x3).toNatClampNeg).toNatClampNeg) = x4) → ((w.1 57 (w.1 56 (w.1 55 (((8 : Int32) * x4) + x3).toNatClampNeg).toNatClampNeg).toNatClampNeg) < 0) → vp_in x4 7)
    (k5 : (¬ (w.1 48 0) ≤ x4) → (¬ f1 = 0) → (¬ (w.1 56 (w.1 55 (((8 : Int32) * x4) + x3).toNatClampNeg).toNatClampNeg) < 0) → (¬ (w.1 56 (w.1 55 (((8 : Int32) * x4) + x3).toNatClampNeg).toNatClampNeg) = x4) → ((w.1 57 (w.1 56 (w.1 55 (((8 : Int32) * x4) + x3).toNatClampNeg).toNatClampNeg).toNatClampNeg) < 0) → sx_ev (d + 1) rMo_days 13 [.ref 48, .int x1, .int (x2 + (1 : Int32)), .int x3, .int (x4 + (1 : Int32)), .null, .null, .null] [] ((sx_u w.1 57 x4.toNatClampNeg (w.1 57 x4.toNatClampNeg)), w.2) Q)
    (o7 : (¬ (w.1 48 0) ≤ x4) → (¬ f1 = 0) → (¬ (w.1 56 (w.1 55 (((8 : Int32) * x4) + x3).toNatClampNeg).toNatClampNeg) < 0) → (¬ (w.1 56 (w.1 55 (((8 : Int32) * x4) + x3).toNatClampNeg).toNatClampNeg) = x4) → (¬ (w.1 57 (w.1 56 (w.1 55 (((8 : Int32) * x4) + x3).toNatClampNeg).toNatClampNeg).toNatClampNeg) < 0) → (((w.1 57 (w.1 56 (w.1 55 (((8 : Int32) * x4) + x3).toNatClampNeg).toNatClampNeg).toNatClampNeg) + (w.1 48 7)) < x1) → vp_in x4 7)
    (k6 : (¬ (w.1 48 0) ≤ x4) → (¬ f1 = 0) → (¬ (w.1 56 (w.1 55 (((8 : Int32) * x4) + x3).toNatClampNeg).toNatClampNeg) < 0) → (¬ (w.1 56 (w.1 55 (((8 : Int32) * x4) + x3).toNatClampNeg).toNatClampNeg) = x4) → (¬ (w.1 57 (w.1 56 (w.1 55 (((8 : Int32) * x4) + x3).toNatClampNeg).toNatClampNeg).toNatClampNeg) < 0) → (((w.1 57 (w.1 56 (w.1 55 (((8 : Int32) * x4) + x3).toNatClampNeg).toNatClampNeg).toNatClampNeg) + (w.1 48 7)) < x1) → sx_ev (d + 1) rMo_days 13 [.ref 48, .int x1, .int (x2 + (1 : Int32)), .int x3, .int (x4 + (1 : Int32)), .null, .null, .null] [] ((sx_u w.1 57 x4.toNatClampNeg (w.1 57 x4.toNatClampNeg)), w.2) Q)
    (o8 : (¬ (w.1 48 0) ≤ x4) → (¬ f1 = 0) → (¬ (w.1 56 (w.1 55 (((8 : Int32) * x4) + x3).toNatClampNeg).toNatClampNeg) < 0) → (¬ (w.1 56 (w.1 55 (((8 : Int32) * x4) + x3).toNatClampNeg).toNatClampNeg) = x4) → (¬ (w.1 57 (w.1 56 (w.1 55 (((8 : Int32) * x4) + x3).toNatClampNeg).toNatClampNeg).toNatClampNeg) < 0) → (¬ ((w.1 57 (w.1 56 (w.1 55 (((8 : Int32) * x4) + x3).toNatClampNeg).toNatClampNeg).toNatClampNeg) + (w.1 48 7)) < x1) → vp_in x4 7)
    (k7 : (¬ (w.1 48 0) ≤ x4) → (¬ f1 = 0) → (¬ (w.1 56 (w.1 55 (((8 : Int32) * x4) + x3).toNatClampNeg).toNatClampNeg) < 0) → (¬ (w.1 56 (w.1 55 (((8 : Int32) * x4) + x3).toNatClampNeg).toNatClampNeg) = x4) → (¬ (w.1 57 (w.1 56 (w.1 55 (((8 : Int32) * x4) + x3).toNatClampNeg).toNatClampNeg).toNatClampNeg) < 0) → (¬ ((w.1 57 (w.1 56 (w.1 55 (((8 : Int32) * x4) + x3).toNatClampNeg).toNatClampNeg).toNatClampNeg) + (w.1 48 7)) < x1) → (0 ≤ (w.1 57 x4.toNatClampNeg)) → sx_ev (d + 1) rMo_days 13 [.ref 48, .int x1, .int (x2 + (1 : Int32)), .int x3, .int (x4 + (1 : Int32)), .null, .null, .null] [] ((sx_u w.1 57 x4.toNatClampNeg (w.1 57 x4.toNatClampNeg)), w.2) Q)
    (k8 : (¬ (w.1 48 0) ≤ x4) → (¬ f1 = 0) → (¬ (w.1 56 (w.1 55 (((8 : Int32) * x4) + x3).toNatClampNeg).toNatClampNeg) < 0) → (¬ (w.1 56 (w.1 55 (((8 : Int32) * x4) + x3).toNatClampNeg).toNatClampNeg) = x4) → (¬ (w.1 57 (w.1 56 (w.1 55 (((8 : Int32) * x4) + x3).toNatClampNeg).toNatClampNeg).toNatClampNeg) < 0) → (¬ ((w.1 57 (w.1 56 (w.1 55 (((8 : Int32) * x4) + x3).toNatClampNeg).toNatClampNeg).toNatClampNeg) + (w.1 48 7)) < x1) → (¬ 0 ≤ (w.1 57 x4.toNatClampNeg)) → sx_ev (d + 1) rMo_days 13 [.ref 48, .int x1, .int (x2 + (1 : Int32)), .int x3, .int (x4 + (1 : Int32)), .null, .null, .null] [] ((sx_u w.1 57 x4.toNatClampNeg x1), w.2) Q) :
    sx_ev (d + 1) rMo_days 13 [.ref 48, .int x1, .int x2, .int x3, .int x4, .null, .null, .null] [] w Q := by
  refine ev_iload (dMo_days.at 9 rfl) rfl ?_
  refine ev_aload_n (dMo_days.at 10 rfl) rfl ?_
  refine ev_get (dMo_days.at 11 rfl) (own := 8) rfl fkMo_66 rfl rfl ?_
  refine ev_icmp_ge (tgt := 160) (dMo_days.at 12 rfl) rfl (fun c1 => ?_) (fun c1 => ?_)
  · refine ev_iconst (dMo_days.at 86 rfl) kI_0 ?_
    refine ev_istore (dMo_days.at 87 rfl) (by decide) rfl ?_
    exact (k1 c1)
  · refine ev_aload_n (dMo_days.at 13 rfl) rfl ?_
    refine ev_iload (dMo_days.at 14 rfl) rfl ?_
    refine ev_iload_n (dMo_days.at 15 rfl) rfl ?_
    refine ev_cVi (dMo_days.at 16 rfl) (As := [.int x4, .int x3]) (own := 8) rfl ckMo_144 rfl (Or.inr rfl) rfl (Nat.le_of_ble_eq_true rfl) rfl (m1 c1) ?_
    refine ev_if_eq (tgt := 154) (dMo_days.at 17 rfl) rfl (fun c2 => ?_) (fun c2 => ?_)
    · refine ev_iinc (dMo_days.at 84 rfl) kI_1 rfl (by decide) rfl ?_
      refine ev_goto (tgt := 13) (dMo_days.at 85 rfl) rfl ?_
      exact (k2 c1 c2)
    · refine ev_aload_n (dMo_days.at 18 rfl) rfl ?_
      refine ev_getr (dMo_days.at 19 rfl) (own := 8) rfl fkMo_31 rfl rfl ?_
      refine ev_aload_n (dMo_days.at 20 rfl) rfl ?_
      refine ev_getr (dMo_days.at 21 rfl) (own := 8) rfl fkMo_28 rfl rfl ?_
      refine ev_bipush (dMo_days.at 22 rfl) kB_8 ?_
      refine ev_iload (dMo_days.at 23 rfl) rfl ?_
      refine ev_imul (dMo_days.at 24 rfl) ?_
      refine ev_iload_n (dMo_days.at 25 rfl) rfl ?_
      refine ev_iadd (dMo_days.at 26 rfl) ?_
      refine ev_iaload (dMo_days.at 27 rfl) rfl (o1 c1 c2) ?_
      refine ev_iaload (dMo_days.at 28 rfl) rfl (o2 c1 c2) ?_
      refine ev_istore (dMo_days.at 29 rfl) (by decide) rfl ?_
      refine ev_iload (dMo_days.at 30 rfl) rfl ?_
      refine ev_if_lt (tgt := 67) (dMo_days.at 31 rfl) rfl (fun c3 => ?_) (fun c3 => ?_)
      · refine ev_iconst (dMo_days.at 37 rfl) kI_0 ?_
        refine ev_istore (dMo_days.at 38 rfl) (by decide) rfl ?_
        refine ev_iload_n (dMo_days.at 39 rfl) rfl ?_
        refine ev_iload (dMo_days.at 40 rfl) rfl ?_
        refine ev_if_eq (tgt := 80) (dMo_days.at 41 rfl) rfl (fun _ => ?_) (fun h => absurd h (by decide))
        refine ev_iconst (dMo_days.at 44 rfl) kI_0 ?_
        refine ev_iadd (dMo_days.at 45 rfl) ?_
        refine ev_istore_n (dMo_days.at 46 rfl) (by decide) rfl ?_
        refine ev_iload (dMo_days.at 47 rfl) rfl ?_
        refine ev_if_eq (tgt := 118) (dMo_days.at 48 rfl) rfl (fun _ => ?_) (fun h => absurd h (by decide))
        refine ev_iconst (dMo_days.at 65 rfl) kI_0 ?_
        refine ev_istore (dMo_days.at 66 rfl) (by decide) rfl ?_
        refine ev_aload_n (dMo_days.at 67 rfl) rfl ?_
        refine ev_getr (dMo_days.at 68 rfl) (own := 8) rfl fkMo_34 rfl rfl ?_
        refine ev_iload (dMo_days.at 69 rfl) rfl ?_
        refine ev_iload (dMo_days.at 70 rfl) rfl ?_
        refine ev_if_eq (tgt := 146) (dMo_days.at 71 rfl) rfl (fun _ => ?_) (fun h => absurd h (by decide))
        refine ev_aload_n (dMo_days.at 79 rfl) rfl ?_
        refine ev_getr (dMo_days.at 80 rfl) (own := 8) rfl fkMo_34 rfl rfl ?_
        refine ev_iload (dMo_days.at 81 rfl) rfl ?_
        refine ev_iaload (dMo_days.at 82 rfl) rfl (o3 c1 c2 c3) ?_
        refine ev_iastore (dMo_days.at 83 rfl) rfl (o3 c1 c2 c3) ?_
        refine ev_iinc (dMo_days.at 84 rfl) kI_1 rfl (by decide) rfl ?_
        refine ev_goto (tgt := 13) (dMo_days.at 85 rfl) rfl ?_
        refine ev_kp [true, true, true, true, true, false, false, false] rfl ?_
        exact (k3 c1 c2 c3)
      · refine ev_iload (dMo_days.at 32 rfl) rfl ?_
        refine ev_iload (dMo_days.at 33 rfl) rfl ?_
        refine ev_icmp_eq (tgt := 67) (dMo_days.at 34 rfl) rfl (fun c4 => ?_) (fun c4 => ?_)
        · refine ev_iconst (dMo_days.at 37 rfl) kI_0 ?_
          refine ev_istore (dMo_days.at 38 rfl) (by decide) rfl ?_
          refine ev_iload_n (dMo_days.at 39 rfl) rfl ?_
          refine ev_iload (dMo_days.at 40 rfl) rfl ?_
          refine ev_if_eq (tgt := 80) (dMo_days.at 41 rfl) rfl (fun _ => ?_) (fun h => absurd h (by decide))
          refine ev_iconst (dMo_days.at 44 rfl) kI_0 ?_
          refine ev_iadd (dMo_days.at 45 rfl) ?_
          refine ev_istore_n (dMo_days.at 46 rfl) (by decide) rfl ?_
          refine ev_iload (dMo_days.at 47 rfl) rfl ?_
          refine ev_if_eq (tgt := 118) (dMo_days.at 48 rfl) rfl (fun _ => ?_) (fun h => absurd h (by decide))
          refine ev_iconst (dMo_days.at 65 rfl) kI_0 ?_
          refine ev_istore (dMo_days.at 66 rfl) (by decide) rfl ?_
          refine ev_aload_n (dMo_days.at 67 rfl) rfl ?_
          refine ev_getr (dMo_days.at 68 rfl) (own := 8) rfl fkMo_34 rfl rfl ?_
          refine ev_iload (dMo_days.at 69 rfl) rfl ?_
          refine ev_iload (dMo_days.at 70 rfl) rfl ?_
          refine ev_if_eq (tgt := 146) (dMo_days.at 71 rfl) rfl (fun _ => ?_) (fun h => absurd h (by decide))
          refine ev_aload_n (dMo_days.at 79 rfl) rfl ?_
          refine ev_getr (dMo_days.at 80 rfl) (own := 8) rfl fkMo_34 rfl rfl ?_
          refine ev_iload (dMo_days.at 81 rfl) rfl ?_
          refine ev_iaload (dMo_days.at 82 rfl) rfl (o4 c1 c2 c3 c4) ?_
          refine ev_iastore (dMo_days.at 83 rfl) rfl (o4 c1 c2 c3 c4) ?_
          refine ev_iinc (dMo_days.at 84 rfl) kI_1 rfl (by decide) rfl ?_
          refine ev_goto (tgt := 13) (dMo_days.at 85 rfl) rfl ?_
          refine ev_kp [true, true, true, true, true, false, false, false] rfl ?_
          exact (k4 c1 c2 c3 c4)
        · refine ev_iconst (dMo_days.at 35 rfl) kI_1 ?_
          refine ev_goto (tgt := 68) (dMo_days.at 36 rfl) rfl ?_
          refine ev_istore (dMo_days.at 38 rfl) (by decide) rfl ?_
          refine ev_iload_n (dMo_days.at 39 rfl) rfl ?_
          refine ev_iload (dMo_days.at 40 rfl) rfl ?_
          refine ev_if_eq (tgt := 80) (dMo_days.at 41 rfl) rfl (fun h => absurd h (by decide)) (fun _ => ?_)
          refine ev_iconst (dMo_days.at 42 rfl) kI_1 ?_
          refine ev_goto (tgt := 81) (dMo_days.at 43 rfl) rfl ?_
          refine ev_iadd (dMo_days.at 45 rfl) ?_
          refine ev_istore_n (dMo_days.at 46 rfl) (by decide) rfl ?_
          refine ev_iload (dMo_days.at 47 rfl) rfl ?_
          refine ev_if_eq (tgt := 118) (dMo_days.at 48 rfl) rfl (fun h => absurd h (by decide)) (fun _ => ?_)
          refine ev_aload_n (dMo_days.at 49 rfl) rfl ?_
          refine ev_getr (dMo_days.at 50 rfl) (own := 8) rfl fkMo_34 rfl rfl ?_
          refine ev_iload (dMo_days.at 51 rfl) rfl ?_
          refine ev_iaload (dMo_days.at 52 rfl) rfl (o5 c1 c2 c3 c4) ?_
          refine ev_if_lt (tgt := 118) (dMo_days.at 53 rfl) rfl (fun c5 => ?_) (fun c5 => ?_)
          · refine ev_iconst (dMo_days.at 65 rfl) kI_0 ?_
            refine ev_istore (dMo_days.at 66 rfl) (by decide) rfl ?_
            refine ev_aload_n (dMo_days.at 67 rfl) rfl ?_
            refine ev_getr (dMo_days.at 68 rfl) (own := 8) rfl fkMo_34 rfl rfl ?_
            refine ev_iload (dMo_days.at 69 rfl) rfl ?_
            refine ev_iload (dMo_days.at 70 rfl) rfl ?_
            refine ev_if_eq (tgt := 146) (dMo_days.at 71 rfl) rfl (fun _ => ?_) (fun h => absurd h (by decide))
            refine ev_aload_n (dMo_days.at 79 rfl) rfl ?_
            refine ev_getr (dMo_days.at 80 rfl) (own := 8) rfl fkMo_34 rfl rfl ?_
            refine ev_iload (dMo_days.at 81 rfl) rfl ?_
            refine ev_iaload (dMo_days.at 82 rfl) rfl (o6 c1 c2 c3 c4 c5) ?_
            refine ev_iastore (dMo_days.at 83 rfl) rfl (o6 c1 c2 c3 c4 c5) ?_
            refine ev_iinc (dMo_days.at 84 rfl) kI_1 rfl (by decide) rfl ?_
            refine ev_goto (tgt := 13) (dMo_days.at 85 rfl) rfl ?_
            refine ev_kp [true, true, true, true, true, false, false, false] rfl ?_
            exact (k5 c1 c2 c3 c4 c5)
          · refine ev_iload_n (dMo_days.at 54 rfl) rfl ?_
            refine ev_aload_n (dMo_days.at 55 rfl) rfl ?_
            refine ev_getr (dMo_days.at 56 rfl) (own := 8) rfl fkMo_34 rfl rfl ?_
            refine ev_iload (dMo_days.at 57 rfl) rfl ?_
            refine ev_iaload (dMo_days.at 58 rfl) rfl (o5 c1 c2 c3 c4) ?_
            refine ev_aload_n (dMo_days.at 59 rfl) rfl ?_
            refine ev_get (dMo_days.at 60 rfl) (own := 8) rfl fkMo_63 rfl rfl ?_
            refine ev_iadd (dMo_days.at 61 rfl) ?_
            refine ev_icmp_gt (tgt := 118) (dMo_days.at 62 rfl) rfl (fun c6 => ?_) (fun c6 => ?_)
            · refine ev_iconst (dMo_days.at 65 rfl) kI_0 ?_
              refine ev_istore (dMo_days.at 66 rfl) (by decide) rfl ?_
              refine ev_aload_n (dMo_days.at 67 rfl) rfl ?_
              refine ev_getr (dMo_days.at 68 rfl) (own := 8) rfl fkMo_34 rfl rfl ?_
              refine ev_iload (dMo_days.at 69 rfl) rfl ?_
              refine ev_iload (dMo_days.at 70 rfl) rfl ?_
              refine ev_if_eq (tgt := 146) (dMo_days.at 71 rfl) rfl (fun _ => ?_) (fun h => absurd h (by decide))
              refine ev_aload_n (dMo_days.at 79 rfl) rfl ?_
              refine ev_getr (dMo_days.at 80 rfl) (own := 8) rfl fkMo_34 rfl rfl ?_
              refine ev_iload (dMo_days.at 81 rfl) rfl ?_
              refine ev_iaload (dMo_days.at 82 rfl) rfl (o7 c1 c2 c3 c4 c5 c6) ?_
              refine ev_iastore (dMo_days.at 83 rfl) rfl (o7 c1 c2 c3 c4 c5 c6) ?_
              refine ev_iinc (dMo_days.at 84 rfl) kI_1 rfl (by decide) rfl ?_
              refine ev_goto (tgt := 13) (dMo_days.at 85 rfl) rfl ?_
              refine ev_kp [true, true, true, true, true, false, false, false] rfl ?_
              exact (k6 c1 c2 c3 c4 c5 c6)
            · refine ev_iconst (dMo_days.at 63 rfl) kI_1 ?_
              refine ev_goto (tgt := 119) (dMo_days.at 64 rfl) rfl ?_
              refine ev_istore (dMo_days.at 66 rfl) (by decide) rfl ?_
              refine ev_aload_n (dMo_days.at 67 rfl) rfl ?_
              refine ev_getr (dMo_days.at 68 rfl) (own := 8) rfl fkMo_34 rfl rfl ?_
              refine ev_iload (dMo_days.at 69 rfl) rfl ?_
              refine ev_iload (dMo_days.at 70 rfl) rfl ?_
              refine ev_if_eq (tgt := 146) (dMo_days.at 71 rfl) rfl (fun h => absurd h (by decide)) (fun _ => ?_)
              refine ev_aload_n (dMo_days.at 72 rfl) rfl ?_
              refine ev_getr (dMo_days.at 73 rfl) (own := 8) rfl fkMo_34 rfl rfl ?_
              refine ev_iload (dMo_days.at 74 rfl) rfl ?_
              refine ev_iaload (dMo_days.at 75 rfl) rfl (o8 c1 c2 c3 c4 c5 c6) ?_
              refine ev_if_ge (tgt := 146) (dMo_days.at 76 rfl) rfl (fun c7 => ?_) (fun c7 => ?_)
              · refine ev_aload_n (dMo_days.at 79 rfl) rfl ?_
                refine ev_getr (dMo_days.at 80 rfl) (own := 8) rfl fkMo_34 rfl rfl ?_
                refine ev_iload (dMo_days.at 81 rfl) rfl ?_
                refine ev_iaload (dMo_days.at 82 rfl) rfl (o8 c1 c2 c3 c4 c5 c6) ?_
                refine ev_iastore (dMo_days.at 83 rfl) rfl (o8 c1 c2 c3 c4 c5 c6) ?_
                refine ev_iinc (dMo_days.at 84 rfl) kI_1 rfl (by decide) rfl ?_
                refine ev_goto (tgt := 13) (dMo_days.at 85 rfl) rfl ?_
                refine ev_kp [true, true, true, true, true, false, false, false] rfl ?_
                exact (k7 c1 c2 c3 c4 c5 c6 c7)
              · refine ev_iload_n (dMo_days.at 77 rfl) rfl ?_
                refine ev_goto (tgt := 153) (dMo_days.at 78 rfl) rfl ?_
                refine ev_iastore (dMo_days.at 83 rfl) rfl (o8 c1 c2 c3 c4 c5 c6) ?_
                refine ev_iinc (dMo_days.at 84 rfl) kI_1 rfl (by decide) rfl ?_
                refine ev_goto (tgt := 13) (dMo_days.at 85 rfl) rfl ?_
                refine ev_kp [true, true, true, true, true, false, false, false] rfl ?_
                exact (k8 c1 c2 c3 c4 c5 c6 c7)
set_option maxHeartbeats 4000000 in
theorem bMo_days_163 {d : Nat} {w : sx_W} {Q : sx_Q} {x1 : Int32} {x2 : Int32} {x3 : Int32} {x4 : Int32} {f1 : Int32}
    (k1 : ((w.1 48 0) ≤ x4) → sx_ev (d + 1) rMo_days 4 [.ref 48, .int x1, .int x2, .int (x3 + (1 : Int32)), .null, .null, .null, .null] [] w Q)
    (m1 : (¬ (w.1 48 0) ≤ x4) → sx_de d rMo_isAsleep [.ref 48, .int x4, .int x3] w f1 0 w)
    (k2 : (¬ (w.1 48 0) ≤ x4) → (f1 = 0) → sx_ev (d + 1) rMo_days 163 [.ref 48, .int x1, .int x2, .int x3, .int (x4 + (1 : Int32)), .null, .null, .null] [] w Q)
    (o1 : (¬ (w.1 48 0) ≤ x4) → (¬ f1 = 0) → vp_in (((8 : Int32) * x4) + x3) 56)
    (o2 : (¬ (w.1 48 0) ≤ x4) → (¬ f1 = 0) → vp_in (w.1 55 (((8 : Int32) * x4) + x3).toNatClampNeg) 7)
    (k3 : (¬ (w.1 48 0) ≤ x4) → (¬ f1 = 0) → sx_ev (d + 1) rMo_days 163 [.ref 48, .int x1, .int x2, .int x3, .int (x4 + (1 : Int32)), .null, .null, .null] [] ((sx_u w.1 56 (w.1 55 (((8 : Int32) * x4) + x3).toNatClampNeg).toNatClampNeg x4), w.2) Q) :
    sx_ev (d + 1) rMo_days 163 [.ref 48, .int x1, .int x2, .int x3, .int x4, .null, .null, .null] [] w Q := by
  refine ev_iload (dMo_days.at 88 rfl) rfl ?_
  refine ev_aload_n (dMo_days.at 89 rfl) rfl ?_
  refine ev_get (dMo_days.at 90 rfl) (own := 8) rfl fkMo_66 rfl rfl ?_
  refine ev_icmp_ge (tgt := 207) (dMo_days.at 91 rfl) rfl (fun c1 => ?_) (fun c1 => ?_)
  · refine ev_iinc (dMo_days.at 111 rfl) kI_1 rfl (by decide) rfl ?_
    refine ev_goto (tgt := 4) (dMo_days.at 112 rfl) rfl ?_
    refine ev_kp [true, true, true, true, false, false, false, false] rfl ?_
    exact (k1 c1)
  · refine ev_aload_n (dMo_days.at 92 rfl) rfl ?_
    refine ev_iload (dMo_days.at 93 rfl) rfl ?_
    refine ev_iload_n (dMo_days.at 94 rfl) rfl ?_
    refine ev_cVi (dMo_days.at 95 rfl) (As := [.int x4, .int x3]) (own := 8) rfl ckMo_141 rfl (Or.inr rfl) rfl (Nat.le_of_ble_eq_true rfl) rfl (m1 c1) ?_
    refine ev_if_eq (tgt := 201) (dMo_days.at 96 rfl) rfl (fun c2 => ?_) (fun c2 => ?_)
    · refine ev_iinc (dMo_days.at 109 rfl) kI_1 rfl (by decide) rfl ?_
      refine ev_goto (tgt := 163) (dMo_days.at 110 rfl) rfl ?_
      exact (k2 c1 c2)
    · refine ev_aload_n (dMo_days.at 97 rfl) rfl ?_
      refine ev_getr (dMo_days.at 98 rfl) (own := 8) rfl fkMo_31 rfl rfl ?_
      refine ev_aload_n (dMo_days.at 99 rfl) rfl ?_
      refine ev_getr (dMo_days.at 100 rfl) (own := 8) rfl fkMo_28 rfl rfl ?_
      refine ev_bipush (dMo_days.at 101 rfl) kB_8 ?_
      refine ev_iload (dMo_days.at 102 rfl) rfl ?_
      refine ev_imul (dMo_days.at 103 rfl) ?_
      refine ev_iload_n (dMo_days.at 104 rfl) rfl ?_
      refine ev_iadd (dMo_days.at 105 rfl) ?_
      refine ev_iaload (dMo_days.at 106 rfl) rfl (o1 c1 c2) ?_
      refine ev_iload (dMo_days.at 107 rfl) rfl ?_
      refine ev_iastore (dMo_days.at 108 rfl) rfl (o2 c1 c2) ?_
      refine ev_iinc (dMo_days.at 109 rfl) kI_1 rfl (by decide) rfl ?_
      refine ev_goto (tgt := 163) (dMo_days.at 110 rfl) rfl ?_
      exact (k3 c1 c2)
set_option maxHeartbeats 4000000 in
theorem bMo_begins_0 {d : Nat} {w : sx_W} {Q : sx_Q} {x1 : Int32} {w1 : sx_W}
    (m1 : sx_de d rMo_liesAll [.ref 48] w 0 0 w1)
    (k1 : sx_ev (d + 1) rMo_begins 6 [.ref 48, .int x1, .int (0 : Int32)] [] w1 Q) :
    sx_ev (d + 1) rMo_begins 0 [.ref 48, .int x1, .null] [] w Q := by
  refine ev_aload_n (dMo_begins.at 0 rfl) rfl ?_
  refine ev_cVv (dMo_begins.at 1 rfl) (As := []) (own := 8) rfl ckMo_147 rfl rfl rfl (Nat.le_of_ble_eq_true rfl) rfl m1 ?_
  refine ev_iconst (dMo_begins.at 2 rfl) kI_0 ?_
  refine ev_istore_n (dMo_begins.at 3 rfl) (by decide) rfl ?_
  exact k1
set_option maxHeartbeats 4000000 in
theorem bMo_begins_6 {d : Nat} {w : sx_W} {Q : sx_Q} {x1 : Int32} {x2 : Int32}
    (k1 : ((7 : Int32) ≤ x2) → Q 0 0 w)
    (o1 : (¬ (7 : Int32) ≤ x2) → vp_in x2 7)
    (k2 : (¬ (7 : Int32) ≤ x2) → (¬ ((x1 >>> (x2 &&& 31)) &&& (1 : Int32)) = (1 : Int32)) → sx_ev d rMo_begins 6 [.ref 48, .int x1, .int (x2 + (1 : Int32))] [] ((sx_u (sx_u w.1 56 x2.toNatClampNeg (-1 : Int32)) 57 x2.toNatClampNeg (-1 : Int32)), w.2) Q)
    (k3 : (¬ (7 : Int32) ≤ x2) → (((x1 >>> (x2 &&& 31)) &&& (1 : Int32)) = (1 : Int32)) → sx_ev d rMo_begins 6 [.ref 48, .int x1, .int (x2 + (1 : Int32))] [] ((sx_u (sx_u w.1 56 x2.toNatClampNeg (-1 : Int32)) 57 x2.toNatClampNeg (0 : Int32)), w.2) Q) :
    sx_ev d rMo_begins 6 [.ref 48, .int x1, .int x2] [] w Q := by
  refine ev_iload_n (dMo_begins.at 4 rfl) rfl ?_
  refine ev_bipush (dMo_begins.at 5 rfl) kB_7 ?_
  refine ev_icmp_ge (tgt := 45) (dMo_begins.at 6 rfl) rfl (fun c1 => ?_) (fun c1 => ?_)
  · exact ev_vret (dMo_begins.at 28 rfl) rfl (k1 c1)
  · refine ev_aload_n (dMo_begins.at 7 rfl) rfl ?_
    refine ev_getr (dMo_begins.at 8 rfl) (own := 8) rfl fkMo_31 rfl rfl ?_
    refine ev_iload_n (dMo_begins.at 9 rfl) rfl ?_
    refine ev_iconst (dMo_begins.at 10 rfl) kI_m1 ?_
    refine ev_iastore (dMo_begins.at 11 rfl) rfl (o1 c1) ?_
    refine ev_aload_n (dMo_begins.at 12 rfl) rfl ?_
    refine ev_getr (dMo_begins.at 13 rfl) (own := 8) rfl fkMo_34 rfl rfl ?_
    refine ev_iload_n (dMo_begins.at 14 rfl) rfl ?_
    refine ev_iload_n (dMo_begins.at 15 rfl) rfl ?_
    refine ev_iload_n (dMo_begins.at 16 rfl) rfl ?_
    refine ev_ishr (dMo_begins.at 17 rfl) ?_
    refine ev_iconst (dMo_begins.at 18 rfl) kI_1 ?_
    refine ev_iand (dMo_begins.at 19 rfl) ?_
    refine ev_iconst (dMo_begins.at 20 rfl) kI_1 ?_
    refine ev_icmp_ne (tgt := 37) (dMo_begins.at 21 rfl) rfl (fun c2 => ?_) (fun c2 => ?_)
    · refine ev_iconst (dMo_begins.at 24 rfl) kI_m1 ?_
      refine ev_iastore (dMo_begins.at 25 rfl) rfl (o1 c1) ?_
      refine ev_iinc (dMo_begins.at 26 rfl) kI_1 rfl (by decide) rfl ?_
      refine ev_goto (tgt := 6) (dMo_begins.at 27 rfl) rfl ?_
      exact (k2 c1 c2)
    · refine ev_iconst (dMo_begins.at 22 rfl) kI_0 ?_
      refine ev_goto (tgt := 38) (dMo_begins.at 23 rfl) rfl ?_
      refine ev_iastore (dMo_begins.at 25 rfl) rfl (o1 c1) ?_
      refine ev_iinc (dMo_begins.at 26 rfl) kI_1 rfl (by decide) rfl ?_
      refine ev_goto (tgt := 6) (dMo_begins.at 27 rfl) rfl ?_
      exact (k3 c1 c2)
set_option maxHeartbeats 4000000 in
theorem bMo_linen_0 {d : Nat} {w : sx_W} {Q : sx_Q} {f1 : Int32} {w2 : sx_W} {f3 : Int32} {w3 : sx_W}
    (m1 : sx_de d rMo_isGood [.ref 48] w f1 0 w)
    (m2 : (¬ f1 = 0) → sx_de d rMo_begins [.ref 48, .int (0 : Int32)] w 0 0 w2)
    (m3 : (¬ f1 = 0) → sx_de d rMo_days [.ref 48, .int (1 : Int32)] w2 f3 0 w3)
    (k1 : (¬ f1 = 0) → Q f3 0 w3)
    (k2 : (f1 = 0) → Q (-2 : Int32) 0 w) :
    sx_ev (d + 1) rMo_linen 0 [.ref 48] [] w Q := by
  refine ev_aload_n (dMo_linen.at 0 rfl) rfl ?_
  refine ev_cVi (dMo_linen.at 1 rfl) (As := []) (own := 8) rfl ckMo_119 rfl (Or.inr rfl) rfl (Nat.le_of_ble_eq_true rfl) rfl m1 ?_
  refine ev_if_ne (tgt := 10) (dMo_linen.at 2 rfl) rfl (fun c1 => ?_) (fun c1 => ?_)
  · refine ev_aload_n (dMo_linen.at 5 rfl) rfl ?_
    refine ev_iconst (dMo_linen.at 6 rfl) kI_0 ?_
    refine ev_cVv (dMo_linen.at 7 rfl) (As := [.int (0 : Int32)]) (own := 8) rfl ckMo_150 rfl rfl rfl (Nat.le_of_ble_eq_true rfl) rfl (m2 c1) ?_
    refine ev_aload_n (dMo_linen.at 8 rfl) rfl ?_
    refine ev_iconst (dMo_linen.at 9 rfl) kI_1 ?_
    refine ev_cVi (dMo_linen.at 10 rfl) (As := [.int (1 : Int32)]) (own := 8) rfl ckMo_153 rfl (Or.inl rfl) rfl (Nat.le_of_ble_eq_true rfl) rfl (m3 c1) ?_
    exact ev_iret (dMo_linen.at 11 rfl) rfl (k1 c1)
  · refine ev_bipush (dMo_linen.at 3 rfl) kB_m2 ?_
    exact ev_iret (dMo_linen.at 4 rfl) rfl (k2 c1)
set_option maxHeartbeats 4000000 in
theorem bMo_ill_0 {d : Nat} {w : sx_W} {Q : sx_Q} {x1 : Int32} {x2 : Int32} {w1 : sx_W}
    (m1 : sx_de d rMo_begins [.ref 48, .int x1] w 0 0 w1)
    (k1 : sx_ev (d + 1) rMo_ill 7 [.ref 48, .null, .int x2, .int (1 : Int32), .null] [] w1 Q) :
    sx_ev (d + 1) rMo_ill 0 [.ref 48, .int x1, .int x2, .null, .null] [] w Q := by
  refine ev_aload_n (dMo_ill.at 0 rfl) rfl ?_
  refine ev_iload_n (dMo_ill.at 1 rfl) rfl ?_
  refine ev_cVv (dMo_ill.at 2 rfl) (As := [.int x1]) (own := 8) rfl ckMo_150 rfl rfl rfl (Nat.le_of_ble_eq_true rfl) rfl m1 ?_
  refine ev_iconst (dMo_ill.at 3 rfl) kI_1 ?_
  refine ev_istore_n (dMo_ill.at 4 rfl) (by decide) rfl ?_
  refine ev_kp [true, false, true, true, false] rfl ?_
  exact k1
set_option maxHeartbeats 4000000 in
theorem bMo_ill_7 {d : Nat} {w : sx_W} {Q : sx_Q} {x2 : Int32} {x3 : Int32} {f1 : Int32} {w1 : sx_W}
    (k1 : (x2 < x3) → sx_ev (d + 1) rMo_ill 29 [.ref 48, .null, .int x2, .int (0 : Int32), .int (0 : Int32)] [] w Q)
    (m1 : (¬ x2 < x3) → sx_de d rMo_days [.ref 48, .int x3] w f1 0 w1)
    (k2 : (¬ x2 < x3) → sx_ev (d + 1) rMo_ill 7 [.ref 48, .null, .int x2, .int (x3 + (1 : Int32)), .null] [] w1 Q) :
    sx_ev (d + 1) rMo_ill 7 [.ref 48, .null, .int x2, .int x3, .null] [] w Q := by
  refine ev_iload_n (dMo_ill.at 5 rfl) rfl ?_
  refine ev_iload_n (dMo_ill.at 6 rfl) rfl ?_
  refine ev_icmp_gt (tgt := 24) (dMo_ill.at 7 rfl) rfl (fun c1 => ?_) (fun c1 => ?_)
  · refine ev_iconst (dMo_ill.at 14 rfl) kI_0 ?_
    refine ev_istore_n (dMo_ill.at 15 rfl) (by decide) rfl ?_
    refine ev_iconst (dMo_ill.at 16 rfl) kI_0 ?_
    refine ev_istore (dMo_ill.at 17 rfl) (by decide) rfl ?_
    exact (k1 c1)
  · refine ev_aload_n (dMo_ill.at 8 rfl) rfl ?_
    refine ev_iload_n (dMo_ill.at 9 rfl) rfl ?_
    refine ev_cVi (dMo_ill.at 10 rfl) (As := [.int x3]) (own := 8) rfl ckMo_153 rfl (Or.inl rfl) rfl (Nat.le_of_ble_eq_true rfl) rfl (m1 c1) ?_
    refine ev_pop (dMo_ill.at 11 rfl) rfl ?_
    refine ev_iinc (dMo_ill.at 12 rfl) kI_1 rfl (by decide) rfl ?_
    refine ev_goto (tgt := 7) (dMo_ill.at 13 rfl) rfl ?_
    exact (k2 c1)
set_option maxHeartbeats 4000000 in
theorem bMo_ill_29 {d : Nat} {w : sx_W} {Q : sx_Q} {x2 : Int32} {x3 : Int32} {x4 : Int32}
    (k1 : ((w.1 48 0) ≤ x4) → Q x3 0 w)
    (o1 : (¬ (w.1 48 0) ≤ x4) → vp_in x4 7)
    (k2 : (¬ (w.1 48 0) ≤ x4) → ((w.1 57 x4.toNatClampNeg) < 0) → sx_ev d rMo_ill 29 [.ref 48, .null, .int x2, .int (x3 ||| (0 : Int32)), .int (x4 + (1 : Int32))] [] w Q)
    (k3 : (¬ (w.1 48 0) ≤ x4) → (¬ (w.1 57 x4.toNatClampNeg) < 0) → (((w.1 57 x4.toNatClampNeg) + (w.1 48 7)) < x2) → sx_ev d rMo_ill 29 [.ref 48, .null, .int x2, .int (x3 ||| (0 : Int32)), .int (x4 + (1 : Int32))] [] w Q)
    (k4 : (¬ (w.1 48 0) ≤ x4) → (¬ (w.1 57 x4.toNatClampNeg) < 0) → (¬ ((w.1 57 x4.toNatClampNeg) + (w.1 48 7)) < x2) → sx_ev d rMo_ill 29 [.ref 48, .null, .int x2, .int (x3 ||| ((1 : Int32) <<< (x4 &&& 31))), .int (x4 + (1 : Int32))] [] w Q) :
    sx_ev d rMo_ill 29 [.ref 48, .null, .int x2, .int x3, .int x4] [] w Q := by
  refine ev_iload (dMo_ill.at 18 rfl) rfl ?_
  refine ev_aload_n (dMo_ill.at 19 rfl) rfl ?_
  refine ev_get (dMo_ill.at 20 rfl) (own := 8) rfl fkMo_66 rfl rfl ?_
  refine ev_icmp_ge (tgt := 81) (dMo_ill.at 21 rfl) rfl (fun c1 => ?_) (fun c1 => ?_)
  · refine ev_iload_n (dMo_ill.at 46 rfl) rfl ?_
    exact ev_iret (dMo_ill.at 47 rfl) rfl (k1 c1)
  · refine ev_iload_n (dMo_ill.at 22 rfl) rfl ?_
    refine ev_aload_n (dMo_ill.at 23 rfl) rfl ?_
    refine ev_getr (dMo_ill.at 24 rfl) (own := 8) rfl fkMo_34 rfl rfl ?_
    refine ev_iload (dMo_ill.at 25 rfl) rfl ?_
    refine ev_iaload (dMo_ill.at 26 rfl) rfl (o1 c1) ?_
    refine ev_if_lt (tgt := 72) (dMo_ill.at 27 rfl) rfl (fun c2 => ?_) (fun c2 => ?_)
    · refine ev_iconst (dMo_ill.at 41 rfl) kI_0 ?_
      refine ev_ior (dMo_ill.at 42 rfl) ?_
      refine ev_istore_n (dMo_ill.at 43 rfl) (by decide) rfl ?_
      refine ev_iinc (dMo_ill.at 44 rfl) kI_1 rfl (by decide) rfl ?_
      refine ev_goto (tgt := 29) (dMo_ill.at 45 rfl) rfl ?_
      exact (k2 c1 c2)
    · refine ev_iload_n (dMo_ill.at 28 rfl) rfl ?_
      refine ev_aload_n (dMo_ill.at 29 rfl) rfl ?_
      refine ev_getr (dMo_ill.at 30 rfl) (own := 8) rfl fkMo_34 rfl rfl ?_
      refine ev_iload (dMo_ill.at 31 rfl) rfl ?_
      refine ev_iaload (dMo_ill.at 32 rfl) rfl (o1 c1) ?_
      refine ev_aload_n (dMo_ill.at 33 rfl) rfl ?_
      refine ev_get (dMo_ill.at 34 rfl) (own := 8) rfl fkMo_63 rfl rfl ?_
      refine ev_iadd (dMo_ill.at 35 rfl) ?_
      refine ev_icmp_gt (tgt := 72) (dMo_ill.at 36 rfl) rfl (fun c3 => ?_) (fun c3 => ?_)
      · refine ev_iconst (dMo_ill.at 41 rfl) kI_0 ?_
        refine ev_ior (dMo_ill.at 42 rfl) ?_
        refine ev_istore_n (dMo_ill.at 43 rfl) (by decide) rfl ?_
        refine ev_iinc (dMo_ill.at 44 rfl) kI_1 rfl (by decide) rfl ?_
        refine ev_goto (tgt := 29) (dMo_ill.at 45 rfl) rfl ?_
        exact (k3 c1 c2 c3)
      · refine ev_iconst (dMo_ill.at 37 rfl) kI_1 ?_
        refine ev_iload (dMo_ill.at 38 rfl) rfl ?_
        refine ev_ishl (dMo_ill.at 39 rfl) ?_
        refine ev_goto (tgt := 73) (dMo_ill.at 40 rfl) rfl ?_
        refine ev_ior (dMo_ill.at 42 rfl) ?_
        refine ev_istore_n (dMo_ill.at 43 rfl) (by decide) rfl ?_
        refine ev_iinc (dMo_ill.at 44 rfl) kI_1 rfl (by decide) rfl ?_
        refine ev_goto (tgt := 29) (dMo_ill.at 45 rfl) rfl ?_
        exact (k4 c1 c2 c3)
set_option maxHeartbeats 4000000 in
theorem bMo_isSet_0 {d : Nat} {w : sx_W} {Q : sx_Q} {x1 : Int32} {x2 : Int32} {f1 : Int32} {f2 : Int32}
    (m1 : sx_de d rMo_in [.long (x1).toInt64, .long (0 : Int64), .long (((1 : Int32) <<< ((w.1 48 0) &&& 31)) - (1 : Int32)).toInt64] w f1 0 w)
    (k1 : (f1 = 0) → Q (0 : Int32) 0 w)
    (m2 : (¬ f1 = 0) → sx_de d rMo_in [.long (x2).toInt64, .long (1 : Int64), .long (lN 30)] w f2 0 w)
    (k2 : (¬ f1 = 0) → (f2 = 0) → Q (0 : Int32) 0 w)
    (k3 : (¬ f1 = 0) → (¬ f2 = 0) → Q (1 : Int32) 0 w) :
    sx_ev (d + 1) rMo_isSet 0 [.ref 48, .int x1, .int x2] [] w Q := by
  refine ev_iload_n (dMo_isSet.at 0 rfl) rfl ?_
  refine ev_i2l (dMo_isSet.at 1 rfl) ?_
  refine ev_lconst (dMo_isSet.at 2 rfl) rfl ?_
  refine ev_iconst (dMo_isSet.at 3 rfl) kI_1 ?_
  refine ev_aload_n (dMo_isSet.at 4 rfl) rfl ?_
  refine ev_get (dMo_isSet.at 5 rfl) (own := 8) rfl fkMo_66 rfl rfl ?_
  refine ev_ishl (dMo_isSet.at 6 rfl) ?_
  refine ev_iconst (dMo_isSet.at 7 rfl) kI_1 ?_
  refine ev_isub (dMo_isSet.at 8 rfl) ?_
  refine ev_i2l (dMo_isSet.at 9 rfl) ?_
  refine ev_cSi (dMo_isSet.at 10 rfl) (As := [.long (x1).toInt64, .long (0 : Int64), .long (((1 : Int32) <<< ((w.1 48 0) &&& 31)) - (1 : Int32)).toInt64]) (own := 8) rfl ckMo_69 (Or.inr rfl) rfl (Nat.le_of_ble_eq_true rfl) rfl m1 ?_
  refine ev_if_eq (tgt := 34) (dMo_isSet.at 11 rfl) rfl (fun c1 => ?_) (fun c1 => ?_)
  · refine ev_iconst (dMo_isSet.at 20 rfl) kI_0 ?_
    exact ev_zret (dMo_isSet.at 21 rfl) rfl (by decide) (k1 c1)
  · refine ev_iload_n (dMo_isSet.at 12 rfl) rfl ?_
    refine ev_i2l (dMo_isSet.at 13 rfl) ?_
    refine ev_lconst (dMo_isSet.at 14 rfl) rfl ?_
    refine ev_ldc2 (dMo_isSet.at 15 rfl) (own := 8) rfl (List.mem_of_getElem? (i := 6) rfl) ?_
    refine ev_cSi (dMo_isSet.at 16 rfl) (As := [.long (x2).toInt64, .long (1 : Int64), .long (lN 30)]) (own := 8) rfl ckMo_69 (Or.inr rfl) rfl (Nat.le_of_ble_eq_true rfl) rfl (m2 c1) ?_
    refine ev_if_eq (tgt := 34) (dMo_isSet.at 17 rfl) rfl (fun c2 => ?_) (fun c2 => ?_)
    · refine ev_iconst (dMo_isSet.at 20 rfl) kI_0 ?_
      exact ev_zret (dMo_isSet.at 21 rfl) rfl (by decide) (k2 c1 c2)
    · refine ev_iconst (dMo_isSet.at 18 rfl) kI_1 ?_
      refine ev_goto (tgt := 35) (dMo_isSet.at 19 rfl) rfl ?_
      exact ev_zret (dMo_isSet.at 21 rfl) rfl (by decide) (k3 c1 c2)
set_option maxHeartbeats 4000000 in
theorem bMo_sick_0 {d : Nat} {w : sx_W} {Q : sx_Q} {x1 : Int32} {x2 : Int32} {f1 : Int32} {f2 : Int32} {f3 : Int32} {w3 : sx_W}
    (m1 : sx_de d rMo_isSet [.ref 48, .int x1, .int x2] w f1 0 w)
    (m2 : (¬ f1 = 0) → sx_de d rMo_isGood [.ref 48] w f2 0 w)
    (k1 : (¬ f1 = 0) → (f2 = 0) → Q (-2 : Int32) 0 w)
    (m3 : (¬ f1 = 0) → (¬ f2 = 0) → sx_de d rMo_ill [.ref 48, .int x1, .int x2] w f3 0 w3)
    (k2 : (¬ f1 = 0) → (¬ f2 = 0) → Q f3 0 w3)
    (k3 : (f1 = 0) → Q (-1 : Int32) 0 w) :
    sx_ev (d + 1) rMo_sick 0 [.ref 48, .int x1, .int x2] [] w Q := by
  refine ev_aload_n (dMo_sick.at 0 rfl) rfl ?_
  refine ev_iload_n (dMo_sick.at 1 rfl) rfl ?_
  refine ev_iload_n (dMo_sick.at 2 rfl) rfl ?_
  refine ev_cVi (dMo_sick.at 3 rfl) (As := [.int x1, .int x2]) (own := 8) rfl ckMo_158 rfl (Or.inr rfl) rfl (Nat.le_of_ble_eq_true rfl) rfl m1 ?_
  refine ev_if_ne (tgt := 11) (dMo_sick.at 4 rfl) rfl (fun c1 => ?_) (fun c1 => ?_)
  · refine ev_aload_n (dMo_sick.at 7 rfl) rfl ?_
    refine ev_cVi (dMo_sick.at 8 rfl) (As := []) (own := 8) rfl ckMo_119 rfl (Or.inr rfl) rfl (Nat.le_of_ble_eq_true rfl) rfl (m2 c1) ?_
    refine ev_if_eq (tgt := 27) (dMo_sick.at 9 rfl) rfl (fun c2 => ?_) (fun c2 => ?_)
    · refine ev_bipush (dMo_sick.at 15 rfl) kB_m2 ?_
      exact ev_iret (dMo_sick.at 16 rfl) rfl (k1 c1 c2)
    · refine ev_aload_n (dMo_sick.at 10 rfl) rfl ?_
      refine ev_iload_n (dMo_sick.at 11 rfl) rfl ?_
      refine ev_iload_n (dMo_sick.at 12 rfl) rfl ?_
      refine ev_cVi (dMo_sick.at 13 rfl) (As := [.int x1, .int x2]) (own := 8) rfl ckMo_161 rfl (Or.inl rfl) rfl (Nat.le_of_ble_eq_true rfl) rfl (m3 c1 c2) ?_
      refine ev_goto (tgt := 29) (dMo_sick.at 14 rfl) rfl ?_
      exact ev_iret (dMo_sick.at 16 rfl) rfl (k2 c1 c2)
  · refine ev_iconst (dMo_sick.at 5 rfl) kI_m1 ?_
    exact ev_iret (dMo_sick.at 6 rfl) rfl (k3 c1)
set_option maxHeartbeats 4000000 in
theorem bMo_brought_0 {d : Nat} {w : sx_W} {Q : sx_Q} {x1 : Int32} {x2 : Int32} {f1 : Int32} {f2 : Int32}
    (m1 : sx_de d rMo_isSet [.ref 48, .int x1, .int x2] w f1 0 w)
    (m2 : (¬ f1 = 0) → sx_de d rMo_isGood [.ref 48] w f2 0 w)
    (k1 : (¬ f1 = 0) → (¬ f2 = 0) → sx_ev (d + 1) rMo_brought 26 [.ref 48, .int x1, .int x2, .int (0 : Int32), .int (0 : Int32)] [] w Q)
    (k2 : (¬ f1 = 0) → (f2 = 0) → Q (-2 : Int32) 0 w)
    (k3 : (f1 = 0) → Q (-1 : Int32) 0 w) :
    sx_ev (d + 1) rMo_brought 0 [.ref 48, .int x1, .int x2, .null, .null] [] w Q := by
  refine ev_aload_n (dMo_brought.at 0 rfl) rfl ?_
  refine ev_iload_n (dMo_brought.at 1 rfl) rfl ?_
  refine ev_iload_n (dMo_brought.at 2 rfl) rfl ?_
  refine ev_cVi (dMo_brought.at 3 rfl) (As := [.int x1, .int x2]) (own := 8) rfl ckMo_158 rfl (Or.inr rfl) rfl (Nat.le_of_ble_eq_true rfl) rfl m1 ?_
  refine ev_if_ne (tgt := 11) (dMo_brought.at 4 rfl) rfl (fun c1 => ?_) (fun c1 => ?_)
  · refine ev_aload_n (dMo_brought.at 7 rfl) rfl ?_
    refine ev_cVi (dMo_brought.at 8 rfl) (As := []) (own := 8) rfl ckMo_119 rfl (Or.inr rfl) rfl (Nat.le_of_ble_eq_true rfl) rfl (m2 c1) ?_
    refine ev_if_ne (tgt := 21) (dMo_brought.at 9 rfl) rfl (fun c2 => ?_) (fun c2 => ?_)
    · refine ev_iconst (dMo_brought.at 12 rfl) kI_0 ?_
      refine ev_istore_n (dMo_brought.at 13 rfl) (by decide) rfl ?_
      refine ev_iconst (dMo_brought.at 14 rfl) kI_0 ?_
      refine ev_istore (dMo_brought.at 15 rfl) (by decide) rfl ?_
      exact (k1 c1 c2)
    · refine ev_bipush (dMo_brought.at 10 rfl) kB_m2 ?_
      exact ev_iret (dMo_brought.at 11 rfl) rfl (k2 c1 c2)
  · refine ev_iconst (dMo_brought.at 5 rfl) kI_m1 ?_
    exact ev_iret (dMo_brought.at 6 rfl) rfl (k3 c1)
set_option maxHeartbeats 4000000 in
theorem bMo_brought_26 {d : Nat} {w : sx_W} {Q : sx_Q} {x1 : Int32} {x2 : Int32} {x3 : Int32} {x4 : Int32} {f1 : Int32} {w1 : sx_W}
    (k1 : ((w.1 48 0) ≤ x4) → Q x3 0 w)
    (m1 : (¬ (w.1 48 0) ≤ x4) → sx_de d rMo_ill [.ref 48, .int ((1 : Int32) <<< (x4 &&& 31)), .int x2] w f1 0 w1)
    (k2 : (¬ (w.1 48 0) ≤ x4) → (¬ f1 = x1) → sx_ev (d + 1) rMo_brought 26 [.ref 48, .int x1, .int x2, .int (x3 ||| (0 : Int32)), .int (x4 + (1 : Int32))] [] w1 Q)
    (k3 : (¬ (w.1 48 0) ≤ x4) → (f1 = x1) → sx_ev (d + 1) rMo_brought 26 [.ref 48, .int x1, .int x2, .int (x3 ||| ((1 : Int32) <<< (x4 &&& 31))), .int (x4 + (1 : Int32))] [] w1 Q) :
    sx_ev (d + 1) rMo_brought 26 [.ref 48, .int x1, .int x2, .int x3, .int x4] [] w Q := by
  refine ev_iload (dMo_brought.at 16 rfl) rfl ?_
  refine ev_aload_n (dMo_brought.at 17 rfl) rfl ?_
  refine ev_get (dMo_brought.at 18 rfl) (own := 8) rfl fkMo_66 rfl rfl ?_
  refine ev_icmp_ge (tgt := 65) (dMo_brought.at 19 rfl) rfl (fun c1 => ?_) (fun c1 => ?_)
  · refine ev_iload_n (dMo_brought.at 38 rfl) rfl ?_
    exact ev_iret (dMo_brought.at 39 rfl) rfl (k1 c1)
  · refine ev_iload_n (dMo_brought.at 20 rfl) rfl ?_
    refine ev_aload_n (dMo_brought.at 21 rfl) rfl ?_
    refine ev_iconst (dMo_brought.at 22 rfl) kI_1 ?_
    refine ev_iload (dMo_brought.at 23 rfl) rfl ?_
    refine ev_ishl (dMo_brought.at 24 rfl) ?_
    refine ev_iload_n (dMo_brought.at 25 rfl) rfl ?_
    refine ev_cVi (dMo_brought.at 26 rfl) (As := [.int ((1 : Int32) <<< (x4 &&& 31)), .int x2]) (own := 8) rfl ckMo_161 rfl (Or.inl rfl) rfl (Nat.le_of_ble_eq_true rfl) rfl (m1 c1) ?_
    refine ev_iload_n (dMo_brought.at 27 rfl) rfl ?_
    refine ev_icmp_ne (tgt := 56) (dMo_brought.at 28 rfl) rfl (fun c2 => ?_) (fun c2 => ?_)
    · refine ev_iconst (dMo_brought.at 33 rfl) kI_0 ?_
      refine ev_ior (dMo_brought.at 34 rfl) ?_
      refine ev_istore_n (dMo_brought.at 35 rfl) (by decide) rfl ?_
      refine ev_iinc (dMo_brought.at 36 rfl) kI_1 rfl (by decide) rfl ?_
      refine ev_goto (tgt := 26) (dMo_brought.at 37 rfl) rfl ?_
      exact (k2 c1 c2)
    · refine ev_iconst (dMo_brought.at 29 rfl) kI_1 ?_
      refine ev_iload (dMo_brought.at 30 rfl) rfl ?_
      refine ev_ishl (dMo_brought.at 31 rfl) ?_
      refine ev_goto (tgt := 57) (dMo_brought.at 32 rfl) rfl ?_
      refine ev_ior (dMo_brought.at 34 rfl) ?_
      refine ev_istore_n (dMo_brought.at 35 rfl) (by decide) rfl ?_
      refine ev_iinc (dMo_brought.at 36 rfl) kI_1 rfl (by decide) rfl ?_
      refine ev_goto (tgt := 26) (dMo_brought.at 37 rfl) rfl ?_
      exact (k3 c1 c2)
set_option maxHeartbeats 4000000 in
theorem bMo_type_0 {d : Nat} {w : sx_W} {Q : sx_Q} {y1 : Int64} {x3 : Int32} {f1 : Int32}
    (m1 : sx_de d rMo_in [.long (x3).toInt64, .long (1 : Int64), .long (lN 8)] w f1 0 w)
    (k1 : (¬ f1 = 0) → sx_ev (d + 1) rMo_type 17 [.ref 48, .long y1, .null, .int x3, .int (0 : Int32)] [] w Q)
    (k2 : (f1 = 0) → Q (-1 : Int32) 0 w) :
    sx_ev (d + 1) rMo_type 0 [.ref 48, .long y1, .null, .int x3, .null] [] w Q := by
  refine ev_iload_n (dMo_type.at 0 rfl) rfl ?_
  refine ev_i2l (dMo_type.at 1 rfl) ?_
  refine ev_lconst (dMo_type.at 2 rfl) rfl ?_
  refine ev_ldc2 (dMo_type.at 3 rfl) (own := 8) rfl (List.mem_of_getElem? (i := 7) rfl) ?_
  refine ev_cSi (dMo_type.at 4 rfl) (As := [.long (x3).toInt64, .long (1 : Int64), .long (lN 8)]) (own := 8) rfl ckMo_69 (Or.inr rfl) rfl (Nat.le_of_ble_eq_true rfl) rfl m1 ?_
  refine ev_if_ne (tgt := 14) (dMo_type.at 5 rfl) rfl (fun c1 => ?_) (fun c1 => ?_)
  · refine ev_iconst (dMo_type.at 8 rfl) kI_0 ?_
    refine ev_istore (dMo_type.at 9 rfl) (by decide) rfl ?_
    exact (k1 c1)
  · refine ev_iconst (dMo_type.at 6 rfl) kI_m1 ?_
    exact ev_iret (dMo_type.at 7 rfl) rfl (k2 c1)
set_option maxHeartbeats 4000000 in
theorem bMo_type_17 {d : Nat} {w : sx_W} {Q : sx_Q} {y1 : Int64} {x3 : Int32} {x4 : Int32} {f1 : Int32}
    (k1 : (x3 ≤ x4) → (((w.1 48 14) + x3) ≤ (100 : Int32)) → sx_ev (d + 1) rMo_type 73 [.ref 48, .long y1, .null, .null, .int (x3 - (1 : Int32))] [] w Q)
    (k2 : (x3 ≤ x4) → (¬ ((w.1 48 14) + x3) ≤ (100 : Int32)) → Q (-3 : Int32) 0 w)
    (m1 : (¬ x3 ≤ x4) → sx_de d rMo_in [.long ((y1 >>> (((8 : Int32) * x4).toInt64 &&& 63)) &&& (lN 255)), .long (lN 32), .long (lN 126)] w f1 0 w)
    (k3 : (¬ x3 ≤ x4) → (¬ f1 = 0) → sx_ev (d + 1) rMo_type 17 [.ref 48, .long y1, .null, .int x3, .int (x4 + (1 : Int32))] [] w Q)
    (k4 : (¬ x3 ≤ x4) → (f1 = 0) → Q (-1 : Int32) 0 w) :
    sx_ev (d + 1) rMo_type 17 [.ref 48, .long y1, .null, .int x3, .int x4] [] w Q := by
  refine ev_iload (dMo_type.at 10 rfl) rfl ?_
  refine ev_iload_n (dMo_type.at 11 rfl) rfl ?_
  refine ev_icmp_ge (tgt := 54) (dMo_type.at 12 rfl) rfl (fun c1 => ?_) (fun c1 => ?_)
  · refine ev_aload_n (dMo_type.at 28 rfl) rfl ?_
    refine ev_get (dMo_type.at 29 rfl) (own := 8) rfl fkMo_170 rfl rfl ?_
    refine ev_iload_n (dMo_type.at 30 rfl) rfl ?_
    refine ev_iadd (dMo_type.at 31 rfl) ?_
    refine ev_bipush (dMo_type.at 32 rfl) kB_100 ?_
    refine ev_icmp_le (tgt := 68) (dMo_type.at 33 rfl) rfl (fun c2 => ?_) (fun c2 => ?_)
    · refine ev_iload_n (dMo_type.at 36 rfl) rfl ?_
      refine ev_iconst (dMo_type.at 37 rfl) kI_1 ?_
      refine ev_isub (dMo_type.at 38 rfl) ?_
      refine ev_istore (dMo_type.at 39 rfl) (by decide) rfl ?_
      refine ev_kp [true, true, false, false, true] rfl ?_
      exact (k1 c1 c2)
    · refine ev_bipush (dMo_type.at 34 rfl) kB_m3 ?_
      exact ev_iret (dMo_type.at 35 rfl) rfl (k2 c1 c2)
  · refine ev_lload_n (dMo_type.at 13 rfl) rfl ?_
    refine ev_bipush (dMo_type.at 14 rfl) kB_8 ?_
    refine ev_iload (dMo_type.at 15 rfl) rfl ?_
    refine ev_imul (dMo_type.at 16 rfl) ?_
    refine ev_lshr (dMo_type.at 17 rfl) ?_
    refine ev_ldc2 (dMo_type.at 18 rfl) (own := 8) rfl (List.mem_of_getElem? (i := 2) rfl) ?_
    refine ev_land (dMo_type.at 19 rfl) ?_
    refine ev_ldc2 (dMo_type.at 20 rfl) (own := 8) rfl (List.mem_of_getElem? (i := 8) rfl) ?_
    refine ev_ldc2 (dMo_type.at 21 rfl) (own := 8) rfl (List.mem_of_getElem? (i := 9) rfl) ?_
    refine ev_cSi (dMo_type.at 22 rfl) (As := [.long ((y1 >>> (((8 : Int32) * x4).toInt64 &&& 63)) &&& (lN 255)), .long (lN 32), .long (lN 126)]) (own := 8) rfl ckMo_69 (Or.inr rfl) rfl (Nat.le_of_ble_eq_true rfl) rfl (m1 c1) ?_
    refine ev_if_ne (tgt := 48) (dMo_type.at 23 rfl) rfl (fun c3 => ?_) (fun c3 => ?_)
    · refine ev_iinc (dMo_type.at 26 rfl) kI_1 rfl (by decide) rfl ?_
      refine ev_goto (tgt := 17) (dMo_type.at 27 rfl) rfl ?_
      exact (k3 c1 c3)
    · refine ev_iconst (dMo_type.at 24 rfl) kI_m1 ?_
      exact ev_iret (dMo_type.at 25 rfl) rfl (k4 c1 c3)
set_option maxHeartbeats 4000000 in
theorem bMo_type_73 {d : Nat} {w : sx_W} {Q : sx_Q} {y1 : Int64} {x4 : Int32}
    (k1 : (x4 < 0) → Q (w.1 48 14) 0 w)
    (o1 : (¬ x4 < 0) → vp_in (w.1 48 14) 100)
    (k2 : (¬ x4 < 0) → sx_ev d rMo_type 73 [.ref 48, .long y1, .null, .null, .int (x4 + (-1 : Int32))] [] ((sx_u (sx_u w.1 58 (w.1 48 14).toNatClampNeg ((y1 >>> (((8 : Int32) * x4).toInt64 &&& 63)) &&& (lN 255)).toInt32) 48 14 ((w.1 48 14) + (1 : Int32))), w.2) Q) :
    sx_ev d rMo_type 73 [.ref 48, .long y1, .null, .null, .int x4] [] w Q := by
  refine ev_iload (dMo_type.at 40 rfl) rfl ?_
  refine ev_if_lt (tgt := 115) (dMo_type.at 41 rfl) rfl (fun c1 => ?_) (fun c1 => ?_)
  · refine ev_aload_n (dMo_type.at 63 rfl) rfl ?_
    refine ev_get (dMo_type.at 64 rfl) (own := 8) rfl fkMo_170 rfl rfl ?_
    exact ev_iret (dMo_type.at 65 rfl) rfl (k1 c1)
  · refine ev_aload_n (dMo_type.at 42 rfl) rfl ?_
    refine ev_getr (dMo_type.at 43 rfl) (own := 8) rfl fkMo_37 rfl rfl ?_
    refine ev_aload_n (dMo_type.at 44 rfl) rfl ?_
    refine ev_get (dMo_type.at 45 rfl) (own := 8) rfl fkMo_170 rfl rfl ?_
    refine ev_lload_n (dMo_type.at 46 rfl) rfl ?_
    refine ev_bipush (dMo_type.at 47 rfl) kB_8 ?_
    refine ev_iload (dMo_type.at 48 rfl) rfl ?_
    refine ev_imul (dMo_type.at 49 rfl) ?_
    refine ev_lshr (dMo_type.at 50 rfl) ?_
    refine ev_ldc2 (dMo_type.at 51 rfl) (own := 8) rfl (List.mem_of_getElem? (i := 2) rfl) ?_
    refine ev_land (dMo_type.at 52 rfl) ?_
    refine ev_l2i (dMo_type.at 53 rfl) ?_
    refine ev_iastore (dMo_type.at 54 rfl) rfl (o1 c1) ?_
    refine ev_aload_n (dMo_type.at 55 rfl) rfl ?_
    refine ev_dup (dMo_type.at 56 rfl) rfl ?_
    refine ev_get (dMo_type.at 57 rfl) (own := 8) rfl fkMo_170 rfl rfl ?_
    refine ev_iconst (dMo_type.at 58 rfl) kI_1 ?_
    refine ev_iadd (dMo_type.at 59 rfl) ?_
    refine ev_put (dMo_type.at 60 rfl) (own := 8) rfl fkMo_170 rfl rfl ?_
    refine ev_iinc (dMo_type.at 61 rfl) kI_m1 rfl (by decide) rfl ?_
    refine ev_goto (tgt := 73) (dMo_type.at 62 rfl) rfl ?_
    exact (k2 c1)
set_option maxHeartbeats 4000000 in
theorem bMo_here_e {d : Nat} {w : sx_W} {Q : sx_Q}
    (k1 : ((w.1 48 14) ≤ (w.1 48 15)) → Q (0 : Int32) 0 w)
    (o1 : (¬ (w.1 48 14) ≤ (w.1 48 15)) → vp_in (w.1 48 15) 100)
    (k2 : (¬ (w.1 48 14) ≤ (w.1 48 15)) → (¬ (w.1 58 (w.1 48 15).toNatClampNeg) = (32 : Int32)) → Q (w.1 58 (w.1 48 15).toNatClampNeg) 0 w)
    (k3 : (¬ (w.1 48 14) ≤ (w.1 48 15)) → ((w.1 58 (w.1 48 15).toNatClampNeg) = (32 : Int32)) → sx_ev d rMo_here 0 [.ref 48] [] ((sx_u w.1 48 15 ((w.1 48 15) + (1 : Int32))), w.2) Q) :
    sx_ev d rMo_here 0 [.ref 48] [] w Q := by
  refine ev_aload_n (dMo_here.at 0 rfl) rfl ?_
  refine ev_get (dMo_here.at 1 rfl) (own := 8) rfl fkMo_173 rfl rfl ?_
  refine ev_aload_n (dMo_here.at 2 rfl) rfl ?_
  refine ev_get (dMo_here.at 3 rfl) (own := 8) rfl fkMo_170 rfl rfl ?_
  refine ev_icmp_ge (tgt := 38) (dMo_here.at 4 rfl) rfl (fun c1 => ?_) (fun c1 => ?_)
  · refine ev_aload_n (dMo_here.at 19 rfl) rfl ?_
    refine ev_get (dMo_here.at 20 rfl) (own := 8) rfl fkMo_173 rfl rfl ?_
    refine ev_aload_n (dMo_here.at 21 rfl) rfl ?_
    refine ev_get (dMo_here.at 22 rfl) (own := 8) rfl fkMo_170 rfl rfl ?_
    refine ev_icmp_ge (tgt := 61) (dMo_here.at 23 rfl) rfl (fun _ => ?_) (fun h => absurd c1 h)
    refine ev_iconst (dMo_here.at 30 rfl) kI_0 ?_
    exact ev_iret (dMo_here.at 31 rfl) rfl (k1 c1)
  · refine ev_aload_n (dMo_here.at 5 rfl) rfl ?_
    refine ev_getr (dMo_here.at 6 rfl) (own := 8) rfl fkMo_37 rfl rfl ?_
    refine ev_aload_n (dMo_here.at 7 rfl) rfl ?_
    refine ev_get (dMo_here.at 8 rfl) (own := 8) rfl fkMo_173 rfl rfl ?_
    refine ev_iaload (dMo_here.at 9 rfl) rfl (o1 c1) ?_
    refine ev_bipush (dMo_here.at 10 rfl) kB_32 ?_
    refine ev_icmp_ne (tgt := 38) (dMo_here.at 11 rfl) rfl (fun c2 => ?_) (fun c2 => ?_)
    · refine ev_aload_n (dMo_here.at 19 rfl) rfl ?_
      refine ev_get (dMo_here.at 20 rfl) (own := 8) rfl fkMo_173 rfl rfl ?_
      refine ev_aload_n (dMo_here.at 21 rfl) rfl ?_
      refine ev_get (dMo_here.at 22 rfl) (own := 8) rfl fkMo_170 rfl rfl ?_
      refine ev_icmp_ge (tgt := 61) (dMo_here.at 23 rfl) rfl (fun h => absurd h c1) (fun _ => ?_)
      refine ev_aload_n (dMo_here.at 24 rfl) rfl ?_
      refine ev_getr (dMo_here.at 25 rfl) (own := 8) rfl fkMo_37 rfl rfl ?_
      refine ev_aload_n (dMo_here.at 26 rfl) rfl ?_
      refine ev_get (dMo_here.at 27 rfl) (own := 8) rfl fkMo_173 rfl rfl ?_
      refine ev_iaload (dMo_here.at 28 rfl) rfl (o1 c1) ?_
      refine ev_goto (tgt := 62) (dMo_here.at 29 rfl) rfl ?_
      exact ev_iret (dMo_here.at 31 rfl) rfl (k2 c1 c2)
    · refine ev_aload_n (dMo_here.at 12 rfl) rfl ?_
      refine ev_dup (dMo_here.at 13 rfl) rfl ?_
      refine ev_get (dMo_here.at 14 rfl) (own := 8) rfl fkMo_173 rfl rfl ?_
      refine ev_iconst (dMo_here.at 15 rfl) kI_1 ?_
      refine ev_iadd (dMo_here.at 16 rfl) ?_
      refine ev_put (dMo_here.at 17 rfl) (own := 8) rfl fkMo_173 rfl rfl ?_
      refine ev_goto (tgt := 0) (dMo_here.at 18 rfl) rfl ?_
      exact (k3 c1 c2)
set_option maxHeartbeats 4000000 in
theorem bMo_here_0 {d : Nat} {w : sx_W} {Q : sx_Q}
    (k1 : ((w.1 48 14) ≤ (w.1 48 15)) → Q (0 : Int32) 0 w)
    (o1 : (¬ (w.1 48 14) ≤ (w.1 48 15)) → vp_in (w.1 48 15) 100)
    (k2 : (¬ (w.1 48 14) ≤ (w.1 48 15)) → (¬ (w.1 58 (w.1 48 15).toNatClampNeg) = (32 : Int32)) → Q (w.1 58 (w.1 48 15).toNatClampNeg) 0 w)
    (k3 : (¬ (w.1 48 14) ≤ (w.1 48 15)) → ((w.1 58 (w.1 48 15).toNatClampNeg) = (32 : Int32)) → sx_ev d rMo_here 0 [.ref 48] [] ((sx_u w.1 48 15 ((w.1 48 15) + (1 : Int32))), w.2) Q) :
    sx_ev d rMo_here 0 [.ref 48] [] w Q := by
  refine ev_aload_n (dMo_here.at 0 rfl) rfl ?_
  refine ev_get (dMo_here.at 1 rfl) (own := 8) rfl fkMo_173 rfl rfl ?_
  refine ev_aload_n (dMo_here.at 2 rfl) rfl ?_
  refine ev_get (dMo_here.at 3 rfl) (own := 8) rfl fkMo_170 rfl rfl ?_
  refine ev_icmp_ge (tgt := 38) (dMo_here.at 4 rfl) rfl (fun c1 => ?_) (fun c1 => ?_)
  · refine ev_aload_n (dMo_here.at 19 rfl) rfl ?_
    refine ev_get (dMo_here.at 20 rfl) (own := 8) rfl fkMo_173 rfl rfl ?_
    refine ev_aload_n (dMo_here.at 21 rfl) rfl ?_
    refine ev_get (dMo_here.at 22 rfl) (own := 8) rfl fkMo_170 rfl rfl ?_
    refine ev_icmp_ge (tgt := 61) (dMo_here.at 23 rfl) rfl (fun _ => ?_) (fun h => absurd c1 h)
    refine ev_iconst (dMo_here.at 30 rfl) kI_0 ?_
    exact ev_iret (dMo_here.at 31 rfl) rfl (k1 c1)
  · refine ev_aload_n (dMo_here.at 5 rfl) rfl ?_
    refine ev_getr (dMo_here.at 6 rfl) (own := 8) rfl fkMo_37 rfl rfl ?_
    refine ev_aload_n (dMo_here.at 7 rfl) rfl ?_
    refine ev_get (dMo_here.at 8 rfl) (own := 8) rfl fkMo_173 rfl rfl ?_
    refine ev_iaload (dMo_here.at 9 rfl) rfl (o1 c1) ?_
    refine ev_bipush (dMo_here.at 10 rfl) kB_32 ?_
    refine ev_icmp_ne (tgt := 38) (dMo_here.at 11 rfl) rfl (fun c2 => ?_) (fun c2 => ?_)
    · refine ev_aload_n (dMo_here.at 19 rfl) rfl ?_
      refine ev_get (dMo_here.at 20 rfl) (own := 8) rfl fkMo_173 rfl rfl ?_
      refine ev_aload_n (dMo_here.at 21 rfl) rfl ?_
      refine ev_get (dMo_here.at 22 rfl) (own := 8) rfl fkMo_170 rfl rfl ?_
      refine ev_icmp_ge (tgt := 61) (dMo_here.at 23 rfl) rfl (fun h => absurd h c1) (fun _ => ?_)
      refine ev_aload_n (dMo_here.at 24 rfl) rfl ?_
      refine ev_getr (dMo_here.at 25 rfl) (own := 8) rfl fkMo_37 rfl rfl ?_
      refine ev_aload_n (dMo_here.at 26 rfl) rfl ?_
      refine ev_get (dMo_here.at 27 rfl) (own := 8) rfl fkMo_173 rfl rfl ?_
      refine ev_iaload (dMo_here.at 28 rfl) rfl (o1 c1) ?_
      refine ev_goto (tgt := 62) (dMo_here.at 29 rfl) rfl ?_
      exact ev_iret (dMo_here.at 31 rfl) rfl (k2 c1 c2)
    · refine ev_aload_n (dMo_here.at 12 rfl) rfl ?_
      refine ev_dup (dMo_here.at 13 rfl) rfl ?_
      refine ev_get (dMo_here.at 14 rfl) (own := 8) rfl fkMo_173 rfl rfl ?_
      refine ev_iconst (dMo_here.at 15 rfl) kI_1 ?_
      refine ev_iadd (dMo_here.at 16 rfl) ?_
      refine ev_put (dMo_here.at 17 rfl) (own := 8) rfl fkMo_173 rfl rfl ?_
      refine ev_goto (tgt := 0) (dMo_here.at 18 rfl) rfl ?_
      exact (k3 c1 c2)
set_option maxHeartbeats 4000000 in
theorem bMo_has_0 {d : Nat} {w : sx_W} {Q : sx_Q} {x1 : Int32} {f1 : Int32} {w1 : sx_W}
    (k1 : (¬ (w.1 48 16) = 0) → Q (0 : Int32) 0 ((sx_u w.1 48 15 ((w.1 48 15) + (0 : Int32))), w.2))
    (m1 : ((w.1 48 16) = 0) → sx_de d rMo_here [.ref 48] w f1 0 w1)
    (k2 : ((w.1 48 16) = 0) → (¬ f1 = x1) → Q (0 : Int32) 0 ((sx_u w1.1 48 15 ((w1.1 48 15) + (0 : Int32))), w1.2))
    (k3 : ((w.1 48 16) = 0) → (f1 = x1) → Q (1 : Int32) 0 ((sx_u w1.1 48 15 ((w1.1 48 15) + (1 : Int32))), w1.2)) :
    sx_ev (d + 1) rMo_has 0 [.ref 48, .int x1, .null] [] w Q := by
  refine ev_aload_n (dMo_has.at 0 rfl) rfl ?_
  refine ev_get (dMo_has.at 1 rfl) (own := 8) rfl fkMo_176 rfl rfl ?_
  refine ev_if_ne (tgt := 19) (dMo_has.at 2 rfl) rfl (fun c1 => ?_) (fun c1 => ?_)
  · refine ev_iconst (dMo_has.at 9 rfl) kI_0 ?_
    refine ev_istore_n (dMo_has.at 10 rfl) (by decide) rfl ?_
    refine ev_aload_n (dMo_has.at 11 rfl) rfl ?_
    refine ev_dup (dMo_has.at 12 rfl) rfl ?_
    refine ev_get (dMo_has.at 13 rfl) (own := 8) rfl fkMo_173 rfl rfl ?_
    refine ev_iload_n (dMo_has.at 14 rfl) rfl ?_
    refine ev_if_eq (tgt := 34) (dMo_has.at 15 rfl) rfl (fun _ => ?_) (fun h => absurd h (by decide))
    refine ev_iconst (dMo_has.at 18 rfl) kI_0 ?_
    refine ev_iadd (dMo_has.at 19 rfl) ?_
    refine ev_put (dMo_has.at 20 rfl) (own := 8) rfl fkMo_173 rfl rfl ?_
    refine ev_iload_n (dMo_has.at 21 rfl) rfl ?_
    exact ev_zret (dMo_has.at 22 rfl) rfl (by decide) (k1 c1)
  · refine ev_aload_n (dMo_has.at 3 rfl) rfl ?_
    refine ev_cVi (dMo_has.at 4 rfl) (As := []) (own := 8) rfl ckMo_179 rfl (Or.inl rfl) rfl (Nat.le_of_ble_eq_true rfl) rfl (m1 c1) ?_
    refine ev_iload_n (dMo_has.at 5 rfl) rfl ?_
    refine ev_icmp_ne (tgt := 19) (dMo_has.at 6 rfl) rfl (fun c2 => ?_) (fun c2 => ?_)
    · refine ev_iconst (dMo_has.at 9 rfl) kI_0 ?_
      refine ev_istore_n (dMo_has.at 10 rfl) (by decide) rfl ?_
      refine ev_aload_n (dMo_has.at 11 rfl) rfl ?_
      refine ev_dup (dMo_has.at 12 rfl) rfl ?_
      refine ev_get (dMo_has.at 13 rfl) (own := 8) rfl fkMo_173 rfl rfl ?_
      refine ev_iload_n (dMo_has.at 14 rfl) rfl ?_
      refine ev_if_eq (tgt := 34) (dMo_has.at 15 rfl) rfl (fun _ => ?_) (fun h => absurd h (by decide))
      refine ev_iconst (dMo_has.at 18 rfl) kI_0 ?_
      refine ev_iadd (dMo_has.at 19 rfl) ?_
      refine ev_put (dMo_has.at 20 rfl) (own := 8) rfl fkMo_173 rfl rfl ?_
      refine ev_iload_n (dMo_has.at 21 rfl) rfl ?_
      exact ev_zret (dMo_has.at 22 rfl) rfl (by decide) (k2 c1 c2)
    · refine ev_iconst (dMo_has.at 7 rfl) kI_1 ?_
      refine ev_goto (tgt := 20) (dMo_has.at 8 rfl) rfl ?_
      refine ev_istore_n (dMo_has.at 10 rfl) (by decide) rfl ?_
      refine ev_aload_n (dMo_has.at 11 rfl) rfl ?_
      refine ev_dup (dMo_has.at 12 rfl) rfl ?_
      refine ev_get (dMo_has.at 13 rfl) (own := 8) rfl fkMo_173 rfl rfl ?_
      refine ev_iload_n (dMo_has.at 14 rfl) rfl ?_
      refine ev_if_eq (tgt := 34) (dMo_has.at 15 rfl) rfl (fun h => absurd h (by decide)) (fun _ => ?_)
      refine ev_iconst (dMo_has.at 16 rfl) kI_1 ?_
      refine ev_goto (tgt := 35) (dMo_has.at 17 rfl) rfl ?_
      refine ev_iadd (dMo_has.at 19 rfl) ?_
      refine ev_put (dMo_has.at 20 rfl) (own := 8) rfl fkMo_173 rfl rfl ?_
      refine ev_iload_n (dMo_has.at 21 rfl) rfl ?_
      exact ev_zret (dMo_has.at 22 rfl) rfl (by decide) (k3 c1 c2)
set_option maxHeartbeats 4000000 in
theorem bMo_kindOf_0 {d : Nat} {w : sx_W} {Q : sx_Q} {x0 : Int32}
    (k1 : (¬ x0 = (112 : Int32)) → (¬ x0 = (115 : Int32)) → (¬ x0 = (108 : Int32)) → (¬ x0 = (110 : Int32)) → Q (-4 : Int32) 0 w)
    (k2 : (¬ x0 = (112 : Int32)) → (¬ x0 = (115 : Int32)) → (¬ x0 = (108 : Int32)) → (x0 = (110 : Int32)) → Q (3 : Int32) 0 w)
    (k3 : (¬ x0 = (112 : Int32)) → (¬ x0 = (115 : Int32)) → (x0 = (108 : Int32)) → Q (2 : Int32) 0 w)
    (k4 : (¬ x0 = (112 : Int32)) → (x0 = (115 : Int32)) → Q (1 : Int32) 0 w)
    (k5 : (x0 = (112 : Int32)) → Q (0 : Int32) 0 w) :
    sx_ev d rMo_kindOf 0 [.int x0] [] w Q := by
  refine ev_iload_n (dMo_kindOf.at 0 rfl) rfl ?_
  refine ev_bipush (dMo_kindOf.at 1 rfl) kB_112 ?_
  refine ev_icmp_ne (tgt := 10) (dMo_kindOf.at 2 rfl) rfl (fun c1 => ?_) (fun c1 => ?_)
  · refine ev_iload_n (dMo_kindOf.at 5 rfl) rfl ?_
    refine ev_bipush (dMo_kindOf.at 6 rfl) kB_115 ?_
    refine ev_icmp_ne (tgt := 20) (dMo_kindOf.at 7 rfl) rfl (fun c2 => ?_) (fun c2 => ?_)
    · refine ev_iload_n (dMo_kindOf.at 10 rfl) rfl ?_
      refine ev_bipush (dMo_kindOf.at 11 rfl) kB_108 ?_
      refine ev_icmp_ne (tgt := 30) (dMo_kindOf.at 12 rfl) rfl (fun c3 => ?_) (fun c3 => ?_)
      · refine ev_iload_n (dMo_kindOf.at 15 rfl) rfl ?_
        refine ev_bipush (dMo_kindOf.at 16 rfl) kB_110 ?_
        refine ev_icmp_ne (tgt := 40) (dMo_kindOf.at 17 rfl) rfl (fun c4 => ?_) (fun c4 => ?_)
        · refine ev_bipush (dMo_kindOf.at 20 rfl) kB_m4 ?_
          exact ev_iret (dMo_kindOf.at 21 rfl) rfl (k1 c1 c2 c3 c4)
        · refine ev_iconst (dMo_kindOf.at 18 rfl) kI_3 ?_
          refine ev_goto (tgt := 42) (dMo_kindOf.at 19 rfl) rfl ?_
          exact ev_iret (dMo_kindOf.at 21 rfl) rfl (k2 c1 c2 c3 c4)
      · refine ev_iconst (dMo_kindOf.at 13 rfl) kI_2 ?_
        refine ev_goto (tgt := 42) (dMo_kindOf.at 14 rfl) rfl ?_
        exact ev_iret (dMo_kindOf.at 21 rfl) rfl (k3 c1 c2 c3)
    · refine ev_iconst (dMo_kindOf.at 8 rfl) kI_1 ?_
      refine ev_goto (tgt := 42) (dMo_kindOf.at 9 rfl) rfl ?_
      exact ev_iret (dMo_kindOf.at 21 rfl) rfl (k4 c1 c2)
  · refine ev_iconst (dMo_kindOf.at 3 rfl) kI_0 ?_
    refine ev_goto (tgt := 42) (dMo_kindOf.at 4 rfl) rfl ?_
    exact ev_iret (dMo_kindOf.at 21 rfl) rfl (k5 c1)
set_option maxHeartbeats 4000000 in
theorem bMo_digit_0 {d : Nat} {w : sx_W} {Q : sx_Q} {x1 : Int32} {x2 : Int32} {f1 : Int32} {w1 : sx_W} {f2 : Int32}
    (m1 : ((w.1 48 16) = 0) → sx_de d rMo_here [.ref 48] w f1 0 w1)
    (k1 : ((w.1 48 16) = 0) → (¬ (w1.1 48 16) = 0) → ((1 : Int32) = 0) → Q (f1 - (48 : Int32)) 0 ((sx_u (sx_u w1.1 48 16 (1 : Int32)) 48 15 ((w1.1 48 15) + (1 : Int32))), w1.2))
    (k2 : ((w.1 48 16) = 0) → (¬ (w1.1 48 16) = 0) → (¬ (1 : Int32) = 0) → Q (f1 - (48 : Int32)) 0 ((sx_u (sx_u w1.1 48 16 (1 : Int32)) 48 15 ((w1.1 48 15) + (0 : Int32))), w1.2))
    (m2 : ((w.1 48 16) = 0) → ((w1.1 48 16) = 0) → sx_de d rMo_in [.long (f1).toInt64, .long ((48 : Int32) + x1).toInt64, .long ((48 : Int32) + x2).toInt64] w1 f2 0 w1)
    (k3 : ((w.1 48 16) = 0) → ((w1.1 48 16) = 0) → (¬ f2 = 0) → ((0 : Int32) = 0) → Q (f1 - (48 : Int32)) 0 ((sx_u (sx_u w1.1 48 16 (0 : Int32)) 48 15 ((w1.1 48 15) + (1 : Int32))), w1.2))
    (k4 : ((w.1 48 16) = 0) → ((w1.1 48 16) = 0) → (¬ f2 = 0) → (¬ (0 : Int32) = 0) → Q (f1 - (48 : Int32)) 0 ((sx_u (sx_u w1.1 48 16 (0 : Int32)) 48 15 ((w1.1 48 15) + (0 : Int32))), w1.2))
    (k5 : ((w.1 48 16) = 0) → ((w1.1 48 16) = 0) → (f2 = 0) → ((1 : Int32) = 0) → Q (f1 - (48 : Int32)) 0 ((sx_u (sx_u w1.1 48 16 (1 : Int32)) 48 15 ((w1.1 48 15) + (1 : Int32))), w1.2))
    (k6 : ((w.1 48 16) = 0) → ((w1.1 48 16) = 0) → (f2 = 0) → (¬ (1 : Int32) = 0) → Q (f1 - (48 : Int32)) 0 ((sx_u (sx_u w1.1 48 16 (1 : Int32)) 48 15 ((w1.1 48 15) + (0 : Int32))), w1.2))
    (k7 : (¬ (w.1 48 16) = 0) → ((1 : Int32) = 0) → Q ((0 : Int32) - (48 : Int32)) 0 ((sx_u (sx_u w.1 48 16 (1 : Int32)) 48 15 ((w.1 48 15) + (1 : Int32))), w.2))
    (k8 : (¬ (w.1 48 16) = 0) → (¬ (1 : Int32) = 0) → Q ((0 : Int32) - (48 : Int32)) 0 ((sx_u (sx_u w.1 48 16 (1 : Int32)) 48 15 ((w.1 48 15) + (0 : Int32))), w.2)) :
    sx_ev (d + 1) rMo_digit 0 [.ref 48, .int x1, .int x2, .null] [] w Q := by
  refine ev_aload_n (dMo_digit.at 0 rfl) rfl ?_
  refine ev_get (dMo_digit.at 1 rfl) (own := 8) rfl fkMo_176 rfl rfl ?_
  refine ev_if_eq (tgt := 11) (dMo_digit.at 2 rfl) rfl (fun c1 => ?_) (fun c1 => ?_)
  · refine ev_aload_n (dMo_digit.at 5 rfl) rfl ?_
    refine ev_cVi (dMo_digit.at 6 rfl) (As := []) (own := 8) rfl ckMo_179 rfl (Or.inl rfl) rfl (Nat.le_of_ble_eq_true rfl) rfl (m1 c1) ?_
    refine ev_istore_n (dMo_digit.at 7 rfl) (by decide) rfl ?_
    refine ev_aload_n (dMo_digit.at 8 rfl) rfl ?_
    refine ev_aload_n (dMo_digit.at 9 rfl) rfl ?_
    refine ev_get (dMo_digit.at 10 rfl) (own := 8) rfl fkMo_176 rfl rfl ?_
    refine ev_if_ne (tgt := 42) (dMo_digit.at 11 rfl) rfl (fun c2 => ?_) (fun c2 => ?_)
    · refine ev_iconst (dMo_digit.at 24 rfl) kI_1 ?_
      refine ev_goto (tgt := 47) (dMo_digit.at 25 rfl) rfl ?_
      refine ev_putz (dMo_digit.at 27 rfl) (own := 8) rfl fkMo_176 rfl rfl (by decide) ?_
      refine ev_aload_n (dMo_digit.at 28 rfl) rfl ?_
      refine ev_dup (dMo_digit.at 29 rfl) rfl ?_
      refine ev_get (dMo_digit.at 30 rfl) (own := 8) rfl fkMo_173 rfl rfl ?_
      refine ev_aload_n (dMo_digit.at 31 rfl) rfl ?_
      refine ev_get (dMo_digit.at 32 rfl) (own := 8) rfl fkMo_176 rfl rfl ?_
      refine ev_if_eq (tgt := 66) (dMo_digit.at 33 rfl) rfl (fun c3 => ?_) (fun c3 => ?_)
      · refine ev_iconst (dMo_digit.at 36 rfl) kI_1 ?_
        refine ev_iadd (dMo_digit.at 37 rfl) ?_
        refine ev_put (dMo_digit.at 38 rfl) (own := 8) rfl fkMo_173 rfl rfl ?_
        refine ev_iload_n (dMo_digit.at 39 rfl) rfl ?_
        refine ev_bipush (dMo_digit.at 40 rfl) kB_48 ?_
        refine ev_isub (dMo_digit.at 41 rfl) ?_
        exact ev_iret (dMo_digit.at 42 rfl) rfl (k1 c1 c2 c3)
      · refine ev_iconst (dMo_digit.at 34 rfl) kI_0 ?_
        refine ev_goto (tgt := 67) (dMo_digit.at 35 rfl) rfl ?_
        refine ev_iadd (dMo_digit.at 37 rfl) ?_
        refine ev_put (dMo_digit.at 38 rfl) (own := 8) rfl fkMo_173 rfl rfl ?_
        refine ev_iload_n (dMo_digit.at 39 rfl) rfl ?_
        refine ev_bipush (dMo_digit.at 40 rfl) kB_48 ?_
        refine ev_isub (dMo_digit.at 41 rfl) ?_
        exact ev_iret (dMo_digit.at 42 rfl) rfl (k2 c1 c2 c3)
    · refine ev_iload_n (dMo_digit.at 12 rfl) rfl ?_
      refine ev_i2l (dMo_digit.at 13 rfl) ?_
      refine ev_bipush (dMo_digit.at 14 rfl) kB_48 ?_
      refine ev_iload_n (dMo_digit.at 15 rfl) rfl ?_
      refine ev_iadd (dMo_digit.at 16 rfl) ?_
      refine ev_i2l (dMo_digit.at 17 rfl) ?_
      refine ev_bipush (dMo_digit.at 18 rfl) kB_48 ?_
      refine ev_iload_n (dMo_digit.at 19 rfl) rfl ?_
      refine ev_iadd (dMo_digit.at 20 rfl) ?_
      refine ev_i2l (dMo_digit.at 21 rfl) ?_
      refine ev_cSi (dMo_digit.at 22 rfl) (As := [.long (f1).toInt64, .long ((48 : Int32) + x1).toInt64, .long ((48 : Int32) + x2).toInt64]) (own := 8) rfl ckMo_69 (Or.inr rfl) rfl (Nat.le_of_ble_eq_true rfl) rfl (m2 c1 c2) ?_
      refine ev_if_ne (tgt := 46) (dMo_digit.at 23 rfl) rfl (fun c4 => ?_) (fun c4 => ?_)
      · refine ev_iconst (dMo_digit.at 26 rfl) kI_0 ?_
        refine ev_putz (dMo_digit.at 27 rfl) (own := 8) rfl fkMo_176 rfl rfl (by decide) ?_
        refine ev_aload_n (dMo_digit.at 28 rfl) rfl ?_
        refine ev_dup (dMo_digit.at 29 rfl) rfl ?_
        refine ev_get (dMo_digit.at 30 rfl) (own := 8) rfl fkMo_173 rfl rfl ?_
        refine ev_aload_n (dMo_digit.at 31 rfl) rfl ?_
        refine ev_get (dMo_digit.at 32 rfl) (own := 8) rfl fkMo_176 rfl rfl ?_
        refine ev_if_eq (tgt := 66) (dMo_digit.at 33 rfl) rfl (fun c5 => ?_) (fun c5 => ?_)
        · refine ev_iconst (dMo_digit.at 36 rfl) kI_1 ?_
          refine ev_iadd (dMo_digit.at 37 rfl) ?_
          refine ev_put (dMo_digit.at 38 rfl) (own := 8) rfl fkMo_173 rfl rfl ?_
          refine ev_iload_n (dMo_digit.at 39 rfl) rfl ?_
          refine ev_bipush (dMo_digit.at 40 rfl) kB_48 ?_
          refine ev_isub (dMo_digit.at 41 rfl) ?_
          exact ev_iret (dMo_digit.at 42 rfl) rfl (k3 c1 c2 c4 c5)
        · refine ev_iconst (dMo_digit.at 34 rfl) kI_0 ?_
          refine ev_goto (tgt := 67) (dMo_digit.at 35 rfl) rfl ?_
          refine ev_iadd (dMo_digit.at 37 rfl) ?_
          refine ev_put (dMo_digit.at 38 rfl) (own := 8) rfl fkMo_173 rfl rfl ?_
          refine ev_iload_n (dMo_digit.at 39 rfl) rfl ?_
          refine ev_bipush (dMo_digit.at 40 rfl) kB_48 ?_
          refine ev_isub (dMo_digit.at 41 rfl) ?_
          exact ev_iret (dMo_digit.at 42 rfl) rfl (k4 c1 c2 c4 c5)
      · refine ev_iconst (dMo_digit.at 24 rfl) kI_1 ?_
        refine ev_goto (tgt := 47) (dMo_digit.at 25 rfl) rfl ?_
        refine ev_putz (dMo_digit.at 27 rfl) (own := 8) rfl fkMo_176 rfl rfl (by decide) ?_
        refine ev_aload_n (dMo_digit.at 28 rfl) rfl ?_
        refine ev_dup (dMo_digit.at 29 rfl) rfl ?_
        refine ev_get (dMo_digit.at 30 rfl) (own := 8) rfl fkMo_173 rfl rfl ?_
        refine ev_aload_n (dMo_digit.at 31 rfl) rfl ?_
        refine ev_get (dMo_digit.at 32 rfl) (own := 8) rfl fkMo_176 rfl rfl ?_
        refine ev_if_eq (tgt := 66) (dMo_digit.at 33 rfl) rfl (fun c6 => ?_) (fun c6 => ?_)
        · refine ev_iconst (dMo_digit.at 36 rfl) kI_1 ?_
          refine ev_iadd (dMo_digit.at 37 rfl) ?_
          refine ev_put (dMo_digit.at 38 rfl) (own := 8) rfl fkMo_173 rfl rfl ?_
          refine ev_iload_n (dMo_digit.at 39 rfl) rfl ?_
          refine ev_bipush (dMo_digit.at 40 rfl) kB_48 ?_
          refine ev_isub (dMo_digit.at 41 rfl) ?_
          exact ev_iret (dMo_digit.at 42 rfl) rfl (k5 c1 c2 c4 c6)
        · refine ev_iconst (dMo_digit.at 34 rfl) kI_0 ?_
          refine ev_goto (tgt := 67) (dMo_digit.at 35 rfl) rfl ?_
          refine ev_iadd (dMo_digit.at 37 rfl) ?_
          refine ev_put (dMo_digit.at 38 rfl) (own := 8) rfl fkMo_173 rfl rfl ?_
          refine ev_iload_n (dMo_digit.at 39 rfl) rfl ?_
          refine ev_bipush (dMo_digit.at 40 rfl) kB_48 ?_
          refine ev_isub (dMo_digit.at 41 rfl) ?_
          exact ev_iret (dMo_digit.at 42 rfl) rfl (k6 c1 c2 c4 c6)
  · refine ev_iconst (dMo_digit.at 3 rfl) kI_0 ?_
    refine ev_goto (tgt := 15) (dMo_digit.at 4 rfl) rfl ?_
    refine ev_istore_n (dMo_digit.at 7 rfl) (by decide) rfl ?_
    refine ev_aload_n (dMo_digit.at 8 rfl) rfl ?_
    refine ev_aload_n (dMo_digit.at 9 rfl) rfl ?_
    refine ev_get (dMo_digit.at 10 rfl) (own := 8) rfl fkMo_176 rfl rfl ?_
    refine ev_if_ne (tgt := 42) (dMo_digit.at 11 rfl) rfl (fun _ => ?_) (fun h => absurd h c1)
    refine ev_iconst (dMo_digit.at 24 rfl) kI_1 ?_
    refine ev_goto (tgt := 47) (dMo_digit.at 25 rfl) rfl ?_
    refine ev_putz (dMo_digit.at 27 rfl) (own := 8) rfl fkMo_176 rfl rfl (by decide) ?_
    refine ev_aload_n (dMo_digit.at 28 rfl) rfl ?_
    refine ev_dup (dMo_digit.at 29 rfl) rfl ?_
    refine ev_get (dMo_digit.at 30 rfl) (own := 8) rfl fkMo_173 rfl rfl ?_
    refine ev_aload_n (dMo_digit.at 31 rfl) rfl ?_
    refine ev_get (dMo_digit.at 32 rfl) (own := 8) rfl fkMo_176 rfl rfl ?_
    refine ev_if_eq (tgt := 66) (dMo_digit.at 33 rfl) rfl (fun c7 => ?_) (fun c7 => ?_)
    · refine ev_iconst (dMo_digit.at 36 rfl) kI_1 ?_
      refine ev_iadd (dMo_digit.at 37 rfl) ?_
      refine ev_put (dMo_digit.at 38 rfl) (own := 8) rfl fkMo_173 rfl rfl ?_
      refine ev_iload_n (dMo_digit.at 39 rfl) rfl ?_
      refine ev_bipush (dMo_digit.at 40 rfl) kB_48 ?_
      refine ev_isub (dMo_digit.at 41 rfl) ?_
      exact ev_iret (dMo_digit.at 42 rfl) rfl (k7 c1 c7)
    · refine ev_iconst (dMo_digit.at 34 rfl) kI_0 ?_
      refine ev_goto (tgt := 67) (dMo_digit.at 35 rfl) rfl ?_
      refine ev_iadd (dMo_digit.at 37 rfl) ?_
      refine ev_put (dMo_digit.at 38 rfl) (own := 8) rfl fkMo_173 rfl rfl ?_
      refine ev_iload_n (dMo_digit.at 39 rfl) rfl ?_
      refine ev_bipush (dMo_digit.at 40 rfl) kB_48 ?_
      refine ev_isub (dMo_digit.at 41 rfl) ?_
      exact ev_iret (dMo_digit.at 42 rfl) rfl (k8 c1 c7)
set_option maxHeartbeats 4000000 in
theorem bMo_readOne_0 {d : Nat} {w : sx_W} {Q : sx_Q} {x1 : Int32} {f1 : Int32} {w1 : sx_W} {f2 : Int32} {f3 : Int32} {w3 : sx_W} {f4 : Int32} {w4 : sx_W} {f5 : Int32} {w5 : sx_W} {f6 : Int32} {w6 : sx_W} {f7 : Int32} {w7 : sx_W} {f8 : Int32} {w8 : sx_W} {f9 : Int32} {w9 : sx_W} {f10 : Int32} {w10 : sx_W}
    (m1 : sx_de d rMo_here [.ref 48] w f1 0 w1)
    (m2 : sx_de d rMo_kindOf [.int f1] w1 f2 0 w1)
    (o1 : vp_in ((3 : Int32) * x1) 21)
    (m3 : (0 ≤ ((upd (w1.1 59) ((3 : Int32) * x1).toNatClampNeg f2) ((3 : Int32) * x1).toNatClampNeg)) → ((0 : Int32) = 0) → sx_de d rMo_digit [.ref 48, .int (1 : Int32), .int (4 : Int32)] ((sx_u (sx_u (sx_u w1.1 59 ((3 : Int32) * x1).toNatClampNeg f2) 48 16 (0 : Int32)) 48 15 ((w1.1 48 15) + (1 : Int32))), w1.2) f3 0 w3)
    (o2 : (0 ≤ ((upd (w1.1 59) ((3 : Int32) * x1).toNatClampNeg f2) ((3 : Int32) * x1).toNatClampNeg)) → ((0 : Int32) = 0) → vp_in (((3 : Int32) * x1) + (1 : Int32)) 21)
    (m4 : (0 ≤ ((upd (w1.1 59) ((3 : Int32) * x1).toNatClampNeg f2) ((3 : Int32) * x1).toNatClampNeg)) → ((0 : Int32) = 0) → sx_de d rMo_has [.ref 48, .int (119 : Int32)] ((sx_u w3.1 59 (((3 : Int32) * x1) + (1 : Int32)).toNatClampNeg f3), w3.2) f4 0 w4)
    (k1 : (0 ≤ ((upd (w1.1 59) ((3 : Int32) * x1).toNatClampNeg f2) ((3 : Int32) * x1).toNatClampNeg)) → ((0 : Int32) = 0) → sx_ev (d + 1) rMo_readOne 81 [.ref 48, .int x1, .int (0 : Int32), .int f4, .null] [] w4 Q)
    (m5 : (0 ≤ ((upd (w1.1 59) ((3 : Int32) * x1).toNatClampNeg f2) ((3 : Int32) * x1).toNatClampNeg)) → (¬ (0 : Int32) = 0) → sx_de d rMo_digit [.ref 48, .int (1 : Int32), .int (4 : Int32)] ((sx_u (sx_u (sx_u w1.1 59 ((3 : Int32) * x1).toNatClampNeg f2) 48 16 (0 : Int32)) 48 15 ((w1.1 48 15) + (0 : Int32))), w1.2) f5 0 w5)
    (o3 : (0 ≤ ((upd (w1.1 59) ((3 : Int32) * x1).toNatClampNeg f2) ((3 : Int32) * x1).toNatClampNeg)) → (¬ (0 : Int32) = 0) → vp_in (((3 : Int32) * x1) + (1 : Int32)) 21)
    (m6 : (0 ≤ ((upd (w1.1 59) ((3 : Int32) * x1).toNatClampNeg f2) ((3 : Int32) * x1).toNatClampNeg)) → (¬ (0 : Int32) = 0) → sx_de d rMo_has [.ref 48, .int (119 : Int32)] ((sx_u w5.1 59 (((3 : Int32) * x1) + (1 : Int32)).toNatClampNeg f5), w5.2) f6 0 w6)
    (k2 : (0 ≤ ((upd (w1.1 59) ((3 : Int32) * x1).toNatClampNeg f2) ((3 : Int32) * x1).toNatClampNeg)) → (¬ (0 : Int32) = 0) → sx_ev (d + 1) rMo_readOne 81 [.ref 48, .int x1, .int (0 : Int32), .int f6, .null] [] w6 Q)
    (m7 : (¬ 0 ≤ ((upd (w1.1 59) ((3 : Int32) * x1).toNatClampNeg f2) ((3 : Int32) * x1).toNatClampNeg)) → ((1 : Int32) = 0) → sx_de d rMo_digit [.ref 48, .int (1 : Int32), .int (4 : Int32)] ((sx_u (sx_u (sx_u w1.1 59 ((3 : Int32) * x1).toNatClampNeg f2) 48 16 (1 : Int32)) 48 15 ((w1.1 48 15) + (1 : Int32))), w1.2) f7 0 w7)
    (o4 : (¬ 0 ≤ ((upd (w1.1 59) ((3 : Int32) * x1).toNatClampNeg f2) ((3 : Int32) * x1).toNatClampNeg)) → ((1 : Int32) = 0) → vp_in (((3 : Int32) * x1) + (1 : Int32)) 21)
    (m8 : (¬ 0 ≤ ((upd (w1.1 59) ((3 : Int32) * x1).toNatClampNeg f2) ((3 : Int32) * x1).toNatClampNeg)) → ((1 : Int32) = 0) → sx_de d rMo_has [.ref 48, .int (119 : Int32)] ((sx_u w7.1 59 (((3 : Int32) * x1) + (1 : Int32)).toNatClampNeg f7), w7.2) f8 0 w8)
    (k3 : (¬ 0 ≤ ((upd (w1.1 59) ((3 : Int32) * x1).toNatClampNeg f2) ((3 : Int32) * x1).toNatClampNeg)) → ((1 : Int32) = 0) → sx_ev (d + 1) rMo_readOne 81 [.ref 48, .int x1, .int (0 : Int32), .int f8, .null] [] w8 Q)
    (m9 : (¬ 0 ≤ ((upd (w1.1 59) ((3 : Int32) * x1).toNatClampNeg f2) ((3 : Int32) * x1).toNatClampNeg)) → (¬ (1 : Int32) = 0) → sx_de d rMo_digit [.ref 48, .int (1 : Int32), .int (4 : Int32)] ((sx_u (sx_u (sx_u w1.1 59 ((3 : Int32) * x1).toNatClampNeg f2) 48 16 (1 : Int32)) 48 15 ((w1.1 48 15) + (0 : Int32))), w1.2) f9 0 w9)
    (o5 : (¬ 0 ≤ ((upd (w1.1 59) ((3 : Int32) * x1).toNatClampNeg f2) ((3 : Int32) * x1).toNatClampNeg)) → (¬ (1 : Int32) = 0) → vp_in (((3 : Int32) * x1) + (1 : Int32)) 21)
    (m10 : (¬ 0 ≤ ((upd (w1.1 59) ((3 : Int32) * x1).toNatClampNeg f2) ((3 : Int32) * x1).toNatClampNeg)) → (¬ (1 : Int32) = 0) → sx_de d rMo_has [.ref 48, .int (119 : Int32)] ((sx_u w9.1 59 (((3 : Int32) * x1) + (1 : Int32)).toNatClampNeg f9), w9.2) f10 0 w10)
    (k4 : (¬ 0 ≤ ((upd (w1.1 59) ((3 : Int32) * x1).toNatClampNeg f2) ((3 : Int32) * x1).toNatClampNeg)) → (¬ (1 : Int32) = 0) → sx_ev (d + 1) rMo_readOne 81 [.ref 48, .int x1, .int (0 : Int32), .int f10, .null] [] w10 Q) :
    sx_ev (d + 1) rMo_readOne 0 [.ref 48, .int x1, .null, .null, .null] [] w Q := by
  refine ev_aload_n (dMo_readOne.at 0 rfl) rfl ?_
  refine ev_getr (dMo_readOne.at 1 rfl) (own := 8) rfl fkMo_40 rfl rfl ?_
  refine ev_iconst (dMo_readOne.at 2 rfl) kI_3 ?_
  refine ev_iload_n (dMo_readOne.at 3 rfl) rfl ?_
  refine ev_imul (dMo_readOne.at 4 rfl) ?_
  refine ev_aload_n (dMo_readOne.at 5 rfl) rfl ?_
  refine ev_cVi (dMo_readOne.at 6 rfl) (As := []) (own := 8) rfl ckMo_179 rfl (Or.inl rfl) rfl (Nat.le_of_ble_eq_true rfl) rfl m1 ?_
  refine ev_cSi (dMo_readOne.at 7 rfl) (As := [.int f1]) (own := 8) rfl ckMo_183 (Or.inl rfl) rfl (Nat.le_of_ble_eq_true rfl) rfl m2 ?_
  refine ev_iastore (dMo_readOne.at 8 rfl) rfl o1 ?_
  refine ev_aload_n (dMo_readOne.at 9 rfl) rfl ?_
  refine ev_aload_n (dMo_readOne.at 10 rfl) rfl ?_
  refine ev_getr (dMo_readOne.at 11 rfl) (own := 8) rfl fkMo_40 rfl rfl ?_
  refine ev_iconst (dMo_readOne.at 12 rfl) kI_3 ?_
  refine ev_iload_n (dMo_readOne.at 13 rfl) rfl ?_
  refine ev_imul (dMo_readOne.at 14 rfl) ?_
  refine ev_iaload (dMo_readOne.at 15 rfl) rfl o1 ?_
  refine ev_if_ge (tgt := 31) (dMo_readOne.at 16 rfl) rfl (fun c1 => ?_) (fun c1 => ?_)
  · refine ev_iconst (dMo_readOne.at 19 rfl) kI_0 ?_
    refine ev_putz (dMo_readOne.at 20 rfl) (own := 8) rfl fkMo_176 rfl rfl (by decide) ?_
    refine ev_aload_n (dMo_readOne.at 21 rfl) rfl ?_
    refine ev_dup (dMo_readOne.at 22 rfl) rfl ?_
    refine ev_get (dMo_readOne.at 23 rfl) (own := 8) rfl fkMo_173 rfl rfl ?_
    refine ev_aload_n (dMo_readOne.at 24 rfl) rfl ?_
    refine ev_get (dMo_readOne.at 25 rfl) (own := 8) rfl fkMo_176 rfl rfl ?_
    refine ev_if_eq (tgt := 51) (dMo_readOne.at 26 rfl) rfl (fun c2 => ?_) (fun c2 => ?_)
    · refine ev_iconst (dMo_readOne.at 29 rfl) kI_1 ?_
      refine ev_iadd (dMo_readOne.at 30 rfl) ?_
      refine ev_put (dMo_readOne.at 31 rfl) (own := 8) rfl fkMo_173 rfl rfl ?_
      refine ev_aload_n (dMo_readOne.at 32 rfl) rfl ?_
      refine ev_getr (dMo_readOne.at 33 rfl) (own := 8) rfl fkMo_40 rfl rfl ?_
      refine ev_iconst (dMo_readOne.at 34 rfl) kI_3 ?_
      refine ev_iload_n (dMo_readOne.at 35 rfl) rfl ?_
      refine ev_imul (dMo_readOne.at 36 rfl) ?_
      refine ev_iconst (dMo_readOne.at 37 rfl) kI_1 ?_
      refine ev_iadd (dMo_readOne.at 38 rfl) ?_
      refine ev_aload_n (dMo_readOne.at 39 rfl) rfl ?_
      refine ev_iconst (dMo_readOne.at 40 rfl) kI_1 ?_
      refine ev_iconst (dMo_readOne.at 41 rfl) kI_4 ?_
      refine ev_cVi (dMo_readOne.at 42 rfl) (As := [.int (1 : Int32), .int (4 : Int32)]) (own := 8) rfl ckMo_186 rfl (Or.inl rfl) rfl (Nat.le_of_ble_eq_true rfl) rfl (m3 c1 c2) ?_
      refine ev_iastore (dMo_readOne.at 43 rfl) rfl (o2 c1 c2) ?_
      refine ev_iconst (dMo_readOne.at 44 rfl) kI_0 ?_
      refine ev_istore_n (dMo_readOne.at 45 rfl) (by decide) rfl ?_
      refine ev_aload_n (dMo_readOne.at 46 rfl) rfl ?_
      refine ev_bipush (dMo_readOne.at 47 rfl) kB_119 ?_
      refine ev_cVi (dMo_readOne.at 48 rfl) (As := [.int (119 : Int32)]) (own := 8) rfl ckMo_189 rfl (Or.inr rfl) rfl (Nat.le_of_ble_eq_true rfl) rfl (m4 c1 c2) ?_
      refine ev_istore_n (dMo_readOne.at 49 rfl) (by decide) rfl ?_
      exact (k1 c1 c2)
    · refine ev_iconst (dMo_readOne.at 27 rfl) kI_0 ?_
      refine ev_goto (tgt := 52) (dMo_readOne.at 28 rfl) rfl ?_
      refine ev_iadd (dMo_readOne.at 30 rfl) ?_
      refine ev_put (dMo_readOne.at 31 rfl) (own := 8) rfl fkMo_173 rfl rfl ?_
      refine ev_aload_n (dMo_readOne.at 32 rfl) rfl ?_
      refine ev_getr (dMo_readOne.at 33 rfl) (own := 8) rfl fkMo_40 rfl rfl ?_
      refine ev_iconst (dMo_readOne.at 34 rfl) kI_3 ?_
      refine ev_iload_n (dMo_readOne.at 35 rfl) rfl ?_
      refine ev_imul (dMo_readOne.at 36 rfl) ?_
      refine ev_iconst (dMo_readOne.at 37 rfl) kI_1 ?_
      refine ev_iadd (dMo_readOne.at 38 rfl) ?_
      refine ev_aload_n (dMo_readOne.at 39 rfl) rfl ?_
      refine ev_iconst (dMo_readOne.at 40 rfl) kI_1 ?_
      refine ev_iconst (dMo_readOne.at 41 rfl) kI_4 ?_
      refine ev_cVi (dMo_readOne.at 42 rfl) (As := [.int (1 : Int32), .int (4 : Int32)]) (own := 8) rfl ckMo_186 rfl (Or.inl rfl) rfl (Nat.le_of_ble_eq_true rfl) rfl (m5 c1 c2) ?_
      refine ev_iastore (dMo_readOne.at 43 rfl) rfl (o3 c1 c2) ?_
      refine ev_iconst (dMo_readOne.at 44 rfl) kI_0 ?_
      refine ev_istore_n (dMo_readOne.at 45 rfl) (by decide) rfl ?_
      refine ev_aload_n (dMo_readOne.at 46 rfl) rfl ?_
      refine ev_bipush (dMo_readOne.at 47 rfl) kB_119 ?_
      refine ev_cVi (dMo_readOne.at 48 rfl) (As := [.int (119 : Int32)]) (own := 8) rfl ckMo_189 rfl (Or.inr rfl) rfl (Nat.le_of_ble_eq_true rfl) rfl (m6 c1 c2) ?_
      refine ev_istore_n (dMo_readOne.at 49 rfl) (by decide) rfl ?_
      exact (k2 c1 c2)
  · refine ev_iconst (dMo_readOne.at 17 rfl) kI_1 ?_
    refine ev_goto (tgt := 32) (dMo_readOne.at 18 rfl) rfl ?_
    refine ev_putz (dMo_readOne.at 20 rfl) (own := 8) rfl fkMo_176 rfl rfl (by decide) ?_
    refine ev_aload_n (dMo_readOne.at 21 rfl) rfl ?_
    refine ev_dup (dMo_readOne.at 22 rfl) rfl ?_
    refine ev_get (dMo_readOne.at 23 rfl) (own := 8) rfl fkMo_173 rfl rfl ?_
    refine ev_aload_n (dMo_readOne.at 24 rfl) rfl ?_
    refine ev_get (dMo_readOne.at 25 rfl) (own := 8) rfl fkMo_176 rfl rfl ?_
    refine ev_if_eq (tgt := 51) (dMo_readOne.at 26 rfl) rfl (fun c3 => ?_) (fun c3 => ?_)
    · refine ev_iconst (dMo_readOne.at 29 rfl) kI_1 ?_
      refine ev_iadd (dMo_readOne.at 30 rfl) ?_
      refine ev_put (dMo_readOne.at 31 rfl) (own := 8) rfl fkMo_173 rfl rfl ?_
      refine ev_aload_n (dMo_readOne.at 32 rfl) rfl ?_
      refine ev_getr (dMo_readOne.at 33 rfl) (own := 8) rfl fkMo_40 rfl rfl ?_
      refine ev_iconst (dMo_readOne.at 34 rfl) kI_3 ?_
      refine ev_iload_n (dMo_readOne.at 35 rfl) rfl ?_
      refine ev_imul (dMo_readOne.at 36 rfl) ?_
      refine ev_iconst (dMo_readOne.at 37 rfl) kI_1 ?_
      refine ev_iadd (dMo_readOne.at 38 rfl) ?_
      refine ev_aload_n (dMo_readOne.at 39 rfl) rfl ?_
      refine ev_iconst (dMo_readOne.at 40 rfl) kI_1 ?_
      refine ev_iconst (dMo_readOne.at 41 rfl) kI_4 ?_
      refine ev_cVi (dMo_readOne.at 42 rfl) (As := [.int (1 : Int32), .int (4 : Int32)]) (own := 8) rfl ckMo_186 rfl (Or.inl rfl) rfl (Nat.le_of_ble_eq_true rfl) rfl (m7 c1 c3) ?_
      refine ev_iastore (dMo_readOne.at 43 rfl) rfl (o4 c1 c3) ?_
      refine ev_iconst (dMo_readOne.at 44 rfl) kI_0 ?_
      refine ev_istore_n (dMo_readOne.at 45 rfl) (by decide) rfl ?_
      refine ev_aload_n (dMo_readOne.at 46 rfl) rfl ?_
      refine ev_bipush (dMo_readOne.at 47 rfl) kB_119 ?_
      refine ev_cVi (dMo_readOne.at 48 rfl) (As := [.int (119 : Int32)]) (own := 8) rfl ckMo_189 rfl (Or.inr rfl) rfl (Nat.le_of_ble_eq_true rfl) rfl (m8 c1 c3) ?_
      refine ev_istore_n (dMo_readOne.at 49 rfl) (by decide) rfl ?_
      exact (k3 c1 c3)
    · refine ev_iconst (dMo_readOne.at 27 rfl) kI_0 ?_
      refine ev_goto (tgt := 52) (dMo_readOne.at 28 rfl) rfl ?_
      refine ev_iadd (dMo_readOne.at 30 rfl) ?_
      refine ev_put (dMo_readOne.at 31 rfl) (own := 8) rfl fkMo_173 rfl rfl ?_
      refine ev_aload_n (dMo_readOne.at 32 rfl) rfl ?_
      refine ev_getr (dMo_readOne.at 33 rfl) (own := 8) rfl fkMo_40 rfl rfl ?_
      refine ev_iconst (dMo_readOne.at 34 rfl) kI_3 ?_
      refine ev_iload_n (dMo_readOne.at 35 rfl) rfl ?_
      refine ev_imul (dMo_readOne.at 36 rfl) ?_
      refine ev_iconst (dMo_readOne.at 37 rfl) kI_1 ?_
      refine ev_iadd (dMo_readOne.at 38 rfl) ?_
      refine ev_aload_n (dMo_readOne.at 39 rfl) rfl ?_
      refine ev_iconst (dMo_readOne.at 40 rfl) kI_1 ?_
      refine ev_iconst (dMo_readOne.at 41 rfl) kI_4 ?_
      refine ev_cVi (dMo_readOne.at 42 rfl) (As := [.int (1 : Int32), .int (4 : Int32)]) (own := 8) rfl ckMo_186 rfl (Or.inl rfl) rfl (Nat.le_of_ble_eq_true rfl) rfl (m9 c1 c3) ?_
      refine ev_iastore (dMo_readOne.at 43 rfl) rfl (o5 c1 c3) ?_
      refine ev_iconst (dMo_readOne.at 44 rfl) kI_0 ?_
      refine ev_istore_n (dMo_readOne.at 45 rfl) (by decide) rfl ?_
      refine ev_aload_n (dMo_readOne.at 46 rfl) rfl ?_
      refine ev_bipush (dMo_readOne.at 47 rfl) kB_119 ?_
      refine ev_cVi (dMo_readOne.at 48 rfl) (As := [.int (119 : Int32)]) (own := 8) rfl ckMo_189 rfl (Or.inr rfl) rfl (Nat.le_of_ble_eq_true rfl) rfl (m10 c1 c3) ?_
      refine ev_istore_n (dMo_readOne.at 49 rfl) (by decide) rfl ?_
      exact (k4 c1 c3)
set_option maxHeartbeats 4000000 in
theorem bMo_readOne_81 {d : Nat} {w : sx_W} {Q : sx_Q} {x1 : Int32} {x2 : Int32} {x3 : Int32} {f1 : Int32} {w1 : sx_W} {f2 : Int32} {w2 : sx_W} {f3 : Int32} {f4 : Int32} {w4 : sx_W} {f5 : Int32}
    (o1 : (x3 = 0) → vp_in (((3 : Int32) * x1) + (2 : Int32)) 21)
    (k1 : (x3 = 0) → Q 0 0 ((sx_u w.1 59 (((3 : Int32) * x1) + (2 : Int32)).toNatClampNeg x2), w.2))
    (m1 : (¬ x3 = 0) → sx_de d rMo_digit [.ref 48, .int (0 : Int32), .int (7 : Int32)] w f1 0 w1)
    (k2 : (¬ x3 = 0) → (¬ (w1.1 48 16) = 0) → sx_ev (d + 1) rMo_readOne 81 [.ref 48, .int x1, .int (x2 ||| (0 : Int32)), .int (0 : Int32), .null] [] w1 Q)
    (m2 : (¬ x3 = 0) → ((w1.1 48 16) = 0) → (¬ ((x2 >>> (f1 &&& 31)) &&& (1 : Int32)) = (1 : Int32)) → sx_de d rMo_here [.ref 48] w1 f2 0 w2)
    (m3 : (¬ x3 = 0) → ((w1.1 48 16) = 0) → (¬ ((x2 >>> (f1 &&& 31)) &&& (1 : Int32)) = (1 : Int32)) → sx_de d rMo_in [.long (f2).toInt64, .long (lN 48), .long (lN 57)] w2 f3 0 w2)
    (k3 : (¬ x3 = 0) → ((w1.1 48 16) = 0) → (¬ ((x2 >>> (f1 &&& 31)) &&& (1 : Int32)) = (1 : Int32)) → (f3 = 0) → sx_ev (d + 1) rMo_readOne 81 [.ref 48, .int x1, .int (x2 ||| ((1 : Int32) <<< (f1 &&& 31))), .int (0 : Int32), .null] [] w2 Q)
    (k4 : (¬ x3 = 0) → ((w1.1 48 16) = 0) → (¬ ((x2 >>> (f1 &&& 31)) &&& (1 : Int32)) = (1 : Int32)) → (¬ f3 = 0) → sx_ev (d + 1) rMo_readOne 81 [.ref 48, .int x1, .int (x2 ||| ((1 : Int32) <<< (f1 &&& 31))), .int (1 : Int32), .null] [] w2 Q)
    (m4 : (¬ x3 = 0) → ((w1.1 48 16) = 0) → (((x2 >>> (f1 &&& 31)) &&& (1 : Int32)) = (1 : Int32)) → ((1 : Int32) = 0) → sx_de d rMo_here [.ref 48] ((sx_u (sx_u w1.1 48 16 (1 : Int32)) 48 15 ((w1.1 48 15) - (1 : Int32))), w1.2) f4 0 w4)
    (m5 : (¬ x3 = 0) → ((w1.1 48 16) = 0) → (((x2 >>> (f1 &&& 31)) &&& (1 : Int32)) = (1 : Int32)) → ((1 : Int32) = 0) → sx_de d rMo_in [.long (f4).toInt64, .long (lN 48), .long (lN 57)] w4 f5 0 w4)
    (k5 : (¬ x3 = 0) → ((w1.1 48 16) = 0) → (((x2 >>> (f1 &&& 31)) &&& (1 : Int32)) = (1 : Int32)) → ((1 : Int32) = 0) → (f5 = 0) → sx_ev (d + 1) rMo_readOne 81 [.ref 48, .int x1, .int (x2 ||| ((1 : Int32) <<< (f1 &&& 31))), .int (0 : Int32), .null] [] w4 Q)
    (k6 : (¬ x3 = 0) → ((w1.1 48 16) = 0) → (((x2 >>> (f1 &&& 31)) &&& (1 : Int32)) = (1 : Int32)) → ((1 : Int32) = 0) → (¬ f5 = 0) → sx_ev (d + 1) rMo_readOne 81 [.ref 48, .int x1, .int (x2 ||| ((1 : Int32) <<< (f1 &&& 31))), .int (1 : Int32), .null] [] w4 Q)
    (k7 : (¬ x3 = 0) → ((w1.1 48 16) = 0) → (((x2 >>> (f1 &&& 31)) &&& (1 : Int32)) = (1 : Int32)) → (¬ (1 : Int32) = 0) → sx_ev (d + 1) rMo_readOne 81 [.ref 48, .int x1, .int (x2 ||| (0 : Int32)), .int (0 : Int32), .null] [] ((sx_u (sx_u w1.1 48 16 (1 : Int32)) 48 15 ((w1.1 48 15) - (1 : Int32))), w1.2) Q) :
    sx_ev (d + 1) rMo_readOne 81 [.ref 48, .int x1, .int x2, .int x3, .null] [] w Q := by
  refine ev_iload_n (dMo_readOne.at 50 rfl) rfl ?_
  refine ev_if_eq (tgt := 177) (dMo_readOne.at 51 rfl) rfl (fun c1 => ?_) (fun c1 => ?_)
  · refine ev_aload_n (dMo_readOne.at 102 rfl) rfl ?_
    refine ev_getr (dMo_readOne.at 103 rfl) (own := 8) rfl fkMo_40 rfl rfl ?_
    refine ev_iconst (dMo_readOne.at 104 rfl) kI_3 ?_
    refine ev_iload_n (dMo_readOne.at 105 rfl) rfl ?_
    refine ev_imul (dMo_readOne.at 106 rfl) ?_
    refine ev_iconst (dMo_readOne.at 107 rfl) kI_2 ?_
    refine ev_iadd (dMo_readOne.at 108 rfl) ?_
    refine ev_iload_n (dMo_readOne.at 109 rfl) rfl ?_
    refine ev_iastore (dMo_readOne.at 110 rfl) rfl (o1 c1) ?_
    exact ev_vret (dMo_readOne.at 111 rfl) rfl (k1 c1)
  · refine ev_aload_n (dMo_readOne.at 52 rfl) rfl ?_
    refine ev_iconst (dMo_readOne.at 53 rfl) kI_0 ?_
    refine ev_bipush (dMo_readOne.at 54 rfl) kB_7 ?_
    refine ev_cVi (dMo_readOne.at 55 rfl) (As := [.int (0 : Int32), .int (7 : Int32)]) (own := 8) rfl ckMo_186 rfl (Or.inl rfl) rfl (Nat.le_of_ble_eq_true rfl) rfl (m1 c1) ?_
    refine ev_istore (dMo_readOne.at 56 rfl) (by decide) rfl ?_
    refine ev_aload_n (dMo_readOne.at 57 rfl) rfl ?_
    refine ev_get (dMo_readOne.at 58 rfl) (own := 8) rfl fkMo_176 rfl rfl ?_
    refine ev_if_ne (tgt := 126) (dMo_readOne.at 59 rfl) rfl (fun c2 => ?_) (fun c2 => ?_)
    · refine ev_iload_n (dMo_readOne.at 76 rfl) rfl ?_
      refine ev_aload_n (dMo_readOne.at 77 rfl) rfl ?_
      refine ev_get (dMo_readOne.at 78 rfl) (own := 8) rfl fkMo_176 rfl rfl ?_
      refine ev_if_eq (tgt := 138) (dMo_readOne.at 79 rfl) rfl (fun h => absurd h c2) (fun _ => ?_)
      refine ev_iconst (dMo_readOne.at 80 rfl) kI_0 ?_
      refine ev_goto (tgt := 142) (dMo_readOne.at 81 rfl) rfl ?_
      refine ev_ior (dMo_readOne.at 85 rfl) ?_
      refine ev_istore_n (dMo_readOne.at 86 rfl) (by decide) rfl ?_
      refine ev_aload_n (dMo_readOne.at 87 rfl) rfl ?_
      refine ev_get (dMo_readOne.at 88 rfl) (own := 8) rfl fkMo_176 rfl rfl ?_
      refine ev_if_ne (tgt := 172) (dMo_readOne.at 89 rfl) rfl (fun _ => ?_) (fun h => absurd h c2)
      refine ev_iconst (dMo_readOne.at 99 rfl) kI_0 ?_
      refine ev_istore_n (dMo_readOne.at 100 rfl) (by decide) rfl ?_
      refine ev_goto (tgt := 81) (dMo_readOne.at 101 rfl) rfl ?_
      refine ev_kp [true, true, true, true, false] rfl ?_
      exact (k2 c1 c2)
    · refine ev_iload_n (dMo_readOne.at 60 rfl) rfl ?_
      refine ev_iload (dMo_readOne.at 61 rfl) rfl ?_
      refine ev_ishr (dMo_readOne.at 62 rfl) ?_
      refine ev_iconst (dMo_readOne.at 63 rfl) kI_1 ?_
      refine ev_iand (dMo_readOne.at 64 rfl) ?_
      refine ev_iconst (dMo_readOne.at 65 rfl) kI_1 ?_
      refine ev_icmp_ne (tgt := 126) (dMo_readOne.at 66 rfl) rfl (fun c3 => ?_) (fun c3 => ?_)
      · refine ev_iload_n (dMo_readOne.at 76 rfl) rfl ?_
        refine ev_aload_n (dMo_readOne.at 77 rfl) rfl ?_
        refine ev_get (dMo_readOne.at 78 rfl) (own := 8) rfl fkMo_176 rfl rfl ?_
        refine ev_if_eq (tgt := 138) (dMo_readOne.at 79 rfl) rfl (fun _ => ?_) (fun h => absurd c2 h)
        refine ev_iconst (dMo_readOne.at 82 rfl) kI_1 ?_
        refine ev_iload (dMo_readOne.at 83 rfl) rfl ?_
        refine ev_ishl (dMo_readOne.at 84 rfl) ?_
        refine ev_ior (dMo_readOne.at 85 rfl) ?_
        refine ev_istore_n (dMo_readOne.at 86 rfl) (by decide) rfl ?_
        refine ev_aload_n (dMo_readOne.at 87 rfl) rfl ?_
        refine ev_get (dMo_readOne.at 88 rfl) (own := 8) rfl fkMo_176 rfl rfl ?_
        refine ev_if_ne (tgt := 172) (dMo_readOne.at 89 rfl) rfl (fun h => absurd c2 h) (fun _ => ?_)
        refine ev_aload_n (dMo_readOne.at 90 rfl) rfl ?_
        refine ev_cVi (dMo_readOne.at 91 rfl) (As := []) (own := 8) rfl ckMo_179 rfl (Or.inl rfl) rfl (Nat.le_of_ble_eq_true rfl) rfl (m2 c1 c2 c3) ?_
        refine ev_i2l (dMo_readOne.at 92 rfl) ?_
        refine ev_ldc2 (dMo_readOne.at 93 rfl) (own := 8) rfl (List.mem_of_getElem? (i := 10) rfl) ?_
        refine ev_ldc2 (dMo_readOne.at 94 rfl) (own := 8) rfl (List.mem_of_getElem? (i := 11) rfl) ?_
        refine ev_cSi (dMo_readOne.at 95 rfl) (As := [.long (f2).toInt64, .long (lN 48), .long (lN 57)]) (own := 8) rfl ckMo_69 (Or.inr rfl) rfl (Nat.le_of_ble_eq_true rfl) rfl (m3 c1 c2 c3) ?_
        refine ev_if_eq (tgt := 172) (dMo_readOne.at 96 rfl) rfl (fun c4 => ?_) (fun c4 => ?_)
        · refine ev_iconst (dMo_readOne.at 99 rfl) kI_0 ?_
          refine ev_istore_n (dMo_readOne.at 100 rfl) (by decide) rfl ?_
          refine ev_goto (tgt := 81) (dMo_readOne.at 101 rfl) rfl ?_
          refine ev_kp [true, true, true, true, false] rfl ?_
          exact (k3 c1 c2 c3 c4)
        · refine ev_iconst (dMo_readOne.at 97 rfl) kI_1 ?_
          refine ev_goto (tgt := 173) (dMo_readOne.at 98 rfl) rfl ?_
          refine ev_istore_n (dMo_readOne.at 100 rfl) (by decide) rfl ?_
          refine ev_goto (tgt := 81) (dMo_readOne.at 101 rfl) rfl ?_
          refine ev_kp [true, true, true, true, false] rfl ?_
          exact (k4 c1 c2 c3 c4)
      · refine ev_aload_n (dMo_readOne.at 67 rfl) rfl ?_
        refine ev_iconst (dMo_readOne.at 68 rfl) kI_1 ?_
        refine ev_putz (dMo_readOne.at 69 rfl) (own := 8) rfl fkMo_176 rfl rfl (by decide) ?_
        refine ev_aload_n (dMo_readOne.at 70 rfl) rfl ?_
        refine ev_dup (dMo_readOne.at 71 rfl) rfl ?_
        refine ev_get (dMo_readOne.at 72 rfl) (own := 8) rfl fkMo_173 rfl rfl ?_
        refine ev_iconst (dMo_readOne.at 73 rfl) kI_1 ?_
        refine ev_isub (dMo_readOne.at 74 rfl) ?_
        refine ev_put (dMo_readOne.at 75 rfl) (own := 8) rfl fkMo_173 rfl rfl ?_
        refine ev_iload_n (dMo_readOne.at 76 rfl) rfl ?_
        refine ev_aload_n (dMo_readOne.at 77 rfl) rfl ?_
        refine ev_get (dMo_readOne.at 78 rfl) (own := 8) rfl fkMo_176 rfl rfl ?_
        refine ev_if_eq (tgt := 138) (dMo_readOne.at 79 rfl) rfl (fun c5 => ?_) (fun c5 => ?_)
        · refine ev_iconst (dMo_readOne.at 82 rfl) kI_1 ?_
          refine ev_iload (dMo_readOne.at 83 rfl) rfl ?_
          refine ev_ishl (dMo_readOne.at 84 rfl) ?_
          refine ev_ior (dMo_readOne.at 85 rfl) ?_
          refine ev_istore_n (dMo_readOne.at 86 rfl) (by decide) rfl ?_
          refine ev_aload_n (dMo_readOne.at 87 rfl) rfl ?_
          refine ev_get (dMo_readOne.at 88 rfl) (own := 8) rfl fkMo_176 rfl rfl ?_
          refine ev_if_ne (tgt := 172) (dMo_readOne.at 89 rfl) rfl (fun h => absurd c5 h) (fun _ => ?_)
          refine ev_aload_n (dMo_readOne.at 90 rfl) rfl ?_
          refine ev_cVi (dMo_readOne.at 91 rfl) (As := []) (own := 8) rfl ckMo_179 rfl (Or.inl rfl) rfl (Nat.le_of_ble_eq_true rfl) rfl (m4 c1 c2 c3 c5) ?_
          refine ev_i2l (dMo_readOne.at 92 rfl) ?_
          refine ev_ldc2 (dMo_readOne.at 93 rfl) (own := 8) rfl (List.mem_of_getElem? (i := 10) rfl) ?_
          refine ev_ldc2 (dMo_readOne.at 94 rfl) (own := 8) rfl (List.mem_of_getElem? (i := 11) rfl) ?_
          refine ev_cSi (dMo_readOne.at 95 rfl) (As := [.long (f4).toInt64, .long (lN 48), .long (lN 57)]) (own := 8) rfl ckMo_69 (Or.inr rfl) rfl (Nat.le_of_ble_eq_true rfl) rfl (m5 c1 c2 c3 c5) ?_
          refine ev_if_eq (tgt := 172) (dMo_readOne.at 96 rfl) rfl (fun c6 => ?_) (fun c6 => ?_)
          · refine ev_iconst (dMo_readOne.at 99 rfl) kI_0 ?_
            refine ev_istore_n (dMo_readOne.at 100 rfl) (by decide) rfl ?_
            refine ev_goto (tgt := 81) (dMo_readOne.at 101 rfl) rfl ?_
            refine ev_kp [true, true, true, true, false] rfl ?_
            exact (k5 c1 c2 c3 c5 c6)
          · refine ev_iconst (dMo_readOne.at 97 rfl) kI_1 ?_
            refine ev_goto (tgt := 173) (dMo_readOne.at 98 rfl) rfl ?_
            refine ev_istore_n (dMo_readOne.at 100 rfl) (by decide) rfl ?_
            refine ev_goto (tgt := 81) (dMo_readOne.at 101 rfl) rfl ?_
            refine ev_kp [true, true, true, true, false] rfl ?_
            exact (k6 c1 c2 c3 c5 c6)
        · refine ev_iconst (dMo_readOne.at 80 rfl) kI_0 ?_
          refine ev_goto (tgt := 142) (dMo_readOne.at 81 rfl) rfl ?_
          refine ev_ior (dMo_readOne.at 85 rfl) ?_
          refine ev_istore_n (dMo_readOne.at 86 rfl) (by decide) rfl ?_
          refine ev_aload_n (dMo_readOne.at 87 rfl) rfl ?_
          refine ev_get (dMo_readOne.at 88 rfl) (own := 8) rfl fkMo_176 rfl rfl ?_
          refine ev_if_ne (tgt := 172) (dMo_readOne.at 89 rfl) rfl (fun _ => ?_) (fun h => absurd h c5)
          refine ev_iconst (dMo_readOne.at 99 rfl) kI_0 ?_
          refine ev_istore_n (dMo_readOne.at 100 rfl) (by decide) rfl ?_
          refine ev_goto (tgt := 81) (dMo_readOne.at 101 rfl) rfl ?_
          refine ev_kp [true, true, true, true, false] rfl ?_
          exact (k7 c1 c2 c3 c5)
set_option maxHeartbeats 4000000 in
theorem bMo_lodging_0 {d : Nat} {w : sx_W} {Q : sx_Q}
    (k1 : sx_ev d rMo_lodging 14 [.ref 48, .int (0 : Int32), .int (1 : Int32), .null] [] ((sx_u (sx_u w.1 48 15 (0 : Int32)) 48 16 (0 : Int32)), w.2) Q) :
    sx_ev d rMo_lodging 0 [.ref 48, .null, .null, .null] [] w Q := by
  refine ev_aload_n (dMo_lodging.at 0 rfl) rfl ?_
  refine ev_iconst (dMo_lodging.at 1 rfl) kI_0 ?_
  refine ev_put (dMo_lodging.at 2 rfl) (own := 8) rfl fkMo_173 rfl rfl ?_
  refine ev_aload_n (dMo_lodging.at 3 rfl) rfl ?_
  refine ev_iconst (dMo_lodging.at 4 rfl) kI_0 ?_
  refine ev_putz (dMo_lodging.at 5 rfl) (own := 8) rfl fkMo_176 rfl rfl (by decide) ?_
  refine ev_iconst (dMo_lodging.at 6 rfl) kI_0 ?_
  refine ev_istore_n (dMo_lodging.at 7 rfl) (by decide) rfl ?_
  refine ev_iconst (dMo_lodging.at 8 rfl) kI_1 ?_
  refine ev_istore_n (dMo_lodging.at 9 rfl) (by decide) rfl ?_
  exact k1
set_option maxHeartbeats 4000000 in
theorem bMo_lodging_14 {d : Nat} {w : sx_W} {Q : sx_Q} {x1 : Int32} {x2 : Int32} {f1 : Int32} {w1 : sx_W} {w2 : sx_W} {f3 : Int32} {w3 : sx_W}
    (k1 : (x2 = 0) → (¬ (w.1 48 16) = 0) → ((1 : Int32) = 0) → sx_ev (d + 1) rMo_lodging 100 [.ref 48, .int x1, .null, .int (0 : Int32)] [] ((sx_u (sx_u (sx_u w.1 48 16 (1 : Int32)) 48 14 (0 : Int32)) 48 0 (0 : Int32)), w.2) Q)
    (k2 : (x2 = 0) → (¬ (w.1 48 16) = 0) → (¬ (1 : Int32) = 0) → Q ((-20 : Int32) - (w.1 48 15)) 0 ((sx_u (sx_u w.1 48 16 (1 : Int32)) 48 14 (0 : Int32)), w.2))
    (m1 : (x2 = 0) → ((w.1 48 16) = 0) → sx_de d rMo_here [.ref 48] w f1 0 w1)
    (k3 : (x2 = 0) → ((w.1 48 16) = 0) → (f1 = 0) → ((0 : Int32) = 0) → sx_ev (d + 1) rMo_lodging 100 [.ref 48, .int x1, .null, .int (0 : Int32)] [] ((sx_u (sx_u (sx_u w1.1 48 16 (0 : Int32)) 48 14 (0 : Int32)) 48 0 (0 : Int32)), w1.2) Q)
    (k4 : (x2 = 0) → ((w.1 48 16) = 0) → (f1 = 0) → (¬ (0 : Int32) = 0) → Q ((-20 : Int32) - (w1.1 48 15)) 0 ((sx_u (sx_u w1.1 48 16 (0 : Int32)) 48 14 (0 : Int32)), w1.2))
    (k5 : (x2 = 0) → ((w.1 48 16) = 0) → (¬ f1 = 0) → ((1 : Int32) = 0) → sx_ev (d + 1) rMo_lodging 100 [.ref 48, .int x1, .null, .int (0 : Int32)] [] ((sx_u (sx_u (sx_u w1.1 48 16 (1 : Int32)) 48 14 (0 : Int32)) 48 0 (0 : Int32)), w1.2) Q)
    (k6 : (x2 = 0) → ((w.1 48 16) = 0) → (¬ f1 = 0) → (¬ (1 : Int32) = 0) → Q ((-20 : Int32) - (w1.1 48 15)) 0 ((sx_u (sx_u w1.1 48 16 (1 : Int32)) 48 14 (0 : Int32)), w1.2))
    (m2 : (¬ x2 = 0) → sx_de d rMo_readOne [.ref 48, .int x1] w 0 0 w2)
    (k7 : (¬ x2 = 0) → ((7 : Int32) ≤ (x1 + (1 : Int32))) → sx_ev (d + 1) rMo_lodging 14 [.ref 48, .int (x1 + (1 : Int32)), .int (0 : Int32), .null] [] w2 Q)
    (m3 : (¬ x2 = 0) → (¬ (7 : Int32) ≤ (x1 + (1 : Int32))) → sx_de d rMo_has [.ref 48, .int (44 : Int32)] w2 f3 0 w3)
    (k8 : (¬ x2 = 0) → (¬ (7 : Int32) ≤ (x1 + (1 : Int32))) → (f3 = 0) → sx_ev (d + 1) rMo_lodging 14 [.ref 48, .int (x1 + (1 : Int32)), .int (0 : Int32), .null] [] w3 Q)
    (k9 : (¬ x2 = 0) → (¬ (7 : Int32) ≤ (x1 + (1 : Int32))) → (¬ f3 = 0) → sx_ev (d + 1) rMo_lodging 14 [.ref 48, .int (x1 + (1 : Int32)), .int (1 : Int32), .null] [] w3 Q) :
    sx_ev (d + 1) rMo_lodging 14 [.ref 48, .int x1, .int x2, .null] [] w Q := by
  refine ev_iload_n (dMo_lodging.at 10 rfl) rfl ?_
  refine ev_if_eq (tgt := 50) (dMo_lodging.at 11 rfl) rfl (fun c1 => ?_) (fun c1 => ?_)
  · refine ev_aload_n (dMo_lodging.at 28 rfl) rfl ?_
    refine ev_aload_n (dMo_lodging.at 29 rfl) rfl ?_
    refine ev_get (dMo_lodging.at 30 rfl) (own := 8) rfl fkMo_176 rfl rfl ?_
    refine ev_if_ne (tgt := 65) (dMo_lodging.at 31 rfl) rfl (fun c2 => ?_) (fun c2 => ?_)
    · refine ev_iconst (dMo_lodging.at 35 rfl) kI_1 ?_
      refine ev_goto (tgt := 70) (dMo_lodging.at 36 rfl) rfl ?_
      refine ev_putz (dMo_lodging.at 38 rfl) (own := 8) rfl fkMo_176 rfl rfl (by decide) ?_
      refine ev_aload_n (dMo_lodging.at 39 rfl) rfl ?_
      refine ev_iconst (dMo_lodging.at 40 rfl) kI_0 ?_
      refine ev_put (dMo_lodging.at 41 rfl) (own := 8) rfl fkMo_170 rfl rfl ?_
      refine ev_aload_n (dMo_lodging.at 42 rfl) rfl ?_
      refine ev_get (dMo_lodging.at 43 rfl) (own := 8) rfl fkMo_176 rfl rfl ?_
      refine ev_if_eq (tgt := 93) (dMo_lodging.at 44 rfl) rfl (fun c3 => ?_) (fun c3 => ?_)
      · refine ev_aload_n (dMo_lodging.at 50 rfl) rfl ?_
        refine ev_iconst (dMo_lodging.at 51 rfl) kI_0 ?_
        refine ev_put (dMo_lodging.at 52 rfl) (own := 8) rfl fkMo_66 rfl rfl ?_
        refine ev_iconst (dMo_lodging.at 53 rfl) kI_0 ?_
        refine ev_istore_n (dMo_lodging.at 54 rfl) (by decide) rfl ?_
        refine ev_kp [true, true, false, true] rfl ?_
        exact (k1 c1 c2 c3)
      · refine ev_bipush (dMo_lodging.at 45 rfl) kB_m20 ?_
        refine ev_aload_n (dMo_lodging.at 46 rfl) rfl ?_
        refine ev_get (dMo_lodging.at 47 rfl) (own := 8) rfl fkMo_173 rfl rfl ?_
        refine ev_isub (dMo_lodging.at 48 rfl) ?_
        exact ev_iret (dMo_lodging.at 49 rfl) rfl (k2 c1 c2 c3)
    · refine ev_aload_n (dMo_lodging.at 32 rfl) rfl ?_
      refine ev_cVi (dMo_lodging.at 33 rfl) (As := []) (own := 8) rfl ckMo_179 rfl (Or.inl rfl) rfl (Nat.le_of_ble_eq_true rfl) rfl (m1 c1 c2) ?_
      refine ev_if_eq (tgt := 69) (dMo_lodging.at 34 rfl) rfl (fun c4 => ?_) (fun c4 => ?_)
      · refine ev_iconst (dMo_lodging.at 37 rfl) kI_0 ?_
        refine ev_putz (dMo_lodging.at 38 rfl) (own := 8) rfl fkMo_176 rfl rfl (by decide) ?_
        refine ev_aload_n (dMo_lodging.at 39 rfl) rfl ?_
        refine ev_iconst (dMo_lodging.at 40 rfl) kI_0 ?_
        refine ev_put (dMo_lodging.at 41 rfl) (own := 8) rfl fkMo_170 rfl rfl ?_
        refine ev_aload_n (dMo_lodging.at 42 rfl) rfl ?_
        refine ev_get (dMo_lodging.at 43 rfl) (own := 8) rfl fkMo_176 rfl rfl ?_
        refine ev_if_eq (tgt := 93) (dMo_lodging.at 44 rfl) rfl (fun c5 => ?_) (fun c5 => ?_)
        · refine ev_aload_n (dMo_lodging.at 50 rfl) rfl ?_
          refine ev_iconst (dMo_lodging.at 51 rfl) kI_0 ?_
          refine ev_put (dMo_lodging.at 52 rfl) (own := 8) rfl fkMo_66 rfl rfl ?_
          refine ev_iconst (dMo_lodging.at 53 rfl) kI_0 ?_
          refine ev_istore_n (dMo_lodging.at 54 rfl) (by decide) rfl ?_
          refine ev_kp [true, true, false, true] rfl ?_
          exact (k3 c1 c2 c4 c5)
        · refine ev_bipush (dMo_lodging.at 45 rfl) kB_m20 ?_
          refine ev_aload_n (dMo_lodging.at 46 rfl) rfl ?_
          refine ev_get (dMo_lodging.at 47 rfl) (own := 8) rfl fkMo_173 rfl rfl ?_
          refine ev_isub (dMo_lodging.at 48 rfl) ?_
          exact ev_iret (dMo_lodging.at 49 rfl) rfl (k4 c1 c2 c4 c5)
      · refine ev_iconst (dMo_lodging.at 35 rfl) kI_1 ?_
        refine ev_goto (tgt := 70) (dMo_lodging.at 36 rfl) rfl ?_
        refine ev_putz (dMo_lodging.at 38 rfl) (own := 8) rfl fkMo_176 rfl rfl (by decide) ?_
        refine ev_aload_n (dMo_lodging.at 39 rfl) rfl ?_
        refine ev_iconst (dMo_lodging.at 40 rfl) kI_0 ?_
        refine ev_put (dMo_lodging.at 41 rfl) (own := 8) rfl fkMo_170 rfl rfl ?_
        refine ev_aload_n (dMo_lodging.at 42 rfl) rfl ?_
        refine ev_get (dMo_lodging.at 43 rfl) (own := 8) rfl fkMo_176 rfl rfl ?_
        refine ev_if_eq (tgt := 93) (dMo_lodging.at 44 rfl) rfl (fun c6 => ?_) (fun c6 => ?_)
        · refine ev_aload_n (dMo_lodging.at 50 rfl) rfl ?_
          refine ev_iconst (dMo_lodging.at 51 rfl) kI_0 ?_
          refine ev_put (dMo_lodging.at 52 rfl) (own := 8) rfl fkMo_66 rfl rfl ?_
          refine ev_iconst (dMo_lodging.at 53 rfl) kI_0 ?_
          refine ev_istore_n (dMo_lodging.at 54 rfl) (by decide) rfl ?_
          refine ev_kp [true, true, false, true] rfl ?_
          exact (k5 c1 c2 c4 c6)
        · refine ev_bipush (dMo_lodging.at 45 rfl) kB_m20 ?_
          refine ev_aload_n (dMo_lodging.at 46 rfl) rfl ?_
          refine ev_get (dMo_lodging.at 47 rfl) (own := 8) rfl fkMo_173 rfl rfl ?_
          refine ev_isub (dMo_lodging.at 48 rfl) ?_
          exact ev_iret (dMo_lodging.at 49 rfl) rfl (k6 c1 c2 c4 c6)
  · refine ev_aload_n (dMo_lodging.at 12 rfl) rfl ?_
    refine ev_iload_n (dMo_lodging.at 13 rfl) rfl ?_
    refine ev_cVv (dMo_lodging.at 14 rfl) (As := [.int x1]) (own := 8) rfl ckMo_196 rfl rfl rfl (Nat.le_of_ble_eq_true rfl) rfl (m2 c1) ?_
    refine ev_iinc (dMo_lodging.at 15 rfl) kI_1 rfl (by decide) rfl ?_
    refine ev_iload_n (dMo_lodging.at 16 rfl) rfl ?_
    refine ev_bipush (dMo_lodging.at 17 rfl) kB_7 ?_
    refine ev_icmp_ge (tgt := 45) (dMo_lodging.at 18 rfl) rfl (fun c7 => ?_) (fun c7 => ?_)
    · refine ev_iconst (dMo_lodging.at 25 rfl) kI_0 ?_
      refine ev_istore_n (dMo_lodging.at 26 rfl) (by decide) rfl ?_
      refine ev_goto (tgt := 14) (dMo_lodging.at 27 rfl) rfl ?_
      exact (k7 c1 c7)
    · refine ev_aload_n (dMo_lodging.at 19 rfl) rfl ?_
      refine ev_bipush (dMo_lodging.at 20 rfl) kB_44 ?_
      refine ev_cVi (dMo_lodging.at 21 rfl) (As := [.int (44 : Int32)]) (own := 8) rfl ckMo_189 rfl (Or.inr rfl) rfl (Nat.le_of_ble_eq_true rfl) rfl (m3 c1 c7) ?_
      refine ev_if_eq (tgt := 45) (dMo_lodging.at 22 rfl) rfl (fun c8 => ?_) (fun c8 => ?_)
      · refine ev_iconst (dMo_lodging.at 25 rfl) kI_0 ?_
        refine ev_istore_n (dMo_lodging.at 26 rfl) (by decide) rfl ?_
        refine ev_goto (tgt := 14) (dMo_lodging.at 27 rfl) rfl ?_
        exact (k8 c1 c7 c8)
      · refine ev_iconst (dMo_lodging.at 23 rfl) kI_1 ?_
        refine ev_goto (tgt := 46) (dMo_lodging.at 24 rfl) rfl ?_
        refine ev_istore_n (dMo_lodging.at 26 rfl) (by decide) rfl ?_
        refine ev_goto (tgt := 14) (dMo_lodging.at 27 rfl) rfl ?_
        exact (k9 c1 c7 c8)
set_option maxHeartbeats 4000000 in
theorem bMo_lodging_100 {d : Nat} {w : sx_W} {Q : sx_Q} {x1 : Int32} {x3 : Int32} {w1 : sx_W}
    (k1 : (x1 ≤ x3) → Q x1 0 w)
    (o1 : (¬ x1 ≤ x3) → vp_in ((3 : Int32) * x3) 21)
    (o2 : (¬ x1 ≤ x3) → vp_in (((3 : Int32) * x3) + (1 : Int32)) 21)
    (o3 : (¬ x1 ≤ x3) → vp_in (((3 : Int32) * x3) + (2 : Int32)) 21)
    (m1 : (¬ x1 ≤ x3) → sx_de d rMo_comes [.ref 48, .int (w.1 59 ((3 : Int32) * x3).toNatClampNeg), .int (w.1 59 (((3 : Int32) * x3) + (1 : Int32)).toNatClampNeg), .int (w.1 59 (((3 : Int32) * x3) + (2 : Int32)).toNatClampNeg)] w 0 0 w1)
    (k2 : (¬ x1 ≤ x3) → sx_ev (d + 1) rMo_lodging 100 [.ref 48, .int x1, .null, .int (x3 + (1 : Int32))] [] w1 Q) :
    sx_ev (d + 1) rMo_lodging 100 [.ref 48, .int x1, .null, .int x3] [] w Q := by
  refine ev_iload_n (dMo_lodging.at 55 rfl) rfl ?_
  refine ev_iload_n (dMo_lodging.at 56 rfl) rfl ?_
  refine ev_icmp_ge (tgt := 143) (dMo_lodging.at 57 rfl) rfl (fun c1 => ?_) (fun c1 => ?_)
  · refine ev_iload_n (dMo_lodging.at 84 rfl) rfl ?_
    exact ev_iret (dMo_lodging.at 85 rfl) rfl (k1 c1)
  · refine ev_aload_n (dMo_lodging.at 58 rfl) rfl ?_
    refine ev_aload_n (dMo_lodging.at 59 rfl) rfl ?_
    refine ev_getr (dMo_lodging.at 60 rfl) (own := 8) rfl fkMo_40 rfl rfl ?_
    refine ev_iconst (dMo_lodging.at 61 rfl) kI_3 ?_
    refine ev_iload_n (dMo_lodging.at 62 rfl) rfl ?_
    refine ev_imul (dMo_lodging.at 63 rfl) ?_
    refine ev_iaload (dMo_lodging.at 64 rfl) rfl (o1 c1) ?_
    refine ev_aload_n (dMo_lodging.at 65 rfl) rfl ?_
    refine ev_getr (dMo_lodging.at 66 rfl) (own := 8) rfl fkMo_40 rfl rfl ?_
    refine ev_iconst (dMo_lodging.at 67 rfl) kI_3 ?_
    refine ev_iload_n (dMo_lodging.at 68 rfl) rfl ?_
    refine ev_imul (dMo_lodging.at 69 rfl) ?_
    refine ev_iconst (dMo_lodging.at 70 rfl) kI_1 ?_
    refine ev_iadd (dMo_lodging.at 71 rfl) ?_
    refine ev_iaload (dMo_lodging.at 72 rfl) rfl (o2 c1) ?_
    refine ev_aload_n (dMo_lodging.at 73 rfl) rfl ?_
    refine ev_getr (dMo_lodging.at 74 rfl) (own := 8) rfl fkMo_40 rfl rfl ?_
    refine ev_iconst (dMo_lodging.at 75 rfl) kI_3 ?_
    refine ev_iload_n (dMo_lodging.at 76 rfl) rfl ?_
    refine ev_imul (dMo_lodging.at 77 rfl) ?_
    refine ev_iconst (dMo_lodging.at 78 rfl) kI_2 ?_
    refine ev_iadd (dMo_lodging.at 79 rfl) ?_
    refine ev_iaload (dMo_lodging.at 80 rfl) rfl (o3 c1) ?_
    refine ev_cVv (dMo_lodging.at 81 rfl) (As := [.int (w.1 59 ((3 : Int32) * x3).toNatClampNeg), .int (w.1 59 (((3 : Int32) * x3) + (1 : Int32)).toNatClampNeg), .int (w.1 59 (((3 : Int32) * x3) + (2 : Int32)).toNatClampNeg)]) (own := 8) rfl ckMo_85 rfl rfl rfl (Nat.le_of_ble_eq_true rfl) rfl (m1 c1) ?_
    refine ev_iinc (dMo_lodging.at 82 rfl) kI_1 rfl (by decide) rfl ?_
    refine ev_goto (tgt := 100) (dMo_lodging.at 83 rfl) rfl ?_
    exact (k2 c1)
set_option maxHeartbeats 4000000 in
theorem bMo_notes_49_0 {d : Nat} {w : sx_W} {Q : sx_Q} {x2 : Int32}
    (k1 : sx_ev d rMo_notes 2 [.ref 48, .ref 49, .int x2, .int (0 : Int32)] [] w Q) :
    sx_ev d rMo_notes 0 [.ref 48, .ref 49, .int x2, .null] [] w Q := by
  refine ev_iconst (dMo_notes.at 0 rfl) kI_0 ?_
  refine ev_istore_n (dMo_notes.at 1 rfl) (by decide) rfl ?_
  exact k1
set_option maxHeartbeats 4000000 in
theorem bMo_notes_49_2 {d : Nat} {w : sx_W} {Q : sx_Q} {x2 : Int32} {x3 : Int32}
    (k1 : ((7 : Int32) ≤ x3) → Q (x2 + (7 : Int32)) 0 w)
    (o1 : (¬ (7 : Int32) ≤ x3) → vp_in x3 7)
    (o2 : (¬ (7 : Int32) ≤ x3) → vp_in (x2 + x3) 32)
    (k2 : (¬ (7 : Int32) ≤ x3) → sx_ev d rMo_notes 2 [.ref 48, .ref 49, .int x2, .int (x3 + (1 : Int32))] [] ((sx_u w.1 60 (x2 + x3).toNatClampNeg (w.1 49 x3.toNatClampNeg)), w.2) Q) :
    sx_ev d rMo_notes 2 [.ref 48, .ref 49, .int x2, .int x3] [] w Q := by
  refine ev_iload_n (dMo_notes.at 2 rfl) rfl ?_
  refine ev_bipush (dMo_notes.at 3 rfl) kB_7 ?_
  refine ev_icmp_ge (tgt := 25) (dMo_notes.at 4 rfl) rfl (fun c1 => ?_) (fun c1 => ?_)
  · refine ev_iload_n (dMo_notes.at 16 rfl) rfl ?_
    refine ev_bipush (dMo_notes.at 17 rfl) kB_7 ?_
    refine ev_iadd (dMo_notes.at 18 rfl) ?_
    exact ev_iret (dMo_notes.at 19 rfl) rfl (k1 c1)
  · refine ev_aload_n (dMo_notes.at 5 rfl) rfl ?_
    refine ev_getr (dMo_notes.at 6 rfl) (own := 8) rfl fkMo_43 rfl rfl ?_
    refine ev_iload_n (dMo_notes.at 7 rfl) rfl ?_
    refine ev_iload_n (dMo_notes.at 8 rfl) rfl ?_
    refine ev_iadd (dMo_notes.at 9 rfl) ?_
    refine ev_aload_n (dMo_notes.at 10 rfl) rfl ?_
    refine ev_iload_n (dMo_notes.at 11 rfl) rfl ?_
    refine ev_iaload (dMo_notes.at 12 rfl) rfl (o1 c1) ?_
    refine ev_iastore (dMo_notes.at 13 rfl) rfl (o2 c1) ?_
    refine ev_iinc (dMo_notes.at 14 rfl) kI_1 rfl (by decide) rfl ?_
    refine ev_goto (tgt := 2) (dMo_notes.at 15 rfl) rfl ?_
    exact (k2 c1)
set_option maxHeartbeats 4000000 in
theorem bMo_notes_50_0 {d : Nat} {w : sx_W} {Q : sx_Q} {x2 : Int32}
    (k1 : sx_ev d rMo_notes 2 [.ref 48, .ref 50, .int x2, .int (0 : Int32)] [] w Q) :
    sx_ev d rMo_notes 0 [.ref 48, .ref 50, .int x2, .null] [] w Q := by
  refine ev_iconst (dMo_notes.at 0 rfl) kI_0 ?_
  refine ev_istore_n (dMo_notes.at 1 rfl) (by decide) rfl ?_
  exact k1
set_option maxHeartbeats 4000000 in
theorem bMo_notes_50_2 {d : Nat} {w : sx_W} {Q : sx_Q} {x2 : Int32} {x3 : Int32}
    (k1 : ((7 : Int32) ≤ x3) → Q (x2 + (7 : Int32)) 0 w)
    (o1 : (¬ (7 : Int32) ≤ x3) → vp_in x3 7)
    (o2 : (¬ (7 : Int32) ≤ x3) → vp_in (x2 + x3) 32)
    (k2 : (¬ (7 : Int32) ≤ x3) → sx_ev d rMo_notes 2 [.ref 48, .ref 50, .int x2, .int (x3 + (1 : Int32))] [] ((sx_u w.1 60 (x2 + x3).toNatClampNeg (w.1 50 x3.toNatClampNeg)), w.2) Q) :
    sx_ev d rMo_notes 2 [.ref 48, .ref 50, .int x2, .int x3] [] w Q := by
  refine ev_iload_n (dMo_notes.at 2 rfl) rfl ?_
  refine ev_bipush (dMo_notes.at 3 rfl) kB_7 ?_
  refine ev_icmp_ge (tgt := 25) (dMo_notes.at 4 rfl) rfl (fun c1 => ?_) (fun c1 => ?_)
  · refine ev_iload_n (dMo_notes.at 16 rfl) rfl ?_
    refine ev_bipush (dMo_notes.at 17 rfl) kB_7 ?_
    refine ev_iadd (dMo_notes.at 18 rfl) ?_
    exact ev_iret (dMo_notes.at 19 rfl) rfl (k1 c1)
  · refine ev_aload_n (dMo_notes.at 5 rfl) rfl ?_
    refine ev_getr (dMo_notes.at 6 rfl) (own := 8) rfl fkMo_43 rfl rfl ?_
    refine ev_iload_n (dMo_notes.at 7 rfl) rfl ?_
    refine ev_iload_n (dMo_notes.at 8 rfl) rfl ?_
    refine ev_iadd (dMo_notes.at 9 rfl) ?_
    refine ev_aload_n (dMo_notes.at 10 rfl) rfl ?_
    refine ev_iload_n (dMo_notes.at 11 rfl) rfl ?_
    refine ev_iaload (dMo_notes.at 12 rfl) rfl (o1 c1) ?_
    refine ev_iastore (dMo_notes.at 13 rfl) rfl (o2 c1) ?_
    refine ev_iinc (dMo_notes.at 14 rfl) kI_1 rfl (by decide) rfl ?_
    refine ev_goto (tgt := 2) (dMo_notes.at 15 rfl) rfl ?_
    exact (k2 c1)
set_option maxHeartbeats 4000000 in
theorem bMo_notes_51_0 {d : Nat} {w : sx_W} {Q : sx_Q} {x2 : Int32}
    (k1 : sx_ev d rMo_notes 2 [.ref 48, .ref 51, .int x2, .int (0 : Int32)] [] w Q) :
    sx_ev d rMo_notes 0 [.ref 48, .ref 51, .int x2, .null] [] w Q := by
  refine ev_iconst (dMo_notes.at 0 rfl) kI_0 ?_
  refine ev_istore_n (dMo_notes.at 1 rfl) (by decide) rfl ?_
  exact k1
set_option maxHeartbeats 4000000 in
theorem bMo_notes_51_2 {d : Nat} {w : sx_W} {Q : sx_Q} {x2 : Int32} {x3 : Int32}
    (k1 : ((7 : Int32) ≤ x3) → Q (x2 + (7 : Int32)) 0 w)
    (o1 : (¬ (7 : Int32) ≤ x3) → vp_in x3 7)
    (o2 : (¬ (7 : Int32) ≤ x3) → vp_in (x2 + x3) 32)
    (k2 : (¬ (7 : Int32) ≤ x3) → sx_ev d rMo_notes 2 [.ref 48, .ref 51, .int x2, .int (x3 + (1 : Int32))] [] ((sx_u w.1 60 (x2 + x3).toNatClampNeg (w.1 51 x3.toNatClampNeg)), w.2) Q) :
    sx_ev d rMo_notes 2 [.ref 48, .ref 51, .int x2, .int x3] [] w Q := by
  refine ev_iload_n (dMo_notes.at 2 rfl) rfl ?_
  refine ev_bipush (dMo_notes.at 3 rfl) kB_7 ?_
  refine ev_icmp_ge (tgt := 25) (dMo_notes.at 4 rfl) rfl (fun c1 => ?_) (fun c1 => ?_)
  · refine ev_iload_n (dMo_notes.at 16 rfl) rfl ?_
    refine ev_bipush (dMo_notes.at 17 rfl) kB_7 ?_
    refine ev_iadd (dMo_notes.at 18 rfl) ?_
    exact ev_iret (dMo_notes.at 19 rfl) rfl (k1 c1)
  · refine ev_aload_n (dMo_notes.at 5 rfl) rfl ?_
    refine ev_getr (dMo_notes.at 6 rfl) (own := 8) rfl fkMo_43 rfl rfl ?_
    refine ev_iload_n (dMo_notes.at 7 rfl) rfl ?_
    refine ev_iload_n (dMo_notes.at 8 rfl) rfl ?_
    refine ev_iadd (dMo_notes.at 9 rfl) ?_
    refine ev_aload_n (dMo_notes.at 10 rfl) rfl ?_
    refine ev_iload_n (dMo_notes.at 11 rfl) rfl ?_
    refine ev_iaload (dMo_notes.at 12 rfl) rfl (o1 c1) ?_
    refine ev_iastore (dMo_notes.at 13 rfl) rfl (o2 c1) ?_
    refine ev_iinc (dMo_notes.at 14 rfl) kI_1 rfl (by decide) rfl ?_
    refine ev_goto (tgt := 2) (dMo_notes.at 15 rfl) rfl ?_
    exact (k2 c1)
set_option maxHeartbeats 4000000 in
theorem bMo_notes_52_0 {d : Nat} {w : sx_W} {Q : sx_Q} {x2 : Int32}
    (k1 : sx_ev d rMo_notes 2 [.ref 48, .ref 52, .int x2, .int (0 : Int32)] [] w Q) :
    sx_ev d rMo_notes 0 [.ref 48, .ref 52, .int x2, .null] [] w Q := by
  refine ev_iconst (dMo_notes.at 0 rfl) kI_0 ?_
  refine ev_istore_n (dMo_notes.at 1 rfl) (by decide) rfl ?_
  exact k1
set_option maxHeartbeats 4000000 in
theorem bMo_notes_52_2 {d : Nat} {w : sx_W} {Q : sx_Q} {x2 : Int32} {x3 : Int32}
    (k1 : ((7 : Int32) ≤ x3) → Q (x2 + (7 : Int32)) 0 w)
    (o1 : (¬ (7 : Int32) ≤ x3) → vp_in x3 7)
    (o2 : (¬ (7 : Int32) ≤ x3) → vp_in (x2 + x3) 32)
    (k2 : (¬ (7 : Int32) ≤ x3) → sx_ev d rMo_notes 2 [.ref 48, .ref 52, .int x2, .int (x3 + (1 : Int32))] [] ((sx_u w.1 60 (x2 + x3).toNatClampNeg (w.1 52 x3.toNatClampNeg)), w.2) Q) :
    sx_ev d rMo_notes 2 [.ref 48, .ref 52, .int x2, .int x3] [] w Q := by
  refine ev_iload_n (dMo_notes.at 2 rfl) rfl ?_
  refine ev_bipush (dMo_notes.at 3 rfl) kB_7 ?_
  refine ev_icmp_ge (tgt := 25) (dMo_notes.at 4 rfl) rfl (fun c1 => ?_) (fun c1 => ?_)
  · refine ev_iload_n (dMo_notes.at 16 rfl) rfl ?_
    refine ev_bipush (dMo_notes.at 17 rfl) kB_7 ?_
    refine ev_iadd (dMo_notes.at 18 rfl) ?_
    exact ev_iret (dMo_notes.at 19 rfl) rfl (k1 c1)
  · refine ev_aload_n (dMo_notes.at 5 rfl) rfl ?_
    refine ev_getr (dMo_notes.at 6 rfl) (own := 8) rfl fkMo_43 rfl rfl ?_
    refine ev_iload_n (dMo_notes.at 7 rfl) rfl ?_
    refine ev_iload_n (dMo_notes.at 8 rfl) rfl ?_
    refine ev_iadd (dMo_notes.at 9 rfl) ?_
    refine ev_aload_n (dMo_notes.at 10 rfl) rfl ?_
    refine ev_iload_n (dMo_notes.at 11 rfl) rfl ?_
    refine ev_iaload (dMo_notes.at 12 rfl) rfl (o1 c1) ?_
    refine ev_iastore (dMo_notes.at 13 rfl) rfl (o2 c1) ?_
    refine ev_iinc (dMo_notes.at 14 rfl) kI_1 rfl (by decide) rfl ?_
    refine ev_goto (tgt := 2) (dMo_notes.at 15 rfl) rfl ?_
    exact (k2 c1)
set_option maxHeartbeats 4000000 in
theorem bMo_gives_49_0 {d : Nat} {w : sx_W} {Q : sx_Q} {x1 : Int32}
    (k1 : sx_ev d rMo_gives 2 [.ref 48, .int x1, .ref 49, .int (0 : Int32)] [] w Q) :
    sx_ev d rMo_gives 0 [.ref 48, .int x1, .ref 49, .null] [] w Q := by
  refine ev_iconst (dMo_gives.at 0 rfl) kI_0 ?_
  refine ev_istore_n (dMo_gives.at 1 rfl) (by decide) rfl ?_
  exact k1
set_option maxHeartbeats 4000000 in
theorem bMo_gives_49_2 {d : Nat} {w : sx_W} {Q : sx_Q} {x1 : Int32} {x3 : Int32}
    (k1 : ((7 : Int32) ≤ x3) → Q (x1 + (7 : Int32)) 0 w)
    (o1 : (¬ (7 : Int32) ≤ x3) → vp_in (x1 + x3) 32)
    (o2 : (¬ (7 : Int32) ≤ x3) → vp_in x3 7)
    (k2 : (¬ (7 : Int32) ≤ x3) → sx_ev d rMo_gives 2 [.ref 48, .int x1, .ref 49, .int (x3 + (1 : Int32))] [] ((sx_u w.1 49 x3.toNatClampNeg (w.1 60 (x1 + x3).toNatClampNeg)), w.2) Q) :
    sx_ev d rMo_gives 2 [.ref 48, .int x1, .ref 49, .int x3] [] w Q := by
  refine ev_iload_n (dMo_gives.at 2 rfl) rfl ?_
  refine ev_bipush (dMo_gives.at 3 rfl) kB_7 ?_
  refine ev_icmp_ge (tgt := 25) (dMo_gives.at 4 rfl) rfl (fun c1 => ?_) (fun c1 => ?_)
  · refine ev_iload_n (dMo_gives.at 16 rfl) rfl ?_
    refine ev_bipush (dMo_gives.at 17 rfl) kB_7 ?_
    refine ev_iadd (dMo_gives.at 18 rfl) ?_
    exact ev_iret (dMo_gives.at 19 rfl) rfl (k1 c1)
  · refine ev_aload_n (dMo_gives.at 5 rfl) rfl ?_
    refine ev_iload_n (dMo_gives.at 6 rfl) rfl ?_
    refine ev_aload_n (dMo_gives.at 7 rfl) rfl ?_
    refine ev_getr (dMo_gives.at 8 rfl) (own := 8) rfl fkMo_43 rfl rfl ?_
    refine ev_iload_n (dMo_gives.at 9 rfl) rfl ?_
    refine ev_iload_n (dMo_gives.at 10 rfl) rfl ?_
    refine ev_iadd (dMo_gives.at 11 rfl) ?_
    refine ev_iaload (dMo_gives.at 12 rfl) rfl (o1 c1) ?_
    refine ev_iastore (dMo_gives.at 13 rfl) rfl (o2 c1) ?_
    refine ev_iinc (dMo_gives.at 14 rfl) kI_1 rfl (by decide) rfl ?_
    refine ev_goto (tgt := 2) (dMo_gives.at 15 rfl) rfl ?_
    exact (k2 c1)
set_option maxHeartbeats 4000000 in
theorem bMo_gives_50_0 {d : Nat} {w : sx_W} {Q : sx_Q} {x1 : Int32}
    (k1 : sx_ev d rMo_gives 2 [.ref 48, .int x1, .ref 50, .int (0 : Int32)] [] w Q) :
    sx_ev d rMo_gives 0 [.ref 48, .int x1, .ref 50, .null] [] w Q := by
  refine ev_iconst (dMo_gives.at 0 rfl) kI_0 ?_
  refine ev_istore_n (dMo_gives.at 1 rfl) (by decide) rfl ?_
  exact k1
set_option maxHeartbeats 4000000 in
theorem bMo_gives_50_2 {d : Nat} {w : sx_W} {Q : sx_Q} {x1 : Int32} {x3 : Int32}
    (k1 : ((7 : Int32) ≤ x3) → Q (x1 + (7 : Int32)) 0 w)
    (o1 : (¬ (7 : Int32) ≤ x3) → vp_in (x1 + x3) 32)
    (o2 : (¬ (7 : Int32) ≤ x3) → vp_in x3 7)
    (k2 : (¬ (7 : Int32) ≤ x3) → sx_ev d rMo_gives 2 [.ref 48, .int x1, .ref 50, .int (x3 + (1 : Int32))] [] ((sx_u w.1 50 x3.toNatClampNeg (w.1 60 (x1 + x3).toNatClampNeg)), w.2) Q) :
    sx_ev d rMo_gives 2 [.ref 48, .int x1, .ref 50, .int x3] [] w Q := by
  refine ev_iload_n (dMo_gives.at 2 rfl) rfl ?_
  refine ev_bipush (dMo_gives.at 3 rfl) kB_7 ?_
  refine ev_icmp_ge (tgt := 25) (dMo_gives.at 4 rfl) rfl (fun c1 => ?_) (fun c1 => ?_)
  · refine ev_iload_n (dMo_gives.at 16 rfl) rfl ?_
    refine ev_bipush (dMo_gives.at 17 rfl) kB_7 ?_
    refine ev_iadd (dMo_gives.at 18 rfl) ?_
    exact ev_iret (dMo_gives.at 19 rfl) rfl (k1 c1)
  · refine ev_aload_n (dMo_gives.at 5 rfl) rfl ?_
    refine ev_iload_n (dMo_gives.at 6 rfl) rfl ?_
    refine ev_aload_n (dMo_gives.at 7 rfl) rfl ?_
    refine ev_getr (dMo_gives.at 8 rfl) (own := 8) rfl fkMo_43 rfl rfl ?_
    refine ev_iload_n (dMo_gives.at 9 rfl) rfl ?_
    refine ev_iload_n (dMo_gives.at 10 rfl) rfl ?_
    refine ev_iadd (dMo_gives.at 11 rfl) ?_
    refine ev_iaload (dMo_gives.at 12 rfl) rfl (o1 c1) ?_
    refine ev_iastore (dMo_gives.at 13 rfl) rfl (o2 c1) ?_
    refine ev_iinc (dMo_gives.at 14 rfl) kI_1 rfl (by decide) rfl ?_
    refine ev_goto (tgt := 2) (dMo_gives.at 15 rfl) rfl ?_
    exact (k2 c1)
set_option maxHeartbeats 4000000 in
theorem bMo_gives_51_0 {d : Nat} {w : sx_W} {Q : sx_Q} {x1 : Int32}
    (k1 : sx_ev d rMo_gives 2 [.ref 48, .int x1, .ref 51, .int (0 : Int32)] [] w Q) :
    sx_ev d rMo_gives 0 [.ref 48, .int x1, .ref 51, .null] [] w Q := by
  refine ev_iconst (dMo_gives.at 0 rfl) kI_0 ?_
  refine ev_istore_n (dMo_gives.at 1 rfl) (by decide) rfl ?_
  exact k1
set_option maxHeartbeats 4000000 in
theorem bMo_gives_51_2 {d : Nat} {w : sx_W} {Q : sx_Q} {x1 : Int32} {x3 : Int32}
    (k1 : ((7 : Int32) ≤ x3) → Q (x1 + (7 : Int32)) 0 w)
    (o1 : (¬ (7 : Int32) ≤ x3) → vp_in (x1 + x3) 32)
    (o2 : (¬ (7 : Int32) ≤ x3) → vp_in x3 7)
    (k2 : (¬ (7 : Int32) ≤ x3) → sx_ev d rMo_gives 2 [.ref 48, .int x1, .ref 51, .int (x3 + (1 : Int32))] [] ((sx_u w.1 51 x3.toNatClampNeg (w.1 60 (x1 + x3).toNatClampNeg)), w.2) Q) :
    sx_ev d rMo_gives 2 [.ref 48, .int x1, .ref 51, .int x3] [] w Q := by
  refine ev_iload_n (dMo_gives.at 2 rfl) rfl ?_
  refine ev_bipush (dMo_gives.at 3 rfl) kB_7 ?_
  refine ev_icmp_ge (tgt := 25) (dMo_gives.at 4 rfl) rfl (fun c1 => ?_) (fun c1 => ?_)
  · refine ev_iload_n (dMo_gives.at 16 rfl) rfl ?_
    refine ev_bipush (dMo_gives.at 17 rfl) kB_7 ?_
    refine ev_iadd (dMo_gives.at 18 rfl) ?_
    exact ev_iret (dMo_gives.at 19 rfl) rfl (k1 c1)
  · refine ev_aload_n (dMo_gives.at 5 rfl) rfl ?_
    refine ev_iload_n (dMo_gives.at 6 rfl) rfl ?_
    refine ev_aload_n (dMo_gives.at 7 rfl) rfl ?_
    refine ev_getr (dMo_gives.at 8 rfl) (own := 8) rfl fkMo_43 rfl rfl ?_
    refine ev_iload_n (dMo_gives.at 9 rfl) rfl ?_
    refine ev_iload_n (dMo_gives.at 10 rfl) rfl ?_
    refine ev_iadd (dMo_gives.at 11 rfl) ?_
    refine ev_iaload (dMo_gives.at 12 rfl) rfl (o1 c1) ?_
    refine ev_iastore (dMo_gives.at 13 rfl) rfl (o2 c1) ?_
    refine ev_iinc (dMo_gives.at 14 rfl) kI_1 rfl (by decide) rfl ?_
    refine ev_goto (tgt := 2) (dMo_gives.at 15 rfl) rfl ?_
    exact (k2 c1)
set_option maxHeartbeats 4000000 in
theorem bMo_gives_52_0 {d : Nat} {w : sx_W} {Q : sx_Q} {x1 : Int32}
    (k1 : sx_ev d rMo_gives 2 [.ref 48, .int x1, .ref 52, .int (0 : Int32)] [] w Q) :
    sx_ev d rMo_gives 0 [.ref 48, .int x1, .ref 52, .null] [] w Q := by
  refine ev_iconst (dMo_gives.at 0 rfl) kI_0 ?_
  refine ev_istore_n (dMo_gives.at 1 rfl) (by decide) rfl ?_
  exact k1
set_option maxHeartbeats 4000000 in
theorem bMo_gives_52_2 {d : Nat} {w : sx_W} {Q : sx_Q} {x1 : Int32} {x3 : Int32}
    (k1 : ((7 : Int32) ≤ x3) → Q (x1 + (7 : Int32)) 0 w)
    (o1 : (¬ (7 : Int32) ≤ x3) → vp_in (x1 + x3) 32)
    (o2 : (¬ (7 : Int32) ≤ x3) → vp_in x3 7)
    (k2 : (¬ (7 : Int32) ≤ x3) → sx_ev d rMo_gives 2 [.ref 48, .int x1, .ref 52, .int (x3 + (1 : Int32))] [] ((sx_u w.1 52 x3.toNatClampNeg (w.1 60 (x1 + x3).toNatClampNeg)), w.2) Q) :
    sx_ev d rMo_gives 2 [.ref 48, .int x1, .ref 52, .int x3] [] w Q := by
  refine ev_iload_n (dMo_gives.at 2 rfl) rfl ?_
  refine ev_bipush (dMo_gives.at 3 rfl) kB_7 ?_
  refine ev_icmp_ge (tgt := 25) (dMo_gives.at 4 rfl) rfl (fun c1 => ?_) (fun c1 => ?_)
  · refine ev_iload_n (dMo_gives.at 16 rfl) rfl ?_
    refine ev_bipush (dMo_gives.at 17 rfl) kB_7 ?_
    refine ev_iadd (dMo_gives.at 18 rfl) ?_
    exact ev_iret (dMo_gives.at 19 rfl) rfl (k1 c1)
  · refine ev_aload_n (dMo_gives.at 5 rfl) rfl ?_
    refine ev_iload_n (dMo_gives.at 6 rfl) rfl ?_
    refine ev_aload_n (dMo_gives.at 7 rfl) rfl ?_
    refine ev_getr (dMo_gives.at 8 rfl) (own := 8) rfl fkMo_43 rfl rfl ?_
    refine ev_iload_n (dMo_gives.at 9 rfl) rfl ?_
    refine ev_iload_n (dMo_gives.at 10 rfl) rfl ?_
    refine ev_iadd (dMo_gives.at 11 rfl) ?_
    refine ev_iaload (dMo_gives.at 12 rfl) rfl (o1 c1) ?_
    refine ev_iastore (dMo_gives.at 13 rfl) rfl (o2 c1) ?_
    refine ev_iinc (dMo_gives.at 14 rfl) kI_1 rfl (by decide) rfl ?_
    refine ev_goto (tgt := 2) (dMo_gives.at 15 rfl) rfl ?_
    exact (k2 c1)
set_option maxHeartbeats 4000000 in
theorem bMo_image_0 {d : Nat} {w : sx_W} {Q : sx_Q} {f1 : Int32} {w1 : sx_W} {f2 : Int32} {w2 : sx_W} {f3 : Int32} {w3 : sx_W} {f4 : Int32} {w4 : sx_W}
    (m1 : sx_de d rMo_notes [.ref 48, .ref 49, .int (0 : Int32)] w f1 0 w1)
    (m2 : sx_de d rMo_notes [.ref 48, .ref 50, .int f1] w1 f2 0 w2)
    (m3 : sx_de d rMo_notes [.ref 48, .ref 51, .int f2] w2 f3 0 w3)
    (m4 : sx_de d rMo_notes [.ref 48, .ref 52, .int f3] w3 f4 0 w4)
    (o1 : vp_in f4 32)
    (o2 : vp_in (f4 + (1 : Int32)) 32)
    (o3 : vp_in (f4 + (2 : Int32)) 32)
    (o4 : ((w4.1 48 5) = 0) → vp_in (f4 + (3 : Int32)) 32)
    (k1 : ((w4.1 48 5) = 0) → Q (1 : Int32) 0 ((sx_u (sx_u (sx_u (sx_u (sx_u w4.1 60 f4.toNatClampNeg (w4.1 48 0)) 60 (f4 + (1 : Int32)).toNatClampNeg (w4.1 48 6)) 60 (f4 + (2 : Int32)).toNatClampNeg (w4.1 48 7)) 60 (f4 + (3 : Int32)).toNatClampNeg (0 : Int32)) 48 19 (1 : Int32)), w4.2))
    (o5 : (¬ (w4.1 48 5) = 0) → vp_in (f4 + (3 : Int32)) 32)
    (k2 : (¬ (w4.1 48 5) = 0) → Q (1 : Int32) 0 ((sx_u (sx_u (sx_u (sx_u (sx_u w4.1 60 f4.toNatClampNeg (w4.1 48 0)) 60 (f4 + (1 : Int32)).toNatClampNeg (w4.1 48 6)) 60 (f4 + (2 : Int32)).toNatClampNeg (w4.1 48 7)) 60 (f4 + (3 : Int32)).toNatClampNeg (1 : Int32)) 48 19 (1 : Int32)), w4.2)) :
    sx_ev (d + 1) rMo_image 0 [.ref 48, .null] [] w Q := by
  refine ev_aload_n (dMo_image.at 0 rfl) rfl ?_
  refine ev_aload_n (dMo_image.at 1 rfl) rfl ?_
  refine ev_getr (dMo_image.at 2 rfl) (own := 8) rfl fkMo_7 rfl rfl ?_
  refine ev_iconst (dMo_image.at 3 rfl) kI_0 ?_
  refine ev_cVi (dMo_image.at 4 rfl) (As := [.ref 49, .int (0 : Int32)]) (own := 8) rfl ckMo_199 rfl (Or.inl rfl) rfl (Nat.le_of_ble_eq_true rfl) rfl m1 ?_
  refine ev_istore_n (dMo_image.at 5 rfl) (by decide) rfl ?_
  refine ev_aload_n (dMo_image.at 6 rfl) rfl ?_
  refine ev_aload_n (dMo_image.at 7 rfl) rfl ?_
  refine ev_getr (dMo_image.at 8 rfl) (own := 8) rfl fkMo_13 rfl rfl ?_
  refine ev_iload_n (dMo_image.at 9 rfl) rfl ?_
  refine ev_cVi (dMo_image.at 10 rfl) (As := [.ref 50, .int f1]) (own := 8) rfl ckMo_199 rfl (Or.inl rfl) rfl (Nat.le_of_ble_eq_true rfl) rfl m2 ?_
  refine ev_istore_n (dMo_image.at 11 rfl) (by decide) rfl ?_
  refine ev_aload_n (dMo_image.at 12 rfl) rfl ?_
  refine ev_aload_n (dMo_image.at 13 rfl) rfl ?_
  refine ev_getr (dMo_image.at 14 rfl) (own := 8) rfl fkMo_16 rfl rfl ?_
  refine ev_iload_n (dMo_image.at 15 rfl) rfl ?_
  refine ev_cVi (dMo_image.at 16 rfl) (As := [.ref 51, .int f2]) (own := 8) rfl ckMo_199 rfl (Or.inl rfl) rfl (Nat.le_of_ble_eq_true rfl) rfl m3 ?_
  refine ev_istore_n (dMo_image.at 17 rfl) (by decide) rfl ?_
  refine ev_aload_n (dMo_image.at 18 rfl) rfl ?_
  refine ev_aload_n (dMo_image.at 19 rfl) rfl ?_
  refine ev_getr (dMo_image.at 20 rfl) (own := 8) rfl fkMo_19 rfl rfl ?_
  refine ev_iload_n (dMo_image.at 21 rfl) rfl ?_
  refine ev_cVi (dMo_image.at 22 rfl) (As := [.ref 52, .int f3]) (own := 8) rfl ckMo_199 rfl (Or.inl rfl) rfl (Nat.le_of_ble_eq_true rfl) rfl m4 ?_
  refine ev_istore_n (dMo_image.at 23 rfl) (by decide) rfl ?_
  refine ev_aload_n (dMo_image.at 24 rfl) rfl ?_
  refine ev_getr (dMo_image.at 25 rfl) (own := 8) rfl fkMo_43 rfl rfl ?_
  refine ev_iload_n (dMo_image.at 26 rfl) rfl ?_
  refine ev_aload_n (dMo_image.at 27 rfl) rfl ?_
  refine ev_get (dMo_image.at 28 rfl) (own := 8) rfl fkMo_66 rfl rfl ?_
  refine ev_iastore (dMo_image.at 29 rfl) rfl o1 ?_
  refine ev_aload_n (dMo_image.at 30 rfl) rfl ?_
  refine ev_getr (dMo_image.at 31 rfl) (own := 8) rfl fkMo_43 rfl rfl ?_
  refine ev_iload_n (dMo_image.at 32 rfl) rfl ?_
  refine ev_iconst (dMo_image.at 33 rfl) kI_1 ?_
  refine ev_iadd (dMo_image.at 34 rfl) ?_
  refine ev_aload_n (dMo_image.at 35 rfl) rfl ?_
  refine ev_get (dMo_image.at 36 rfl) (own := 8) rfl fkMo_59 rfl rfl ?_
  refine ev_iastore (dMo_image.at 37 rfl) rfl o2 ?_
  refine ev_aload_n (dMo_image.at 38 rfl) rfl ?_
  refine ev_getr (dMo_image.at 39 rfl) (own := 8) rfl fkMo_43 rfl rfl ?_
  refine ev_iload_n (dMo_image.at 40 rfl) rfl ?_
  refine ev_iconst (dMo_image.at 41 rfl) kI_2 ?_
  refine ev_iadd (dMo_image.at 42 rfl) ?_
  refine ev_aload_n (dMo_image.at 43 rfl) rfl ?_
  refine ev_get (dMo_image.at 44 rfl) (own := 8) rfl fkMo_63 rfl rfl ?_
  refine ev_iastore (dMo_image.at 45 rfl) rfl o3 ?_
  refine ev_aload_n (dMo_image.at 46 rfl) rfl ?_
  refine ev_getr (dMo_image.at 47 rfl) (own := 8) rfl fkMo_43 rfl rfl ?_
  refine ev_iload_n (dMo_image.at 48 rfl) rfl ?_
  refine ev_iconst (dMo_image.at 49 rfl) kI_3 ?_
  refine ev_iadd (dMo_image.at 50 rfl) ?_
  refine ev_aload_n (dMo_image.at 51 rfl) rfl ?_
  refine ev_get (dMo_image.at 52 rfl) (own := 8) rfl fkMo_75 rfl rfl ?_
  refine ev_if_eq (tgt := 92) (dMo_image.at 53 rfl) rfl (fun c1 => ?_) (fun c1 => ?_)
  · refine ev_iconst (dMo_image.at 56 rfl) kI_0 ?_
    refine ev_iastore (dMo_image.at 57 rfl) rfl (o4 c1) ?_
    refine ev_aload_n (dMo_image.at 58 rfl) rfl ?_
    refine ev_iconst (dMo_image.at 59 rfl) kI_1 ?_
    refine ev_putz (dMo_image.at 60 rfl) (own := 8) rfl fkMo_203 rfl rfl (by decide) ?_
    refine ev_iconst (dMo_image.at 61 rfl) kI_1 ?_
    exact ev_iret (dMo_image.at 62 rfl) rfl (k1 c1)
  · refine ev_iconst (dMo_image.at 54 rfl) kI_1 ?_
    refine ev_goto (tgt := 93) (dMo_image.at 55 rfl) rfl ?_
    refine ev_iastore (dMo_image.at 57 rfl) rfl (o5 c1) ?_
    refine ev_aload_n (dMo_image.at 58 rfl) rfl ?_
    refine ev_iconst (dMo_image.at 59 rfl) kI_1 ?_
    refine ev_putz (dMo_image.at 60 rfl) (own := 8) rfl fkMo_203 rfl rfl (by decide) ?_
    refine ev_iconst (dMo_image.at 61 rfl) kI_1 ?_
    exact ev_iret (dMo_image.at 62 rfl) rfl (k2 c1)
set_option maxHeartbeats 4000000 in
theorem bMo_restore_0 {d : Nat} {w : sx_W} {Q : sx_Q} {f1 : Int32} {w1 : sx_W} {f2 : Int32} {w2 : sx_W} {f3 : Int32} {w3 : sx_W} {f4 : Int32} {w4 : sx_W}
    (m1 : (¬ (w.1 48 19) = 0) → sx_de d rMo_gives [.ref 48, .int (0 : Int32), .ref 49] w f1 0 w1)
    (m2 : (¬ (w.1 48 19) = 0) → sx_de d rMo_gives [.ref 48, .int f1, .ref 50] w1 f2 0 w2)
    (m3 : (¬ (w.1 48 19) = 0) → sx_de d rMo_gives [.ref 48, .int f2, .ref 51] w2 f3 0 w3)
    (m4 : (¬ (w.1 48 19) = 0) → sx_de d rMo_gives [.ref 48, .int f3, .ref 52] w3 f4 0 w4)
    (o1 : (¬ (w.1 48 19) = 0) → vp_in f4 32)
    (o2 : (¬ (w.1 48 19) = 0) → vp_in (f4 + (1 : Int32)) 32)
    (o3 : (¬ (w.1 48 19) = 0) → vp_in (f4 + (2 : Int32)) 32)
    (o4 : (¬ (w.1 48 19) = 0) → vp_in (f4 + (3 : Int32)) 32)
    (k1 : (¬ (w.1 48 19) = 0) → (¬ (w4.1 60 (f4 + (3 : Int32)).toNatClampNeg) = (1 : Int32)) → Q (1 : Int32) 0 ((sx_u (sx_u (sx_u (sx_u w4.1 48 0 (w4.1 60 f4.toNatClampNeg)) 48 6 (w4.1 60 (f4 + (1 : Int32)).toNatClampNeg)) 48 7 (w4.1 60 (f4 + (2 : Int32)).toNatClampNeg)) 48 5 (0 : Int32)), w4.2))
    (k2 : (¬ (w.1 48 19) = 0) → ((w4.1 60 (f4 + (3 : Int32)).toNatClampNeg) = (1 : Int32)) → Q (1 : Int32) 0 ((sx_u (sx_u (sx_u (sx_u w4.1 48 0 (w4.1 60 f4.toNatClampNeg)) 48 6 (w4.1 60 (f4 + (1 : Int32)).toNatClampNeg)) 48 7 (w4.1 60 (f4 + (2 : Int32)).toNatClampNeg)) 48 5 (1 : Int32)), w4.2))
    (k3 : ((w.1 48 19) = 0) → Q (-4 : Int32) 0 w) :
    sx_ev (d + 1) rMo_restore 0 [.ref 48, .null] [] w Q := by
  refine ev_aload_n (dMo_restore.at 0 rfl) rfl ?_
  refine ev_get (dMo_restore.at 1 rfl) (own := 8) rfl fkMo_203 rfl rfl ?_
  refine ev_if_ne (tgt := 10) (dMo_restore.at 2 rfl) rfl (fun c1 => ?_) (fun c1 => ?_)
  · refine ev_aload_n (dMo_restore.at 5 rfl) rfl ?_
    refine ev_iconst (dMo_restore.at 6 rfl) kI_0 ?_
    refine ev_aload_n (dMo_restore.at 7 rfl) rfl ?_
    refine ev_getr (dMo_restore.at 8 rfl) (own := 8) rfl fkMo_7 rfl rfl ?_
    refine ev_cVi (dMo_restore.at 9 rfl) (As := [.int (0 : Int32), .ref 49]) (own := 8) rfl ckMo_206 rfl (Or.inl rfl) rfl (Nat.le_of_ble_eq_true rfl) rfl (m1 c1) ?_
    refine ev_istore_n (dMo_restore.at 10 rfl) (by decide) rfl ?_
    refine ev_aload_n (dMo_restore.at 11 rfl) rfl ?_
    refine ev_iload_n (dMo_restore.at 12 rfl) rfl ?_
    refine ev_aload_n (dMo_restore.at 13 rfl) rfl ?_
    refine ev_getr (dMo_restore.at 14 rfl) (own := 8) rfl fkMo_13 rfl rfl ?_
    refine ev_cVi (dMo_restore.at 15 rfl) (As := [.int f1, .ref 50]) (own := 8) rfl ckMo_206 rfl (Or.inl rfl) rfl (Nat.le_of_ble_eq_true rfl) rfl (m2 c1) ?_
    refine ev_istore_n (dMo_restore.at 16 rfl) (by decide) rfl ?_
    refine ev_aload_n (dMo_restore.at 17 rfl) rfl ?_
    refine ev_iload_n (dMo_restore.at 18 rfl) rfl ?_
    refine ev_aload_n (dMo_restore.at 19 rfl) rfl ?_
    refine ev_getr (dMo_restore.at 20 rfl) (own := 8) rfl fkMo_16 rfl rfl ?_
    refine ev_cVi (dMo_restore.at 21 rfl) (As := [.int f2, .ref 51]) (own := 8) rfl ckMo_206 rfl (Or.inl rfl) rfl (Nat.le_of_ble_eq_true rfl) rfl (m3 c1) ?_
    refine ev_istore_n (dMo_restore.at 22 rfl) (by decide) rfl ?_
    refine ev_aload_n (dMo_restore.at 23 rfl) rfl ?_
    refine ev_iload_n (dMo_restore.at 24 rfl) rfl ?_
    refine ev_aload_n (dMo_restore.at 25 rfl) rfl ?_
    refine ev_getr (dMo_restore.at 26 rfl) (own := 8) rfl fkMo_19 rfl rfl ?_
    refine ev_cVi (dMo_restore.at 27 rfl) (As := [.int f3, .ref 52]) (own := 8) rfl ckMo_206 rfl (Or.inl rfl) rfl (Nat.le_of_ble_eq_true rfl) rfl (m4 c1) ?_
    refine ev_istore_n (dMo_restore.at 28 rfl) (by decide) rfl ?_
    refine ev_aload_n (dMo_restore.at 29 rfl) rfl ?_
    refine ev_aload_n (dMo_restore.at 30 rfl) rfl ?_
    refine ev_getr (dMo_restore.at 31 rfl) (own := 8) rfl fkMo_43 rfl rfl ?_
    refine ev_iload_n (dMo_restore.at 32 rfl) rfl ?_
    refine ev_iaload (dMo_restore.at 33 rfl) rfl (o1 c1) ?_
    refine ev_put (dMo_restore.at 34 rfl) (own := 8) rfl fkMo_66 rfl rfl ?_
    refine ev_aload_n (dMo_restore.at 35 rfl) rfl ?_
    refine ev_aload_n (dMo_restore.at 36 rfl) rfl ?_
    refine ev_getr (dMo_restore.at 37 rfl) (own := 8) rfl fkMo_43 rfl rfl ?_
    refine ev_iload_n (dMo_restore.at 38 rfl) rfl ?_
    refine ev_iconst (dMo_restore.at 39 rfl) kI_1 ?_
    refine ev_iadd (dMo_restore.at 40 rfl) ?_
    refine ev_iaload (dMo_restore.at 41 rfl) rfl (o2 c1) ?_
    refine ev_put (dMo_restore.at 42 rfl) (own := 8) rfl fkMo_59 rfl rfl ?_
    refine ev_aload_n (dMo_restore.at 43 rfl) rfl ?_
    refine ev_aload_n (dMo_restore.at 44 rfl) rfl ?_
    refine ev_getr (dMo_restore.at 45 rfl) (own := 8) rfl fkMo_43 rfl rfl ?_
    refine ev_iload_n (dMo_restore.at 46 rfl) rfl ?_
    refine ev_iconst (dMo_restore.at 47 rfl) kI_2 ?_
    refine ev_iadd (dMo_restore.at 48 rfl) ?_
    refine ev_iaload (dMo_restore.at 49 rfl) rfl (o3 c1) ?_
    refine ev_put (dMo_restore.at 50 rfl) (own := 8) rfl fkMo_63 rfl rfl ?_
    refine ev_aload_n (dMo_restore.at 51 rfl) rfl ?_
    refine ev_aload_n (dMo_restore.at 52 rfl) rfl ?_
    refine ev_getr (dMo_restore.at 53 rfl) (own := 8) rfl fkMo_43 rfl rfl ?_
    refine ev_iload_n (dMo_restore.at 54 rfl) rfl ?_
    refine ev_iconst (dMo_restore.at 55 rfl) kI_3 ?_
    refine ev_iadd (dMo_restore.at 56 rfl) ?_
    refine ev_iaload (dMo_restore.at 57 rfl) rfl (o4 c1) ?_
    refine ev_iconst (dMo_restore.at 58 rfl) kI_1 ?_
    refine ev_icmp_ne (tgt := 101) (dMo_restore.at 59 rfl) rfl (fun c2 => ?_) (fun c2 => ?_)
    · refine ev_iconst (dMo_restore.at 62 rfl) kI_0 ?_
      refine ev_putz (dMo_restore.at 63 rfl) (own := 8) rfl fkMo_75 rfl rfl (by decide) ?_
      refine ev_iconst (dMo_restore.at 64 rfl) kI_1 ?_
      exact ev_iret (dMo_restore.at 65 rfl) rfl (k1 c1 c2)
    · refine ev_iconst (dMo_restore.at 60 rfl) kI_1 ?_
      refine ev_goto (tgt := 102) (dMo_restore.at 61 rfl) rfl ?_
      refine ev_putz (dMo_restore.at 63 rfl) (own := 8) rfl fkMo_75 rfl rfl (by decide) ?_
      refine ev_iconst (dMo_restore.at 64 rfl) kI_1 ?_
      exact ev_iret (dMo_restore.at 65 rfl) rfl (k2 c1 c2)
  · refine ev_bipush (dMo_restore.at 3 rfl) kB_m4 ?_
    exact ev_iret (dMo_restore.at 4 rfl) rfl (k3 c1)
set_option maxHeartbeats 4000000 in
theorem bMo_isSheet_0 {d : Nat} {w : sx_W} {Q : sx_Q} {x0 : Int32} {f1 : Int32}
    (m1 : sx_de d rMo_in [.long (x0).toInt64, .long (0 : Int64), .long (lN 3)] w f1 0 w)
    (k1 : Q f1 0 w)
    (o1 : (f1 = 0 ∨ f1 = 1)) :
    sx_ev (d + 1) rMo_isSheet 0 [.int x0] [] w Q := by
  refine ev_iload_n (dMo_isSheet.at 0 rfl) rfl ?_
  refine ev_i2l (dMo_isSheet.at 1 rfl) ?_
  refine ev_lconst (dMo_isSheet.at 2 rfl) rfl ?_
  refine ev_ldc2 (dMo_isSheet.at 3 rfl) (own := 8) rfl (List.mem_of_getElem? (i := 0) rfl) ?_
  refine ev_cSi (dMo_isSheet.at 4 rfl) (As := [.long (x0).toInt64, .long (0 : Int64), .long (lN 3)]) (own := 8) rfl ckMo_69 (Or.inr rfl) rfl (Nat.le_of_ble_eq_true rfl) rfl m1 ?_
  exact ev_zret (dMo_isSheet.at 5 rfl) rfl o1 k1
set_option maxHeartbeats 4000000 in
theorem bMo_isLane_0 {d : Nat} {w : sx_W} {Q : sx_Q} {x0 : Int32} {f1 : Int32}
    (m1 : sx_de d rMo_in [.long (x0).toInt64, .long (0 : Int64), .long (lN 2)] w f1 0 w)
    (k1 : Q f1 0 w)
    (o1 : (f1 = 0 ∨ f1 = 1)) :
    sx_ev (d + 1) rMo_isLane 0 [.int x0] [] w Q := by
  refine ev_iload_n (dMo_isLane.at 0 rfl) rfl ?_
  refine ev_i2l (dMo_isLane.at 1 rfl) ?_
  refine ev_lconst (dMo_isLane.at 2 rfl) rfl ?_
  refine ev_ldc2 (dMo_isLane.at 3 rfl) (own := 8) rfl (List.mem_of_getElem? (i := 12) rfl) ?_
  refine ev_cSi (dMo_isLane.at 4 rfl) (As := [.long (x0).toInt64, .long (0 : Int64), .long (lN 2)]) (own := 8) rfl ckMo_69 (Or.inr rfl) rfl (Nat.le_of_ble_eq_true rfl) rfl m1 ?_
  exact ev_zret (dMo_isLane.at 5 rfl) rfl o1 k1
set_option maxHeartbeats 4000000 in
theorem bMo_why_0 {d : Nat} {w : sx_W} {Q : sx_Q} {x1 : Int32} {x2 : Int32} {x3 : Int32} {x4 : Int32}
    (o1 : vp_in x1 4)
    (k1 : (0 ≤ (w.1 61 x1.toNatClampNeg)) → ((w.1 61 x1.toNatClampNeg) = x2) → (x3 < 0) → Q (-13 : Int32) 0 w)
    (k2 : (0 ≤ (w.1 61 x1.toNatClampNeg)) → ((w.1 61 x1.toNatClampNeg) = x2) → (¬ x3 < 0) → (((x3).toInt64 + (x4).toInt64) ≤ (w.1 62 x1.toNatClampNeg).toInt64) → Q (0 : Int32) 0 w)
    (k3 : (0 ≤ (w.1 61 x1.toNatClampNeg)) → ((w.1 61 x1.toNatClampNeg) = x2) → (¬ x3 < 0) → (¬ ((x3).toInt64 + (x4).toInt64) ≤ (w.1 62 x1.toNatClampNeg).toInt64) → Q (-13 : Int32) 0 w)
    (k4 : (0 ≤ (w.1 61 x1.toNatClampNeg)) → (¬ (w.1 61 x1.toNatClampNeg) = x2) → Q (-12 : Int32) 0 w)
    (k5 : (¬ 0 ≤ (w.1 61 x1.toNatClampNeg)) → Q (-11 : Int32) 0 w) :
    sx_ev d rMo_why 0 [.ref 48, .int x1, .int x2, .int x3, .int x4] [] w Q := by
  refine ev_aload_n (dMo_why.at 0 rfl) rfl ?_
  refine ev_getr (dMo_why.at 1 rfl) (own := 8) rfl fkMo_46 rfl rfl ?_
  refine ev_iload_n (dMo_why.at 2 rfl) rfl ?_
  refine ev_iaload (dMo_why.at 3 rfl) rfl o1 ?_
  refine ev_if_ge (tgt := 12) (dMo_why.at 4 rfl) rfl (fun c1 => ?_) (fun c1 => ?_)
  · refine ev_aload_n (dMo_why.at 7 rfl) rfl ?_
    refine ev_getr (dMo_why.at 8 rfl) (own := 8) rfl fkMo_46 rfl rfl ?_
    refine ev_iload_n (dMo_why.at 9 rfl) rfl ?_
    refine ev_iaload (dMo_why.at 10 rfl) rfl o1 ?_
    refine ev_iload_n (dMo_why.at 11 rfl) rfl ?_
    refine ev_icmp_eq (tgt := 25) (dMo_why.at 12 rfl) rfl (fun c2 => ?_) (fun c2 => ?_)
    · refine ev_iload_n (dMo_why.at 15 rfl) rfl ?_
      refine ev_if_lt (tgt := 46) (dMo_why.at 16 rfl) rfl (fun c3 => ?_) (fun c3 => ?_)
      · refine ev_bipush (dMo_why.at 29 rfl) kB_m13 ?_
        refine ev_goto (tgt := 52) (dMo_why.at 30 rfl) rfl ?_
        exact ev_iret (dMo_why.at 32 rfl) rfl (k1 c1 c2 c3)
      · refine ev_iload_n (dMo_why.at 17 rfl) rfl ?_
        refine ev_i2l (dMo_why.at 18 rfl) ?_
        refine ev_iload (dMo_why.at 19 rfl) rfl ?_
        refine ev_i2l (dMo_why.at 20 rfl) ?_
        refine ev_ladd (dMo_why.at 21 rfl) ?_
        refine ev_aload_n (dMo_why.at 22 rfl) rfl ?_
        refine ev_getr (dMo_why.at 23 rfl) (own := 8) rfl fkMo_49 rfl rfl ?_
        refine ev_iload_n (dMo_why.at 24 rfl) rfl ?_
        refine ev_iaload (dMo_why.at 25 rfl) rfl o1 ?_
        refine ev_i2l (dMo_why.at 26 rfl) ?_
        refine ev_lcmp (dMo_why.at 27 rfl) ?_
        refine ev_if_le (tgt := 51) (dMo_why.at 28 rfl) rfl (fun c4 => ?_) (fun c4 => ?_)
        · rw [lg_cmp_le] at c4
          refine ev_iconst (dMo_why.at 31 rfl) kI_0 ?_
          exact ev_iret (dMo_why.at 32 rfl) rfl (k2 c1 c2 c3 c4)
        · rw [lg_cmp_le] at c4
          refine ev_bipush (dMo_why.at 29 rfl) kB_m13 ?_
          refine ev_goto (tgt := 52) (dMo_why.at 30 rfl) rfl ?_
          exact ev_iret (dMo_why.at 32 rfl) rfl (k3 c1 c2 c3 c4)
    · refine ev_bipush (dMo_why.at 13 rfl) kB_m12 ?_
      exact ev_iret (dMo_why.at 14 rfl) rfl (k4 c1 c2)
  · refine ev_bipush (dMo_why.at 5 rfl) kB_m11 ?_
    exact ev_iret (dMo_why.at 6 rfl) rfl (k5 c1)
set_option maxHeartbeats 4000000 in
theorem bMo_lay_0 {d : Nat} {w : sx_W} {Q : sx_Q} {x1 : Int32} {x2 : Int32} {x3 : Int32} {f1 : Int32} {f2 : Int32} {f3 : Int32}
    (m1 : sx_de d rMo_isSheet [.int x1] w f1 0 w)
    (k1 : (f1 = 0) → Q (-1 : Int32) 0 w)
    (m2 : (¬ f1 = 0) → sx_de d rMo_isLane [.int x2] w f2 0 w)
    (m3 : (¬ f1 = 0) → (¬ f2 = 0) → sx_de d rMo_why [.ref 48, .int x1, .int x2, .int x3, .int (w.1 48 0)] w f3 0 w)
    (k2 : (¬ f1 = 0) → (¬ f2 = 0) → (0 ≤ f3) → ((w.1 48 0) ≤ 0) → sx_ev (d + 1) rMo_lay 54 [.ref 48, .int x1, .null, .int x3, .null, .int (0 : Int32), .int (0 : Int32)] [] w Q)
    (k3 : (¬ f1 = 0) → (¬ f2 = 0) → (0 ≤ f3) → (¬ (w.1 48 0) ≤ 0) → sx_ev (d + 1) rMo_lay 54 [.ref 48, .int x1, .null, .int x3, .null, .int (1 : Int32), .int (0 : Int32)] [] w Q)
    (k4 : (¬ f1 = 0) → (¬ f2 = 0) → (¬ 0 ≤ f3) → Q f3 0 w)
    (k5 : (¬ f1 = 0) → (f2 = 0) → Q (-1 : Int32) 0 w) :
    sx_ev (d + 1) rMo_lay 0 [.ref 48, .int x1, .int x2, .int x3, .null, .null, .null] [] w Q := by
  refine ev_iload_n (dMo_lay.at 0 rfl) rfl ?_
  refine ev_cSi (dMo_lay.at 1 rfl) (As := [.int x1]) (own := 8) rfl ckMo_212 (Or.inr rfl) rfl (Nat.le_of_ble_eq_true rfl) rfl m1 ?_
  refine ev_if_eq (tgt := 14) (dMo_lay.at 2 rfl) rfl (fun c1 => ?_) (fun c1 => ?_)
  · refine ev_iconst (dMo_lay.at 6 rfl) kI_m1 ?_
    exact ev_iret (dMo_lay.at 7 rfl) rfl (k1 c1)
  · refine ev_iload_n (dMo_lay.at 3 rfl) rfl ?_
    refine ev_cSi (dMo_lay.at 4 rfl) (As := [.int x2]) (own := 8) rfl ckMo_215 (Or.inr rfl) rfl (Nat.le_of_ble_eq_true rfl) rfl (m2 c1) ?_
    refine ev_if_ne (tgt := 16) (dMo_lay.at 5 rfl) rfl (fun c2 => ?_) (fun c2 => ?_)
    · refine ev_aload_n (dMo_lay.at 8 rfl) rfl ?_
      refine ev_iload_n (dMo_lay.at 9 rfl) rfl ?_
      refine ev_iload_n (dMo_lay.at 10 rfl) rfl ?_
      refine ev_iload_n (dMo_lay.at 11 rfl) rfl ?_
      refine ev_aload_n (dMo_lay.at 12 rfl) rfl ?_
      refine ev_get (dMo_lay.at 13 rfl) (own := 8) rfl fkMo_66 rfl rfl ?_
      refine ev_cVi (dMo_lay.at 14 rfl) (As := [.int x1, .int x2, .int x3, .int (w.1 48 0)]) (own := 8) rfl ckMo_218 rfl (Or.inl rfl) rfl (Nat.le_of_ble_eq_true rfl) rfl (m3 c1 c2) ?_
      refine ev_istore (dMo_lay.at 15 rfl) (by decide) rfl ?_
      refine ev_iload (dMo_lay.at 16 rfl) rfl ?_
      refine ev_if_ge (tgt := 37) (dMo_lay.at 17 rfl) rfl (fun c3 => ?_) (fun c3 => ?_)
      · refine ev_aload_n (dMo_lay.at 20 rfl) rfl ?_
        refine ev_get (dMo_lay.at 21 rfl) (own := 8) rfl fkMo_66 rfl rfl ?_
        refine ev_if_le (tgt := 48) (dMo_lay.at 22 rfl) rfl (fun c4 => ?_) (fun c4 => ?_)
        · refine ev_iconst (dMo_lay.at 25 rfl) kI_0 ?_
          refine ev_istore (dMo_lay.at 26 rfl) (by decide) rfl ?_
          refine ev_iconst (dMo_lay.at 27 rfl) kI_0 ?_
          refine ev_istore (dMo_lay.at 28 rfl) (by decide) rfl ?_
          refine ev_kp [true, true, false, true, false, true, true] rfl ?_
          exact (k2 c1 c2 c3 c4)
        · refine ev_iconst (dMo_lay.at 23 rfl) kI_1 ?_
          refine ev_goto (tgt := 49) (dMo_lay.at 24 rfl) rfl ?_
          refine ev_istore (dMo_lay.at 26 rfl) (by decide) rfl ?_
          refine ev_iconst (dMo_lay.at 27 rfl) kI_0 ?_
          refine ev_istore (dMo_lay.at 28 rfl) (by decide) rfl ?_
          refine ev_kp [true, true, false, true, false, true, true] rfl ?_
          exact (k3 c1 c2 c3 c4)
      · refine ev_iload (dMo_lay.at 18 rfl) rfl ?_
        exact ev_iret (dMo_lay.at 19 rfl) rfl (k4 c1 c2 c3)
    · refine ev_iconst (dMo_lay.at 6 rfl) kI_m1 ?_
      exact ev_iret (dMo_lay.at 7 rfl) rfl (k5 c1 c2)
set_option maxHeartbeats 4000000 in
theorem bMo_lay_54 {d : Nat} {w : sx_W} {Q : sx_Q} {x1 : Int32} {x3 : Int32} {x5 : Int32} {x6 : Int32} {f1 : Int32}
    (k1 : ((w.1 48 0) ≤ x6) → (¬ x5 = 0) → sx_ev (d + 1) rMo_lay 112 [.ref 48, .int x1, .null, .int x3, .null, .null, .int (0 : Int32)] [] w Q)
    (k2 : ((w.1 48 0) ≤ x6) → (x5 = 0) → Q (-2 : Int32) 0 w)
    (k3 : (¬ (w.1 48 0) ≤ x6) → (x5 = 0) → sx_ev (d + 1) rMo_lay 54 [.ref 48, .int x1, .null, .int x3, .null, .int (0 : Int32), .int (x6 + (1 : Int32))] [] w Q)
    (o1 : (¬ (w.1 48 0) ≤ x6) → (¬ x5 = 0) → vp_in ((((16 : Int32) * x1) + x3) + x6) 64)
    (m1 : (¬ (w.1 48 0) ≤ x6) → (¬ x5 = 0) → sx_de d rMo_isPart [.long (w.2 63 ((((16 : Int32) * x1) + x3) + x6).toNatClampNeg)] w f1 0 w)
    (k4 : (¬ (w.1 48 0) ≤ x6) → (¬ x5 = 0) → (f1 = 0) → sx_ev (d + 1) rMo_lay 54 [.ref 48, .int x1, .null, .int x3, .null, .int (0 : Int32), .int (x6 + (1 : Int32))] [] w Q)
    (k5 : (¬ (w.1 48 0) ≤ x6) → (¬ x5 = 0) → (¬ f1 = 0) → sx_ev (d + 1) rMo_lay 54 [.ref 48, .int x1, .null, .int x3, .null, .int (1 : Int32), .int (x6 + (1 : Int32))] [] w Q) :
    sx_ev (d + 1) rMo_lay 54 [.ref 48, .int x1, .null, .int x3, .null, .int x5, .int x6] [] w Q := by
  refine ev_iload (dMo_lay.at 29 rfl) rfl ?_
  refine ev_aload_n (dMo_lay.at 30 rfl) rfl ?_
  refine ev_get (dMo_lay.at 31 rfl) (own := 8) rfl fkMo_66 rfl rfl ?_
  refine ev_icmp_ge (tgt := 101) (dMo_lay.at 32 rfl) rfl (fun c1 => ?_) (fun c1 => ?_)
  · refine ev_iload (dMo_lay.at 53 rfl) rfl ?_
    refine ev_if_ne (tgt := 109) (dMo_lay.at 54 rfl) rfl (fun c2 => ?_) (fun c2 => ?_)
    · refine ev_iconst (dMo_lay.at 57 rfl) kI_0 ?_
      refine ev_istore (dMo_lay.at 58 rfl) (by decide) rfl ?_
      refine ev_kp [true, true, false, true, false, false, true] rfl ?_
      exact (k1 c1 c2)
    · refine ev_bipush (dMo_lay.at 55 rfl) kB_m2 ?_
      exact ev_iret (dMo_lay.at 56 rfl) rfl (k2 c1 c2)
  · refine ev_iload (dMo_lay.at 33 rfl) rfl ?_
    refine ev_if_eq (tgt := 92) (dMo_lay.at 34 rfl) rfl (fun c3 => ?_) (fun c3 => ?_)
    · refine ev_iconst (dMo_lay.at 49 rfl) kI_0 ?_
      refine ev_istore (dMo_lay.at 50 rfl) (by decide) rfl ?_
      refine ev_iinc (dMo_lay.at 51 rfl) kI_1 rfl (by decide) rfl ?_
      refine ev_goto (tgt := 54) (dMo_lay.at 52 rfl) rfl ?_
      exact (k3 c1 c3)
    · refine ev_aload_n (dMo_lay.at 35 rfl) rfl ?_
      refine ev_getr (dMo_lay.at 36 rfl) (own := 8) rfl fkMo_52 rfl rfl ?_
      refine ev_bipush (dMo_lay.at 37 rfl) kB_16 ?_
      refine ev_iload_n (dMo_lay.at 38 rfl) rfl ?_
      refine ev_imul (dMo_lay.at 39 rfl) ?_
      refine ev_iload_n (dMo_lay.at 40 rfl) rfl ?_
      refine ev_iadd (dMo_lay.at 41 rfl) ?_
      refine ev_iload (dMo_lay.at 42 rfl) rfl ?_
      refine ev_iadd (dMo_lay.at 43 rfl) ?_
      refine ev_laload (dMo_lay.at 44 rfl) rfl (o1 c1 c3) ?_
      refine ev_cSi (dMo_lay.at 45 rfl) (As := [.long (w.2 63 ((((16 : Int32) * x1) + x3) + x6).toNatClampNeg)]) (own := 8) rfl ckMo_105 (Or.inr rfl) rfl (Nat.le_of_ble_eq_true rfl) rfl (m1 c1 c3) ?_
      refine ev_if_eq (tgt := 92) (dMo_lay.at 46 rfl) rfl (fun c4 => ?_) (fun c4 => ?_)
      · refine ev_iconst (dMo_lay.at 49 rfl) kI_0 ?_
        refine ev_istore (dMo_lay.at 50 rfl) (by decide) rfl ?_
        refine ev_iinc (dMo_lay.at 51 rfl) kI_1 rfl (by decide) rfl ?_
        refine ev_goto (tgt := 54) (dMo_lay.at 52 rfl) rfl ?_
        exact (k4 c1 c3 c4)
      · refine ev_iconst (dMo_lay.at 47 rfl) kI_1 ?_
        refine ev_goto (tgt := 93) (dMo_lay.at 48 rfl) rfl ?_
        refine ev_istore (dMo_lay.at 50 rfl) (by decide) rfl ?_
        refine ev_iinc (dMo_lay.at 51 rfl) kI_1 rfl (by decide) rfl ?_
        refine ev_goto (tgt := 54) (dMo_lay.at 52 rfl) rfl ?_
        exact (k5 c1 c3 c4)
set_option maxHeartbeats 4000000 in
theorem bMo_lay_112 {d : Nat} {w : sx_W} {Q : sx_Q} {x1 : Int32} {x3 : Int32} {x6 : Int32} {f1 : Int32}
    (m1 : ((w.1 48 0) ≤ x6) → sx_de d rMo_isGood [.ref 48] ((sx_u w.1 48 5 (1 : Int32)), w.2) f1 0 ((sx_u w.1 48 5 (1 : Int32)), w.2))
    (k1 : ((w.1 48 0) ≤ x6) → (f1 = 0) → Q (0 : Int32) 0 ((sx_u w.1 48 5 (1 : Int32)), w.2))
    (k2 : ((w.1 48 0) ≤ x6) → (¬ f1 = 0) → Q (1 : Int32) 0 ((sx_u w.1 48 5 (1 : Int32)), w.2))
    (o1 : (¬ (w.1 48 0) ≤ x6) → vp_in ((((16 : Int32) * x1) + x3) + x6) 64)
    (o2 : (¬ (w.1 48 0) ≤ x6) → vp_in x6 7)
    (k3 : (¬ (w.1 48 0) ≤ x6) → sx_ev (d + 1) rMo_lay 112 [.ref 48, .int x1, .null, .int x3, .null, .null, .int (x6 + (1 : Int32))] [] ((sx_u w.1 52 x6.toNatClampNeg (w.2 63 ((((16 : Int32) * x1) + x3) + x6).toNatClampNeg).toInt32), w.2) Q) :
    sx_ev (d + 1) rMo_lay 112 [.ref 48, .int x1, .null, .int x3, .null, .null, .int x6] [] w Q := by
  refine ev_iload (dMo_lay.at 59 rfl) rfl ?_
  refine ev_aload_n (dMo_lay.at 60 rfl) rfl ?_
  refine ev_get (dMo_lay.at 61 rfl) (own := 8) rfl fkMo_66 rfl rfl ?_
  refine ev_icmp_ge (tgt := 149) (dMo_lay.at 62 rfl) rfl (fun c1 => ?_) (fun c1 => ?_)
  · refine ev_aload_n (dMo_lay.at 80 rfl) rfl ?_
    refine ev_iconst (dMo_lay.at 81 rfl) kI_1 ?_
    refine ev_putz (dMo_lay.at 82 rfl) (own := 8) rfl fkMo_75 rfl rfl (by decide) ?_
    refine ev_aload_n (dMo_lay.at 83 rfl) rfl ?_
    refine ev_cVi (dMo_lay.at 84 rfl) (As := []) (own := 8) rfl ckMo_119 rfl (Or.inr rfl) rfl (Nat.le_of_ble_eq_true rfl) rfl (m1 c1) ?_
    refine ev_if_eq (tgt := 165) (dMo_lay.at 85 rfl) rfl (fun c2 => ?_) (fun c2 => ?_)
    · refine ev_iconst (dMo_lay.at 88 rfl) kI_0 ?_
      exact ev_iret (dMo_lay.at 89 rfl) rfl (k1 c1 c2)
    · refine ev_iconst (dMo_lay.at 86 rfl) kI_1 ?_
      refine ev_goto (tgt := 166) (dMo_lay.at 87 rfl) rfl ?_
      exact ev_iret (dMo_lay.at 89 rfl) rfl (k2 c1 c2)
  · refine ev_aload_n (dMo_lay.at 63 rfl) rfl ?_
    refine ev_getr (dMo_lay.at 64 rfl) (own := 8) rfl fkMo_19 rfl rfl ?_
    refine ev_iload (dMo_lay.at 65 rfl) rfl ?_
    refine ev_aload_n (dMo_lay.at 66 rfl) rfl ?_
    refine ev_getr (dMo_lay.at 67 rfl) (own := 8) rfl fkMo_52 rfl rfl ?_
    refine ev_bipush (dMo_lay.at 68 rfl) kB_16 ?_
    refine ev_iload_n (dMo_lay.at 69 rfl) rfl ?_
    refine ev_imul (dMo_lay.at 70 rfl) ?_
    refine ev_iload_n (dMo_lay.at 71 rfl) rfl ?_
    refine ev_iadd (dMo_lay.at 72 rfl) ?_
    refine ev_iload (dMo_lay.at 73 rfl) rfl ?_
    refine ev_iadd (dMo_lay.at 74 rfl) ?_
    refine ev_laload (dMo_lay.at 75 rfl) rfl (o1 c1) ?_
    refine ev_l2i (dMo_lay.at 76 rfl) ?_
    refine ev_iastore (dMo_lay.at 77 rfl) rfl (o2 c1) ?_
    refine ev_iinc (dMo_lay.at 78 rfl) kI_1 rfl (by decide) rfl ?_
    refine ev_goto (tgt := 112) (dMo_lay.at 79 rfl) rfl ?_
    exact (k3 c1)
set_option maxHeartbeats 4000000 in
theorem bMo_judged_0 {d : Nat} {w : sx_W} {Q : sx_Q} {x1 : Int32} {x2 : Int32} {x3 : Int32} {f1 : Int32} {f2 : Int32} {f3 : Int32}
    (m1 : sx_de d rMo_isSheet [.int x1] w f1 0 w)
    (k1 : (f1 = 0) → Q (-1 : Int32) 0 w)
    (m2 : (¬ f1 = 0) → sx_de d rMo_isLane [.int x2] w f2 0 w)
    (m3 : (¬ f1 = 0) → (¬ f2 = 0) → sx_de d rMo_why [.ref 48, .int x1, .int x2, .int x3, .int (w.1 48 0)] w f3 0 w)
    (k2 : (¬ f1 = 0) → (¬ f2 = 0) → (0 ≤ f3) → sx_ev (d + 1) rMo_judged 40 [.ref 48, .int x1, .null, .int x3, .null, .int (0 : Int32), .null, .null] [] w Q)
    (k3 : (¬ f1 = 0) → (¬ f2 = 0) → (¬ 0 ≤ f3) → Q f3 0 w)
    (k4 : (¬ f1 = 0) → (f2 = 0) → Q (-1 : Int32) 0 w) :
    sx_ev (d + 1) rMo_judged 0 [.ref 48, .int x1, .int x2, .int x3, .null, .null, .null, .null] [] w Q := by
  refine ev_iload_n (dMo_judged.at 0 rfl) rfl ?_
  refine ev_cSi (dMo_judged.at 1 rfl) (As := [.int x1]) (own := 8) rfl ckMo_212 (Or.inr rfl) rfl (Nat.le_of_ble_eq_true rfl) rfl m1 ?_
  refine ev_if_eq (tgt := 14) (dMo_judged.at 2 rfl) rfl (fun c1 => ?_) (fun c1 => ?_)
  · refine ev_iconst (dMo_judged.at 6 rfl) kI_m1 ?_
    exact ev_iret (dMo_judged.at 7 rfl) rfl (k1 c1)
  · refine ev_iload_n (dMo_judged.at 3 rfl) rfl ?_
    refine ev_cSi (dMo_judged.at 4 rfl) (As := [.int x2]) (own := 8) rfl ckMo_215 (Or.inr rfl) rfl (Nat.le_of_ble_eq_true rfl) rfl (m2 c1) ?_
    refine ev_if_ne (tgt := 16) (dMo_judged.at 5 rfl) rfl (fun c2 => ?_) (fun c2 => ?_)
    · refine ev_aload_n (dMo_judged.at 8 rfl) rfl ?_
      refine ev_iload_n (dMo_judged.at 9 rfl) rfl ?_
      refine ev_iload_n (dMo_judged.at 10 rfl) rfl ?_
      refine ev_iload_n (dMo_judged.at 11 rfl) rfl ?_
      refine ev_aload_n (dMo_judged.at 12 rfl) rfl ?_
      refine ev_get (dMo_judged.at 13 rfl) (own := 8) rfl fkMo_66 rfl rfl ?_
      refine ev_cVi (dMo_judged.at 14 rfl) (As := [.int x1, .int x2, .int x3, .int (w.1 48 0)]) (own := 8) rfl ckMo_218 rfl (Or.inl rfl) rfl (Nat.le_of_ble_eq_true rfl) rfl (m3 c1 c2) ?_
      refine ev_istore (dMo_judged.at 15 rfl) (by decide) rfl ?_
      refine ev_iload (dMo_judged.at 16 rfl) rfl ?_
      refine ev_if_ge (tgt := 37) (dMo_judged.at 17 rfl) rfl (fun c3 => ?_) (fun c3 => ?_)
      · refine ev_iconst (dMo_judged.at 20 rfl) kI_0 ?_
        refine ev_istore (dMo_judged.at 21 rfl) (by decide) rfl ?_
        refine ev_kp [true, true, false, true, false, true, false, false] rfl ?_
        exact (k2 c1 c2 c3)
      · refine ev_iload (dMo_judged.at 18 rfl) rfl ?_
        exact ev_iret (dMo_judged.at 19 rfl) rfl (k3 c1 c2 c3)
    · refine ev_iconst (dMo_judged.at 6 rfl) kI_m1 ?_
      exact ev_iret (dMo_judged.at 7 rfl) rfl (k4 c1 c2)
set_option maxHeartbeats 4000000 in
theorem bMo_judged_40 {d : Nat} {w : sx_W} {Q : sx_Q} {x1 : Int32} {x3 : Int32} {x5 : Int32} {f1 : Int32} {f2 : Int32} {f3 : Int32} {f4 : Int32} {f5 : Int32}
    (k1 : ((w.1 48 0) ≤ x5) → Q (-4 : Int32) 0 w)
    (o1 : (¬ (w.1 48 0) ≤ x5) → vp_in ((((16 : Int32) * x1) + x3) + x5) 64)
    (m1 : (¬ (w.1 48 0) ≤ x5) → sx_de d rMo_isPart [.long (w.2 63 ((((16 : Int32) * x1) + x3) + x5).toNatClampNeg)] w f1 0 w)
    (o2 : (¬ (w.1 48 0) ≤ x5) → (f1 = 0) → vp_in x5 7)
    (m2 : (¬ (w.1 48 0) ≤ x5) → (f1 = 0) → sx_de d rMo_isPart [.long (w.2 63 ((((16 : Int32) * x1) + x3) + x5).toNatClampNeg)] ((sx_u w.1 53 x5.toNatClampNeg (0 : Int32)), w.2) f2 0 ((sx_u w.1 53 x5.toNatClampNeg (0 : Int32)), w.2))
    (k2 : (¬ (w.1 48 0) ≤ x5) → (f1 = 0) → (f2 = 0) → Q x5 0 ((sx_u w.1 53 x5.toNatClampNeg (0 : Int32)), w.2))
    (m3 : (¬ (w.1 48 0) ≤ x5) → (f1 = 0) → (¬ f2 = 0) → sx_de d rMo_fits [.ref 48, .ref 53, .int x5] ((sx_u w.1 53 x5.toNatClampNeg (0 : Int32)), w.2) f3 0 ((sx_u w.1 53 x5.toNatClampNeg (0 : Int32)), w.2))
    (k3 : (¬ (w.1 48 0) ≤ x5) → (f1 = 0) → (¬ f2 = 0) → (¬ f3 = 0) → sx_ev (d + 1) rMo_judged 40 [.ref 48, .int x1, .null, .int x3, .null, .int (x5 + (1 : Int32)), .null, .null] [] ((sx_u w.1 53 x5.toNatClampNeg (0 : Int32)), w.2) Q)
    (k4 : (¬ (w.1 48 0) ≤ x5) → (f1 = 0) → (¬ f2 = 0) → (f3 = 0) → Q x5 0 ((sx_u w.1 53 x5.toNatClampNeg (0 : Int32)), w.2))
    (o3 : (¬ (w.1 48 0) ≤ x5) → (¬ f1 = 0) → vp_in x5 7)
    (m4 : (¬ (w.1 48 0) ≤ x5) → (¬ f1 = 0) → sx_de d rMo_isPart [.long (w.2 63 ((((16 : Int32) * x1) + x3) + x5).toNatClampNeg)] ((sx_u w.1 53 x5.toNatClampNeg (w.2 63 ((((16 : Int32) * x1) + x3) + x5).toNatClampNeg).toInt32), w.2) f4 0 ((sx_u w.1 53 x5.toNatClampNeg (w.2 63 ((((16 : Int32) * x1) + x3) + x5).toNatClampNeg).toInt32), w.2))
    (k5 : (¬ (w.1 48 0) ≤ x5) → (¬ f1 = 0) → (f4 = 0) → Q x5 0 ((sx_u w.1 53 x5.toNatClampNeg (w.2 63 ((((16 : Int32) * x1) + x3) + x5).toNatClampNeg).toInt32), w.2))
    (m5 : (¬ (w.1 48 0) ≤ x5) → (¬ f1 = 0) → (¬ f4 = 0) → sx_de d rMo_fits [.ref 48, .ref 53, .int x5] ((sx_u w.1 53 x5.toNatClampNeg (w.2 63 ((((16 : Int32) * x1) + x3) + x5).toNatClampNeg).toInt32), w.2) f5 0 ((sx_u w.1 53 x5.toNatClampNeg (w.2 63 ((((16 : Int32) * x1) + x3) + x5).toNatClampNeg).toInt32), w.2))
    (k6 : (¬ (w.1 48 0) ≤ x5) → (¬ f1 = 0) → (¬ f4 = 0) → (¬ f5 = 0) → sx_ev (d + 1) rMo_judged 40 [.ref 48, .int x1, .null, .int x3, .null, .int (x5 + (1 : Int32)), .null, .null] [] ((sx_u w.1 53 x5.toNatClampNeg (w.2 63 ((((16 : Int32) * x1) + x3) + x5).toNatClampNeg).toInt32), w.2) Q)
    (k7 : (¬ (w.1 48 0) ≤ x5) → (¬ f1 = 0) → (¬ f4 = 0) → (f5 = 0) → Q x5 0 ((sx_u w.1 53 x5.toNatClampNeg (w.2 63 ((((16 : Int32) * x1) + x3) + x5).toNatClampNeg).toInt32), w.2)) :
    sx_ev (d + 1) rMo_judged 40 [.ref 48, .int x1, .null, .int x3, .null, .int x5, .null, .null] [] w Q := by
  refine ev_iload (dMo_judged.at 22 rfl) rfl ?_
  refine ev_aload_n (dMo_judged.at 23 rfl) rfl ?_
  refine ev_get (dMo_judged.at 24 rfl) (own := 8) rfl fkMo_66 rfl rfl ?_
  refine ev_icmp_ge (tgt := 117) (dMo_judged.at 25 rfl) rfl (fun c1 => ?_) (fun c1 => ?_)
  · refine ev_bipush (dMo_judged.at 61 rfl) kB_m4 ?_
    exact ev_iret (dMo_judged.at 62 rfl) rfl (k1 c1)
  · refine ev_aload_n (dMo_judged.at 26 rfl) rfl ?_
    refine ev_getr (dMo_judged.at 27 rfl) (own := 8) rfl fkMo_52 rfl rfl ?_
    refine ev_bipush (dMo_judged.at 28 rfl) kB_16 ?_
    refine ev_iload_n (dMo_judged.at 29 rfl) rfl ?_
    refine ev_imul (dMo_judged.at 30 rfl) ?_
    refine ev_iload_n (dMo_judged.at 31 rfl) rfl ?_
    refine ev_iadd (dMo_judged.at 32 rfl) ?_
    refine ev_iload (dMo_judged.at 33 rfl) rfl ?_
    refine ev_iadd (dMo_judged.at 34 rfl) ?_
    refine ev_laload (dMo_judged.at 35 rfl) rfl (o1 c1) ?_
    refine ev_lstore (dMo_judged.at 36 rfl) (by decide) rfl ?_
    refine ev_aload_n (dMo_judged.at 37 rfl) rfl ?_
    refine ev_getr (dMo_judged.at 38 rfl) (own := 8) rfl fkMo_22 rfl rfl ?_
    refine ev_iload (dMo_judged.at 39 rfl) rfl ?_
    refine ev_lload (dMo_judged.at 40 rfl) rfl ?_
    refine ev_cSi (dMo_judged.at 41 rfl) (As := [.long (w.2 63 ((((16 : Int32) * x1) + x3) + x5).toNatClampNeg)]) (own := 8) rfl ckMo_105 (Or.inr rfl) rfl (Nat.le_of_ble_eq_true rfl) rfl (m1 c1) ?_
    refine ev_if_eq (tgt := 85) (dMo_judged.at 42 rfl) rfl (fun c2 => ?_) (fun c2 => ?_)
    · refine ev_iconst (dMo_judged.at 46 rfl) kI_0 ?_
      refine ev_iastore (dMo_judged.at 47 rfl) rfl (o2 c1 c2) ?_
      refine ev_lload (dMo_judged.at 48 rfl) rfl ?_
      refine ev_cSi (dMo_judged.at 49 rfl) (As := [.long (w.2 63 ((((16 : Int32) * x1) + x3) + x5).toNatClampNeg)]) (own := 8) rfl ckMo_105 (Or.inr rfl) rfl (Nat.le_of_ble_eq_true rfl) rfl (m2 c1 c2) ?_
      refine ev_if_eq (tgt := 108) (dMo_judged.at 50 rfl) rfl (fun c3 => ?_) (fun c3 => ?_)
      · refine ev_iload (dMo_judged.at 57 rfl) rfl ?_
        exact ev_iret (dMo_judged.at 58 rfl) rfl (k2 c1 c2 c3)
      · refine ev_aload_n (dMo_judged.at 51 rfl) rfl ?_
        refine ev_aload_n (dMo_judged.at 52 rfl) rfl ?_
        refine ev_getr (dMo_judged.at 53 rfl) (own := 8) rfl fkMo_22 rfl rfl ?_
        refine ev_iload (dMo_judged.at 54 rfl) rfl ?_
        refine ev_cVi (dMo_judged.at 55 rfl) (As := [.ref 53, .int x5]) (own := 8) rfl ckMo_111 rfl (Or.inr rfl) rfl (Nat.le_of_ble_eq_true rfl) rfl (m3 c1 c2 c3) ?_
        refine ev_if_ne (tgt := 111) (dMo_judged.at 56 rfl) rfl (fun c4 => ?_) (fun c4 => ?_)
        · refine ev_iinc (dMo_judged.at 59 rfl) kI_1 rfl (by decide) rfl ?_
          refine ev_goto (tgt := 40) (dMo_judged.at 60 rfl) rfl ?_
          refine ev_kp [true, true, false, true, false, true, false, false] rfl ?_
          exact (k3 c1 c2 c3 c4)
        · refine ev_iload (dMo_judged.at 57 rfl) rfl ?_
          exact ev_iret (dMo_judged.at 58 rfl) rfl (k4 c1 c2 c3 c4)
    · refine ev_lload (dMo_judged.at 43 rfl) rfl ?_
      refine ev_l2i (dMo_judged.at 44 rfl) ?_
      refine ev_goto (tgt := 86) (dMo_judged.at 45 rfl) rfl ?_
      refine ev_iastore (dMo_judged.at 47 rfl) rfl (o3 c1 c2) ?_
      refine ev_lload (dMo_judged.at 48 rfl) rfl ?_
      refine ev_cSi (dMo_judged.at 49 rfl) (As := [.long (w.2 63 ((((16 : Int32) * x1) + x3) + x5).toNatClampNeg)]) (own := 8) rfl ckMo_105 (Or.inr rfl) rfl (Nat.le_of_ble_eq_true rfl) rfl (m4 c1 c2) ?_
      refine ev_if_eq (tgt := 108) (dMo_judged.at 50 rfl) rfl (fun c5 => ?_) (fun c5 => ?_)
      · refine ev_iload (dMo_judged.at 57 rfl) rfl ?_
        exact ev_iret (dMo_judged.at 58 rfl) rfl (k5 c1 c2 c5)
      · refine ev_aload_n (dMo_judged.at 51 rfl) rfl ?_
        refine ev_aload_n (dMo_judged.at 52 rfl) rfl ?_
        refine ev_getr (dMo_judged.at 53 rfl) (own := 8) rfl fkMo_22 rfl rfl ?_
        refine ev_iload (dMo_judged.at 54 rfl) rfl ?_
        refine ev_cVi (dMo_judged.at 55 rfl) (As := [.ref 53, .int x5]) (own := 8) rfl ckMo_111 rfl (Or.inr rfl) rfl (Nat.le_of_ble_eq_true rfl) rfl (m5 c1 c2 c5) ?_
        refine ev_if_ne (tgt := 111) (dMo_judged.at 56 rfl) rfl (fun c6 => ?_) (fun c6 => ?_)
        · refine ev_iinc (dMo_judged.at 59 rfl) kI_1 rfl (by decide) rfl ?_
          refine ev_goto (tgt := 40) (dMo_judged.at 60 rfl) rfl ?_
          refine ev_kp [true, true, false, true, false, true, false, false] rfl ?_
          exact (k6 c1 c2 c5 c6)
        · refine ev_iload (dMo_judged.at 57 rfl) rfl ?_
          exact ev_iret (dMo_judged.at 58 rfl) rfl (k7 c1 c2 c5 c6)
set_option maxHeartbeats 4000000 in
theorem bMo_clears_0 {d : Nat} {w : sx_W} {Q : sx_Q} {x1 : Int32} {x2 : Int32} {x3 : Int32} {f1 : Int32} {f2 : Int32} {f3 : Int32}
    (m1 : sx_de d rMo_isSheet [.int x1] w f1 0 w)
    (k1 : (f1 = 0) → Q (-1 : Int32) 0 w)
    (m2 : (¬ f1 = 0) → sx_de d rMo_isLane [.int x2] w f2 0 w)
    (m3 : (¬ f1 = 0) → (¬ f2 = 0) → sx_de d rMo_why [.ref 48, .int x1, .int x2, .int x3, .int (8 : Int32)] w f3 0 w)
    (k2 : (¬ f1 = 0) → (¬ f2 = 0) → (0 ≤ f3) → sx_ev (d + 1) rMo_clears 41 [.ref 48, .int x1, .null, .int x3, .null, .int (1 : Int32), .int (0 : Int32)] [] w Q)
    (k3 : (¬ f1 = 0) → (¬ f2 = 0) → (¬ 0 ≤ f3) → Q f3 0 w)
    (k4 : (¬ f1 = 0) → (f2 = 0) → Q (-1 : Int32) 0 w) :
    sx_ev (d + 1) rMo_clears 0 [.ref 48, .int x1, .int x2, .int x3, .null, .null, .null] [] w Q := by
  refine ev_iload_n (dMo_clears.at 0 rfl) rfl ?_
  refine ev_cSi (dMo_clears.at 1 rfl) (As := [.int x1]) (own := 8) rfl ckMo_212 (Or.inr rfl) rfl (Nat.le_of_ble_eq_true rfl) rfl m1 ?_
  refine ev_if_eq (tgt := 14) (dMo_clears.at 2 rfl) rfl (fun c1 => ?_) (fun c1 => ?_)
  · refine ev_iconst (dMo_clears.at 6 rfl) kI_m1 ?_
    exact ev_iret (dMo_clears.at 7 rfl) rfl (k1 c1)
  · refine ev_iload_n (dMo_clears.at 3 rfl) rfl ?_
    refine ev_cSi (dMo_clears.at 4 rfl) (As := [.int x2]) (own := 8) rfl ckMo_215 (Or.inr rfl) rfl (Nat.le_of_ble_eq_true rfl) rfl (m2 c1) ?_
    refine ev_if_ne (tgt := 16) (dMo_clears.at 5 rfl) rfl (fun c2 => ?_) (fun c2 => ?_)
    · refine ev_aload_n (dMo_clears.at 8 rfl) rfl ?_
      refine ev_iload_n (dMo_clears.at 9 rfl) rfl ?_
      refine ev_iload_n (dMo_clears.at 10 rfl) rfl ?_
      refine ev_iload_n (dMo_clears.at 11 rfl) rfl ?_
      refine ev_bipush (dMo_clears.at 12 rfl) kB_8 ?_
      refine ev_cVi (dMo_clears.at 13 rfl) (As := [.int x1, .int x2, .int x3, .int (8 : Int32)]) (own := 8) rfl ckMo_218 rfl (Or.inl rfl) rfl (Nat.le_of_ble_eq_true rfl) rfl (m3 c1 c2) ?_
      refine ev_istore (dMo_clears.at 14 rfl) (by decide) rfl ?_
      refine ev_iload (dMo_clears.at 15 rfl) rfl ?_
      refine ev_if_ge (tgt := 35) (dMo_clears.at 16 rfl) rfl (fun c3 => ?_) (fun c3 => ?_)
      · refine ev_iconst (dMo_clears.at 19 rfl) kI_1 ?_
        refine ev_istore (dMo_clears.at 20 rfl) (by decide) rfl ?_
        refine ev_iconst (dMo_clears.at 21 rfl) kI_0 ?_
        refine ev_istore (dMo_clears.at 22 rfl) (by decide) rfl ?_
        refine ev_kp [true, true, false, true, false, true, true] rfl ?_
        exact (k2 c1 c2 c3)
      · refine ev_iload (dMo_clears.at 17 rfl) rfl ?_
        exact ev_iret (dMo_clears.at 18 rfl) rfl (k3 c1 c2 c3)
    · refine ev_iconst (dMo_clears.at 6 rfl) kI_m1 ?_
      exact ev_iret (dMo_clears.at 7 rfl) rfl (k4 c1 c2)
set_option maxHeartbeats 4000000 in
theorem bMo_clears_41 {d : Nat} {w : sx_W} {Q : sx_Q} {x1 : Int32} {x3 : Int32} {x5 : Int32} {x6 : Int32} {f1 : Int32}
    (k1 : ((8 : Int32) ≤ x6) → sx_ev (d + 1) rMo_clears 124 [.ref 48, .null, .null, .null, .null, .int x5, .int (0 : Int32)] [] w Q)
    (o1 : (¬ (8 : Int32) ≤ x6) → (x5 = 0) → vp_in x6 8)
    (k2 : (¬ (8 : Int32) ≤ x6) → (x5 = 0) → sx_ev (d + 1) rMo_clears 41 [.ref 48, .int x1, .null, .int x3, .null, .int (0 : Int32), .int (x6 + (1 : Int32))] [] ((sx_u w.1 54 x6.toNatClampNeg (0 : Int32)), w.2) Q)
    (o2 : (¬ (8 : Int32) ≤ x6) → (¬ x5 = 0) → vp_in ((((16 : Int32) * x1) + x3) + x6) 64)
    (m1 : (¬ (8 : Int32) ≤ x6) → (¬ x5 = 0) → sx_de d rMo_in [.long (w.2 63 ((((16 : Int32) * x1) + x3) + x6).toNatClampNeg), .long (0 : Int64), .long (lN 2)] w f1 0 w)
    (o3 : (¬ (8 : Int32) ≤ x6) → (¬ x5 = 0) → (f1 = 0) → vp_in x6 8)
    (k3 : (¬ (8 : Int32) ≤ x6) → (¬ x5 = 0) → (f1 = 0) → sx_ev (d + 1) rMo_clears 41 [.ref 48, .int x1, .null, .int x3, .null, .int (0 : Int32), .int (x6 + (1 : Int32))] [] ((sx_u w.1 54 x6.toNatClampNeg (0 : Int32)), w.2) Q)
    (o4 : (¬ (8 : Int32) ≤ x6) → (¬ x5 = 0) → (¬ f1 = 0) → vp_in x6 8)
    (k4 : (¬ (8 : Int32) ≤ x6) → (¬ x5 = 0) → (¬ f1 = 0) → sx_ev (d + 1) rMo_clears 41 [.ref 48, .int x1, .null, .int x3, .null, .int (1 : Int32), .int (x6 + (1 : Int32))] [] ((sx_u w.1 54 x6.toNatClampNeg (w.2 63 ((((16 : Int32) * x1) + x3) + x6).toNatClampNeg).toInt32), w.2) Q) :
    sx_ev (d + 1) rMo_clears 41 [.ref 48, .int x1, .null, .int x3, .null, .int x5, .int x6] [] w Q := by
  refine ev_iload (dMo_clears.at 23 rfl) rfl ?_
  refine ev_bipush (dMo_clears.at 24 rfl) kB_8 ?_
  refine ev_icmp_ge (tgt := 121) (dMo_clears.at 25 rfl) rfl (fun c1 => ?_) (fun c1 => ?_)
  · refine ev_iconst (dMo_clears.at 67 rfl) kI_0 ?_
    refine ev_istore (dMo_clears.at 68 rfl) (by decide) rfl ?_
    refine ev_kp [true, false, false, false, false, true, true] rfl ?_
    exact (k1 c1)
  · refine ev_iload (dMo_clears.at 26 rfl) rfl ?_
    refine ev_if_eq (tgt := 81) (dMo_clears.at 27 rfl) rfl (fun c2 => ?_) (fun c2 => ?_)
    · refine ev_iconst (dMo_clears.at 44 rfl) kI_0 ?_
      refine ev_istore (dMo_clears.at 45 rfl) (by decide) rfl ?_
      refine ev_aload_n (dMo_clears.at 46 rfl) rfl ?_
      refine ev_getr (dMo_clears.at 47 rfl) (own := 8) rfl fkMo_25 rfl rfl ?_
      refine ev_iload (dMo_clears.at 48 rfl) rfl ?_
      refine ev_iload (dMo_clears.at 49 rfl) rfl ?_
      refine ev_if_eq (tgt := 113) (dMo_clears.at 50 rfl) rfl (fun _ => ?_) (fun h => absurd h (by decide))
      refine ev_iconst (dMo_clears.at 63 rfl) kI_0 ?_
      refine ev_iastore (dMo_clears.at 64 rfl) rfl (o1 c1 c2) ?_
      refine ev_iinc (dMo_clears.at 65 rfl) kI_1 rfl (by decide) rfl ?_
      refine ev_goto (tgt := 41) (dMo_clears.at 66 rfl) rfl ?_
      exact (k2 c1 c2)
    · refine ev_aload_n (dMo_clears.at 28 rfl) rfl ?_
      refine ev_getr (dMo_clears.at 29 rfl) (own := 8) rfl fkMo_52 rfl rfl ?_
      refine ev_bipush (dMo_clears.at 30 rfl) kB_16 ?_
      refine ev_iload_n (dMo_clears.at 31 rfl) rfl ?_
      refine ev_imul (dMo_clears.at 32 rfl) ?_
      refine ev_iload_n (dMo_clears.at 33 rfl) rfl ?_
      refine ev_iadd (dMo_clears.at 34 rfl) ?_
      refine ev_iload (dMo_clears.at 35 rfl) rfl ?_
      refine ev_iadd (dMo_clears.at 36 rfl) ?_
      refine ev_laload (dMo_clears.at 37 rfl) rfl (o2 c1 c2) ?_
      refine ev_lconst (dMo_clears.at 38 rfl) rfl ?_
      refine ev_ldc2 (dMo_clears.at 39 rfl) (own := 8) rfl (List.mem_of_getElem? (i := 12) rfl) ?_
      refine ev_cSi (dMo_clears.at 40 rfl) (As := [.long (w.2 63 ((((16 : Int32) * x1) + x3) + x6).toNatClampNeg), .long (0 : Int64), .long (lN 2)]) (own := 8) rfl ckMo_69 (Or.inr rfl) rfl (Nat.le_of_ble_eq_true rfl) rfl (m1 c1 c2) ?_
      refine ev_if_eq (tgt := 81) (dMo_clears.at 41 rfl) rfl (fun c3 => ?_) (fun c3 => ?_)
      · refine ev_iconst (dMo_clears.at 44 rfl) kI_0 ?_
        refine ev_istore (dMo_clears.at 45 rfl) (by decide) rfl ?_
        refine ev_aload_n (dMo_clears.at 46 rfl) rfl ?_
        refine ev_getr (dMo_clears.at 47 rfl) (own := 8) rfl fkMo_25 rfl rfl ?_
        refine ev_iload (dMo_clears.at 48 rfl) rfl ?_
        refine ev_iload (dMo_clears.at 49 rfl) rfl ?_
        refine ev_if_eq (tgt := 113) (dMo_clears.at 50 rfl) rfl (fun _ => ?_) (fun h => absurd h (by decide))
        refine ev_iconst (dMo_clears.at 63 rfl) kI_0 ?_
        refine ev_iastore (dMo_clears.at 64 rfl) rfl (o3 c1 c2 c3) ?_
        refine ev_iinc (dMo_clears.at 65 rfl) kI_1 rfl (by decide) rfl ?_
        refine ev_goto (tgt := 41) (dMo_clears.at 66 rfl) rfl ?_
        exact (k3 c1 c2 c3)
      · refine ev_iconst (dMo_clears.at 42 rfl) kI_1 ?_
        refine ev_goto (tgt := 82) (dMo_clears.at 43 rfl) rfl ?_
        refine ev_istore (dMo_clears.at 45 rfl) (by decide) rfl ?_
        refine ev_aload_n (dMo_clears.at 46 rfl) rfl ?_
        refine ev_getr (dMo_clears.at 47 rfl) (own := 8) rfl fkMo_25 rfl rfl ?_
        refine ev_iload (dMo_clears.at 48 rfl) rfl ?_
        refine ev_iload (dMo_clears.at 49 rfl) rfl ?_
        refine ev_if_eq (tgt := 113) (dMo_clears.at 50 rfl) rfl (fun h => absurd h (by decide)) (fun _ => ?_)
        refine ev_aload_n (dMo_clears.at 51 rfl) rfl ?_
        refine ev_getr (dMo_clears.at 52 rfl) (own := 8) rfl fkMo_52 rfl rfl ?_
        refine ev_bipush (dMo_clears.at 53 rfl) kB_16 ?_
        refine ev_iload_n (dMo_clears.at 54 rfl) rfl ?_
        refine ev_imul (dMo_clears.at 55 rfl) ?_
        refine ev_iload_n (dMo_clears.at 56 rfl) rfl ?_
        refine ev_iadd (dMo_clears.at 57 rfl) ?_
        refine ev_iload (dMo_clears.at 58 rfl) rfl ?_
        refine ev_iadd (dMo_clears.at 59 rfl) ?_
        refine ev_laload (dMo_clears.at 60 rfl) rfl (o2 c1 c2) ?_
        refine ev_l2i (dMo_clears.at 61 rfl) ?_
        refine ev_goto (tgt := 114) (dMo_clears.at 62 rfl) rfl ?_
        refine ev_iastore (dMo_clears.at 64 rfl) rfl (o4 c1 c2 c3) ?_
        refine ev_iinc (dMo_clears.at 65 rfl) kI_1 rfl (by decide) rfl ?_
        refine ev_goto (tgt := 41) (dMo_clears.at 66 rfl) rfl ?_
        exact (k4 c1 c2 c3)
set_option maxHeartbeats 4000000 in
theorem bMo_clears_124 {d : Nat} {w : sx_W} {Q : sx_Q} {x5 : Int32} {x6 : Int32} {f1 : Int32} {w1 : sx_W} {f2 : Int32}
    (m1 : ((w.1 48 0) ≤ x6) → (¬ x5 = 0) → sx_de d rMo_clear [.ref 48] w f1 0 w1)
    (k1 : ((w.1 48 0) ≤ x6) → (¬ x5 = 0) → (f1 = 0) → Q (0 : Int32) 0 w1)
    (k2 : ((w.1 48 0) ≤ x6) → (¬ x5 = 0) → (¬ f1 = 0) → Q (1 : Int32) 0 w1)
    (k3 : ((w.1 48 0) ≤ x6) → (x5 = 0) → Q (-2 : Int32) 0 w)
    (k4 : (¬ (w.1 48 0) ≤ x6) → (x5 = 0) → sx_ev (d + 1) rMo_clears 124 [.ref 48, .null, .null, .null, .null, .int (0 : Int32), .int (x6 + (1 : Int32))] [] w Q)
    (m2 : (¬ (w.1 48 0) ≤ x6) → (¬ x5 = 0) → sx_de d rMo_mays [.ref 48, .int x6] w f2 0 w)
    (k5 : (¬ (w.1 48 0) ≤ x6) → (¬ x5 = 0) → (f2 = 0) → sx_ev (d + 1) rMo_clears 124 [.ref 48, .null, .null, .null, .null, .int (0 : Int32), .int (x6 + (1 : Int32))] [] w Q)
    (k6 : (¬ (w.1 48 0) ≤ x6) → (¬ x5 = 0) → (¬ f2 = 0) → sx_ev (d + 1) rMo_clears 124 [.ref 48, .null, .null, .null, .null, .int (1 : Int32), .int (x6 + (1 : Int32))] [] w Q) :
    sx_ev (d + 1) rMo_clears 124 [.ref 48, .null, .null, .null, .null, .int x5, .int x6] [] w Q := by
  refine ev_iload (dMo_clears.at 69 rfl) rfl ?_
  refine ev_aload_n (dMo_clears.at 70 rfl) rfl ?_
  refine ev_get (dMo_clears.at 71 rfl) (own := 8) rfl fkMo_66 rfl rfl ?_
  refine ev_icmp_ge (tgt := 160) (dMo_clears.at 72 rfl) rfl (fun c1 => ?_) (fun c1 => ?_)
  · refine ev_iload (dMo_clears.at 85 rfl) rfl ?_
    refine ev_if_ne (tgt := 170) (dMo_clears.at 86 rfl) rfl (fun c2 => ?_) (fun c2 => ?_)
    · refine ev_aload_n (dMo_clears.at 89 rfl) rfl ?_
      refine ev_cVi (dMo_clears.at 90 rfl) (As := []) (own := 8) rfl ckMo_138 rfl (Or.inr rfl) rfl (Nat.le_of_ble_eq_true rfl) rfl (m1 c1 c2) ?_
      refine ev_if_eq (tgt := 181) (dMo_clears.at 91 rfl) rfl (fun c3 => ?_) (fun c3 => ?_)
      · refine ev_iconst (dMo_clears.at 94 rfl) kI_0 ?_
        exact ev_iret (dMo_clears.at 95 rfl) rfl (k1 c1 c2 c3)
      · refine ev_iconst (dMo_clears.at 92 rfl) kI_1 ?_
        refine ev_goto (tgt := 182) (dMo_clears.at 93 rfl) rfl ?_
        exact ev_iret (dMo_clears.at 95 rfl) rfl (k2 c1 c2 c3)
    · refine ev_bipush (dMo_clears.at 87 rfl) kB_m2 ?_
      refine ev_goto (tgt := 182) (dMo_clears.at 88 rfl) rfl ?_
      exact ev_iret (dMo_clears.at 95 rfl) rfl (k3 c1 c2)
  · refine ev_iload (dMo_clears.at 73 rfl) rfl ?_
    refine ev_if_eq (tgt := 151) (dMo_clears.at 74 rfl) rfl (fun c4 => ?_) (fun c4 => ?_)
    · refine ev_iconst (dMo_clears.at 81 rfl) kI_0 ?_
      refine ev_istore (dMo_clears.at 82 rfl) (by decide) rfl ?_
      refine ev_iinc (dMo_clears.at 83 rfl) kI_1 rfl (by decide) rfl ?_
      refine ev_goto (tgt := 124) (dMo_clears.at 84 rfl) rfl ?_
      exact (k4 c1 c4)
    · refine ev_aload_n (dMo_clears.at 75 rfl) rfl ?_
      refine ev_iload (dMo_clears.at 76 rfl) rfl ?_
      refine ev_cVi (dMo_clears.at 77 rfl) (As := [.int x6]) (own := 8) rfl ckMo_101 rfl (Or.inl rfl) rfl (Nat.le_of_ble_eq_true rfl) rfl (m2 c1 c4) ?_
      refine ev_if_eq (tgt := 151) (dMo_clears.at 78 rfl) rfl (fun c5 => ?_) (fun c5 => ?_)
      · refine ev_iconst (dMo_clears.at 81 rfl) kI_0 ?_
        refine ev_istore (dMo_clears.at 82 rfl) (by decide) rfl ?_
        refine ev_iinc (dMo_clears.at 83 rfl) kI_1 rfl (by decide) rfl ?_
        refine ev_goto (tgt := 124) (dMo_clears.at 84 rfl) rfl ?_
        exact (k5 c1 c4 c5)
      · refine ev_iconst (dMo_clears.at 79 rfl) kI_1 ?_
        refine ev_goto (tgt := 152) (dMo_clears.at 80 rfl) rfl ?_
        refine ev_istore (dMo_clears.at 82 rfl) (by decide) rfl ?_
        refine ev_iinc (dMo_clears.at 83 rfl) kI_1 rfl (by decide) rfl ?_
        refine ev_goto (tgt := 124) (dMo_clears.at 84 rfl) rfl ?_
        exact (k6 c1 c4 c5)
set_option maxHeartbeats 4000000 in
theorem bMo_puts_0 {d : Nat} {w : sx_W} {Q : sx_Q} {x1 : Int32} {x2 : Int32} {y3 : Int64}
    (o1 : vp_in x1 4)
    (o2 : (¬ (w.1 61 x1.toNatClampNeg) = 0) → (¬ (w.1 61 x1.toNatClampNeg) = (1 : Int32)) → vp_in (((16 : Int32) * x1) + x2) 64)
    (k1 : (¬ (w.1 61 x1.toNatClampNeg) = 0) → (¬ (w.1 61 x1.toNatClampNeg) = (1 : Int32)) → Q 0 0 (w.1, (sx_ul w.2 63 (((16 : Int32) * x1) + x2).toNatClampNeg y3)))
    (o3 : (¬ (w.1 61 x1.toNatClampNeg) = 0) → ((w.1 61 x1.toNatClampNeg) = (1 : Int32)) → vp_in (((16 : Int32) * x1) + x2) 64)
    (k2 : (¬ (w.1 61 x1.toNatClampNeg) = 0) → ((w.1 61 x1.toNatClampNeg) = (1 : Int32)) → Q 0 0 (w.1, (sx_ul w.2 63 (((16 : Int32) * x1) + x2).toNatClampNeg (y3.toInt32).toInt64)))
    (o4 : ((w.1 61 x1.toNatClampNeg) = 0) → vp_in (((16 : Int32) * x1) + x2) 64)
    (k3 : ((w.1 61 x1.toNatClampNeg) = 0) → Q 0 0 (w.1, (sx_ul w.2 63 (((16 : Int32) * x1) + x2).toNatClampNeg (y3.toInt32.toInt8.toInt32).toInt64))) :
    sx_ev d rMo_puts 0 [.ref 48, .int x1, .int x2, .long y3, .null, .null] [] w Q := by
  refine ev_aload_n (dMo_puts.at 0 rfl) rfl ?_
  refine ev_getr (dMo_puts.at 1 rfl) (own := 8) rfl fkMo_46 rfl rfl ?_
  refine ev_iload_n (dMo_puts.at 2 rfl) rfl ?_
  refine ev_iaload (dMo_puts.at 3 rfl) rfl o1 ?_
  refine ev_istore (dMo_puts.at 4 rfl) (by decide) rfl ?_
  refine ev_aload_n (dMo_puts.at 5 rfl) rfl ?_
  refine ev_getr (dMo_puts.at 6 rfl) (own := 8) rfl fkMo_52 rfl rfl ?_
  refine ev_bipush (dMo_puts.at 7 rfl) kB_16 ?_
  refine ev_iload_n (dMo_puts.at 8 rfl) rfl ?_
  refine ev_imul (dMo_puts.at 9 rfl) ?_
  refine ev_iload_n (dMo_puts.at 10 rfl) rfl ?_
  refine ev_iadd (dMo_puts.at 11 rfl) ?_
  refine ev_iload (dMo_puts.at 12 rfl) rfl ?_
  refine ev_if_ne (tgt := 30) (dMo_puts.at 13 rfl) rfl (fun c1 => ?_) (fun c1 => ?_)
  · refine ev_iload (dMo_puts.at 19 rfl) rfl ?_
    refine ev_iconst (dMo_puts.at 20 rfl) kI_1 ?_
    refine ev_icmp_ne (tgt := 42) (dMo_puts.at 21 rfl) rfl (fun c2 => ?_) (fun c2 => ?_)
    · refine ev_lload_n (dMo_puts.at 26 rfl) rfl ?_
      refine ev_lastore (dMo_puts.at 27 rfl) rfl (o2 c1 c2) ?_
      exact ev_vret (dMo_puts.at 28 rfl) rfl (k1 c1 c2)
    · refine ev_lload_n (dMo_puts.at 22 rfl) rfl ?_
      refine ev_l2i (dMo_puts.at 23 rfl) ?_
      refine ev_i2l (dMo_puts.at 24 rfl) ?_
      refine ev_goto (tgt := 43) (dMo_puts.at 25 rfl) rfl ?_
      refine ev_lastore (dMo_puts.at 27 rfl) rfl (o3 c1 c2) ?_
      exact ev_vret (dMo_puts.at 28 rfl) rfl (k2 c1 c2)
  · refine ev_lload_n (dMo_puts.at 14 rfl) rfl ?_
    refine ev_l2i (dMo_puts.at 15 rfl) ?_
    refine ev_i2b (dMo_puts.at 16 rfl) ?_
    refine ev_i2l (dMo_puts.at 17 rfl) ?_
    refine ev_goto (tgt := 43) (dMo_puts.at 18 rfl) rfl ?_
    refine ev_lastore (dMo_puts.at 27 rfl) rfl (o4 c1) ?_
    exact ev_vret (dMo_puts.at 28 rfl) rfl (k3 c1)
set_option maxHeartbeats 4000000 in
theorem bMo_film_0 {d : Nat} {w : sx_W} {Q : sx_Q} {x1 : Int32} {x2 : Int32} {x3 : Int32} {f1 : Int32} {f2 : Int32} {f3 : Int32}
    (m1 : sx_de d rMo_isSheet [.int x1] w f1 0 w)
    (k1 : (f1 = 0) → Q (-1 : Int32) 0 w)
    (m2 : (¬ f1 = 0) → sx_de d rMo_isLane [.int x2] w f2 0 w)
    (m3 : (¬ f1 = 0) → (¬ f2 = 0) → (¬ (w.1 48 5) = 0) → sx_de d rMo_why [.ref 48, .int x1, .int x2, .int x3, .int (w.1 48 0)] w f3 0 w)
    (k2 : (¬ f1 = 0) → (¬ f2 = 0) → (¬ (w.1 48 5) = 0) → (0 ≤ f3) → sx_ev (d + 1) rMo_film 50 [.ref 48, .int x1, .null, .int x3, .null, .int (0 : Int32)] [] w Q)
    (k3 : (¬ f1 = 0) → (¬ f2 = 0) → (¬ (w.1 48 5) = 0) → (¬ 0 ≤ f3) → Q f3 0 w)
    (k4 : (¬ f1 = 0) → (¬ f2 = 0) → ((w.1 48 5) = 0) → Q (-2 : Int32) 0 w)
    (k5 : (¬ f1 = 0) → (f2 = 0) → Q (-1 : Int32) 0 w) :
    sx_ev (d + 1) rMo_film 0 [.ref 48, .int x1, .int x2, .int x3, .null, .null] [] w Q := by
  refine ev_iload_n (dMo_film.at 0 rfl) rfl ?_
  refine ev_cSi (dMo_film.at 1 rfl) (As := [.int x1]) (own := 8) rfl ckMo_212 (Or.inr rfl) rfl (Nat.le_of_ble_eq_true rfl) rfl m1 ?_
  refine ev_if_eq (tgt := 14) (dMo_film.at 2 rfl) rfl (fun c1 => ?_) (fun c1 => ?_)
  · refine ev_iconst (dMo_film.at 6 rfl) kI_m1 ?_
    exact ev_iret (dMo_film.at 7 rfl) rfl (k1 c1)
  · refine ev_iload_n (dMo_film.at 3 rfl) rfl ?_
    refine ev_cSi (dMo_film.at 4 rfl) (As := [.int x2]) (own := 8) rfl ckMo_215 (Or.inr rfl) rfl (Nat.le_of_ble_eq_true rfl) rfl (m2 c1) ?_
    refine ev_if_ne (tgt := 16) (dMo_film.at 5 rfl) rfl (fun c2 => ?_) (fun c2 => ?_)
    · refine ev_aload_n (dMo_film.at 8 rfl) rfl ?_
      refine ev_get (dMo_film.at 9 rfl) (own := 8) rfl fkMo_75 rfl rfl ?_
      refine ev_if_ne (tgt := 26) (dMo_film.at 10 rfl) rfl (fun c3 => ?_) (fun c3 => ?_)
      · refine ev_aload_n (dMo_film.at 13 rfl) rfl ?_
        refine ev_iload_n (dMo_film.at 14 rfl) rfl ?_
        refine ev_iload_n (dMo_film.at 15 rfl) rfl ?_
        refine ev_iload_n (dMo_film.at 16 rfl) rfl ?_
        refine ev_aload_n (dMo_film.at 17 rfl) rfl ?_
        refine ev_get (dMo_film.at 18 rfl) (own := 8) rfl fkMo_66 rfl rfl ?_
        refine ev_cVi (dMo_film.at 19 rfl) (As := [.int x1, .int x2, .int x3, .int (w.1 48 0)]) (own := 8) rfl ckMo_218 rfl (Or.inl rfl) rfl (Nat.le_of_ble_eq_true rfl) rfl (m3 c1 c2 c3) ?_
        refine ev_istore (dMo_film.at 20 rfl) (by decide) rfl ?_
        refine ev_iload (dMo_film.at 21 rfl) rfl ?_
        refine ev_if_ge (tgt := 47) (dMo_film.at 22 rfl) rfl (fun c4 => ?_) (fun c4 => ?_)
        · refine ev_iconst (dMo_film.at 25 rfl) kI_0 ?_
          refine ev_istore (dMo_film.at 26 rfl) (by decide) rfl ?_
          refine ev_kp [true, true, false, true, false, true] rfl ?_
          exact (k2 c1 c2 c3 c4)
        · refine ev_iload (dMo_film.at 23 rfl) rfl ?_
          exact ev_iret (dMo_film.at 24 rfl) rfl (k3 c1 c2 c3 c4)
      · refine ev_bipush (dMo_film.at 11 rfl) kB_m2 ?_
        exact ev_iret (dMo_film.at 12 rfl) rfl (k4 c1 c2 c3)
    · refine ev_iconst (dMo_film.at 6 rfl) kI_m1 ?_
      exact ev_iret (dMo_film.at 7 rfl) rfl (k5 c1 c2)
set_option maxHeartbeats 4000000 in
theorem bMo_film_50 {d : Nat} {w : sx_W} {Q : sx_Q} {x1 : Int32} {x3 : Int32} {x5 : Int32} {w1 : sx_W}
    (k1 : ((w.1 48 0) ≤ x5) → Q (w.1 48 0) 0 w)
    (o1 : (¬ (w.1 48 0) ≤ x5) → vp_in x5 7)
    (m1 : (¬ (w.1 48 0) ≤ x5) → sx_de d rMo_puts [.ref 48, .int x1, .int (x3 + x5), .long (w.1 52 x5.toNatClampNeg).toInt64] w 0 0 w1)
    (k2 : (¬ (w.1 48 0) ≤ x5) → sx_ev (d + 1) rMo_film 50 [.ref 48, .int x1, .null, .int x3, .null, .int (x5 + (1 : Int32))] [] w1 Q) :
    sx_ev (d + 1) rMo_film 50 [.ref 48, .int x1, .null, .int x3, .null, .int x5] [] w Q := by
  refine ev_iload (dMo_film.at 27 rfl) rfl ?_
  refine ev_aload_n (dMo_film.at 28 rfl) rfl ?_
  refine ev_get (dMo_film.at 29 rfl) (own := 8) rfl fkMo_66 rfl rfl ?_
  refine ev_icmp_ge (tgt := 82) (dMo_film.at 30 rfl) rfl (fun c1 => ?_) (fun c1 => ?_)
  · refine ev_aload_n (dMo_film.at 44 rfl) rfl ?_
    refine ev_get (dMo_film.at 45 rfl) (own := 8) rfl fkMo_66 rfl rfl ?_
    exact ev_iret (dMo_film.at 46 rfl) rfl (k1 c1)
  · refine ev_aload_n (dMo_film.at 31 rfl) rfl ?_
    refine ev_iload_n (dMo_film.at 32 rfl) rfl ?_
    refine ev_iload_n (dMo_film.at 33 rfl) rfl ?_
    refine ev_iload (dMo_film.at 34 rfl) rfl ?_
    refine ev_iadd (dMo_film.at 35 rfl) ?_
    refine ev_aload_n (dMo_film.at 36 rfl) rfl ?_
    refine ev_getr (dMo_film.at 37 rfl) (own := 8) rfl fkMo_19 rfl rfl ?_
    refine ev_iload (dMo_film.at 38 rfl) rfl ?_
    refine ev_iaload (dMo_film.at 39 rfl) rfl (o1 c1) ?_
    refine ev_i2l (dMo_film.at 40 rfl) ?_
    refine ev_cVv (dMo_film.at 41 rfl) (As := [.int x1, .int (x3 + x5), .long (w.1 52 x5.toNatClampNeg).toInt64]) (own := 8) rfl ckMo_222 rfl rfl rfl (Nat.le_of_ble_eq_true rfl) rfl (m1 c1) ?_
    refine ev_iinc (dMo_film.at 42 rfl) kI_1 rfl (by decide) rfl ?_
    refine ev_goto (tgt := 50) (dMo_film.at 43 rfl) rfl ?_
    exact (k2 c1)
set_option maxHeartbeats 4000000 in
theorem bMo_sheet_0 {d : Nat} {w : sx_W} {Q : sx_Q} {x1 : Int32} {x2 : Int32} {x3 : Int32} {f1 : Int32} {f2 : Int32}
    (m1 : sx_de d rMo_isSheet [.int x1] w f1 0 w)
    (k1 : (f1 = 0) → Q (-1 : Int32) 0 w)
    (m2 : (¬ f1 = 0) → sx_de d rMo_isLane [.int x2] w f2 0 w)
    (k2 : (¬ f1 = 0) → (f2 = 0) → Q (-1 : Int32) 0 w)
    (o1 : (¬ f1 = 0) → (¬ f2 = 0) → (x3 ≤ (16 : Int32)) → (0 ≤ x3) → vp_in x1 4)
    (k3 : (¬ f1 = 0) → (¬ f2 = 0) → (x3 ≤ (16 : Int32)) → (0 ≤ x3) → sx_ev (d + 1) rMo_sheet 46 [.ref 48, .int x1, .null, .int x3, .int (0 : Int32)] [] ((sx_u (sx_u w.1 61 x1.toNatClampNeg x2) 62 x1.toNatClampNeg x3), w.2) Q)
    (k4 : (¬ f1 = 0) → (¬ f2 = 0) → (x3 ≤ (16 : Int32)) → (¬ 0 ≤ x3) → Q (-14 : Int32) 0 w)
    (k5 : (¬ f1 = 0) → (¬ f2 = 0) → (¬ x3 ≤ (16 : Int32)) → Q (-1 : Int32) 0 w) :
    sx_ev (d + 1) rMo_sheet 0 [.ref 48, .int x1, .int x2, .int x3, .null] [] w Q := by
  refine ev_iload_n (dMo_sheet.at 0 rfl) rfl ?_
  refine ev_cSi (dMo_sheet.at 1 rfl) (As := [.int x1]) (own := 8) rfl ckMo_212 (Or.inr rfl) rfl (Nat.le_of_ble_eq_true rfl) rfl m1 ?_
  refine ev_if_eq (tgt := 20) (dMo_sheet.at 2 rfl) rfl (fun c1 => ?_) (fun c1 => ?_)
  · refine ev_iconst (dMo_sheet.at 9 rfl) kI_m1 ?_
    exact ev_iret (dMo_sheet.at 10 rfl) rfl (k1 c1)
  · refine ev_iload_n (dMo_sheet.at 3 rfl) rfl ?_
    refine ev_cSi (dMo_sheet.at 4 rfl) (As := [.int x2]) (own := 8) rfl ckMo_215 (Or.inr rfl) rfl (Nat.le_of_ble_eq_true rfl) rfl (m2 c1) ?_
    refine ev_if_eq (tgt := 20) (dMo_sheet.at 5 rfl) rfl (fun c2 => ?_) (fun c2 => ?_)
    · refine ev_iconst (dMo_sheet.at 9 rfl) kI_m1 ?_
      exact ev_iret (dMo_sheet.at 10 rfl) rfl (k2 c1 c2)
    · refine ev_iload_n (dMo_sheet.at 6 rfl) rfl ?_
      refine ev_bipush (dMo_sheet.at 7 rfl) kB_16 ?_
      refine ev_icmp_le (tgt := 22) (dMo_sheet.at 8 rfl) rfl (fun c3 => ?_) (fun c3 => ?_)
      · refine ev_iload_n (dMo_sheet.at 11 rfl) rfl ?_
        refine ev_if_ge (tgt := 29) (dMo_sheet.at 12 rfl) rfl (fun c4 => ?_) (fun c4 => ?_)
        · refine ev_aload_n (dMo_sheet.at 15 rfl) rfl ?_
          refine ev_getr (dMo_sheet.at 16 rfl) (own := 8) rfl fkMo_46 rfl rfl ?_
          refine ev_iload_n (dMo_sheet.at 17 rfl) rfl ?_
          refine ev_iload_n (dMo_sheet.at 18 rfl) rfl ?_
          refine ev_iastore (dMo_sheet.at 19 rfl) rfl (o1 c1 c2 c3 c4) ?_
          refine ev_aload_n (dMo_sheet.at 20 rfl) rfl ?_
          refine ev_getr (dMo_sheet.at 21 rfl) (own := 8) rfl fkMo_49 rfl rfl ?_
          refine ev_iload_n (dMo_sheet.at 22 rfl) rfl ?_
          refine ev_iload_n (dMo_sheet.at 23 rfl) rfl ?_
          refine ev_iastore (dMo_sheet.at 24 rfl) rfl (o1 c1 c2 c3 c4) ?_
          refine ev_iconst (dMo_sheet.at 25 rfl) kI_0 ?_
          refine ev_istore (dMo_sheet.at 26 rfl) (by decide) rfl ?_
          refine ev_kp [true, true, false, true, true] rfl ?_
          exact (k3 c1 c2 c3 c4)
        · refine ev_bipush (dMo_sheet.at 13 rfl) kB_m14 ?_
          exact ev_iret (dMo_sheet.at 14 rfl) rfl (k4 c1 c2 c3 c4)
      · refine ev_iconst (dMo_sheet.at 9 rfl) kI_m1 ?_
        exact ev_iret (dMo_sheet.at 10 rfl) rfl (k5 c1 c2 c3)
set_option maxHeartbeats 4000000 in
theorem bMo_sheet_46 {d : Nat} {w : sx_W} {Q : sx_Q} {x1 : Int32} {x3 : Int32} {x4 : Int32}
    (k1 : ((16 : Int32) ≤ x4) → Q x3 0 w)
    (o1 : (¬ (16 : Int32) ≤ x4) → vp_in (((16 : Int32) * x1) + x4) 64)
    (k2 : (¬ (16 : Int32) ≤ x4) → sx_ev d rMo_sheet 46 [.ref 48, .int x1, .null, .int x3, .int (x4 + (1 : Int32))] [] (w.1, (sx_ul w.2 63 (((16 : Int32) * x1) + x4).toNatClampNeg (0 : Int64))) Q) :
    sx_ev d rMo_sheet 46 [.ref 48, .int x1, .null, .int x3, .int x4] [] w Q := by
  refine ev_iload (dMo_sheet.at 27 rfl) rfl ?_
  refine ev_bipush (dMo_sheet.at 28 rfl) kB_16 ?_
  refine ev_icmp_ge (tgt := 72) (dMo_sheet.at 29 rfl) rfl (fun c1 => ?_) (fun c1 => ?_)
  · refine ev_iload_n (dMo_sheet.at 41 rfl) rfl ?_
    exact ev_iret (dMo_sheet.at 42 rfl) rfl (k1 c1)
  · refine ev_aload_n (dMo_sheet.at 30 rfl) rfl ?_
    refine ev_getr (dMo_sheet.at 31 rfl) (own := 8) rfl fkMo_52 rfl rfl ?_
    refine ev_bipush (dMo_sheet.at 32 rfl) kB_16 ?_
    refine ev_iload_n (dMo_sheet.at 33 rfl) rfl ?_
    refine ev_imul (dMo_sheet.at 34 rfl) ?_
    refine ev_iload (dMo_sheet.at 35 rfl) rfl ?_
    refine ev_iadd (dMo_sheet.at 36 rfl) ?_
    refine ev_lconst (dMo_sheet.at 37 rfl) rfl ?_
    refine ev_lastore (dMo_sheet.at 38 rfl) rfl (o1 c1) ?_
    refine ev_iinc (dMo_sheet.at 39 rfl) kI_1 rfl (by decide) rfl ?_
    refine ev_goto (tgt := 46) (dMo_sheet.at 40 rfl) rfl ?_
    exact (k2 c1)
set_option maxHeartbeats 4000000 in
theorem bMo_drop_0 {d : Nat} {w : sx_W} {Q : sx_Q} {x1 : Int32} {f1 : Int32}
    (m1 : sx_de d rMo_isSheet [.int x1] w f1 0 w)
    (o1 : (¬ f1 = 0) → vp_in x1 4)
    (k1 : (¬ f1 = 0) → (0 ≤ (w.1 61 x1.toNatClampNeg)) → Q (w.1 62 x1.toNatClampNeg) 0 ((sx_u w.1 61 x1.toNatClampNeg (-1 : Int32)), w.2))
    (k2 : (¬ f1 = 0) → (¬ 0 ≤ (w.1 61 x1.toNatClampNeg)) → Q (-11 : Int32) 0 w)
    (k3 : (f1 = 0) → Q (-1 : Int32) 0 w) :
    sx_ev (d + 1) rMo_drop 0 [.ref 48, .int x1] [] w Q := by
  refine ev_iload_n (dMo_drop.at 0 rfl) rfl ?_
  refine ev_cSi (dMo_drop.at 1 rfl) (As := [.int x1]) (own := 8) rfl ckMo_212 (Or.inr rfl) rfl (Nat.le_of_ble_eq_true rfl) rfl m1 ?_
  refine ev_if_ne (tgt := 9) (dMo_drop.at 2 rfl) rfl (fun c1 => ?_) (fun c1 => ?_)
  · refine ev_aload_n (dMo_drop.at 5 rfl) rfl ?_
    refine ev_getr (dMo_drop.at 6 rfl) (own := 8) rfl fkMo_46 rfl rfl ?_
    refine ev_iload_n (dMo_drop.at 7 rfl) rfl ?_
    refine ev_iaload (dMo_drop.at 8 rfl) rfl (o1 c1) ?_
    refine ev_if_ge (tgt := 21) (dMo_drop.at 9 rfl) rfl (fun c2 => ?_) (fun c2 => ?_)
    · refine ev_aload_n (dMo_drop.at 12 rfl) rfl ?_
      refine ev_getr (dMo_drop.at 13 rfl) (own := 8) rfl fkMo_46 rfl rfl ?_
      refine ev_iload_n (dMo_drop.at 14 rfl) rfl ?_
      refine ev_iconst (dMo_drop.at 15 rfl) kI_m1 ?_
      refine ev_iastore (dMo_drop.at 16 rfl) rfl (o1 c1) ?_
      refine ev_aload_n (dMo_drop.at 17 rfl) rfl ?_
      refine ev_getr (dMo_drop.at 18 rfl) (own := 8) rfl fkMo_49 rfl rfl ?_
      refine ev_iload_n (dMo_drop.at 19 rfl) rfl ?_
      refine ev_iaload (dMo_drop.at 20 rfl) rfl (o1 c1) ?_
      exact ev_iret (dMo_drop.at 21 rfl) rfl (k1 c1 c2)
    · refine ev_bipush (dMo_drop.at 10 rfl) kB_m11 ?_
      exact ev_iret (dMo_drop.at 11 rfl) rfl (k2 c1 c2)
  · refine ev_iconst (dMo_drop.at 3 rfl) kI_m1 ?_
    exact ev_iret (dMo_drop.at 4 rfl) rfl (k3 c1)
set_option maxHeartbeats 4000000 in
theorem bMo_item_0 {d : Nat} {w : sx_W} {Q : sx_Q} {x1 : Int32} {x2 : Int32} {x3 : Int32} {y4 : Int64} {f1 : Int32} {f2 : Int32} {f3 : Int32} {w4 : sx_W}
    (m1 : sx_de d rMo_isSheet [.int x1] w f1 0 w)
    (k1 : (f1 = 0) → Q (-1 : Int32) 0 w)
    (m2 : (¬ f1 = 0) → sx_de d rMo_isLane [.int x2] w f2 0 w)
    (m3 : (¬ f1 = 0) → (¬ f2 = 0) → sx_de d rMo_why [.ref 48, .int x1, .int x2, .int x3, .int (1 : Int32)] w f3 0 w)
    (m4 : (¬ f1 = 0) → (¬ f2 = 0) → (0 ≤ f3) → sx_de d rMo_puts [.ref 48, .int x1, .int x3, .long y4] w 0 0 w4)
    (k2 : (¬ f1 = 0) → (¬ f2 = 0) → (0 ≤ f3) → Q (1 : Int32) 0 w4)
    (k3 : (¬ f1 = 0) → (¬ f2 = 0) → (¬ 0 ≤ f3) → Q f3 0 w)
    (k4 : (¬ f1 = 0) → (f2 = 0) → Q (-1 : Int32) 0 w) :
    sx_ev (d + 1) rMo_item 0 [.ref 48, .int x1, .int x2, .int x3, .long y4, .null, .null] [] w Q := by
  refine ev_iload_n (dMo_item.at 0 rfl) rfl ?_
  refine ev_cSi (dMo_item.at 1 rfl) (As := [.int x1]) (own := 8) rfl ckMo_212 (Or.inr rfl) rfl (Nat.le_of_ble_eq_true rfl) rfl m1 ?_
  refine ev_if_eq (tgt := 14) (dMo_item.at 2 rfl) rfl (fun c1 => ?_) (fun c1 => ?_)
  · refine ev_iconst (dMo_item.at 6 rfl) kI_m1 ?_
    exact ev_iret (dMo_item.at 7 rfl) rfl (k1 c1)
  · refine ev_iload_n (dMo_item.at 3 rfl) rfl ?_
    refine ev_cSi (dMo_item.at 4 rfl) (As := [.int x2]) (own := 8) rfl ckMo_215 (Or.inr rfl) rfl (Nat.le_of_ble_eq_true rfl) rfl (m2 c1) ?_
    refine ev_if_ne (tgt := 16) (dMo_item.at 5 rfl) rfl (fun c2 => ?_) (fun c2 => ?_)
    · refine ev_aload_n (dMo_item.at 8 rfl) rfl ?_
      refine ev_iload_n (dMo_item.at 9 rfl) rfl ?_
      refine ev_iload_n (dMo_item.at 10 rfl) rfl ?_
      refine ev_iload_n (dMo_item.at 11 rfl) rfl ?_
      refine ev_iconst (dMo_item.at 12 rfl) kI_1 ?_
      refine ev_cVi (dMo_item.at 13 rfl) (As := [.int x1, .int x2, .int x3, .int (1 : Int32)]) (own := 8) rfl ckMo_218 rfl (Or.inl rfl) rfl (Nat.le_of_ble_eq_true rfl) rfl (m3 c1 c2) ?_
      refine ev_istore (dMo_item.at 14 rfl) (by decide) rfl ?_
      refine ev_iload (dMo_item.at 15 rfl) rfl ?_
      refine ev_if_ge (tgt := 34) (dMo_item.at 16 rfl) rfl (fun c3 => ?_) (fun c3 => ?_)
      · refine ev_aload_n (dMo_item.at 19 rfl) rfl ?_
        refine ev_iload_n (dMo_item.at 20 rfl) rfl ?_
        refine ev_iload_n (dMo_item.at 21 rfl) rfl ?_
        refine ev_lload (dMo_item.at 22 rfl) rfl ?_
        refine ev_cVv (dMo_item.at 23 rfl) (As := [.int x1, .int x3, .long y4]) (own := 8) rfl ckMo_222 rfl rfl rfl (Nat.le_of_ble_eq_true rfl) rfl (m4 c1 c2 c3) ?_
        refine ev_iconst (dMo_item.at 24 rfl) kI_1 ?_
        exact ev_iret (dMo_item.at 25 rfl) rfl (k2 c1 c2 c3)
      · refine ev_iload (dMo_item.at 17 rfl) rfl ?_
        exact ev_iret (dMo_item.at 18 rfl) rfl (k3 c1 c2 c3)
    · refine ev_iconst (dMo_item.at 6 rfl) kI_m1 ?_
      exact ev_iret (dMo_item.at 7 rfl) rfl (k4 c1 c2)
set_option maxHeartbeats 4000000 in
theorem bMo_copy_0 {d : Nat} {w : sx_W} {Q : sx_Q} {x1 : Int32} {x2 : Int32} {x3 : Int32} {x4 : Int32} {x5 : Int32} {f1 : Int32} {f2 : Int32} {f3 : Int32} {f4 : Int32}
    (m1 : sx_de d rMo_isSheet [.int x1] w f1 0 w)
    (k1 : (f1 = 0) → Q (-1 : Int32) 0 w)
    (m2 : (¬ f1 = 0) → sx_de d rMo_isSheet [.int x3] w f2 0 w)
    (o1 : (¬ f1 = 0) → (¬ f2 = 0) → vp_in x1 4)
    (k2 : (¬ f1 = 0) → (¬ f2 = 0) → ((w.1 61 x1.toNatClampNeg) < 0) → Q (-11 : Int32) 0 w)
    (o2 : (¬ f1 = 0) → (¬ f2 = 0) → (¬ (w.1 61 x1.toNatClampNeg) < 0) → vp_in x3 4)
    (k3 : (¬ f1 = 0) → (¬ f2 = 0) → (¬ (w.1 61 x1.toNatClampNeg) < 0) → (0 ≤ (w.1 61 x3.toNatClampNeg)) → ((w.1 61 x1.toNatClampNeg) = (w.1 61 x3.toNatClampNeg)) → (x5 < 0) → Q (-13 : Int32) 0 w)
    (m3 : (¬ f1 = 0) → (¬ f2 = 0) → (¬ (w.1 61 x1.toNatClampNeg) < 0) → (0 ≤ (w.1 61 x3.toNatClampNeg)) → ((w.1 61 x1.toNatClampNeg) = (w.1 61 x3.toNatClampNeg)) → (¬ x5 < 0) → sx_de d rMo_why [.ref 48, .int x1, .int (w.1 61 x1.toNatClampNeg), .int x2, .int x5] w f3 0 w)
    (k4 : (¬ f1 = 0) → (¬ f2 = 0) → (¬ (w.1 61 x1.toNatClampNeg) < 0) → (0 ≤ (w.1 61 x3.toNatClampNeg)) → ((w.1 61 x1.toNatClampNeg) = (w.1 61 x3.toNatClampNeg)) → (¬ x5 < 0) → (f3 < 0) → Q (-13 : Int32) 0 w)
    (m4 : (¬ f1 = 0) → (¬ f2 = 0) → (¬ (w.1 61 x1.toNatClampNeg) < 0) → (0 ≤ (w.1 61 x3.toNatClampNeg)) → ((w.1 61 x1.toNatClampNeg) = (w.1 61 x3.toNatClampNeg)) → (¬ x5 < 0) → (¬ f3 < 0) → sx_de d rMo_why [.ref 48, .int x3, .int (w.1 61 x3.toNatClampNeg), .int x4, .int x5] w f4 0 w)
    (k5 : (¬ f1 = 0) → (¬ f2 = 0) → (¬ (w.1 61 x1.toNatClampNeg) < 0) → (0 ≤ (w.1 61 x3.toNatClampNeg)) → ((w.1 61 x1.toNatClampNeg) = (w.1 61 x3.toNatClampNeg)) → (¬ x5 < 0) → (¬ f3 < 0) → (0 ≤ f4) → sx_ev (d + 1) rMo_copy 101 [.ref 48, .int x1, .int x2, .int x3, .int x4, .int x5, .int (0 : Int32)] [] w Q)
    (k6 : (¬ f1 = 0) → (¬ f2 = 0) → (¬ (w.1 61 x1.toNatClampNeg) < 0) → (0 ≤ (w.1 61 x3.toNatClampNeg)) → ((w.1 61 x1.toNatClampNeg) = (w.1 61 x3.toNatClampNeg)) → (¬ x5 < 0) → (¬ f3 < 0) → (¬ 0 ≤ f4) → Q (-13 : Int32) 0 w)
    (k7 : (¬ f1 = 0) → (¬ f2 = 0) → (¬ (w.1 61 x1.toNatClampNeg) < 0) → (0 ≤ (w.1 61 x3.toNatClampNeg)) → (¬ (w.1 61 x1.toNatClampNeg) = (w.1 61 x3.toNatClampNeg)) → Q (-12 : Int32) 0 w)
    (k8 : (¬ f1 = 0) → (¬ f2 = 0) → (¬ (w.1 61 x1.toNatClampNeg) < 0) → (¬ 0 ≤ (w.1 61 x3.toNatClampNeg)) → Q (-11 : Int32) 0 w)
    (k9 : (¬ f1 = 0) → (f2 = 0) → Q (-1 : Int32) 0 w) :
    sx_ev (d + 1) rMo_copy 0 [.ref 48, .int x1, .int x2, .int x3, .int x4, .int x5, .null] [] w Q := by
  refine ev_iload_n (dMo_copy.at 0 rfl) rfl ?_
  refine ev_cSi (dMo_copy.at 1 rfl) (As := [.int x1]) (own := 8) rfl ckMo_212 (Or.inr rfl) rfl (Nat.le_of_ble_eq_true rfl) rfl m1 ?_
  refine ev_if_eq (tgt := 14) (dMo_copy.at 2 rfl) rfl (fun c1 => ?_) (fun c1 => ?_)
  · refine ev_iconst (dMo_copy.at 6 rfl) kI_m1 ?_
    exact ev_iret (dMo_copy.at 7 rfl) rfl (k1 c1)
  · refine ev_iload_n (dMo_copy.at 3 rfl) rfl ?_
    refine ev_cSi (dMo_copy.at 4 rfl) (As := [.int x3]) (own := 8) rfl ckMo_212 (Or.inr rfl) rfl (Nat.le_of_ble_eq_true rfl) rfl (m2 c1) ?_
    refine ev_if_ne (tgt := 16) (dMo_copy.at 5 rfl) rfl (fun c2 => ?_) (fun c2 => ?_)
    · refine ev_aload_n (dMo_copy.at 8 rfl) rfl ?_
      refine ev_getr (dMo_copy.at 9 rfl) (own := 8) rfl fkMo_46 rfl rfl ?_
      refine ev_iload_n (dMo_copy.at 10 rfl) rfl ?_
      refine ev_iaload (dMo_copy.at 11 rfl) rfl (o1 c1 c2) ?_
      refine ev_if_lt (tgt := 34) (dMo_copy.at 12 rfl) rfl (fun c3 => ?_) (fun c3 => ?_)
      · refine ev_bipush (dMo_copy.at 18 rfl) kB_m11 ?_
        exact ev_iret (dMo_copy.at 19 rfl) rfl (k2 c1 c2 c3)
      · refine ev_aload_n (dMo_copy.at 13 rfl) rfl ?_
        refine ev_getr (dMo_copy.at 14 rfl) (own := 8) rfl fkMo_46 rfl rfl ?_
        refine ev_iload_n (dMo_copy.at 15 rfl) rfl ?_
        refine ev_iaload (dMo_copy.at 16 rfl) rfl (o2 c1 c2 c3) ?_
        refine ev_if_ge (tgt := 37) (dMo_copy.at 17 rfl) rfl (fun c4 => ?_) (fun c4 => ?_)
        · refine ev_aload_n (dMo_copy.at 20 rfl) rfl ?_
          refine ev_getr (dMo_copy.at 21 rfl) (own := 8) rfl fkMo_46 rfl rfl ?_
          refine ev_iload_n (dMo_copy.at 22 rfl) rfl ?_
          refine ev_iaload (dMo_copy.at 23 rfl) rfl (o1 c1 c2) ?_
          refine ev_aload_n (dMo_copy.at 24 rfl) rfl ?_
          refine ev_getr (dMo_copy.at 25 rfl) (own := 8) rfl fkMo_46 rfl rfl ?_
          refine ev_iload_n (dMo_copy.at 26 rfl) rfl ?_
          refine ev_iaload (dMo_copy.at 27 rfl) rfl (o2 c1 c2 c3) ?_
          refine ev_icmp_eq (tgt := 55) (dMo_copy.at 28 rfl) rfl (fun c5 => ?_) (fun c5 => ?_)
          · refine ev_iload (dMo_copy.at 31 rfl) rfl ?_
            refine ev_if_lt (tgt := 95) (dMo_copy.at 32 rfl) rfl (fun c6 => ?_) (fun c6 => ?_)
            · refine ev_bipush (dMo_copy.at 53 rfl) kB_m13 ?_
              exact ev_iret (dMo_copy.at 54 rfl) rfl (k3 c1 c2 c3 c4 c5 c6)
            · refine ev_aload_n (dMo_copy.at 33 rfl) rfl ?_
              refine ev_iload_n (dMo_copy.at 34 rfl) rfl ?_
              refine ev_aload_n (dMo_copy.at 35 rfl) rfl ?_
              refine ev_getr (dMo_copy.at 36 rfl) (own := 8) rfl fkMo_46 rfl rfl ?_
              refine ev_iload_n (dMo_copy.at 37 rfl) rfl ?_
              refine ev_iaload (dMo_copy.at 38 rfl) rfl (o1 c1 c2) ?_
              refine ev_iload_n (dMo_copy.at 39 rfl) rfl ?_
              refine ev_iload (dMo_copy.at 40 rfl) rfl ?_
              refine ev_cVi (dMo_copy.at 41 rfl) (As := [.int x1, .int (w.1 61 x1.toNatClampNeg), .int x2, .int x5]) (own := 8) rfl ckMo_218 rfl (Or.inl rfl) rfl (Nat.le_of_ble_eq_true rfl) rfl (m3 c1 c2 c3 c4 c5 c6) ?_
              refine ev_if_lt (tgt := 95) (dMo_copy.at 42 rfl) rfl (fun c7 => ?_) (fun c7 => ?_)
              · refine ev_bipush (dMo_copy.at 53 rfl) kB_m13 ?_
                exact ev_iret (dMo_copy.at 54 rfl) rfl (k4 c1 c2 c3 c4 c5 c6 c7)
              · refine ev_aload_n (dMo_copy.at 43 rfl) rfl ?_
                refine ev_iload_n (dMo_copy.at 44 rfl) rfl ?_
                refine ev_aload_n (dMo_copy.at 45 rfl) rfl ?_
                refine ev_getr (dMo_copy.at 46 rfl) (own := 8) rfl fkMo_46 rfl rfl ?_
                refine ev_iload_n (dMo_copy.at 47 rfl) rfl ?_
                refine ev_iaload (dMo_copy.at 48 rfl) rfl (o2 c1 c2 c3) ?_
                refine ev_iload (dMo_copy.at 49 rfl) rfl ?_
                refine ev_iload (dMo_copy.at 50 rfl) rfl ?_
                refine ev_cVi (dMo_copy.at 51 rfl) (As := [.int x3, .int (w.1 61 x3.toNatClampNeg), .int x4, .int x5]) (own := 8) rfl ckMo_218 rfl (Or.inl rfl) rfl (Nat.le_of_ble_eq_true rfl) rfl (m4 c1 c2 c3 c4 c5 c6 c7) ?_
                refine ev_if_ge (tgt := 98) (dMo_copy.at 52 rfl) rfl (fun c8 => ?_) (fun c8 => ?_)
                · refine ev_iconst (dMo_copy.at 55 rfl) kI_0 ?_
                  refine ev_istore (dMo_copy.at 56 rfl) (by decide) rfl ?_
                  exact (k5 c1 c2 c3 c4 c5 c6 c7 c8)
                · refine ev_bipush (dMo_copy.at 53 rfl) kB_m13 ?_
                  exact ev_iret (dMo_copy.at 54 rfl) rfl (k6 c1 c2 c3 c4 c5 c6 c7 c8)
          · refine ev_bipush (dMo_copy.at 29 rfl) kB_m12 ?_
            exact ev_iret (dMo_copy.at 30 rfl) rfl (k7 c1 c2 c3 c4 c5)
        · refine ev_bipush (dMo_copy.at 18 rfl) kB_m11 ?_
          exact ev_iret (dMo_copy.at 19 rfl) rfl (k8 c1 c2 c3 c4)
    · refine ev_iconst (dMo_copy.at 6 rfl) kI_m1 ?_
      exact ev_iret (dMo_copy.at 7 rfl) rfl (k9 c1 c2)
set_option maxHeartbeats 4000000 in
theorem bMo_copy_101 {d : Nat} {w : sx_W} {Q : sx_Q} {x1 : Int32} {x2 : Int32} {x3 : Int32} {x4 : Int32} {x5 : Int32} {x6 : Int32}
    (k1 : (x5 ≤ x6) → sx_ev d rMo_copy 138 [.ref 48, .null, .null, .int x3, .int x4, .int x5, .int (0 : Int32)] [] w Q)
    (o1 : (¬ x5 ≤ x6) → vp_in ((((16 : Int32) * x1) + x2) + x6) 64)
    (o2 : (¬ x5 ≤ x6) → vp_in x6 16)
    (k2 : (¬ x5 ≤ x6) → sx_ev d rMo_copy 101 [.ref 48, .int x1, .int x2, .int x3, .int x4, .int x5, .int (x6 + (1 : Int32))] [] (w.1, (sx_ul w.2 64 x6.toNatClampNeg (w.2 63 ((((16 : Int32) * x1) + x2) + x6).toNatClampNeg))) Q) :
    sx_ev d rMo_copy 101 [.ref 48, .int x1, .int x2, .int x3, .int x4, .int x5, .int x6] [] w Q := by
  refine ev_iload (dMo_copy.at 57 rfl) rfl ?_
  refine ev_iload (dMo_copy.at 58 rfl) rfl ?_
  refine ev_icmp_ge (tgt := 135) (dMo_copy.at 59 rfl) rfl (fun c1 => ?_) (fun c1 => ?_)
  · refine ev_iconst (dMo_copy.at 76 rfl) kI_0 ?_
    refine ev_istore (dMo_copy.at 77 rfl) (by decide) rfl ?_
    refine ev_kp [true, false, false, true, true, true, true] rfl ?_
    exact (k1 c1)
  · refine ev_aload_n (dMo_copy.at 60 rfl) rfl ?_
    refine ev_getr (dMo_copy.at 61 rfl) (own := 8) rfl fkMo_56 rfl rfl ?_
    refine ev_iload (dMo_copy.at 62 rfl) rfl ?_
    refine ev_aload_n (dMo_copy.at 63 rfl) rfl ?_
    refine ev_getr (dMo_copy.at 64 rfl) (own := 8) rfl fkMo_52 rfl rfl ?_
    refine ev_bipush (dMo_copy.at 65 rfl) kB_16 ?_
    refine ev_iload_n (dMo_copy.at 66 rfl) rfl ?_
    refine ev_imul (dMo_copy.at 67 rfl) ?_
    refine ev_iload_n (dMo_copy.at 68 rfl) rfl ?_
    refine ev_iadd (dMo_copy.at 69 rfl) ?_
    refine ev_iload (dMo_copy.at 70 rfl) rfl ?_
    refine ev_iadd (dMo_copy.at 71 rfl) ?_
    refine ev_laload (dMo_copy.at 72 rfl) rfl (o1 c1) ?_
    refine ev_lastore (dMo_copy.at 73 rfl) rfl (o2 c1) ?_
    refine ev_iinc (dMo_copy.at 74 rfl) kI_1 rfl (by decide) rfl ?_
    refine ev_goto (tgt := 101) (dMo_copy.at 75 rfl) rfl ?_
    exact (k2 c1)
set_option maxHeartbeats 4000000 in
theorem bMo_copy_138 {d : Nat} {w : sx_W} {Q : sx_Q} {x3 : Int32} {x4 : Int32} {x5 : Int32} {x6 : Int32}
    (k1 : (x5 ≤ x6) → Q x5 0 w)
    (o1 : (¬ x5 ≤ x6) → vp_in x6 16)
    (o2 : (¬ x5 ≤ x6) → vp_in ((((16 : Int32) * x3) + x4) + x6) 64)
    (k2 : (¬ x5 ≤ x6) → sx_ev d rMo_copy 138 [.ref 48, .null, .null, .int x3, .int x4, .int x5, .int (x6 + (1 : Int32))] [] (w.1, (sx_ul w.2 63 ((((16 : Int32) * x3) + x4) + x6).toNatClampNeg (w.2 64 x6.toNatClampNeg))) Q) :
    sx_ev d rMo_copy 138 [.ref 48, .null, .null, .int x3, .int x4, .int x5, .int x6] [] w Q := by
  refine ev_iload (dMo_copy.at 78 rfl) rfl ?_
  refine ev_iload (dMo_copy.at 79 rfl) rfl ?_
  refine ev_icmp_ge (tgt := 173) (dMo_copy.at 80 rfl) rfl (fun c1 => ?_) (fun c1 => ?_)
  · refine ev_iload (dMo_copy.at 97 rfl) rfl ?_
    exact ev_iret (dMo_copy.at 98 rfl) rfl (k1 c1)
  · refine ev_aload_n (dMo_copy.at 81 rfl) rfl ?_
    refine ev_getr (dMo_copy.at 82 rfl) (own := 8) rfl fkMo_52 rfl rfl ?_
    refine ev_bipush (dMo_copy.at 83 rfl) kB_16 ?_
    refine ev_iload_n (dMo_copy.at 84 rfl) rfl ?_
    refine ev_imul (dMo_copy.at 85 rfl) ?_
    refine ev_iload (dMo_copy.at 86 rfl) rfl ?_
    refine ev_iadd (dMo_copy.at 87 rfl) ?_
    refine ev_iload (dMo_copy.at 88 rfl) rfl ?_
    refine ev_iadd (dMo_copy.at 89 rfl) ?_
    refine ev_aload_n (dMo_copy.at 90 rfl) rfl ?_
    refine ev_getr (dMo_copy.at 91 rfl) (own := 8) rfl fkMo_56 rfl rfl ?_
    refine ev_iload (dMo_copy.at 92 rfl) rfl ?_
    refine ev_laload (dMo_copy.at 93 rfl) rfl (o1 c1) ?_
    refine ev_lastore (dMo_copy.at 94 rfl) rfl (o2 c1) ?_
    refine ev_iinc (dMo_copy.at 95 rfl) kI_1 rfl (by decide) rfl ?_
    refine ev_goto (tgt := 138) (dMo_copy.at 96 rfl) rfl ?_
    exact (k2 c1)
