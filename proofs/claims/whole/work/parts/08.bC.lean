/-! ===== blocks of the methods between cut points, written by program ===== -/
set_option maxHeartbeats 4000000 in
theorem bSb_lodger_0 {d : Nat} {w : sx_W} {Q : sx_Q} {x1 : Int32} {x2 : Int32} {x3 : Int32} {f1 : Int32} {w2 : sx_W} {w3 : sx_W}
    (k1 : (x1 < 0) → Q (-1 : Int32) 0 w)
    (k2 : (¬ x1 < 0) → ((3 : Int32) < x1) → Q (-1 : Int32) 0 w)
    (k3 : (¬ x1 < 0) → (¬ (3 : Int32) < x1) → (x2 < (1 : Int32)) → Q (-1 : Int32) 0 w)
    (k4 : (¬ x1 < 0) → (¬ (3 : Int32) < x1) → (¬ x2 < (1 : Int32)) → ((4 : Int32) < x2) → Q (-1 : Int32) 0 w)
    (m1 : (¬ x1 < 0) → (¬ (3 : Int32) < x1) → (¬ x2 < (1 : Int32)) → (¬ (4 : Int32) < x2) → sx_de d rSb_isSetOfParts [.int x3] w f1 0 w)
    (m2 : (¬ x1 < 0) → (¬ (3 : Int32) < x1) → (¬ x2 < (1 : Int32)) → (¬ (4 : Int32) < x2) → (¬ f1 = 0) → ((w.1 1 4) < (7 : Int32)) → sx_de d rHo_admit [.ref 1, .int x1, .int x2, .int x3] w 0 0 w2)
    (m3 : (¬ x1 < 0) → (¬ (3 : Int32) < x1) → (¬ x2 < (1 : Int32)) → (¬ (4 : Int32) < x2) → (¬ f1 = 0) → ((w.1 1 4) < (7 : Int32)) → sx_de d rSt_refresh [.ref 11] w2 0 0 w3)
    (k5 : (¬ x1 < 0) → (¬ (3 : Int32) < x1) → (¬ x2 < (1 : Int32)) → (¬ (4 : Int32) < x2) → (¬ f1 = 0) → ((w.1 1 4) < (7 : Int32)) → Q ((w3.1 1 4) - (1 : Int32)) 0 w3)
    (k6 : (¬ x1 < 0) → (¬ (3 : Int32) < x1) → (¬ x2 < (1 : Int32)) → (¬ (4 : Int32) < x2) → (¬ f1 = 0) → (¬ (w.1 1 4) < (7 : Int32)) → Q (-3 : Int32) 0 w)
    (k7 : (¬ x1 < 0) → (¬ (3 : Int32) < x1) → (¬ x2 < (1 : Int32)) → (¬ (4 : Int32) < x2) → (f1 = 0) → Q (-1 : Int32) 0 w) :
    sx_ev (d + 1) rSb_lodger 0 [.ref 0, .int x1, .int x2, .int x3] [] w Q := by
  refine ev_iload_n (dSb_lodger.at 0 rfl) rfl ?_
  refine ev_if_lt (tgt := 26) (dSb_lodger.at 1 rfl) rfl (fun c1 => ?_) (fun c1 => ?_)
  · refine ev_iconst (dSb_lodger.at 14 rfl) kI_m1 ?_
    exact ev_iret (dSb_lodger.at 15 rfl) rfl (k1 c1)
  · refine ev_iload_n (dSb_lodger.at 2 rfl) rfl ?_
    refine ev_iconst (dSb_lodger.at 3 rfl) kI_3 ?_
    refine ev_icmp_gt (tgt := 26) (dSb_lodger.at 4 rfl) rfl (fun c2 => ?_) (fun c2 => ?_)
    · refine ev_iconst (dSb_lodger.at 14 rfl) kI_m1 ?_
      exact ev_iret (dSb_lodger.at 15 rfl) rfl (k2 c1 c2)
    · refine ev_iload_n (dSb_lodger.at 5 rfl) rfl ?_
      refine ev_iconst (dSb_lodger.at 6 rfl) kI_1 ?_
      refine ev_icmp_lt (tgt := 26) (dSb_lodger.at 7 rfl) rfl (fun c3 => ?_) (fun c3 => ?_)
      · refine ev_iconst (dSb_lodger.at 14 rfl) kI_m1 ?_
        exact ev_iret (dSb_lodger.at 15 rfl) rfl (k3 c1 c2 c3)
      · refine ev_iload_n (dSb_lodger.at 8 rfl) rfl ?_
        refine ev_iconst (dSb_lodger.at 9 rfl) kI_4 ?_
        refine ev_icmp_gt (tgt := 26) (dSb_lodger.at 10 rfl) rfl (fun c4 => ?_) (fun c4 => ?_)
        · refine ev_iconst (dSb_lodger.at 14 rfl) kI_m1 ?_
          exact ev_iret (dSb_lodger.at 15 rfl) rfl (k4 c1 c2 c3 c4)
        · refine ev_iload_n (dSb_lodger.at 11 rfl) rfl ?_
          refine ev_cSi (dSb_lodger.at 12 rfl) (As := [.int x3]) (own := 7) rfl ckSb_73 (Or.inr rfl) rfl (Nat.le_of_ble_eq_true rfl) rfl (m1 c1 c2 c3 c4) ?_
          refine ev_if_ne (tgt := 28) (dSb_lodger.at 13 rfl) rfl (fun c5 => ?_) (fun c5 => ?_)
          · refine ev_aload_n (dSb_lodger.at 16 rfl) rfl ?_
            refine ev_getr (dSb_lodger.at 17 rfl) (own := 7) rfl fkSb_10 rfl rfl ?_
            refine ev_get (dSb_lodger.at 18 rfl) (own := 7) rfl fkSb_77 rfl rfl ?_
            refine ev_bipush (dSb_lodger.at 19 rfl) kB_7 ?_
            refine ev_icmp_lt (tgt := 43) (dSb_lodger.at 20 rfl) rfl (fun c6 => ?_) (fun c6 => ?_)
            · refine ev_aload_n (dSb_lodger.at 23 rfl) rfl ?_
              refine ev_getr (dSb_lodger.at 24 rfl) (own := 7) rfl fkSb_10 rfl rfl ?_
              refine ev_iload_n (dSb_lodger.at 25 rfl) rfl ?_
              refine ev_iload_n (dSb_lodger.at 26 rfl) rfl ?_
              refine ev_iload_n (dSb_lodger.at 27 rfl) rfl ?_
              refine ev_cVv (dSb_lodger.at 28 rfl) (As := [.int x1, .int x2, .int x3]) (own := 7) rfl ckSb_81 rfl rfl rfl (Nat.le_of_ble_eq_true rfl) rfl (m2 c1 c2 c3 c4 c5 c6) ?_
              refine ev_aload_n (dSb_lodger.at 29 rfl) rfl ?_
              refine ev_getr (dSb_lodger.at 30 rfl) (own := 7) rfl fkSb_28 rfl rfl ?_
              refine ev_cVv (dSb_lodger.at 31 rfl) (As := []) (own := 7) rfl ckSb_85 rfl rfl rfl (Nat.le_of_ble_eq_true rfl) rfl (m3 c1 c2 c3 c4 c5 c6) ?_
              refine ev_aload_n (dSb_lodger.at 32 rfl) rfl ?_
              refine ev_getr (dSb_lodger.at 33 rfl) (own := 7) rfl fkSb_10 rfl rfl ?_
              refine ev_get (dSb_lodger.at 34 rfl) (own := 7) rfl fkSb_77 rfl rfl ?_
              refine ev_iconst (dSb_lodger.at 35 rfl) kI_1 ?_
              refine ev_isub (dSb_lodger.at 36 rfl) ?_
              exact ev_iret (dSb_lodger.at 37 rfl) rfl (k5 c1 c2 c3 c4 c5 c6)
            · refine ev_bipush (dSb_lodger.at 21 rfl) kB_m3 ?_
              exact ev_iret (dSb_lodger.at 22 rfl) rfl (k6 c1 c2 c3 c4 c5 c6)
          · refine ev_iconst (dSb_lodger.at 14 rfl) kI_m1 ?_
            exact ev_iret (dSb_lodger.at 15 rfl) rfl (k7 c1 c2 c3 c4 c5)
set_option maxHeartbeats 4000000 in
theorem bSb_leave_0 {d : Nat} {w : sx_W} {Q : sx_Q} {x1 : Int32} {f1 : Int32} {w2 : sx_W} {w3 : sx_W}
    (m1 : sx_de d rHo_has [.ref 1, .int x1] w f1 0 w)
    (m2 : (¬ f1 = 0) → sx_de d rHo_dismiss [.ref 1, .int x1] w 0 0 w2)
    (m3 : (¬ f1 = 0) → sx_de d rSt_refresh [.ref 11] w2 0 0 w3)
    (k1 : (¬ f1 = 0) → Q (w3.1 1 4) 0 w3)
    (k2 : (f1 = 0) → Q (-1 : Int32) 0 w) :
    sx_ev (d + 1) rSb_leave 0 [.ref 0, .int x1] [] w Q := by
  refine ev_aload_n (dSb_leave.at 0 rfl) rfl ?_
  refine ev_getr (dSb_leave.at 1 rfl) (own := 7) rfl fkSb_10 rfl rfl ?_
  refine ev_iload_n (dSb_leave.at 2 rfl) rfl ?_
  refine ev_cVi (dSb_leave.at 3 rfl) (As := [.int x1]) (own := 7) rfl ckSb_88 rfl (Or.inr rfl) rfl (Nat.le_of_ble_eq_true rfl) rfl m1 ?_
  refine ev_if_ne (tgt := 13) (dSb_leave.at 4 rfl) rfl (fun c1 => ?_) (fun c1 => ?_)
  · refine ev_aload_n (dSb_leave.at 7 rfl) rfl ?_
    refine ev_getr (dSb_leave.at 8 rfl) (own := 7) rfl fkSb_10 rfl rfl ?_
    refine ev_iload_n (dSb_leave.at 9 rfl) rfl ?_
    refine ev_cVv (dSb_leave.at 10 rfl) (As := [.int x1]) (own := 7) rfl ckSb_91 rfl rfl rfl (Nat.le_of_ble_eq_true rfl) rfl (m2 c1) ?_
    refine ev_aload_n (dSb_leave.at 11 rfl) rfl ?_
    refine ev_getr (dSb_leave.at 12 rfl) (own := 7) rfl fkSb_28 rfl rfl ?_
    refine ev_cVv (dSb_leave.at 13 rfl) (As := []) (own := 7) rfl ckSb_85 rfl rfl rfl (Nat.le_of_ble_eq_true rfl) rfl (m3 c1) ?_
    refine ev_aload_n (dSb_leave.at 14 rfl) rfl ?_
    refine ev_getr (dSb_leave.at 15 rfl) (own := 7) rfl fkSb_10 rfl rfl ?_
    refine ev_get (dSb_leave.at 16 rfl) (own := 7) rfl fkSb_77 rfl rfl ?_
    exact ev_iret (dSb_leave.at 17 rfl) rfl (k1 c1)
  · refine ev_iconst (dSb_leave.at 5 rfl) kI_m1 ?_
    exact ev_iret (dSb_leave.at 6 rfl) rfl (k2 c1)
set_option maxHeartbeats 4000000 in
theorem bSb_told_0 {d : Nat} {w : sx_W} {Q : sx_Q} {x1 : Int32} {x2 : Int32} {f1 : Int32}
    (m1 : sx_de d rHo_has [.ref 1, .int x1] w f1 0 w)
    (o1 : (¬ f1 = 0) → (x2.toInt = 0 + 0) → vp_in x1 7)
    (k1 : (¬ f1 = 0) → (x2.toInt = 0 + 0) → Q (w.1 2 x1.toNatClampNeg) 0 w)
    (o2 : (¬ f1 = 0) → (x2.toInt = 0 + 1) → vp_in x1 7)
    (k2 : (¬ f1 = 0) → (x2.toInt = 0 + 1) → Q (w.1 3 x1.toNatClampNeg) 0 w)
    (o3 : (¬ f1 = 0) → (x2.toInt = 0 + 2) → vp_in x1 7)
    (k3 : (¬ f1 = 0) → (x2.toInt = 0 + 2) → Q (w.1 4 x1.toNatClampNeg) 0 w)
    (o4 : (¬ f1 = 0) → (x2.toInt = 0 + 3) → vp_in x1 7)
    (k4 : (¬ f1 = 0) → (x2.toInt = 0 + 3) → Q (w.1 12 x1.toNatClampNeg) 0 w)
    (k5 : (¬ f1 = 0) → (x2.toInt = 0 + 4) → ((w.1 1 7) = 0) → Q (-4 : Int32) 0 w)
    (o5 : (¬ f1 = 0) → (x2.toInt = 0 + 4) → (¬ (w.1 1 7) = 0) → vp_in x1 7)
    (k6 : (¬ f1 = 0) → (x2.toInt = 0 + 4) → (¬ (w.1 1 7) = 0) → Q (w.1 5 x1.toNatClampNeg) 0 w)
    (k7 : (¬ f1 = 0) → (x2.toInt < 0 ∨ 4 < x2.toInt) → Q (-1 : Int32) 0 w)
    (k8 : (f1 = 0) → Q (-1 : Int32) 0 w) :
    sx_ev (d + 1) rSb_told 0 [.ref 0, .int x1, .int x2] [] w Q := by
  refine ev_aload_n (dSb_told.at 0 rfl) rfl ?_
  refine ev_getr (dSb_told.at 1 rfl) (own := 7) rfl fkSb_10 rfl rfl ?_
  refine ev_iload_n (dSb_told.at 2 rfl) rfl ?_
  refine ev_cVi (dSb_told.at 3 rfl) (As := [.int x1]) (own := 7) rfl ckSb_88 rfl (Or.inr rfl) rfl (Nat.le_of_ble_eq_true rfl) rfl m1 ?_
  refine ev_if_ne (tgt := 13) (dSb_told.at 4 rfl) rfl (fun c1 => ?_) (fun c1 => ?_)
  · refine ev_iload_n (dSb_told.at 7 rfl) rfl ?_
    refine ev_tsw (td := 113) (dSb_told.at 8 rfl) rfl rfl (fun j off ho c2 => ?_) (fun c2 => ?_)
    · match j, ho, c2 with
      | 0, ho, c2 =>
        obtain rfl : (34 : Int) = off := Option.some.inj ho
        refine ⟨48, rfl, ?_⟩
        refine ev_aload_n (dSb_told.at 9 rfl) rfl ?_
        refine ev_getr (dSb_told.at 10 rfl) (own := 7) rfl fkSb_10 rfl rfl ?_
        refine ev_getr (dSb_told.at 11 rfl) (own := 7) rfl fkSb_95 rfl rfl ?_
        refine ev_iload_n (dSb_told.at 12 rfl) rfl ?_
        refine ev_iaload (dSb_told.at 13 rfl) rfl (o1 c1 c2) ?_
        exact ev_iret (dSb_told.at 14 rfl) rfl (k1 c1 c2)
      | 1, ho, c2 =>
        obtain rfl : (44 : Int) = off := Option.some.inj ho
        refine ⟨58, rfl, ?_⟩
        refine ev_aload_n (dSb_told.at 15 rfl) rfl ?_
        refine ev_getr (dSb_told.at 16 rfl) (own := 7) rfl fkSb_10 rfl rfl ?_
        refine ev_getr (dSb_told.at 17 rfl) (own := 7) rfl fkSb_98 rfl rfl ?_
        refine ev_iload_n (dSb_told.at 18 rfl) rfl ?_
        refine ev_iaload (dSb_told.at 19 rfl) rfl (o2 c1 c2) ?_
        exact ev_iret (dSb_told.at 20 rfl) rfl (k2 c1 c2)
      | 2, ho, c2 =>
        obtain rfl : (54 : Int) = off := Option.some.inj ho
        refine ⟨68, rfl, ?_⟩
        refine ev_aload_n (dSb_told.at 21 rfl) rfl ?_
        refine ev_getr (dSb_told.at 22 rfl) (own := 7) rfl fkSb_10 rfl rfl ?_
        refine ev_getr (dSb_told.at 23 rfl) (own := 7) rfl fkSb_101 rfl rfl ?_
        refine ev_iload_n (dSb_told.at 24 rfl) rfl ?_
        refine ev_iaload (dSb_told.at 25 rfl) rfl (o3 c1 c2) ?_
        exact ev_iret (dSb_told.at 26 rfl) rfl (k3 c1 c2)
      | 3, ho, c2 =>
        obtain rfl : (64 : Int) = off := Option.some.inj ho
        refine ⟨78, rfl, ?_⟩
        refine ev_aload_n (dSb_told.at 27 rfl) rfl ?_
        refine ev_getr (dSb_told.at 28 rfl) (own := 7) rfl fkSb_28 rfl rfl ?_
        refine ev_getr (dSb_told.at 29 rfl) (own := 7) rfl fkSb_104 rfl rfl ?_
        refine ev_iload_n (dSb_told.at 30 rfl) rfl ?_
        refine ev_iaload (dSb_told.at 31 rfl) rfl (o4 c1 c2) ?_
        exact ev_iret (dSb_told.at 32 rfl) rfl (k4 c1 c2)
      | 4, ho, c2 =>
        obtain rfl : (74 : Int) = off := Option.some.inj ho
        refine ⟨88, rfl, ?_⟩
        refine ev_aload_n (dSb_told.at 33 rfl) rfl ?_
        refine ev_getr (dSb_told.at 34 rfl) (own := 7) rfl fkSb_10 rfl rfl ?_
        refine ev_get (dSb_told.at 35 rfl) (own := 7) rfl fkSb_107 rfl rfl ?_
        refine ev_if_eq (tgt := 110) (dSb_told.at 36 rfl) rfl (fun c3 => ?_) (fun c3 => ?_)
        · refine ev_bipush (dSb_told.at 43 rfl) kB_m4 ?_
          exact ev_iret (dSb_told.at 44 rfl) rfl (k5 c1 c2 c3)
        · refine ev_aload_n (dSb_told.at 37 rfl) rfl ?_
          refine ev_getr (dSb_told.at 38 rfl) (own := 7) rfl fkSb_10 rfl rfl ?_
          refine ev_getr (dSb_told.at 39 rfl) (own := 7) rfl fkSb_110 rfl rfl ?_
          refine ev_iload_n (dSb_told.at 40 rfl) rfl ?_
          refine ev_iaload (dSb_told.at 41 rfl) rfl (o5 c1 c2 c3) ?_
          refine ev_goto (tgt := 112) (dSb_told.at 42 rfl) rfl ?_
          exact ev_iret (dSb_told.at 44 rfl) rfl (k6 c1 c2 c3)
      | j + 5, ho, _ => cases ho
    · refine ev_iconst (dSb_told.at 45 rfl) kI_m1 ?_
      exact ev_iret (dSb_told.at 46 rfl) rfl (k7 c1 c2)
  · refine ev_iconst (dSb_told.at 5 rfl) kI_m1 ?_
    exact ev_iret (dSb_told.at 6 rfl) rfl (k8 c1)
set_option maxHeartbeats 4000000 in
theorem bSb_work_0 {d : Nat} {w : sx_W} {Q : sx_Q} {x1 : Int32} {x2 : Int32} {f1 : Int32} {f2 : Int32} {w3 : sx_W} {w4 : sx_W}
    (m1 : sx_de d rHo_has [.ref 1, .int x1] w f1 0 w)
    (k1 : (f1 = 0) → Q (-1 : Int32) 0 w)
    (m2 : (¬ f1 = 0) → sx_de d rSb_isSetOfParts [.int x2] w f2 0 w)
    (o1 : (¬ f1 = 0) → (¬ f2 = 0) → vp_in x1 7)
    (m3 : (¬ f1 = 0) → (¬ f2 = 0) → sx_de d rHo_employ [.ref 1, .int x1, .int x2] w 0 0 w3)
    (m4 : (¬ f1 = 0) → (¬ f2 = 0) → sx_de d rSt_refresh [.ref 11] w3 0 0 w4)
    (k2 : (¬ f1 = 0) → (¬ f2 = 0) → Q (w.1 4 x1.toNatClampNeg) 0 w4)
    (k3 : (¬ f1 = 0) → (f2 = 0) → Q (-1 : Int32) 0 w) :
    sx_ev (d + 1) rSb_work 0 [.ref 0, .int x1, .int x2, .null] [] w Q := by
  refine ev_aload_n (dSb_work.at 0 rfl) rfl ?_
  refine ev_getr (dSb_work.at 1 rfl) (own := 7) rfl fkSb_10 rfl rfl ?_
  refine ev_iload_n (dSb_work.at 2 rfl) rfl ?_
  refine ev_cVi (dSb_work.at 3 rfl) (As := [.int x1]) (own := 7) rfl ckSb_88 rfl (Or.inr rfl) rfl (Nat.le_of_ble_eq_true rfl) rfl m1 ?_
  refine ev_if_eq (tgt := 18) (dSb_work.at 4 rfl) rfl (fun c1 => ?_) (fun c1 => ?_)
  · refine ev_iconst (dSb_work.at 8 rfl) kI_m1 ?_
    exact ev_iret (dSb_work.at 9 rfl) rfl (k1 c1)
  · refine ev_iload_n (dSb_work.at 5 rfl) rfl ?_
    refine ev_cSi (dSb_work.at 6 rfl) (As := [.int x2]) (own := 7) rfl ckSb_73 (Or.inr rfl) rfl (Nat.le_of_ble_eq_true rfl) rfl (m2 c1) ?_
    refine ev_if_ne (tgt := 20) (dSb_work.at 7 rfl) rfl (fun c2 => ?_) (fun c2 => ?_)
    · refine ev_aload_n (dSb_work.at 10 rfl) rfl ?_
      refine ev_getr (dSb_work.at 11 rfl) (own := 7) rfl fkSb_10 rfl rfl ?_
      refine ev_getr (dSb_work.at 12 rfl) (own := 7) rfl fkSb_101 rfl rfl ?_
      refine ev_iload_n (dSb_work.at 13 rfl) rfl ?_
      refine ev_iaload (dSb_work.at 14 rfl) rfl (o1 c1 c2) ?_
      refine ev_istore_n (dSb_work.at 15 rfl) (by decide) rfl ?_
      refine ev_aload_n (dSb_work.at 16 rfl) rfl ?_
      refine ev_getr (dSb_work.at 17 rfl) (own := 7) rfl fkSb_10 rfl rfl ?_
      refine ev_iload_n (dSb_work.at 18 rfl) rfl ?_
      refine ev_iload_n (dSb_work.at 19 rfl) rfl ?_
      refine ev_cVv (dSb_work.at 20 rfl) (As := [.int x1, .int x2]) (own := 7) rfl ckSb_113 rfl rfl rfl (Nat.le_of_ble_eq_true rfl) rfl (m3 c1 c2) ?_
      refine ev_aload_n (dSb_work.at 21 rfl) rfl ?_
      refine ev_getr (dSb_work.at 22 rfl) (own := 7) rfl fkSb_28 rfl rfl ?_
      refine ev_cVv (dSb_work.at 23 rfl) (As := []) (own := 7) rfl ckSb_85 rfl rfl rfl (Nat.le_of_ble_eq_true rfl) rfl (m4 c1 c2) ?_
      refine ev_iload_n (dSb_work.at 24 rfl) rfl ?_
      exact ev_iret (dSb_work.at 25 rfl) rfl (k2 c1 c2)
    · refine ev_iconst (dSb_work.at 8 rfl) kI_m1 ?_
      exact ev_iret (dSb_work.at 9 rfl) rfl (k3 c1 c2)
set_option maxHeartbeats 4000000 in
theorem bSb_sleeps_0 {d : Nat} {w : sx_W} {Q : sx_Q} {x1 : Int32} {x2 : Int32} {f1 : Int32} {f2 : Int32} {f3 : Int32}
    (m1 : sx_de d rHo_has [.ref 1, .int x1] w f1 0 w)
    (k1 : (f1 = 0) → Q (-1 : Int32) 0 w)
    (m2 : (¬ f1 = 0) → sx_de d rSb_isPart [.int x2] w f2 0 w)
    (m3 : (¬ f1 = 0) → (¬ f2 = 0) → sx_de d rHo_sleepSet [.ref 1, .int x1, .int x2] w f3 0 w)
    (k2 : (¬ f1 = 0) → (¬ f2 = 0) → Q f3 0 w)
    (k3 : (¬ f1 = 0) → (f2 = 0) → Q (-1 : Int32) 0 w) :
    sx_ev (d + 1) rSb_sleeps 0 [.ref 0, .int x1, .int x2] [] w Q := by
  refine ev_aload_n (dSb_sleeps.at 0 rfl) rfl ?_
  refine ev_getr (dSb_sleeps.at 1 rfl) (own := 7) rfl fkSb_10 rfl rfl ?_
  refine ev_iload_n (dSb_sleeps.at 2 rfl) rfl ?_
  refine ev_cVi (dSb_sleeps.at 3 rfl) (As := [.int x1]) (own := 7) rfl ckSb_88 rfl (Or.inr rfl) rfl (Nat.le_of_ble_eq_true rfl) rfl m1 ?_
  refine ev_if_eq (tgt := 18) (dSb_sleeps.at 4 rfl) rfl (fun c1 => ?_) (fun c1 => ?_)
  · refine ev_iconst (dSb_sleeps.at 8 rfl) kI_m1 ?_
    exact ev_iret (dSb_sleeps.at 9 rfl) rfl (k1 c1)
  · refine ev_iload_n (dSb_sleeps.at 5 rfl) rfl ?_
    refine ev_cSi (dSb_sleeps.at 6 rfl) (As := [.int x2]) (own := 7) rfl ckSb_117 (Or.inr rfl) rfl (Nat.le_of_ble_eq_true rfl) rfl (m2 c1) ?_
    refine ev_if_ne (tgt := 20) (dSb_sleeps.at 7 rfl) rfl (fun c2 => ?_) (fun c2 => ?_)
    · refine ev_aload_n (dSb_sleeps.at 10 rfl) rfl ?_
      refine ev_getr (dSb_sleeps.at 11 rfl) (own := 7) rfl fkSb_10 rfl rfl ?_
      refine ev_iload_n (dSb_sleeps.at 12 rfl) rfl ?_
      refine ev_iload_n (dSb_sleeps.at 13 rfl) rfl ?_
      refine ev_cVi (dSb_sleeps.at 14 rfl) (As := [.int x1, .int x2]) (own := 7) rfl ckSb_120 rfl (Or.inl rfl) rfl (Nat.le_of_ble_eq_true rfl) rfl (m3 c1 c2) ?_
      exact ev_iret (dSb_sleeps.at 15 rfl) rfl (k2 c1 c2)
    · refine ev_iconst (dSb_sleeps.at 8 rfl) kI_m1 ?_
      exact ev_iret (dSb_sleeps.at 9 rfl) rfl (k3 c1 c2)
set_option maxHeartbeats 4000000 in
theorem bSb_beds_0 {d : Nat} {w : sx_W} {Q : sx_Q} {x1 : Int32} {w1 : sx_W}
    (k1 : (x1 < (1 : Int32)) → Q (-1 : Int32) 0 w)
    (m1 : (¬ x1 < (1 : Int32)) → (x1 ≤ (7 : Int32)) → sx_de d rHo_furnish [.ref 1, .int x1] w 0 0 w1)
    (k2 : (¬ x1 < (1 : Int32)) → (x1 ≤ (7 : Int32)) → Q (w.1 1 5) 0 w1)
    (k3 : (¬ x1 < (1 : Int32)) → (¬ x1 ≤ (7 : Int32)) → Q (-1 : Int32) 0 w) :
    sx_ev (d + 1) rSb_beds 0 [.ref 0, .int x1, .null] [] w Q := by
  refine ev_iload_n (dSb_beds.at 0 rfl) rfl ?_
  refine ev_iconst (dSb_beds.at 1 rfl) kI_1 ?_
  refine ev_icmp_lt (tgt := 11) (dSb_beds.at 2 rfl) rfl (fun c1 => ?_) (fun c1 => ?_)
  · refine ev_iconst (dSb_beds.at 6 rfl) kI_m1 ?_
    exact ev_iret (dSb_beds.at 7 rfl) rfl (k1 c1)
  · refine ev_iload_n (dSb_beds.at 3 rfl) rfl ?_
    refine ev_bipush (dSb_beds.at 4 rfl) kB_7 ?_
    refine ev_icmp_le (tgt := 13) (dSb_beds.at 5 rfl) rfl (fun c2 => ?_) (fun c2 => ?_)
    · refine ev_aload_n (dSb_beds.at 8 rfl) rfl ?_
      refine ev_getr (dSb_beds.at 9 rfl) (own := 7) rfl fkSb_10 rfl rfl ?_
      refine ev_get (dSb_beds.at 10 rfl) (own := 7) rfl fkSb_124 rfl rfl ?_
      refine ev_istore_n (dSb_beds.at 11 rfl) (by decide) rfl ?_
      refine ev_aload_n (dSb_beds.at 12 rfl) rfl ?_
      refine ev_getr (dSb_beds.at 13 rfl) (own := 7) rfl fkSb_10 rfl rfl ?_
      refine ev_iload_n (dSb_beds.at 14 rfl) rfl ?_
      refine ev_cVv (dSb_beds.at 15 rfl) (As := [.int x1]) (own := 7) rfl ckSb_127 rfl rfl rfl (Nat.le_of_ble_eq_true rfl) rfl (m1 c1 c2) ?_
      refine ev_iload_n (dSb_beds.at 16 rfl) rfl ?_
      exact ev_iret (dSb_beds.at 17 rfl) rfl (k2 c1 c2)
    · refine ev_iconst (dSb_beds.at 6 rfl) kI_m1 ?_
      exact ev_iret (dSb_beds.at 7 rfl) rfl (k3 c1 c2)
set_option maxHeartbeats 4000000 in
theorem bSb_lasts_0 {d : Nat} {w : sx_W} {Q : sx_Q} {x1 : Int32}
    (k1 : (x1 < (1 : Int32)) → Q (-1 : Int32) 0 w)
    (k2 : (¬ x1 < (1 : Int32)) → (x1 ≤ (9 : Int32)) → Q (w.1 1 6) 0 ((sx_u w.1 1 6 x1), w.2))
    (k3 : (¬ x1 < (1 : Int32)) → (¬ x1 ≤ (9 : Int32)) → Q (-1 : Int32) 0 w) :
    sx_ev d rSb_lasts 0 [.ref 0, .int x1, .null] [] w Q := by
  refine ev_iload_n (dSb_lasts.at 0 rfl) rfl ?_
  refine ev_iconst (dSb_lasts.at 1 rfl) kI_1 ?_
  refine ev_icmp_lt (tgt := 11) (dSb_lasts.at 2 rfl) rfl (fun c1 => ?_) (fun c1 => ?_)
  · refine ev_iconst (dSb_lasts.at 6 rfl) kI_m1 ?_
    exact ev_iret (dSb_lasts.at 7 rfl) rfl (k1 c1)
  · refine ev_iload_n (dSb_lasts.at 3 rfl) rfl ?_
    refine ev_bipush (dSb_lasts.at 4 rfl) kB_9 ?_
    refine ev_icmp_le (tgt := 13) (dSb_lasts.at 5 rfl) rfl (fun c2 => ?_) (fun c2 => ?_)
    · refine ev_aload_n (dSb_lasts.at 8 rfl) rfl ?_
      refine ev_getr (dSb_lasts.at 9 rfl) (own := 7) rfl fkSb_10 rfl rfl ?_
      refine ev_get (dSb_lasts.at 10 rfl) (own := 7) rfl fkSb_130 rfl rfl ?_
      refine ev_istore_n (dSb_lasts.at 11 rfl) (by decide) rfl ?_
      refine ev_aload_n (dSb_lasts.at 12 rfl) rfl ?_
      refine ev_getr (dSb_lasts.at 13 rfl) (own := 7) rfl fkSb_10 rfl rfl ?_
      refine ev_iload_n (dSb_lasts.at 14 rfl) rfl ?_
      refine ev_put (dSb_lasts.at 15 rfl) (own := 7) rfl fkSb_130 rfl rfl ?_
      refine ev_iload_n (dSb_lasts.at 16 rfl) rfl ?_
      exact ev_iret (dSb_lasts.at 17 rfl) rfl (k2 c1 c2)
    · refine ev_iconst (dSb_lasts.at 6 rfl) kI_m1 ?_
      exact ev_iret (dSb_lasts.at 7 rfl) rfl (k3 c1 c2)
set_option maxHeartbeats 4000000 in
theorem bSb_type_0 {d : Nat} {w : sx_W} {Q : sx_Q} {y1 : Int64} {x3 : Int32} {f1 : Int32} {f2 : Int32} {w3 : sx_W}
    (m1 : sx_de d rTa_canHold [.long y1, .int x3] w f1 0 w)
    (m2 : (¬ f1 = 0) → sx_de d rTa_hasRoom [.ref 33, .int x3] w f2 0 w)
    (m3 : (¬ f1 = 0) → (¬ f2 = 0) → sx_de d rTa_append [.ref 33, .long y1, .int x3] w 0 0 w3)
    (k1 : (¬ f1 = 0) → (¬ f2 = 0) → Q (w3.1 33 1) 0 w3)
    (k2 : (¬ f1 = 0) → (f2 = 0) → Q (-3 : Int32) 0 w)
    (k3 : (f1 = 0) → Q (-1 : Int32) 0 w) :
    sx_ev (d + 1) rSb_type 0 [.ref 0, .long y1, .null, .int x3] [] w Q := by
  refine ev_lload_n (dSb_type.at 0 rfl) rfl ?_
  refine ev_iload_n (dSb_type.at 1 rfl) rfl ?_
  refine ev_cSi (dSb_type.at 2 rfl) (As := [.long y1, .int x3]) (own := 7) rfl ckSb_133 (Or.inr rfl) rfl (Nat.le_of_ble_eq_true rfl) rfl m1 ?_
  refine ev_if_ne (tgt := 10) (dSb_type.at 3 rfl) rfl (fun c1 => ?_) (fun c1 => ?_)
  · refine ev_aload_n (dSb_type.at 6 rfl) rfl ?_
    refine ev_getr (dSb_type.at 7 rfl) (own := 7) rfl fkSb_58 rfl rfl ?_
    refine ev_iload_n (dSb_type.at 8 rfl) rfl ?_
    refine ev_cVi (dSb_type.at 9 rfl) (As := [.int x3]) (own := 7) rfl ckSb_137 rfl (Or.inr rfl) rfl (Nat.le_of_ble_eq_true rfl) rfl (m2 c1) ?_
    refine ev_if_ne (tgt := 24) (dSb_type.at 10 rfl) rfl (fun c2 => ?_) (fun c2 => ?_)
    · refine ev_aload_n (dSb_type.at 13 rfl) rfl ?_
      refine ev_getr (dSb_type.at 14 rfl) (own := 7) rfl fkSb_58 rfl rfl ?_
      refine ev_lload_n (dSb_type.at 15 rfl) rfl ?_
      refine ev_iload_n (dSb_type.at 16 rfl) rfl ?_
      refine ev_cVv (dSb_type.at 17 rfl) (As := [.long y1, .int x3]) (own := 7) rfl ckSb_140 rfl rfl rfl (Nat.le_of_ble_eq_true rfl) rfl (m3 c1 c2) ?_
      refine ev_aload_n (dSb_type.at 18 rfl) rfl ?_
      refine ev_getr (dSb_type.at 19 rfl) (own := 7) rfl fkSb_58 rfl rfl ?_
      refine ev_get (dSb_type.at 20 rfl) (own := 7) rfl fkSb_144 rfl rfl ?_
      exact ev_iret (dSb_type.at 21 rfl) rfl (k1 c1 c2)
    · refine ev_bipush (dSb_type.at 11 rfl) kB_m3 ?_
      exact ev_iret (dSb_type.at 12 rfl) rfl (k2 c1 c2)
  · refine ev_iconst (dSb_type.at 4 rfl) kI_m1 ?_
    exact ev_iret (dSb_type.at 5 rfl) rfl (k3 c1)
set_option maxHeartbeats 4000000 in
theorem bSb_lodging_0 {d : Nat} {w : sx_W} {Q : sx_Q} {f1 : Int32} {w1 : sx_W} {w2 : sx_W}
    (m1 : sx_de d rTa_parses [.ref 33] w f1 0 w1)
    (m2 : (¬ f1 = 0) → sx_de d rHo_empty [.ref 1] ((sx_u w1.1 33 1 (0 : Int32)), w1.2) 0 0 w2)
    (k1 : (¬ f1 = 0) → sx_ev (d + 1) rSb_lodging 42 [.ref 0, .null, .null, .int (0 : Int32)] [] w2 Q)
    (k2 : (f1 = 0) → Q ((-20 : Int32) - (w1.1 33 2)) 0 ((sx_u w1.1 33 1 (0 : Int32)), w1.2)) :
    sx_ev (d + 1) rSb_lodging 0 [.ref 0, .null, .null, .null] [] w Q := by
  refine ev_aload_n (dSb_lodging.at 0 rfl) rfl ?_
  refine ev_getr (dSb_lodging.at 1 rfl) (own := 7) rfl fkSb_58 rfl rfl ?_
  refine ev_cVi (dSb_lodging.at 2 rfl) (As := []) (own := 7) rfl ckSb_147 rfl (Or.inr rfl) rfl (Nat.le_of_ble_eq_true rfl) rfl m1 ?_
  refine ev_istore_n (dSb_lodging.at 3 rfl) (by decide) rfl ?_
  refine ev_bipush (dSb_lodging.at 4 rfl) kB_m20 ?_
  refine ev_aload_n (dSb_lodging.at 5 rfl) rfl ?_
  refine ev_getr (dSb_lodging.at 6 rfl) (own := 7) rfl fkSb_58 rfl rfl ?_
  refine ev_get (dSb_lodging.at 7 rfl) (own := 7) rfl fkSb_151 rfl rfl ?_
  refine ev_isub (dSb_lodging.at 8 rfl) ?_
  refine ev_istore_n (dSb_lodging.at 9 rfl) (by decide) rfl ?_
  refine ev_aload_n (dSb_lodging.at 10 rfl) rfl ?_
  refine ev_getr (dSb_lodging.at 11 rfl) (own := 7) rfl fkSb_58 rfl rfl ?_
  refine ev_iconst (dSb_lodging.at 12 rfl) kI_0 ?_
  refine ev_put (dSb_lodging.at 13 rfl) (own := 7) rfl fkSb_144 rfl rfl ?_
  refine ev_iload_n (dSb_lodging.at 14 rfl) rfl ?_
  refine ev_if_ne (tgt := 33) (dSb_lodging.at 15 rfl) rfl (fun c1 => ?_) (fun c1 => ?_)
  · refine ev_aload_n (dSb_lodging.at 18 rfl) rfl ?_
    refine ev_getr (dSb_lodging.at 19 rfl) (own := 7) rfl fkSb_10 rfl rfl ?_
    refine ev_cVv (dSb_lodging.at 20 rfl) (As := []) (own := 7) rfl ckSb_154 rfl rfl rfl (Nat.le_of_ble_eq_true rfl) rfl (m2 c1) ?_
    refine ev_iconst (dSb_lodging.at 21 rfl) kI_0 ?_
    refine ev_istore_n (dSb_lodging.at 22 rfl) (by decide) rfl ?_
    refine ev_kp [true, false, false, true] rfl ?_
    exact (k1 c1)
  · refine ev_iload_n (dSb_lodging.at 16 rfl) rfl ?_
    exact ev_iret (dSb_lodging.at 17 rfl) rfl (k2 c1)
set_option maxHeartbeats 4000000 in
theorem bSb_lodging_42 {d : Nat} {w : sx_W} {Q : sx_Q} {x3 : Int32} {w1 : sx_W} {w2 : sx_W}
    (m1 : ((w.1 33 3) ≤ x3) → sx_de d rSt_refresh [.ref 11] w 0 0 w1)
    (k1 : ((w.1 33 3) ≤ x3) → Q (w1.1 1 4) 0 w1)
    (o1 : (¬ (w.1 33 3) ≤ x3) → vp_in x3 7)
    (m2 : (¬ (w.1 33 3) ≤ x3) → sx_de d rHo_admit [.ref 1, .int (w.1 35 x3.toNatClampNeg), .int (w.1 36 x3.toNatClampNeg), .int (w.1 37 x3.toNatClampNeg)] w 0 0 w2)
    (k2 : (¬ (w.1 33 3) ≤ x3) → sx_ev (d + 1) rSb_lodging 42 [.ref 0, .null, .null, .int (x3 + (1 : Int32))] [] w2 Q) :
    sx_ev (d + 1) rSb_lodging 42 [.ref 0, .null, .null, .int x3] [] w Q := by
  refine ev_iload_n (dSb_lodging.at 23 rfl) rfl ?_
  refine ev_aload_n (dSb_lodging.at 24 rfl) rfl ?_
  refine ev_getr (dSb_lodging.at 25 rfl) (own := 7) rfl fkSb_58 rfl rfl ?_
  refine ev_get (dSb_lodging.at 26 rfl) (own := 7) rfl fkSb_157 rfl rfl ?_
  refine ev_icmp_ge (tgt := 93) (dSb_lodging.at 27 rfl) rfl (fun c1 => ?_) (fun c1 => ?_)
  · refine ev_aload_n (dSb_lodging.at 48 rfl) rfl ?_
    refine ev_getr (dSb_lodging.at 49 rfl) (own := 7) rfl fkSb_28 rfl rfl ?_
    refine ev_cVv (dSb_lodging.at 50 rfl) (As := []) (own := 7) rfl ckSb_85 rfl rfl rfl (Nat.le_of_ble_eq_true rfl) rfl (m1 c1) ?_
    refine ev_aload_n (dSb_lodging.at 51 rfl) rfl ?_
    refine ev_getr (dSb_lodging.at 52 rfl) (own := 7) rfl fkSb_10 rfl rfl ?_
    refine ev_get (dSb_lodging.at 53 rfl) (own := 7) rfl fkSb_77 rfl rfl ?_
    exact ev_iret (dSb_lodging.at 54 rfl) rfl (k1 c1)
  · refine ev_aload_n (dSb_lodging.at 28 rfl) rfl ?_
    refine ev_getr (dSb_lodging.at 29 rfl) (own := 7) rfl fkSb_10 rfl rfl ?_
    refine ev_aload_n (dSb_lodging.at 30 rfl) rfl ?_
    refine ev_getr (dSb_lodging.at 31 rfl) (own := 7) rfl fkSb_58 rfl rfl ?_
    refine ev_getr (dSb_lodging.at 32 rfl) (own := 7) rfl fkSb_160 rfl rfl ?_
    refine ev_iload_n (dSb_lodging.at 33 rfl) rfl ?_
    refine ev_iaload (dSb_lodging.at 34 rfl) rfl (o1 c1) ?_
    refine ev_aload_n (dSb_lodging.at 35 rfl) rfl ?_
    refine ev_getr (dSb_lodging.at 36 rfl) (own := 7) rfl fkSb_58 rfl rfl ?_
    refine ev_getr (dSb_lodging.at 37 rfl) (own := 7) rfl fkSb_161 rfl rfl ?_
    refine ev_iload_n (dSb_lodging.at 38 rfl) rfl ?_
    refine ev_iaload (dSb_lodging.at 39 rfl) rfl (o1 c1) ?_
    refine ev_aload_n (dSb_lodging.at 40 rfl) rfl ?_
    refine ev_getr (dSb_lodging.at 41 rfl) (own := 7) rfl fkSb_58 rfl rfl ?_
    refine ev_getr (dSb_lodging.at 42 rfl) (own := 7) rfl fkSb_162 rfl rfl ?_
    refine ev_iload_n (dSb_lodging.at 43 rfl) rfl ?_
    refine ev_iaload (dSb_lodging.at 44 rfl) rfl (o1 c1) ?_
    refine ev_cVv (dSb_lodging.at 45 rfl) (As := [.int (w.1 35 x3.toNatClampNeg), .int (w.1 36 x3.toNatClampNeg), .int (w.1 37 x3.toNatClampNeg)]) (own := 7) rfl ckSb_81 rfl rfl rfl (Nat.le_of_ble_eq_true rfl) rfl (m2 c1) ?_
    refine ev_iinc (dSb_lodging.at 46 rfl) kI_1 rfl (by decide) rfl ?_
    refine ev_goto (tgt := 42) (dSb_lodging.at 47 rfl) rfl ?_
    exact (k2 c1)
set_option maxHeartbeats 4000000 in
theorem bSb_count_0 {d : Nat} {w : sx_W} {Q : sx_Q} {x1 : Int32} {f1 : Int32} {f2 : Int32}
    (k1 : (x1.toInt = 0 + 0) → Q (w.1 1 4) 0 w)
    (k2 : (x1.toInt = 0 + 1) → Q (w.1 1 5) 0 w)
    (m1 : (x1.toInt = 0 + 2) → sx_de d rHo_needOfAll [.ref 1] w f1 0 w)
    (k3 : (x1.toInt = 0 + 2) → Q f1 0 w)
    (k4 : (x1.toInt = 0 + 3) → ((w.1 1 7) = 0) → Q (0 : Int32) 0 w)
    (k5 : (x1.toInt = 0 + 3) → (¬ (w.1 1 7) = 0) → Q (1 : Int32) 0 w)
    (m2 : (x1.toInt = 0 + 4) → sx_de d rSb_rowIsGood [.ref 0] w f2 0 w)
    (k6 : (x1.toInt = 0 + 4) → (f2 = 0) → Q (0 : Int32) 0 w)
    (k7 : (x1.toInt = 0 + 4) → (¬ f2 = 0) → Q (1 : Int32) 0 w)
    (k8 : (x1.toInt < 0 ∨ 4 < x1.toInt) → Q (-1 : Int32) 0 w) :
    sx_ev (d + 1) rSb_count 0 [.ref 0, .int x1] [] w Q := by
  refine ev_iload_n (dSb_count.at 0 rfl) rfl ?_
  refine ev_tsw (td := 89) (dSb_count.at 1 rfl) rfl rfl (fun j off ho c1 => ?_) (fun c1 => ?_)
  · match j, ho, c1 with
    | 0, ho, c1 =>
      obtain rfl : (35 : Int) = off := Option.some.inj ho
      refine ⟨36, rfl, ?_⟩
      refine ev_aload_n (dSb_count.at 2 rfl) rfl ?_
      refine ev_getr (dSb_count.at 3 rfl) (own := 7) rfl fkSb_10 rfl rfl ?_
      refine ev_get (dSb_count.at 4 rfl) (own := 7) rfl fkSb_77 rfl rfl ?_
      exact ev_iret (dSb_count.at 5 rfl) rfl (k1 c1)
    | 1, ho, c1 =>
      obtain rfl : (43 : Int) = off := Option.some.inj ho
      refine ⟨44, rfl, ?_⟩
      refine ev_aload_n (dSb_count.at 6 rfl) rfl ?_
      refine ev_getr (dSb_count.at 7 rfl) (own := 7) rfl fkSb_10 rfl rfl ?_
      refine ev_get (dSb_count.at 8 rfl) (own := 7) rfl fkSb_124 rfl rfl ?_
      exact ev_iret (dSb_count.at 9 rfl) rfl (k2 c1)
    | 2, ho, c1 =>
      obtain rfl : (51 : Int) = off := Option.some.inj ho
      refine ⟨52, rfl, ?_⟩
      refine ev_aload_n (dSb_count.at 10 rfl) rfl ?_
      refine ev_getr (dSb_count.at 11 rfl) (own := 7) rfl fkSb_10 rfl rfl ?_
      refine ev_cVi (dSb_count.at 12 rfl) (As := []) (own := 7) rfl ckSb_163 rfl (Or.inl rfl) rfl (Nat.le_of_ble_eq_true rfl) rfl (m1 c1) ?_
      exact ev_iret (dSb_count.at 13 rfl) rfl (k3 c1)
    | 3, ho, c1 =>
      obtain rfl : (59 : Int) = off := Option.some.inj ho
      refine ⟨60, rfl, ?_⟩
      refine ev_aload_n (dSb_count.at 14 rfl) rfl ?_
      refine ev_getr (dSb_count.at 15 rfl) (own := 7) rfl fkSb_10 rfl rfl ?_
      refine ev_get (dSb_count.at 16 rfl) (own := 7) rfl fkSb_107 rfl rfl ?_
      refine ev_if_eq (tgt := 74) (dSb_count.at 17 rfl) rfl (fun c2 => ?_) (fun c2 => ?_)
      · refine ev_iconst (dSb_count.at 20 rfl) kI_0 ?_
        exact ev_iret (dSb_count.at 21 rfl) rfl (k4 c1 c2)
      · refine ev_iconst (dSb_count.at 18 rfl) kI_1 ?_
        refine ev_goto (tgt := 75) (dSb_count.at 19 rfl) rfl ?_
        exact ev_iret (dSb_count.at 21 rfl) rfl (k5 c1 c2)
    | 4, ho, c1 =>
      obtain rfl : (75 : Int) = off := Option.some.inj ho
      refine ⟨76, rfl, ?_⟩
      refine ev_aload_n (dSb_count.at 22 rfl) rfl ?_
      refine ev_cVi (dSb_count.at 23 rfl) (As := []) (own := 7) rfl ckSb_167 rfl (Or.inr rfl) rfl (Nat.le_of_ble_eq_true rfl) rfl (m2 c1) ?_
      refine ev_if_eq (tgt := 87) (dSb_count.at 24 rfl) rfl (fun c3 => ?_) (fun c3 => ?_)
      · refine ev_iconst (dSb_count.at 27 rfl) kI_0 ?_
        exact ev_iret (dSb_count.at 28 rfl) rfl (k6 c1 c3)
      · refine ev_iconst (dSb_count.at 25 rfl) kI_1 ?_
        refine ev_goto (tgt := 88) (dSb_count.at 26 rfl) rfl ?_
        exact ev_iret (dSb_count.at 28 rfl) rfl (k7 c1 c3)
    | j + 5, ho, _ => cases ho
  · refine ev_iconst (dSb_count.at 29 rfl) kI_m1 ?_
    exact ev_iret (dSb_count.at 30 rfl) rfl (k8 c1)
set_option maxHeartbeats 4000000 in
theorem bSb_first_0 {d : Nat} {w : sx_W} {Q : sx_Q} {x1 : Int32} {f1 : Int32} {f2 : Int32} {w2 : sx_W}
    (m1 : sx_de d rHo_has [.ref 1, .int x1] w f1 0 w)
    (m2 : (¬ f1 = 0) → sx_de d rSe_knowsFirst [.ref 16] w f2 0 w2)
    (k1 : (¬ f1 = 0) → (f2 = 0) → Q (-4 : Int32) 0 w2)
    (o1 : (¬ f1 = 0) → (¬ f2 = 0) → vp_in x1 7)
    (k2 : (¬ f1 = 0) → (¬ f2 = 0) → Q (w2.1 22 x1.toNatClampNeg) 0 w2)
    (k3 : (f1 = 0) → Q (-1 : Int32) 0 w) :
    sx_ev (d + 1) rSb_first 0 [.ref 0, .int x1] [] w Q := by
  refine ev_aload_n (dSb_first.at 0 rfl) rfl ?_
  refine ev_getr (dSb_first.at 1 rfl) (own := 7) rfl fkSb_10 rfl rfl ?_
  refine ev_iload_n (dSb_first.at 2 rfl) rfl ?_
  refine ev_cVi (dSb_first.at 3 rfl) (As := [.int x1]) (own := 7) rfl ckSb_88 rfl (Or.inr rfl) rfl (Nat.le_of_ble_eq_true rfl) rfl m1 ?_
  refine ev_if_ne (tgt := 13) (dSb_first.at 4 rfl) rfl (fun c1 => ?_) (fun c1 => ?_)
  · refine ev_aload_n (dSb_first.at 7 rfl) rfl ?_
    refine ev_getr (dSb_first.at 8 rfl) (own := 7) rfl fkSb_37 rfl rfl ?_
    refine ev_cVi (dSb_first.at 9 rfl) (As := []) (own := 7) rfl ckSb_170 rfl (Or.inr rfl) rfl (Nat.le_of_ble_eq_true rfl) rfl (m2 c1) ?_
    refine ev_if_eq (tgt := 35) (dSb_first.at 10 rfl) rfl (fun c2 => ?_) (fun c2 => ?_)
    · refine ev_bipush (dSb_first.at 17 rfl) kB_m4 ?_
      exact ev_iret (dSb_first.at 18 rfl) rfl (k1 c1 c2)
    · refine ev_aload_n (dSb_first.at 11 rfl) rfl ?_
      refine ev_getr (dSb_first.at 12 rfl) (own := 7) rfl fkSb_37 rfl rfl ?_
      refine ev_getr (dSb_first.at 13 rfl) (own := 7) rfl fkSb_173 rfl rfl ?_
      refine ev_iload_n (dSb_first.at 14 rfl) rfl ?_
      refine ev_iaload (dSb_first.at 15 rfl) rfl (o1 c1 c2) ?_
      refine ev_goto (tgt := 37) (dSb_first.at 16 rfl) rfl ?_
      exact ev_iret (dSb_first.at 18 rfl) rfl (k2 c1 c2)
  · refine ev_iconst (dSb_first.at 5 rfl) kI_m1 ?_
    exact ev_iret (dSb_first.at 6 rfl) rfl (k3 c1)
set_option maxHeartbeats 4000000 in
theorem bSb_ways_0 {d : Nat} {w : sx_W} {Q : sx_Q} {f1 : Int32} {w1 : sx_W}
    (m1 : sx_de d rSe_countGood [.ref 16] w f1 0 w1)
    (k1 : Q f1 0 w1) :
    sx_ev (d + 1) rSb_ways 0 [.ref 0] [] w Q := by
  refine ev_aload_n (dSb_ways.at 0 rfl) rfl ?_
  refine ev_getr (dSb_ways.at 1 rfl) (own := 7) rfl fkSb_37 rfl rfl ?_
  refine ev_cVi (dSb_ways.at 2 rfl) (As := []) (own := 7) rfl ckSb_176 rfl (Or.inl rfl) rfl (Nat.le_of_ble_eq_true rfl) rfl m1 ?_
  exact ev_iret (dSb_ways.at 3 rfl) rfl k1
set_option maxHeartbeats 4000000 in
theorem bSb_fewest_0 {d : Nat} {w : sx_W} {Q : sx_Q} {f1 : Int32} {w1 : sx_W}
    (m1 : sx_de d rSe_fewestBeds [.ref 16] w f1 0 w1)
    (k1 : Q f1 0 w1) :
    sx_ev (d + 1) rSb_fewest 0 [.ref 0] [] w Q := by
  refine ev_aload_n (dSb_fewest.at 0 rfl) rfl ?_
  refine ev_getr (dSb_fewest.at 1 rfl) (own := 7) rfl fkSb_37 rfl rfl ?_
  refine ev_cVi (dSb_fewest.at 2 rfl) (As := []) (own := 7) rfl ckSb_179 rfl (Or.inl rfl) rfl (Nat.le_of_ble_eq_true rfl) rfl m1 ?_
  exact ev_iret (dSb_fewest.at 3 rfl) rfl k1
set_option maxHeartbeats 4000000 in
theorem bSb_take_0 {d : Nat} {w : sx_W} {Q : sx_Q} {f1 : Int32} {w1 : sx_W} {w2 : sx_W}
    (m1 : sx_de d rSe_knowsFirst [.ref 16] w f1 0 w1)
    (m2 : (¬ f1 = 0) → sx_de d rHo_tellRow [.ref 1, .ref 22] w1 0 0 w2)
    (k1 : (¬ f1 = 0) → Q (w2.1 1 4) 0 w2)
    (k2 : (f1 = 0) → Q (-4 : Int32) 0 w1) :
    sx_ev (d + 1) rSb_take 0 [.ref 0] [] w Q := by
  refine ev_aload_n (dSb_take.at 0 rfl) rfl ?_
  refine ev_getr (dSb_take.at 1 rfl) (own := 7) rfl fkSb_37 rfl rfl ?_
  refine ev_cVi (dSb_take.at 2 rfl) (As := []) (own := 7) rfl ckSb_170 rfl (Or.inr rfl) rfl (Nat.le_of_ble_eq_true rfl) rfl m1 ?_
  refine ev_if_ne (tgt := 13) (dSb_take.at 3 rfl) rfl (fun c1 => ?_) (fun c1 => ?_)
  · refine ev_aload_n (dSb_take.at 6 rfl) rfl ?_
    refine ev_getr (dSb_take.at 7 rfl) (own := 7) rfl fkSb_10 rfl rfl ?_
    refine ev_aload_n (dSb_take.at 8 rfl) rfl ?_
    refine ev_getr (dSb_take.at 9 rfl) (own := 7) rfl fkSb_37 rfl rfl ?_
    refine ev_getr (dSb_take.at 10 rfl) (own := 7) rfl fkSb_173 rfl rfl ?_
    refine ev_cVv (dSb_take.at 11 rfl) (As := [.ref 22]) (own := 7) rfl ckSb_182 rfl rfl rfl (Nat.le_of_ble_eq_true rfl) rfl (m2 c1) ?_
    refine ev_aload_n (dSb_take.at 12 rfl) rfl ?_
    refine ev_getr (dSb_take.at 13 rfl) (own := 7) rfl fkSb_10 rfl rfl ?_
    refine ev_get (dSb_take.at 14 rfl) (own := 7) rfl fkSb_77 rfl rfl ?_
    exact ev_iret (dSb_take.at 15 rfl) rfl (k1 c1)
  · refine ev_bipush (dSb_take.at 4 rfl) kB_m4 ?_
    exact ev_iret (dSb_take.at 5 rfl) rfl (k2 c1)
set_option maxHeartbeats 4000000 in
theorem bSb_move_0 {d : Nat} {w : sx_W} {Q : sx_Q} {x1 : Int32} {x2 : Int32} {f1 : Int32} {f2 : Int32} {w3 : sx_W}
    (m1 : sx_de d rHo_has [.ref 1, .int x1] w f1 0 w)
    (k1 : (f1 = 0) → Q (-1 : Int32) 0 w)
    (m2 : (¬ f1 = 0) → sx_de d rSb_isPart [.int x2] w f2 0 w)
    (o1 : (¬ f1 = 0) → (¬ f2 = 0) → (¬ (w.1 1 7) = 0) → vp_in x1 7)
    (m3 : (¬ f1 = 0) → (¬ f2 = 0) → (¬ (w.1 1 7) = 0) → sx_de d rHo_shift [.ref 1, .int x1, .int x2] w 0 0 w3)
    (k2 : (¬ f1 = 0) → (¬ f2 = 0) → (¬ (w.1 1 7) = 0) → Q (w.1 5 x1.toNatClampNeg) 0 w3)
    (k3 : (¬ f1 = 0) → (¬ f2 = 0) → ((w.1 1 7) = 0) → Q (-2 : Int32) 0 w)
    (k4 : (¬ f1 = 0) → (f2 = 0) → Q (-1 : Int32) 0 w) :
    sx_ev (d + 1) rSb_move 0 [.ref 0, .int x1, .int x2, .null] [] w Q := by
  refine ev_aload_n (dSb_move.at 0 rfl) rfl ?_
  refine ev_getr (dSb_move.at 1 rfl) (own := 7) rfl fkSb_10 rfl rfl ?_
  refine ev_iload_n (dSb_move.at 2 rfl) rfl ?_
  refine ev_cVi (dSb_move.at 3 rfl) (As := [.int x1]) (own := 7) rfl ckSb_88 rfl (Or.inr rfl) rfl (Nat.le_of_ble_eq_true rfl) rfl m1 ?_
  refine ev_if_eq (tgt := 18) (dSb_move.at 4 rfl) rfl (fun c1 => ?_) (fun c1 => ?_)
  · refine ev_iconst (dSb_move.at 8 rfl) kI_m1 ?_
    exact ev_iret (dSb_move.at 9 rfl) rfl (k1 c1)
  · refine ev_iload_n (dSb_move.at 5 rfl) rfl ?_
    refine ev_cSi (dSb_move.at 6 rfl) (As := [.int x2]) (own := 7) rfl ckSb_117 (Or.inr rfl) rfl (Nat.le_of_ble_eq_true rfl) rfl (m2 c1) ?_
    refine ev_if_ne (tgt := 20) (dSb_move.at 7 rfl) rfl (fun c2 => ?_) (fun c2 => ?_)
    · refine ev_aload_n (dSb_move.at 10 rfl) rfl ?_
      refine ev_getr (dSb_move.at 11 rfl) (own := 7) rfl fkSb_10 rfl rfl ?_
      refine ev_get (dSb_move.at 12 rfl) (own := 7) rfl fkSb_107 rfl rfl ?_
      refine ev_if_ne (tgt := 33) (dSb_move.at 13 rfl) rfl (fun c3 => ?_) (fun c3 => ?_)
      · refine ev_aload_n (dSb_move.at 16 rfl) rfl ?_
        refine ev_getr (dSb_move.at 17 rfl) (own := 7) rfl fkSb_10 rfl rfl ?_
        refine ev_getr (dSb_move.at 18 rfl) (own := 7) rfl fkSb_110 rfl rfl ?_
        refine ev_iload_n (dSb_move.at 19 rfl) rfl ?_
        refine ev_iaload (dSb_move.at 20 rfl) rfl (o1 c1 c2 c3) ?_
        refine ev_istore_n (dSb_move.at 21 rfl) (by decide) rfl ?_
        refine ev_aload_n (dSb_move.at 22 rfl) rfl ?_
        refine ev_getr (dSb_move.at 23 rfl) (own := 7) rfl fkSb_10 rfl rfl ?_
        refine ev_iload_n (dSb_move.at 24 rfl) rfl ?_
        refine ev_iload_n (dSb_move.at 25 rfl) rfl ?_
        refine ev_cVv (dSb_move.at 26 rfl) (As := [.int x1, .int x2]) (own := 7) rfl ckSb_186 rfl rfl rfl (Nat.le_of_ble_eq_true rfl) rfl (m3 c1 c2 c3) ?_
        refine ev_iload_n (dSb_move.at 27 rfl) rfl ?_
        exact ev_iret (dSb_move.at 28 rfl) rfl (k2 c1 c2 c3)
      · refine ev_bipush (dSb_move.at 14 rfl) kB_m2 ?_
        exact ev_iret (dSb_move.at 15 rfl) rfl (k3 c1 c2 c3)
    · refine ev_iconst (dSb_move.at 8 rfl) kI_m1 ?_
      exact ev_iret (dSb_move.at 9 rfl) rfl (k4 c1 c2)
set_option maxHeartbeats 4000000 in
theorem bSb_mended_0 {d : Nat} {w : sx_W} {Q : sx_Q} {x1 : Int32} {f1 : Int32} {w1 : sx_W} {f2 : Int32} {w2 : sx_W} {f3 : Int32} {f4 : Int32} {w4 : sx_W} {f5 : Int32} {w5 : sx_W}
    (m1 : (x1 = (-1 : Int32)) → (¬ (w.1 1 7) = 0) → sx_de d rSe_knowsFirst [.ref 16] w f1 0 w1)
    (k1 : (x1 = (-1 : Int32)) → (¬ (w.1 1 7) = 0) → (f1 = 0) → Q (-4 : Int32) 0 w1)
    (m2 : (x1 = (-1 : Int32)) → (¬ (w.1 1 7) = 0) → (¬ f1 = 0) → sx_de d rSe_knowsMended [.ref 16] w1 f2 0 w2)
    (k2 : (x1 = (-1 : Int32)) → (¬ (w.1 1 7) = 0) → (¬ f1 = 0) → (¬ f2 = 0) → Q (w2.1 16 11) 0 w2)
    (k3 : (x1 = (-1 : Int32)) → (¬ (w.1 1 7) = 0) → (¬ f1 = 0) → (f2 = 0) → Q (-4 : Int32) 0 w2)
    (k4 : (x1 = (-1 : Int32)) → ((w.1 1 7) = 0) → Q (-2 : Int32) 0 w)
    (m3 : (¬ x1 = (-1 : Int32)) → sx_de d rHo_has [.ref 1, .int x1] w f3 0 w)
    (m4 : (¬ x1 = (-1 : Int32)) → (¬ f3 = 0) → (¬ (w.1 1 7) = 0) → sx_de d rSe_knowsFirst [.ref 16] w f4 0 w4)
    (k5 : (¬ x1 = (-1 : Int32)) → (¬ f3 = 0) → (¬ (w.1 1 7) = 0) → (f4 = 0) → Q (-4 : Int32) 0 w4)
    (m5 : (¬ x1 = (-1 : Int32)) → (¬ f3 = 0) → (¬ (w.1 1 7) = 0) → (¬ f4 = 0) → sx_de d rSe_knowsMended [.ref 16] w4 f5 0 w5)
    (o1 : (¬ x1 = (-1 : Int32)) → (¬ f3 = 0) → (¬ (w.1 1 7) = 0) → (¬ f4 = 0) → (¬ f5 = 0) → vp_in x1 7)
    (k6 : (¬ x1 = (-1 : Int32)) → (¬ f3 = 0) → (¬ (w.1 1 7) = 0) → (¬ f4 = 0) → (¬ f5 = 0) → Q (w5.1 23 x1.toNatClampNeg) 0 w5)
    (k7 : (¬ x1 = (-1 : Int32)) → (¬ f3 = 0) → (¬ (w.1 1 7) = 0) → (¬ f4 = 0) → (f5 = 0) → Q (-4 : Int32) 0 w5)
    (k8 : (¬ x1 = (-1 : Int32)) → (¬ f3 = 0) → ((w.1 1 7) = 0) → Q (-2 : Int32) 0 w)
    (k9 : (¬ x1 = (-1 : Int32)) → (f3 = 0) → Q (-1 : Int32) 0 w) :
    sx_ev (d + 1) rSb_mended 0 [.ref 0, .int x1] [] w Q := by
  refine ev_iload_n (dSb_mended.at 0 rfl) rfl ?_
  refine ev_iconst (dSb_mended.at 1 rfl) kI_m1 ?_
  refine ev_icmp_eq (tgt := 18) (dSb_mended.at 2 rfl) rfl (fun c1 => ?_) (fun c1 => ?_)
  · refine ev_aload_n (dSb_mended.at 10 rfl) rfl ?_
    refine ev_getr (dSb_mended.at 11 rfl) (own := 7) rfl fkSb_10 rfl rfl ?_
    refine ev_get (dSb_mended.at 12 rfl) (own := 7) rfl fkSb_107 rfl rfl ?_
    refine ev_if_ne (tgt := 31) (dSb_mended.at 13 rfl) rfl (fun c2 => ?_) (fun c2 => ?_)
    · refine ev_aload_n (dSb_mended.at 16 rfl) rfl ?_
      refine ev_getr (dSb_mended.at 17 rfl) (own := 7) rfl fkSb_37 rfl rfl ?_
      refine ev_cVi (dSb_mended.at 18 rfl) (As := []) (own := 7) rfl ckSb_170 rfl (Or.inr rfl) rfl (Nat.le_of_ble_eq_true rfl) rfl (m1 c1 c2) ?_
      refine ev_if_eq (tgt := 51) (dSb_mended.at 19 rfl) rfl (fun c3 => ?_) (fun c3 => ?_)
      · refine ev_bipush (dSb_mended.at 24 rfl) kB_m4 ?_
        exact ev_iret (dSb_mended.at 25 rfl) rfl (k1 c1 c2 c3)
      · refine ev_aload_n (dSb_mended.at 20 rfl) rfl ?_
        refine ev_getr (dSb_mended.at 21 rfl) (own := 7) rfl fkSb_37 rfl rfl ?_
        refine ev_cVi (dSb_mended.at 22 rfl) (As := []) (own := 7) rfl ckSb_189 rfl (Or.inr rfl) rfl (Nat.le_of_ble_eq_true rfl) rfl (m2 c1 c2 c3) ?_
        refine ev_if_ne (tgt := 54) (dSb_mended.at 23 rfl) rfl (fun c4 => ?_) (fun c4 => ?_)
        · refine ev_iload_n (dSb_mended.at 26 rfl) rfl ?_
          refine ev_iconst (dSb_mended.at 27 rfl) kI_m1 ?_
          refine ev_icmp_ne (tgt := 69) (dSb_mended.at 28 rfl) rfl (fun h => absurd c1 h) (fun _ => ?_)
          refine ev_aload_n (dSb_mended.at 29 rfl) rfl ?_
          refine ev_getr (dSb_mended.at 30 rfl) (own := 7) rfl fkSb_37 rfl rfl ?_
          refine ev_get (dSb_mended.at 31 rfl) (own := 7) rfl fkSb_192 rfl rfl ?_
          refine ev_goto (tgt := 78) (dSb_mended.at 32 rfl) rfl ?_
          exact ev_iret (dSb_mended.at 38 rfl) rfl (k2 c1 c2 c3 c4)
        · refine ev_bipush (dSb_mended.at 24 rfl) kB_m4 ?_
          exact ev_iret (dSb_mended.at 25 rfl) rfl (k3 c1 c2 c3 c4)
    · refine ev_bipush (dSb_mended.at 14 rfl) kB_m2 ?_
      exact ev_iret (dSb_mended.at 15 rfl) rfl (k4 c1 c2)
  · refine ev_aload_n (dSb_mended.at 3 rfl) rfl ?_
    refine ev_getr (dSb_mended.at 4 rfl) (own := 7) rfl fkSb_10 rfl rfl ?_
    refine ev_iload_n (dSb_mended.at 5 rfl) rfl ?_
    refine ev_cVi (dSb_mended.at 6 rfl) (As := [.int x1]) (own := 7) rfl ckSb_88 rfl (Or.inr rfl) rfl (Nat.le_of_ble_eq_true rfl) rfl (m3 c1) ?_
    refine ev_if_ne (tgt := 18) (dSb_mended.at 7 rfl) rfl (fun c5 => ?_) (fun c5 => ?_)
    · refine ev_aload_n (dSb_mended.at 10 rfl) rfl ?_
      refine ev_getr (dSb_mended.at 11 rfl) (own := 7) rfl fkSb_10 rfl rfl ?_
      refine ev_get (dSb_mended.at 12 rfl) (own := 7) rfl fkSb_107 rfl rfl ?_
      refine ev_if_ne (tgt := 31) (dSb_mended.at 13 rfl) rfl (fun c6 => ?_) (fun c6 => ?_)
      · refine ev_aload_n (dSb_mended.at 16 rfl) rfl ?_
        refine ev_getr (dSb_mended.at 17 rfl) (own := 7) rfl fkSb_37 rfl rfl ?_
        refine ev_cVi (dSb_mended.at 18 rfl) (As := []) (own := 7) rfl ckSb_170 rfl (Or.inr rfl) rfl (Nat.le_of_ble_eq_true rfl) rfl (m4 c1 c5 c6) ?_
        refine ev_if_eq (tgt := 51) (dSb_mended.at 19 rfl) rfl (fun c7 => ?_) (fun c7 => ?_)
        · refine ev_bipush (dSb_mended.at 24 rfl) kB_m4 ?_
          exact ev_iret (dSb_mended.at 25 rfl) rfl (k5 c1 c5 c6 c7)
        · refine ev_aload_n (dSb_mended.at 20 rfl) rfl ?_
          refine ev_getr (dSb_mended.at 21 rfl) (own := 7) rfl fkSb_37 rfl rfl ?_
          refine ev_cVi (dSb_mended.at 22 rfl) (As := []) (own := 7) rfl ckSb_189 rfl (Or.inr rfl) rfl (Nat.le_of_ble_eq_true rfl) rfl (m5 c1 c5 c6 c7) ?_
          refine ev_if_ne (tgt := 54) (dSb_mended.at 23 rfl) rfl (fun c8 => ?_) (fun c8 => ?_)
          · refine ev_iload_n (dSb_mended.at 26 rfl) rfl ?_
            refine ev_iconst (dSb_mended.at 27 rfl) kI_m1 ?_
            refine ev_icmp_ne (tgt := 69) (dSb_mended.at 28 rfl) rfl (fun _ => ?_) (fun h => absurd h c1)
            refine ev_aload_n (dSb_mended.at 33 rfl) rfl ?_
            refine ev_getr (dSb_mended.at 34 rfl) (own := 7) rfl fkSb_37 rfl rfl ?_
            refine ev_getr (dSb_mended.at 35 rfl) (own := 7) rfl fkSb_195 rfl rfl ?_
            refine ev_iload_n (dSb_mended.at 36 rfl) rfl ?_
            refine ev_iaload (dSb_mended.at 37 rfl) rfl (o1 c1 c5 c6 c7 c8) ?_
            exact ev_iret (dSb_mended.at 38 rfl) rfl (k6 c1 c5 c6 c7 c8)
          · refine ev_bipush (dSb_mended.at 24 rfl) kB_m4 ?_
            exact ev_iret (dSb_mended.at 25 rfl) rfl (k7 c1 c5 c6 c7 c8)
      · refine ev_bipush (dSb_mended.at 14 rfl) kB_m2 ?_
        exact ev_iret (dSb_mended.at 15 rfl) rfl (k8 c1 c5 c6)
    · refine ev_iconst (dSb_mended.at 8 rfl) kI_m1 ?_
      exact ev_iret (dSb_mended.at 9 rfl) rfl (k9 c1 c5)
set_option maxHeartbeats 4000000 in
theorem bSb_rents_0 {d : Nat} {w : sx_W} {Q : sx_Q} {x1 : Int32} {f1 : Int32} {w1 : sx_W} {f2 : Int32} {w2 : sx_W} {f3 : Int32} {f4 : Int32} {w4 : sx_W} {f5 : Int32} {w5 : sx_W}
    (m1 : (x1 = (-1 : Int32)) → sx_de d rSe_knowsFirst [.ref 16] w f1 0 w1)
    (k1 : (x1 = (-1 : Int32)) → (f1 = 0) → Q (-4 : Int32) 0 w1)
    (m2 : (x1 = (-1 : Int32)) → (¬ f1 = 0) → sx_de d rMa_knowsLeast [.ref 24] w1 f2 0 w2)
    (k2 : (x1 = (-1 : Int32)) → (¬ f1 = 0) → (¬ f2 = 0) → Q (w2.1 24 4) 0 w2)
    (k3 : (x1 = (-1 : Int32)) → (¬ f1 = 0) → (f2 = 0) → Q (-4 : Int32) 0 w2)
    (m3 : (¬ x1 = (-1 : Int32)) → sx_de d rSb_isPart [.int x1] w f3 0 w)
    (m4 : (¬ x1 = (-1 : Int32)) → (¬ f3 = 0) → sx_de d rSe_knowsFirst [.ref 16] w f4 0 w4)
    (k4 : (¬ x1 = (-1 : Int32)) → (¬ f3 = 0) → (f4 = 0) → Q (-4 : Int32) 0 w4)
    (m5 : (¬ x1 = (-1 : Int32)) → (¬ f3 = 0) → (¬ f4 = 0) → sx_de d rMa_knowsLeast [.ref 24] w4 f5 0 w5)
    (o1 : (¬ x1 = (-1 : Int32)) → (¬ f3 = 0) → (¬ f4 = 0) → (¬ f5 = 0) → vp_in x1 8)
    (k5 : (¬ x1 = (-1 : Int32)) → (¬ f3 = 0) → (¬ f4 = 0) → (¬ f5 = 0) → Q (w5.1 26 x1.toNatClampNeg) 0 w5)
    (k6 : (¬ x1 = (-1 : Int32)) → (¬ f3 = 0) → (¬ f4 = 0) → (f5 = 0) → Q (-4 : Int32) 0 w5)
    (k7 : (¬ x1 = (-1 : Int32)) → (f3 = 0) → Q (-1 : Int32) 0 w) :
    sx_ev (d + 1) rSb_rents 0 [.ref 0, .int x1] [] w Q := by
  refine ev_iload_n (dSb_rents.at 0 rfl) rfl ?_
  refine ev_iconst (dSb_rents.at 1 rfl) kI_m1 ?_
  refine ev_icmp_eq (tgt := 14) (dSb_rents.at 2 rfl) rfl (fun c1 => ?_) (fun c1 => ?_)
  · refine ev_aload_n (dSb_rents.at 8 rfl) rfl ?_
    refine ev_getr (dSb_rents.at 9 rfl) (own := 7) rfl fkSb_37 rfl rfl ?_
    refine ev_cVi (dSb_rents.at 10 rfl) (As := []) (own := 7) rfl ckSb_170 rfl (Or.inr rfl) rfl (Nat.le_of_ble_eq_true rfl) rfl (m1 c1) ?_
    refine ev_if_eq (tgt := 34) (dSb_rents.at 11 rfl) rfl (fun c2 => ?_) (fun c2 => ?_)
    · refine ev_bipush (dSb_rents.at 16 rfl) kB_m4 ?_
      exact ev_iret (dSb_rents.at 17 rfl) rfl (k1 c1 c2)
    · refine ev_aload_n (dSb_rents.at 12 rfl) rfl ?_
      refine ev_getr (dSb_rents.at 13 rfl) (own := 7) rfl fkSb_44 rfl rfl ?_
      refine ev_cVi (dSb_rents.at 14 rfl) (As := []) (own := 7) rfl ckSb_198 rfl (Or.inr rfl) rfl (Nat.le_of_ble_eq_true rfl) rfl (m2 c1 c2) ?_
      refine ev_if_ne (tgt := 37) (dSb_rents.at 15 rfl) rfl (fun c3 => ?_) (fun c3 => ?_)
      · refine ev_iload_n (dSb_rents.at 18 rfl) rfl ?_
        refine ev_iconst (dSb_rents.at 19 rfl) kI_m1 ?_
        refine ev_icmp_ne (tgt := 52) (dSb_rents.at 20 rfl) rfl (fun h => absurd c1 h) (fun _ => ?_)
        refine ev_aload_n (dSb_rents.at 21 rfl) rfl ?_
        refine ev_getr (dSb_rents.at 22 rfl) (own := 7) rfl fkSb_44 rfl rfl ?_
        refine ev_get (dSb_rents.at 23 rfl) (own := 7) rfl fkSb_201 rfl rfl ?_
        refine ev_goto (tgt := 61) (dSb_rents.at 24 rfl) rfl ?_
        exact ev_iret (dSb_rents.at 30 rfl) rfl (k2 c1 c2 c3)
      · refine ev_bipush (dSb_rents.at 16 rfl) kB_m4 ?_
        exact ev_iret (dSb_rents.at 17 rfl) rfl (k3 c1 c2 c3)
  · refine ev_iload_n (dSb_rents.at 3 rfl) rfl ?_
    refine ev_cSi (dSb_rents.at 4 rfl) (As := [.int x1]) (own := 7) rfl ckSb_117 (Or.inr rfl) rfl (Nat.le_of_ble_eq_true rfl) rfl (m3 c1) ?_
    refine ev_if_ne (tgt := 14) (dSb_rents.at 5 rfl) rfl (fun c4 => ?_) (fun c4 => ?_)
    · refine ev_aload_n (dSb_rents.at 8 rfl) rfl ?_
      refine ev_getr (dSb_rents.at 9 rfl) (own := 7) rfl fkSb_37 rfl rfl ?_
      refine ev_cVi (dSb_rents.at 10 rfl) (As := []) (own := 7) rfl ckSb_170 rfl (Or.inr rfl) rfl (Nat.le_of_ble_eq_true rfl) rfl (m4 c1 c4) ?_
      refine ev_if_eq (tgt := 34) (dSb_rents.at 11 rfl) rfl (fun c5 => ?_) (fun c5 => ?_)
      · refine ev_bipush (dSb_rents.at 16 rfl) kB_m4 ?_
        exact ev_iret (dSb_rents.at 17 rfl) rfl (k4 c1 c4 c5)
      · refine ev_aload_n (dSb_rents.at 12 rfl) rfl ?_
        refine ev_getr (dSb_rents.at 13 rfl) (own := 7) rfl fkSb_44 rfl rfl ?_
        refine ev_cVi (dSb_rents.at 14 rfl) (As := []) (own := 7) rfl ckSb_198 rfl (Or.inr rfl) rfl (Nat.le_of_ble_eq_true rfl) rfl (m5 c1 c4 c5) ?_
        refine ev_if_ne (tgt := 37) (dSb_rents.at 15 rfl) rfl (fun c6 => ?_) (fun c6 => ?_)
        · refine ev_iload_n (dSb_rents.at 18 rfl) rfl ?_
          refine ev_iconst (dSb_rents.at 19 rfl) kI_m1 ?_
          refine ev_icmp_ne (tgt := 52) (dSb_rents.at 20 rfl) rfl (fun _ => ?_) (fun h => absurd h c1)
          refine ev_aload_n (dSb_rents.at 25 rfl) rfl ?_
          refine ev_getr (dSb_rents.at 26 rfl) (own := 7) rfl fkSb_44 rfl rfl ?_
          refine ev_getr (dSb_rents.at 27 rfl) (own := 7) rfl fkSb_204 rfl rfl ?_
          refine ev_iload_n (dSb_rents.at 28 rfl) rfl ?_
          refine ev_iaload (dSb_rents.at 29 rfl) rfl (o1 c1 c4 c5 c6) ?_
          exact ev_iret (dSb_rents.at 30 rfl) rfl (k5 c1 c4 c5 c6)
        · refine ev_bipush (dSb_rents.at 16 rfl) kB_m4 ?_
          exact ev_iret (dSb_rents.at 17 rfl) rfl (k6 c1 c4 c5 c6)
    · refine ev_iconst (dSb_rents.at 6 rfl) kI_m1 ?_
      exact ev_iret (dSb_rents.at 7 rfl) rfl (k7 c1 c4)
set_option maxHeartbeats 4000000 in
theorem bSb_bed_0 {d : Nat} {w : sx_W} {Q : sx_Q} {x1 : Int32} {x2 : Int32} {f1 : Int32} {f2 : Int32} {f3 : Int32} {f4 : Int32} {w4 : sx_W}
    (m1 : sx_de d rHo_has [.ref 1, .int x1] w f1 0 w)
    (k1 : (f1 = 0) → Q (-1 : Int32) 0 w)
    (m2 : (¬ f1 = 0) → sx_de d rSb_isPart [.int x2] w f2 0 w)
    (m3 : (¬ f1 = 0) → (¬ f2 = 0) → sx_de d rSb_rowIsGood [.ref 0] w f3 0 w)
    (m4 : (¬ f1 = 0) → (¬ f2 = 0) → (¬ f3 = 0) → sx_de d rNi_bedOf [.ref 27, .int x1, .int x2] w f4 0 w4)
    (k2 : (¬ f1 = 0) → (¬ f2 = 0) → (¬ f3 = 0) → (¬ f4 = (-1 : Int32)) → Q f4 0 w4)
    (k3 : (¬ f1 = 0) → (¬ f2 = 0) → (¬ f3 = 0) → (f4 = (-1 : Int32)) → Q (-4 : Int32) 0 w4)
    (k4 : (¬ f1 = 0) → (¬ f2 = 0) → (f3 = 0) → Q (-2 : Int32) 0 w)
    (k5 : (¬ f1 = 0) → (f2 = 0) → Q (-1 : Int32) 0 w) :
    sx_ev (d + 1) rSb_bed 0 [.ref 0, .int x1, .int x2, .null] [] w Q := by
  refine ev_aload_n (dSb_bed.at 0 rfl) rfl ?_
  refine ev_getr (dSb_bed.at 1 rfl) (own := 7) rfl fkSb_10 rfl rfl ?_
  refine ev_iload_n (dSb_bed.at 2 rfl) rfl ?_
  refine ev_cVi (dSb_bed.at 3 rfl) (As := [.int x1]) (own := 7) rfl ckSb_88 rfl (Or.inr rfl) rfl (Nat.le_of_ble_eq_true rfl) rfl m1 ?_
  refine ev_if_eq (tgt := 18) (dSb_bed.at 4 rfl) rfl (fun c1 => ?_) (fun c1 => ?_)
  · refine ev_iconst (dSb_bed.at 8 rfl) kI_m1 ?_
    exact ev_iret (dSb_bed.at 9 rfl) rfl (k1 c1)
  · refine ev_iload_n (dSb_bed.at 5 rfl) rfl ?_
    refine ev_cSi (dSb_bed.at 6 rfl) (As := [.int x2]) (own := 7) rfl ckSb_117 (Or.inr rfl) rfl (Nat.le_of_ble_eq_true rfl) rfl (m2 c1) ?_
    refine ev_if_ne (tgt := 20) (dSb_bed.at 7 rfl) rfl (fun c2 => ?_) (fun c2 => ?_)
    · refine ev_aload_n (dSb_bed.at 10 rfl) rfl ?_
      refine ev_cVi (dSb_bed.at 11 rfl) (As := []) (own := 7) rfl ckSb_167 rfl (Or.inr rfl) rfl (Nat.le_of_ble_eq_true rfl) rfl (m3 c1 c2) ?_
      refine ev_if_ne (tgt := 30) (dSb_bed.at 12 rfl) rfl (fun c3 => ?_) (fun c3 => ?_)
      · refine ev_aload_n (dSb_bed.at 15 rfl) rfl ?_
        refine ev_getr (dSb_bed.at 16 rfl) (own := 7) rfl fkSb_51 rfl rfl ?_
        refine ev_iload_n (dSb_bed.at 17 rfl) rfl ?_
        refine ev_iload_n (dSb_bed.at 18 rfl) rfl ?_
        refine ev_cVi (dSb_bed.at 19 rfl) (As := [.int x1, .int x2]) (own := 7) rfl ckSb_207 rfl (Or.inl rfl) rfl (Nat.le_of_ble_eq_true rfl) rfl (m4 c1 c2 c3) ?_
        refine ev_istore_n (dSb_bed.at 20 rfl) (by decide) rfl ?_
        refine ev_iload_n (dSb_bed.at 21 rfl) rfl ?_
        refine ev_iconst (dSb_bed.at 22 rfl) kI_m1 ?_
        refine ev_icmp_ne (tgt := 50) (dSb_bed.at 23 rfl) rfl (fun c4 => ?_) (fun c4 => ?_)
        · refine ev_iload_n (dSb_bed.at 26 rfl) rfl ?_
          exact ev_iret (dSb_bed.at 27 rfl) rfl (k2 c1 c2 c3 c4)
        · refine ev_bipush (dSb_bed.at 24 rfl) kB_m4 ?_
          refine ev_goto (tgt := 51) (dSb_bed.at 25 rfl) rfl ?_
          exact ev_iret (dSb_bed.at 27 rfl) rfl (k3 c1 c2 c3 c4)
      · refine ev_bipush (dSb_bed.at 13 rfl) kB_m2 ?_
        exact ev_iret (dSb_bed.at 14 rfl) rfl (k4 c1 c2 c3)
    · refine ev_iconst (dSb_bed.at 8 rfl) kI_m1 ?_
      exact ev_iret (dSb_bed.at 9 rfl) rfl (k5 c1 c2)
set_option maxHeartbeats 4000000 in
theorem bSb_linen_0 {d : Nat} {w : sx_W} {Q : sx_Q} {f1 : Int32} {f2 : Int32} {w2 : sx_W}
    (m1 : sx_de d rSb_rowIsGood [.ref 0] w f1 0 w)
    (k1 : (f1 = 0) → Q (-2 : Int32) 0 w)
    (m2 : (¬ f1 = 0) → sx_de d rNi_linenChanges [.ref 27] w f2 0 w2)
    (k2 : (¬ f1 = 0) → Q f2 0 w2) :
    sx_ev (d + 1) rSb_linen 0 [.ref 0] [] w Q := by
  refine ev_aload_n (dSb_linen.at 0 rfl) rfl ?_
  refine ev_cVi (dSb_linen.at 1 rfl) (As := []) (own := 7) rfl ckSb_167 rfl (Or.inr rfl) rfl (Nat.le_of_ble_eq_true rfl) rfl m1 ?_
  refine ev_if_eq (tgt := 17) (dSb_linen.at 2 rfl) rfl (fun c1 => ?_) (fun c1 => ?_)
  · refine ev_bipush (dSb_linen.at 7 rfl) kB_m2 ?_
    exact ev_iret (dSb_linen.at 8 rfl) rfl (k1 c1)
  · refine ev_aload_n (dSb_linen.at 3 rfl) rfl ?_
    refine ev_getr (dSb_linen.at 4 rfl) (own := 7) rfl fkSb_51 rfl rfl ?_
    refine ev_cVi (dSb_linen.at 5 rfl) (As := []) (own := 7) rfl ckSb_210 rfl (Or.inl rfl) rfl (Nat.le_of_ble_eq_true rfl) rfl (m2 c1) ?_
    refine ev_goto (tgt := 19) (dSb_linen.at 6 rfl) rfl ?_
    exact ev_iret (dSb_linen.at 8 rfl) rfl (k2 c1)
set_option maxHeartbeats 4000000 in
theorem bSb_sick_0 {d : Nat} {w : sx_W} {Q : sx_Q} {x1 : Int32} {x2 : Int32} {f1 : Int32} {f2 : Int32} {f3 : Int32} {f4 : Int32} {w4 : sx_W}
    (m1 : sx_de d rHo_isSetOfLodgers [.ref 1, .int x1] w f1 0 w)
    (k1 : (f1 = 0) → Q (-1 : Int32) 0 w)
    (m2 : (¬ f1 = 0) → sx_de d rSb_isDay [.int x2] w f2 0 w)
    (m3 : (¬ f1 = 0) → (¬ f2 = 0) → sx_de d rSb_rowIsGood [.ref 0] w f3 0 w)
    (k2 : (¬ f1 = 0) → (¬ f2 = 0) → (f3 = 0) → Q (-2 : Int32) 0 w)
    (m4 : (¬ f1 = 0) → (¬ f2 = 0) → (¬ f3 = 0) → sx_de d rNi_sickAfter [.ref 27, .int x1, .int x2] w f4 0 w4)
    (k3 : (¬ f1 = 0) → (¬ f2 = 0) → (¬ f3 = 0) → Q f4 0 w4)
    (k4 : (¬ f1 = 0) → (f2 = 0) → Q (-1 : Int32) 0 w) :
    sx_ev (d + 1) rSb_sick 0 [.ref 0, .int x1, .int x2] [] w Q := by
  refine ev_aload_n (dSb_sick.at 0 rfl) rfl ?_
  refine ev_getr (dSb_sick.at 1 rfl) (own := 7) rfl fkSb_10 rfl rfl ?_
  refine ev_iload_n (dSb_sick.at 2 rfl) rfl ?_
  refine ev_cVi (dSb_sick.at 3 rfl) (As := [.int x1]) (own := 7) rfl ckSb_213 rfl (Or.inr rfl) rfl (Nat.le_of_ble_eq_true rfl) rfl m1 ?_
  refine ev_if_eq (tgt := 18) (dSb_sick.at 4 rfl) rfl (fun c1 => ?_) (fun c1 => ?_)
  · refine ev_iconst (dSb_sick.at 8 rfl) kI_m1 ?_
    exact ev_iret (dSb_sick.at 9 rfl) rfl (k1 c1)
  · refine ev_iload_n (dSb_sick.at 5 rfl) rfl ?_
    refine ev_cSi (dSb_sick.at 6 rfl) (As := [.int x2]) (own := 7) rfl ckSb_216 (Or.inr rfl) rfl (Nat.le_of_ble_eq_true rfl) rfl (m2 c1) ?_
    refine ev_if_ne (tgt := 20) (dSb_sick.at 7 rfl) rfl (fun c2 => ?_) (fun c2 => ?_)
    · refine ev_aload_n (dSb_sick.at 10 rfl) rfl ?_
      refine ev_cVi (dSb_sick.at 11 rfl) (As := []) (own := 7) rfl ckSb_167 rfl (Or.inr rfl) rfl (Nat.le_of_ble_eq_true rfl) rfl (m3 c1 c2) ?_
      refine ev_if_eq (tgt := 39) (dSb_sick.at 12 rfl) rfl (fun c3 => ?_) (fun c3 => ?_)
      · refine ev_bipush (dSb_sick.at 19 rfl) kB_m2 ?_
        exact ev_iret (dSb_sick.at 20 rfl) rfl (k2 c1 c2 c3)
      · refine ev_aload_n (dSb_sick.at 13 rfl) rfl ?_
        refine ev_getr (dSb_sick.at 14 rfl) (own := 7) rfl fkSb_51 rfl rfl ?_
        refine ev_iload_n (dSb_sick.at 15 rfl) rfl ?_
        refine ev_iload_n (dSb_sick.at 16 rfl) rfl ?_
        refine ev_cVi (dSb_sick.at 17 rfl) (As := [.int x1, .int x2]) (own := 7) rfl ckSb_219 rfl (Or.inl rfl) rfl (Nat.le_of_ble_eq_true rfl) rfl (m4 c1 c2 c3) ?_
        refine ev_goto (tgt := 41) (dSb_sick.at 18 rfl) rfl ?_
        exact ev_iret (dSb_sick.at 20 rfl) rfl (k3 c1 c2 c3)
    · refine ev_iconst (dSb_sick.at 8 rfl) kI_m1 ?_
      exact ev_iret (dSb_sick.at 9 rfl) rfl (k4 c1 c2)
set_option maxHeartbeats 4000000 in
theorem bSb_brought_0 {d : Nat} {w : sx_W} {Q : sx_Q} {x1 : Int32} {x2 : Int32} {f1 : Int32} {f2 : Int32} {f3 : Int32} {f4 : Int32} {w4 : sx_W}
    (m1 : sx_de d rHo_isSetOfLodgers [.ref 1, .int x1] w f1 0 w)
    (k1 : (f1 = 0) → Q (-1 : Int32) 0 w)
    (m2 : (¬ f1 = 0) → sx_de d rSb_isDay [.int x2] w f2 0 w)
    (m3 : (¬ f1 = 0) → (¬ f2 = 0) → sx_de d rSb_rowIsGood [.ref 0] w f3 0 w)
    (k2 : (¬ f1 = 0) → (¬ f2 = 0) → (f3 = 0) → Q (-2 : Int32) 0 w)
    (m4 : (¬ f1 = 0) → (¬ f2 = 0) → (¬ f3 = 0) → sx_de d rNi_bringersOf [.ref 27, .int x1, .int x2] w f4 0 w4)
    (k3 : (¬ f1 = 0) → (¬ f2 = 0) → (¬ f3 = 0) → Q f4 0 w4)
    (k4 : (¬ f1 = 0) → (f2 = 0) → Q (-1 : Int32) 0 w) :
    sx_ev (d + 1) rSb_brought 0 [.ref 0, .int x1, .int x2] [] w Q := by
  refine ev_aload_n (dSb_brought.at 0 rfl) rfl ?_
  refine ev_getr (dSb_brought.at 1 rfl) (own := 7) rfl fkSb_10 rfl rfl ?_
  refine ev_iload_n (dSb_brought.at 2 rfl) rfl ?_
  refine ev_cVi (dSb_brought.at 3 rfl) (As := [.int x1]) (own := 7) rfl ckSb_213 rfl (Or.inr rfl) rfl (Nat.le_of_ble_eq_true rfl) rfl m1 ?_
  refine ev_if_eq (tgt := 18) (dSb_brought.at 4 rfl) rfl (fun c1 => ?_) (fun c1 => ?_)
  · refine ev_iconst (dSb_brought.at 8 rfl) kI_m1 ?_
    exact ev_iret (dSb_brought.at 9 rfl) rfl (k1 c1)
  · refine ev_iload_n (dSb_brought.at 5 rfl) rfl ?_
    refine ev_cSi (dSb_brought.at 6 rfl) (As := [.int x2]) (own := 7) rfl ckSb_216 (Or.inr rfl) rfl (Nat.le_of_ble_eq_true rfl) rfl (m2 c1) ?_
    refine ev_if_ne (tgt := 20) (dSb_brought.at 7 rfl) rfl (fun c2 => ?_) (fun c2 => ?_)
    · refine ev_aload_n (dSb_brought.at 10 rfl) rfl ?_
      refine ev_cVi (dSb_brought.at 11 rfl) (As := []) (own := 7) rfl ckSb_167 rfl (Or.inr rfl) rfl (Nat.le_of_ble_eq_true rfl) rfl (m3 c1 c2) ?_
      refine ev_if_eq (tgt := 39) (dSb_brought.at 12 rfl) rfl (fun c3 => ?_) (fun c3 => ?_)
      · refine ev_bipush (dSb_brought.at 19 rfl) kB_m2 ?_
        exact ev_iret (dSb_brought.at 20 rfl) rfl (k2 c1 c2 c3)
      · refine ev_aload_n (dSb_brought.at 13 rfl) rfl ?_
        refine ev_getr (dSb_brought.at 14 rfl) (own := 7) rfl fkSb_51 rfl rfl ?_
        refine ev_iload_n (dSb_brought.at 15 rfl) rfl ?_
        refine ev_iload_n (dSb_brought.at 16 rfl) rfl ?_
        refine ev_cVi (dSb_brought.at 17 rfl) (As := [.int x1, .int x2]) (own := 7) rfl ckSb_222 rfl (Or.inl rfl) rfl (Nat.le_of_ble_eq_true rfl) rfl (m4 c1 c2 c3) ?_
        refine ev_goto (tgt := 41) (dSb_brought.at 18 rfl) rfl ?_
        exact ev_iret (dSb_brought.at 20 rfl) rfl (k3 c1 c2 c3)
    · refine ev_iconst (dSb_brought.at 8 rfl) kI_m1 ?_
      exact ev_iret (dSb_brought.at 9 rfl) rfl (k4 c1 c2)
set_option maxHeartbeats 4000000 in
theorem bSb_image_0 {d : Nat} {w : sx_W} {Q : sx_Q} {w1 : sx_W}
    (m1 : sx_de d rHo_become [.ref 6, .ref 1] w 0 0 w1)
    (k1 : Q (1 : Int32) 0 ((sx_u w1.1 0 2 (1 : Int32)), w1.2)) :
    sx_ev (d + 1) rSb_image 0 [.ref 0] [] w Q := by
  refine ev_aload_n (dSb_image.at 0 rfl) rfl ?_
  refine ev_getr (dSb_image.at 1 rfl) (own := 7) rfl fkSb_16 rfl rfl ?_
  refine ev_aload_n (dSb_image.at 2 rfl) rfl ?_
  refine ev_getr (dSb_image.at 3 rfl) (own := 7) rfl fkSb_10 rfl rfl ?_
  refine ev_cVv (dSb_image.at 4 rfl) (As := [.ref 1]) (own := 7) rfl ckSb_225 rfl rfl rfl (Nat.le_of_ble_eq_true rfl) rfl m1 ?_
  refine ev_aload_n (dSb_image.at 5 rfl) rfl ?_
  refine ev_iconst (dSb_image.at 6 rfl) kI_1 ?_
  refine ev_putz (dSb_image.at 7 rfl) (own := 7) rfl fkSb_19 rfl rfl (by decide) ?_
  refine ev_iconst (dSb_image.at 8 rfl) kI_1 ?_
  exact ev_iret (dSb_image.at 9 rfl) rfl k1
set_option maxHeartbeats 4000000 in
theorem bSb_restore_0 {d : Nat} {w : sx_W} {Q : sx_Q} {w1 : sx_W} {w2 : sx_W}
    (m1 : (¬ (w.1 0 2) = 0) → sx_de d rHo_become [.ref 1, .ref 6] w 0 0 w1)
    (m2 : (¬ (w.1 0 2) = 0) → sx_de d rSt_refresh [.ref 11] w1 0 0 w2)
    (k1 : (¬ (w.1 0 2) = 0) → Q (1 : Int32) 0 w2)
    (k2 : ((w.1 0 2) = 0) → Q (-4 : Int32) 0 w) :
    sx_ev (d + 1) rSb_restore 0 [.ref 0] [] w Q := by
  refine ev_aload_n (dSb_restore.at 0 rfl) rfl ?_
  refine ev_get (dSb_restore.at 1 rfl) (own := 7) rfl fkSb_19 rfl rfl ?_
  refine ev_if_ne (tgt := 10) (dSb_restore.at 2 rfl) rfl (fun c1 => ?_) (fun c1 => ?_)
  · refine ev_aload_n (dSb_restore.at 5 rfl) rfl ?_
    refine ev_getr (dSb_restore.at 6 rfl) (own := 7) rfl fkSb_10 rfl rfl ?_
    refine ev_aload_n (dSb_restore.at 7 rfl) rfl ?_
    refine ev_getr (dSb_restore.at 8 rfl) (own := 7) rfl fkSb_16 rfl rfl ?_
    refine ev_cVv (dSb_restore.at 9 rfl) (As := [.ref 6]) (own := 7) rfl ckSb_225 rfl rfl rfl (Nat.le_of_ble_eq_true rfl) rfl (m1 c1) ?_
    refine ev_aload_n (dSb_restore.at 10 rfl) rfl ?_
    refine ev_getr (dSb_restore.at 11 rfl) (own := 7) rfl fkSb_28 rfl rfl ?_
    refine ev_cVv (dSb_restore.at 12 rfl) (As := []) (own := 7) rfl ckSb_85 rfl rfl rfl (Nat.le_of_ble_eq_true rfl) rfl (m2 c1) ?_
    refine ev_iconst (dSb_restore.at 13 rfl) kI_1 ?_
    exact ev_iret (dSb_restore.at 14 rfl) rfl (k1 c1)
  · refine ev_bipush (dSb_restore.at 3 rfl) kB_m4 ?_
    exact ev_iret (dSb_restore.at 4 rfl) rfl (k2 c1)
set_option maxHeartbeats 4000000 in
theorem bSb_lay_0 {d : Nat} {w : sx_W} {Q : sx_Q} {x1 : Int32} {x2 : Int32} {x3 : Int32} {f1 : Int32} {f2 : Int32} {w2 : sx_W} {w3 : sx_W} {f4 : Int32}
    (m1 : sx_de d rSb_refusalOfItems [.ref 0, .int x1, .int x2, .int x3, .int (w.1 1 4)] w f1 0 w)
    (k1 : (f1 = 0) → ((w.1 1 4) = 0) → Q (-2 : Int32) 0 w)
    (m2 : (f1 = 0) → (¬ (w.1 1 4) = 0) → sx_de d rSb_takeItems [.ref 0, .int x1, .int x3, .int (w.1 1 4), .int (7 : Int32)] w f2 0 w2)
    (m3 : (f1 = 0) → (¬ (w.1 1 4) = 0) → (¬ f2 = 0) → sx_de d rHo_tellRow [.ref 1, .ref 39] w2 0 0 w3)
    (m4 : (f1 = 0) → (¬ (w.1 1 4) = 0) → (¬ f2 = 0) → sx_de d rSb_rowIsGood [.ref 0] w3 f4 0 w3)
    (k2 : (f1 = 0) → (¬ (w.1 1 4) = 0) → (¬ f2 = 0) → (f4 = 0) → Q (0 : Int32) 0 w3)
    (k3 : (f1 = 0) → (¬ (w.1 1 4) = 0) → (¬ f2 = 0) → (¬ f4 = 0) → Q (1 : Int32) 0 w3)
    (k4 : (f1 = 0) → (¬ (w.1 1 4) = 0) → (f2 = 0) → Q (-2 : Int32) 0 w2)
    (k5 : (¬ f1 = 0) → Q f1 0 w) :
    sx_ev (d + 1) rSb_lay 0 [.ref 0, .int x1, .int x2, .int x3, .null] [] w Q := by
  refine ev_aload_n (dSb_lay.at 0 rfl) rfl ?_
  refine ev_iload_n (dSb_lay.at 1 rfl) rfl ?_
  refine ev_iload_n (dSb_lay.at 2 rfl) rfl ?_
  refine ev_iload_n (dSb_lay.at 3 rfl) rfl ?_
  refine ev_aload_n (dSb_lay.at 4 rfl) rfl ?_
  refine ev_getr (dSb_lay.at 5 rfl) (own := 7) rfl fkSb_10 rfl rfl ?_
  refine ev_get (dSb_lay.at 6 rfl) (own := 7) rfl fkSb_77 rfl rfl ?_
  refine ev_cVi (dSb_lay.at 7 rfl) (As := [.int x1, .int x2, .int x3, .int (w.1 1 4)]) (own := 7) rfl ckSb_228 rfl (Or.inl rfl) rfl (Nat.le_of_ble_eq_true rfl) rfl m1 ?_
  refine ev_istore (dSb_lay.at 8 rfl) (by decide) rfl ?_
  refine ev_iload (dSb_lay.at 9 rfl) rfl ?_
  refine ev_if_eq (tgt := 24) (dSb_lay.at 10 rfl) rfl (fun c1 => ?_) (fun c1 => ?_)
  · refine ev_aload_n (dSb_lay.at 13 rfl) rfl ?_
    refine ev_getr (dSb_lay.at 14 rfl) (own := 7) rfl fkSb_10 rfl rfl ?_
    refine ev_get (dSb_lay.at 15 rfl) (own := 7) rfl fkSb_77 rfl rfl ?_
    refine ev_if_eq (tgt := 52) (dSb_lay.at 16 rfl) rfl (fun c2 => ?_) (fun c2 => ?_)
    · refine ev_bipush (dSb_lay.at 26 rfl) kB_m2 ?_
      exact ev_iret (dSb_lay.at 27 rfl) rfl (k1 c1 c2)
    · refine ev_aload_n (dSb_lay.at 17 rfl) rfl ?_
      refine ev_iload_n (dSb_lay.at 18 rfl) rfl ?_
      refine ev_iload_n (dSb_lay.at 19 rfl) rfl ?_
      refine ev_aload_n (dSb_lay.at 20 rfl) rfl ?_
      refine ev_getr (dSb_lay.at 21 rfl) (own := 7) rfl fkSb_10 rfl rfl ?_
      refine ev_get (dSb_lay.at 22 rfl) (own := 7) rfl fkSb_77 rfl rfl ?_
      refine ev_bipush (dSb_lay.at 23 rfl) kB_7 ?_
      refine ev_cVi (dSb_lay.at 24 rfl) (As := [.int x1, .int x3, .int (w.1 1 4), .int (7 : Int32)]) (own := 7) rfl ckSb_232 rfl (Or.inr rfl) rfl (Nat.le_of_ble_eq_true rfl) rfl (m2 c1 c2) ?_
      refine ev_if_ne (tgt := 55) (dSb_lay.at 25 rfl) rfl (fun c3 => ?_) (fun c3 => ?_)
      · refine ev_aload_n (dSb_lay.at 28 rfl) rfl ?_
        refine ev_getr (dSb_lay.at 29 rfl) (own := 7) rfl fkSb_10 rfl rfl ?_
        refine ev_aload_n (dSb_lay.at 30 rfl) rfl ?_
        refine ev_getr (dSb_lay.at 31 rfl) (own := 7) rfl fkSb_68 rfl rfl ?_
        refine ev_cVv (dSb_lay.at 32 rfl) (As := [.ref 39]) (own := 7) rfl ckSb_182 rfl rfl rfl (Nat.le_of_ble_eq_true rfl) rfl (m3 c1 c2 c3) ?_
        refine ev_aload_n (dSb_lay.at 33 rfl) rfl ?_
        refine ev_cVi (dSb_lay.at 34 rfl) (As := []) (own := 7) rfl ckSb_167 rfl (Or.inr rfl) rfl (Nat.le_of_ble_eq_true rfl) rfl (m4 c1 c2 c3) ?_
        refine ev_if_eq (tgt := 77) (dSb_lay.at 35 rfl) rfl (fun c4 => ?_) (fun c4 => ?_)
        · refine ev_iconst (dSb_lay.at 38 rfl) kI_0 ?_
          exact ev_iret (dSb_lay.at 39 rfl) rfl (k2 c1 c2 c3 c4)
        · refine ev_iconst (dSb_lay.at 36 rfl) kI_1 ?_
          refine ev_goto (tgt := 78) (dSb_lay.at 37 rfl) rfl ?_
          exact ev_iret (dSb_lay.at 39 rfl) rfl (k3 c1 c2 c3 c4)
      · refine ev_bipush (dSb_lay.at 26 rfl) kB_m2 ?_
        exact ev_iret (dSb_lay.at 27 rfl) rfl (k4 c1 c2 c3)
  · refine ev_iload (dSb_lay.at 11 rfl) rfl ?_
    exact ev_iret (dSb_lay.at 12 rfl) rfl (k5 c1)
set_option maxHeartbeats 4000000 in
theorem bSb_judged_0 {d : Nat} {w : sx_W} {Q : sx_Q} {x1 : Int32} {x2 : Int32} {x3 : Int32} {f1 : Int32} {f2 : Int32} {w2 : sx_W} {f3 : Int32}
    (m1 : sx_de d rSb_refusalOfItems [.ref 0, .int x1, .int x2, .int x3, .int (w.1 1 4)] w f1 0 w)
    (m2 : (f1 = 0) → sx_de d rSb_takeItems [.ref 0, .int x1, .int x3, .int (w.1 1 4), .int (7 : Int32)] w f2 0 w2)
    (m3 : (f1 = 0) → sx_de d rSt_firstSpoiler [.ref 11, .ref 39] w2 f3 0 w2)
    (k1 : (f1 = 0) → (¬ f3 = (-1 : Int32)) → Q f3 0 w2)
    (k2 : (f1 = 0) → (f3 = (-1 : Int32)) → Q (-4 : Int32) 0 w2)
    (k3 : (¬ f1 = 0) → Q f1 0 w) :
    sx_ev (d + 1) rSb_judged 0 [.ref 0, .int x1, .int x2, .int x3, .null, .null] [] w Q := by
  refine ev_aload_n (dSb_judged.at 0 rfl) rfl ?_
  refine ev_iload_n (dSb_judged.at 1 rfl) rfl ?_
  refine ev_iload_n (dSb_judged.at 2 rfl) rfl ?_
  refine ev_iload_n (dSb_judged.at 3 rfl) rfl ?_
  refine ev_aload_n (dSb_judged.at 4 rfl) rfl ?_
  refine ev_getr (dSb_judged.at 5 rfl) (own := 7) rfl fkSb_10 rfl rfl ?_
  refine ev_get (dSb_judged.at 6 rfl) (own := 7) rfl fkSb_77 rfl rfl ?_
  refine ev_cVi (dSb_judged.at 7 rfl) (As := [.int x1, .int x2, .int x3, .int (w.1 1 4)]) (own := 7) rfl ckSb_228 rfl (Or.inl rfl) rfl (Nat.le_of_ble_eq_true rfl) rfl m1 ?_
  refine ev_istore (dSb_judged.at 8 rfl) (by decide) rfl ?_
  refine ev_iload (dSb_judged.at 9 rfl) rfl ?_
  refine ev_if_eq (tgt := 24) (dSb_judged.at 10 rfl) rfl (fun c1 => ?_) (fun c1 => ?_)
  · refine ev_aload_n (dSb_judged.at 13 rfl) rfl ?_
    refine ev_iload_n (dSb_judged.at 14 rfl) rfl ?_
    refine ev_iload_n (dSb_judged.at 15 rfl) rfl ?_
    refine ev_aload_n (dSb_judged.at 16 rfl) rfl ?_
    refine ev_getr (dSb_judged.at 17 rfl) (own := 7) rfl fkSb_10 rfl rfl ?_
    refine ev_get (dSb_judged.at 18 rfl) (own := 7) rfl fkSb_77 rfl rfl ?_
    refine ev_bipush (dSb_judged.at 19 rfl) kB_7 ?_
    refine ev_cVi (dSb_judged.at 20 rfl) (As := [.int x1, .int x3, .int (w.1 1 4), .int (7 : Int32)]) (own := 7) rfl ckSb_232 rfl (Or.inr rfl) rfl (Nat.le_of_ble_eq_true rfl) rfl (m2 c1) ?_
    refine ev_pop (dSb_judged.at 21 rfl) rfl ?_
    refine ev_aload_n (dSb_judged.at 22 rfl) rfl ?_
    refine ev_getr (dSb_judged.at 23 rfl) (own := 7) rfl fkSb_28 rfl rfl ?_
    refine ev_aload_n (dSb_judged.at 24 rfl) rfl ?_
    refine ev_getr (dSb_judged.at 25 rfl) (own := 7) rfl fkSb_68 rfl rfl ?_
    refine ev_cVi (dSb_judged.at 26 rfl) (As := [.ref 39]) (own := 7) rfl ckSb_236 rfl (Or.inl rfl) rfl (Nat.le_of_ble_eq_true rfl) rfl (m3 c1) ?_
    refine ev_istore (dSb_judged.at 27 rfl) (by decide) rfl ?_
    refine ev_iload (dSb_judged.at 28 rfl) rfl ?_
    refine ev_iconst (dSb_judged.at 29 rfl) kI_m1 ?_
    refine ev_icmp_ne (tgt := 64) (dSb_judged.at 30 rfl) rfl (fun c2 => ?_) (fun c2 => ?_)
    · refine ev_iload (dSb_judged.at 33 rfl) rfl ?_
      exact ev_iret (dSb_judged.at 34 rfl) rfl (k1 c1 c2)
    · refine ev_bipush (dSb_judged.at 31 rfl) kB_m4 ?_
      refine ev_goto (tgt := 66) (dSb_judged.at 32 rfl) rfl ?_
      exact ev_iret (dSb_judged.at 34 rfl) rfl (k2 c1 c2)
  · refine ev_iload (dSb_judged.at 11 rfl) rfl ?_
    exact ev_iret (dSb_judged.at 12 rfl) rfl (k3 c1)
set_option maxHeartbeats 4000000 in
theorem bSb_clears_0 {d : Nat} {w : sx_W} {Q : sx_Q} {x1 : Int32} {x2 : Int32} {x3 : Int32} {f1 : Int32} {f2 : Int32} {w2 : sx_W} {f3 : Int32} {f4 : Int32} {w4 : sx_W}
    (m1 : sx_de d rSb_refusalOfItems [.ref 0, .int x1, .int x2, .int x3, .int (8 : Int32)] w f1 0 w)
    (m2 : (f1 = 0) → sx_de d rSb_takeItems [.ref 0, .int x1, .int x3, .int (8 : Int32), .int (2 : Int32)] w f2 0 w2)
    (k1 : (f1 = 0) → (f2 = 0) → Q (-2 : Int32) 0 w2)
    (m3 : (f1 = 0) → (¬ f2 = 0) → sx_de d rSt_allMayBegin [.ref 11] w2 f3 0 w2)
    (m4 : (f1 = 0) → (¬ f2 = 0) → (¬ f3 = 0) → sx_de d rMa_areCleared [.ref 24, .ref 39] w2 f4 0 w4)
    (k2 : (f1 = 0) → (¬ f2 = 0) → (¬ f3 = 0) → (f4 = 0) → Q (0 : Int32) 0 w4)
    (k3 : (f1 = 0) → (¬ f2 = 0) → (¬ f3 = 0) → (¬ f4 = 0) → Q (1 : Int32) 0 w4)
    (k4 : (f1 = 0) → (¬ f2 = 0) → (f3 = 0) → Q (-2 : Int32) 0 w2)
    (k5 : (¬ f1 = 0) → Q f1 0 w) :
    sx_ev (d + 1) rSb_clears 0 [.ref 0, .int x1, .int x2, .int x3, .null] [] w Q := by
  refine ev_aload_n (dSb_clears.at 0 rfl) rfl ?_
  refine ev_iload_n (dSb_clears.at 1 rfl) rfl ?_
  refine ev_iload_n (dSb_clears.at 2 rfl) rfl ?_
  refine ev_iload_n (dSb_clears.at 3 rfl) rfl ?_
  refine ev_bipush (dSb_clears.at 4 rfl) kB_8 ?_
  refine ev_cVi (dSb_clears.at 5 rfl) (As := [.int x1, .int x2, .int x3, .int (8 : Int32)]) (own := 7) rfl ckSb_228 rfl (Or.inl rfl) rfl (Nat.le_of_ble_eq_true rfl) rfl m1 ?_
  refine ev_istore (dSb_clears.at 6 rfl) (by decide) rfl ?_
  refine ev_iload (dSb_clears.at 7 rfl) rfl ?_
  refine ev_if_eq (tgt := 19) (dSb_clears.at 8 rfl) rfl (fun c1 => ?_) (fun c1 => ?_)
  · refine ev_aload_n (dSb_clears.at 11 rfl) rfl ?_
    refine ev_iload_n (dSb_clears.at 12 rfl) rfl ?_
    refine ev_iload_n (dSb_clears.at 13 rfl) rfl ?_
    refine ev_bipush (dSb_clears.at 14 rfl) kB_8 ?_
    refine ev_iconst (dSb_clears.at 15 rfl) kI_2 ?_
    refine ev_cVi (dSb_clears.at 16 rfl) (As := [.int x1, .int x3, .int (8 : Int32), .int (2 : Int32)]) (own := 7) rfl ckSb_232 rfl (Or.inr rfl) rfl (Nat.le_of_ble_eq_true rfl) rfl (m2 c1) ?_
    refine ev_if_eq (tgt := 41) (dSb_clears.at 17 rfl) rfl (fun c2 => ?_) (fun c2 => ?_)
    · refine ev_bipush (dSb_clears.at 22 rfl) kB_m2 ?_
      exact ev_iret (dSb_clears.at 23 rfl) rfl (k1 c1 c2)
    · refine ev_aload_n (dSb_clears.at 18 rfl) rfl ?_
      refine ev_getr (dSb_clears.at 19 rfl) (own := 7) rfl fkSb_28 rfl rfl ?_
      refine ev_cVi (dSb_clears.at 20 rfl) (As := []) (own := 7) rfl ckSb_240 rfl (Or.inr rfl) rfl (Nat.le_of_ble_eq_true rfl) rfl (m3 c1 c2) ?_
      refine ev_if_ne (tgt := 44) (dSb_clears.at 21 rfl) rfl (fun c3 => ?_) (fun c3 => ?_)
      · refine ev_aload_n (dSb_clears.at 24 rfl) rfl ?_
        refine ev_getr (dSb_clears.at 25 rfl) (own := 7) rfl fkSb_44 rfl rfl ?_
        refine ev_aload_n (dSb_clears.at 26 rfl) rfl ?_
        refine ev_getr (dSb_clears.at 27 rfl) (own := 7) rfl fkSb_68 rfl rfl ?_
        refine ev_cVi (dSb_clears.at 28 rfl) (As := [.ref 39]) (own := 7) rfl ckSb_243 rfl (Or.inr rfl) rfl (Nat.le_of_ble_eq_true rfl) rfl (m4 c1 c2 c3) ?_
        refine ev_if_eq (tgt := 62) (dSb_clears.at 29 rfl) rfl (fun c4 => ?_) (fun c4 => ?_)
        · refine ev_iconst (dSb_clears.at 32 rfl) kI_0 ?_
          exact ev_iret (dSb_clears.at 33 rfl) rfl (k2 c1 c2 c3 c4)
        · refine ev_iconst (dSb_clears.at 30 rfl) kI_1 ?_
          refine ev_goto (tgt := 63) (dSb_clears.at 31 rfl) rfl ?_
          exact ev_iret (dSb_clears.at 33 rfl) rfl (k3 c1 c2 c3 c4)
      · refine ev_bipush (dSb_clears.at 22 rfl) kB_m2 ?_
        exact ev_iret (dSb_clears.at 23 rfl) rfl (k4 c1 c2 c3)
  · refine ev_iload (dSb_clears.at 9 rfl) rfl ?_
    exact ev_iret (dSb_clears.at 10 rfl) rfl (k5 c1)
set_option maxHeartbeats 4000000 in
theorem bSb_sheet_0 {d : Nat} {w : sx_W} {Q : sx_Q} {x1 : Int32} {x2 : Int32} {x3 : Int32} {f1 : Int32} {f2 : Int32} {w3 : sx_W}
    (m1 : sx_de d rSb_isBadSheet [.int x1] w f1 0 w)
    (k1 : (¬ f1 = 0) → Q (-1 : Int32) 0 w)
    (m2 : (f1 = 0) → sx_de d rSb_isBadLane [.int x2] w f2 0 w)
    (k2 : (f1 = 0) → (¬ f2 = 0) → Q (-1 : Int32) 0 w)
    (o1 : (f1 = 0) → (f2 = 0) → (x3 ≤ (16 : Int32)) → (0 ≤ x3) → vp_in x1 4)
    (m3 : (f1 = 0) → (f2 = 0) → (x3 ≤ (16 : Int32)) → (0 ≤ x3) → sx_de d rSh_begin [.ref (40 + 2 * x1.toNatClampNeg), .int x2, .int x3] w 0 0 w3)
    (k3 : (f1 = 0) → (f2 = 0) → (x3 ≤ (16 : Int32)) → (0 ≤ x3) → Q x3 0 w3)
    (k4 : (f1 = 0) → (f2 = 0) → (x3 ≤ (16 : Int32)) → (¬ 0 ≤ x3) → Q (-14 : Int32) 0 w)
    (k5 : (f1 = 0) → (f2 = 0) → (¬ x3 ≤ (16 : Int32)) → Q (-1 : Int32) 0 w) :
    sx_ev (d + 1) rSb_sheet 0 [.ref 0, .int x1, .int x2, .int x3] [] w Q := by
  refine ev_iload_n (dSb_sheet.at 0 rfl) rfl ?_
  refine ev_cSi (dSb_sheet.at 1 rfl) (As := [.int x1]) (own := 7) rfl ckSb_247 (Or.inr rfl) rfl (Nat.le_of_ble_eq_true rfl) rfl m1 ?_
  refine ev_if_ne (tgt := 20) (dSb_sheet.at 2 rfl) rfl (fun c1 => ?_) (fun c1 => ?_)
  · refine ev_iconst (dSb_sheet.at 9 rfl) kI_m1 ?_
    exact ev_iret (dSb_sheet.at 10 rfl) rfl (k1 c1)
  · refine ev_iload_n (dSb_sheet.at 3 rfl) rfl ?_
    refine ev_cSi (dSb_sheet.at 4 rfl) (As := [.int x2]) (own := 7) rfl ckSb_250 (Or.inr rfl) rfl (Nat.le_of_ble_eq_true rfl) rfl (m2 c1) ?_
    refine ev_if_ne (tgt := 20) (dSb_sheet.at 5 rfl) rfl (fun c2 => ?_) (fun c2 => ?_)
    · refine ev_iconst (dSb_sheet.at 9 rfl) kI_m1 ?_
      exact ev_iret (dSb_sheet.at 10 rfl) rfl (k2 c1 c2)
    · refine ev_iload_n (dSb_sheet.at 6 rfl) rfl ?_
      refine ev_bipush (dSb_sheet.at 7 rfl) kB_16 ?_
      refine ev_icmp_le (tgt := 22) (dSb_sheet.at 8 rfl) rfl (fun c3 => ?_) (fun c3 => ?_)
      · refine ev_iload_n (dSb_sheet.at 11 rfl) rfl ?_
        refine ev_if_ge (tgt := 29) (dSb_sheet.at 12 rfl) rfl (fun c4 => ?_) (fun c4 => ?_)
        · refine ev_aload_n (dSb_sheet.at 15 rfl) rfl ?_
          refine ev_getr (dSb_sheet.at 16 rfl) (own := 7) rfl fkSb_64 rfl rfl ?_
          refine ev_iload_n (dSb_sheet.at 17 rfl) rfl ?_
          refine ev_aaload (dSb_sheet.at 18 rfl) rfl (o1 c1 c2 c3 c4) (sx_shA (o1 c1 c2 c3 c4)) ?_
          refine ev_iload_n (dSb_sheet.at 19 rfl) rfl ?_
          refine ev_iload_n (dSb_sheet.at 20 rfl) rfl ?_
          refine ev_cVv (dSb_sheet.at 21 rfl) (As := [.int x2, .int x3]) (own := 7) rfl ckSb_253 (sx_shS (sx_lt4 (o1 c1 c2 c3 c4))) rfl rfl (Nat.le_of_ble_eq_true rfl) rfl (m3 c1 c2 c3 c4) ?_
          refine ev_iload_n (dSb_sheet.at 22 rfl) rfl ?_
          exact ev_iret (dSb_sheet.at 23 rfl) rfl (k3 c1 c2 c3 c4)
        · refine ev_bipush (dSb_sheet.at 13 rfl) kB_m14 ?_
          exact ev_iret (dSb_sheet.at 14 rfl) rfl (k4 c1 c2 c3 c4)
      · refine ev_iconst (dSb_sheet.at 9 rfl) kI_m1 ?_
        exact ev_iret (dSb_sheet.at 10 rfl) rfl (k5 c1 c2 c3)
set_option maxHeartbeats 4000000 in
theorem bSb_drop_0 {d : Nat} {w : sx_W} {Q : sx_Q} {x1 : Int32} {f1 : Int32}
    (m1 : sx_de d rSb_isBadSheet [.int x1] w f1 0 w)
    (o1 : (f1 = 0) → vp_in x1 4)
    (k1 : (f1 = 0) → ((w.1 (40 + 2 * x1.toNatClampNeg) 1) = 0) → Q ((sx_u w.1 (40 + 2 * x1.toNatClampNeg) 1 (1 : Int32)) (40 + 2 * x1.toNatClampNeg) 3) 0 ((sx_u w.1 (40 + 2 * x1.toNatClampNeg) 1 (1 : Int32)), w.2))
    (k2 : (f1 = 0) → (¬ (w.1 (40 + 2 * x1.toNatClampNeg) 1) = 0) → Q (-11 : Int32) 0 w)
    (k3 : (¬ f1 = 0) → Q (-1 : Int32) 0 w) :
    sx_ev (d + 1) rSb_drop 0 [.ref 0, .int x1, .null] [] w Q := by
  refine ev_iload_n (dSb_drop.at 0 rfl) rfl ?_
  refine ev_cSi (dSb_drop.at 1 rfl) (As := [.int x1]) (own := 7) rfl ckSb_247 (Or.inr rfl) rfl (Nat.le_of_ble_eq_true rfl) rfl m1 ?_
  refine ev_if_eq (tgt := 9) (dSb_drop.at 2 rfl) rfl (fun c1 => ?_) (fun c1 => ?_)
  · refine ev_aload_n (dSb_drop.at 5 rfl) rfl ?_
    refine ev_getr (dSb_drop.at 6 rfl) (own := 7) rfl fkSb_64 rfl rfl ?_
    refine ev_iload_n (dSb_drop.at 7 rfl) rfl ?_
    refine ev_aaload (dSb_drop.at 8 rfl) rfl (o1 c1) (sx_shA (o1 c1)) ?_
    refine ev_astore_n (dSb_drop.at 9 rfl) (by decide) rfl ?_
    refine ev_aload_n (dSb_drop.at 10 rfl) rfl ?_
    refine ev_get (dSb_drop.at 11 rfl) (own := 7) rfl fkSb_256 (sx_shS (sx_lt4 (o1 c1))) rfl ?_
    refine ev_if_eq (tgt := 26) (dSb_drop.at 12 rfl) rfl (fun c2 => ?_) (fun c2 => ?_)
    · refine ev_aload_n (dSb_drop.at 15 rfl) rfl ?_
      refine ev_iconst (dSb_drop.at 16 rfl) kI_1 ?_
      refine ev_putz (dSb_drop.at 17 rfl) (own := 7) rfl fkSb_256 (sx_shS (sx_lt4 (o1 c1))) rfl (by decide) ?_
      refine ev_aload_n (dSb_drop.at 18 rfl) rfl ?_
      refine ev_get (dSb_drop.at 19 rfl) (own := 7) rfl fkSb_259 (sx_shS (sx_lt4 (o1 c1))) rfl ?_
      exact ev_iret (dSb_drop.at 20 rfl) rfl (k1 c1 c2)
    · refine ev_bipush (dSb_drop.at 13 rfl) kB_m11 ?_
      exact ev_iret (dSb_drop.at 14 rfl) rfl (k2 c1 c2)
  · refine ev_iconst (dSb_drop.at 3 rfl) kI_m1 ?_
    exact ev_iret (dSb_drop.at 4 rfl) rfl (k3 c1)
set_option maxHeartbeats 4000000 in
theorem bSb_item_0 {d : Nat} {w : sx_W} {Q : sx_Q} {x1 : Int32} {x2 : Int32} {x3 : Int32} {y4 : Int64} {f1 : Int32} {w2 : sx_W}
    (m1 : sx_de d rSb_refusalOfItems [.ref 0, .int x1, .int x2, .int x3, .int (1 : Int32)] w f1 0 w)
    (o1 : (f1 = 0) → vp_in x1 4)
    (m2 : (f1 = 0) → sx_de d rSh_put [.ref (40 + 2 * x1.toNatClampNeg), .int x3, .long y4] w 0 0 w2)
    (k1 : (f1 = 0) → Q (1 : Int32) 0 w2)
    (k2 : (¬ f1 = 0) → Q f1 0 w) :
    sx_ev (d + 1) rSb_item 0 [.ref 0, .int x1, .int x2, .int x3, .long y4, .null, .null] [] w Q := by
  refine ev_aload_n (dSb_item.at 0 rfl) rfl ?_
  refine ev_iload_n (dSb_item.at 1 rfl) rfl ?_
  refine ev_iload_n (dSb_item.at 2 rfl) rfl ?_
  refine ev_iload_n (dSb_item.at 3 rfl) rfl ?_
  refine ev_iconst (dSb_item.at 4 rfl) kI_1 ?_
  refine ev_cVi (dSb_item.at 5 rfl) (As := [.int x1, .int x2, .int x3, .int (1 : Int32)]) (own := 7) rfl ckSb_228 rfl (Or.inl rfl) rfl (Nat.le_of_ble_eq_true rfl) rfl m1 ?_
  refine ev_istore (dSb_item.at 6 rfl) (by decide) rfl ?_
  refine ev_iload (dSb_item.at 7 rfl) rfl ?_
  refine ev_if_eq (tgt := 18) (dSb_item.at 8 rfl) rfl (fun c1 => ?_) (fun c1 => ?_)
  · refine ev_aload_n (dSb_item.at 11 rfl) rfl ?_
    refine ev_getr (dSb_item.at 12 rfl) (own := 7) rfl fkSb_64 rfl rfl ?_
    refine ev_iload_n (dSb_item.at 13 rfl) rfl ?_
    refine ev_aaload (dSb_item.at 14 rfl) rfl (o1 c1) (sx_shA (o1 c1)) ?_
    refine ev_iload_n (dSb_item.at 15 rfl) rfl ?_
    refine ev_lload (dSb_item.at 16 rfl) rfl ?_
    refine ev_cVv (dSb_item.at 17 rfl) (As := [.int x3, .long y4]) (own := 7) rfl ckSb_262 (sx_shS (sx_lt4 (o1 c1))) rfl rfl (Nat.le_of_ble_eq_true rfl) rfl (m2 c1) ?_
    refine ev_iconst (dSb_item.at 18 rfl) kI_1 ?_
    exact ev_iret (dSb_item.at 19 rfl) rfl (k1 c1)
  · refine ev_iload (dSb_item.at 9 rfl) rfl ?_
    exact ev_iret (dSb_item.at 10 rfl) rfl (k2 c1)
set_option maxHeartbeats 4000000 in
theorem bSb_film_0 {d : Nat} {w : sx_W} {Q : sx_Q} {x1 : Int32} {x2 : Int32} {x3 : Int32} {f1 : Int32} {f2 : Int32} {f3 : Int32}
    (m1 : sx_de d rSb_isBadSheet [.int x1] w f1 0 w)
    (k1 : (¬ f1 = 0) → Q (-1 : Int32) 0 w)
    (m2 : (f1 = 0) → sx_de d rSb_isBadLane [.int x2] w f2 0 w)
    (m3 : (f1 = 0) → (f2 = 0) → (¬ (w.1 1 7) = 0) → sx_de d rSb_refusalOfItems [.ref 0, .int x1, .int x2, .int x3, .int (w.1 1 4)] w f3 0 w)
    (k2 : (f1 = 0) → (f2 = 0) → (¬ (w.1 1 7) = 0) → (f3 = 0) → sx_ev (d + 1) rSb_film 56 [.ref 0, .int x1, .null, .int x3, .null, .int (0 : Int32)] [] w Q)
    (k3 : (f1 = 0) → (f2 = 0) → (¬ (w.1 1 7) = 0) → (¬ f3 = 0) → Q f3 0 w)
    (k4 : (f1 = 0) → (f2 = 0) → ((w.1 1 7) = 0) → Q (-2 : Int32) 0 w)
    (k5 : (f1 = 0) → (¬ f2 = 0) → Q (-1 : Int32) 0 w) :
    sx_ev (d + 1) rSb_film 0 [.ref 0, .int x1, .int x2, .int x3, .null, .null] [] w Q := by
  refine ev_iload_n (dSb_film.at 0 rfl) rfl ?_
  refine ev_cSi (dSb_film.at 1 rfl) (As := [.int x1]) (own := 7) rfl ckSb_247 (Or.inr rfl) rfl (Nat.le_of_ble_eq_true rfl) rfl m1 ?_
  refine ev_if_ne (tgt := 14) (dSb_film.at 2 rfl) rfl (fun c1 => ?_) (fun c1 => ?_)
  · refine ev_iconst (dSb_film.at 6 rfl) kI_m1 ?_
    exact ev_iret (dSb_film.at 7 rfl) rfl (k1 c1)
  · refine ev_iload_n (dSb_film.at 3 rfl) rfl ?_
    refine ev_cSi (dSb_film.at 4 rfl) (As := [.int x2]) (own := 7) rfl ckSb_250 (Or.inr rfl) rfl (Nat.le_of_ble_eq_true rfl) rfl (m2 c1) ?_
    refine ev_if_eq (tgt := 16) (dSb_film.at 5 rfl) rfl (fun c2 => ?_) (fun c2 => ?_)
    · refine ev_aload_n (dSb_film.at 8 rfl) rfl ?_
      refine ev_getr (dSb_film.at 9 rfl) (own := 7) rfl fkSb_10 rfl rfl ?_
      refine ev_get (dSb_film.at 10 rfl) (own := 7) rfl fkSb_107 rfl rfl ?_
      refine ev_if_ne (tgt := 29) (dSb_film.at 11 rfl) rfl (fun c3 => ?_) (fun c3 => ?_)
      · refine ev_aload_n (dSb_film.at 14 rfl) rfl ?_
        refine ev_iload_n (dSb_film.at 15 rfl) rfl ?_
        refine ev_iload_n (dSb_film.at 16 rfl) rfl ?_
        refine ev_iload_n (dSb_film.at 17 rfl) rfl ?_
        refine ev_aload_n (dSb_film.at 18 rfl) rfl ?_
        refine ev_getr (dSb_film.at 19 rfl) (own := 7) rfl fkSb_10 rfl rfl ?_
        refine ev_get (dSb_film.at 20 rfl) (own := 7) rfl fkSb_77 rfl rfl ?_
        refine ev_cVi (dSb_film.at 21 rfl) (As := [.int x1, .int x2, .int x3, .int (w.1 1 4)]) (own := 7) rfl ckSb_228 rfl (Or.inl rfl) rfl (Nat.le_of_ble_eq_true rfl) rfl (m3 c1 c2 c3) ?_
        refine ev_istore (dSb_film.at 22 rfl) (by decide) rfl ?_
        refine ev_iload (dSb_film.at 23 rfl) rfl ?_
        refine ev_if_eq (tgt := 53) (dSb_film.at 24 rfl) rfl (fun c4 => ?_) (fun c4 => ?_)
        · refine ev_iconst (dSb_film.at 27 rfl) kI_0 ?_
          refine ev_istore (dSb_film.at 28 rfl) (by decide) rfl ?_
          refine ev_kp [true, true, false, true, false, true] rfl ?_
          exact (k2 c1 c2 c3 c4)
        · refine ev_iload (dSb_film.at 25 rfl) rfl ?_
          exact ev_iret (dSb_film.at 26 rfl) rfl (k3 c1 c2 c3 c4)
      · refine ev_bipush (dSb_film.at 12 rfl) kB_m2 ?_
        exact ev_iret (dSb_film.at 13 rfl) rfl (k4 c1 c2 c3)
    · refine ev_iconst (dSb_film.at 6 rfl) kI_m1 ?_
      exact ev_iret (dSb_film.at 7 rfl) rfl (k5 c1 c2)
set_option maxHeartbeats 4000000 in
theorem bSb_film_56 {d : Nat} {w : sx_W} {Q : sx_Q} {x1 : Int32} {x3 : Int32} {x5 : Int32} {w1 : sx_W}
    (k1 : ((w.1 1 4) ≤ x5) → Q (w.1 1 4) 0 w)
    (o1 : (¬ (w.1 1 4) ≤ x5) → vp_in x1 4)
    (o2 : (¬ (w.1 1 4) ≤ x5) → vp_in x5 7)
    (m1 : (¬ (w.1 1 4) ≤ x5) → sx_de d rSh_put [.ref (40 + 2 * x1.toNatClampNeg), .int (x3 + x5), .long (w.1 5 x5.toNatClampNeg).toInt64] w 0 0 w1)
    (k2 : (¬ (w.1 1 4) ≤ x5) → sx_ev (d + 1) rSb_film 56 [.ref 0, .int x1, .null, .int x3, .null, .int (x5 + (1 : Int32))] [] w1 Q) :
    sx_ev (d + 1) rSb_film 56 [.ref 0, .int x1, .null, .int x3, .null, .int x5] [] w Q := by
  refine ev_iload (dSb_film.at 29 rfl) rfl ?_
  refine ev_aload_n (dSb_film.at 30 rfl) rfl ?_
  refine ev_getr (dSb_film.at 31 rfl) (own := 7) rfl fkSb_10 rfl rfl ?_
  refine ev_get (dSb_film.at 32 rfl) (own := 7) rfl fkSb_77 rfl rfl ?_
  refine ev_icmp_ge (tgt := 98) (dSb_film.at 33 rfl) rfl (fun c1 => ?_) (fun c1 => ?_)
  · refine ev_aload_n (dSb_film.at 50 rfl) rfl ?_
    refine ev_getr (dSb_film.at 51 rfl) (own := 7) rfl fkSb_10 rfl rfl ?_
    refine ev_get (dSb_film.at 52 rfl) (own := 7) rfl fkSb_77 rfl rfl ?_
    exact ev_iret (dSb_film.at 53 rfl) rfl (k1 c1)
  · refine ev_aload_n (dSb_film.at 34 rfl) rfl ?_
    refine ev_getr (dSb_film.at 35 rfl) (own := 7) rfl fkSb_64 rfl rfl ?_
    refine ev_iload_n (dSb_film.at 36 rfl) rfl ?_
    refine ev_aaload (dSb_film.at 37 rfl) rfl (o1 c1) (sx_shA (o1 c1)) ?_
    refine ev_iload_n (dSb_film.at 38 rfl) rfl ?_
    refine ev_iload (dSb_film.at 39 rfl) rfl ?_
    refine ev_iadd (dSb_film.at 40 rfl) ?_
    refine ev_aload_n (dSb_film.at 41 rfl) rfl ?_
    refine ev_getr (dSb_film.at 42 rfl) (own := 7) rfl fkSb_10 rfl rfl ?_
    refine ev_getr (dSb_film.at 43 rfl) (own := 7) rfl fkSb_110 rfl rfl ?_
    refine ev_iload (dSb_film.at 44 rfl) rfl ?_
    refine ev_iaload (dSb_film.at 45 rfl) rfl (o2 c1) ?_
    refine ev_i2l (dSb_film.at 46 rfl) ?_
    refine ev_cVv (dSb_film.at 47 rfl) (As := [.int (x3 + x5), .long (w.1 5 x5.toNatClampNeg).toInt64]) (own := 7) rfl ckSb_262 (sx_shS (sx_lt4 (o1 c1))) rfl rfl (Nat.le_of_ble_eq_true rfl) rfl (m1 c1) ?_
    refine ev_iinc (dSb_film.at 48 rfl) kI_1 rfl (by decide) rfl ?_
    refine ev_goto (tgt := 56) (dSb_film.at 49 rfl) rfl ?_
    exact (k2 c1)
set_option maxHeartbeats 4000000 in
theorem bSb_copy_0 {d : Nat} {w : sx_W} {Q : sx_Q} {x1 : Int32} {x2 : Int32} {x3 : Int32} {x4 : Int32} {x5 : Int32} {f1 : Int32} {f2 : Int32} {f3 : Int32} {f4 : Int32}
    (m1 : sx_de d rSb_isBadSheet [.int x1] w f1 0 w)
    (k1 : (¬ f1 = 0) → Q (-1 : Int32) 0 w)
    (m2 : (f1 = 0) → sx_de d rSb_isBadSheet [.int x3] w f2 0 w)
    (o1 : (f1 = 0) → (f2 = 0) → vp_in x1 4)
    (o2 : (f1 = 0) → (f2 = 0) → vp_in x3 4)
    (k2 : (f1 = 0) → (f2 = 0) → (¬ (w.1 (40 + 2 * x1.toNatClampNeg) 1) = 0) → Q (-11 : Int32) 0 w)
    (m3 : (f1 = 0) → (f2 = 0) → ((w.1 (40 + 2 * x1.toNatClampNeg) 1) = 0) → ((w.1 (40 + 2 * x3.toNatClampNeg) 1) = 0) → ((w.1 (40 + 2 * x1.toNatClampNeg) 2) = (w.1 (40 + 2 * x3.toNatClampNeg) 2)) → sx_de d rSh_reaches [.ref (40 + 2 * x1.toNatClampNeg), .int x2, .int x5] w f3 0 w)
    (k3 : (f1 = 0) → (f2 = 0) → ((w.1 (40 + 2 * x1.toNatClampNeg) 1) = 0) → ((w.1 (40 + 2 * x3.toNatClampNeg) 1) = 0) → ((w.1 (40 + 2 * x1.toNatClampNeg) 2) = (w.1 (40 + 2 * x3.toNatClampNeg) 2)) → (f3 = 0) → Q (-13 : Int32) 0 w)
    (m4 : (f1 = 0) → (f2 = 0) → ((w.1 (40 + 2 * x1.toNatClampNeg) 1) = 0) → ((w.1 (40 + 2 * x3.toNatClampNeg) 1) = 0) → ((w.1 (40 + 2 * x1.toNatClampNeg) 2) = (w.1 (40 + 2 * x3.toNatClampNeg) 2)) → (¬ f3 = 0) → sx_de d rSh_reaches [.ref (40 + 2 * x3.toNatClampNeg), .int x4, .int x5] w f4 0 w)
    (o3 : (f1 = 0) → (f2 = 0) → ((w.1 (40 + 2 * x1.toNatClampNeg) 1) = 0) → ((w.1 (40 + 2 * x3.toNatClampNeg) 1) = 0) → ((w.1 (40 + 2 * x1.toNatClampNeg) 2) = (w.1 (40 + 2 * x3.toNatClampNeg) 2)) → (¬ f3 = 0) → (¬ f4 = 0) → ¬ x2 < 0)
    (o4 : (f1 = 0) → (f2 = 0) → ((w.1 (40 + 2 * x1.toNatClampNeg) 1) = 0) → ((w.1 (40 + 2 * x3.toNatClampNeg) 1) = 0) → ((w.1 (40 + 2 * x1.toNatClampNeg) 2) = (w.1 (40 + 2 * x3.toNatClampNeg) 2)) → (¬ f3 = 0) → (¬ f4 = 0) → ¬ x4 < 0)
    (o5 : (f1 = 0) → (f2 = 0) → ((w.1 (40 + 2 * x1.toNatClampNeg) 1) = 0) → ((w.1 (40 + 2 * x3.toNatClampNeg) 1) = 0) → ((w.1 (40 + 2 * x1.toNatClampNeg) 2) = (w.1 (40 + 2 * x3.toNatClampNeg) 2)) → (¬ f3 = 0) → (¬ f4 = 0) → ¬ x5 < 0)
    (o6 : (f1 = 0) → (f2 = 0) → ((w.1 (40 + 2 * x1.toNatClampNeg) 1) = 0) → ((w.1 (40 + 2 * x3.toNatClampNeg) 1) = 0) → ((w.1 (40 + 2 * x1.toNatClampNeg) 2) = (w.1 (40 + 2 * x3.toNatClampNeg) 2)) → (¬ f3 = 0) → (¬ f4 = 0) → x2.toNatClampNeg + x5.toNatClampNeg ≤ 16)
    (o7 : (f1 = 0) → (f2 = 0) → ((w.1 (40 + 2 * x1.toNatClampNeg) 1) = 0) → ((w.1 (40 + 2 * x3.toNatClampNeg) 1) = 0) → ((w.1 (40 + 2 * x1.toNatClampNeg) 2) = (w.1 (40 + 2 * x3.toNatClampNeg) 2)) → (¬ f3 = 0) → (¬ f4 = 0) → x4.toNatClampNeg + x5.toNatClampNeg ≤ 16)
    (k4 : (f1 = 0) → (f2 = 0) → ((w.1 (40 + 2 * x1.toNatClampNeg) 1) = 0) → ((w.1 (40 + 2 * x3.toNatClampNeg) 1) = 0) → ((w.1 (40 + 2 * x1.toNatClampNeg) 2) = (w.1 (40 + 2 * x3.toNatClampNeg) 2)) → (¬ f3 = 0) → (¬ f4 = 0) → Q x5 0 (w.1, (sx_cpl w.2 (41 + 2 * x1.toNatClampNeg) (41 + 2 * x3.toNatClampNeg) x2.toNatClampNeg x4.toNatClampNeg x5.toNatClampNeg)))
    (k5 : (f1 = 0) → (f2 = 0) → ((w.1 (40 + 2 * x1.toNatClampNeg) 1) = 0) → ((w.1 (40 + 2 * x3.toNatClampNeg) 1) = 0) → ((w.1 (40 + 2 * x1.toNatClampNeg) 2) = (w.1 (40 + 2 * x3.toNatClampNeg) 2)) → (¬ f3 = 0) → (f4 = 0) → Q (-13 : Int32) 0 w)
    (k6 : (f1 = 0) → (f2 = 0) → ((w.1 (40 + 2 * x1.toNatClampNeg) 1) = 0) → ((w.1 (40 + 2 * x3.toNatClampNeg) 1) = 0) → (¬ (w.1 (40 + 2 * x1.toNatClampNeg) 2) = (w.1 (40 + 2 * x3.toNatClampNeg) 2)) → Q (-12 : Int32) 0 w)
    (k7 : (f1 = 0) → (f2 = 0) → ((w.1 (40 + 2 * x1.toNatClampNeg) 1) = 0) → (¬ (w.1 (40 + 2 * x3.toNatClampNeg) 1) = 0) → Q (-11 : Int32) 0 w)
    (k8 : (f1 = 0) → (¬ f2 = 0) → Q (-1 : Int32) 0 w) :
    sx_ev (d + 1) rSb_copy 0 [.ref 0, .int x1, .int x2, .int x3, .int x4, .int x5, .null, .null] [] w Q := by
  refine ev_iload_n (dSb_copy.at 0 rfl) rfl ?_
  refine ev_cSi (dSb_copy.at 1 rfl) (As := [.int x1]) (own := 7) rfl ckSb_247 (Or.inr rfl) rfl (Nat.le_of_ble_eq_true rfl) rfl m1 ?_
  refine ev_if_ne (tgt := 14) (dSb_copy.at 2 rfl) rfl (fun c1 => ?_) (fun c1 => ?_)
  · refine ev_iconst (dSb_copy.at 6 rfl) kI_m1 ?_
    exact ev_iret (dSb_copy.at 7 rfl) rfl (k1 c1)
  · refine ev_iload_n (dSb_copy.at 3 rfl) rfl ?_
    refine ev_cSi (dSb_copy.at 4 rfl) (As := [.int x3]) (own := 7) rfl ckSb_247 (Or.inr rfl) rfl (Nat.le_of_ble_eq_true rfl) rfl (m2 c1) ?_
    refine ev_if_eq (tgt := 16) (dSb_copy.at 5 rfl) rfl (fun c2 => ?_) (fun c2 => ?_)
    · refine ev_aload_n (dSb_copy.at 8 rfl) rfl ?_
      refine ev_getr (dSb_copy.at 9 rfl) (own := 7) rfl fkSb_64 rfl rfl ?_
      refine ev_iload_n (dSb_copy.at 10 rfl) rfl ?_
      refine ev_aaload (dSb_copy.at 11 rfl) rfl (o1 c1 c2) (sx_shA (o1 c1 c2)) ?_
      refine ev_astore (dSb_copy.at 12 rfl) (by decide) rfl ?_
      refine ev_aload_n (dSb_copy.at 13 rfl) rfl ?_
      refine ev_getr (dSb_copy.at 14 rfl) (own := 7) rfl fkSb_64 rfl rfl ?_
      refine ev_iload_n (dSb_copy.at 15 rfl) rfl ?_
      refine ev_aaload (dSb_copy.at 16 rfl) rfl (o2 c1 c2) (sx_shA (o2 c1 c2)) ?_
      refine ev_astore (dSb_copy.at 17 rfl) (by decide) rfl ?_
      refine ev_aload (dSb_copy.at 18 rfl) rfl ?_
      refine ev_get (dSb_copy.at 19 rfl) (own := 7) rfl fkSb_256 (sx_shS (sx_lt4 (o1 c1 c2))) rfl ?_
      refine ev_if_ne (tgt := 48) (dSb_copy.at 20 rfl) rfl (fun c3 => ?_) (fun c3 => ?_)
      · refine ev_bipush (dSb_copy.at 24 rfl) kB_m11 ?_
        exact ev_iret (dSb_copy.at 25 rfl) rfl (k2 c1 c2 c3)
      · refine ev_aload (dSb_copy.at 21 rfl) rfl ?_
        refine ev_get (dSb_copy.at 22 rfl) (own := 7) rfl fkSb_256 (sx_shS (sx_lt4 (o2 c1 c2))) rfl ?_
        refine ev_if_eq (tgt := 51) (dSb_copy.at 23 rfl) rfl (fun c4 => ?_) (fun c4 => ?_)
        · refine ev_aload (dSb_copy.at 26 rfl) rfl ?_
          refine ev_get (dSb_copy.at 27 rfl) (own := 7) rfl fkSb_266 (sx_shS (sx_lt4 (o1 c1 c2))) rfl ?_
          refine ev_aload (dSb_copy.at 28 rfl) rfl ?_
          refine ev_get (dSb_copy.at 29 rfl) (own := 7) rfl fkSb_266 (sx_shS (sx_lt4 (o2 c1 c2))) rfl ?_
          refine ev_icmp_eq (tgt := 67) (dSb_copy.at 30 rfl) rfl (fun c5 => ?_) (fun c5 => ?_)
          · refine ev_aload (dSb_copy.at 33 rfl) rfl ?_
            refine ev_iload_n (dSb_copy.at 34 rfl) rfl ?_
            refine ev_iload (dSb_copy.at 35 rfl) rfl ?_
            refine ev_cVi (dSb_copy.at 36 rfl) (As := [.int x2, .int x5]) (own := 7) rfl ckSb_269 (sx_shS (sx_lt4 (o1 c1 c2))) (Or.inr rfl) rfl (Nat.le_of_ble_eq_true rfl) rfl (m3 c1 c2 c3 c4 c5) ?_
            refine ev_if_eq (tgt := 90) (dSb_copy.at 37 rfl) rfl (fun c6 => ?_) (fun c6 => ?_)
            · refine ev_bipush (dSb_copy.at 43 rfl) kB_m13 ?_
              exact ev_iret (dSb_copy.at 44 rfl) rfl (k3 c1 c2 c3 c4 c5 c6)
            · refine ev_aload (dSb_copy.at 38 rfl) rfl ?_
              refine ev_iload (dSb_copy.at 39 rfl) rfl ?_
              refine ev_iload (dSb_copy.at 40 rfl) rfl ?_
              refine ev_cVi (dSb_copy.at 41 rfl) (As := [.int x4, .int x5]) (own := 7) rfl ckSb_269 (sx_shS (sx_lt4 (o2 c1 c2))) (Or.inr rfl) rfl (Nat.le_of_ble_eq_true rfl) rfl (m4 c1 c2 c3 c4 c5 c6) ?_
              refine ev_if_ne (tgt := 93) (dSb_copy.at 42 rfl) rfl (fun c7 => ?_) (fun c7 => ?_)
              · refine ev_aload (dSb_copy.at 45 rfl) rfl ?_
                refine ev_getr (dSb_copy.at 46 rfl) (own := 7) rfl fkSb_273 (sx_shS (sx_lt4 (o1 c1 c2))) rfl ?_
                refine ev_iload_n (dSb_copy.at 47 rfl) rfl ?_
                refine ev_aload (dSb_copy.at 48 rfl) rfl ?_
                refine ev_getr (dSb_copy.at 49 rfl) (own := 7) rfl fkSb_273 (sx_shS (sx_lt4 (o2 c1 c2))) rfl ?_
                refine ev_iload (dSb_copy.at 50 rfl) rfl ?_
                refine ev_iload (dSb_copy.at 51 rfl) rfl ?_
                refine ev_copyl (dSb_copy.at 52 rfl) (own := 7) rfl (List.mem_of_getElem? (i := 0) rfl) (sx_shI (sx_lt4 (o1 c1 c2))) (sx_shI (sx_lt4 (o2 c1 c2))) (Nat.le_of_ble_eq_true rfl) (o3 c1 c2 c3 c4 c5 c6 c7) (o4 c1 c2 c3 c4 c5 c6 c7) (o5 c1 c2 c3 c4 c5 c6 c7) (o6 c1 c2 c3 c4 c5 c6 c7) (o7 c1 c2 c3 c4 c5 c6 c7) ?_
                refine ev_iload (dSb_copy.at 53 rfl) rfl ?_
                exact ev_iret (dSb_copy.at 54 rfl) rfl (k4 c1 c2 c3 c4 c5 c6 c7)
              · refine ev_bipush (dSb_copy.at 43 rfl) kB_m13 ?_
                exact ev_iret (dSb_copy.at 44 rfl) rfl (k5 c1 c2 c3 c4 c5 c6 c7)
          · refine ev_bipush (dSb_copy.at 31 rfl) kB_m12 ?_
            exact ev_iret (dSb_copy.at 32 rfl) rfl (k6 c1 c2 c3 c4 c5)
        · refine ev_bipush (dSb_copy.at 24 rfl) kB_m11 ?_
          exact ev_iret (dSb_copy.at 25 rfl) rfl (k7 c1 c2 c3 c4)
    · refine ev_iconst (dSb_copy.at 6 rfl) kI_m1 ?_
      exact ev_iret (dSb_copy.at 7 rfl) rfl (k8 c1 c2)
set_option maxHeartbeats 4000000 in
theorem bSb_rowIsGood_0 {d : Nat} {w : sx_W} {Q : sx_Q} {f1 : Int32}
    (k1 : ((w.1 1 7) = 0) → Q (0 : Int32) 0 w)
    (m1 : (¬ (w.1 1 7) = 0) → sx_de d rSt_firstSpoiler [.ref 11, .ref 5] w f1 0 w)
    (k2 : (¬ (w.1 1 7) = 0) → (¬ f1 = (-1 : Int32)) → Q (0 : Int32) 0 w)
    (k3 : (¬ (w.1 1 7) = 0) → (f1 = (-1 : Int32)) → Q (1 : Int32) 0 w) :
    sx_ev (d + 1) rSb_rowIsGood 0 [.ref 0] [] w Q := by
  refine ev_aload_n (dSb_rowIsGood.at 0 rfl) rfl ?_
  refine ev_getr (dSb_rowIsGood.at 1 rfl) (own := 7) rfl fkSb_10 rfl rfl ?_
  refine ev_get (dSb_rowIsGood.at 2 rfl) (own := 7) rfl fkSb_107 rfl rfl ?_
  refine ev_if_eq (tgt := 32) (dSb_rowIsGood.at 3 rfl) rfl (fun c1 => ?_) (fun c1 => ?_)
  · refine ev_iconst (dSb_rowIsGood.at 14 rfl) kI_0 ?_
    exact ev_zret (dSb_rowIsGood.at 15 rfl) rfl (by decide) (k1 c1)
  · refine ev_aload_n (dSb_rowIsGood.at 4 rfl) rfl ?_
    refine ev_getr (dSb_rowIsGood.at 5 rfl) (own := 7) rfl fkSb_28 rfl rfl ?_
    refine ev_aload_n (dSb_rowIsGood.at 6 rfl) rfl ?_
    refine ev_getr (dSb_rowIsGood.at 7 rfl) (own := 7) rfl fkSb_10 rfl rfl ?_
    refine ev_getr (dSb_rowIsGood.at 8 rfl) (own := 7) rfl fkSb_110 rfl rfl ?_
    refine ev_cVi (dSb_rowIsGood.at 9 rfl) (As := [.ref 5]) (own := 7) rfl ckSb_236 rfl (Or.inl rfl) rfl (Nat.le_of_ble_eq_true rfl) rfl (m1 c1) ?_
    refine ev_iconst (dSb_rowIsGood.at 10 rfl) kI_m1 ?_
    refine ev_icmp_ne (tgt := 32) (dSb_rowIsGood.at 11 rfl) rfl (fun c2 => ?_) (fun c2 => ?_)
    · refine ev_iconst (dSb_rowIsGood.at 14 rfl) kI_0 ?_
      exact ev_zret (dSb_rowIsGood.at 15 rfl) rfl (by decide) (k2 c1 c2)
    · refine ev_iconst (dSb_rowIsGood.at 12 rfl) kI_1 ?_
      refine ev_goto (tgt := 33) (dSb_rowIsGood.at 13 rfl) rfl ?_
      exact ev_zret (dSb_rowIsGood.at 15 rfl) rfl (by decide) (k3 c1 c2)
set_option maxHeartbeats 4000000 in
theorem bSb_refusalOfItems_0 {d : Nat} {w : sx_W} {Q : sx_Q} {x1 : Int32} {x2 : Int32} {x3 : Int32} {x4 : Int32} {f1 : Int32} {f2 : Int32} {f3 : Int32}
    (m1 : sx_de d rSb_isBadSheet [.int x1] w f1 0 w)
    (k1 : (¬ f1 = 0) → Q (-1 : Int32) 0 w)
    (m2 : (f1 = 0) → sx_de d rSb_isBadLane [.int x2] w f2 0 w)
    (o1 : (f1 = 0) → (f2 = 0) → vp_in x1 4)
    (m3 : (f1 = 0) → (f2 = 0) → ((w.1 (40 + 2 * x1.toNatClampNeg) 1) = 0) → ((w.1 (40 + 2 * x1.toNatClampNeg) 2) = x2) → sx_de d rSh_reaches [.ref (40 + 2 * x1.toNatClampNeg), .int x3, .int x4] w f3 0 w)
    (k2 : (f1 = 0) → (f2 = 0) → ((w.1 (40 + 2 * x1.toNatClampNeg) 1) = 0) → ((w.1 (40 + 2 * x1.toNatClampNeg) 2) = x2) → (f3 = 0) → Q (-13 : Int32) 0 w)
    (k3 : (f1 = 0) → (f2 = 0) → ((w.1 (40 + 2 * x1.toNatClampNeg) 1) = 0) → ((w.1 (40 + 2 * x1.toNatClampNeg) 2) = x2) → (¬ f3 = 0) → Q (0 : Int32) 0 w)
    (k4 : (f1 = 0) → (f2 = 0) → ((w.1 (40 + 2 * x1.toNatClampNeg) 1) = 0) → (¬ (w.1 (40 + 2 * x1.toNatClampNeg) 2) = x2) → Q (-12 : Int32) 0 w)
    (k5 : (f1 = 0) → (f2 = 0) → (¬ (w.1 (40 + 2 * x1.toNatClampNeg) 1) = 0) → Q (-11 : Int32) 0 w)
    (k6 : (f1 = 0) → (¬ f2 = 0) → Q (-1 : Int32) 0 w) :
    sx_ev (d + 1) rSb_refusalOfItems 0 [.ref 0, .int x1, .int x2, .int x3, .int x4, .null] [] w Q := by
  refine ev_iload_n (dSb_refusalOfItems.at 0 rfl) rfl ?_
  refine ev_cSi (dSb_refusalOfItems.at 1 rfl) (As := [.int x1]) (own := 7) rfl ckSb_247 (Or.inr rfl) rfl (Nat.le_of_ble_eq_true rfl) rfl m1 ?_
  refine ev_if_ne (tgt := 14) (dSb_refusalOfItems.at 2 rfl) rfl (fun c1 => ?_) (fun c1 => ?_)
  · refine ev_iconst (dSb_refusalOfItems.at 6 rfl) kI_m1 ?_
    exact ev_iret (dSb_refusalOfItems.at 7 rfl) rfl (k1 c1)
  · refine ev_iload_n (dSb_refusalOfItems.at 3 rfl) rfl ?_
    refine ev_cSi (dSb_refusalOfItems.at 4 rfl) (As := [.int x2]) (own := 7) rfl ckSb_250 (Or.inr rfl) rfl (Nat.le_of_ble_eq_true rfl) rfl (m2 c1) ?_
    refine ev_if_eq (tgt := 16) (dSb_refusalOfItems.at 5 rfl) rfl (fun c2 => ?_) (fun c2 => ?_)
    · refine ev_aload_n (dSb_refusalOfItems.at 8 rfl) rfl ?_
      refine ev_getr (dSb_refusalOfItems.at 9 rfl) (own := 7) rfl fkSb_64 rfl rfl ?_
      refine ev_iload_n (dSb_refusalOfItems.at 10 rfl) rfl ?_
      refine ev_aaload (dSb_refusalOfItems.at 11 rfl) rfl (o1 c1 c2) (sx_shA (o1 c1 c2)) ?_
      refine ev_astore (dSb_refusalOfItems.at 12 rfl) (by decide) rfl ?_
      refine ev_aload (dSb_refusalOfItems.at 13 rfl) rfl ?_
      refine ev_get (dSb_refusalOfItems.at 14 rfl) (own := 7) rfl fkSb_256 (sx_shS (sx_lt4 (o1 c1 c2))) rfl ?_
      refine ev_if_eq (tgt := 35) (dSb_refusalOfItems.at 15 rfl) rfl (fun c3 => ?_) (fun c3 => ?_)
      · refine ev_aload (dSb_refusalOfItems.at 18 rfl) rfl ?_
        refine ev_get (dSb_refusalOfItems.at 19 rfl) (own := 7) rfl fkSb_266 (sx_shS (sx_lt4 (o1 c1 c2))) rfl ?_
        refine ev_iload_n (dSb_refusalOfItems.at 20 rfl) rfl ?_
        refine ev_icmp_eq (tgt := 47) (dSb_refusalOfItems.at 21 rfl) rfl (fun c4 => ?_) (fun c4 => ?_)
        · refine ev_aload (dSb_refusalOfItems.at 24 rfl) rfl ?_
          refine ev_iload_n (dSb_refusalOfItems.at 25 rfl) rfl ?_
          refine ev_iload (dSb_refusalOfItems.at 26 rfl) rfl ?_
          refine ev_cVi (dSb_refusalOfItems.at 27 rfl) (As := [.int x3, .int x4]) (own := 7) rfl ckSb_269 (sx_shS (sx_lt4 (o1 c1 c2))) (Or.inr rfl) rfl (Nat.le_of_ble_eq_true rfl) rfl (m3 c1 c2 c3 c4) ?_
          refine ev_if_eq (tgt := 62) (dSb_refusalOfItems.at 28 rfl) rfl (fun c5 => ?_) (fun c5 => ?_)
          · refine ev_bipush (dSb_refusalOfItems.at 31 rfl) kB_m13 ?_
            exact ev_iret (dSb_refusalOfItems.at 32 rfl) rfl (k2 c1 c2 c3 c4 c5)
          · refine ev_iconst (dSb_refusalOfItems.at 29 rfl) kI_0 ?_
            refine ev_goto (tgt := 64) (dSb_refusalOfItems.at 30 rfl) rfl ?_
            exact ev_iret (dSb_refusalOfItems.at 32 rfl) rfl (k3 c1 c2 c3 c4 c5)
        · refine ev_bipush (dSb_refusalOfItems.at 22 rfl) kB_m12 ?_
          exact ev_iret (dSb_refusalOfItems.at 23 rfl) rfl (k4 c1 c2 c3 c4)
      · refine ev_bipush (dSb_refusalOfItems.at 16 rfl) kB_m11 ?_
        exact ev_iret (dSb_refusalOfItems.at 17 rfl) rfl (k5 c1 c2 c3)
    · refine ev_iconst (dSb_refusalOfItems.at 6 rfl) kI_m1 ?_
      exact ev_iret (dSb_refusalOfItems.at 7 rfl) rfl (k6 c1 c2)
set_option maxHeartbeats 4000000 in
theorem bSb_takeItems_0 {d : Nat} {w : sx_W} {Q : sx_Q} {x1 : Int32} {x2 : Int32} {x3 : Int32} {x4 : Int32}
    (k1 : sx_ev d rSb_takeItems 6 [.ref 0, .int x1, .int x2, .int x3, .int x4, .int (1 : Int32), .int (0 : Int32), .null, .null, .null] [] w Q) :
    sx_ev d rSb_takeItems 0 [.ref 0, .int x1, .int x2, .int x3, .int x4, .null, .null, .null, .null, .null] [] w Q := by
  refine ev_iconst (dSb_takeItems.at 0 rfl) kI_1 ?_
  refine ev_istore (dSb_takeItems.at 1 rfl) (by decide) rfl ?_
  refine ev_iconst (dSb_takeItems.at 2 rfl) kI_0 ?_
  refine ev_istore (dSb_takeItems.at 3 rfl) (by decide) rfl ?_
  exact k1
set_option maxHeartbeats 4000000 in
theorem bSb_takeItems_6 {d : Nat} {w : sx_W} {Q : sx_Q} {x1 : Int32} {x2 : Int32} {x3 : Int32} {x4 : Int32} {x5 : Int32} {x6 : Int32}
    (k1 : (x3 ≤ x6) → Q x5 0 w)
    (o1 : (x3 ≤ x6) → (x5 = 0 ∨ x5 = 1))
    (o2 : (¬ x3 ≤ x6) → vp_in x1 4)
    (o3 : (¬ x3 ≤ x6) → vp_in (x2 + x6) 16)
    (o4 : (¬ x3 ≤ x6) → ((w.2 (41 + 2 * x1.toNatClampNeg) (x2 + x6).toNatClampNeg) < (0 : Int64)) → vp_in x6 8)
    (k2 : (¬ x3 ≤ x6) → ((w.2 (41 + 2 * x1.toNatClampNeg) (x2 + x6).toNatClampNeg) < (0 : Int64)) → (x5 = 0) → sx_ev d rSb_takeItems 6 [.ref 0, .int x1, .int x2, .int x3, .int x4, .int (0 : Int32), .int (x6 + (1 : Int32)), .null, .null, .null] [] ((sx_u w.1 39 x6.toNatClampNeg (-1 : Int32)), w.2) Q)
    (k3 : (¬ x3 ≤ x6) → ((w.2 (41 + 2 * x1.toNatClampNeg) (x2 + x6).toNatClampNeg) < (0 : Int64)) → (¬ x5 = 0) → sx_ev d rSb_takeItems 6 [.ref 0, .int x1, .int x2, .int x3, .int x4, .int (0 : Int32), .int (x6 + (1 : Int32)), .null, .null, .null] [] ((sx_u w.1 39 x6.toNatClampNeg (-1 : Int32)), w.2) Q)
    (o5 : (¬ x3 ≤ x6) → (¬ (w.2 (41 + 2 * x1.toNatClampNeg) (x2 + x6).toNatClampNeg) < (0 : Int64)) → ((x4).toInt64 < (w.2 (41 + 2 * x1.toNatClampNeg) (x2 + x6).toNatClampNeg)) → vp_in x6 8)
    (k4 : (¬ x3 ≤ x6) → (¬ (w.2 (41 + 2 * x1.toNatClampNeg) (x2 + x6).toNatClampNeg) < (0 : Int64)) → ((x4).toInt64 < (w.2 (41 + 2 * x1.toNatClampNeg) (x2 + x6).toNatClampNeg)) → (x5 = 0) → sx_ev d rSb_takeItems 6 [.ref 0, .int x1, .int x2, .int x3, .int x4, .int (0 : Int32), .int (x6 + (1 : Int32)), .null, .null, .null] [] ((sx_u w.1 39 x6.toNatClampNeg (-1 : Int32)), w.2) Q)
    (k5 : (¬ x3 ≤ x6) → (¬ (w.2 (41 + 2 * x1.toNatClampNeg) (x2 + x6).toNatClampNeg) < (0 : Int64)) → ((x4).toInt64 < (w.2 (41 + 2 * x1.toNatClampNeg) (x2 + x6).toNatClampNeg)) → (¬ x5 = 0) → sx_ev d rSb_takeItems 6 [.ref 0, .int x1, .int x2, .int x3, .int x4, .int (0 : Int32), .int (x6 + (1 : Int32)), .null, .null, .null] [] ((sx_u w.1 39 x6.toNatClampNeg (-1 : Int32)), w.2) Q)
    (o6 : (¬ x3 ≤ x6) → (¬ (w.2 (41 + 2 * x1.toNatClampNeg) (x2 + x6).toNatClampNeg) < (0 : Int64)) → (¬ (x4).toInt64 < (w.2 (41 + 2 * x1.toNatClampNeg) (x2 + x6).toNatClampNeg)) → vp_in x6 8)
    (k6 : (¬ x3 ≤ x6) → (¬ (w.2 (41 + 2 * x1.toNatClampNeg) (x2 + x6).toNatClampNeg) < (0 : Int64)) → (¬ (x4).toInt64 < (w.2 (41 + 2 * x1.toNatClampNeg) (x2 + x6).toNatClampNeg)) → (x5 = 0) → sx_ev d rSb_takeItems 6 [.ref 0, .int x1, .int x2, .int x3, .int x4, .int (0 : Int32), .int (x6 + (1 : Int32)), .null, .null, .null] [] ((sx_u w.1 39 x6.toNatClampNeg (w.2 (41 + 2 * x1.toNatClampNeg) (x2 + x6).toNatClampNeg).toInt32), w.2) Q)
    (k7 : (¬ x3 ≤ x6) → (¬ (w.2 (41 + 2 * x1.toNatClampNeg) (x2 + x6).toNatClampNeg) < (0 : Int64)) → (¬ (x4).toInt64 < (w.2 (41 + 2 * x1.toNatClampNeg) (x2 + x6).toNatClampNeg)) → (¬ x5 = 0) → sx_ev d rSb_takeItems 6 [.ref 0, .int x1, .int x2, .int x3, .int x4, .int (1 : Int32), .int (x6 + (1 : Int32)), .null, .null, .null] [] ((sx_u w.1 39 x6.toNatClampNeg (w.2 (41 + 2 * x1.toNatClampNeg) (x2 + x6).toNatClampNeg).toInt32), w.2) Q) :
    sx_ev d rSb_takeItems 6 [.ref 0, .int x1, .int x2, .int x3, .int x4, .int x5, .int x6, .null, .null, .null] [] w Q := by
  refine ev_iload (dSb_takeItems.at 4 rfl) rfl ?_
  refine ev_iload_n (dSb_takeItems.at 5 rfl) rfl ?_
  refine ev_icmp_ge (tgt := 93) (dSb_takeItems.at 6 rfl) rfl (fun c1 => ?_) (fun c1 => ?_)
  · refine ev_iload (dSb_takeItems.at 50 rfl) rfl ?_
    exact ev_zret (dSb_takeItems.at 51 rfl) rfl (o1 c1) (k1 c1)
  · refine ev_aload_n (dSb_takeItems.at 7 rfl) rfl ?_
    refine ev_getr (dSb_takeItems.at 8 rfl) (own := 7) rfl fkSb_64 rfl rfl ?_
    refine ev_iload_n (dSb_takeItems.at 9 rfl) rfl ?_
    refine ev_aaload (dSb_takeItems.at 10 rfl) rfl (o2 c1) (sx_shA (o2 c1)) ?_
    refine ev_getr (dSb_takeItems.at 11 rfl) (own := 7) rfl fkSb_273 (sx_shS (sx_lt4 (o2 c1))) rfl ?_
    refine ev_iload_n (dSb_takeItems.at 12 rfl) rfl ?_
    refine ev_iload (dSb_takeItems.at 13 rfl) rfl ?_
    refine ev_iadd (dSb_takeItems.at 14 rfl) ?_
    refine ev_laload (dSb_takeItems.at 15 rfl) (sx_shI (sx_lt4 (o2 c1))) (o3 c1) ?_
    refine ev_lstore (dSb_takeItems.at 16 rfl) (by decide) rfl ?_
    refine ev_lload (dSb_takeItems.at 17 rfl) rfl ?_
    refine ev_lconst (dSb_takeItems.at 18 rfl) rfl ?_
    refine ev_lcmp (dSb_takeItems.at 19 rfl) ?_
    refine ev_if_lt (tgt := 48) (dSb_takeItems.at 20 rfl) rfl (fun c2 => ?_) (fun c2 => ?_)
    · rw [lg_cmp_lt] at c2
      refine ev_iconst (dSb_takeItems.at 28 rfl) kI_0 ?_
      refine ev_istore (dSb_takeItems.at 29 rfl) (by decide) rfl ?_
      refine ev_aload_n (dSb_takeItems.at 30 rfl) rfl ?_
      refine ev_getr (dSb_takeItems.at 31 rfl) (own := 7) rfl fkSb_68 rfl rfl ?_
      refine ev_iload (dSb_takeItems.at 32 rfl) rfl ?_
      refine ev_iload (dSb_takeItems.at 33 rfl) rfl ?_
      refine ev_if_eq (tgt := 68) (dSb_takeItems.at 34 rfl) rfl (fun _ => ?_) (fun h => absurd h (by decide))
      refine ev_iconst (dSb_takeItems.at 38 rfl) kI_m1 ?_
      refine ev_iastore (dSb_takeItems.at 39 rfl) rfl (o4 c1 c2) ?_
      refine ev_iload (dSb_takeItems.at 40 rfl) rfl ?_
      refine ev_if_eq (tgt := 84) (dSb_takeItems.at 41 rfl) rfl (fun c3 => ?_) (fun c3 => ?_)
      · refine ev_iconst (dSb_takeItems.at 46 rfl) kI_0 ?_
        refine ev_istore (dSb_takeItems.at 47 rfl) (by decide) rfl ?_
        refine ev_iinc (dSb_takeItems.at 48 rfl) kI_1 rfl (by decide) rfl ?_
        refine ev_goto (tgt := 6) (dSb_takeItems.at 49 rfl) rfl ?_
        refine ev_kp [true, true, true, true, true, true, true, false, false, false] rfl ?_
        exact (k2 c1 c2 c3)
      · refine ev_iload (dSb_takeItems.at 42 rfl) rfl ?_
        refine ev_if_eq (tgt := 84) (dSb_takeItems.at 43 rfl) rfl (fun _ => ?_) (fun h => absurd h (by decide))
        refine ev_iconst (dSb_takeItems.at 46 rfl) kI_0 ?_
        refine ev_istore (dSb_takeItems.at 47 rfl) (by decide) rfl ?_
        refine ev_iinc (dSb_takeItems.at 48 rfl) kI_1 rfl (by decide) rfl ?_
        refine ev_goto (tgt := 6) (dSb_takeItems.at 49 rfl) rfl ?_
        refine ev_kp [true, true, true, true, true, true, true, false, false, false] rfl ?_
        exact (k3 c1 c2 c3)
    · rw [lg_cmp_lt] at c2
      refine ev_lload (dSb_takeItems.at 21 rfl) rfl ?_
      refine ev_iload (dSb_takeItems.at 22 rfl) rfl ?_
      refine ev_i2l (dSb_takeItems.at 23 rfl) ?_
      refine ev_lcmp (dSb_takeItems.at 24 rfl) ?_
      refine ev_if_gt (tgt := 48) (dSb_takeItems.at 25 rfl) rfl (fun c4 => ?_) (fun c4 => ?_)
      · rw [lg_cmp_gt] at c4
        refine ev_iconst (dSb_takeItems.at 28 rfl) kI_0 ?_
        refine ev_istore (dSb_takeItems.at 29 rfl) (by decide) rfl ?_
        refine ev_aload_n (dSb_takeItems.at 30 rfl) rfl ?_
        refine ev_getr (dSb_takeItems.at 31 rfl) (own := 7) rfl fkSb_68 rfl rfl ?_
        refine ev_iload (dSb_takeItems.at 32 rfl) rfl ?_
        refine ev_iload (dSb_takeItems.at 33 rfl) rfl ?_
        refine ev_if_eq (tgt := 68) (dSb_takeItems.at 34 rfl) rfl (fun _ => ?_) (fun h => absurd h (by decide))
        refine ev_iconst (dSb_takeItems.at 38 rfl) kI_m1 ?_
        refine ev_iastore (dSb_takeItems.at 39 rfl) rfl (o5 c1 c2 c4) ?_
        refine ev_iload (dSb_takeItems.at 40 rfl) rfl ?_
        refine ev_if_eq (tgt := 84) (dSb_takeItems.at 41 rfl) rfl (fun c5 => ?_) (fun c5 => ?_)
        · refine ev_iconst (dSb_takeItems.at 46 rfl) kI_0 ?_
          refine ev_istore (dSb_takeItems.at 47 rfl) (by decide) rfl ?_
          refine ev_iinc (dSb_takeItems.at 48 rfl) kI_1 rfl (by decide) rfl ?_
          refine ev_goto (tgt := 6) (dSb_takeItems.at 49 rfl) rfl ?_
          refine ev_kp [true, true, true, true, true, true, true, false, false, false] rfl ?_
          exact (k4 c1 c2 c4 c5)
        · refine ev_iload (dSb_takeItems.at 42 rfl) rfl ?_
          refine ev_if_eq (tgt := 84) (dSb_takeItems.at 43 rfl) rfl (fun _ => ?_) (fun h => absurd h (by decide))
          refine ev_iconst (dSb_takeItems.at 46 rfl) kI_0 ?_
          refine ev_istore (dSb_takeItems.at 47 rfl) (by decide) rfl ?_
          refine ev_iinc (dSb_takeItems.at 48 rfl) kI_1 rfl (by decide) rfl ?_
          refine ev_goto (tgt := 6) (dSb_takeItems.at 49 rfl) rfl ?_
          refine ev_kp [true, true, true, true, true, true, true, false, false, false] rfl ?_
          exact (k5 c1 c2 c4 c5)
      · rw [lg_cmp_gt] at c4
        refine ev_iconst (dSb_takeItems.at 26 rfl) kI_1 ?_
        refine ev_goto (tgt := 49) (dSb_takeItems.at 27 rfl) rfl ?_
        refine ev_istore (dSb_takeItems.at 29 rfl) (by decide) rfl ?_
        refine ev_aload_n (dSb_takeItems.at 30 rfl) rfl ?_
        refine ev_getr (dSb_takeItems.at 31 rfl) (own := 7) rfl fkSb_68 rfl rfl ?_
        refine ev_iload (dSb_takeItems.at 32 rfl) rfl ?_
        refine ev_iload (dSb_takeItems.at 33 rfl) rfl ?_
        refine ev_if_eq (tgt := 68) (dSb_takeItems.at 34 rfl) rfl (fun h => absurd h (by decide)) (fun _ => ?_)
        refine ev_lload (dSb_takeItems.at 35 rfl) rfl ?_
        refine ev_l2i (dSb_takeItems.at 36 rfl) ?_
        refine ev_goto (tgt := 69) (dSb_takeItems.at 37 rfl) rfl ?_
        refine ev_iastore (dSb_takeItems.at 39 rfl) rfl (o6 c1 c2 c4) ?_
        refine ev_iload (dSb_takeItems.at 40 rfl) rfl ?_
        refine ev_if_eq (tgt := 84) (dSb_takeItems.at 41 rfl) rfl (fun c6 => ?_) (fun c6 => ?_)
        · refine ev_iconst (dSb_takeItems.at 46 rfl) kI_0 ?_
          refine ev_istore (dSb_takeItems.at 47 rfl) (by decide) rfl ?_
          refine ev_iinc (dSb_takeItems.at 48 rfl) kI_1 rfl (by decide) rfl ?_
          refine ev_goto (tgt := 6) (dSb_takeItems.at 49 rfl) rfl ?_
          refine ev_kp [true, true, true, true, true, true, true, false, false, false] rfl ?_
          exact (k6 c1 c2 c4 c6)
        · refine ev_iload (dSb_takeItems.at 42 rfl) rfl ?_
          refine ev_if_eq (tgt := 84) (dSb_takeItems.at 43 rfl) rfl (fun h => absurd h (by decide)) (fun _ => ?_)
          refine ev_iconst (dSb_takeItems.at 44 rfl) kI_1 ?_
          refine ev_goto (tgt := 85) (dSb_takeItems.at 45 rfl) rfl ?_
          refine ev_istore (dSb_takeItems.at 47 rfl) (by decide) rfl ?_
          refine ev_iinc (dSb_takeItems.at 48 rfl) kI_1 rfl (by decide) rfl ?_
          refine ev_goto (tgt := 6) (dSb_takeItems.at 49 rfl) rfl ?_
          refine ev_kp [true, true, true, true, true, true, true, false, false, false] rfl ?_
          exact (k7 c1 c2 c4 c6)
set_option maxHeartbeats 4000000 in
theorem bSb_isPart_0 {d : Nat} {w : sx_W} {Q : sx_Q} {x0 : Int32}
    (k1 : (x0 < 0) → Q (0 : Int32) 0 w)
    (k2 : (¬ x0 < 0) → ((8 : Int32) ≤ x0) → Q (0 : Int32) 0 w)
    (k3 : (¬ x0 < 0) → (¬ (8 : Int32) ≤ x0) → Q (1 : Int32) 0 w) :
    sx_ev d rSb_isPart 0 [.int x0] [] w Q := by
  refine ev_iload_n (dSb_isPart.at 0 rfl) rfl ?_
  refine ev_if_lt (tgt := 14) (dSb_isPart.at 1 rfl) rfl (fun c1 => ?_) (fun c1 => ?_)
  · refine ev_iconst (dSb_isPart.at 7 rfl) kI_0 ?_
    exact ev_zret (dSb_isPart.at 8 rfl) rfl (by decide) (k1 c1)
  · refine ev_iload_n (dSb_isPart.at 2 rfl) rfl ?_
    refine ev_bipush (dSb_isPart.at 3 rfl) kB_8 ?_
    refine ev_icmp_ge (tgt := 14) (dSb_isPart.at 4 rfl) rfl (fun c2 => ?_) (fun c2 => ?_)
    · refine ev_iconst (dSb_isPart.at 7 rfl) kI_0 ?_
      exact ev_zret (dSb_isPart.at 8 rfl) rfl (by decide) (k2 c1 c2)
    · refine ev_iconst (dSb_isPart.at 5 rfl) kI_1 ?_
      refine ev_goto (tgt := 15) (dSb_isPart.at 6 rfl) rfl ?_
      exact ev_zret (dSb_isPart.at 8 rfl) rfl (by decide) (k3 c1 c2)
set_option maxHeartbeats 4000000 in
theorem bSb_isSetOfParts_0 {d : Nat} {w : sx_W} {Q : sx_Q} {x0 : Int32}
    (k1 : (x0 < 0) → Q (0 : Int32) 0 w)
    (k2 : (¬ x0 < 0) → ((255 : Int32) < x0) → Q (0 : Int32) 0 w)
    (k3 : (¬ x0 < 0) → (¬ (255 : Int32) < x0) → Q (1 : Int32) 0 w) :
    sx_ev d rSb_isSetOfParts 0 [.int x0] [] w Q := by
  refine ev_iload_n (dSb_isSetOfParts.at 0 rfl) rfl ?_
  refine ev_if_lt (tgt := 15) (dSb_isSetOfParts.at 1 rfl) rfl (fun c1 => ?_) (fun c1 => ?_)
  · refine ev_iconst (dSb_isSetOfParts.at 7 rfl) kI_0 ?_
    exact ev_zret (dSb_isSetOfParts.at 8 rfl) rfl (by decide) (k1 c1)
  · refine ev_iload_n (dSb_isSetOfParts.at 2 rfl) rfl ?_
    refine ev_sipush (dSb_isSetOfParts.at 3 rfl) kS_255 ?_
    refine ev_icmp_gt (tgt := 15) (dSb_isSetOfParts.at 4 rfl) rfl (fun c2 => ?_) (fun c2 => ?_)
    · refine ev_iconst (dSb_isSetOfParts.at 7 rfl) kI_0 ?_
      exact ev_zret (dSb_isSetOfParts.at 8 rfl) rfl (by decide) (k2 c1 c2)
    · refine ev_iconst (dSb_isSetOfParts.at 5 rfl) kI_1 ?_
      refine ev_goto (tgt := 16) (dSb_isSetOfParts.at 6 rfl) rfl ?_
      exact ev_zret (dSb_isSetOfParts.at 8 rfl) rfl (by decide) (k3 c1 c2)
set_option maxHeartbeats 4000000 in
theorem bSb_isDay_0 {d : Nat} {w : sx_W} {Q : sx_Q} {x0 : Int32}
    (k1 : (x0 < (1 : Int32)) → Q (0 : Int32) 0 w)
    (k2 : (¬ x0 < (1 : Int32)) → ((30 : Int32) < x0) → Q (0 : Int32) 0 w)
    (k3 : (¬ x0 < (1 : Int32)) → (¬ (30 : Int32) < x0) → Q (1 : Int32) 0 w) :
    sx_ev d rSb_isDay 0 [.int x0] [] w Q := by
  refine ev_iload_n (dSb_isDay.at 0 rfl) rfl ?_
  refine ev_iconst (dSb_isDay.at 1 rfl) kI_1 ?_
  refine ev_icmp_lt (tgt := 15) (dSb_isDay.at 2 rfl) rfl (fun c1 => ?_) (fun c1 => ?_)
  · refine ev_iconst (dSb_isDay.at 8 rfl) kI_0 ?_
    exact ev_zret (dSb_isDay.at 9 rfl) rfl (by decide) (k1 c1)
  · refine ev_iload_n (dSb_isDay.at 3 rfl) rfl ?_
    refine ev_bipush (dSb_isDay.at 4 rfl) kB_30 ?_
    refine ev_icmp_gt (tgt := 15) (dSb_isDay.at 5 rfl) rfl (fun c2 => ?_) (fun c2 => ?_)
    · refine ev_iconst (dSb_isDay.at 8 rfl) kI_0 ?_
      exact ev_zret (dSb_isDay.at 9 rfl) rfl (by decide) (k2 c1 c2)
    · refine ev_iconst (dSb_isDay.at 6 rfl) kI_1 ?_
      refine ev_goto (tgt := 16) (dSb_isDay.at 7 rfl) rfl ?_
      exact ev_zret (dSb_isDay.at 9 rfl) rfl (by decide) (k3 c1 c2)
set_option maxHeartbeats 4000000 in
theorem bSb_isBadSheet_0 {d : Nat} {w : sx_W} {Q : sx_Q} {x0 : Int32}
    (k1 : (x0 < 0) → Q (1 : Int32) 0 w)
    (k2 : (¬ x0 < 0) → (x0 < (4 : Int32)) → Q (0 : Int32) 0 w)
    (k3 : (¬ x0 < 0) → (¬ x0 < (4 : Int32)) → Q (1 : Int32) 0 w) :
    sx_ev d rSb_isBadSheet 0 [.int x0] [] w Q := by
  refine ev_iload_n (dSb_isBadSheet.at 0 rfl) rfl ?_
  refine ev_if_lt (tgt := 9) (dSb_isBadSheet.at 1 rfl) rfl (fun c1 => ?_) (fun c1 => ?_)
  · refine ev_iconst (dSb_isBadSheet.at 5 rfl) kI_1 ?_
    refine ev_goto (tgt := 14) (dSb_isBadSheet.at 6 rfl) rfl ?_
    exact ev_zret (dSb_isBadSheet.at 8 rfl) rfl (by decide) (k1 c1)
  · refine ev_iload_n (dSb_isBadSheet.at 2 rfl) rfl ?_
    refine ev_iconst (dSb_isBadSheet.at 3 rfl) kI_4 ?_
    refine ev_icmp_lt (tgt := 13) (dSb_isBadSheet.at 4 rfl) rfl (fun c2 => ?_) (fun c2 => ?_)
    · refine ev_iconst (dSb_isBadSheet.at 7 rfl) kI_0 ?_
      exact ev_zret (dSb_isBadSheet.at 8 rfl) rfl (by decide) (k2 c1 c2)
    · refine ev_iconst (dSb_isBadSheet.at 5 rfl) kI_1 ?_
      refine ev_goto (tgt := 14) (dSb_isBadSheet.at 6 rfl) rfl ?_
      exact ev_zret (dSb_isBadSheet.at 8 rfl) rfl (by decide) (k3 c1 c2)
set_option maxHeartbeats 4000000 in
theorem bSb_isBadLane_0 {d : Nat} {w : sx_W} {Q : sx_Q} {x0 : Int32}
    (k1 : (x0 < 0) → Q (1 : Int32) 0 w)
    (k2 : (¬ x0 < 0) → (x0 ≤ (2 : Int32)) → Q (0 : Int32) 0 w)
    (k3 : (¬ x0 < 0) → (¬ x0 ≤ (2 : Int32)) → Q (1 : Int32) 0 w) :
    sx_ev d rSb_isBadLane 0 [.int x0] [] w Q := by
  refine ev_iload_n (dSb_isBadLane.at 0 rfl) rfl ?_
  refine ev_if_lt (tgt := 9) (dSb_isBadLane.at 1 rfl) rfl (fun c1 => ?_) (fun c1 => ?_)
  · refine ev_iconst (dSb_isBadLane.at 5 rfl) kI_1 ?_
    refine ev_goto (tgt := 14) (dSb_isBadLane.at 6 rfl) rfl ?_
    exact ev_zret (dSb_isBadLane.at 8 rfl) rfl (by decide) (k1 c1)
  · refine ev_iload_n (dSb_isBadLane.at 2 rfl) rfl ?_
    refine ev_iconst (dSb_isBadLane.at 3 rfl) kI_2 ?_
    refine ev_icmp_le (tgt := 13) (dSb_isBadLane.at 4 rfl) rfl (fun c2 => ?_) (fun c2 => ?_)
    · refine ev_iconst (dSb_isBadLane.at 7 rfl) kI_0 ?_
      exact ev_zret (dSb_isBadLane.at 8 rfl) rfl (by decide) (k2 c1 c2)
    · refine ev_iconst (dSb_isBadLane.at 5 rfl) kI_1 ?_
      refine ev_goto (tgt := 14) (dSb_isBadLane.at 6 rfl) rfl ?_
      exact ev_zret (dSb_isBadLane.at 8 rfl) rfl (by decide) (k3 c1 c2)
set_option maxHeartbeats 4000000 in
theorem bSb_holds_0 {d : Nat} {w : sx_W} {Q : sx_Q} {x0 : Int32} {x1 : Int32}
    (k1 : (((x0 >>> (x1 &&& 31)) &&& (1 : Int32)) = 0) → Q (0 : Int32) 0 w)
    (k2 : (¬ ((x0 >>> (x1 &&& 31)) &&& (1 : Int32)) = 0) → Q (1 : Int32) 0 w) :
    sx_ev d rSb_holds 0 [.int x0, .int x1] [] w Q := by
  refine ev_iload_n (dSb_holds.at 0 rfl) rfl ?_
  refine ev_iload_n (dSb_holds.at 1 rfl) rfl ?_
  refine ev_ishr (dSb_holds.at 2 rfl) ?_
  refine ev_iconst (dSb_holds.at 3 rfl) kI_1 ?_
  refine ev_iand (dSb_holds.at 4 rfl) ?_
  refine ev_if_eq (tgt := 12) (dSb_holds.at 5 rfl) rfl (fun c1 => ?_) (fun c1 => ?_)
  · refine ev_iconst (dSb_holds.at 8 rfl) kI_0 ?_
    exact ev_zret (dSb_holds.at 9 rfl) rfl (by decide) (k1 c1)
  · refine ev_iconst (dSb_holds.at 6 rfl) kI_1 ?_
    refine ev_goto (tgt := 13) (dSb_holds.at 7 rfl) rfl ?_
    exact ev_zret (dSb_holds.at 9 rfl) rfl (by decide) (k2 c1)
