/-! ===== blocks of the methods between cut points, written by program ===== -/
set_option maxHeartbeats 4000000 in
theorem bMa_knowsLeast_0 {d : Nat} {w : sx_W} {Q : sx_Q} {f1 : Int32} {f2 : Int32} {w2 : sx_W}
    (k1 : ((w.1 24 6) = (w.1 1 9)) → Q (w.1 24 5) 0 w)
    (o1 : ((w.1 24 6) = (w.1 1 9)) → ((w.1 24 5) = 0 ∨ (w.1 24 5) = 1))
    (m1 : (¬ (w.1 24 6) = (w.1 1 9)) → sx_de d rSt_allMayBegin [.ref 11] w f1 0 w)
    (k2 : (¬ (w.1 24 6) = (w.1 1 9)) → (f1 = 0) → Q (0 : Int32) 0 ((sx_u (sx_u w.1 24 5 (0 : Int32)) 24 6 (w.1 1 9)), w.2))
    (o2 : (¬ (w.1 24 6) = (w.1 1 9)) → (f1 = 0) → ((0 : Int32) = 0 ∨ (0 : Int32) = 1))
    (m2 : (¬ (w.1 24 6) = (w.1 1 9)) → (¬ f1 = 0) → sx_de d rMa_findLeast [.ref 24] w f2 0 w2)
    (k3 : (¬ (w.1 24 6) = (w.1 1 9)) → (¬ f1 = 0) → (f2 = 0) → Q (0 : Int32) 0 ((sx_u (sx_u w2.1 24 5 (0 : Int32)) 24 6 (w2.1 1 9)), w2.2))
    (o3 : (¬ (w.1 24 6) = (w.1 1 9)) → (¬ f1 = 0) → (f2 = 0) → ((0 : Int32) = 0 ∨ (0 : Int32) = 1))
    (k4 : (¬ (w.1 24 6) = (w.1 1 9)) → (¬ f1 = 0) → (¬ f2 = 0) → Q (1 : Int32) 0 ((sx_u (sx_u w2.1 24 5 (1 : Int32)) 24 6 (w2.1 1 9)), w2.2))
    (o4 : (¬ (w.1 24 6) = (w.1 1 9)) → (¬ f1 = 0) → (¬ f2 = 0) → ((1 : Int32) = 0 ∨ (1 : Int32) = 1)) :
    sx_ev (d + 1) rMa_knowsLeast 0 [.ref 24] [] w Q := by
  refine ev_aload_n (dMa_knowsLeast.at 0 rfl) rfl ?_
  refine ev_get (dMa_knowsLeast.at 1 rfl) (own := 1) rfl fkMa_27 rfl rfl ?_
  refine ev_aload_n (dMa_knowsLeast.at 2 rfl) rfl ?_
  refine ev_getr (dMa_knowsLeast.at 3 rfl) (own := 1) rfl fkMa_30 rfl rfl ?_
  refine ev_get (dMa_knowsLeast.at 4 rfl) (own := 1) rfl fkMa_38 rfl rfl ?_
  refine ev_icmp_eq (tgt := 51) (dMa_knowsLeast.at 5 rfl) rfl (fun c1 => ?_) (fun c1 => ?_)
  · refine ev_aload_n (dMa_knowsLeast.at 23 rfl) rfl ?_
    refine ev_get (dMa_knowsLeast.at 24 rfl) (own := 1) rfl fkMa_23 rfl rfl ?_
    exact ev_zret (dMa_knowsLeast.at 25 rfl) rfl (o1 c1) (k1 c1)
  · refine ev_aload_n (dMa_knowsLeast.at 6 rfl) rfl ?_
    refine ev_aload_n (dMa_knowsLeast.at 7 rfl) rfl ?_
    refine ev_getr (dMa_knowsLeast.at 8 rfl) (own := 1) rfl fkMa_34 rfl rfl ?_
    refine ev_cVi (dMa_knowsLeast.at 9 rfl) (As := []) (own := 1) rfl ckMa_43 rfl (Or.inr rfl) rfl (Nat.le_of_ble_eq_true rfl) rfl (m1 c1) ?_
    refine ev_if_eq (tgt := 36) (dMa_knowsLeast.at 10 rfl) rfl (fun c2 => ?_) (fun c2 => ?_)
    · refine ev_iconst (dMa_knowsLeast.at 16 rfl) kI_0 ?_
      refine ev_putz (dMa_knowsLeast.at 17 rfl) (own := 1) rfl fkMa_23 rfl rfl (by decide) ?_
      refine ev_aload_n (dMa_knowsLeast.at 18 rfl) rfl ?_
      refine ev_aload_n (dMa_knowsLeast.at 19 rfl) rfl ?_
      refine ev_getr (dMa_knowsLeast.at 20 rfl) (own := 1) rfl fkMa_30 rfl rfl ?_
      refine ev_get (dMa_knowsLeast.at 21 rfl) (own := 1) rfl fkMa_38 rfl rfl ?_
      refine ev_put (dMa_knowsLeast.at 22 rfl) (own := 1) rfl fkMa_27 rfl rfl ?_
      refine ev_aload_n (dMa_knowsLeast.at 23 rfl) rfl ?_
      refine ev_get (dMa_knowsLeast.at 24 rfl) (own := 1) rfl fkMa_23 rfl rfl ?_
      exact ev_zret (dMa_knowsLeast.at 25 rfl) rfl (o2 c1 c2) (k2 c1 c2)
    · refine ev_aload_n (dMa_knowsLeast.at 11 rfl) rfl ?_
      refine ev_cVi (dMa_knowsLeast.at 12 rfl) (As := []) (own := 1) rfl ckMa_49 rfl (Or.inr rfl) rfl (Nat.le_of_ble_eq_true rfl) rfl (m2 c1 c2) ?_
      refine ev_if_eq (tgt := 36) (dMa_knowsLeast.at 13 rfl) rfl (fun c3 => ?_) (fun c3 => ?_)
      · refine ev_iconst (dMa_knowsLeast.at 16 rfl) kI_0 ?_
        refine ev_putz (dMa_knowsLeast.at 17 rfl) (own := 1) rfl fkMa_23 rfl rfl (by decide) ?_
        refine ev_aload_n (dMa_knowsLeast.at 18 rfl) rfl ?_
        refine ev_aload_n (dMa_knowsLeast.at 19 rfl) rfl ?_
        refine ev_getr (dMa_knowsLeast.at 20 rfl) (own := 1) rfl fkMa_30 rfl rfl ?_
        refine ev_get (dMa_knowsLeast.at 21 rfl) (own := 1) rfl fkMa_38 rfl rfl ?_
        refine ev_put (dMa_knowsLeast.at 22 rfl) (own := 1) rfl fkMa_27 rfl rfl ?_
        refine ev_aload_n (dMa_knowsLeast.at 23 rfl) rfl ?_
        refine ev_get (dMa_knowsLeast.at 24 rfl) (own := 1) rfl fkMa_23 rfl rfl ?_
        exact ev_zret (dMa_knowsLeast.at 25 rfl) rfl (o3 c1 c2 c3) (k3 c1 c2 c3)
      · refine ev_iconst (dMa_knowsLeast.at 14 rfl) kI_1 ?_
        refine ev_goto (tgt := 37) (dMa_knowsLeast.at 15 rfl) rfl ?_
        refine ev_putz (dMa_knowsLeast.at 17 rfl) (own := 1) rfl fkMa_23 rfl rfl (by decide) ?_
        refine ev_aload_n (dMa_knowsLeast.at 18 rfl) rfl ?_
        refine ev_aload_n (dMa_knowsLeast.at 19 rfl) rfl ?_
        refine ev_getr (dMa_knowsLeast.at 20 rfl) (own := 1) rfl fkMa_30 rfl rfl ?_
        refine ev_get (dMa_knowsLeast.at 21 rfl) (own := 1) rfl fkMa_38 rfl rfl ?_
        refine ev_put (dMa_knowsLeast.at 22 rfl) (own := 1) rfl fkMa_27 rfl rfl ?_
        refine ev_aload_n (dMa_knowsLeast.at 23 rfl) rfl ?_
        refine ev_get (dMa_knowsLeast.at 24 rfl) (own := 1) rfl fkMa_23 rfl rfl ?_
        exact ev_zret (dMa_knowsLeast.at 25 rfl) rfl (o4 c1 c2 c3) (k4 c1 c2 c3)
set_option maxHeartbeats 4000000 in
theorem bMa_areCleared_39_0 {d : Nat} {w : sx_W} {Q : sx_Q} {w1 : sx_W} {f2 : Int64}
    (m1 : sx_de d rMa_reckonCosts [.ref 24, .ref 39] w 0 0 w1)
    (m2 : sx_de d rSt_nobodyIn [.int (w1.1 1 5)] w1 0 f2 w1)
    (k1 : sx_ev (d + 1) rMa_areCleared 19 [.ref 24, .null, .long f2, .null, .int (0 : Int32), .null] [] w1 Q) :
    sx_ev (d + 1) rMa_areCleared 0 [.ref 24, .ref 39, .null, .null, .null, .null] [] w Q := by
  refine ev_aload_n (dMa_areCleared.at 0 rfl) rfl ?_
  refine ev_aload_n (dMa_areCleared.at 1 rfl) rfl ?_
  refine ev_cVv (dMa_areCleared.at 2 rfl) (As := [.ref 39]) (own := 1) rfl ckMa_52 rfl rfl rfl (Nat.le_of_ble_eq_true rfl) rfl m1 ?_
  refine ev_aload_n (dMa_areCleared.at 3 rfl) rfl ?_
  refine ev_getr (dMa_areCleared.at 4 rfl) (own := 1) rfl fkMa_30 rfl rfl ?_
  refine ev_get (dMa_areCleared.at 5 rfl) (own := 1) rfl fkMa_56 rfl rfl ?_
  refine ev_cSl (dMa_areCleared.at 6 rfl) (As := [.int (w1.1 1 5)]) (own := 1) rfl ckMa_59 rfl rfl (Nat.le_of_ble_eq_true rfl) rfl m2 ?_
  refine ev_lstore_n (dMa_areCleared.at 7 rfl) (by decide) rfl ?_
  refine ev_iconst (dMa_areCleared.at 8 rfl) kI_0 ?_
  refine ev_istore (dMa_areCleared.at 9 rfl) (by decide) rfl ?_
  refine ev_kp [true, false, true, false, true, false] rfl ?_
  exact k1
set_option maxHeartbeats 4000000 in
theorem bMa_areCleared_39_19 {d : Nat} {w : sx_W} {Q : sx_Q} {y2 : Int64} {x4 : Int32} {f1 : Int32} {f2 : Int64}
    (k1 : ((w.1 1 4) ≤ x4) → Q (1 : Int32) 0 w)
    (m1 : (¬ (w.1 1 4) ≤ x4) → sx_de d rMa_cheapest [.ref 24, .int x4] w f1 0 w)
    (m2 : (¬ (w.1 1 4) ≤ x4) → (¬ f1 = (-1 : Int32)) → sx_de d rSt_joined [.ref 11, .long y2, .int x4, .int f1] w 0 f2 w)
    (k2 : (¬ (w.1 1 4) ≤ x4) → (¬ f1 = (-1 : Int32)) → (¬ f2 = (-1 : Int64)) → sx_ev (d + 1) rMa_areCleared 19 [.ref 24, .null, .long f2, .null, .int (x4 + (1 : Int32)), .null] [] w Q)
    (k3 : (¬ (w.1 1 4) ≤ x4) → (¬ f1 = (-1 : Int32)) → (f2 = (-1 : Int64)) → Q (0 : Int32) 0 w)
    (k4 : (¬ (w.1 1 4) ≤ x4) → (f1 = (-1 : Int32)) → (¬ (-1 : Int64) = (-1 : Int64)) → sx_ev (d + 1) rMa_areCleared 19 [.ref 24, .null, .long (-1 : Int64), .null, .int (x4 + (1 : Int32)), .null] [] w Q)
    (k5 : (¬ (w.1 1 4) ≤ x4) → (f1 = (-1 : Int32)) → ((-1 : Int64) = (-1 : Int64)) → Q (0 : Int32) 0 w) :
    sx_ev (d + 1) rMa_areCleared 19 [.ref 24, .null, .long y2, .null, .int x4, .null] [] w Q := by
  refine ev_iload (dMa_areCleared.at 10 rfl) rfl ?_
  refine ev_aload_n (dMa_areCleared.at 11 rfl) rfl ?_
  refine ev_getr (dMa_areCleared.at 12 rfl) (own := 1) rfl fkMa_30 rfl rfl ?_
  refine ev_get (dMa_areCleared.at 13 rfl) (own := 1) rfl fkMa_63 rfl rfl ?_
  refine ev_icmp_ge (tgt := 80) (dMa_areCleared.at 14 rfl) rfl (fun c1 => ?_) (fun c1 => ?_)
  · refine ev_iconst (dMa_areCleared.at 39 rfl) kI_1 ?_
    exact ev_zret (dMa_areCleared.at 40 rfl) rfl (by decide) (k1 c1)
  · refine ev_aload_n (dMa_areCleared.at 15 rfl) rfl ?_
    refine ev_iload (dMa_areCleared.at 16 rfl) rfl ?_
    refine ev_cVi (dMa_areCleared.at 17 rfl) (As := [.int x4]) (own := 1) rfl ckMa_66 rfl (Or.inl rfl) rfl (Nat.le_of_ble_eq_true rfl) rfl (m1 c1) ?_
    refine ev_istore (dMa_areCleared.at 18 rfl) (by decide) rfl ?_
    refine ev_iload (dMa_areCleared.at 19 rfl) rfl ?_
    refine ev_iconst (dMa_areCleared.at 20 rfl) kI_m1 ?_
    refine ev_icmp_ne (tgt := 51) (dMa_areCleared.at 21 rfl) rfl (fun c2 => ?_) (fun c2 => ?_)
    · refine ev_aload_n (dMa_areCleared.at 24 rfl) rfl ?_
      refine ev_getr (dMa_areCleared.at 25 rfl) (own := 1) rfl fkMa_34 rfl rfl ?_
      refine ev_lload_n (dMa_areCleared.at 26 rfl) rfl ?_
      refine ev_iload (dMa_areCleared.at 27 rfl) rfl ?_
      refine ev_iload (dMa_areCleared.at 28 rfl) rfl ?_
      refine ev_cVl (dMa_areCleared.at 29 rfl) (As := [.long y2, .int x4, .int f1]) (own := 1) rfl ckMa_72 rfl rfl rfl (Nat.le_of_ble_eq_true rfl) rfl (m2 c1 c2) ?_
      refine ev_lstore_n (dMa_areCleared.at 30 rfl) (by decide) rfl ?_
      refine ev_lload_n (dMa_areCleared.at 31 rfl) rfl ?_
      refine ev_ldc2 (dMa_areCleared.at 32 rfl) (own := 1) rfl (List.mem_of_getElem? (i := 0) rfl) ?_
      refine ev_lcmp (dMa_areCleared.at 33 rfl) ?_
      refine ev_if_ne (tgt := 74) (dMa_areCleared.at 34 rfl) rfl (fun c3 => ?_) (fun c3 => ?_)
      · rw [lg_cmp_eq] at c3
        refine ev_iinc (dMa_areCleared.at 37 rfl) kI_1 rfl (by decide) rfl ?_
        refine ev_goto (tgt := 19) (dMa_areCleared.at 38 rfl) rfl ?_
        refine ev_kp [true, false, true, false, true, false] rfl ?_
        exact (k2 c1 c2 c3)
      · rw [lg_cmp_eq] at c3
        refine ev_iconst (dMa_areCleared.at 35 rfl) kI_0 ?_
        exact ev_zret (dMa_areCleared.at 36 rfl) rfl (by decide) (k3 c1 c2 c3)
    · refine ev_ldc2 (dMa_areCleared.at 22 rfl) (own := 1) rfl (List.mem_of_getElem? (i := 0) rfl) ?_
      refine ev_goto (tgt := 63) (dMa_areCleared.at 23 rfl) rfl ?_
      refine ev_lstore_n (dMa_areCleared.at 30 rfl) (by decide) rfl ?_
      refine ev_lload_n (dMa_areCleared.at 31 rfl) rfl ?_
      refine ev_ldc2 (dMa_areCleared.at 32 rfl) (own := 1) rfl (List.mem_of_getElem? (i := 0) rfl) ?_
      refine ev_lcmp (dMa_areCleared.at 33 rfl) ?_
      refine ev_if_ne (tgt := 74) (dMa_areCleared.at 34 rfl) rfl (fun c4 => ?_) (fun c4 => ?_)
      · rw [lg_cmp_eq] at c4
        refine ev_iinc (dMa_areCleared.at 37 rfl) kI_1 rfl (by decide) rfl ?_
        refine ev_goto (tgt := 19) (dMa_areCleared.at 38 rfl) rfl ?_
        refine ev_kp [true, false, true, false, true, false] rfl ?_
        exact (k4 c1 c2 c4)
      · rw [lg_cmp_eq] at c4
        refine ev_iconst (dMa_areCleared.at 35 rfl) kI_0 ?_
        exact ev_zret (dMa_areCleared.at 36 rfl) rfl (by decide) (k5 c1 c2 c4)
set_option maxHeartbeats 4000000 in
theorem bMa_areCleared_26_0 {d : Nat} {w : sx_W} {Q : sx_Q} {w1 : sx_W} {f2 : Int64}
    (m1 : sx_de d rMa_reckonCosts [.ref 24, .ref 26] w 0 0 w1)
    (m2 : sx_de d rSt_nobodyIn [.int (w1.1 1 5)] w1 0 f2 w1)
    (k1 : sx_ev (d + 1) rMa_areCleared 19 [.ref 24, .null, .long f2, .null, .int (0 : Int32), .null] [] w1 Q) :
    sx_ev (d + 1) rMa_areCleared 0 [.ref 24, .ref 26, .null, .null, .null, .null] [] w Q := by
  refine ev_aload_n (dMa_areCleared.at 0 rfl) rfl ?_
  refine ev_aload_n (dMa_areCleared.at 1 rfl) rfl ?_
  refine ev_cVv (dMa_areCleared.at 2 rfl) (As := [.ref 26]) (own := 1) rfl ckMa_52 rfl rfl rfl (Nat.le_of_ble_eq_true rfl) rfl m1 ?_
  refine ev_aload_n (dMa_areCleared.at 3 rfl) rfl ?_
  refine ev_getr (dMa_areCleared.at 4 rfl) (own := 1) rfl fkMa_30 rfl rfl ?_
  refine ev_get (dMa_areCleared.at 5 rfl) (own := 1) rfl fkMa_56 rfl rfl ?_
  refine ev_cSl (dMa_areCleared.at 6 rfl) (As := [.int (w1.1 1 5)]) (own := 1) rfl ckMa_59 rfl rfl (Nat.le_of_ble_eq_true rfl) rfl m2 ?_
  refine ev_lstore_n (dMa_areCleared.at 7 rfl) (by decide) rfl ?_
  refine ev_iconst (dMa_areCleared.at 8 rfl) kI_0 ?_
  refine ev_istore (dMa_areCleared.at 9 rfl) (by decide) rfl ?_
  refine ev_kp [true, false, true, false, true, false] rfl ?_
  exact k1
set_option maxHeartbeats 4000000 in
theorem bMa_areCleared_26_19 {d : Nat} {w : sx_W} {Q : sx_Q} {y2 : Int64} {x4 : Int32} {f1 : Int32} {f2 : Int64}
    (k1 : ((w.1 1 4) ≤ x4) → Q (1 : Int32) 0 w)
    (m1 : (¬ (w.1 1 4) ≤ x4) → sx_de d rMa_cheapest [.ref 24, .int x4] w f1 0 w)
    (m2 : (¬ (w.1 1 4) ≤ x4) → (¬ f1 = (-1 : Int32)) → sx_de d rSt_joined [.ref 11, .long y2, .int x4, .int f1] w 0 f2 w)
    (k2 : (¬ (w.1 1 4) ≤ x4) → (¬ f1 = (-1 : Int32)) → (¬ f2 = (-1 : Int64)) → sx_ev (d + 1) rMa_areCleared 19 [.ref 24, .null, .long f2, .null, .int (x4 + (1 : Int32)), .null] [] w Q)
    (k3 : (¬ (w.1 1 4) ≤ x4) → (¬ f1 = (-1 : Int32)) → (f2 = (-1 : Int64)) → Q (0 : Int32) 0 w)
    (k4 : (¬ (w.1 1 4) ≤ x4) → (f1 = (-1 : Int32)) → (¬ (-1 : Int64) = (-1 : Int64)) → sx_ev (d + 1) rMa_areCleared 19 [.ref 24, .null, .long (-1 : Int64), .null, .int (x4 + (1 : Int32)), .null] [] w Q)
    (k5 : (¬ (w.1 1 4) ≤ x4) → (f1 = (-1 : Int32)) → ((-1 : Int64) = (-1 : Int64)) → Q (0 : Int32) 0 w) :
    sx_ev (d + 1) rMa_areCleared 19 [.ref 24, .null, .long y2, .null, .int x4, .null] [] w Q := by
  refine ev_iload (dMa_areCleared.at 10 rfl) rfl ?_
  refine ev_aload_n (dMa_areCleared.at 11 rfl) rfl ?_
  refine ev_getr (dMa_areCleared.at 12 rfl) (own := 1) rfl fkMa_30 rfl rfl ?_
  refine ev_get (dMa_areCleared.at 13 rfl) (own := 1) rfl fkMa_63 rfl rfl ?_
  refine ev_icmp_ge (tgt := 80) (dMa_areCleared.at 14 rfl) rfl (fun c1 => ?_) (fun c1 => ?_)
  · refine ev_iconst (dMa_areCleared.at 39 rfl) kI_1 ?_
    exact ev_zret (dMa_areCleared.at 40 rfl) rfl (by decide) (k1 c1)
  · refine ev_aload_n (dMa_areCleared.at 15 rfl) rfl ?_
    refine ev_iload (dMa_areCleared.at 16 rfl) rfl ?_
    refine ev_cVi (dMa_areCleared.at 17 rfl) (As := [.int x4]) (own := 1) rfl ckMa_66 rfl (Or.inl rfl) rfl (Nat.le_of_ble_eq_true rfl) rfl (m1 c1) ?_
    refine ev_istore (dMa_areCleared.at 18 rfl) (by decide) rfl ?_
    refine ev_iload (dMa_areCleared.at 19 rfl) rfl ?_
    refine ev_iconst (dMa_areCleared.at 20 rfl) kI_m1 ?_
    refine ev_icmp_ne (tgt := 51) (dMa_areCleared.at 21 rfl) rfl (fun c2 => ?_) (fun c2 => ?_)
    · refine ev_aload_n (dMa_areCleared.at 24 rfl) rfl ?_
      refine ev_getr (dMa_areCleared.at 25 rfl) (own := 1) rfl fkMa_34 rfl rfl ?_
      refine ev_lload_n (dMa_areCleared.at 26 rfl) rfl ?_
      refine ev_iload (dMa_areCleared.at 27 rfl) rfl ?_
      refine ev_iload (dMa_areCleared.at 28 rfl) rfl ?_
      refine ev_cVl (dMa_areCleared.at 29 rfl) (As := [.long y2, .int x4, .int f1]) (own := 1) rfl ckMa_72 rfl rfl rfl (Nat.le_of_ble_eq_true rfl) rfl (m2 c1 c2) ?_
      refine ev_lstore_n (dMa_areCleared.at 30 rfl) (by decide) rfl ?_
      refine ev_lload_n (dMa_areCleared.at 31 rfl) rfl ?_
      refine ev_ldc2 (dMa_areCleared.at 32 rfl) (own := 1) rfl (List.mem_of_getElem? (i := 0) rfl) ?_
      refine ev_lcmp (dMa_areCleared.at 33 rfl) ?_
      refine ev_if_ne (tgt := 74) (dMa_areCleared.at 34 rfl) rfl (fun c3 => ?_) (fun c3 => ?_)
      · rw [lg_cmp_eq] at c3
        refine ev_iinc (dMa_areCleared.at 37 rfl) kI_1 rfl (by decide) rfl ?_
        refine ev_goto (tgt := 19) (dMa_areCleared.at 38 rfl) rfl ?_
        refine ev_kp [true, false, true, false, true, false] rfl ?_
        exact (k2 c1 c2 c3)
      · rw [lg_cmp_eq] at c3
        refine ev_iconst (dMa_areCleared.at 35 rfl) kI_0 ?_
        exact ev_zret (dMa_areCleared.at 36 rfl) rfl (by decide) (k3 c1 c2 c3)
    · refine ev_ldc2 (dMa_areCleared.at 22 rfl) (own := 1) rfl (List.mem_of_getElem? (i := 0) rfl) ?_
      refine ev_goto (tgt := 63) (dMa_areCleared.at 23 rfl) rfl ?_
      refine ev_lstore_n (dMa_areCleared.at 30 rfl) (by decide) rfl ?_
      refine ev_lload_n (dMa_areCleared.at 31 rfl) rfl ?_
      refine ev_ldc2 (dMa_areCleared.at 32 rfl) (own := 1) rfl (List.mem_of_getElem? (i := 0) rfl) ?_
      refine ev_lcmp (dMa_areCleared.at 33 rfl) ?_
      refine ev_if_ne (tgt := 74) (dMa_areCleared.at 34 rfl) rfl (fun c4 => ?_) (fun c4 => ?_)
      · rw [lg_cmp_eq] at c4
        refine ev_iinc (dMa_areCleared.at 37 rfl) kI_1 rfl (by decide) rfl ?_
        refine ev_goto (tgt := 19) (dMa_areCleared.at 38 rfl) rfl ?_
        refine ev_kp [true, false, true, false, true, false] rfl ?_
        exact (k4 c1 c2 c4)
      · rw [lg_cmp_eq] at c4
        refine ev_iconst (dMa_areCleared.at 35 rfl) kI_0 ?_
        exact ev_zret (dMa_areCleared.at 36 rfl) rfl (by decide) (k5 c1 c2 c4)
set_option maxHeartbeats 4000000 in
theorem bMa_findLeast_0 {d : Nat} {w : sx_W} {Q : sx_Q}
    (k1 : sx_ev d rMa_findLeast 2 [.ref 24, .int (0 : Int32)] [] w Q) :
    sx_ev d rMa_findLeast 0 [.ref 24, .null] [] w Q := by
  refine ev_iconst (dMa_findLeast.at 0 rfl) kI_0 ?_
  refine ev_istore_n (dMa_findLeast.at 1 rfl) (by decide) rfl ?_
  exact k1
set_option maxHeartbeats 4000000 in
theorem bMa_findLeast_2 {d : Nat} {w : sx_W} {Q : sx_Q} {x1 : Int32} {f1 : Int32} {w1 : sx_W}
    (k1 : ((16 : Int32) < x1) → Q (0 : Int32) 0 w)
    (m1 : (¬ (16 : Int32) < x1) → sx_de d rMa_clearFrom [.ref 24, .int (0 : Int32), .int x1] w f1 0 w1)
    (k2 : (¬ (16 : Int32) < x1) → (f1 = 0) → sx_ev (d + 1) rMa_findLeast 2 [.ref 24, .int (x1 + (1 : Int32))] [] w1 Q)
    (k3 : (¬ (16 : Int32) < x1) → (¬ f1 = 0) → Q (1 : Int32) 0 ((sx_u w1.1 24 4 x1), w1.2)) :
    sx_ev (d + 1) rMa_findLeast 2 [.ref 24, .int x1] [] w Q := by
  refine ev_iload_n (dMa_findLeast.at 2 rfl) rfl ?_
  refine ev_bipush (dMa_findLeast.at 3 rfl) kB_16 ?_
  refine ev_icmp_gt (tgt := 30) (dMa_findLeast.at 4 rfl) rfl (fun c1 => ?_) (fun c1 => ?_)
  · refine ev_iconst (dMa_findLeast.at 17 rfl) kI_0 ?_
    exact ev_zret (dMa_findLeast.at 18 rfl) rfl (by decide) (k1 c1)
  · refine ev_aload_n (dMa_findLeast.at 5 rfl) rfl ?_
    refine ev_iconst (dMa_findLeast.at 6 rfl) kI_0 ?_
    refine ev_iload_n (dMa_findLeast.at 7 rfl) rfl ?_
    refine ev_cSi (dMa_findLeast.at 8 rfl) (As := [.ref 24, .int (0 : Int32), .int x1]) (own := 1) rfl ckMa_76 (Or.inr rfl) rfl (Nat.le_of_ble_eq_true rfl) rfl (m1 c1) ?_
    refine ev_if_eq (tgt := 24) (dMa_findLeast.at 9 rfl) rfl (fun c2 => ?_) (fun c2 => ?_)
    · refine ev_iinc (dMa_findLeast.at 15 rfl) kI_1 rfl (by decide) rfl ?_
      refine ev_goto (tgt := 2) (dMa_findLeast.at 16 rfl) rfl ?_
      exact (k2 c1 c2)
    · refine ev_aload_n (dMa_findLeast.at 10 rfl) rfl ?_
      refine ev_iload_n (dMa_findLeast.at 11 rfl) rfl ?_
      refine ev_put (dMa_findLeast.at 12 rfl) (own := 1) rfl fkMa_19 rfl rfl ?_
      refine ev_iconst (dMa_findLeast.at 13 rfl) kI_1 ?_
      exact ev_zret (dMa_findLeast.at 14 rfl) rfl (by decide) (k3 c1 c2)
set_option maxHeartbeats 4000000 in
theorem bMa_clearFrom_0 {d : Nat} {w : sx_W} {Q : sx_Q} {x1 : Int32} {x2 : Int32} {f1 : Int32} {w1 : sx_W}
    (k1 : (x1 < (8 : Int32)) → sx_ev (d + 1) rMa_clearFrom 25 [.ref 24, .int x1, .int x2, .int (((7 : Int32) - x1) * (2 : Int32)), .int (0 : Int32), .null] [] w Q)
    (m1 : (¬ x1 < (8 : Int32)) → sx_de d rMa_areCleared [.ref 24, .ref 26] w f1 0 w1)
    (k2 : (¬ x1 < (8 : Int32)) → Q f1 0 w1)
    (o1 : (¬ x1 < (8 : Int32)) → (f1 = 0 ∨ f1 = 1)) :
    sx_ev (d + 1) rMa_clearFrom 0 [.ref 24, .int x1, .int x2, .null, .null, .null] [] w Q := by
  refine ev_iload_n (dMa_clearFrom.at 0 rfl) rfl ?_
  refine ev_bipush (dMa_clearFrom.at 1 rfl) kB_8 ?_
  refine ev_icmp_lt (tgt := 15) (dMa_clearFrom.at 2 rfl) rfl (fun c1 => ?_) (fun c1 => ?_)
  · refine ev_bipush (dMa_clearFrom.at 8 rfl) kB_7 ?_
    refine ev_iload_n (dMa_clearFrom.at 9 rfl) rfl ?_
    refine ev_isub (dMa_clearFrom.at 10 rfl) ?_
    refine ev_iconst (dMa_clearFrom.at 11 rfl) kI_2 ?_
    refine ev_imul (dMa_clearFrom.at 12 rfl) ?_
    refine ev_istore_n (dMa_clearFrom.at 13 rfl) (by decide) rfl ?_
    refine ev_iconst (dMa_clearFrom.at 14 rfl) kI_0 ?_
    refine ev_istore (dMa_clearFrom.at 15 rfl) (by decide) rfl ?_
    exact (k1 c1)
  · refine ev_aload_n (dMa_clearFrom.at 3 rfl) rfl ?_
    refine ev_aload_n (dMa_clearFrom.at 4 rfl) rfl ?_
    refine ev_getr (dMa_clearFrom.at 5 rfl) (own := 1) rfl fkMa_15 rfl rfl ?_
    refine ev_cVi (dMa_clearFrom.at 6 rfl) (As := [.ref 26]) (own := 1) rfl ckMa_80 rfl (Or.inr rfl) rfl (Nat.le_of_ble_eq_true rfl) rfl (m1 c1) ?_
    exact ev_zret (dMa_clearFrom.at 7 rfl) rfl (o1 c1) (k2 c1)
set_option maxHeartbeats 4000000 in
theorem bMa_clearFrom_25 {d : Nat} {w : sx_W} {Q : sx_Q} {x1 : Int32} {x2 : Int32} {x3 : Int32} {x4 : Int32} {f1 : Int32} {w1 : sx_W}
    (k1 : ((2 : Int32) < x4) → Q (0 : Int32) 0 w)
    (k2 : (¬ (2 : Int32) < x4) → ((x2 - x4) < 0) → sx_ev (d + 1) rMa_clearFrom 25 [.ref 24, .int x1, .int x2, .int x3, .int (x4 + (1 : Int32)), .null] [] w Q)
    (k3 : (¬ (2 : Int32) < x4) → (¬ (x2 - x4) < 0) → (x3 < (x2 - x4)) → sx_ev (d + 1) rMa_clearFrom 25 [.ref 24, .int x1, .int x2, .int x3, .int (x4 + (1 : Int32)), .null] [] w Q)
    (o1 : (¬ (2 : Int32) < x4) → (¬ (x2 - x4) < 0) → (¬ x3 < (x2 - x4)) → vp_in x1 8)
    (m1 : (¬ (2 : Int32) < x4) → (¬ (x2 - x4) < 0) → (¬ x3 < (x2 - x4)) → sx_de d rMa_clearFrom [.ref 24, .int (x1 + (1 : Int32)), .int (x2 - x4)] ((sx_u w.1 26 x1.toNatClampNeg x4), w.2) f1 0 w1)
    (k4 : (¬ (2 : Int32) < x4) → (¬ (x2 - x4) < 0) → (¬ x3 < (x2 - x4)) → (f1 = 0) → sx_ev (d + 1) rMa_clearFrom 25 [.ref 24, .int x1, .int x2, .int x3, .int (x4 + (1 : Int32)), .null] [] w1 Q)
    (k5 : (¬ (2 : Int32) < x4) → (¬ (x2 - x4) < 0) → (¬ x3 < (x2 - x4)) → (¬ f1 = 0) → Q (1 : Int32) 0 w1) :
    sx_ev (d + 1) rMa_clearFrom 25 [.ref 24, .int x1, .int x2, .int x3, .int x4, .null] [] w Q := by
  refine ev_iload (dMa_clearFrom.at 16 rfl) rfl ?_
  refine ev_iconst (dMa_clearFrom.at 17 rfl) kI_2 ?_
  refine ev_icmp_gt (tgt := 76) (dMa_clearFrom.at 18 rfl) rfl (fun c1 => ?_) (fun c1 => ?_)
  · refine ev_iconst (dMa_clearFrom.at 44 rfl) kI_0 ?_
    exact ev_zret (dMa_clearFrom.at 45 rfl) rfl (by decide) (k1 c1)
  · refine ev_iload_n (dMa_clearFrom.at 19 rfl) rfl ?_
    refine ev_iload (dMa_clearFrom.at 20 rfl) rfl ?_
    refine ev_isub (dMa_clearFrom.at 21 rfl) ?_
    refine ev_istore (dMa_clearFrom.at 22 rfl) (by decide) rfl ?_
    refine ev_iload (dMa_clearFrom.at 23 rfl) rfl ?_
    refine ev_if_lt (tgt := 70) (dMa_clearFrom.at 24 rfl) rfl (fun c2 => ?_) (fun c2 => ?_)
    · refine ev_iinc (dMa_clearFrom.at 42 rfl) kI_1 rfl (by decide) rfl ?_
      refine ev_goto (tgt := 25) (dMa_clearFrom.at 43 rfl) rfl ?_
      refine ev_kp [true, true, true, true, true, false] rfl ?_
      exact (k2 c1 c2)
    · refine ev_iload (dMa_clearFrom.at 25 rfl) rfl ?_
      refine ev_iload_n (dMa_clearFrom.at 26 rfl) rfl ?_
      refine ev_icmp_gt (tgt := 70) (dMa_clearFrom.at 27 rfl) rfl (fun c3 => ?_) (fun c3 => ?_)
      · refine ev_iinc (dMa_clearFrom.at 42 rfl) kI_1 rfl (by decide) rfl ?_
        refine ev_goto (tgt := 25) (dMa_clearFrom.at 43 rfl) rfl ?_
        refine ev_kp [true, true, true, true, true, false] rfl ?_
        exact (k3 c1 c2 c3)
      · refine ev_aload_n (dMa_clearFrom.at 28 rfl) rfl ?_
        refine ev_getr (dMa_clearFrom.at 29 rfl) (own := 1) rfl fkMa_15 rfl rfl ?_
        refine ev_iload_n (dMa_clearFrom.at 30 rfl) rfl ?_
        refine ev_iload (dMa_clearFrom.at 31 rfl) rfl ?_
        refine ev_iastore (dMa_clearFrom.at 32 rfl) rfl (o1 c1 c2 c3) ?_
        refine ev_aload_n (dMa_clearFrom.at 33 rfl) rfl ?_
        refine ev_iload_n (dMa_clearFrom.at 34 rfl) rfl ?_
        refine ev_iconst (dMa_clearFrom.at 35 rfl) kI_1 ?_
        refine ev_iadd (dMa_clearFrom.at 36 rfl) ?_
        refine ev_iload (dMa_clearFrom.at 37 rfl) rfl ?_
        refine ev_cSi (dMa_clearFrom.at 38 rfl) (As := [.ref 24, .int (x1 + (1 : Int32)), .int (x2 - x4)]) (own := 1) rfl ckMa_76 (Or.inr rfl) rfl (Nat.le_of_ble_eq_true rfl) rfl (m1 c1 c2 c3) ?_
        refine ev_if_eq (tgt := 70) (dMa_clearFrom.at 39 rfl) rfl (fun c4 => ?_) (fun c4 => ?_)
        · refine ev_iinc (dMa_clearFrom.at 42 rfl) kI_1 rfl (by decide) rfl ?_
          refine ev_goto (tgt := 25) (dMa_clearFrom.at 43 rfl) rfl ?_
          refine ev_kp [true, true, true, true, true, false] rfl ?_
          exact (k4 c1 c2 c3 c4)
        · refine ev_iconst (dMa_clearFrom.at 40 rfl) kI_1 ?_
          exact ev_zret (dMa_clearFrom.at 41 rfl) rfl (by decide) (k5 c1 c2 c3 c4)
set_option maxHeartbeats 4000000 in
theorem bMa_reckonCosts_39_0 {d : Nat} {w : sx_W} {Q : sx_Q}
    (k1 : sx_ev d rMa_reckonCosts 5 [.ref 24, .ref 39, .long (0 : Int64), .null, .int (0 : Int32)] [] w Q) :
    sx_ev d rMa_reckonCosts 0 [.ref 24, .ref 39, .null, .null, .null] [] w Q := by
  refine ev_lconst (dMa_reckonCosts.at 0 rfl) rfl ?_
  refine ev_lstore_n (dMa_reckonCosts.at 1 rfl) (by decide) rfl ?_
  refine ev_iconst (dMa_reckonCosts.at 2 rfl) kI_0 ?_
  refine ev_istore (dMa_reckonCosts.at 3 rfl) (by decide) rfl ?_
  exact k1
set_option maxHeartbeats 4000000 in
theorem bMa_reckonCosts_39_5 {d : Nat} {w : sx_W} {Q : sx_Q} {y2 : Int64} {x4 : Int32}
    (k1 : ((8 : Int32) ≤ x4) → sx_ev d rMa_reckonCosts 42 [.ref 24, .null, .long y2, .null, .int (1 : Int32)] [] (w.1, (sx_ul w.2 25 0 (0 : Int64))) Q)
    (o1 : (¬ (8 : Int32) ≤ x4) → vp_in x4 8)
    (k2 : (¬ (8 : Int32) ≤ x4) → sx_ev d rMa_reckonCosts 5 [.ref 24, .ref 39, .long (y2 ||| ((w.1 39 x4.toNatClampNeg).toInt64 <<< (((8 : Int32) * x4).toInt64 &&& 63))), .null, .int (x4 + (1 : Int32))] [] w Q) :
    sx_ev d rMa_reckonCosts 5 [.ref 24, .ref 39, .long y2, .null, .int x4] [] w Q := by
  refine ev_iload (dMa_reckonCosts.at 4 rfl) rfl ?_
  refine ev_bipush (dMa_reckonCosts.at 5 rfl) kB_8 ?_
  refine ev_icmp_ge (tgt := 32) (dMa_reckonCosts.at 6 rfl) rfl (fun c1 => ?_) (fun c1 => ?_)
  · refine ev_aload_n (dMa_reckonCosts.at 20 rfl) rfl ?_
    refine ev_getr (dMa_reckonCosts.at 21 rfl) (own := 1) rfl fkMa_9 rfl rfl ?_
    refine ev_iconst (dMa_reckonCosts.at 22 rfl) kI_0 ?_
    refine ev_lconst (dMa_reckonCosts.at 23 rfl) rfl ?_
    refine ev_lastore (dMa_reckonCosts.at 24 rfl) rfl (by unfold vp_in; decide) ?_
    refine ev_iconst (dMa_reckonCosts.at 25 rfl) kI_1 ?_
    refine ev_istore (dMa_reckonCosts.at 26 rfl) (by decide) rfl ?_
    refine ev_kp [true, false, true, false, true] rfl ?_
    exact (k1 c1)
  · refine ev_lload_n (dMa_reckonCosts.at 7 rfl) rfl ?_
    refine ev_aload_n (dMa_reckonCosts.at 8 rfl) rfl ?_
    refine ev_iload (dMa_reckonCosts.at 9 rfl) rfl ?_
    refine ev_iaload (dMa_reckonCosts.at 10 rfl) rfl (o1 c1) ?_
    refine ev_i2l (dMa_reckonCosts.at 11 rfl) ?_
    refine ev_bipush (dMa_reckonCosts.at 12 rfl) kB_8 ?_
    refine ev_iload (dMa_reckonCosts.at 13 rfl) rfl ?_
    refine ev_imul (dMa_reckonCosts.at 14 rfl) ?_
    refine ev_lshl (dMa_reckonCosts.at 15 rfl) ?_
    refine ev_lor (dMa_reckonCosts.at 16 rfl) ?_
    refine ev_lstore_n (dMa_reckonCosts.at 17 rfl) (by decide) rfl ?_
    refine ev_iinc (dMa_reckonCosts.at 18 rfl) kI_1 rfl (by decide) rfl ?_
    refine ev_goto (tgt := 5) (dMa_reckonCosts.at 19 rfl) rfl ?_
    exact (k2 c1)
set_option maxHeartbeats 4000000 in
theorem bMa_reckonCosts_39_42 {d : Nat} {w : sx_W} {Q : sx_Q} {y2 : Int64} {x4 : Int32} {f1 : Int64}
    (k1 : ((4 : Int32) < x4) → sx_ev (d + 1) rMa_reckonCosts 89 [.ref 24, .null, .long y2, .null, .int (2 : Int32)] [] (w.1, (sx_ul w.2 25 5 y2)) Q)
    (o1 : (¬ (4 : Int32) < x4) → vp_in (x4 - (1 : Int32)) 9)
    (m1 : (¬ (4 : Int32) < x4) → sx_de d rMa_later [.long y2, .int (x4 - (1 : Int32))] w 0 f1 w)
    (o2 : (¬ (4 : Int32) < x4) → vp_in x4 9)
    (k2 : (¬ (4 : Int32) < x4) → sx_ev (d + 1) rMa_reckonCosts 42 [.ref 24, .null, .long y2, .null, .int (x4 + (1 : Int32))] [] (w.1, (sx_ul w.2 25 x4.toNatClampNeg ((w.2 25 (x4 - (1 : Int32)).toNatClampNeg) + f1))) Q) :
    sx_ev (d + 1) rMa_reckonCosts 42 [.ref 24, .null, .long y2, .null, .int x4] [] w Q := by
  refine ev_iload (dMa_reckonCosts.at 27 rfl) rfl ?_
  refine ev_iconst (dMa_reckonCosts.at 28 rfl) kI_4 ?_
  refine ev_icmp_gt (tgt := 79) (dMa_reckonCosts.at 29 rfl) rfl (fun c1 => ?_) (fun c1 => ?_)
  · refine ev_aload_n (dMa_reckonCosts.at 48 rfl) rfl ?_
    refine ev_getr (dMa_reckonCosts.at 49 rfl) (own := 1) rfl fkMa_9 rfl rfl ?_
    refine ev_iconst (dMa_reckonCosts.at 50 rfl) kI_5 ?_
    refine ev_lload_n (dMa_reckonCosts.at 51 rfl) rfl ?_
    refine ev_lastore (dMa_reckonCosts.at 52 rfl) rfl (by unfold vp_in; decide) ?_
    refine ev_iconst (dMa_reckonCosts.at 53 rfl) kI_2 ?_
    refine ev_istore (dMa_reckonCosts.at 54 rfl) (by decide) rfl ?_
    exact (k1 c1)
  · refine ev_aload_n (dMa_reckonCosts.at 30 rfl) rfl ?_
    refine ev_getr (dMa_reckonCosts.at 31 rfl) (own := 1) rfl fkMa_9 rfl rfl ?_
    refine ev_iload (dMa_reckonCosts.at 32 rfl) rfl ?_
    refine ev_aload_n (dMa_reckonCosts.at 33 rfl) rfl ?_
    refine ev_getr (dMa_reckonCosts.at 34 rfl) (own := 1) rfl fkMa_9 rfl rfl ?_
    refine ev_iload (dMa_reckonCosts.at 35 rfl) rfl ?_
    refine ev_iconst (dMa_reckonCosts.at 36 rfl) kI_1 ?_
    refine ev_isub (dMa_reckonCosts.at 37 rfl) ?_
    refine ev_laload (dMa_reckonCosts.at 38 rfl) rfl (o1 c1) ?_
    refine ev_lload_n (dMa_reckonCosts.at 39 rfl) rfl ?_
    refine ev_iload (dMa_reckonCosts.at 40 rfl) rfl ?_
    refine ev_iconst (dMa_reckonCosts.at 41 rfl) kI_1 ?_
    refine ev_isub (dMa_reckonCosts.at 42 rfl) ?_
    refine ev_cSl (dMa_reckonCosts.at 43 rfl) (As := [.long y2, .int (x4 - (1 : Int32))]) (own := 1) rfl ckMa_84 rfl rfl (Nat.le_of_ble_eq_true rfl) rfl (m1 c1) ?_
    refine ev_ladd (dMa_reckonCosts.at 44 rfl) ?_
    refine ev_lastore (dMa_reckonCosts.at 45 rfl) rfl (o2 c1) ?_
    refine ev_iinc (dMa_reckonCosts.at 46 rfl) kI_1 rfl (by decide) rfl ?_
    refine ev_goto (tgt := 42) (dMa_reckonCosts.at 47 rfl) rfl ?_
    exact (k2 c1)
set_option maxHeartbeats 4000000 in
theorem bMa_reckonCosts_39_89 {d : Nat} {w : sx_W} {Q : sx_Q} {y2 : Int64} {x4 : Int32} {f1 : Int64}
    (k1 : ((4 : Int32) < x4) → Q 0 0 w)
    (o1 : (¬ (4 : Int32) < x4) → vp_in (x4 - (1 : Int32)) 9)
    (m1 : (¬ (4 : Int32) < x4) → sx_de d rMa_later [.long y2, .int (4 : Int32)] w 0 f1 w)
    (o2 : (¬ (4 : Int32) < x4) → vp_in ((4 : Int32) + x4) 9)
    (k2 : (¬ (4 : Int32) < x4) → sx_ev (d + 1) rMa_reckonCosts 89 [.ref 24, .null, .long y2, .null, .int (x4 + (1 : Int32))] [] (w.1, (sx_ul w.2 25 ((4 : Int32) + x4).toNatClampNeg ((w.2 25 (x4 - (1 : Int32)).toNatClampNeg) + f1))) Q) :
    sx_ev (d + 1) rMa_reckonCosts 89 [.ref 24, .null, .long y2, .null, .int x4] [] w Q := by
  refine ev_iload (dMa_reckonCosts.at 55 rfl) rfl ?_
  refine ev_iconst (dMa_reckonCosts.at 56 rfl) kI_4 ?_
  refine ev_icmp_gt (tgt := 125) (dMa_reckonCosts.at 57 rfl) rfl (fun c1 => ?_) (fun c1 => ?_)
  · exact ev_vret (dMa_reckonCosts.at 76 rfl) rfl (k1 c1)
  · refine ev_aload_n (dMa_reckonCosts.at 58 rfl) rfl ?_
    refine ev_getr (dMa_reckonCosts.at 59 rfl) (own := 1) rfl fkMa_9 rfl rfl ?_
    refine ev_iconst (dMa_reckonCosts.at 60 rfl) kI_4 ?_
    refine ev_iload (dMa_reckonCosts.at 61 rfl) rfl ?_
    refine ev_iadd (dMa_reckonCosts.at 62 rfl) ?_
    refine ev_aload_n (dMa_reckonCosts.at 63 rfl) rfl ?_
    refine ev_getr (dMa_reckonCosts.at 64 rfl) (own := 1) rfl fkMa_9 rfl rfl ?_
    refine ev_iload (dMa_reckonCosts.at 65 rfl) rfl ?_
    refine ev_iconst (dMa_reckonCosts.at 66 rfl) kI_1 ?_
    refine ev_isub (dMa_reckonCosts.at 67 rfl) ?_
    refine ev_laload (dMa_reckonCosts.at 68 rfl) rfl (o1 c1) ?_
    refine ev_lload_n (dMa_reckonCosts.at 69 rfl) rfl ?_
    refine ev_iconst (dMa_reckonCosts.at 70 rfl) kI_4 ?_
    refine ev_cSl (dMa_reckonCosts.at 71 rfl) (As := [.long y2, .int (4 : Int32)]) (own := 1) rfl ckMa_84 rfl rfl (Nat.le_of_ble_eq_true rfl) rfl (m1 c1) ?_
    refine ev_ladd (dMa_reckonCosts.at 72 rfl) ?_
    refine ev_lastore (dMa_reckonCosts.at 73 rfl) rfl (o2 c1) ?_
    refine ev_iinc (dMa_reckonCosts.at 74 rfl) kI_1 rfl (by decide) rfl ?_
    refine ev_goto (tgt := 89) (dMa_reckonCosts.at 75 rfl) rfl ?_
    exact (k2 c1)
set_option maxHeartbeats 4000000 in
theorem bMa_reckonCosts_26_0 {d : Nat} {w : sx_W} {Q : sx_Q}
    (k1 : sx_ev d rMa_reckonCosts 5 [.ref 24, .ref 26, .long (0 : Int64), .null, .int (0 : Int32)] [] w Q) :
    sx_ev d rMa_reckonCosts 0 [.ref 24, .ref 26, .null, .null, .null] [] w Q := by
  refine ev_lconst (dMa_reckonCosts.at 0 rfl) rfl ?_
  refine ev_lstore_n (dMa_reckonCosts.at 1 rfl) (by decide) rfl ?_
  refine ev_iconst (dMa_reckonCosts.at 2 rfl) kI_0 ?_
  refine ev_istore (dMa_reckonCosts.at 3 rfl) (by decide) rfl ?_
  exact k1
set_option maxHeartbeats 4000000 in
theorem bMa_reckonCosts_26_5 {d : Nat} {w : sx_W} {Q : sx_Q} {y2 : Int64} {x4 : Int32}
    (k1 : ((8 : Int32) ≤ x4) → sx_ev d rMa_reckonCosts 42 [.ref 24, .null, .long y2, .null, .int (1 : Int32)] [] (w.1, (sx_ul w.2 25 0 (0 : Int64))) Q)
    (o1 : (¬ (8 : Int32) ≤ x4) → vp_in x4 8)
    (k2 : (¬ (8 : Int32) ≤ x4) → sx_ev d rMa_reckonCosts 5 [.ref 24, .ref 26, .long (y2 ||| ((w.1 26 x4.toNatClampNeg).toInt64 <<< (((8 : Int32) * x4).toInt64 &&& 63))), .null, .int (x4 + (1 : Int32))] [] w Q) :
    sx_ev d rMa_reckonCosts 5 [.ref 24, .ref 26, .long y2, .null, .int x4] [] w Q := by
  refine ev_iload (dMa_reckonCosts.at 4 rfl) rfl ?_
  refine ev_bipush (dMa_reckonCosts.at 5 rfl) kB_8 ?_
  refine ev_icmp_ge (tgt := 32) (dMa_reckonCosts.at 6 rfl) rfl (fun c1 => ?_) (fun c1 => ?_)
  · refine ev_aload_n (dMa_reckonCosts.at 20 rfl) rfl ?_
    refine ev_getr (dMa_reckonCosts.at 21 rfl) (own := 1) rfl fkMa_9 rfl rfl ?_
    refine ev_iconst (dMa_reckonCosts.at 22 rfl) kI_0 ?_
    refine ev_lconst (dMa_reckonCosts.at 23 rfl) rfl ?_
    refine ev_lastore (dMa_reckonCosts.at 24 rfl) rfl (by unfold vp_in; decide) ?_
    refine ev_iconst (dMa_reckonCosts.at 25 rfl) kI_1 ?_
    refine ev_istore (dMa_reckonCosts.at 26 rfl) (by decide) rfl ?_
    refine ev_kp [true, false, true, false, true] rfl ?_
    exact (k1 c1)
  · refine ev_lload_n (dMa_reckonCosts.at 7 rfl) rfl ?_
    refine ev_aload_n (dMa_reckonCosts.at 8 rfl) rfl ?_
    refine ev_iload (dMa_reckonCosts.at 9 rfl) rfl ?_
    refine ev_iaload (dMa_reckonCosts.at 10 rfl) rfl (o1 c1) ?_
    refine ev_i2l (dMa_reckonCosts.at 11 rfl) ?_
    refine ev_bipush (dMa_reckonCosts.at 12 rfl) kB_8 ?_
    refine ev_iload (dMa_reckonCosts.at 13 rfl) rfl ?_
    refine ev_imul (dMa_reckonCosts.at 14 rfl) ?_
    refine ev_lshl (dMa_reckonCosts.at 15 rfl) ?_
    refine ev_lor (dMa_reckonCosts.at 16 rfl) ?_
    refine ev_lstore_n (dMa_reckonCosts.at 17 rfl) (by decide) rfl ?_
    refine ev_iinc (dMa_reckonCosts.at 18 rfl) kI_1 rfl (by decide) rfl ?_
    refine ev_goto (tgt := 5) (dMa_reckonCosts.at 19 rfl) rfl ?_
    exact (k2 c1)
set_option maxHeartbeats 4000000 in
theorem bMa_reckonCosts_26_42 {d : Nat} {w : sx_W} {Q : sx_Q} {y2 : Int64} {x4 : Int32} {f1 : Int64}
    (k1 : ((4 : Int32) < x4) → sx_ev (d + 1) rMa_reckonCosts 89 [.ref 24, .null, .long y2, .null, .int (2 : Int32)] [] (w.1, (sx_ul w.2 25 5 y2)) Q)
    (o1 : (¬ (4 : Int32) < x4) → vp_in (x4 - (1 : Int32)) 9)
    (m1 : (¬ (4 : Int32) < x4) → sx_de d rMa_later [.long y2, .int (x4 - (1 : Int32))] w 0 f1 w)
    (o2 : (¬ (4 : Int32) < x4) → vp_in x4 9)
    (k2 : (¬ (4 : Int32) < x4) → sx_ev (d + 1) rMa_reckonCosts 42 [.ref 24, .null, .long y2, .null, .int (x4 + (1 : Int32))] [] (w.1, (sx_ul w.2 25 x4.toNatClampNeg ((w.2 25 (x4 - (1 : Int32)).toNatClampNeg) + f1))) Q) :
    sx_ev (d + 1) rMa_reckonCosts 42 [.ref 24, .null, .long y2, .null, .int x4] [] w Q := by
  refine ev_iload (dMa_reckonCosts.at 27 rfl) rfl ?_
  refine ev_iconst (dMa_reckonCosts.at 28 rfl) kI_4 ?_
  refine ev_icmp_gt (tgt := 79) (dMa_reckonCosts.at 29 rfl) rfl (fun c1 => ?_) (fun c1 => ?_)
  · refine ev_aload_n (dMa_reckonCosts.at 48 rfl) rfl ?_
    refine ev_getr (dMa_reckonCosts.at 49 rfl) (own := 1) rfl fkMa_9 rfl rfl ?_
    refine ev_iconst (dMa_reckonCosts.at 50 rfl) kI_5 ?_
    refine ev_lload_n (dMa_reckonCosts.at 51 rfl) rfl ?_
    refine ev_lastore (dMa_reckonCosts.at 52 rfl) rfl (by unfold vp_in; decide) ?_
    refine ev_iconst (dMa_reckonCosts.at 53 rfl) kI_2 ?_
    refine ev_istore (dMa_reckonCosts.at 54 rfl) (by decide) rfl ?_
    exact (k1 c1)
  · refine ev_aload_n (dMa_reckonCosts.at 30 rfl) rfl ?_
    refine ev_getr (dMa_reckonCosts.at 31 rfl) (own := 1) rfl fkMa_9 rfl rfl ?_
    refine ev_iload (dMa_reckonCosts.at 32 rfl) rfl ?_
    refine ev_aload_n (dMa_reckonCosts.at 33 rfl) rfl ?_
    refine ev_getr (dMa_reckonCosts.at 34 rfl) (own := 1) rfl fkMa_9 rfl rfl ?_
    refine ev_iload (dMa_reckonCosts.at 35 rfl) rfl ?_
    refine ev_iconst (dMa_reckonCosts.at 36 rfl) kI_1 ?_
    refine ev_isub (dMa_reckonCosts.at 37 rfl) ?_
    refine ev_laload (dMa_reckonCosts.at 38 rfl) rfl (o1 c1) ?_
    refine ev_lload_n (dMa_reckonCosts.at 39 rfl) rfl ?_
    refine ev_iload (dMa_reckonCosts.at 40 rfl) rfl ?_
    refine ev_iconst (dMa_reckonCosts.at 41 rfl) kI_1 ?_
    refine ev_isub (dMa_reckonCosts.at 42 rfl) ?_
    refine ev_cSl (dMa_reckonCosts.at 43 rfl) (As := [.long y2, .int (x4 - (1 : Int32))]) (own := 1) rfl ckMa_84 rfl rfl (Nat.le_of_ble_eq_true rfl) rfl (m1 c1) ?_
    refine ev_ladd (dMa_reckonCosts.at 44 rfl) ?_
    refine ev_lastore (dMa_reckonCosts.at 45 rfl) rfl (o2 c1) ?_
    refine ev_iinc (dMa_reckonCosts.at 46 rfl) kI_1 rfl (by decide) rfl ?_
    refine ev_goto (tgt := 42) (dMa_reckonCosts.at 47 rfl) rfl ?_
    exact (k2 c1)
set_option maxHeartbeats 4000000 in
theorem bMa_reckonCosts_26_89 {d : Nat} {w : sx_W} {Q : sx_Q} {y2 : Int64} {x4 : Int32} {f1 : Int64}
    (k1 : ((4 : Int32) < x4) → Q 0 0 w)
    (o1 : (¬ (4 : Int32) < x4) → vp_in (x4 - (1 : Int32)) 9)
    (m1 : (¬ (4 : Int32) < x4) → sx_de d rMa_later [.long y2, .int (4 : Int32)] w 0 f1 w)
    (o2 : (¬ (4 : Int32) < x4) → vp_in ((4 : Int32) + x4) 9)
    (k2 : (¬ (4 : Int32) < x4) → sx_ev (d + 1) rMa_reckonCosts 89 [.ref 24, .null, .long y2, .null, .int (x4 + (1 : Int32))] [] (w.1, (sx_ul w.2 25 ((4 : Int32) + x4).toNatClampNeg ((w.2 25 (x4 - (1 : Int32)).toNatClampNeg) + f1))) Q) :
    sx_ev (d + 1) rMa_reckonCosts 89 [.ref 24, .null, .long y2, .null, .int x4] [] w Q := by
  refine ev_iload (dMa_reckonCosts.at 55 rfl) rfl ?_
  refine ev_iconst (dMa_reckonCosts.at 56 rfl) kI_4 ?_
  refine ev_icmp_gt (tgt := 125) (dMa_reckonCosts.at 57 rfl) rfl (fun c1 => ?_) (fun c1 => ?_)
  · exact ev_vret (dMa_reckonCosts.at 76 rfl) rfl (k1 c1)
  · refine ev_aload_n (dMa_reckonCosts.at 58 rfl) rfl ?_
    refine ev_getr (dMa_reckonCosts.at 59 rfl) (own := 1) rfl fkMa_9 rfl rfl ?_
    refine ev_iconst (dMa_reckonCosts.at 60 rfl) kI_4 ?_
    refine ev_iload (dMa_reckonCosts.at 61 rfl) rfl ?_
    refine ev_iadd (dMa_reckonCosts.at 62 rfl) ?_
    refine ev_aload_n (dMa_reckonCosts.at 63 rfl) rfl ?_
    refine ev_getr (dMa_reckonCosts.at 64 rfl) (own := 1) rfl fkMa_9 rfl rfl ?_
    refine ev_iload (dMa_reckonCosts.at 65 rfl) rfl ?_
    refine ev_iconst (dMa_reckonCosts.at 66 rfl) kI_1 ?_
    refine ev_isub (dMa_reckonCosts.at 67 rfl) ?_
    refine ev_laload (dMa_reckonCosts.at 68 rfl) rfl (o1 c1) ?_
    refine ev_lload_n (dMa_reckonCosts.at 69 rfl) rfl ?_
    refine ev_iconst (dMa_reckonCosts.at 70 rfl) kI_4 ?_
    refine ev_cSl (dMa_reckonCosts.at 71 rfl) (As := [.long y2, .int (4 : Int32)]) (own := 1) rfl ckMa_84 rfl rfl (Nat.le_of_ble_eq_true rfl) rfl (m1 c1) ?_
    refine ev_ladd (dMa_reckonCosts.at 72 rfl) ?_
    refine ev_lastore (dMa_reckonCosts.at 73 rfl) rfl (o2 c1) ?_
    refine ev_iinc (dMa_reckonCosts.at 74 rfl) kI_1 rfl (by decide) rfl ?_
    refine ev_goto (tgt := 89) (dMa_reckonCosts.at 75 rfl) rfl ?_
    exact (k2 c1)
set_option maxHeartbeats 4000000 in
theorem bMa_later_0 {d : Nat} {w : sx_W} {Q : sx_Q} {y0 : Int64} {x2 : Int32}
    (k1 : (¬ ((8 : Int32) * x2) = 0) → Q 0 ((y0.toUInt64 >>> (((8 : Int32) * x2).toInt64.toUInt64 &&& Int64.toUInt64 63)).toInt64 ||| (y0 <<< (((64 : Int32) - ((8 : Int32) * x2)).toInt64 &&& 63))) w)
    (k2 : (((8 : Int32) * x2) = 0) → Q 0 y0 w) :
    sx_ev d rMa_later 0 [.long y0, .null, .int x2, .null] [] w Q := by
  refine ev_bipush (dMa_later.at 0 rfl) kB_8 ?_
  refine ev_iload_n (dMa_later.at 1 rfl) rfl ?_
  refine ev_imul (dMa_later.at 2 rfl) ?_
  refine ev_istore_n (dMa_later.at 3 rfl) (by decide) rfl ?_
  refine ev_iload_n (dMa_later.at 4 rfl) rfl ?_
  refine ev_if_ne (tgt := 13) (dMa_later.at 5 rfl) rfl (fun c1 => ?_) (fun c1 => ?_)
  · refine ev_lload_n (dMa_later.at 8 rfl) rfl ?_
    refine ev_iload_n (dMa_later.at 9 rfl) rfl ?_
    refine ev_lushr (dMa_later.at 10 rfl) ?_
    refine ev_lload_n (dMa_later.at 11 rfl) rfl ?_
    refine ev_bipush (dMa_later.at 12 rfl) kB_64 ?_
    refine ev_iload_n (dMa_later.at 13 rfl) rfl ?_
    refine ev_isub (dMa_later.at 14 rfl) ?_
    refine ev_lshl (dMa_later.at 15 rfl) ?_
    refine ev_lor (dMa_later.at 16 rfl) ?_
    exact ev_lret (dMa_later.at 17 rfl) rfl (k1 c1)
  · refine ev_lload_n (dMa_later.at 6 rfl) rfl ?_
    refine ev_goto (tgt := 23) (dMa_later.at 7 rfl) rfl ?_
    exact ev_lret (dMa_later.at 17 rfl) rfl (k2 c1)
set_option maxHeartbeats 4000000 in
theorem bMa_cheapest_0 {d : Nat} {w : sx_W} {Q : sx_Q} {x1 : Int32}
    (o1 : vp_in x1 7)
    (o2 : (¬ (w.1 2 x1.toNatClampNeg) = (1 : Int32)) → vp_in ((w.1 3 x1.toNatClampNeg) + (0 : Int32)) 9)
    (k1 : (¬ (w.1 2 x1.toNatClampNeg) = (1 : Int32)) → sx_ev d rMa_cheapest 56 [.null, .null, .long (w.2 25 ((w.1 3 x1.toNatClampNeg) + (0 : Int32)).toNatClampNeg), .null, .int (w.1 12 x1.toNatClampNeg), .int (255 : Int32), .int (-1 : Int32), .int (0 : Int32), .null] [] w Q)
    (o3 : ((w.1 2 x1.toNatClampNeg) = (1 : Int32)) → vp_in ((w.1 3 x1.toNatClampNeg) + (4 : Int32)) 9)
    (k2 : ((w.1 2 x1.toNatClampNeg) = (1 : Int32)) → sx_ev d rMa_cheapest 56 [.null, .null, .long (w.2 25 ((w.1 3 x1.toNatClampNeg) + (4 : Int32)).toNatClampNeg), .null, .int (w.1 12 x1.toNatClampNeg), .int (255 : Int32), .int (-1 : Int32), .int (0 : Int32), .null] [] w Q) :
    sx_ev d rMa_cheapest 0 [.ref 24, .int x1, .null, .null, .null, .null, .null, .null, .null] [] w Q := by
  refine ev_aload_n (dMa_cheapest.at 0 rfl) rfl ?_
  refine ev_getr (dMa_cheapest.at 1 rfl) (own := 1) rfl fkMa_9 rfl rfl ?_
  refine ev_aload_n (dMa_cheapest.at 2 rfl) rfl ?_
  refine ev_getr (dMa_cheapest.at 3 rfl) (own := 1) rfl fkMa_30 rfl rfl ?_
  refine ev_getr (dMa_cheapest.at 4 rfl) (own := 1) rfl fkMa_88 rfl rfl ?_
  refine ev_iload_n (dMa_cheapest.at 5 rfl) rfl ?_
  refine ev_iaload (dMa_cheapest.at 6 rfl) rfl o1 ?_
  refine ev_aload_n (dMa_cheapest.at 7 rfl) rfl ?_
  refine ev_getr (dMa_cheapest.at 8 rfl) (own := 1) rfl fkMa_30 rfl rfl ?_
  refine ev_getr (dMa_cheapest.at 9 rfl) (own := 1) rfl fkMa_91 rfl rfl ?_
  refine ev_iload_n (dMa_cheapest.at 10 rfl) rfl ?_
  refine ev_iaload (dMa_cheapest.at 11 rfl) rfl o1 ?_
  refine ev_iconst (dMa_cheapest.at 12 rfl) kI_1 ?_
  refine ev_icmp_ne (tgt := 30) (dMa_cheapest.at 13 rfl) rfl (fun c1 => ?_) (fun c1 => ?_)
  · refine ev_iconst (dMa_cheapest.at 16 rfl) kI_0 ?_
    refine ev_iadd (dMa_cheapest.at 17 rfl) ?_
    refine ev_laload (dMa_cheapest.at 18 rfl) rfl (o2 c1) ?_
    refine ev_lstore_n (dMa_cheapest.at 19 rfl) (by decide) rfl ?_
    refine ev_aload_n (dMa_cheapest.at 20 rfl) rfl ?_
    refine ev_getr (dMa_cheapest.at 21 rfl) (own := 1) rfl fkMa_34 rfl rfl ?_
    refine ev_getr (dMa_cheapest.at 22 rfl) (own := 1) rfl fkMa_94 rfl rfl ?_
    refine ev_iload_n (dMa_cheapest.at 23 rfl) rfl ?_
    refine ev_iaload (dMa_cheapest.at 24 rfl) rfl o1 ?_
    refine ev_istore (dMa_cheapest.at 25 rfl) (by decide) rfl ?_
    refine ev_sipush (dMa_cheapest.at 26 rfl) kS_255 ?_
    refine ev_istore (dMa_cheapest.at 27 rfl) (by decide) rfl ?_
    refine ev_iconst (dMa_cheapest.at 28 rfl) kI_m1 ?_
    refine ev_istore (dMa_cheapest.at 29 rfl) (by decide) rfl ?_
    refine ev_iconst (dMa_cheapest.at 30 rfl) kI_0 ?_
    refine ev_istore (dMa_cheapest.at 31 rfl) (by decide) rfl ?_
    refine ev_kp [false, false, true, false, true, true, true, true, false] rfl ?_
    exact (k1 c1)
  · refine ev_iconst (dMa_cheapest.at 14 rfl) kI_4 ?_
    refine ev_goto (tgt := 31) (dMa_cheapest.at 15 rfl) rfl ?_
    refine ev_iadd (dMa_cheapest.at 17 rfl) ?_
    refine ev_laload (dMa_cheapest.at 18 rfl) rfl (o3 c1) ?_
    refine ev_lstore_n (dMa_cheapest.at 19 rfl) (by decide) rfl ?_
    refine ev_aload_n (dMa_cheapest.at 20 rfl) rfl ?_
    refine ev_getr (dMa_cheapest.at 21 rfl) (own := 1) rfl fkMa_34 rfl rfl ?_
    refine ev_getr (dMa_cheapest.at 22 rfl) (own := 1) rfl fkMa_94 rfl rfl ?_
    refine ev_iload_n (dMa_cheapest.at 23 rfl) rfl ?_
    refine ev_iaload (dMa_cheapest.at 24 rfl) rfl o1 ?_
    refine ev_istore (dMa_cheapest.at 25 rfl) (by decide) rfl ?_
    refine ev_sipush (dMa_cheapest.at 26 rfl) kS_255 ?_
    refine ev_istore (dMa_cheapest.at 27 rfl) (by decide) rfl ?_
    refine ev_iconst (dMa_cheapest.at 28 rfl) kI_m1 ?_
    refine ev_istore (dMa_cheapest.at 29 rfl) (by decide) rfl ?_
    refine ev_iconst (dMa_cheapest.at 30 rfl) kI_0 ?_
    refine ev_istore (dMa_cheapest.at 31 rfl) (by decide) rfl ?_
    refine ev_kp [false, false, true, false, true, true, true, true, false] rfl ?_
    exact (k2 c1)
set_option maxHeartbeats 4000000 in
theorem bMa_cheapest_56 {d : Nat} {w : sx_W} {Q : sx_Q} {y2 : Int64} {x4 : Int32} {x5 : Int32} {x6 : Int32} {x7 : Int32} {f1 : Int32}
    (k1 : ((8 : Int32) ≤ x7) → Q x6 0 w)
    (k2 : (¬ (8 : Int32) ≤ x7) → (x5 ≤ ((y2.toUInt64 >>> (((8 : Int32) * x7).toInt64.toUInt64 &&& Int64.toUInt64 63)).toInt64.toInt32 &&& (255 : Int32))) → sx_ev (d + 1) rMa_cheapest 56 [.null, .null, .long y2, .null, .int x4, .int x5, .int x6, .int (x7 + (1 : Int32)), .null] [] w Q)
    (m1 : (¬ (8 : Int32) ≤ x7) → (¬ x5 ≤ ((y2.toUInt64 >>> (((8 : Int32) * x7).toInt64.toUInt64 &&& Int64.toUInt64 63)).toInt64.toInt32 &&& (255 : Int32))) → sx_de d rSb_holds [.int x4, .int x7] w f1 0 w)
    (k3 : (¬ (8 : Int32) ≤ x7) → (¬ x5 ≤ ((y2.toUInt64 >>> (((8 : Int32) * x7).toInt64.toUInt64 &&& Int64.toUInt64 63)).toInt64.toInt32 &&& (255 : Int32))) → (f1 = 0) → sx_ev (d + 1) rMa_cheapest 56 [.null, .null, .long y2, .null, .int x4, .int x5, .int x6, .int (x7 + (1 : Int32)), .null] [] w Q)
    (k4 : (¬ (8 : Int32) ≤ x7) → (¬ x5 ≤ ((y2.toUInt64 >>> (((8 : Int32) * x7).toInt64.toUInt64 &&& Int64.toUInt64 63)).toInt64.toInt32 &&& (255 : Int32))) → (¬ f1 = 0) → sx_ev (d + 1) rMa_cheapest 56 [.null, .null, .long y2, .null, .int x4, .int ((y2.toUInt64 >>> (((8 : Int32) * x7).toInt64.toUInt64 &&& Int64.toUInt64 63)).toInt64.toInt32 &&& (255 : Int32)), .int x7, .int (x7 + (1 : Int32)), .null] [] w Q) :
    sx_ev (d + 1) rMa_cheapest 56 [.null, .null, .long y2, .null, .int x4, .int x5, .int x6, .int x7, .null] [] w Q := by
  refine ev_iload (dMa_cheapest.at 32 rfl) rfl ?_
  refine ev_bipush (dMa_cheapest.at 33 rfl) kB_8 ?_
  refine ev_icmp_ge (tgt := 108) (dMa_cheapest.at 34 rfl) rfl (fun c1 => ?_) (fun c1 => ?_)
  · refine ev_iload (dMa_cheapest.at 57 rfl) rfl ?_
    exact ev_iret (dMa_cheapest.at 58 rfl) rfl (k1 c1)
  · refine ev_lload_n (dMa_cheapest.at 35 rfl) rfl ?_
    refine ev_bipush (dMa_cheapest.at 36 rfl) kB_8 ?_
    refine ev_iload (dMa_cheapest.at 37 rfl) rfl ?_
    refine ev_imul (dMa_cheapest.at 38 rfl) ?_
    refine ev_lushr (dMa_cheapest.at 39 rfl) ?_
    refine ev_l2i (dMa_cheapest.at 40 rfl) ?_
    refine ev_sipush (dMa_cheapest.at 41 rfl) kS_255 ?_
    refine ev_iand (dMa_cheapest.at 42 rfl) ?_
    refine ev_istore (dMa_cheapest.at 43 rfl) (by decide) rfl ?_
    refine ev_iload (dMa_cheapest.at 44 rfl) rfl ?_
    refine ev_iload (dMa_cheapest.at 45 rfl) rfl ?_
    refine ev_icmp_ge (tgt := 102) (dMa_cheapest.at 46 rfl) rfl (fun c2 => ?_) (fun c2 => ?_)
    · refine ev_iinc (dMa_cheapest.at 55 rfl) kI_1 rfl (by decide) rfl ?_
      refine ev_goto (tgt := 56) (dMa_cheapest.at 56 rfl) rfl ?_
      refine ev_kp [false, false, true, false, true, true, true, true, false] rfl ?_
      exact (k2 c1 c2)
    · refine ev_iload (dMa_cheapest.at 47 rfl) rfl ?_
      refine ev_iload (dMa_cheapest.at 48 rfl) rfl ?_
      refine ev_cNi (dMa_cheapest.at 49 rfl) (As := [.int x4, .int x7]) (own := 1) rfl ckMa_97 (Or.inr rfl) rfl (Nat.le_of_ble_eq_true rfl) rfl (m1 c1 c2) ?_
      refine ev_if_eq (tgt := 102) (dMa_cheapest.at 50 rfl) rfl (fun c3 => ?_) (fun c3 => ?_)
      · refine ev_iinc (dMa_cheapest.at 55 rfl) kI_1 rfl (by decide) rfl ?_
        refine ev_goto (tgt := 56) (dMa_cheapest.at 56 rfl) rfl ?_
        refine ev_kp [false, false, true, false, true, true, true, true, false] rfl ?_
        exact (k3 c1 c2 c3)
      · refine ev_iload (dMa_cheapest.at 51 rfl) rfl ?_
        refine ev_istore (dMa_cheapest.at 52 rfl) (by decide) rfl ?_
        refine ev_iload (dMa_cheapest.at 53 rfl) rfl ?_
        refine ev_istore (dMa_cheapest.at 54 rfl) (by decide) rfl ?_
        refine ev_iinc (dMa_cheapest.at 55 rfl) kI_1 rfl (by decide) rfl ?_
        refine ev_goto (tgt := 56) (dMa_cheapest.at 56 rfl) rfl ?_
        refine ev_kp [false, false, true, false, true, true, true, true, false] rfl ?_
        exact (k4 c1 c2 c3)
set_option maxHeartbeats 4000000 in
theorem bNi_bedOf_0 {d : Nat} {w : sx_W} {Q : sx_Q} {x1 : Int32} {x2 : Int32} {w1 : sx_W}
    (m1 : sx_de d rNi_settle [.ref 27] w 0 0 w1)
    (o1 : vp_in ((x1 * (8 : Int32)) + x2) 56)
    (k1 : Q (w1.1 28 ((x1 * (8 : Int32)) + x2).toNatClampNeg) 0 w1) :
    sx_ev (d + 1) rNi_bedOf 0 [.ref 27, .int x1, .int x2] [] w Q := by
  refine ev_aload_n (dNi_bedOf.at 0 rfl) rfl ?_
  refine ev_cVv (dNi_bedOf.at 1 rfl) (As := []) (own := 2) rfl ckNi_38 rfl rfl rfl (Nat.le_of_ble_eq_true rfl) rfl m1 ?_
  refine ev_aload_n (dNi_bedOf.at 2 rfl) rfl ?_
  refine ev_getr (dNi_bedOf.at 3 rfl) (own := 2) rfl fkNi_9 rfl rfl ?_
  refine ev_iload_n (dNi_bedOf.at 4 rfl) rfl ?_
  refine ev_bipush (dNi_bedOf.at 5 rfl) kB_8 ?_
  refine ev_imul (dNi_bedOf.at 6 rfl) ?_
  refine ev_iload_n (dNi_bedOf.at 7 rfl) rfl ?_
  refine ev_iadd (dNi_bedOf.at 8 rfl) ?_
  refine ev_iaload (dNi_bedOf.at 9 rfl) rfl o1 ?_
  exact ev_iret (dNi_bedOf.at 10 rfl) rfl k1
set_option maxHeartbeats 4000000 in
theorem bNi_linenChanges_0 {d : Nat} {w : sx_W} {Q : sx_Q} {w1 : sx_W} {w2 : sx_W}
    (m1 : sx_de d rNi_settle [.ref 27] w 0 0 w1)
    (m2 : sx_de d rNi_stripBeds [.ref 27] w1 0 0 w2)
    (k1 : sx_ev (d + 1) rNi_linenChanges 12 [.ref 27, .int (0 : Int32), .int (0 : Int32), .null] [] w2 Q) :
    sx_ev (d + 1) rNi_linenChanges 0 [.ref 27, .null, .null, .null] [] w Q := by
  refine ev_aload_n (dNi_linenChanges.at 0 rfl) rfl ?_
  refine ev_cVv (dNi_linenChanges.at 1 rfl) (As := []) (own := 2) rfl ckNi_38 rfl rfl rfl (Nat.le_of_ble_eq_true rfl) rfl m1 ?_
  refine ev_aload_n (dNi_linenChanges.at 2 rfl) rfl ?_
  refine ev_cVv (dNi_linenChanges.at 3 rfl) (As := []) (own := 2) rfl ckNi_41 rfl rfl rfl (Nat.le_of_ble_eq_true rfl) rfl m2 ?_
  refine ev_iconst (dNi_linenChanges.at 4 rfl) kI_0 ?_
  refine ev_istore_n (dNi_linenChanges.at 5 rfl) (by decide) rfl ?_
  refine ev_iconst (dNi_linenChanges.at 6 rfl) kI_0 ?_
  refine ev_istore_n (dNi_linenChanges.at 7 rfl) (by decide) rfl ?_
  exact k1
set_option maxHeartbeats 4000000 in
theorem bNi_linenChanges_12 {d : Nat} {w : sx_W} {Q : sx_Q} {x1 : Int32} {x2 : Int32}
    (k1 : ((w.1 27 4) ≤ x2) → Q x1 0 w)
    (o1 : (¬ (w.1 27 4) ≤ x2) → vp_in x2 56)
    (o2 : (¬ (w.1 27 4) ≤ x2) → vp_in (w.1 30 x2.toNatClampNeg) 7)
    (k2 : (¬ (w.1 27 4) ≤ x2) → ((w.1 31 (w.1 30 x2.toNatClampNeg).toNatClampNeg) = (-1 : Int32)) → sx_ev d rNi_linenChanges 12 [.ref 27, .int (x1 + (0 : Int32)), .int (x2 + (1 : Int32)), .null] [] ((sx_u w.1 31 (w.1 30 x2.toNatClampNeg).toNatClampNeg (w.1 29 x2.toNatClampNeg)), w.2) Q)
    (k3 : (¬ (w.1 27 4) ≤ x2) → (¬ (w.1 31 (w.1 30 x2.toNatClampNeg).toNatClampNeg) = (-1 : Int32)) → ((w.1 31 (w.1 30 x2.toNatClampNeg).toNatClampNeg) = (w.1 29 x2.toNatClampNeg)) → sx_ev d rNi_linenChanges 12 [.ref 27, .int (x1 + (0 : Int32)), .int (x2 + (1 : Int32)), .null] [] ((sx_u w.1 31 (w.1 30 x2.toNatClampNeg).toNatClampNeg (w.1 29 x2.toNatClampNeg)), w.2) Q)
    (k4 : (¬ (w.1 27 4) ≤ x2) → (¬ (w.1 31 (w.1 30 x2.toNatClampNeg).toNatClampNeg) = (-1 : Int32)) → (¬ (w.1 31 (w.1 30 x2.toNatClampNeg).toNatClampNeg) = (w.1 29 x2.toNatClampNeg)) → sx_ev d rNi_linenChanges 12 [.ref 27, .int (x1 + (1 : Int32)), .int (x2 + (1 : Int32)), .null] [] ((sx_u w.1 31 (w.1 30 x2.toNatClampNeg).toNatClampNeg (w.1 29 x2.toNatClampNeg)), w.2) Q) :
    sx_ev d rNi_linenChanges 12 [.ref 27, .int x1, .int x2, .null] [] w Q := by
  refine ev_iload_n (dNi_linenChanges.at 8 rfl) rfl ?_
  refine ev_aload_n (dNi_linenChanges.at 9 rfl) rfl ?_
  refine ev_get (dNi_linenChanges.at 10 rfl) (own := 2) rfl fkNi_21 rfl rfl ?_
  refine ev_icmp_ge (tgt := 78) (dNi_linenChanges.at 11 rfl) rfl (fun c1 => ?_) (fun c1 => ?_)
  · refine ev_iload_n (dNi_linenChanges.at 48 rfl) rfl ?_
    exact ev_iret (dNi_linenChanges.at 49 rfl) rfl (k1 c1)
  · refine ev_aload_n (dNi_linenChanges.at 12 rfl) rfl ?_
    refine ev_getr (dNi_linenChanges.at 13 rfl) (own := 2) rfl fkNi_28 rfl rfl ?_
    refine ev_aload_n (dNi_linenChanges.at 14 rfl) rfl ?_
    refine ev_getr (dNi_linenChanges.at 15 rfl) (own := 2) rfl fkNi_18 rfl rfl ?_
    refine ev_iload_n (dNi_linenChanges.at 16 rfl) rfl ?_
    refine ev_iaload (dNi_linenChanges.at 17 rfl) rfl (o1 c1) ?_
    refine ev_iaload (dNi_linenChanges.at 18 rfl) rfl (o2 c1) ?_
    refine ev_istore_n (dNi_linenChanges.at 19 rfl) (by decide) rfl ?_
    refine ev_iload_n (dNi_linenChanges.at 20 rfl) rfl ?_
    refine ev_iload_n (dNi_linenChanges.at 21 rfl) rfl ?_
    refine ev_iconst (dNi_linenChanges.at 22 rfl) kI_m1 ?_
    refine ev_icmp_eq (tgt := 52) (dNi_linenChanges.at 23 rfl) rfl (fun c2 => ?_) (fun c2 => ?_)
    · refine ev_iconst (dNi_linenChanges.at 32 rfl) kI_0 ?_
      refine ev_iadd (dNi_linenChanges.at 33 rfl) ?_
      refine ev_istore_n (dNi_linenChanges.at 34 rfl) (by decide) rfl ?_
      refine ev_aload_n (dNi_linenChanges.at 35 rfl) rfl ?_
      refine ev_getr (dNi_linenChanges.at 36 rfl) (own := 2) rfl fkNi_28 rfl rfl ?_
      refine ev_aload_n (dNi_linenChanges.at 37 rfl) rfl ?_
      refine ev_getr (dNi_linenChanges.at 38 rfl) (own := 2) rfl fkNi_18 rfl rfl ?_
      refine ev_iload_n (dNi_linenChanges.at 39 rfl) rfl ?_
      refine ev_iaload (dNi_linenChanges.at 40 rfl) rfl (o1 c1) ?_
      refine ev_aload_n (dNi_linenChanges.at 41 rfl) rfl ?_
      refine ev_getr (dNi_linenChanges.at 42 rfl) (own := 2) rfl fkNi_15 rfl rfl ?_
      refine ev_iload_n (dNi_linenChanges.at 43 rfl) rfl ?_
      refine ev_iaload (dNi_linenChanges.at 44 rfl) rfl (o1 c1) ?_
      refine ev_iastore (dNi_linenChanges.at 45 rfl) rfl (o2 c1) ?_
      refine ev_iinc (dNi_linenChanges.at 46 rfl) kI_1 rfl (by decide) rfl ?_
      refine ev_goto (tgt := 12) (dNi_linenChanges.at 47 rfl) rfl ?_
      refine ev_kp [true, true, true, false] rfl ?_
      exact (k2 c1 c2)
    · refine ev_iload_n (dNi_linenChanges.at 24 rfl) rfl ?_
      refine ev_aload_n (dNi_linenChanges.at 25 rfl) rfl ?_
      refine ev_getr (dNi_linenChanges.at 26 rfl) (own := 2) rfl fkNi_15 rfl rfl ?_
      refine ev_iload_n (dNi_linenChanges.at 27 rfl) rfl ?_
      refine ev_iaload (dNi_linenChanges.at 28 rfl) rfl (o1 c1) ?_
      refine ev_icmp_eq (tgt := 52) (dNi_linenChanges.at 29 rfl) rfl (fun c3 => ?_) (fun c3 => ?_)
      · refine ev_iconst (dNi_linenChanges.at 32 rfl) kI_0 ?_
        refine ev_iadd (dNi_linenChanges.at 33 rfl) ?_
        refine ev_istore_n (dNi_linenChanges.at 34 rfl) (by decide) rfl ?_
        refine ev_aload_n (dNi_linenChanges.at 35 rfl) rfl ?_
        refine ev_getr (dNi_linenChanges.at 36 rfl) (own := 2) rfl fkNi_28 rfl rfl ?_
        refine ev_aload_n (dNi_linenChanges.at 37 rfl) rfl ?_
        refine ev_getr (dNi_linenChanges.at 38 rfl) (own := 2) rfl fkNi_18 rfl rfl ?_
        refine ev_iload_n (dNi_linenChanges.at 39 rfl) rfl ?_
        refine ev_iaload (dNi_linenChanges.at 40 rfl) rfl (o1 c1) ?_
        refine ev_aload_n (dNi_linenChanges.at 41 rfl) rfl ?_
        refine ev_getr (dNi_linenChanges.at 42 rfl) (own := 2) rfl fkNi_15 rfl rfl ?_
        refine ev_iload_n (dNi_linenChanges.at 43 rfl) rfl ?_
        refine ev_iaload (dNi_linenChanges.at 44 rfl) rfl (o1 c1) ?_
        refine ev_iastore (dNi_linenChanges.at 45 rfl) rfl (o2 c1) ?_
        refine ev_iinc (dNi_linenChanges.at 46 rfl) kI_1 rfl (by decide) rfl ?_
        refine ev_goto (tgt := 12) (dNi_linenChanges.at 47 rfl) rfl ?_
        refine ev_kp [true, true, true, false] rfl ?_
        exact (k3 c1 c2 c3)
      · refine ev_iconst (dNi_linenChanges.at 30 rfl) kI_1 ?_
        refine ev_goto (tgt := 53) (dNi_linenChanges.at 31 rfl) rfl ?_
        refine ev_iadd (dNi_linenChanges.at 33 rfl) ?_
        refine ev_istore_n (dNi_linenChanges.at 34 rfl) (by decide) rfl ?_
        refine ev_aload_n (dNi_linenChanges.at 35 rfl) rfl ?_
        refine ev_getr (dNi_linenChanges.at 36 rfl) (own := 2) rfl fkNi_28 rfl rfl ?_
        refine ev_aload_n (dNi_linenChanges.at 37 rfl) rfl ?_
        refine ev_getr (dNi_linenChanges.at 38 rfl) (own := 2) rfl fkNi_18 rfl rfl ?_
        refine ev_iload_n (dNi_linenChanges.at 39 rfl) rfl ?_
        refine ev_iaload (dNi_linenChanges.at 40 rfl) rfl (o1 c1) ?_
        refine ev_aload_n (dNi_linenChanges.at 41 rfl) rfl ?_
        refine ev_getr (dNi_linenChanges.at 42 rfl) (own := 2) rfl fkNi_15 rfl rfl ?_
        refine ev_iload_n (dNi_linenChanges.at 43 rfl) rfl ?_
        refine ev_iaload (dNi_linenChanges.at 44 rfl) rfl (o1 c1) ?_
        refine ev_iastore (dNi_linenChanges.at 45 rfl) rfl (o2 c1) ?_
        refine ev_iinc (dNi_linenChanges.at 46 rfl) kI_1 rfl (by decide) rfl ?_
        refine ev_goto (tgt := 12) (dNi_linenChanges.at 47 rfl) rfl ?_
        refine ev_kp [true, true, true, false] rfl ?_
        exact (k4 c1 c2 c3)
set_option maxHeartbeats 4000000 in
theorem bNi_sickAfter_0 {d : Nat} {w : sx_W} {Q : sx_Q} {x1 : Int32} {x2 : Int32} {w1 : sx_W} {w2 : sx_W}
    (m1 : sx_de d rNi_settle [.ref 27] w 0 0 w1)
    (m2 : sx_de d rNi_stripBeds [.ref 27] w1 0 0 w2)
    (k1 : sx_ev (d + 1) rNi_sickAfter 10 [.ref 27, .int x1, .int x2, .int (0 : Int32), .null] [] w2 Q) :
    sx_ev (d + 1) rNi_sickAfter 0 [.ref 27, .int x1, .int x2, .null, .null] [] w Q := by
  refine ev_aload_n (dNi_sickAfter.at 0 rfl) rfl ?_
  refine ev_cVv (dNi_sickAfter.at 1 rfl) (As := []) (own := 2) rfl ckNi_38 rfl rfl rfl (Nat.le_of_ble_eq_true rfl) rfl m1 ?_
  refine ev_aload_n (dNi_sickAfter.at 2 rfl) rfl ?_
  refine ev_cVv (dNi_sickAfter.at 3 rfl) (As := []) (own := 2) rfl ckNi_41 rfl rfl rfl (Nat.le_of_ble_eq_true rfl) rfl m2 ?_
  refine ev_iconst (dNi_sickAfter.at 4 rfl) kI_0 ?_
  refine ev_istore_n (dNi_sickAfter.at 5 rfl) (by decide) rfl ?_
  exact k1
set_option maxHeartbeats 4000000 in
theorem bNi_sickAfter_10 {d : Nat} {w : sx_W} {Q : sx_Q} {x1 : Int32} {x2 : Int32} {x3 : Int32} {f1 : Int32}
    (k1 : ((w.1 1 4) ≤ x3) → sx_ev (d + 1) rNi_sickAfter 48 [.ref 27, .null, .int x2, .int (1 : Int32), .null] [] w Q)
    (m1 : (¬ (w.1 1 4) ≤ x3) → sx_de d rSb_holds [.int x1, .int x3] w f1 0 w)
    (o1 : (¬ (w.1 1 4) ≤ x3) → (f1 = 0) → vp_in x3 7)
    (k2 : (¬ (w.1 1 4) ≤ x3) → (f1 = 0) → sx_ev (d + 1) rNi_sickAfter 10 [.ref 27, .int x1, .int x2, .int (x3 + (1 : Int32)), .null] [] ((sx_u w.1 32 x3.toNatClampNeg (-1 : Int32)), w.2) Q)
    (o2 : (¬ (w.1 1 4) ≤ x3) → (¬ f1 = 0) → vp_in x3 7)
    (k3 : (¬ (w.1 1 4) ≤ x3) → (¬ f1 = 0) → sx_ev (d + 1) rNi_sickAfter 10 [.ref 27, .int x1, .int x2, .int (x3 + (1 : Int32)), .null] [] ((sx_u w.1 32 x3.toNatClampNeg (0 : Int32)), w.2) Q) :
    sx_ev (d + 1) rNi_sickAfter 10 [.ref 27, .int x1, .int x2, .int x3, .null] [] w Q := by
  refine ev_iload_n (dNi_sickAfter.at 6 rfl) rfl ?_
  refine ev_aload_n (dNi_sickAfter.at 7 rfl) rfl ?_
  refine ev_getr (dNi_sickAfter.at 8 rfl) (own := 2) rfl fkNi_34 rfl rfl ?_
  refine ev_get (dNi_sickAfter.at 9 rfl) (own := 2) rfl fkNi_44 rfl rfl ?_
  refine ev_icmp_ge (tgt := 46) (dNi_sickAfter.at 10 rfl) rfl (fun c1 => ?_) (fun c1 => ?_)
  · refine ev_iconst (dNi_sickAfter.at 24 rfl) kI_1 ?_
    refine ev_istore_n (dNi_sickAfter.at 25 rfl) (by decide) rfl ?_
    refine ev_kp [true, false, true, true, false] rfl ?_
    exact (k1 c1)
  · refine ev_aload_n (dNi_sickAfter.at 11 rfl) rfl ?_
    refine ev_getr (dNi_sickAfter.at 12 rfl) (own := 2) rfl fkNi_31 rfl rfl ?_
    refine ev_iload_n (dNi_sickAfter.at 13 rfl) rfl ?_
    refine ev_iload_n (dNi_sickAfter.at 14 rfl) rfl ?_
    refine ev_iload_n (dNi_sickAfter.at 15 rfl) rfl ?_
    refine ev_cNi (dNi_sickAfter.at 16 rfl) (As := [.int x1, .int x3]) (own := 2) rfl ckNi_49 (Or.inr rfl) rfl (Nat.le_of_ble_eq_true rfl) rfl (m1 c1) ?_
    refine ev_if_eq (tgt := 38) (dNi_sickAfter.at 17 rfl) rfl (fun c2 => ?_) (fun c2 => ?_)
    · refine ev_iconst (dNi_sickAfter.at 20 rfl) kI_m1 ?_
      refine ev_iastore (dNi_sickAfter.at 21 rfl) rfl (o1 c1 c2) ?_
      refine ev_iinc (dNi_sickAfter.at 22 rfl) kI_1 rfl (by decide) rfl ?_
      refine ev_goto (tgt := 10) (dNi_sickAfter.at 23 rfl) rfl ?_
      exact (k2 c1 c2)
    · refine ev_iconst (dNi_sickAfter.at 18 rfl) kI_0 ?_
      refine ev_goto (tgt := 39) (dNi_sickAfter.at 19 rfl) rfl ?_
      refine ev_iastore (dNi_sickAfter.at 21 rfl) rfl (o2 c1 c2) ?_
      refine ev_iinc (dNi_sickAfter.at 22 rfl) kI_1 rfl (by decide) rfl ?_
      refine ev_goto (tgt := 10) (dNi_sickAfter.at 23 rfl) rfl ?_
      exact (k3 c1 c2)
set_option maxHeartbeats 4000000 in
theorem bNi_sickAfter_48 {d : Nat} {w : sx_W} {Q : sx_Q} {x2 : Int32} {x3 : Int32} {w1 : sx_W}
    (k1 : (x2 < x3) → sx_ev (d + 1) rNi_sickAfter 69 [.ref 27, .null, .int x2, .int (0 : Int32), .int (0 : Int32)] [] w Q)
    (m1 : (¬ x2 < x3) → sx_de d rNi_spread [.ref 27, .int x3] w 0 0 w1)
    (k2 : (¬ x2 < x3) → sx_ev (d + 1) rNi_sickAfter 48 [.ref 27, .null, .int x2, .int (x3 + (1 : Int32)), .null] [] w1 Q) :
    sx_ev (d + 1) rNi_sickAfter 48 [.ref 27, .null, .int x2, .int x3, .null] [] w Q := by
  refine ev_iload_n (dNi_sickAfter.at 26 rfl) rfl ?_
  refine ev_iload_n (dNi_sickAfter.at 27 rfl) rfl ?_
  refine ev_icmp_gt (tgt := 64) (dNi_sickAfter.at 28 rfl) rfl (fun c1 => ?_) (fun c1 => ?_)
  · refine ev_iconst (dNi_sickAfter.at 34 rfl) kI_0 ?_
    refine ev_istore_n (dNi_sickAfter.at 35 rfl) (by decide) rfl ?_
    refine ev_iconst (dNi_sickAfter.at 36 rfl) kI_0 ?_
    refine ev_istore (dNi_sickAfter.at 37 rfl) (by decide) rfl ?_
    exact (k1 c1)
  · refine ev_aload_n (dNi_sickAfter.at 29 rfl) rfl ?_
    refine ev_iload_n (dNi_sickAfter.at 30 rfl) rfl ?_
    refine ev_cVv (dNi_sickAfter.at 31 rfl) (As := [.int x3]) (own := 2) rfl ckNi_53 rfl rfl rfl (Nat.le_of_ble_eq_true rfl) rfl (m1 c1) ?_
    refine ev_iinc (dNi_sickAfter.at 32 rfl) kI_1 rfl (by decide) rfl ?_
    refine ev_goto (tgt := 48) (dNi_sickAfter.at 33 rfl) rfl ?_
    exact (k2 c1)
set_option maxHeartbeats 4000000 in
theorem bNi_sickAfter_69 {d : Nat} {w : sx_W} {Q : sx_Q} {x2 : Int32} {x3 : Int32} {x4 : Int32} {f1 : Int32}
    (k1 : ((w.1 1 4) ≤ x4) → Q x3 0 w)
    (m1 : (¬ (w.1 1 4) ≤ x4) → sx_de d rNi_hasIt [.ref 27, .int x4, .int x2] w f1 0 w)
    (k2 : (¬ (w.1 1 4) ≤ x4) → (f1 = 0) → sx_ev (d + 1) rNi_sickAfter 69 [.ref 27, .null, .int x2, .int (x3 ||| (0 : Int32)), .int (x4 + (1 : Int32))] [] w Q)
    (k3 : (¬ (w.1 1 4) ≤ x4) → (¬ f1 = 0) → sx_ev (d + 1) rNi_sickAfter 69 [.ref 27, .null, .int x2, .int (x3 ||| ((1 : Int32) <<< (x4 &&& 31))), .int (x4 + (1 : Int32))] [] w Q) :
    sx_ev (d + 1) rNi_sickAfter 69 [.ref 27, .null, .int x2, .int x3, .int x4] [] w Q := by
  refine ev_iload (dNi_sickAfter.at 38 rfl) rfl ?_
  refine ev_aload_n (dNi_sickAfter.at 39 rfl) rfl ?_
  refine ev_getr (dNi_sickAfter.at 40 rfl) (own := 2) rfl fkNi_34 rfl rfl ?_
  refine ev_get (dNi_sickAfter.at 41 rfl) (own := 2) rfl fkNi_44 rfl rfl ?_
  refine ev_icmp_ge (tgt := 108) (dNi_sickAfter.at 42 rfl) rfl (fun c1 => ?_) (fun c1 => ?_)
  · refine ev_iload_n (dNi_sickAfter.at 58 rfl) rfl ?_
    exact ev_iret (dNi_sickAfter.at 59 rfl) rfl (k1 c1)
  · refine ev_iload_n (dNi_sickAfter.at 43 rfl) rfl ?_
    refine ev_aload_n (dNi_sickAfter.at 44 rfl) rfl ?_
    refine ev_iload (dNi_sickAfter.at 45 rfl) rfl ?_
    refine ev_iload_n (dNi_sickAfter.at 46 rfl) rfl ?_
    refine ev_cVi (dNi_sickAfter.at 47 rfl) (As := [.int x4, .int x2]) (own := 2) rfl ckNi_57 rfl (Or.inr rfl) rfl (Nat.le_of_ble_eq_true rfl) rfl (m1 c1) ?_
    refine ev_if_eq (tgt := 99) (dNi_sickAfter.at 48 rfl) rfl (fun c2 => ?_) (fun c2 => ?_)
    · refine ev_iconst (dNi_sickAfter.at 53 rfl) kI_0 ?_
      refine ev_ior (dNi_sickAfter.at 54 rfl) ?_
      refine ev_istore_n (dNi_sickAfter.at 55 rfl) (by decide) rfl ?_
      refine ev_iinc (dNi_sickAfter.at 56 rfl) kI_1 rfl (by decide) rfl ?_
      refine ev_goto (tgt := 69) (dNi_sickAfter.at 57 rfl) rfl ?_
      exact (k2 c1 c2)
    · refine ev_iconst (dNi_sickAfter.at 49 rfl) kI_1 ?_
      refine ev_iload (dNi_sickAfter.at 50 rfl) rfl ?_
      refine ev_ishl (dNi_sickAfter.at 51 rfl) ?_
      refine ev_goto (tgt := 100) (dNi_sickAfter.at 52 rfl) rfl ?_
      refine ev_ior (dNi_sickAfter.at 54 rfl) ?_
      refine ev_istore_n (dNi_sickAfter.at 55 rfl) (by decide) rfl ?_
      refine ev_iinc (dNi_sickAfter.at 56 rfl) kI_1 rfl (by decide) rfl ?_
      refine ev_goto (tgt := 69) (dNi_sickAfter.at 57 rfl) rfl ?_
      exact (k3 c1 c2)
set_option maxHeartbeats 4000000 in
theorem bNi_bringersOf_0 {d : Nat} {w : sx_W} {Q : sx_Q} {x1 : Int32} {x2 : Int32}
    (k1 : sx_ev d rNi_bringersOf 5 [.ref 27, .int x1, .int x2, .int (0 : Int32), .int (0 : Int32)] [] w Q) :
    sx_ev d rNi_bringersOf 0 [.ref 27, .int x1, .int x2, .null, .null] [] w Q := by
  refine ev_iconst (dNi_bringersOf.at 0 rfl) kI_0 ?_
  refine ev_istore_n (dNi_bringersOf.at 1 rfl) (by decide) rfl ?_
  refine ev_iconst (dNi_bringersOf.at 2 rfl) kI_0 ?_
  refine ev_istore (dNi_bringersOf.at 3 rfl) (by decide) rfl ?_
  exact k1
set_option maxHeartbeats 4000000 in
theorem bNi_bringersOf_5 {d : Nat} {w : sx_W} {Q : sx_Q} {x1 : Int32} {x2 : Int32} {x3 : Int32} {x4 : Int32} {f1 : Int32} {w1 : sx_W}
    (k1 : ((w.1 1 4) ≤ x4) → Q x3 0 w)
    (m1 : (¬ (w.1 1 4) ≤ x4) → sx_de d rNi_sickAfter [.ref 27, .int ((1 : Int32) <<< (x4 &&& 31)), .int x2] w f1 0 w1)
    (k2 : (¬ (w.1 1 4) ≤ x4) → (¬ f1 = x1) → sx_ev (d + 1) rNi_bringersOf 5 [.ref 27, .int x1, .int x2, .int (x3 ||| (0 : Int32)), .int (x4 + (1 : Int32))] [] w1 Q)
    (k3 : (¬ (w.1 1 4) ≤ x4) → (f1 = x1) → sx_ev (d + 1) rNi_bringersOf 5 [.ref 27, .int x1, .int x2, .int (x3 ||| ((1 : Int32) <<< (x4 &&& 31))), .int (x4 + (1 : Int32))] [] w1 Q) :
    sx_ev (d + 1) rNi_bringersOf 5 [.ref 27, .int x1, .int x2, .int x3, .int x4] [] w Q := by
  refine ev_iload (dNi_bringersOf.at 4 rfl) rfl ?_
  refine ev_aload_n (dNi_bringersOf.at 5 rfl) rfl ?_
  refine ev_getr (dNi_bringersOf.at 6 rfl) (own := 2) rfl fkNi_34 rfl rfl ?_
  refine ev_get (dNi_bringersOf.at 7 rfl) (own := 2) rfl fkNi_44 rfl rfl ?_
  refine ev_icmp_ge (tgt := 47) (dNi_bringersOf.at 8 rfl) rfl (fun c1 => ?_) (fun c1 => ?_)
  · refine ev_iload_n (dNi_bringersOf.at 27 rfl) rfl ?_
    exact ev_iret (dNi_bringersOf.at 28 rfl) rfl (k1 c1)
  · refine ev_iload_n (dNi_bringersOf.at 9 rfl) rfl ?_
    refine ev_aload_n (dNi_bringersOf.at 10 rfl) rfl ?_
    refine ev_iconst (dNi_bringersOf.at 11 rfl) kI_1 ?_
    refine ev_iload (dNi_bringersOf.at 12 rfl) rfl ?_
    refine ev_ishl (dNi_bringersOf.at 13 rfl) ?_
    refine ev_iload_n (dNi_bringersOf.at 14 rfl) rfl ?_
    refine ev_cVi (dNi_bringersOf.at 15 rfl) (As := [.int ((1 : Int32) <<< (x4 &&& 31)), .int x2]) (own := 2) rfl ckNi_60 rfl (Or.inl rfl) rfl (Nat.le_of_ble_eq_true rfl) rfl (m1 c1) ?_
    refine ev_iload_n (dNi_bringersOf.at 16 rfl) rfl ?_
    refine ev_icmp_ne (tgt := 38) (dNi_bringersOf.at 17 rfl) rfl (fun c2 => ?_) (fun c2 => ?_)
    · refine ev_iconst (dNi_bringersOf.at 22 rfl) kI_0 ?_
      refine ev_ior (dNi_bringersOf.at 23 rfl) ?_
      refine ev_istore_n (dNi_bringersOf.at 24 rfl) (by decide) rfl ?_
      refine ev_iinc (dNi_bringersOf.at 25 rfl) kI_1 rfl (by decide) rfl ?_
      refine ev_goto (tgt := 5) (dNi_bringersOf.at 26 rfl) rfl ?_
      exact (k2 c1 c2)
    · refine ev_iconst (dNi_bringersOf.at 18 rfl) kI_1 ?_
      refine ev_iload (dNi_bringersOf.at 19 rfl) rfl ?_
      refine ev_ishl (dNi_bringersOf.at 20 rfl) ?_
      refine ev_goto (tgt := 39) (dNi_bringersOf.at 21 rfl) rfl ?_
      refine ev_ior (dNi_bringersOf.at 23 rfl) ?_
      refine ev_istore_n (dNi_bringersOf.at 24 rfl) (by decide) rfl ?_
      refine ev_iinc (dNi_bringersOf.at 25 rfl) kI_1 rfl (by decide) rfl ?_
      refine ev_goto (tgt := 5) (dNi_bringersOf.at 26 rfl) rfl ?_
      exact (k3 c1 c2)
set_option maxHeartbeats 4000000 in
theorem bNi_spread_0 {d : Nat} {w : sx_W} {Q : sx_Q} {x1 : Int32}
    (k1 : sx_ev d rNi_spread 2 [.ref 27, .int x1, .int (0 : Int32), .null, .null] [] w Q) :
    sx_ev d rNi_spread 0 [.ref 27, .int x1, .null, .null, .null] [] w Q := by
  refine ev_iconst (dNi_spread.at 0 rfl) kI_0 ?_
  refine ev_istore_n (dNi_spread.at 1 rfl) (by decide) rfl ?_
  exact k1
set_option maxHeartbeats 4000000 in
theorem bNi_spread_2 {d : Nat} {w : sx_W} {Q : sx_Q} {x1 : Int32} {x2 : Int32} {f1 : Int32}
    (k1 : ((w.1 27 4) ≤ x2) → Q 0 0 w)
    (o1 : (¬ (w.1 27 4) ≤ x2) → vp_in x2 56)
    (o2 : (¬ (w.1 27 4) ≤ x2) → vp_in (w.1 30 x2.toNatClampNeg) 7)
    (o3 : (¬ (w.1 27 4) ≤ x2) → vp_in (w.1 29 x2.toNatClampNeg) 7)
    (k2 : (¬ (w.1 27 4) ≤ x2) → (¬ (w.1 32 (w.1 29 x2.toNatClampNeg).toNatClampNeg) = (-1 : Int32)) → sx_ev (d + 1) rNi_spread 2 [.ref 27, .int x1, .int (x2 + (1 : Int32)), .null, .null] [] ((sx_u w.1 31 (w.1 30 x2.toNatClampNeg).toNatClampNeg (w.1 29 x2.toNatClampNeg)), w.2) Q)
    (k3 : (¬ (w.1 27 4) ≤ x2) → ((w.1 32 (w.1 29 x2.toNatClampNeg).toNatClampNeg) = (-1 : Int32)) → ((w.1 31 (w.1 30 x2.toNatClampNeg).toNatClampNeg) = (-1 : Int32)) → sx_ev (d + 1) rNi_spread 2 [.ref 27, .int x1, .int (x2 + (1 : Int32)), .null, .null] [] ((sx_u w.1 31 (w.1 30 x2.toNatClampNeg).toNatClampNeg (w.1 29 x2.toNatClampNeg)), w.2) Q)
    (m1 : (¬ (w.1 27 4) ≤ x2) → ((w.1 32 (w.1 29 x2.toNatClampNeg).toNatClampNeg) = (-1 : Int32)) → (¬ (w.1 31 (w.1 30 x2.toNatClampNeg).toNatClampNeg) = (-1 : Int32)) → sx_de d rNi_hasIt [.ref 27, .int (w.1 31 (w.1 30 x2.toNatClampNeg).toNatClampNeg), .int x1] w f1 0 w)
    (k4 : (¬ (w.1 27 4) ≤ x2) → ((w.1 32 (w.1 29 x2.toNatClampNeg).toNatClampNeg) = (-1 : Int32)) → (¬ (w.1 31 (w.1 30 x2.toNatClampNeg).toNatClampNeg) = (-1 : Int32)) → (f1 = 0) → sx_ev (d + 1) rNi_spread 2 [.ref 27, .int x1, .int (x2 + (1 : Int32)), .null, .null] [] ((sx_u w.1 31 (w.1 30 x2.toNatClampNeg).toNatClampNeg (w.1 29 x2.toNatClampNeg)), w.2) Q)
    (k5 : (¬ (w.1 27 4) ≤ x2) → ((w.1 32 (w.1 29 x2.toNatClampNeg).toNatClampNeg) = (-1 : Int32)) → (¬ (w.1 31 (w.1 30 x2.toNatClampNeg).toNatClampNeg) = (-1 : Int32)) → (¬ f1 = 0) → sx_ev (d + 1) rNi_spread 2 [.ref 27, .int x1, .int (x2 + (1 : Int32)), .null, .null] [] ((sx_u (sx_u w.1 32 (w.1 29 x2.toNatClampNeg).toNatClampNeg x1) 31 (w.1 30 x2.toNatClampNeg).toNatClampNeg (w.1 29 x2.toNatClampNeg)), w.2) Q) :
    sx_ev (d + 1) rNi_spread 2 [.ref 27, .int x1, .int x2, .null, .null] [] w Q := by
  refine ev_iload_n (dNi_spread.at 2 rfl) rfl ?_
  refine ev_aload_n (dNi_spread.at 3 rfl) rfl ?_
  refine ev_get (dNi_spread.at 4 rfl) (own := 2) rfl fkNi_21 rfl rfl ?_
  refine ev_icmp_ge (tgt := 81) (dNi_spread.at 5 rfl) rfl (fun c1 => ?_) (fun c1 => ?_)
  · exact ev_vret (dNi_spread.at 48 rfl) rfl (k1 c1)
  · refine ev_aload_n (dNi_spread.at 6 rfl) rfl ?_
    refine ev_getr (dNi_spread.at 7 rfl) (own := 2) rfl fkNi_15 rfl rfl ?_
    refine ev_iload_n (dNi_spread.at 8 rfl) rfl ?_
    refine ev_iaload (dNi_spread.at 9 rfl) rfl (o1 c1) ?_
    refine ev_istore_n (dNi_spread.at 10 rfl) (by decide) rfl ?_
    refine ev_aload_n (dNi_spread.at 11 rfl) rfl ?_
    refine ev_getr (dNi_spread.at 12 rfl) (own := 2) rfl fkNi_28 rfl rfl ?_
    refine ev_aload_n (dNi_spread.at 13 rfl) rfl ?_
    refine ev_getr (dNi_spread.at 14 rfl) (own := 2) rfl fkNi_18 rfl rfl ?_
    refine ev_iload_n (dNi_spread.at 15 rfl) rfl ?_
    refine ev_iaload (dNi_spread.at 16 rfl) rfl (o1 c1) ?_
    refine ev_iaload (dNi_spread.at 17 rfl) rfl (o2 c1) ?_
    refine ev_istore (dNi_spread.at 18 rfl) (by decide) rfl ?_
    refine ev_aload_n (dNi_spread.at 19 rfl) rfl ?_
    refine ev_getr (dNi_spread.at 20 rfl) (own := 2) rfl fkNi_31 rfl rfl ?_
    refine ev_iload_n (dNi_spread.at 21 rfl) rfl ?_
    refine ev_iaload (dNi_spread.at 22 rfl) rfl (o3 c1) ?_
    refine ev_iconst (dNi_spread.at 23 rfl) kI_m1 ?_
    refine ev_icmp_ne (tgt := 63) (dNi_spread.at 24 rfl) rfl (fun c2 => ?_) (fun c2 => ?_)
    · refine ev_aload_n (dNi_spread.at 38 rfl) rfl ?_
      refine ev_getr (dNi_spread.at 39 rfl) (own := 2) rfl fkNi_28 rfl rfl ?_
      refine ev_aload_n (dNi_spread.at 40 rfl) rfl ?_
      refine ev_getr (dNi_spread.at 41 rfl) (own := 2) rfl fkNi_18 rfl rfl ?_
      refine ev_iload_n (dNi_spread.at 42 rfl) rfl ?_
      refine ev_iaload (dNi_spread.at 43 rfl) rfl (o1 c1) ?_
      refine ev_iload_n (dNi_spread.at 44 rfl) rfl ?_
      refine ev_iastore (dNi_spread.at 45 rfl) rfl (o2 c1) ?_
      refine ev_iinc (dNi_spread.at 46 rfl) kI_1 rfl (by decide) rfl ?_
      refine ev_goto (tgt := 2) (dNi_spread.at 47 rfl) rfl ?_
      refine ev_kp [true, true, true, false, false] rfl ?_
      exact (k2 c1 c2)
    · refine ev_iload (dNi_spread.at 25 rfl) rfl ?_
      refine ev_iconst (dNi_spread.at 26 rfl) kI_m1 ?_
      refine ev_icmp_eq (tgt := 63) (dNi_spread.at 27 rfl) rfl (fun c3 => ?_) (fun c3 => ?_)
      · refine ev_aload_n (dNi_spread.at 38 rfl) rfl ?_
        refine ev_getr (dNi_spread.at 39 rfl) (own := 2) rfl fkNi_28 rfl rfl ?_
        refine ev_aload_n (dNi_spread.at 40 rfl) rfl ?_
        refine ev_getr (dNi_spread.at 41 rfl) (own := 2) rfl fkNi_18 rfl rfl ?_
        refine ev_iload_n (dNi_spread.at 42 rfl) rfl ?_
        refine ev_iaload (dNi_spread.at 43 rfl) rfl (o1 c1) ?_
        refine ev_iload_n (dNi_spread.at 44 rfl) rfl ?_
        refine ev_iastore (dNi_spread.at 45 rfl) rfl (o2 c1) ?_
        refine ev_iinc (dNi_spread.at 46 rfl) kI_1 rfl (by decide) rfl ?_
        refine ev_goto (tgt := 2) (dNi_spread.at 47 rfl) rfl ?_
        refine ev_kp [true, true, true, false, false] rfl ?_
        exact (k3 c1 c2 c3)
      · refine ev_aload_n (dNi_spread.at 28 rfl) rfl ?_
        refine ev_iload (dNi_spread.at 29 rfl) rfl ?_
        refine ev_iload_n (dNi_spread.at 30 rfl) rfl ?_
        refine ev_cVi (dNi_spread.at 31 rfl) (As := [.int (w.1 31 (w.1 30 x2.toNatClampNeg).toNatClampNeg), .int x1]) (own := 2) rfl ckNi_57 rfl (Or.inr rfl) rfl (Nat.le_of_ble_eq_true rfl) rfl (m1 c1 c2 c3) ?_
        refine ev_if_eq (tgt := 63) (dNi_spread.at 32 rfl) rfl (fun c4 => ?_) (fun c4 => ?_)
        · refine ev_aload_n (dNi_spread.at 38 rfl) rfl ?_
          refine ev_getr (dNi_spread.at 39 rfl) (own := 2) rfl fkNi_28 rfl rfl ?_
          refine ev_aload_n (dNi_spread.at 40 rfl) rfl ?_
          refine ev_getr (dNi_spread.at 41 rfl) (own := 2) rfl fkNi_18 rfl rfl ?_
          refine ev_iload_n (dNi_spread.at 42 rfl) rfl ?_
          refine ev_iaload (dNi_spread.at 43 rfl) rfl (o1 c1) ?_
          refine ev_iload_n (dNi_spread.at 44 rfl) rfl ?_
          refine ev_iastore (dNi_spread.at 45 rfl) rfl (o2 c1) ?_
          refine ev_iinc (dNi_spread.at 46 rfl) kI_1 rfl (by decide) rfl ?_
          refine ev_goto (tgt := 2) (dNi_spread.at 47 rfl) rfl ?_
          refine ev_kp [true, true, true, false, false] rfl ?_
          exact (k4 c1 c2 c3 c4)
        · refine ev_aload_n (dNi_spread.at 33 rfl) rfl ?_
          refine ev_getr (dNi_spread.at 34 rfl) (own := 2) rfl fkNi_31 rfl rfl ?_
          refine ev_iload_n (dNi_spread.at 35 rfl) rfl ?_
          refine ev_iload_n (dNi_spread.at 36 rfl) rfl ?_
          refine ev_iastore (dNi_spread.at 37 rfl) rfl (o3 c1) ?_
          refine ev_aload_n (dNi_spread.at 38 rfl) rfl ?_
          refine ev_getr (dNi_spread.at 39 rfl) (own := 2) rfl fkNi_28 rfl rfl ?_
          refine ev_aload_n (dNi_spread.at 40 rfl) rfl ?_
          refine ev_getr (dNi_spread.at 41 rfl) (own := 2) rfl fkNi_18 rfl rfl ?_
          refine ev_iload_n (dNi_spread.at 42 rfl) rfl ?_
          refine ev_iaload (dNi_spread.at 43 rfl) rfl (o1 c1) ?_
          refine ev_iload_n (dNi_spread.at 44 rfl) rfl ?_
          refine ev_iastore (dNi_spread.at 45 rfl) rfl (o2 c1) ?_
          refine ev_iinc (dNi_spread.at 46 rfl) kI_1 rfl (by decide) rfl ?_
          refine ev_goto (tgt := 2) (dNi_spread.at 47 rfl) rfl ?_
          refine ev_kp [true, true, true, false, false] rfl ?_
          exact (k5 c1 c2 c3 c4)
set_option maxHeartbeats 4000000 in
theorem bNi_hasIt_0 {d : Nat} {w : sx_W} {Q : sx_Q} {x1 : Int32} {x2 : Int32}
    (o1 : vp_in x1 7)
    (k1 : ((w.1 32 x1.toNatClampNeg) = (-1 : Int32)) → Q (0 : Int32) 0 w)
    (k2 : (¬ (w.1 32 x1.toNatClampNeg) = (-1 : Int32)) → (((w.1 32 x1.toNatClampNeg) + (w.1 1 6)) < x2) → Q (0 : Int32) 0 w)
    (k3 : (¬ (w.1 32 x1.toNatClampNeg) = (-1 : Int32)) → (¬ ((w.1 32 x1.toNatClampNeg) + (w.1 1 6)) < x2) → Q (1 : Int32) 0 w) :
    sx_ev d rNi_hasIt 0 [.ref 27, .int x1, .int x2] [] w Q := by
  refine ev_aload_n (dNi_hasIt.at 0 rfl) rfl ?_
  refine ev_getr (dNi_hasIt.at 1 rfl) (own := 2) rfl fkNi_31 rfl rfl ?_
  refine ev_iload_n (dNi_hasIt.at 2 rfl) rfl ?_
  refine ev_iaload (dNi_hasIt.at 3 rfl) rfl o1 ?_
  refine ev_iconst (dNi_hasIt.at 4 rfl) kI_m1 ?_
  refine ev_icmp_eq (tgt := 32) (dNi_hasIt.at 5 rfl) rfl (fun c1 => ?_) (fun c1 => ?_)
  · refine ev_iconst (dNi_hasIt.at 18 rfl) kI_0 ?_
    exact ev_zret (dNi_hasIt.at 19 rfl) rfl (by decide) (k1 c1)
  · refine ev_iload_n (dNi_hasIt.at 6 rfl) rfl ?_
    refine ev_aload_n (dNi_hasIt.at 7 rfl) rfl ?_
    refine ev_getr (dNi_hasIt.at 8 rfl) (own := 2) rfl fkNi_31 rfl rfl ?_
    refine ev_iload_n (dNi_hasIt.at 9 rfl) rfl ?_
    refine ev_iaload (dNi_hasIt.at 10 rfl) rfl o1 ?_
    refine ev_aload_n (dNi_hasIt.at 11 rfl) rfl ?_
    refine ev_getr (dNi_hasIt.at 12 rfl) (own := 2) rfl fkNi_34 rfl rfl ?_
    refine ev_get (dNi_hasIt.at 13 rfl) (own := 2) rfl fkNi_64 rfl rfl ?_
    refine ev_iadd (dNi_hasIt.at 14 rfl) ?_
    refine ev_icmp_gt (tgt := 32) (dNi_hasIt.at 15 rfl) rfl (fun c2 => ?_) (fun c2 => ?_)
    · refine ev_iconst (dNi_hasIt.at 18 rfl) kI_0 ?_
      exact ev_zret (dNi_hasIt.at 19 rfl) rfl (by decide) (k2 c1 c2)
    · refine ev_iconst (dNi_hasIt.at 16 rfl) kI_1 ?_
      refine ev_goto (tgt := 33) (dNi_hasIt.at 17 rfl) rfl ?_
      exact ev_zret (dNi_hasIt.at 19 rfl) rfl (by decide) (k3 c1 c2)
set_option maxHeartbeats 4000000 in
theorem bNi_stripBeds_0 {d : Nat} {w : sx_W} {Q : sx_Q}
    (k1 : sx_ev d rNi_stripBeds 2 [.ref 27, .int (0 : Int32)] [] w Q) :
    sx_ev d rNi_stripBeds 0 [.ref 27, .null] [] w Q := by
  refine ev_iconst (dNi_stripBeds.at 0 rfl) kI_0 ?_
  refine ev_istore_n (dNi_stripBeds.at 1 rfl) (by decide) rfl ?_
  exact k1
set_option maxHeartbeats 4000000 in
theorem bNi_stripBeds_2 {d : Nat} {w : sx_W} {Q : sx_Q} {x1 : Int32}
    (k1 : ((7 : Int32) ≤ x1) → Q 0 0 w)
    (o1 : (¬ (7 : Int32) ≤ x1) → vp_in x1 7)
    (k2 : (¬ (7 : Int32) ≤ x1) → sx_ev d rNi_stripBeds 2 [.ref 27, .int (x1 + (1 : Int32))] [] ((sx_u w.1 31 x1.toNatClampNeg (-1 : Int32)), w.2) Q) :
    sx_ev d rNi_stripBeds 2 [.ref 27, .int x1] [] w Q := by
  refine ev_iload_n (dNi_stripBeds.at 2 rfl) rfl ?_
  refine ev_bipush (dNi_stripBeds.at 3 rfl) kB_7 ?_
  refine ev_icmp_ge (tgt := 21) (dNi_stripBeds.at 4 rfl) rfl (fun c1 => ?_) (fun c1 => ?_)
  · exact ev_vret (dNi_stripBeds.at 12 rfl) rfl (k1 c1)
  · refine ev_aload_n (dNi_stripBeds.at 5 rfl) rfl ?_
    refine ev_getr (dNi_stripBeds.at 6 rfl) (own := 2) rfl fkNi_28 rfl rfl ?_
    refine ev_iload_n (dNi_stripBeds.at 7 rfl) rfl ?_
    refine ev_iconst (dNi_stripBeds.at 8 rfl) kI_m1 ?_
    refine ev_iastore (dNi_stripBeds.at 9 rfl) rfl (o1 c1) ?_
    refine ev_iinc (dNi_stripBeds.at 10 rfl) kI_1 rfl (by decide) rfl ?_
    refine ev_goto (tgt := 2) (dNi_stripBeds.at 11 rfl) rfl ?_
    exact (k2 c1)
set_option maxHeartbeats 4000000 in
theorem bNi_settle_0 {d : Nat} {w : sx_W} {Q : sx_Q}
    (k1 : (¬ (w.1 27 5) = (w.1 1 8)) → sx_ev d rNi_settle 22 [.ref 27, .int (0 : Int32), .null] [] ((sx_u w.1 27 4 (0 : Int32)), w.2) Q)
    (k2 : ((w.1 27 5) = (w.1 1 8)) → Q 0 0 w) :
    sx_ev d rNi_settle 0 [.ref 27, .null, .null] [] w Q := by
  refine ev_aload_n (dNi_settle.at 0 rfl) rfl ?_
  refine ev_get (dNi_settle.at 1 rfl) (own := 2) rfl fkNi_25 rfl rfl ?_
  refine ev_aload_n (dNi_settle.at 2 rfl) rfl ?_
  refine ev_getr (dNi_settle.at 3 rfl) (own := 2) rfl fkNi_34 rfl rfl ?_
  refine ev_get (dNi_settle.at 4 rfl) (own := 2) rfl fkNi_67 rfl rfl ?_
  refine ev_icmp_ne (tgt := 15) (dNi_settle.at 5 rfl) rfl (fun c1 => ?_) (fun c1 => ?_)
  · refine ev_aload_n (dNi_settle.at 7 rfl) rfl ?_
    refine ev_iconst (dNi_settle.at 8 rfl) kI_0 ?_
    refine ev_put (dNi_settle.at 9 rfl) (own := 2) rfl fkNi_21 rfl rfl ?_
    refine ev_iconst (dNi_settle.at 10 rfl) kI_0 ?_
    refine ev_istore_n (dNi_settle.at 11 rfl) (by decide) rfl ?_
    exact (k1 c1)
  · exact ev_vret (dNi_settle.at 6 rfl) rfl (k2 c1)
set_option maxHeartbeats 4000000 in
theorem bNi_settle_22 {d : Nat} {w : sx_W} {Q : sx_Q} {x1 : Int32} {f1 : Int32} {w1 : sx_W} {w2 : sx_W}
    (k1 : ((8 : Int32) ≤ x1) → Q 0 0 ((sx_u w.1 27 5 (w.1 1 8)), w.2))
    (m1 : (¬ (8 : Int32) ≤ x1) → sx_de d rNi_keepBeds [.ref 27, .int x1] w f1 0 w1)
    (m2 : (¬ (8 : Int32) ≤ x1) → sx_de d rNi_layDown [.ref 27, .int x1, .int f1] w1 0 0 w2)
    (k2 : (¬ (8 : Int32) ≤ x1) → sx_ev (d + 1) rNi_settle 22 [.ref 27, .int (x1 + (1 : Int32)), .null] [] w2 Q) :
    sx_ev (d + 1) rNi_settle 22 [.ref 27, .int x1, .null] [] w Q := by
  refine ev_iload_n (dNi_settle.at 12 rfl) rfl ?_
  refine ev_bipush (dNi_settle.at 13 rfl) kB_8 ?_
  refine ev_icmp_ge (tgt := 46) (dNi_settle.at 14 rfl) rfl (fun c1 => ?_) (fun c1 => ?_)
  · refine ev_aload_n (dNi_settle.at 25 rfl) rfl ?_
    refine ev_aload_n (dNi_settle.at 26 rfl) rfl ?_
    refine ev_getr (dNi_settle.at 27 rfl) (own := 2) rfl fkNi_34 rfl rfl ?_
    refine ev_get (dNi_settle.at 28 rfl) (own := 2) rfl fkNi_67 rfl rfl ?_
    refine ev_put (dNi_settle.at 29 rfl) (own := 2) rfl fkNi_25 rfl rfl ?_
    exact ev_vret (dNi_settle.at 30 rfl) rfl (k1 c1)
  · refine ev_aload_n (dNi_settle.at 15 rfl) rfl ?_
    refine ev_iload_n (dNi_settle.at 16 rfl) rfl ?_
    refine ev_cVi (dNi_settle.at 17 rfl) (As := [.int x1]) (own := 2) rfl ckNi_68 rfl (Or.inl rfl) rfl (Nat.le_of_ble_eq_true rfl) rfl (m1 c1) ?_
    refine ev_istore_n (dNi_settle.at 18 rfl) (by decide) rfl ?_
    refine ev_aload_n (dNi_settle.at 19 rfl) rfl ?_
    refine ev_iload_n (dNi_settle.at 20 rfl) rfl ?_
    refine ev_iload_n (dNi_settle.at 21 rfl) rfl ?_
    refine ev_cVv (dNi_settle.at 22 rfl) (As := [.int x1, .int f1]) (own := 2) rfl ckNi_72 rfl rfl rfl (Nat.le_of_ble_eq_true rfl) rfl (m2 c1) ?_
    refine ev_iinc (dNi_settle.at 23 rfl) kI_1 rfl (by decide) rfl ?_
    refine ev_goto (tgt := 22) (dNi_settle.at 24 rfl) rfl ?_
    refine ev_kp [true, true, false] rfl ?_
    exact (k2 c1)
set_option maxHeartbeats 4000000 in
theorem bNi_keepBeds_0 {d : Nat} {w : sx_W} {Q : sx_Q} {x1 : Int32}
    (k1 : sx_ev d rNi_keepBeds 4 [.ref 27, .int x1, .int (0 : Int32), .int (0 : Int32), .null, .null] [] w Q) :
    sx_ev d rNi_keepBeds 0 [.ref 27, .int x1, .null, .null, .null, .null] [] w Q := by
  refine ev_iconst (dNi_keepBeds.at 0 rfl) kI_0 ?_
  refine ev_istore_n (dNi_keepBeds.at 1 rfl) (by decide) rfl ?_
  refine ev_iconst (dNi_keepBeds.at 2 rfl) kI_0 ?_
  refine ev_istore_n (dNi_keepBeds.at 3 rfl) (by decide) rfl ?_
  exact k1
set_option maxHeartbeats 4000000 in
theorem bNi_keepBeds_4 {d : Nat} {w : sx_W} {Q : sx_Q} {x1 : Int32} {x2 : Int32} {x3 : Int32} {f1 : Int32} {f2 : Int32}
    (k1 : ((w.1 1 4) ≤ x3) → Q x2 0 w)
    (o1 : (¬ (w.1 1 4) ≤ x3) → (¬ x1 = 0) → vp_in (((x3 * (8 : Int32)) + x1) - (1 : Int32)) 56)
    (m1 : (¬ (w.1 1 4) ≤ x3) → (¬ x1 = 0) → sx_de d rNi_sleepsIn [.ref 27, .int x3, .int x1] w f1 0 w)
    (o2 : (¬ (w.1 1 4) ≤ x3) → (¬ x1 = 0) → (f1 = 0) → vp_in ((x3 * (8 : Int32)) + x1) 56)
    (k2 : (¬ (w.1 1 4) ≤ x3) → (¬ x1 = 0) → (f1 = 0) → (¬ ((upd (w.1 28) ((x3 * (8 : Int32)) + x1).toNatClampNeg (-1 : Int32)) ((x3 * (8 : Int32)) + x1).toNatClampNeg) = (-1 : Int32)) → sx_ev (d + 1) rNi_keepBeds 4 [.ref 27, .int x1, .int (x2 ||| ((1 : Int32) <<< (((upd (w.1 28) ((x3 * (8 : Int32)) + x1).toNatClampNeg (-1 : Int32)) ((x3 * (8 : Int32)) + x1).toNatClampNeg) &&& 31))), .int (x3 + (1 : Int32)), .null, .null] [] ((sx_u w.1 28 ((x3 * (8 : Int32)) + x1).toNatClampNeg (-1 : Int32)), w.2) Q)
    (k3 : (¬ (w.1 1 4) ≤ x3) → (¬ x1 = 0) → (f1 = 0) → (((upd (w.1 28) ((x3 * (8 : Int32)) + x1).toNatClampNeg (-1 : Int32)) ((x3 * (8 : Int32)) + x1).toNatClampNeg) = (-1 : Int32)) → sx_ev (d + 1) rNi_keepBeds 4 [.ref 27, .int x1, .int (x2 ||| (0 : Int32)), .int (x3 + (1 : Int32)), .null, .null] [] ((sx_u w.1 28 ((x3 * (8 : Int32)) + x1).toNatClampNeg (-1 : Int32)), w.2) Q)
    (o3 : (¬ (w.1 1 4) ≤ x3) → (¬ x1 = 0) → (¬ f1 = 0) → vp_in ((x3 * (8 : Int32)) + x1) 56)
    (k4 : (¬ (w.1 1 4) ≤ x3) → (¬ x1 = 0) → (¬ f1 = 0) → (¬ ((upd (w.1 28) ((x3 * (8 : Int32)) + x1).toNatClampNeg (w.1 28 (((x3 * (8 : Int32)) + x1) - (1 : Int32)).toNatClampNeg)) ((x3 * (8 : Int32)) + x1).toNatClampNeg) = (-1 : Int32)) → sx_ev (d + 1) rNi_keepBeds 4 [.ref 27, .int x1, .int (x2 ||| ((1 : Int32) <<< (((upd (w.1 28) ((x3 * (8 : Int32)) + x1).toNatClampNeg (w.1 28 (((x3 * (8 : Int32)) + x1) - (1 : Int32)).toNatClampNeg)) ((x3 * (8 : Int32)) + x1).toNatClampNeg) &&& 31))), .int (x3 + (1 : Int32)), .null, .null] [] ((sx_u w.1 28 ((x3 * (8 : Int32)) + x1).toNatClampNeg (w.1 28 (((x3 * (8 : Int32)) + x1) - (1 : Int32)).toNatClampNeg)), w.2) Q)
    (k5 : (¬ (w.1 1 4) ≤ x3) → (¬ x1 = 0) → (¬ f1 = 0) → (((upd (w.1 28) ((x3 * (8 : Int32)) + x1).toNatClampNeg (w.1 28 (((x3 * (8 : Int32)) + x1) - (1 : Int32)).toNatClampNeg)) ((x3 * (8 : Int32)) + x1).toNatClampNeg) = (-1 : Int32)) → sx_ev (d + 1) rNi_keepBeds 4 [.ref 27, .int x1, .int (x2 ||| (0 : Int32)), .int (x3 + (1 : Int32)), .null, .null] [] ((sx_u w.1 28 ((x3 * (8 : Int32)) + x1).toNatClampNeg (w.1 28 (((x3 * (8 : Int32)) + x1) - (1 : Int32)).toNatClampNeg)), w.2) Q)
    (m2 : (¬ (w.1 1 4) ≤ x3) → (x1 = 0) → sx_de d rNi_sleepsIn [.ref 27, .int x3, .int x1] w f2 0 w)
    (o4 : (¬ (w.1 1 4) ≤ x3) → (x1 = 0) → (f2 = 0) → vp_in ((x3 * (8 : Int32)) + x1) 56)
    (k6 : (¬ (w.1 1 4) ≤ x3) → (x1 = 0) → (f2 = 0) → (¬ ((upd (w.1 28) ((x3 * (8 : Int32)) + x1).toNatClampNeg (-1 : Int32)) ((x3 * (8 : Int32)) + x1).toNatClampNeg) = (-1 : Int32)) → sx_ev (d + 1) rNi_keepBeds 4 [.ref 27, .int x1, .int (x2 ||| ((1 : Int32) <<< (((upd (w.1 28) ((x3 * (8 : Int32)) + x1).toNatClampNeg (-1 : Int32)) ((x3 * (8 : Int32)) + x1).toNatClampNeg) &&& 31))), .int (x3 + (1 : Int32)), .null, .null] [] ((sx_u w.1 28 ((x3 * (8 : Int32)) + x1).toNatClampNeg (-1 : Int32)), w.2) Q)
    (k7 : (¬ (w.1 1 4) ≤ x3) → (x1 = 0) → (f2 = 0) → (((upd (w.1 28) ((x3 * (8 : Int32)) + x1).toNatClampNeg (-1 : Int32)) ((x3 * (8 : Int32)) + x1).toNatClampNeg) = (-1 : Int32)) → sx_ev (d + 1) rNi_keepBeds 4 [.ref 27, .int x1, .int (x2 ||| (0 : Int32)), .int (x3 + (1 : Int32)), .null, .null] [] ((sx_u w.1 28 ((x3 * (8 : Int32)) + x1).toNatClampNeg (-1 : Int32)), w.2) Q)
    (o5 : (¬ (w.1 1 4) ≤ x3) → (x1 = 0) → (¬ f2 = 0) → vp_in ((x3 * (8 : Int32)) + x1) 56)
    (k8 : (¬ (w.1 1 4) ≤ x3) → (x1 = 0) → (¬ f2 = 0) → (¬ ((upd (w.1 28) ((x3 * (8 : Int32)) + x1).toNatClampNeg (-1 : Int32)) ((x3 * (8 : Int32)) + x1).toNatClampNeg) = (-1 : Int32)) → sx_ev (d + 1) rNi_keepBeds 4 [.ref 27, .int x1, .int (x2 ||| ((1 : Int32) <<< (((upd (w.1 28) ((x3 * (8 : Int32)) + x1).toNatClampNeg (-1 : Int32)) ((x3 * (8 : Int32)) + x1).toNatClampNeg) &&& 31))), .int (x3 + (1 : Int32)), .null, .null] [] ((sx_u w.1 28 ((x3 * (8 : Int32)) + x1).toNatClampNeg (-1 : Int32)), w.2) Q)
    (k9 : (¬ (w.1 1 4) ≤ x3) → (x1 = 0) → (¬ f2 = 0) → (((upd (w.1 28) ((x3 * (8 : Int32)) + x1).toNatClampNeg (-1 : Int32)) ((x3 * (8 : Int32)) + x1).toNatClampNeg) = (-1 : Int32)) → sx_ev (d + 1) rNi_keepBeds 4 [.ref 27, .int x1, .int (x2 ||| (0 : Int32)), .int (x3 + (1 : Int32)), .null, .null] [] ((sx_u w.1 28 ((x3 * (8 : Int32)) + x1).toNatClampNeg (-1 : Int32)), w.2) Q) :
    sx_ev (d + 1) rNi_keepBeds 4 [.ref 27, .int x1, .int x2, .int x3, .null, .null] [] w Q := by
  refine ev_iload_n (dNi_keepBeds.at 4 rfl) rfl ?_
  refine ev_aload_n (dNi_keepBeds.at 5 rfl) rfl ?_
  refine ev_getr (dNi_keepBeds.at 6 rfl) (own := 2) rfl fkNi_34 rfl rfl ?_
  refine ev_get (dNi_keepBeds.at 7 rfl) (own := 2) rfl fkNi_44 rfl rfl ?_
  refine ev_icmp_ge (tgt := 97) (dNi_keepBeds.at 8 rfl) rfl (fun c1 => ?_) (fun c1 => ?_)
  · refine ev_iload_n (dNi_keepBeds.at 57 rfl) rfl ?_
    exact ev_iret (dNi_keepBeds.at 58 rfl) rfl (k1 c1)
  · refine ev_iload_n (dNi_keepBeds.at 9 rfl) rfl ?_
    refine ev_bipush (dNi_keepBeds.at 10 rfl) kB_8 ?_
    refine ev_imul (dNi_keepBeds.at 11 rfl) ?_
    refine ev_iload_n (dNi_keepBeds.at 12 rfl) rfl ?_
    refine ev_iadd (dNi_keepBeds.at 13 rfl) ?_
    refine ev_istore (dNi_keepBeds.at 14 rfl) (by decide) rfl ?_
    refine ev_iload_n (dNi_keepBeds.at 15 rfl) rfl ?_
    refine ev_if_ne (tgt := 31) (dNi_keepBeds.at 16 rfl) rfl (fun c2 => ?_) (fun c2 => ?_)
    · refine ev_aload_n (dNi_keepBeds.at 19 rfl) rfl ?_
      refine ev_getr (dNi_keepBeds.at 20 rfl) (own := 2) rfl fkNi_9 rfl rfl ?_
      refine ev_iload (dNi_keepBeds.at 21 rfl) rfl ?_
      refine ev_iconst (dNi_keepBeds.at 22 rfl) kI_1 ?_
      refine ev_isub (dNi_keepBeds.at 23 rfl) ?_
      refine ev_iaload (dNi_keepBeds.at 24 rfl) rfl (o1 c1 c2) ?_
      refine ev_istore (dNi_keepBeds.at 25 rfl) (by decide) rfl ?_
      refine ev_aload_n (dNi_keepBeds.at 26 rfl) rfl ?_
      refine ev_getr (dNi_keepBeds.at 27 rfl) (own := 2) rfl fkNi_9 rfl rfl ?_
      refine ev_iload (dNi_keepBeds.at 28 rfl) rfl ?_
      refine ev_aload_n (dNi_keepBeds.at 29 rfl) rfl ?_
      refine ev_iload_n (dNi_keepBeds.at 30 rfl) rfl ?_
      refine ev_iload_n (dNi_keepBeds.at 31 rfl) rfl ?_
      refine ev_cVi (dNi_keepBeds.at 32 rfl) (As := [.int x3, .int x1]) (own := 2) rfl ckNi_76 rfl (Or.inr rfl) rfl (Nat.le_of_ble_eq_true rfl) rfl (m1 c1 c2) ?_
      refine ev_if_eq (tgt := 62) (dNi_keepBeds.at 33 rfl) rfl (fun c3 => ?_) (fun c3 => ?_)
      · refine ev_iconst (dNi_keepBeds.at 36 rfl) kI_m1 ?_
        refine ev_iastore (dNi_keepBeds.at 37 rfl) rfl (o2 c1 c2 c3) ?_
        refine ev_iload_n (dNi_keepBeds.at 38 rfl) rfl ?_
        refine ev_aload_n (dNi_keepBeds.at 39 rfl) rfl ?_
        refine ev_getr (dNi_keepBeds.at 40 rfl) (own := 2) rfl fkNi_9 rfl rfl ?_
        refine ev_iload (dNi_keepBeds.at 41 rfl) rfl ?_
        refine ev_iaload (dNi_keepBeds.at 42 rfl) rfl (o2 c1 c2 c3) ?_
        refine ev_iconst (dNi_keepBeds.at 43 rfl) kI_m1 ?_
        refine ev_icmp_ne (tgt := 80) (dNi_keepBeds.at 44 rfl) rfl (fun c4 => ?_) (fun c4 => ?_)
        · refine ev_iconst (dNi_keepBeds.at 47 rfl) kI_1 ?_
          refine ev_aload_n (dNi_keepBeds.at 48 rfl) rfl ?_
          refine ev_getr (dNi_keepBeds.at 49 rfl) (own := 2) rfl fkNi_9 rfl rfl ?_
          refine ev_iload (dNi_keepBeds.at 50 rfl) rfl ?_
          refine ev_iaload (dNi_keepBeds.at 51 rfl) rfl (o2 c1 c2 c3) ?_
          refine ev_ishl (dNi_keepBeds.at 52 rfl) ?_
          refine ev_ior (dNi_keepBeds.at 53 rfl) ?_
          refine ev_istore_n (dNi_keepBeds.at 54 rfl) (by decide) rfl ?_
          refine ev_iinc (dNi_keepBeds.at 55 rfl) kI_1 rfl (by decide) rfl ?_
          refine ev_goto (tgt := 4) (dNi_keepBeds.at 56 rfl) rfl ?_
          refine ev_kp [true, true, true, true, false, false] rfl ?_
          exact (k2 c1 c2 c3 c4)
        · refine ev_iconst (dNi_keepBeds.at 45 rfl) kI_0 ?_
          refine ev_goto (tgt := 89) (dNi_keepBeds.at 46 rfl) rfl ?_
          refine ev_ior (dNi_keepBeds.at 53 rfl) ?_
          refine ev_istore_n (dNi_keepBeds.at 54 rfl) (by decide) rfl ?_
          refine ev_iinc (dNi_keepBeds.at 55 rfl) kI_1 rfl (by decide) rfl ?_
          refine ev_goto (tgt := 4) (dNi_keepBeds.at 56 rfl) rfl ?_
          refine ev_kp [true, true, true, true, false, false] rfl ?_
          exact (k3 c1 c2 c3 c4)
      · refine ev_iload (dNi_keepBeds.at 34 rfl) rfl ?_
        refine ev_goto (tgt := 63) (dNi_keepBeds.at 35 rfl) rfl ?_
        refine ev_iastore (dNi_keepBeds.at 37 rfl) rfl (o3 c1 c2 c3) ?_
        refine ev_iload_n (dNi_keepBeds.at 38 rfl) rfl ?_
        refine ev_aload_n (dNi_keepBeds.at 39 rfl) rfl ?_
        refine ev_getr (dNi_keepBeds.at 40 rfl) (own := 2) rfl fkNi_9 rfl rfl ?_
        refine ev_iload (dNi_keepBeds.at 41 rfl) rfl ?_
        refine ev_iaload (dNi_keepBeds.at 42 rfl) rfl (o3 c1 c2 c3) ?_
        refine ev_iconst (dNi_keepBeds.at 43 rfl) kI_m1 ?_
        refine ev_icmp_ne (tgt := 80) (dNi_keepBeds.at 44 rfl) rfl (fun c5 => ?_) (fun c5 => ?_)
        · refine ev_iconst (dNi_keepBeds.at 47 rfl) kI_1 ?_
          refine ev_aload_n (dNi_keepBeds.at 48 rfl) rfl ?_
          refine ev_getr (dNi_keepBeds.at 49 rfl) (own := 2) rfl fkNi_9 rfl rfl ?_
          refine ev_iload (dNi_keepBeds.at 50 rfl) rfl ?_
          refine ev_iaload (dNi_keepBeds.at 51 rfl) rfl (o3 c1 c2 c3) ?_
          refine ev_ishl (dNi_keepBeds.at 52 rfl) ?_
          refine ev_ior (dNi_keepBeds.at 53 rfl) ?_
          refine ev_istore_n (dNi_keepBeds.at 54 rfl) (by decide) rfl ?_
          refine ev_iinc (dNi_keepBeds.at 55 rfl) kI_1 rfl (by decide) rfl ?_
          refine ev_goto (tgt := 4) (dNi_keepBeds.at 56 rfl) rfl ?_
          refine ev_kp [true, true, true, true, false, false] rfl ?_
          exact (k4 c1 c2 c3 c5)
        · refine ev_iconst (dNi_keepBeds.at 45 rfl) kI_0 ?_
          refine ev_goto (tgt := 89) (dNi_keepBeds.at 46 rfl) rfl ?_
          refine ev_ior (dNi_keepBeds.at 53 rfl) ?_
          refine ev_istore_n (dNi_keepBeds.at 54 rfl) (by decide) rfl ?_
          refine ev_iinc (dNi_keepBeds.at 55 rfl) kI_1 rfl (by decide) rfl ?_
          refine ev_goto (tgt := 4) (dNi_keepBeds.at 56 rfl) rfl ?_
          refine ev_kp [true, true, true, true, false, false] rfl ?_
          exact (k5 c1 c2 c3 c5)
    · refine ev_iconst (dNi_keepBeds.at 17 rfl) kI_m1 ?_
      refine ev_goto (tgt := 40) (dNi_keepBeds.at 18 rfl) rfl ?_
      refine ev_istore (dNi_keepBeds.at 25 rfl) (by decide) rfl ?_
      refine ev_aload_n (dNi_keepBeds.at 26 rfl) rfl ?_
      refine ev_getr (dNi_keepBeds.at 27 rfl) (own := 2) rfl fkNi_9 rfl rfl ?_
      refine ev_iload (dNi_keepBeds.at 28 rfl) rfl ?_
      refine ev_aload_n (dNi_keepBeds.at 29 rfl) rfl ?_
      refine ev_iload_n (dNi_keepBeds.at 30 rfl) rfl ?_
      refine ev_iload_n (dNi_keepBeds.at 31 rfl) rfl ?_
      refine ev_cVi (dNi_keepBeds.at 32 rfl) (As := [.int x3, .int x1]) (own := 2) rfl ckNi_76 rfl (Or.inr rfl) rfl (Nat.le_of_ble_eq_true rfl) rfl (m2 c1 c2) ?_
      refine ev_if_eq (tgt := 62) (dNi_keepBeds.at 33 rfl) rfl (fun c6 => ?_) (fun c6 => ?_)
      · refine ev_iconst (dNi_keepBeds.at 36 rfl) kI_m1 ?_
        refine ev_iastore (dNi_keepBeds.at 37 rfl) rfl (o4 c1 c2 c6) ?_
        refine ev_iload_n (dNi_keepBeds.at 38 rfl) rfl ?_
        refine ev_aload_n (dNi_keepBeds.at 39 rfl) rfl ?_
        refine ev_getr (dNi_keepBeds.at 40 rfl) (own := 2) rfl fkNi_9 rfl rfl ?_
        refine ev_iload (dNi_keepBeds.at 41 rfl) rfl ?_
        refine ev_iaload (dNi_keepBeds.at 42 rfl) rfl (o4 c1 c2 c6) ?_
        refine ev_iconst (dNi_keepBeds.at 43 rfl) kI_m1 ?_
        refine ev_icmp_ne (tgt := 80) (dNi_keepBeds.at 44 rfl) rfl (fun c7 => ?_) (fun c7 => ?_)
        · refine ev_iconst (dNi_keepBeds.at 47 rfl) kI_1 ?_
          refine ev_aload_n (dNi_keepBeds.at 48 rfl) rfl ?_
          refine ev_getr (dNi_keepBeds.at 49 rfl) (own := 2) rfl fkNi_9 rfl rfl ?_
          refine ev_iload (dNi_keepBeds.at 50 rfl) rfl ?_
          refine ev_iaload (dNi_keepBeds.at 51 rfl) rfl (o4 c1 c2 c6) ?_
          refine ev_ishl (dNi_keepBeds.at 52 rfl) ?_
          refine ev_ior (dNi_keepBeds.at 53 rfl) ?_
          refine ev_istore_n (dNi_keepBeds.at 54 rfl) (by decide) rfl ?_
          refine ev_iinc (dNi_keepBeds.at 55 rfl) kI_1 rfl (by decide) rfl ?_
          refine ev_goto (tgt := 4) (dNi_keepBeds.at 56 rfl) rfl ?_
          refine ev_kp [true, true, true, true, false, false] rfl ?_
          exact (k6 c1 c2 c6 c7)
        · refine ev_iconst (dNi_keepBeds.at 45 rfl) kI_0 ?_
          refine ev_goto (tgt := 89) (dNi_keepBeds.at 46 rfl) rfl ?_
          refine ev_ior (dNi_keepBeds.at 53 rfl) ?_
          refine ev_istore_n (dNi_keepBeds.at 54 rfl) (by decide) rfl ?_
          refine ev_iinc (dNi_keepBeds.at 55 rfl) kI_1 rfl (by decide) rfl ?_
          refine ev_goto (tgt := 4) (dNi_keepBeds.at 56 rfl) rfl ?_
          refine ev_kp [true, true, true, true, false, false] rfl ?_
          exact (k7 c1 c2 c6 c7)
      · refine ev_iload (dNi_keepBeds.at 34 rfl) rfl ?_
        refine ev_goto (tgt := 63) (dNi_keepBeds.at 35 rfl) rfl ?_
        refine ev_iastore (dNi_keepBeds.at 37 rfl) rfl (o5 c1 c2 c6) ?_
        refine ev_iload_n (dNi_keepBeds.at 38 rfl) rfl ?_
        refine ev_aload_n (dNi_keepBeds.at 39 rfl) rfl ?_
        refine ev_getr (dNi_keepBeds.at 40 rfl) (own := 2) rfl fkNi_9 rfl rfl ?_
        refine ev_iload (dNi_keepBeds.at 41 rfl) rfl ?_
        refine ev_iaload (dNi_keepBeds.at 42 rfl) rfl (o5 c1 c2 c6) ?_
        refine ev_iconst (dNi_keepBeds.at 43 rfl) kI_m1 ?_
        refine ev_icmp_ne (tgt := 80) (dNi_keepBeds.at 44 rfl) rfl (fun c8 => ?_) (fun c8 => ?_)
        · refine ev_iconst (dNi_keepBeds.at 47 rfl) kI_1 ?_
          refine ev_aload_n (dNi_keepBeds.at 48 rfl) rfl ?_
          refine ev_getr (dNi_keepBeds.at 49 rfl) (own := 2) rfl fkNi_9 rfl rfl ?_
          refine ev_iload (dNi_keepBeds.at 50 rfl) rfl ?_
          refine ev_iaload (dNi_keepBeds.at 51 rfl) rfl (o5 c1 c2 c6) ?_
          refine ev_ishl (dNi_keepBeds.at 52 rfl) ?_
          refine ev_ior (dNi_keepBeds.at 53 rfl) ?_
          refine ev_istore_n (dNi_keepBeds.at 54 rfl) (by decide) rfl ?_
          refine ev_iinc (dNi_keepBeds.at 55 rfl) kI_1 rfl (by decide) rfl ?_
          refine ev_goto (tgt := 4) (dNi_keepBeds.at 56 rfl) rfl ?_
          refine ev_kp [true, true, true, true, false, false] rfl ?_
          exact (k8 c1 c2 c6 c8)
        · refine ev_iconst (dNi_keepBeds.at 45 rfl) kI_0 ?_
          refine ev_goto (tgt := 89) (dNi_keepBeds.at 46 rfl) rfl ?_
          refine ev_ior (dNi_keepBeds.at 53 rfl) ?_
          refine ev_istore_n (dNi_keepBeds.at 54 rfl) (by decide) rfl ?_
          refine ev_iinc (dNi_keepBeds.at 55 rfl) kI_1 rfl (by decide) rfl ?_
          refine ev_goto (tgt := 4) (dNi_keepBeds.at 56 rfl) rfl ?_
          refine ev_kp [true, true, true, true, false, false] rfl ?_
          exact (k9 c1 c2 c6 c8)
set_option maxHeartbeats 4000000 in
theorem bNi_layDown_0 {d : Nat} {w : sx_W} {Q : sx_Q} {x1 : Int32} {x2 : Int32}
    (k1 : sx_ev d rNi_layDown 5 [.ref 27, .int x1, .int x2, .int (0 : Int32), .int (0 : Int32), .null] [] w Q) :
    sx_ev d rNi_layDown 0 [.ref 27, .int x1, .int x2, .null, .null, .null] [] w Q := by
  refine ev_iconst (dNi_layDown.at 0 rfl) kI_0 ?_
  refine ev_istore_n (dNi_layDown.at 1 rfl) (by decide) rfl ?_
  refine ev_iconst (dNi_layDown.at 2 rfl) kI_0 ?_
  refine ev_istore (dNi_layDown.at 3 rfl) (by decide) rfl ?_
  exact k1
set_option maxHeartbeats 4000000 in
theorem bNi_layDown_5 {d : Nat} {w : sx_W} {Q : sx_Q} {x1 : Int32} {x2 : Int32} {x3 : Int32} {x4 : Int32} {f1 : Int32}
    (k1 : ((w.1 1 4) ≤ x4) → Q 0 0 w)
    (o1 : (¬ (w.1 1 4) ≤ x4) → vp_in ((x4 * (8 : Int32)) + x1) 56)
    (k2 : (¬ (w.1 1 4) ≤ x4) → (¬ (w.1 28 ((x4 * (8 : Int32)) + x1).toNatClampNeg) = (-1 : Int32)) → sx_ev (d + 1) rNi_layDown 5 [.ref 27, .int x1, .int x2, .int x3, .int (x4 + (1 : Int32)), .null] [] w Q)
    (m1 : (¬ (w.1 1 4) ≤ x4) → ((w.1 28 ((x4 * (8 : Int32)) + x1).toNatClampNeg) = (-1 : Int32)) → sx_de d rNi_sleepsIn [.ref 27, .int x4, .int x1] w f1 0 w)
    (k3 : (¬ (w.1 1 4) ≤ x4) → ((w.1 28 ((x4 * (8 : Int32)) + x1).toNatClampNeg) = (-1 : Int32)) → (¬ f1 = 0) → sx_ev (d + 1) rNi_layDown 50 [.ref 27, .int x1, .int x2, .int x3, .int x4, .int ((x4 * (8 : Int32)) + x1)] [] w Q)
    (k4 : (¬ (w.1 1 4) ≤ x4) → ((w.1 28 ((x4 * (8 : Int32)) + x1).toNatClampNeg) = (-1 : Int32)) → (f1 = 0) → sx_ev (d + 1) rNi_layDown 5 [.ref 27, .int x1, .int x2, .int x3, .int (x4 + (1 : Int32)), .null] [] w Q) :
    sx_ev (d + 1) rNi_layDown 5 [.ref 27, .int x1, .int x2, .int x3, .int x4, .null] [] w Q := by
  refine ev_iload (dNi_layDown.at 4 rfl) rfl ?_
  refine ev_aload_n (dNi_layDown.at 5 rfl) rfl ?_
  refine ev_getr (dNi_layDown.at 6 rfl) (own := 2) rfl fkNi_34 rfl rfl ?_
  refine ev_get (dNi_layDown.at 7 rfl) (own := 2) rfl fkNi_44 rfl rfl ?_
  refine ev_icmp_ge (tgt := 121) (dNi_layDown.at 8 rfl) rfl (fun c1 => ?_) (fun c1 => ?_)
  · exact ev_vret (dNi_layDown.at 67 rfl) rfl (k1 c1)
  · refine ev_iload (dNi_layDown.at 9 rfl) rfl ?_
    refine ev_bipush (dNi_layDown.at 10 rfl) kB_8 ?_
    refine ev_imul (dNi_layDown.at 11 rfl) ?_
    refine ev_iload_n (dNi_layDown.at 12 rfl) rfl ?_
    refine ev_iadd (dNi_layDown.at 13 rfl) ?_
    refine ev_istore (dNi_layDown.at 14 rfl) (by decide) rfl ?_
    refine ev_aload_n (dNi_layDown.at 15 rfl) rfl ?_
    refine ev_getr (dNi_layDown.at 16 rfl) (own := 2) rfl fkNi_9 rfl rfl ?_
    refine ev_iload (dNi_layDown.at 17 rfl) rfl ?_
    refine ev_iaload (dNi_layDown.at 18 rfl) rfl (o1 c1) ?_
    refine ev_iconst (dNi_layDown.at 19 rfl) kI_m1 ?_
    refine ev_icmp_ne (tgt := 115) (dNi_layDown.at 20 rfl) rfl (fun c2 => ?_) (fun c2 => ?_)
    · refine ev_iinc (dNi_layDown.at 65 rfl) kI_1 rfl (by decide) rfl ?_
      refine ev_goto (tgt := 5) (dNi_layDown.at 66 rfl) rfl ?_
      refine ev_kp [true, true, true, true, true, false] rfl ?_
      exact (k2 c1 c2)
    · refine ev_aload_n (dNi_layDown.at 21 rfl) rfl ?_
      refine ev_iload (dNi_layDown.at 22 rfl) rfl ?_
      refine ev_iload_n (dNi_layDown.at 23 rfl) rfl ?_
      refine ev_cVi (dNi_layDown.at 24 rfl) (As := [.int x4, .int x1]) (own := 2) rfl ckNi_76 rfl (Or.inr rfl) rfl (Nat.le_of_ble_eq_true rfl) rfl (m1 c1 c2) ?_
      refine ev_if_ne (tgt := 50) (dNi_layDown.at 25 rfl) rfl (fun c3 => ?_) (fun c3 => ?_)
      · exact (k3 c1 c2 c3)
      · refine ev_goto (tgt := 115) (dNi_layDown.at 26 rfl) rfl ?_
        refine ev_iinc (dNi_layDown.at 65 rfl) kI_1 rfl (by decide) rfl ?_
        refine ev_goto (tgt := 5) (dNi_layDown.at 66 rfl) rfl ?_
        refine ev_kp [true, true, true, true, true, false] rfl ?_
        exact (k4 c1 c2 c3)
set_option maxHeartbeats 4000000 in
theorem bNi_layDown_50 {d : Nat} {w : sx_W} {Q : sx_Q} {x1 : Int32} {x2 : Int32} {x3 : Int32} {x4 : Int32} {x5 : Int32} {f1 : Int32}
    (o1 : ((6 : Int32) ≤ x3) → vp_in x5 56)
    (o2 : ((6 : Int32) ≤ x3) → vp_in (w.1 27 4) 56)
    (k1 : ((6 : Int32) ≤ x3) → sx_ev (d + 1) rNi_layDown 5 [.ref 27, .int x1, .int (x2 ||| ((1 : Int32) <<< (x3 &&& 31))), .int x3, .int (x4 + (1 : Int32)), .null] [] ((sx_u (sx_u (sx_u (sx_u w.1 28 x5.toNatClampNeg x3) 29 (w.1 27 4).toNatClampNeg x4) 30 (w.1 27 4).toNatClampNeg x3) 27 4 ((w.1 27 4) + (1 : Int32))), w.2) Q)
    (m1 : (¬ (6 : Int32) ≤ x3) → sx_de d rSb_holds [.int x2, .int x3] w f1 0 w)
    (o3 : (¬ (6 : Int32) ≤ x3) → (f1 = 0) → vp_in x5 56)
    (o4 : (¬ (6 : Int32) ≤ x3) → (f1 = 0) → vp_in (w.1 27 4) 56)
    (k2 : (¬ (6 : Int32) ≤ x3) → (f1 = 0) → sx_ev (d + 1) rNi_layDown 5 [.ref 27, .int x1, .int (x2 ||| ((1 : Int32) <<< (x3 &&& 31))), .int x3, .int (x4 + (1 : Int32)), .null] [] ((sx_u (sx_u (sx_u (sx_u w.1 28 x5.toNatClampNeg x3) 29 (w.1 27 4).toNatClampNeg x4) 30 (w.1 27 4).toNatClampNeg x3) 27 4 ((w.1 27 4) + (1 : Int32))), w.2) Q)
    (k3 : (¬ (6 : Int32) ≤ x3) → (¬ f1 = 0) → sx_ev (d + 1) rNi_layDown 50 [.ref 27, .int x1, .int x2, .int (x3 + (1 : Int32)), .int x4, .int x5] [] w Q) :
    sx_ev (d + 1) rNi_layDown 50 [.ref 27, .int x1, .int x2, .int x3, .int x4, .int x5] [] w Q := by
  refine ev_iload_n (dNi_layDown.at 27 rfl) rfl ?_
  refine ev_bipush (dNi_layDown.at 28 rfl) kB_6 ?_
  refine ev_icmp_ge (tgt := 70) (dNi_layDown.at 29 rfl) rfl (fun c1 => ?_) (fun c1 => ?_)
  · refine ev_aload_n (dNi_layDown.at 36 rfl) rfl ?_
    refine ev_getr (dNi_layDown.at 37 rfl) (own := 2) rfl fkNi_9 rfl rfl ?_
    refine ev_iload (dNi_layDown.at 38 rfl) rfl ?_
    refine ev_iload_n (dNi_layDown.at 39 rfl) rfl ?_
    refine ev_iastore (dNi_layDown.at 40 rfl) rfl (o1 c1) ?_
    refine ev_aload_n (dNi_layDown.at 41 rfl) rfl ?_
    refine ev_getr (dNi_layDown.at 42 rfl) (own := 2) rfl fkNi_15 rfl rfl ?_
    refine ev_aload_n (dNi_layDown.at 43 rfl) rfl ?_
    refine ev_get (dNi_layDown.at 44 rfl) (own := 2) rfl fkNi_21 rfl rfl ?_
    refine ev_iload (dNi_layDown.at 45 rfl) rfl ?_
    refine ev_iastore (dNi_layDown.at 46 rfl) rfl (o2 c1) ?_
    refine ev_aload_n (dNi_layDown.at 47 rfl) rfl ?_
    refine ev_getr (dNi_layDown.at 48 rfl) (own := 2) rfl fkNi_18 rfl rfl ?_
    refine ev_aload_n (dNi_layDown.at 49 rfl) rfl ?_
    refine ev_get (dNi_layDown.at 50 rfl) (own := 2) rfl fkNi_21 rfl rfl ?_
    refine ev_iload_n (dNi_layDown.at 51 rfl) rfl ?_
    refine ev_iastore (dNi_layDown.at 52 rfl) rfl (o2 c1) ?_
    refine ev_aload_n (dNi_layDown.at 53 rfl) rfl ?_
    refine ev_dup (dNi_layDown.at 54 rfl) rfl ?_
    refine ev_get (dNi_layDown.at 55 rfl) (own := 2) rfl fkNi_21 rfl rfl ?_
    refine ev_iconst (dNi_layDown.at 56 rfl) kI_1 ?_
    refine ev_iadd (dNi_layDown.at 57 rfl) ?_
    refine ev_put (dNi_layDown.at 58 rfl) (own := 2) rfl fkNi_21 rfl rfl ?_
    refine ev_iload_n (dNi_layDown.at 59 rfl) rfl ?_
    refine ev_iconst (dNi_layDown.at 60 rfl) kI_1 ?_
    refine ev_iload_n (dNi_layDown.at 61 rfl) rfl ?_
    refine ev_ishl (dNi_layDown.at 62 rfl) ?_
    refine ev_ior (dNi_layDown.at 63 rfl) ?_
    refine ev_istore_n (dNi_layDown.at 64 rfl) (by decide) rfl ?_
    refine ev_iinc (dNi_layDown.at 65 rfl) kI_1 rfl (by decide) rfl ?_
    refine ev_goto (tgt := 5) (dNi_layDown.at 66 rfl) rfl ?_
    refine ev_kp [true, true, true, true, true, false] rfl ?_
    exact (k1 c1)
  · refine ev_iload_n (dNi_layDown.at 30 rfl) rfl ?_
    refine ev_iload_n (dNi_layDown.at 31 rfl) rfl ?_
    refine ev_cNi (dNi_layDown.at 32 rfl) (As := [.int x2, .int x3]) (own := 2) rfl ckNi_49 (Or.inr rfl) rfl (Nat.le_of_ble_eq_true rfl) rfl (m1 c1) ?_
    refine ev_if_eq (tgt := 70) (dNi_layDown.at 33 rfl) rfl (fun c2 => ?_) (fun c2 => ?_)
    · refine ev_aload_n (dNi_layDown.at 36 rfl) rfl ?_
      refine ev_getr (dNi_layDown.at 37 rfl) (own := 2) rfl fkNi_9 rfl rfl ?_
      refine ev_iload (dNi_layDown.at 38 rfl) rfl ?_
      refine ev_iload_n (dNi_layDown.at 39 rfl) rfl ?_
      refine ev_iastore (dNi_layDown.at 40 rfl) rfl (o3 c1 c2) ?_
      refine ev_aload_n (dNi_layDown.at 41 rfl) rfl ?_
      refine ev_getr (dNi_layDown.at 42 rfl) (own := 2) rfl fkNi_15 rfl rfl ?_
      refine ev_aload_n (dNi_layDown.at 43 rfl) rfl ?_
      refine ev_get (dNi_layDown.at 44 rfl) (own := 2) rfl fkNi_21 rfl rfl ?_
      refine ev_iload (dNi_layDown.at 45 rfl) rfl ?_
      refine ev_iastore (dNi_layDown.at 46 rfl) rfl (o4 c1 c2) ?_
      refine ev_aload_n (dNi_layDown.at 47 rfl) rfl ?_
      refine ev_getr (dNi_layDown.at 48 rfl) (own := 2) rfl fkNi_18 rfl rfl ?_
      refine ev_aload_n (dNi_layDown.at 49 rfl) rfl ?_
      refine ev_get (dNi_layDown.at 50 rfl) (own := 2) rfl fkNi_21 rfl rfl ?_
      refine ev_iload_n (dNi_layDown.at 51 rfl) rfl ?_
      refine ev_iastore (dNi_layDown.at 52 rfl) rfl (o4 c1 c2) ?_
      refine ev_aload_n (dNi_layDown.at 53 rfl) rfl ?_
      refine ev_dup (dNi_layDown.at 54 rfl) rfl ?_
      refine ev_get (dNi_layDown.at 55 rfl) (own := 2) rfl fkNi_21 rfl rfl ?_
      refine ev_iconst (dNi_layDown.at 56 rfl) kI_1 ?_
      refine ev_iadd (dNi_layDown.at 57 rfl) ?_
      refine ev_put (dNi_layDown.at 58 rfl) (own := 2) rfl fkNi_21 rfl rfl ?_
      refine ev_iload_n (dNi_layDown.at 59 rfl) rfl ?_
      refine ev_iconst (dNi_layDown.at 60 rfl) kI_1 ?_
      refine ev_iload_n (dNi_layDown.at 61 rfl) rfl ?_
      refine ev_ishl (dNi_layDown.at 62 rfl) ?_
      refine ev_ior (dNi_layDown.at 63 rfl) ?_
      refine ev_istore_n (dNi_layDown.at 64 rfl) (by decide) rfl ?_
      refine ev_iinc (dNi_layDown.at 65 rfl) kI_1 rfl (by decide) rfl ?_
      refine ev_goto (tgt := 5) (dNi_layDown.at 66 rfl) rfl ?_
      refine ev_kp [true, true, true, true, true, false] rfl ?_
      exact (k2 c1 c2)
    · refine ev_iinc (dNi_layDown.at 34 rfl) kI_1 rfl (by decide) rfl ?_
      refine ev_goto (tgt := 50) (dNi_layDown.at 35 rfl) rfl ?_
      exact (k3 c1 c2)
set_option maxHeartbeats 4000000 in
theorem bNi_sleepsIn_0 {d : Nat} {w : sx_W} {Q : sx_Q} {x1 : Int32} {x2 : Int32} {f1 : Int32} {f2 : Int32}
    (o1 : vp_in x1 7)
    (m1 : sx_de d rHo_sleepSet [.ref 1, .int x1, .int (w.1 5 x1.toNatClampNeg)] w f1 0 w)
    (m2 : sx_de d rSb_holds [.int f1, .int x2] w f2 0 w)
    (k1 : Q f2 0 w)
    (o2 : (f2 = 0 ∨ f2 = 1)) :
    sx_ev (d + 1) rNi_sleepsIn 0 [.ref 27, .int x1, .int x2] [] w Q := by
  refine ev_aload_n (dNi_sleepsIn.at 0 rfl) rfl ?_
  refine ev_getr (dNi_sleepsIn.at 1 rfl) (own := 2) rfl fkNi_34 rfl rfl ?_
  refine ev_iload_n (dNi_sleepsIn.at 2 rfl) rfl ?_
  refine ev_aload_n (dNi_sleepsIn.at 3 rfl) rfl ?_
  refine ev_getr (dNi_sleepsIn.at 4 rfl) (own := 2) rfl fkNi_34 rfl rfl ?_
  refine ev_getr (dNi_sleepsIn.at 5 rfl) (own := 2) rfl fkNi_79 rfl rfl ?_
  refine ev_iload_n (dNi_sleepsIn.at 6 rfl) rfl ?_
  refine ev_iaload (dNi_sleepsIn.at 7 rfl) rfl o1 ?_
  refine ev_cVi (dNi_sleepsIn.at 8 rfl) (As := [.int x1, .int (w.1 5 x1.toNatClampNeg)]) (own := 2) rfl ckNi_82 rfl (Or.inl rfl) rfl (Nat.le_of_ble_eq_true rfl) rfl m1 ?_
  refine ev_iload_n (dNi_sleepsIn.at 9 rfl) rfl ?_
  refine ev_cNi (dNi_sleepsIn.at 10 rfl) (As := [.int f1, .int x2]) (own := 2) rfl ckNi_49 (Or.inr rfl) rfl (Nat.le_of_ble_eq_true rfl) rfl m2 ?_
  exact ev_zret (dNi_sleepsIn.at 11 rfl) rfl o2 k1
set_option maxHeartbeats 4000000 in
theorem bSe_knowsFirst_0 {d : Nat} {w : sx_W} {Q : sx_Q} {f1 : Int32} {w1 : sx_W}
    (k1 : ((w.1 16 9) = (w.1 1 9)) → Q (w.1 16 8) 0 w)
    (o1 : ((w.1 16 9) = (w.1 1 9)) → ((w.1 16 8) = 0 ∨ (w.1 16 8) = 1))
    (m1 : (¬ (w.1 16 9) = (w.1 1 9)) → sx_de d rSe_findFirst [.ref 16, .int (w.1 1 4), .ref 22] w f1 0 w1)
    (o2 : (¬ (w.1 16 9) = (w.1 1 9)) → (f1 = 0 ∨ f1 = 1))
    (k2 : (¬ (w.1 16 9) = (w.1 1 9)) → Q f1 0 ((sx_u (sx_u w1.1 16 8 f1) 16 9 (w1.1 1 9)), w1.2)) :
    sx_ev (d + 1) rSe_knowsFirst 0 [.ref 16] [] w Q := by
  refine ev_aload_n (dSe_knowsFirst.at 0 rfl) rfl ?_
  refine ev_get (dSe_knowsFirst.at 1 rfl) (own := 3) rfl fkSe_34 rfl rfl ?_
  refine ev_aload_n (dSe_knowsFirst.at 2 rfl) rfl ?_
  refine ev_getr (dSe_knowsFirst.at 3 rfl) (own := 3) rfl fkSe_50 rfl rfl ?_
  refine ev_get (dSe_knowsFirst.at 4 rfl) (own := 3) rfl fkSe_58 rfl rfl ?_
  refine ev_icmp_eq (tgt := 44) (dSe_knowsFirst.at 5 rfl) rfl (fun c1 => ?_) (fun c1 => ?_)
  · refine ev_aload_n (dSe_knowsFirst.at 20 rfl) rfl ?_
    refine ev_get (dSe_knowsFirst.at 21 rfl) (own := 3) rfl fkSe_30 rfl rfl ?_
    exact ev_zret (dSe_knowsFirst.at 22 rfl) rfl (o1 c1) (k1 c1)
  · refine ev_aload_n (dSe_knowsFirst.at 6 rfl) rfl ?_
    refine ev_aload_n (dSe_knowsFirst.at 7 rfl) rfl ?_
    refine ev_aload_n (dSe_knowsFirst.at 8 rfl) rfl ?_
    refine ev_getr (dSe_knowsFirst.at 9 rfl) (own := 3) rfl fkSe_50 rfl rfl ?_
    refine ev_get (dSe_knowsFirst.at 10 rfl) (own := 3) rfl fkSe_63 rfl rfl ?_
    refine ev_aload_n (dSe_knowsFirst.at 11 rfl) rfl ?_
    refine ev_getr (dSe_knowsFirst.at 12 rfl) (own := 3) rfl fkSe_27 rfl rfl ?_
    refine ev_cVi (dSe_knowsFirst.at 13 rfl) (As := [.int (w.1 1 4), .ref 22]) (own := 3) rfl ckSe_66 rfl (Or.inr rfl) rfl (Nat.le_of_ble_eq_true rfl) rfl (m1 c1) ?_
    refine ev_putz (dSe_knowsFirst.at 14 rfl) (own := 3) rfl fkSe_30 rfl rfl (o2 c1) ?_
    refine ev_aload_n (dSe_knowsFirst.at 15 rfl) rfl ?_
    refine ev_aload_n (dSe_knowsFirst.at 16 rfl) rfl ?_
    refine ev_getr (dSe_knowsFirst.at 17 rfl) (own := 3) rfl fkSe_50 rfl rfl ?_
    refine ev_get (dSe_knowsFirst.at 18 rfl) (own := 3) rfl fkSe_58 rfl rfl ?_
    refine ev_put (dSe_knowsFirst.at 19 rfl) (own := 3) rfl fkSe_34 rfl rfl ?_
    refine ev_aload_n (dSe_knowsFirst.at 20 rfl) rfl ?_
    refine ev_get (dSe_knowsFirst.at 21 rfl) (own := 3) rfl fkSe_30 rfl rfl ?_
    exact ev_zret (dSe_knowsFirst.at 22 rfl) rfl (o2 c1) (k2 c1)
set_option maxHeartbeats 4000000 in
theorem bSe_knowsMended_0 {d : Nat} {w : sx_W} {Q : sx_Q}
    (k1 : ((w.1 16 13) = (w.1 1 8)) → Q (w.1 16 12) 0 w)
    (o1 : ((w.1 16 13) = (w.1 1 8)) → ((w.1 16 12) = 0 ∨ (w.1 16 12) = 1))
    (k2 : (¬ (w.1 16 13) = (w.1 1 8)) → sx_ev d rSe_knowsMended 21 [.ref 16, .int (0 : Int32)] [] ((sx_u w.1 16 12 (0 : Int32)), w.2) Q) :
    sx_ev d rSe_knowsMended 0 [.ref 16, .null] [] w Q := by
  refine ev_aload_n (dSe_knowsMended.at 0 rfl) rfl ?_
  refine ev_get (dSe_knowsMended.at 1 rfl) (own := 3) rfl fkSe_47 rfl rfl ?_
  refine ev_aload_n (dSe_knowsMended.at 2 rfl) rfl ?_
  refine ev_getr (dSe_knowsMended.at 3 rfl) (own := 3) rfl fkSe_50 rfl rfl ?_
  refine ev_get (dSe_knowsMended.at 4 rfl) (own := 3) rfl fkSe_70 rfl rfl ?_
  refine ev_icmp_eq (tgt := 74) (dSe_knowsMended.at 5 rfl) rfl (fun c1 => ?_) (fun c1 => ?_)
  · refine ev_aload_n (dSe_knowsMended.at 36 rfl) rfl ?_
    refine ev_get (dSe_knowsMended.at 37 rfl) (own := 3) rfl fkSe_44 rfl rfl ?_
    exact ev_zret (dSe_knowsMended.at 38 rfl) rfl (o1 c1) (k1 c1)
  · refine ev_aload_n (dSe_knowsMended.at 6 rfl) rfl ?_
    refine ev_iconst (dSe_knowsMended.at 7 rfl) kI_0 ?_
    refine ev_putz (dSe_knowsMended.at 8 rfl) (own := 3) rfl fkSe_44 rfl rfl (by decide) ?_
    refine ev_iconst (dSe_knowsMended.at 9 rfl) kI_0 ?_
    refine ev_istore_n (dSe_knowsMended.at 10 rfl) (by decide) rfl ?_
    exact (k2 c1)
set_option maxHeartbeats 4000000 in
theorem bSe_knowsMended_21 {d : Nat} {w : sx_W} {Q : sx_Q} {x1 : Int32} {f1 : Int32} {w1 : sx_W}
    (k1 : ((w.1 1 4) < x1) → Q (w.1 16 12) 0 ((sx_u w.1 16 13 (w.1 1 8)), w.2))
    (o1 : ((w.1 1 4) < x1) → ((w.1 16 12) = 0 ∨ (w.1 16 12) = 1))
    (k2 : (¬ (w.1 1 4) < x1) → (¬ (w.1 16 12) = 0) → Q (w.1 16 12) 0 ((sx_u w.1 16 13 (w.1 1 8)), w.2))
    (o2 : (¬ (w.1 1 4) < x1) → (¬ (w.1 16 12) = 0) → ((w.1 16 12) = 0 ∨ (w.1 16 12) = 1))
    (m1 : (¬ (w.1 1 4) < x1) → ((w.1 16 12) = 0) → sx_de d rSe_findFirst [.ref 16, .int x1, .ref 23] w f1 0 w1)
    (o3 : (¬ (w.1 1 4) < x1) → ((w.1 16 12) = 0) → (f1 = 0 ∨ f1 = 1))
    (k3 : (¬ (w.1 1 4) < x1) → ((w.1 16 12) = 0) → sx_ev (d + 1) rSe_knowsMended 21 [.ref 16, .int (x1 + (1 : Int32))] [] ((sx_u (sx_u w1.1 16 12 f1) 16 11 x1), w1.2) Q) :
    sx_ev (d + 1) rSe_knowsMended 21 [.ref 16, .int x1] [] w Q := by
  refine ev_iload_n (dSe_knowsMended.at 11 rfl) rfl ?_
  refine ev_aload_n (dSe_knowsMended.at 12 rfl) rfl ?_
  refine ev_getr (dSe_knowsMended.at 13 rfl) (own := 3) rfl fkSe_50 rfl rfl ?_
  refine ev_get (dSe_knowsMended.at 14 rfl) (own := 3) rfl fkSe_63 rfl rfl ?_
  refine ev_icmp_gt (tgt := 63) (dSe_knowsMended.at 15 rfl) rfl (fun c1 => ?_) (fun c1 => ?_)
  · refine ev_aload_n (dSe_knowsMended.at 31 rfl) rfl ?_
    refine ev_aload_n (dSe_knowsMended.at 32 rfl) rfl ?_
    refine ev_getr (dSe_knowsMended.at 33 rfl) (own := 3) rfl fkSe_50 rfl rfl ?_
    refine ev_get (dSe_knowsMended.at 34 rfl) (own := 3) rfl fkSe_70 rfl rfl ?_
    refine ev_put (dSe_knowsMended.at 35 rfl) (own := 3) rfl fkSe_47 rfl rfl ?_
    refine ev_aload_n (dSe_knowsMended.at 36 rfl) rfl ?_
    refine ev_get (dSe_knowsMended.at 37 rfl) (own := 3) rfl fkSe_44 rfl rfl ?_
    exact ev_zret (dSe_knowsMended.at 38 rfl) rfl (o1 c1) (k1 c1)
  · refine ev_aload_n (dSe_knowsMended.at 16 rfl) rfl ?_
    refine ev_get (dSe_knowsMended.at 17 rfl) (own := 3) rfl fkSe_44 rfl rfl ?_
    refine ev_if_ne (tgt := 63) (dSe_knowsMended.at 18 rfl) rfl (fun c2 => ?_) (fun c2 => ?_)
    · refine ev_aload_n (dSe_knowsMended.at 31 rfl) rfl ?_
      refine ev_aload_n (dSe_knowsMended.at 32 rfl) rfl ?_
      refine ev_getr (dSe_knowsMended.at 33 rfl) (own := 3) rfl fkSe_50 rfl rfl ?_
      refine ev_get (dSe_knowsMended.at 34 rfl) (own := 3) rfl fkSe_70 rfl rfl ?_
      refine ev_put (dSe_knowsMended.at 35 rfl) (own := 3) rfl fkSe_47 rfl rfl ?_
      refine ev_aload_n (dSe_knowsMended.at 36 rfl) rfl ?_
      refine ev_get (dSe_knowsMended.at 37 rfl) (own := 3) rfl fkSe_44 rfl rfl ?_
      exact ev_zret (dSe_knowsMended.at 38 rfl) rfl (o2 c1 c2) (k2 c1 c2)
    · refine ev_aload_n (dSe_knowsMended.at 19 rfl) rfl ?_
      refine ev_aload_n (dSe_knowsMended.at 20 rfl) rfl ?_
      refine ev_iload_n (dSe_knowsMended.at 21 rfl) rfl ?_
      refine ev_aload_n (dSe_knowsMended.at 22 rfl) rfl ?_
      refine ev_getr (dSe_knowsMended.at 23 rfl) (own := 3) rfl fkSe_38 rfl rfl ?_
      refine ev_cVi (dSe_knowsMended.at 24 rfl) (As := [.int x1, .ref 23]) (own := 3) rfl ckSe_66 rfl (Or.inr rfl) rfl (Nat.le_of_ble_eq_true rfl) rfl (m1 c1 c2) ?_
      refine ev_putz (dSe_knowsMended.at 25 rfl) (own := 3) rfl fkSe_44 rfl rfl (o3 c1 c2) ?_
      refine ev_aload_n (dSe_knowsMended.at 26 rfl) rfl ?_
      refine ev_iload_n (dSe_knowsMended.at 27 rfl) rfl ?_
      refine ev_put (dSe_knowsMended.at 28 rfl) (own := 3) rfl fkSe_41 rfl rfl ?_
      refine ev_iinc (dSe_knowsMended.at 29 rfl) kI_1 rfl (by decide) rfl ?_
      refine ev_goto (tgt := 21) (dSe_knowsMended.at 30 rfl) rfl ?_
      exact (k3 c1 c2)
set_option maxHeartbeats 4000000 in
theorem bSe_countGood_0 {d : Nat} {w : sx_W} {Q : sx_Q} {w1 : sx_W} {f2 : Int32} {f3 : Int64} {f4 : Int32}
    (m1 : sx_de d rSe_openAll [.ref 16] w 0 0 w1)
    (m2 : sx_de d rSe_hasRoomForAll [.ref 16, .int (w1.1 1 5)] w1 f2 0 w1)
    (k1 : (f2 = 0) → Q (0 : Int32) 0 w1)
    (m3 : (¬ f2 = 0) → sx_de d rSt_nobodyIn [.int (w1.1 1 5)] w1 0 f3 w1)
    (m4 : (¬ f2 = 0) → sx_de d rSe_countFrom [.ref 16, .int (0 : Int32), .long f3, .int (9999 : Int32)] w1 f4 0 w1)
    (k2 : (¬ f2 = 0) → Q f4 0 w1) :
    sx_ev (d + 1) rSe_countGood 0 [.ref 16] [] w Q := by
  refine ev_aload_n (dSe_countGood.at 0 rfl) rfl ?_
  refine ev_cVv (dSe_countGood.at 1 rfl) (As := []) (own := 3) rfl ckSe_73 rfl rfl rfl (Nat.le_of_ble_eq_true rfl) rfl m1 ?_
  refine ev_aload_n (dSe_countGood.at 2 rfl) rfl ?_
  refine ev_aload_n (dSe_countGood.at 3 rfl) rfl ?_
  refine ev_getr (dSe_countGood.at 4 rfl) (own := 3) rfl fkSe_50 rfl rfl ?_
  refine ev_get (dSe_countGood.at 5 rfl) (own := 3) rfl fkSe_76 rfl rfl ?_
  refine ev_cVi (dSe_countGood.at 6 rfl) (As := [.int (w1.1 1 5)]) (own := 3) rfl ckSe_79 rfl (Or.inr rfl) rfl (Nat.le_of_ble_eq_true rfl) rfl m2 ?_
  refine ev_if_eq (tgt := 39) (dSe_countGood.at 7 rfl) rfl (fun c1 => ?_) (fun c1 => ?_)
  · refine ev_iconst (dSe_countGood.at 17 rfl) kI_0 ?_
    exact ev_iret (dSe_countGood.at 18 rfl) rfl (k1 c1)
  · refine ev_aload_n (dSe_countGood.at 8 rfl) rfl ?_
    refine ev_iconst (dSe_countGood.at 9 rfl) kI_0 ?_
    refine ev_aload_n (dSe_countGood.at 10 rfl) rfl ?_
    refine ev_getr (dSe_countGood.at 11 rfl) (own := 3) rfl fkSe_50 rfl rfl ?_
    refine ev_get (dSe_countGood.at 12 rfl) (own := 3) rfl fkSe_76 rfl rfl ?_
    refine ev_cSl (dSe_countGood.at 13 rfl) (As := [.int (w1.1 1 5)]) (own := 3) rfl ckSe_83 rfl rfl (Nat.le_of_ble_eq_true rfl) rfl (m3 c1) ?_
    refine ev_sipush (dSe_countGood.at 14 rfl) kS_9999 ?_
    refine ev_cSi (dSe_countGood.at 15 rfl) (As := [.ref 16, .int (0 : Int32), .long f3, .int (9999 : Int32)]) (own := 3) rfl ckSe_89 (Or.inl rfl) rfl (Nat.le_of_ble_eq_true rfl) rfl (m4 c1) ?_
    refine ev_goto (tgt := 40) (dSe_countGood.at 16 rfl) rfl ?_
    exact ev_iret (dSe_countGood.at 18 rfl) rfl (k2 c1)
set_option maxHeartbeats 4000000 in
theorem bSe_fewestBeds_0 {d : Nat} {w : sx_W} {Q : sx_Q} {w1 : sx_W} {f2 : Int32} {w2 : sx_W}
    (m1 : sx_de d rSe_openAll [.ref 16] w 0 0 w1)
    (m2 : sx_de d rSe_exists [.ref 16, .int (7 : Int32), .int (w1.1 1 4)] w1 f2 0 w2)
    (k1 : (¬ f2 = 0) → sx_ev (d + 1) rSe_fewestBeds 25 [.ref 16, .int (1 : Int32)] [] w2 Q)
    (k2 : (f2 = 0) → Q (-4 : Int32) 0 w2) :
    sx_ev (d + 1) rSe_fewestBeds 0 [.ref 16, .null] [] w Q := by
  refine ev_aload_n (dSe_fewestBeds.at 0 rfl) rfl ?_
  refine ev_cVv (dSe_fewestBeds.at 1 rfl) (As := []) (own := 3) rfl ckSe_73 rfl rfl rfl (Nat.le_of_ble_eq_true rfl) rfl m1 ?_
  refine ev_aload_n (dSe_fewestBeds.at 2 rfl) rfl ?_
  refine ev_bipush (dSe_fewestBeds.at 3 rfl) kB_7 ?_
  refine ev_aload_n (dSe_fewestBeds.at 4 rfl) rfl ?_
  refine ev_getr (dSe_fewestBeds.at 5 rfl) (own := 3) rfl fkSe_50 rfl rfl ?_
  refine ev_get (dSe_fewestBeds.at 6 rfl) (own := 3) rfl fkSe_63 rfl rfl ?_
  refine ev_cVi (dSe_fewestBeds.at 7 rfl) (As := [.int (7 : Int32), .int (w1.1 1 4)]) (own := 3) rfl ckSe_93 rfl (Or.inr rfl) rfl (Nat.le_of_ble_eq_true rfl) rfl m2 ?_
  refine ev_if_ne (tgt := 23) (dSe_fewestBeds.at 8 rfl) rfl (fun c1 => ?_) (fun c1 => ?_)
  · refine ev_iconst (dSe_fewestBeds.at 11 rfl) kI_1 ?_
    refine ev_istore_n (dSe_fewestBeds.at 12 rfl) (by decide) rfl ?_
    exact (k1 c1)
  · refine ev_bipush (dSe_fewestBeds.at 9 rfl) kB_m4 ?_
    exact ev_iret (dSe_fewestBeds.at 10 rfl) rfl (k2 c1)
set_option maxHeartbeats 4000000 in
theorem bSe_fewestBeds_25 {d : Nat} {w : sx_W} {Q : sx_Q} {x1 : Int32} {f1 : Int32} {w1 : sx_W}
    (k1 : ((7 : Int32) ≤ x1) → Q (7 : Int32) 0 w)
    (m1 : (¬ (7 : Int32) ≤ x1) → sx_de d rSe_exists [.ref 16, .int x1, .int (w.1 1 4)] w f1 0 w1)
    (k2 : (¬ (7 : Int32) ≤ x1) → (f1 = 0) → sx_ev (d + 1) rSe_fewestBeds 25 [.ref 16, .int (x1 + (1 : Int32))] [] w1 Q)
    (k3 : (¬ (7 : Int32) ≤ x1) → (¬ f1 = 0) → Q x1 0 w1) :
    sx_ev (d + 1) rSe_fewestBeds 25 [.ref 16, .int x1] [] w Q := by
  refine ev_iload_n (dSe_fewestBeds.at 13 rfl) rfl ?_
  refine ev_bipush (dSe_fewestBeds.at 14 rfl) kB_7 ?_
  refine ev_icmp_ge (tgt := 54) (dSe_fewestBeds.at 15 rfl) rfl (fun c1 => ?_) (fun c1 => ?_)
  · refine ev_bipush (dSe_fewestBeds.at 27 rfl) kB_7 ?_
    exact ev_iret (dSe_fewestBeds.at 28 rfl) rfl (k1 c1)
  · refine ev_aload_n (dSe_fewestBeds.at 16 rfl) rfl ?_
    refine ev_iload_n (dSe_fewestBeds.at 17 rfl) rfl ?_
    refine ev_aload_n (dSe_fewestBeds.at 18 rfl) rfl ?_
    refine ev_getr (dSe_fewestBeds.at 19 rfl) (own := 3) rfl fkSe_50 rfl rfl ?_
    refine ev_get (dSe_fewestBeds.at 20 rfl) (own := 3) rfl fkSe_63 rfl rfl ?_
    refine ev_cVi (dSe_fewestBeds.at 21 rfl) (As := [.int x1, .int (w.1 1 4)]) (own := 3) rfl ckSe_93 rfl (Or.inr rfl) rfl (Nat.le_of_ble_eq_true rfl) rfl (m1 c1) ?_
    refine ev_if_eq (tgt := 48) (dSe_fewestBeds.at 22 rfl) rfl (fun c2 => ?_) (fun c2 => ?_)
    · refine ev_iinc (dSe_fewestBeds.at 25 rfl) kI_1 rfl (by decide) rfl ?_
      refine ev_goto (tgt := 25) (dSe_fewestBeds.at 26 rfl) rfl ?_
      exact (k2 c1 c2)
    · refine ev_iload_n (dSe_fewestBeds.at 23 rfl) rfl ?_
      exact ev_iret (dSe_fewestBeds.at 24 rfl) rfl (k3 c1 c2)
set_option maxHeartbeats 4000000 in
theorem bSe_findFirst_22_0 {d : Nat} {w : sx_W} {Q : sx_Q} {x1 : Int32} {w1 : sx_W} {f2 : Int32} {w2 : sx_W}
    (m1 : sx_de d rSe_openAll [.ref 16] w 0 0 w1)
    (m2 : sx_de d rSe_exists [.ref 16, .int (w1.1 1 5), .int x1] w1 f2 0 w2)
    (k1 : (¬ f2 = 0) → sx_ev (d + 1) rSe_findFirst 23 [.ref 16, .int x1, .ref 22, .int (0 : Int32)] [] w2 Q)
    (k2 : (f2 = 0) → Q (0 : Int32) 0 w2) :
    sx_ev (d + 1) rSe_findFirst 0 [.ref 16, .int x1, .ref 22, .null] [] w Q := by
  refine ev_aload_n (dSe_findFirst.at 0 rfl) rfl ?_
  refine ev_cVv (dSe_findFirst.at 1 rfl) (As := []) (own := 3) rfl ckSe_73 rfl rfl rfl (Nat.le_of_ble_eq_true rfl) rfl m1 ?_
  refine ev_aload_n (dSe_findFirst.at 2 rfl) rfl ?_
  refine ev_aload_n (dSe_findFirst.at 3 rfl) rfl ?_
  refine ev_getr (dSe_findFirst.at 4 rfl) (own := 3) rfl fkSe_50 rfl rfl ?_
  refine ev_get (dSe_findFirst.at 5 rfl) (own := 3) rfl fkSe_76 rfl rfl ?_
  refine ev_iload_n (dSe_findFirst.at 6 rfl) rfl ?_
  refine ev_cVi (dSe_findFirst.at 7 rfl) (As := [.int (w1.1 1 5), .int x1]) (own := 3) rfl ckSe_93 rfl (Or.inr rfl) rfl (Nat.le_of_ble_eq_true rfl) rfl m2 ?_
  refine ev_if_ne (tgt := 21) (dSe_findFirst.at 8 rfl) rfl (fun c1 => ?_) (fun c1 => ?_)
  · refine ev_iconst (dSe_findFirst.at 11 rfl) kI_0 ?_
    refine ev_istore_n (dSe_findFirst.at 12 rfl) (by decide) rfl ?_
    exact (k1 c1)
  · refine ev_iconst (dSe_findFirst.at 9 rfl) kI_0 ?_
    exact ev_zret (dSe_findFirst.at 10 rfl) rfl (by decide) (k2 c1)
set_option maxHeartbeats 4000000 in
theorem bSe_findFirst_22_23 {d : Nat} {w : sx_W} {Q : sx_Q} {x1 : Int32} {x3 : Int32} {f1 : Int32} {w1 : sx_W}
    (o1 : ((w.1 1 4) ≤ x3) → ¬ (w.1 1 4) < 0)
    (o2 : ((w.1 1 4) ≤ x3) → 0 + (w.1 1 4).toNatClampNeg ≤ 7)
    (k1 : ((w.1 1 4) ≤ x3) → Q (1 : Int32) 0 ((sx_cp w.1 21 22 0 0 (w.1 1 4).toNatClampNeg), w.2))
    (m1 : (¬ (w.1 1 4) ≤ x3) → sx_de d rSe_earliest [.ref 16, .int x3, .int x1] w f1 0 w1)
    (o3 : (¬ (w.1 1 4) ≤ x3) → vp_in x3 7)
    (k2 : (¬ (w.1 1 4) ≤ x3) → sx_ev (d + 1) rSe_findFirst 23 [.ref 16, .int x1, .ref 22, .int (x3 + (1 : Int32))] [] ((sx_u w1.1 17 x3.toNatClampNeg ((1 : Int32) <<< (f1 &&& 31))), w1.2) Q) :
    sx_ev (d + 1) rSe_findFirst 23 [.ref 16, .int x1, .ref 22, .int x3] [] w Q := by
  refine ev_iload_n (dSe_findFirst.at 13 rfl) rfl ?_
  refine ev_aload_n (dSe_findFirst.at 14 rfl) rfl ?_
  refine ev_getr (dSe_findFirst.at 15 rfl) (own := 3) rfl fkSe_50 rfl rfl ?_
  refine ev_get (dSe_findFirst.at 16 rfl) (own := 3) rfl fkSe_63 rfl rfl ?_
  refine ev_icmp_ge (tgt := 54) (dSe_findFirst.at 17 rfl) rfl (fun c1 => ?_) (fun c1 => ?_)
  · refine ev_aload_n (dSe_findFirst.at 30 rfl) rfl ?_
    refine ev_getr (dSe_findFirst.at 31 rfl) (own := 3) rfl fkSe_24 rfl rfl ?_
    refine ev_iconst (dSe_findFirst.at 32 rfl) kI_0 ?_
    refine ev_aload_n (dSe_findFirst.at 33 rfl) rfl ?_
    refine ev_iconst (dSe_findFirst.at 34 rfl) kI_0 ?_
    refine ev_aload_n (dSe_findFirst.at 35 rfl) rfl ?_
    refine ev_getr (dSe_findFirst.at 36 rfl) (own := 3) rfl fkSe_50 rfl rfl ?_
    refine ev_get (dSe_findFirst.at 37 rfl) (own := 3) rfl fkSe_63 rfl rfl ?_
    refine ev_copyi (dSe_findFirst.at 38 rfl) (own := 3) rfl (List.mem_of_getElem? (i := 0) rfl) rfl rfl (Nat.le_of_ble_eq_true rfl) (by decide) (by decide) (o1 c1) (o2 c1) (o2 c1) ?_
    refine ev_iconst (dSe_findFirst.at 39 rfl) kI_1 ?_
    exact ev_zret (dSe_findFirst.at 40 rfl) rfl (by decide) (k1 c1)
  · refine ev_aload_n (dSe_findFirst.at 18 rfl) rfl ?_
    refine ev_getr (dSe_findFirst.at 19 rfl) (own := 3) rfl fkSe_9 rfl rfl ?_
    refine ev_iload_n (dSe_findFirst.at 20 rfl) rfl ?_
    refine ev_iconst (dSe_findFirst.at 21 rfl) kI_1 ?_
    refine ev_aload_n (dSe_findFirst.at 22 rfl) rfl ?_
    refine ev_iload_n (dSe_findFirst.at 23 rfl) rfl ?_
    refine ev_iload_n (dSe_findFirst.at 24 rfl) rfl ?_
    refine ev_cVi (dSe_findFirst.at 25 rfl) (As := [.int x3, .int x1]) (own := 3) rfl ckSe_97 rfl (Or.inl rfl) rfl (Nat.le_of_ble_eq_true rfl) rfl (m1 c1) ?_
    refine ev_ishl (dSe_findFirst.at 26 rfl) ?_
    refine ev_iastore (dSe_findFirst.at 27 rfl) rfl (o3 c1) ?_
    refine ev_iinc (dSe_findFirst.at 28 rfl) kI_1 rfl (by decide) rfl ?_
    refine ev_goto (tgt := 23) (dSe_findFirst.at 29 rfl) rfl ?_
    exact (k2 c1)
set_option maxHeartbeats 4000000 in
theorem bSe_findFirst_23_0 {d : Nat} {w : sx_W} {Q : sx_Q} {x1 : Int32} {w1 : sx_W} {f2 : Int32} {w2 : sx_W}
    (m1 : sx_de d rSe_openAll [.ref 16] w 0 0 w1)
    (m2 : sx_de d rSe_exists [.ref 16, .int (w1.1 1 5), .int x1] w1 f2 0 w2)
    (k1 : (¬ f2 = 0) → sx_ev (d + 1) rSe_findFirst 23 [.ref 16, .int x1, .ref 23, .int (0 : Int32)] [] w2 Q)
    (k2 : (f2 = 0) → Q (0 : Int32) 0 w2) :
    sx_ev (d + 1) rSe_findFirst 0 [.ref 16, .int x1, .ref 23, .null] [] w Q := by
  refine ev_aload_n (dSe_findFirst.at 0 rfl) rfl ?_
  refine ev_cVv (dSe_findFirst.at 1 rfl) (As := []) (own := 3) rfl ckSe_73 rfl rfl rfl (Nat.le_of_ble_eq_true rfl) rfl m1 ?_
  refine ev_aload_n (dSe_findFirst.at 2 rfl) rfl ?_
  refine ev_aload_n (dSe_findFirst.at 3 rfl) rfl ?_
  refine ev_getr (dSe_findFirst.at 4 rfl) (own := 3) rfl fkSe_50 rfl rfl ?_
  refine ev_get (dSe_findFirst.at 5 rfl) (own := 3) rfl fkSe_76 rfl rfl ?_
  refine ev_iload_n (dSe_findFirst.at 6 rfl) rfl ?_
  refine ev_cVi (dSe_findFirst.at 7 rfl) (As := [.int (w1.1 1 5), .int x1]) (own := 3) rfl ckSe_93 rfl (Or.inr rfl) rfl (Nat.le_of_ble_eq_true rfl) rfl m2 ?_
  refine ev_if_ne (tgt := 21) (dSe_findFirst.at 8 rfl) rfl (fun c1 => ?_) (fun c1 => ?_)
  · refine ev_iconst (dSe_findFirst.at 11 rfl) kI_0 ?_
    refine ev_istore_n (dSe_findFirst.at 12 rfl) (by decide) rfl ?_
    exact (k1 c1)
  · refine ev_iconst (dSe_findFirst.at 9 rfl) kI_0 ?_
    exact ev_zret (dSe_findFirst.at 10 rfl) rfl (by decide) (k2 c1)
set_option maxHeartbeats 4000000 in
theorem bSe_findFirst_23_23 {d : Nat} {w : sx_W} {Q : sx_Q} {x1 : Int32} {x3 : Int32} {f1 : Int32} {w1 : sx_W}
    (o1 : ((w.1 1 4) ≤ x3) → ¬ (w.1 1 4) < 0)
    (o2 : ((w.1 1 4) ≤ x3) → 0 + (w.1 1 4).toNatClampNeg ≤ 7)
    (k1 : ((w.1 1 4) ≤ x3) → Q (1 : Int32) 0 ((sx_cp w.1 21 23 0 0 (w.1 1 4).toNatClampNeg), w.2))
    (m1 : (¬ (w.1 1 4) ≤ x3) → sx_de d rSe_earliest [.ref 16, .int x3, .int x1] w f1 0 w1)
    (o3 : (¬ (w.1 1 4) ≤ x3) → vp_in x3 7)
    (k2 : (¬ (w.1 1 4) ≤ x3) → sx_ev (d + 1) rSe_findFirst 23 [.ref 16, .int x1, .ref 23, .int (x3 + (1 : Int32))] [] ((sx_u w1.1 17 x3.toNatClampNeg ((1 : Int32) <<< (f1 &&& 31))), w1.2) Q) :
    sx_ev (d + 1) rSe_findFirst 23 [.ref 16, .int x1, .ref 23, .int x3] [] w Q := by
  refine ev_iload_n (dSe_findFirst.at 13 rfl) rfl ?_
  refine ev_aload_n (dSe_findFirst.at 14 rfl) rfl ?_
  refine ev_getr (dSe_findFirst.at 15 rfl) (own := 3) rfl fkSe_50 rfl rfl ?_
  refine ev_get (dSe_findFirst.at 16 rfl) (own := 3) rfl fkSe_63 rfl rfl ?_
  refine ev_icmp_ge (tgt := 54) (dSe_findFirst.at 17 rfl) rfl (fun c1 => ?_) (fun c1 => ?_)
  · refine ev_aload_n (dSe_findFirst.at 30 rfl) rfl ?_
    refine ev_getr (dSe_findFirst.at 31 rfl) (own := 3) rfl fkSe_24 rfl rfl ?_
    refine ev_iconst (dSe_findFirst.at 32 rfl) kI_0 ?_
    refine ev_aload_n (dSe_findFirst.at 33 rfl) rfl ?_
    refine ev_iconst (dSe_findFirst.at 34 rfl) kI_0 ?_
    refine ev_aload_n (dSe_findFirst.at 35 rfl) rfl ?_
    refine ev_getr (dSe_findFirst.at 36 rfl) (own := 3) rfl fkSe_50 rfl rfl ?_
    refine ev_get (dSe_findFirst.at 37 rfl) (own := 3) rfl fkSe_63 rfl rfl ?_
    refine ev_copyi (dSe_findFirst.at 38 rfl) (own := 3) rfl (List.mem_of_getElem? (i := 0) rfl) rfl rfl (Nat.le_of_ble_eq_true rfl) (by decide) (by decide) (o1 c1) (o2 c1) (o2 c1) ?_
    refine ev_iconst (dSe_findFirst.at 39 rfl) kI_1 ?_
    exact ev_zret (dSe_findFirst.at 40 rfl) rfl (by decide) (k1 c1)
  · refine ev_aload_n (dSe_findFirst.at 18 rfl) rfl ?_
    refine ev_getr (dSe_findFirst.at 19 rfl) (own := 3) rfl fkSe_9 rfl rfl ?_
    refine ev_iload_n (dSe_findFirst.at 20 rfl) rfl ?_
    refine ev_iconst (dSe_findFirst.at 21 rfl) kI_1 ?_
    refine ev_aload_n (dSe_findFirst.at 22 rfl) rfl ?_
    refine ev_iload_n (dSe_findFirst.at 23 rfl) rfl ?_
    refine ev_iload_n (dSe_findFirst.at 24 rfl) rfl ?_
    refine ev_cVi (dSe_findFirst.at 25 rfl) (As := [.int x3, .int x1]) (own := 3) rfl ckSe_97 rfl (Or.inl rfl) rfl (Nat.le_of_ble_eq_true rfl) rfl (m1 c1) ?_
    refine ev_ishl (dSe_findFirst.at 26 rfl) ?_
    refine ev_iastore (dSe_findFirst.at 27 rfl) rfl (o3 c1) ?_
    refine ev_iinc (dSe_findFirst.at 28 rfl) kI_1 rfl (by decide) rfl ?_
    refine ev_goto (tgt := 23) (dSe_findFirst.at 29 rfl) rfl ?_
    exact (k2 c1)
set_option maxHeartbeats 4000000 in
theorem bSe_earliest_0 {d : Nat} {w : sx_W} {Q : sx_Q} {x1 : Int32} {x2 : Int32}
    (o1 : vp_in x1 7)
    (k1 : sx_ev d rSe_earliest 18 [.ref 16, .int x1, .int x2, .int (w.1 17 x1.toNatClampNeg), .int (w.1 21 x1.toNatClampNeg), .int (0 : Int32)] [] w Q) :
    sx_ev d rSe_earliest 0 [.ref 16, .int x1, .int x2, .null, .null, .null] [] w Q := by
  refine ev_aload_n (dSe_earliest.at 0 rfl) rfl ?_
  refine ev_getr (dSe_earliest.at 1 rfl) (own := 3) rfl fkSe_9 rfl rfl ?_
  refine ev_iload_n (dSe_earliest.at 2 rfl) rfl ?_
  refine ev_iaload (dSe_earliest.at 3 rfl) rfl o1 ?_
  refine ev_istore_n (dSe_earliest.at 4 rfl) (by decide) rfl ?_
  refine ev_aload_n (dSe_earliest.at 5 rfl) rfl ?_
  refine ev_getr (dSe_earliest.at 6 rfl) (own := 3) rfl fkSe_24 rfl rfl ?_
  refine ev_iload_n (dSe_earliest.at 7 rfl) rfl ?_
  refine ev_iaload (dSe_earliest.at 8 rfl) rfl o1 ?_
  refine ev_istore (dSe_earliest.at 9 rfl) (by decide) rfl ?_
  refine ev_iconst (dSe_earliest.at 10 rfl) kI_0 ?_
  refine ev_istore (dSe_earliest.at 11 rfl) (by decide) rfl ?_
  exact k1
set_option maxHeartbeats 4000000 in
theorem bSe_earliest_18 {d : Nat} {w : sx_W} {Q : sx_Q} {x1 : Int32} {x2 : Int32} {x3 : Int32} {x4 : Int32} {x5 : Int32} {f1 : Int32} {w2 : sx_W} {f3 : Int32} {w3 : sx_W}
    (k1 : (x4 ≤ x5) → Q x4 0 w)
    (m1 : (¬ x4 ≤ x5) → sx_de d rSb_holds [.int x3, .int x5] w f1 0 w)
    (k2 : (¬ x4 ≤ x5) → (f1 = 0) → sx_ev (d + 1) rSe_earliest 18 [.ref 16, .int x1, .int x2, .int x3, .int x4, .int (x5 + (1 : Int32))] [] w Q)
    (o1 : (¬ x4 ≤ x5) → (¬ f1 = 0) → vp_in x1 7)
    (m2 : (¬ x4 ≤ x5) → (¬ f1 = 0) → sx_de d rSe_sortLodgers [.ref 16] ((sx_u w.1 17 x1.toNatClampNeg ((1 : Int32) <<< (x5 &&& 31))), w.2) 0 0 w2)
    (m3 : (¬ x4 ≤ x5) → (¬ f1 = 0) → sx_de d rSe_exists [.ref 16, .int (w2.1 1 5), .int x2] w2 f3 0 w3)
    (k3 : (¬ x4 ≤ x5) → (¬ f1 = 0) → (f3 = 0) → sx_ev (d + 1) rSe_earliest 18 [.ref 16, .int x1, .int x2, .int x3, .int x4, .int (x5 + (1 : Int32))] [] w3 Q)
    (k4 : (¬ x4 ≤ x5) → (¬ f1 = 0) → (¬ f3 = 0) → Q x5 0 w3) :
    sx_ev (d + 1) rSe_earliest 18 [.ref 16, .int x1, .int x2, .int x3, .int x4, .int x5] [] w Q := by
  refine ev_iload (dSe_earliest.at 12 rfl) rfl ?_
  refine ev_iload (dSe_earliest.at 13 rfl) rfl ?_
  refine ev_icmp_ge (tgt := 72) (dSe_earliest.at 14 rfl) rfl (fun c1 => ?_) (fun c1 => ?_)
  · refine ev_iload (dSe_earliest.at 39 rfl) rfl ?_
    exact ev_iret (dSe_earliest.at 40 rfl) rfl (k1 c1)
  · refine ev_iload_n (dSe_earliest.at 15 rfl) rfl ?_
    refine ev_iload (dSe_earliest.at 16 rfl) rfl ?_
    refine ev_cNi (dSe_earliest.at 17 rfl) (As := [.int x3, .int x5]) (own := 3) rfl ckSe_107 (Or.inr rfl) rfl (Nat.le_of_ble_eq_true rfl) rfl (m1 c1) ?_
    refine ev_if_eq (tgt := 66) (dSe_earliest.at 18 rfl) rfl (fun c2 => ?_) (fun c2 => ?_)
    · refine ev_iinc (dSe_earliest.at 37 rfl) kI_1 rfl (by decide) rfl ?_
      refine ev_goto (tgt := 18) (dSe_earliest.at 38 rfl) rfl ?_
      exact (k2 c1 c2)
    · refine ev_aload_n (dSe_earliest.at 19 rfl) rfl ?_
      refine ev_getr (dSe_earliest.at 20 rfl) (own := 3) rfl fkSe_9 rfl rfl ?_
      refine ev_iload_n (dSe_earliest.at 21 rfl) rfl ?_
      refine ev_iconst (dSe_earliest.at 22 rfl) kI_1 ?_
      refine ev_iload (dSe_earliest.at 23 rfl) rfl ?_
      refine ev_ishl (dSe_earliest.at 24 rfl) ?_
      refine ev_iastore (dSe_earliest.at 25 rfl) rfl (o1 c1 c2) ?_
      refine ev_aload_n (dSe_earliest.at 26 rfl) rfl ?_
      refine ev_cVv (dSe_earliest.at 27 rfl) (As := []) (own := 3) rfl ckSe_110 rfl rfl rfl (Nat.le_of_ble_eq_true rfl) rfl (m2 c1 c2) ?_
      refine ev_aload_n (dSe_earliest.at 28 rfl) rfl ?_
      refine ev_aload_n (dSe_earliest.at 29 rfl) rfl ?_
      refine ev_getr (dSe_earliest.at 30 rfl) (own := 3) rfl fkSe_50 rfl rfl ?_
      refine ev_get (dSe_earliest.at 31 rfl) (own := 3) rfl fkSe_76 rfl rfl ?_
      refine ev_iload_n (dSe_earliest.at 32 rfl) rfl ?_
      refine ev_cVi (dSe_earliest.at 33 rfl) (As := [.int (w2.1 1 5), .int x2]) (own := 3) rfl ckSe_93 rfl (Or.inr rfl) rfl (Nat.le_of_ble_eq_true rfl) rfl (m3 c1 c2) ?_
      refine ev_if_eq (tgt := 66) (dSe_earliest.at 34 rfl) rfl (fun c3 => ?_) (fun c3 => ?_)
      · refine ev_iinc (dSe_earliest.at 37 rfl) kI_1 rfl (by decide) rfl ?_
        refine ev_goto (tgt := 18) (dSe_earliest.at 38 rfl) rfl ?_
        exact (k3 c1 c2 c3)
      · refine ev_iload (dSe_earliest.at 35 rfl) rfl ?_
        exact ev_iret (dSe_earliest.at 36 rfl) rfl (k4 c1 c2 c3)
set_option maxHeartbeats 4000000 in
theorem bSe_exists_0 {d : Nat} {w : sx_W} {Q : sx_Q} {x1 : Int32} {x2 : Int32} {f1 : Int32} {f2 : Int64} {f3 : Int32} {w3 : sx_W}
    (m1 : sx_de d rSe_hasRoomForAll [.ref 16, .int x1] w f1 0 w)
    (k1 : (f1 = 0) → Q (0 : Int32) 0 w)
    (m2 : (¬ f1 = 0) → sx_de d rSt_nobodyIn [.int x1] w 0 f2 w)
    (m3 : (¬ f1 = 0) → sx_de d rSe_fillFrom [.ref 16, .int (0 : Int32), .long f2, .int x2] w f3 0 w3)
    (k2 : (¬ f1 = 0) → (f3 = 0) → Q (0 : Int32) 0 w3)
    (k3 : (¬ f1 = 0) → (¬ f3 = 0) → Q (1 : Int32) 0 w3) :
    sx_ev (d + 1) rSe_exists 0 [.ref 16, .int x1, .int x2] [] w Q := by
  refine ev_aload_n (dSe_exists.at 0 rfl) rfl ?_
  refine ev_iload_n (dSe_exists.at 1 rfl) rfl ?_
  refine ev_cVi (dSe_exists.at 2 rfl) (As := [.int x1]) (own := 3) rfl ckSe_79 rfl (Or.inr rfl) rfl (Nat.le_of_ble_eq_true rfl) rfl m1 ?_
  refine ev_if_eq (tgt := 25) (dSe_exists.at 3 rfl) rfl (fun c1 => ?_) (fun c1 => ?_)
  · refine ev_iconst (dSe_exists.at 13 rfl) kI_0 ?_
    exact ev_zret (dSe_exists.at 14 rfl) rfl (by decide) (k1 c1)
  · refine ev_aload_n (dSe_exists.at 4 rfl) rfl ?_
    refine ev_iconst (dSe_exists.at 5 rfl) kI_0 ?_
    refine ev_iload_n (dSe_exists.at 6 rfl) rfl ?_
    refine ev_cSl (dSe_exists.at 7 rfl) (As := [.int x1]) (own := 3) rfl ckSe_83 rfl rfl (Nat.le_of_ble_eq_true rfl) rfl (m2 c1) ?_
    refine ev_iload_n (dSe_exists.at 8 rfl) rfl ?_
    refine ev_cSi (dSe_exists.at 9 rfl) (As := [.ref 16, .int (0 : Int32), .long f2, .int x2]) (own := 3) rfl ckSe_113 (Or.inr rfl) rfl (Nat.le_of_ble_eq_true rfl) rfl (m3 c1) ?_
    refine ev_if_eq (tgt := 25) (dSe_exists.at 10 rfl) rfl (fun c2 => ?_) (fun c2 => ?_)
    · refine ev_iconst (dSe_exists.at 13 rfl) kI_0 ?_
      exact ev_zret (dSe_exists.at 14 rfl) rfl (by decide) (k2 c1 c2)
    · refine ev_iconst (dSe_exists.at 11 rfl) kI_1 ?_
      refine ev_goto (tgt := 26) (dSe_exists.at 12 rfl) rfl ?_
      exact ev_zret (dSe_exists.at 14 rfl) rfl (by decide) (k3 c1 c2)
set_option maxHeartbeats 4000000 in
theorem bSe_hasRoomForAll_0 {d : Nat} {w : sx_W} {Q : sx_Q} {x1 : Int32} {f1 : Int32}
    (m1 : sx_de d rHo_needOfAll [.ref 1] w f1 0 w)
    (k1 : ((x1 * (8 : Int32)) < f1) → Q (0 : Int32) 0 w)
    (k2 : (¬ (x1 * (8 : Int32)) < f1) → Q (1 : Int32) 0 w) :
    sx_ev (d + 1) rSe_hasRoomForAll 0 [.ref 16, .int x1] [] w Q := by
  refine ev_aload_n (dSe_hasRoomForAll.at 0 rfl) rfl ?_
  refine ev_getr (dSe_hasRoomForAll.at 1 rfl) (own := 3) rfl fkSe_50 rfl rfl ?_
  refine ev_cVi (dSe_hasRoomForAll.at 2 rfl) (As := []) (own := 3) rfl ckSe_117 rfl (Or.inl rfl) rfl (Nat.le_of_ble_eq_true rfl) rfl m1 ?_
  refine ev_iload_n (dSe_hasRoomForAll.at 3 rfl) rfl ?_
  refine ev_bipush (dSe_hasRoomForAll.at 4 rfl) kB_8 ?_
  refine ev_imul (dSe_hasRoomForAll.at 5 rfl) ?_
  refine ev_icmp_gt (tgt := 18) (dSe_hasRoomForAll.at 6 rfl) rfl (fun c1 => ?_) (fun c1 => ?_)
  · refine ev_iconst (dSe_hasRoomForAll.at 9 rfl) kI_0 ?_
    exact ev_zret (dSe_hasRoomForAll.at 10 rfl) rfl (by decide) (k1 c1)
  · refine ev_iconst (dSe_hasRoomForAll.at 7 rfl) kI_1 ?_
    refine ev_goto (tgt := 19) (dSe_hasRoomForAll.at 8 rfl) rfl ?_
    exact ev_zret (dSe_hasRoomForAll.at 10 rfl) rfl (by decide) (k2 c1)
set_option maxHeartbeats 4000000 in
theorem bSe_openAll_0 {d : Nat} {w : sx_W} {Q : sx_Q}
    (k1 : sx_ev d rSe_openAll 2 [.ref 16, .int (0 : Int32)] [] w Q) :
    sx_ev d rSe_openAll 0 [.ref 16, .null] [] w Q := by
  refine ev_iconst (dSe_openAll.at 0 rfl) kI_0 ?_
  refine ev_istore_n (dSe_openAll.at 1 rfl) (by decide) rfl ?_
  exact k1
set_option maxHeartbeats 4000000 in
theorem bSe_openAll_2 {d : Nat} {w : sx_W} {Q : sx_Q} {x1 : Int32} {w1 : sx_W}
    (m1 : ((w.1 1 4) ≤ x1) → sx_de d rSe_sortLodgers [.ref 16] w 0 0 w1)
    (k1 : ((w.1 1 4) ≤ x1) → Q 0 0 w1)
    (o1 : (¬ (w.1 1 4) ≤ x1) → vp_in x1 7)
    (k2 : (¬ (w.1 1 4) ≤ x1) → sx_ev (d + 1) rSe_openAll 2 [.ref 16, .int (x1 + (1 : Int32))] [] ((sx_u w.1 17 x1.toNatClampNeg (w.1 12 x1.toNatClampNeg)), w.2) Q) :
    sx_ev (d + 1) rSe_openAll 2 [.ref 16, .int x1] [] w Q := by
  refine ev_iload_n (dSe_openAll.at 2 rfl) rfl ?_
  refine ev_aload_n (dSe_openAll.at 3 rfl) rfl ?_
  refine ev_getr (dSe_openAll.at 4 rfl) (own := 3) rfl fkSe_50 rfl rfl ?_
  refine ev_get (dSe_openAll.at 5 rfl) (own := 3) rfl fkSe_63 rfl rfl ?_
  refine ev_icmp_ge (tgt := 34) (dSe_openAll.at 6 rfl) rfl (fun c1 => ?_) (fun c1 => ?_)
  · refine ev_aload_n (dSe_openAll.at 18 rfl) rfl ?_
    refine ev_cVv (dSe_openAll.at 19 rfl) (As := []) (own := 3) rfl ckSe_110 rfl rfl rfl (Nat.le_of_ble_eq_true rfl) rfl (m1 c1) ?_
    exact ev_vret (dSe_openAll.at 20 rfl) rfl (k1 c1)
  · refine ev_aload_n (dSe_openAll.at 7 rfl) rfl ?_
    refine ev_getr (dSe_openAll.at 8 rfl) (own := 3) rfl fkSe_9 rfl rfl ?_
    refine ev_iload_n (dSe_openAll.at 9 rfl) rfl ?_
    refine ev_aload_n (dSe_openAll.at 10 rfl) rfl ?_
    refine ev_getr (dSe_openAll.at 11 rfl) (own := 3) rfl fkSe_54 rfl rfl ?_
    refine ev_getr (dSe_openAll.at 12 rfl) (own := 3) rfl fkSe_121 rfl rfl ?_
    refine ev_iload_n (dSe_openAll.at 13 rfl) rfl ?_
    refine ev_iaload (dSe_openAll.at 14 rfl) rfl (o1 c1) ?_
    refine ev_iastore (dSe_openAll.at 15 rfl) rfl (o1 c1) ?_
    refine ev_iinc (dSe_openAll.at 16 rfl) kI_1 rfl (by decide) rfl ?_
    refine ev_goto (tgt := 2) (dSe_openAll.at 17 rfl) rfl ?_
    exact (k2 c1)
set_option maxHeartbeats 4000000 in
theorem bSe_sortLodgers_0 {d : Nat} {w : sx_W} {Q : sx_Q}
    (k1 : sx_ev d rSe_sortLodgers 2 [.ref 16, .int (0 : Int32), .null] [] w Q) :
    sx_ev d rSe_sortLodgers 0 [.ref 16, .null, .null] [] w Q := by
  refine ev_iconst (dSe_sortLodgers.at 0 rfl) kI_0 ?_
  refine ev_istore_n (dSe_sortLodgers.at 1 rfl) (by decide) rfl ?_
  exact k1
set_option maxHeartbeats 4000000 in
theorem bSe_sortLodgers_2 {d : Nat} {w : sx_W} {Q : sx_Q} {x1 : Int32} {f1 : Int32}
    (o1 : ((w.1 1 4) ≤ x1) → vp_in (w.1 1 4) 8)
    (k1 : ((w.1 1 4) ≤ x1) → sx_ev (d + 1) rSe_sortLodgers 108 [.ref 16, .int ((w.1 1 4) - (1 : Int32)), .null] [] ((sx_u w.1 20 (w.1 1 4).toNatClampNeg (0 : Int32)), w.2) Q)
    (m1 : (¬ (w.1 1 4) ≤ x1) → sx_de d rSe_hasteOf [.ref 16, .int x1] w f1 0 w)
    (o2 : (¬ (w.1 1 4) ≤ x1) → vp_in x1 7)
    (k2 : (¬ (w.1 1 4) ≤ x1) → sx_ev (d + 1) rSe_sortLodgers 26 [.ref 16, .int x1, .int x1] [] ((sx_u w.1 19 x1.toNatClampNeg f1), w.2) Q) :
    sx_ev (d + 1) rSe_sortLodgers 2 [.ref 16, .int x1, .null] [] w Q := by
  refine ev_iload_n (dSe_sortLodgers.at 2 rfl) rfl ?_
  refine ev_aload_n (dSe_sortLodgers.at 3 rfl) rfl ?_
  refine ev_getr (dSe_sortLodgers.at 4 rfl) (own := 3) rfl fkSe_50 rfl rfl ?_
  refine ev_get (dSe_sortLodgers.at 5 rfl) (own := 3) rfl fkSe_63 rfl rfl ?_
  refine ev_icmp_ge (tgt := 85) (dSe_sortLodgers.at 6 rfl) rfl (fun c1 => ?_) (fun c1 => ?_)
  · refine ev_aload_n (dSe_sortLodgers.at 51 rfl) rfl ?_
    refine ev_getr (dSe_sortLodgers.at 52 rfl) (own := 3) rfl fkSe_21 rfl rfl ?_
    refine ev_aload_n (dSe_sortLodgers.at 53 rfl) rfl ?_
    refine ev_getr (dSe_sortLodgers.at 54 rfl) (own := 3) rfl fkSe_50 rfl rfl ?_
    refine ev_get (dSe_sortLodgers.at 55 rfl) (own := 3) rfl fkSe_63 rfl rfl ?_
    refine ev_iconst (dSe_sortLodgers.at 56 rfl) kI_0 ?_
    refine ev_iastore (dSe_sortLodgers.at 57 rfl) rfl (o1 c1) ?_
    refine ev_aload_n (dSe_sortLodgers.at 58 rfl) rfl ?_
    refine ev_getr (dSe_sortLodgers.at 59 rfl) (own := 3) rfl fkSe_50 rfl rfl ?_
    refine ev_get (dSe_sortLodgers.at 60 rfl) (own := 3) rfl fkSe_63 rfl rfl ?_
    refine ev_iconst (dSe_sortLodgers.at 61 rfl) kI_1 ?_
    refine ev_isub (dSe_sortLodgers.at 62 rfl) ?_
    refine ev_istore_n (dSe_sortLodgers.at 63 rfl) (by decide) rfl ?_
    exact (k1 c1)
  · refine ev_aload_n (dSe_sortLodgers.at 7 rfl) rfl ?_
    refine ev_getr (dSe_sortLodgers.at 8 rfl) (own := 3) rfl fkSe_18 rfl rfl ?_
    refine ev_iload_n (dSe_sortLodgers.at 9 rfl) rfl ?_
    refine ev_aload_n (dSe_sortLodgers.at 10 rfl) rfl ?_
    refine ev_iload_n (dSe_sortLodgers.at 11 rfl) rfl ?_
    refine ev_cVi (dSe_sortLodgers.at 12 rfl) (As := [.int x1]) (own := 3) rfl ckSe_124 rfl (Or.inl rfl) rfl (Nat.le_of_ble_eq_true rfl) rfl (m1 c1) ?_
    refine ev_iastore (dSe_sortLodgers.at 13 rfl) rfl (o2 c1) ?_
    refine ev_iload_n (dSe_sortLodgers.at 14 rfl) rfl ?_
    refine ev_istore_n (dSe_sortLodgers.at 15 rfl) (by decide) rfl ?_
    exact (k2 c1)
set_option maxHeartbeats 4000000 in
theorem bSe_sortLodgers_108 {d : Nat} {w : sx_W} {Q : sx_Q} {x1 : Int32} {f1 : Int32}
    (k1 : (x1 < 0) → Q 0 0 w)
    (o1 : (¬ x1 < 0) → vp_in x1 7)
    (o2 : (¬ x1 < 0) → vp_in (x1 + (1 : Int32)) 8)
    (o3 : (¬ x1 < 0) → vp_in (w.1 18 x1.toNatClampNeg) 7)
    (m1 : (¬ x1 < 0) → sx_de d rSb_holds [.int (w.1 17 (w.1 18 x1.toNatClampNeg).toNatClampNeg), .int (w.1 5 (w.1 18 x1.toNatClampNeg).toNatClampNeg)] w f1 0 w)
    (o4 : (¬ x1 < 0) → (f1 = 0) → vp_in x1 8)
    (k2 : (¬ x1 < 0) → (f1 = 0) → sx_ev (d + 1) rSe_sortLodgers 108 [.ref 16, .int (x1 + (-1 : Int32)), .null] [] ((sx_u w.1 20 x1.toNatClampNeg ((w.1 20 (x1 + (1 : Int32)).toNatClampNeg) + (1 : Int32))), w.2) Q)
    (o5 : (¬ x1 < 0) → (¬ f1 = 0) → vp_in x1 8)
    (k3 : (¬ x1 < 0) → (¬ f1 = 0) → sx_ev (d + 1) rSe_sortLodgers 108 [.ref 16, .int (x1 + (-1 : Int32)), .null] [] ((sx_u w.1 20 x1.toNatClampNeg ((w.1 20 (x1 + (1 : Int32)).toNatClampNeg) + (0 : Int32))), w.2) Q) :
    sx_ev (d + 1) rSe_sortLodgers 108 [.ref 16, .int x1, .null] [] w Q := by
  refine ev_iload_n (dSe_sortLodgers.at 64 rfl) rfl ?_
  refine ev_if_lt (tgt := 166) (dSe_sortLodgers.at 65 rfl) rfl (fun c1 => ?_) (fun c1 => ?_)
  · exact ev_vret (dSe_sortLodgers.at 98 rfl) rfl (k1 c1)
  · refine ev_aload_n (dSe_sortLodgers.at 66 rfl) rfl ?_
    refine ev_getr (dSe_sortLodgers.at 67 rfl) (own := 3) rfl fkSe_15 rfl rfl ?_
    refine ev_iload_n (dSe_sortLodgers.at 68 rfl) rfl ?_
    refine ev_iaload (dSe_sortLodgers.at 69 rfl) rfl (o1 c1) ?_
    refine ev_istore_n (dSe_sortLodgers.at 70 rfl) (by decide) rfl ?_
    refine ev_aload_n (dSe_sortLodgers.at 71 rfl) rfl ?_
    refine ev_getr (dSe_sortLodgers.at 72 rfl) (own := 3) rfl fkSe_21 rfl rfl ?_
    refine ev_iload_n (dSe_sortLodgers.at 73 rfl) rfl ?_
    refine ev_aload_n (dSe_sortLodgers.at 74 rfl) rfl ?_
    refine ev_getr (dSe_sortLodgers.at 75 rfl) (own := 3) rfl fkSe_21 rfl rfl ?_
    refine ev_iload_n (dSe_sortLodgers.at 76 rfl) rfl ?_
    refine ev_iconst (dSe_sortLodgers.at 77 rfl) kI_1 ?_
    refine ev_iadd (dSe_sortLodgers.at 78 rfl) ?_
    refine ev_iaload (dSe_sortLodgers.at 79 rfl) rfl (o2 c1) ?_
    refine ev_aload_n (dSe_sortLodgers.at 80 rfl) rfl ?_
    refine ev_getr (dSe_sortLodgers.at 81 rfl) (own := 3) rfl fkSe_9 rfl rfl ?_
    refine ev_iload_n (dSe_sortLodgers.at 82 rfl) rfl ?_
    refine ev_iaload (dSe_sortLodgers.at 83 rfl) rfl (o3 c1) ?_
    refine ev_aload_n (dSe_sortLodgers.at 84 rfl) rfl ?_
    refine ev_getr (dSe_sortLodgers.at 85 rfl) (own := 3) rfl fkSe_50 rfl rfl ?_
    refine ev_getr (dSe_sortLodgers.at 86 rfl) (own := 3) rfl fkSe_128 rfl rfl ?_
    refine ev_iload_n (dSe_sortLodgers.at 87 rfl) rfl ?_
    refine ev_iaload (dSe_sortLodgers.at 88 rfl) rfl (o3 c1) ?_
    refine ev_cNi (dSe_sortLodgers.at 89 rfl) (As := [.int (w.1 17 (w.1 18 x1.toNatClampNeg).toNatClampNeg), .int (w.1 5 (w.1 18 x1.toNatClampNeg).toNatClampNeg)]) (own := 3) rfl ckSe_107 (Or.inr rfl) rfl (Nat.le_of_ble_eq_true rfl) rfl (m1 c1) ?_
    refine ev_if_eq (tgt := 157) (dSe_sortLodgers.at 90 rfl) rfl (fun c2 => ?_) (fun c2 => ?_)
    · refine ev_iconst (dSe_sortLodgers.at 93 rfl) kI_1 ?_
      refine ev_iadd (dSe_sortLodgers.at 94 rfl) ?_
      refine ev_iastore (dSe_sortLodgers.at 95 rfl) rfl (o4 c1 c2) ?_
      refine ev_iinc (dSe_sortLodgers.at 96 rfl) kI_m1 rfl (by decide) rfl ?_
      refine ev_goto (tgt := 108) (dSe_sortLodgers.at 97 rfl) rfl ?_
      refine ev_kp [true, true, false] rfl ?_
      exact (k2 c1 c2)
    · refine ev_iconst (dSe_sortLodgers.at 91 rfl) kI_0 ?_
      refine ev_goto (tgt := 158) (dSe_sortLodgers.at 92 rfl) rfl ?_
      refine ev_iadd (dSe_sortLodgers.at 94 rfl) ?_
      refine ev_iastore (dSe_sortLodgers.at 95 rfl) rfl (o5 c1 c2) ?_
      refine ev_iinc (dSe_sortLodgers.at 96 rfl) kI_m1 rfl (by decide) rfl ?_
      refine ev_goto (tgt := 108) (dSe_sortLodgers.at 97 rfl) rfl ?_
      refine ev_kp [true, true, false] rfl ?_
      exact (k3 c1 c2)
set_option maxHeartbeats 4000000 in
theorem bSe_sortLodgers_26 {d : Nat} {w : sx_W} {Q : sx_Q} {x1 : Int32} {x2 : Int32}
    (o1 : (x2 ≤ 0) → vp_in x2 7)
    (k1 : (x2 ≤ 0) → sx_ev d rSe_sortLodgers 2 [.ref 16, .int (x1 + (1 : Int32)), .null] [] ((sx_u w.1 18 x2.toNatClampNeg x1), w.2) Q)
    (o2 : (¬ x2 ≤ 0) → vp_in (x2 - (1 : Int32)) 7)
    (o3 : (¬ x2 ≤ 0) → vp_in (w.1 18 (x2 - (1 : Int32)).toNatClampNeg) 7)
    (o4 : (¬ x2 ≤ 0) → vp_in x1 7)
    (o5 : (¬ x2 ≤ 0) → ((w.1 19 (w.1 18 (x2 - (1 : Int32)).toNatClampNeg).toNatClampNeg) ≤ (w.1 19 x1.toNatClampNeg)) → vp_in x2 7)
    (k2 : (¬ x2 ≤ 0) → ((w.1 19 (w.1 18 (x2 - (1 : Int32)).toNatClampNeg).toNatClampNeg) ≤ (w.1 19 x1.toNatClampNeg)) → sx_ev d rSe_sortLodgers 2 [.ref 16, .int (x1 + (1 : Int32)), .null] [] ((sx_u w.1 18 x2.toNatClampNeg x1), w.2) Q)
    (o6 : (¬ x2 ≤ 0) → (¬ (w.1 19 (w.1 18 (x2 - (1 : Int32)).toNatClampNeg).toNatClampNeg) ≤ (w.1 19 x1.toNatClampNeg)) → vp_in x2 7)
    (k3 : (¬ x2 ≤ 0) → (¬ (w.1 19 (w.1 18 (x2 - (1 : Int32)).toNatClampNeg).toNatClampNeg) ≤ (w.1 19 x1.toNatClampNeg)) → sx_ev d rSe_sortLodgers 26 [.ref 16, .int x1, .int (x2 + (-1 : Int32))] [] ((sx_u w.1 18 x2.toNatClampNeg (w.1 18 (x2 - (1 : Int32)).toNatClampNeg)), w.2) Q) :
    sx_ev d rSe_sortLodgers 26 [.ref 16, .int x1, .int x2] [] w Q := by
  refine ev_iload_n (dSe_sortLodgers.at 16 rfl) rfl ?_
  refine ev_if_le (tgt := 72) (dSe_sortLodgers.at 17 rfl) rfl (fun c1 => ?_) (fun c1 => ?_)
  · refine ev_aload_n (dSe_sortLodgers.at 44 rfl) rfl ?_
    refine ev_getr (dSe_sortLodgers.at 45 rfl) (own := 3) rfl fkSe_15 rfl rfl ?_
    refine ev_iload_n (dSe_sortLodgers.at 46 rfl) rfl ?_
    refine ev_iload_n (dSe_sortLodgers.at 47 rfl) rfl ?_
    refine ev_iastore (dSe_sortLodgers.at 48 rfl) rfl (o1 c1) ?_
    refine ev_iinc (dSe_sortLodgers.at 49 rfl) kI_1 rfl (by decide) rfl ?_
    refine ev_goto (tgt := 2) (dSe_sortLodgers.at 50 rfl) rfl ?_
    refine ev_kp [true, true, false] rfl ?_
    exact (k1 c1)
  · refine ev_aload_n (dSe_sortLodgers.at 18 rfl) rfl ?_
    refine ev_getr (dSe_sortLodgers.at 19 rfl) (own := 3) rfl fkSe_18 rfl rfl ?_
    refine ev_aload_n (dSe_sortLodgers.at 20 rfl) rfl ?_
    refine ev_getr (dSe_sortLodgers.at 21 rfl) (own := 3) rfl fkSe_15 rfl rfl ?_
    refine ev_iload_n (dSe_sortLodgers.at 22 rfl) rfl ?_
    refine ev_iconst (dSe_sortLodgers.at 23 rfl) kI_1 ?_
    refine ev_isub (dSe_sortLodgers.at 24 rfl) ?_
    refine ev_iaload (dSe_sortLodgers.at 25 rfl) rfl (o2 c1) ?_
    refine ev_iaload (dSe_sortLodgers.at 26 rfl) rfl (o3 c1) ?_
    refine ev_aload_n (dSe_sortLodgers.at 27 rfl) rfl ?_
    refine ev_getr (dSe_sortLodgers.at 28 rfl) (own := 3) rfl fkSe_18 rfl rfl ?_
    refine ev_iload_n (dSe_sortLodgers.at 29 rfl) rfl ?_
    refine ev_iaload (dSe_sortLodgers.at 30 rfl) rfl (o4 c1) ?_
    refine ev_icmp_le (tgt := 72) (dSe_sortLodgers.at 31 rfl) rfl (fun c2 => ?_) (fun c2 => ?_)
    · refine ev_aload_n (dSe_sortLodgers.at 44 rfl) rfl ?_
      refine ev_getr (dSe_sortLodgers.at 45 rfl) (own := 3) rfl fkSe_15 rfl rfl ?_
      refine ev_iload_n (dSe_sortLodgers.at 46 rfl) rfl ?_
      refine ev_iload_n (dSe_sortLodgers.at 47 rfl) rfl ?_
      refine ev_iastore (dSe_sortLodgers.at 48 rfl) rfl (o5 c1 c2) ?_
      refine ev_iinc (dSe_sortLodgers.at 49 rfl) kI_1 rfl (by decide) rfl ?_
      refine ev_goto (tgt := 2) (dSe_sortLodgers.at 50 rfl) rfl ?_
      refine ev_kp [true, true, false] rfl ?_
      exact (k2 c1 c2)
    · refine ev_aload_n (dSe_sortLodgers.at 32 rfl) rfl ?_
      refine ev_getr (dSe_sortLodgers.at 33 rfl) (own := 3) rfl fkSe_15 rfl rfl ?_
      refine ev_iload_n (dSe_sortLodgers.at 34 rfl) rfl ?_
      refine ev_aload_n (dSe_sortLodgers.at 35 rfl) rfl ?_
      refine ev_getr (dSe_sortLodgers.at 36 rfl) (own := 3) rfl fkSe_15 rfl rfl ?_
      refine ev_iload_n (dSe_sortLodgers.at 37 rfl) rfl ?_
      refine ev_iconst (dSe_sortLodgers.at 38 rfl) kI_1 ?_
      refine ev_isub (dSe_sortLodgers.at 39 rfl) ?_
      refine ev_iaload (dSe_sortLodgers.at 40 rfl) rfl (o2 c1) ?_
      refine ev_iastore (dSe_sortLodgers.at 41 rfl) rfl (o6 c1 c2) ?_
      refine ev_iinc (dSe_sortLodgers.at 42 rfl) kI_m1 rfl (by decide) rfl ?_
      refine ev_goto (tgt := 26) (dSe_sortLodgers.at 43 rfl) rfl ?_
      exact (k3 c1 c2)
set_option maxHeartbeats 4000000 in
theorem bSe_hasteOf_0 {d : Nat} {w : sx_W} {Q : sx_Q} {x1 : Int32} {f1 : Int32} {f2 : Int32} {f3 : Int32}
    (o1 : vp_in x1 7)
    (m1 : sx_de d rIn_bitCount [.int (w.1 17 x1.toNatClampNeg)] w f1 0 w)
    (m2 : ((1 : Int32) < f1) → ((w.1 2 x1.toNatClampNeg) = (2 : Int32)) → sx_de d rSe_howMany [.ref 16, .int (w.1 2 x1.toNatClampNeg)] w f2 0 w)
    (k1 : ((1 : Int32) < f1) → ((w.1 2 x1.toNatClampNeg) = (2 : Int32)) → Q (((f2 * (100 : Int32)) + (f1 * (10 : Int32))) - (w.1 3 x1.toNatClampNeg)) 0 w)
    (k2 : ((1 : Int32) < f1) → (¬ (w.1 2 x1.toNatClampNeg) = (2 : Int32)) → (¬ (w.1 2 x1.toNatClampNeg) = (3 : Int32)) → Q ((((8 : Int32) * (100 : Int32)) + (f1 * (10 : Int32))) - (w.1 3 x1.toNatClampNeg)) 0 w)
    (m3 : ((1 : Int32) < f1) → (¬ (w.1 2 x1.toNatClampNeg) = (2 : Int32)) → ((w.1 2 x1.toNatClampNeg) = (3 : Int32)) → sx_de d rSe_howMany [.ref 16, .int (w.1 2 x1.toNatClampNeg)] w f3 0 w)
    (k3 : ((1 : Int32) < f1) → (¬ (w.1 2 x1.toNatClampNeg) = (2 : Int32)) → ((w.1 2 x1.toNatClampNeg) = (3 : Int32)) → Q (((f3 * (100 : Int32)) + (f1 * (10 : Int32))) - (w.1 3 x1.toNatClampNeg)) 0 w)
    (k4 : (¬ (1 : Int32) < f1) → Q (0 : Int32) 0 w) :
    sx_ev (d + 1) rSe_hasteOf 0 [.ref 16, .int x1, .null, .null, .null] [] w Q := by
  refine ev_aload_n (dSe_hasteOf.at 0 rfl) rfl ?_
  refine ev_getr (dSe_hasteOf.at 1 rfl) (own := 3) rfl fkSe_9 rfl rfl ?_
  refine ev_iload_n (dSe_hasteOf.at 2 rfl) rfl ?_
  refine ev_iaload (dSe_hasteOf.at 3 rfl) rfl o1 ?_
  refine ev_cSi (dSe_hasteOf.at 4 rfl) (As := [.int (w.1 17 x1.toNatClampNeg)]) (own := 3) rfl ckSe_131 (Or.inl rfl) rfl (Nat.le_of_ble_eq_true rfl) rfl m1 ?_
  refine ev_istore_n (dSe_hasteOf.at 5 rfl) (by decide) rfl ?_
  refine ev_iload_n (dSe_hasteOf.at 6 rfl) rfl ?_
  refine ev_iconst (dSe_hasteOf.at 7 rfl) kI_1 ?_
  refine ev_icmp_gt (tgt := 17) (dSe_hasteOf.at 8 rfl) rfl (fun c1 => ?_) (fun c1 => ?_)
  · refine ev_aload_n (dSe_hasteOf.at 11 rfl) rfl ?_
    refine ev_getr (dSe_hasteOf.at 12 rfl) (own := 3) rfl fkSe_50 rfl rfl ?_
    refine ev_getr (dSe_hasteOf.at 13 rfl) (own := 3) rfl fkSe_136 rfl rfl ?_
    refine ev_iload_n (dSe_hasteOf.at 14 rfl) rfl ?_
    refine ev_iaload (dSe_hasteOf.at 15 rfl) rfl o1 ?_
    refine ev_istore_n (dSe_hasteOf.at 16 rfl) (by decide) rfl ?_
    refine ev_iload_n (dSe_hasteOf.at 17 rfl) rfl ?_
    refine ev_iconst (dSe_hasteOf.at 18 rfl) kI_2 ?_
    refine ev_icmp_eq (tgt := 37) (dSe_hasteOf.at 19 rfl) rfl (fun c2 => ?_) (fun c2 => ?_)
    · refine ev_aload_n (dSe_hasteOf.at 23 rfl) rfl ?_
      refine ev_iload_n (dSe_hasteOf.at 24 rfl) rfl ?_
      refine ev_cVi (dSe_hasteOf.at 25 rfl) (As := [.int (w.1 2 x1.toNatClampNeg)]) (own := 3) rfl ckSe_139 rfl (Or.inl rfl) rfl (Nat.le_of_ble_eq_true rfl) rfl (m2 c1 c2) ?_
      refine ev_goto (tgt := 47) (dSe_hasteOf.at 26 rfl) rfl ?_
      refine ev_istore (dSe_hasteOf.at 28 rfl) (by decide) rfl ?_
      refine ev_iload (dSe_hasteOf.at 29 rfl) rfl ?_
      refine ev_bipush (dSe_hasteOf.at 30 rfl) kB_100 ?_
      refine ev_imul (dSe_hasteOf.at 31 rfl) ?_
      refine ev_iload_n (dSe_hasteOf.at 32 rfl) rfl ?_
      refine ev_bipush (dSe_hasteOf.at 33 rfl) kB_10 ?_
      refine ev_imul (dSe_hasteOf.at 34 rfl) ?_
      refine ev_iadd (dSe_hasteOf.at 35 rfl) ?_
      refine ev_aload_n (dSe_hasteOf.at 36 rfl) rfl ?_
      refine ev_getr (dSe_hasteOf.at 37 rfl) (own := 3) rfl fkSe_50 rfl rfl ?_
      refine ev_getr (dSe_hasteOf.at 38 rfl) (own := 3) rfl fkSe_142 rfl rfl ?_
      refine ev_iload_n (dSe_hasteOf.at 39 rfl) rfl ?_
      refine ev_iaload (dSe_hasteOf.at 40 rfl) rfl o1 ?_
      refine ev_isub (dSe_hasteOf.at 41 rfl) ?_
      exact ev_iret (dSe_hasteOf.at 42 rfl) rfl (k1 c1 c2)
    · refine ev_iload_n (dSe_hasteOf.at 20 rfl) rfl ?_
      refine ev_iconst (dSe_hasteOf.at 21 rfl) kI_3 ?_
      refine ev_icmp_ne (tgt := 45) (dSe_hasteOf.at 22 rfl) rfl (fun c3 => ?_) (fun c3 => ?_)
      · refine ev_bipush (dSe_hasteOf.at 27 rfl) kB_8 ?_
        refine ev_istore (dSe_hasteOf.at 28 rfl) (by decide) rfl ?_
        refine ev_iload (dSe_hasteOf.at 29 rfl) rfl ?_
        refine ev_bipush (dSe_hasteOf.at 30 rfl) kB_100 ?_
        refine ev_imul (dSe_hasteOf.at 31 rfl) ?_
        refine ev_iload_n (dSe_hasteOf.at 32 rfl) rfl ?_
        refine ev_bipush (dSe_hasteOf.at 33 rfl) kB_10 ?_
        refine ev_imul (dSe_hasteOf.at 34 rfl) ?_
        refine ev_iadd (dSe_hasteOf.at 35 rfl) ?_
        refine ev_aload_n (dSe_hasteOf.at 36 rfl) rfl ?_
        refine ev_getr (dSe_hasteOf.at 37 rfl) (own := 3) rfl fkSe_50 rfl rfl ?_
        refine ev_getr (dSe_hasteOf.at 38 rfl) (own := 3) rfl fkSe_142 rfl rfl ?_
        refine ev_iload_n (dSe_hasteOf.at 39 rfl) rfl ?_
        refine ev_iaload (dSe_hasteOf.at 40 rfl) rfl o1 ?_
        refine ev_isub (dSe_hasteOf.at 41 rfl) ?_
        exact ev_iret (dSe_hasteOf.at 42 rfl) rfl (k2 c1 c2 c3)
      · refine ev_aload_n (dSe_hasteOf.at 23 rfl) rfl ?_
        refine ev_iload_n (dSe_hasteOf.at 24 rfl) rfl ?_
        refine ev_cVi (dSe_hasteOf.at 25 rfl) (As := [.int (w.1 2 x1.toNatClampNeg)]) (own := 3) rfl ckSe_139 rfl (Or.inl rfl) rfl (Nat.le_of_ble_eq_true rfl) rfl (m3 c1 c2 c3) ?_
        refine ev_goto (tgt := 47) (dSe_hasteOf.at 26 rfl) rfl ?_
        refine ev_istore (dSe_hasteOf.at 28 rfl) (by decide) rfl ?_
        refine ev_iload (dSe_hasteOf.at 29 rfl) rfl ?_
        refine ev_bipush (dSe_hasteOf.at 30 rfl) kB_100 ?_
        refine ev_imul (dSe_hasteOf.at 31 rfl) ?_
        refine ev_iload_n (dSe_hasteOf.at 32 rfl) rfl ?_
        refine ev_bipush (dSe_hasteOf.at 33 rfl) kB_10 ?_
        refine ev_imul (dSe_hasteOf.at 34 rfl) ?_
        refine ev_iadd (dSe_hasteOf.at 35 rfl) ?_
        refine ev_aload_n (dSe_hasteOf.at 36 rfl) rfl ?_
        refine ev_getr (dSe_hasteOf.at 37 rfl) (own := 3) rfl fkSe_50 rfl rfl ?_
        refine ev_getr (dSe_hasteOf.at 38 rfl) (own := 3) rfl fkSe_142 rfl rfl ?_
        refine ev_iload_n (dSe_hasteOf.at 39 rfl) rfl ?_
        refine ev_iaload (dSe_hasteOf.at 40 rfl) rfl o1 ?_
        refine ev_isub (dSe_hasteOf.at 41 rfl) ?_
        exact ev_iret (dSe_hasteOf.at 42 rfl) rfl (k3 c1 c2 c3)
  · refine ev_iconst (dSe_hasteOf.at 9 rfl) kI_0 ?_
    exact ev_iret (dSe_hasteOf.at 10 rfl) rfl (k4 c1)
set_option maxHeartbeats 4000000 in
theorem bSe_howMany_0 {d : Nat} {w : sx_W} {Q : sx_Q} {x1 : Int32}
    (k1 : sx_ev d rSe_howMany 4 [.ref 16, .int x1, .int (0 : Int32), .int (0 : Int32)] [] w Q) :
    sx_ev d rSe_howMany 0 [.ref 16, .int x1, .null, .null] [] w Q := by
  refine ev_iconst (dSe_howMany.at 0 rfl) kI_0 ?_
  refine ev_istore_n (dSe_howMany.at 1 rfl) (by decide) rfl ?_
  refine ev_iconst (dSe_howMany.at 2 rfl) kI_0 ?_
  refine ev_istore_n (dSe_howMany.at 3 rfl) (by decide) rfl ?_
  exact k1
set_option maxHeartbeats 4000000 in
theorem bSe_howMany_4 {d : Nat} {w : sx_W} {Q : sx_Q} {x1 : Int32} {x2 : Int32} {x3 : Int32}
    (k1 : ((w.1 1 4) ≤ x3) → Q x2 0 w)
    (o1 : (¬ (w.1 1 4) ≤ x3) → vp_in x3 7)
    (k2 : (¬ (w.1 1 4) ≤ x3) → (¬ (w.1 2 x3.toNatClampNeg) = x1) → sx_ev d rSe_howMany 4 [.ref 16, .int x1, .int (x2 + (0 : Int32)), .int (x3 + (1 : Int32))] [] w Q)
    (k3 : (¬ (w.1 1 4) ≤ x3) → ((w.1 2 x3.toNatClampNeg) = x1) → sx_ev d rSe_howMany 4 [.ref 16, .int x1, .int (x2 + (1 : Int32)), .int (x3 + (1 : Int32))] [] w Q) :
    sx_ev d rSe_howMany 4 [.ref 16, .int x1, .int x2, .int x3] [] w Q := by
  refine ev_iload_n (dSe_howMany.at 4 rfl) rfl ?_
  refine ev_aload_n (dSe_howMany.at 5 rfl) rfl ?_
  refine ev_getr (dSe_howMany.at 6 rfl) (own := 3) rfl fkSe_50 rfl rfl ?_
  refine ev_get (dSe_howMany.at 7 rfl) (own := 3) rfl fkSe_63 rfl rfl ?_
  refine ev_icmp_ge (tgt := 42) (dSe_howMany.at 8 rfl) rfl (fun c1 => ?_) (fun c1 => ?_)
  · refine ev_iload_n (dSe_howMany.at 24 rfl) rfl ?_
    exact ev_iret (dSe_howMany.at 25 rfl) rfl (k1 c1)
  · refine ev_iload_n (dSe_howMany.at 9 rfl) rfl ?_
    refine ev_aload_n (dSe_howMany.at 10 rfl) rfl ?_
    refine ev_getr (dSe_howMany.at 11 rfl) (own := 3) rfl fkSe_50 rfl rfl ?_
    refine ev_getr (dSe_howMany.at 12 rfl) (own := 3) rfl fkSe_136 rfl rfl ?_
    refine ev_iload_n (dSe_howMany.at 13 rfl) rfl ?_
    refine ev_iaload (dSe_howMany.at 14 rfl) rfl (o1 c1) ?_
    refine ev_iload_n (dSe_howMany.at 15 rfl) rfl ?_
    refine ev_icmp_ne (tgt := 33) (dSe_howMany.at 16 rfl) rfl (fun c2 => ?_) (fun c2 => ?_)
    · refine ev_iconst (dSe_howMany.at 19 rfl) kI_0 ?_
      refine ev_iadd (dSe_howMany.at 20 rfl) ?_
      refine ev_istore_n (dSe_howMany.at 21 rfl) (by decide) rfl ?_
      refine ev_iinc (dSe_howMany.at 22 rfl) kI_1 rfl (by decide) rfl ?_
      refine ev_goto (tgt := 4) (dSe_howMany.at 23 rfl) rfl ?_
      exact (k2 c1 c2)
    · refine ev_iconst (dSe_howMany.at 17 rfl) kI_1 ?_
      refine ev_goto (tgt := 34) (dSe_howMany.at 18 rfl) rfl ?_
      refine ev_iadd (dSe_howMany.at 20 rfl) ?_
      refine ev_istore_n (dSe_howMany.at 21 rfl) (by decide) rfl ?_
      refine ev_iinc (dSe_howMany.at 22 rfl) kI_1 rfl (by decide) rfl ?_
      refine ev_goto (tgt := 4) (dSe_howMany.at 23 rfl) rfl ?_
      exact (k3 c1 c2)
set_option maxHeartbeats 4000000 in
theorem bSe_fillFrom_0 {d : Nat} {w : sx_W} {Q : sx_Q} {x1 : Int32} {y2 : Int64} {x4 : Int32}
    (o1 : (x1 < (w.1 1 4)) → vp_in x1 8)
    (o2 : (x1 < (w.1 1 4)) → ((w.1 20 x1.toNatClampNeg) ≤ x4) → vp_in x1 7)
    (k1 : (x1 < (w.1 1 4)) → ((w.1 20 x1.toNatClampNeg) ≤ x4) → sx_ev d rSe_fillFrom 37 [.ref 16, .int x1, .long y2, .null, .int x4, .int (w.1 18 x1.toNatClampNeg), .int (0 : Int32), .null, .null, .null] [] w Q)
    (k2 : (x1 < (w.1 1 4)) → (¬ (w.1 20 x1.toNatClampNeg) ≤ x4) → Q (0 : Int32) 0 w)
    (k3 : (¬ x1 < (w.1 1 4)) → Q (1 : Int32) 0 w) :
    sx_ev d rSe_fillFrom 0 [.ref 16, .int x1, .long y2, .null, .int x4, .null, .null, .null, .null, .null] [] w Q := by
  refine ev_iload_n (dSe_fillFrom.at 0 rfl) rfl ?_
  refine ev_aload_n (dSe_fillFrom.at 1 rfl) rfl ?_
  refine ev_getr (dSe_fillFrom.at 2 rfl) (own := 3) rfl fkSe_50 rfl rfl ?_
  refine ev_get (dSe_fillFrom.at 3 rfl) (own := 3) rfl fkSe_63 rfl rfl ?_
  refine ev_icmp_lt (tgt := 13) (dSe_fillFrom.at 4 rfl) rfl (fun c1 => ?_) (fun c1 => ?_)
  · refine ev_iload (dSe_fillFrom.at 7 rfl) rfl ?_
    refine ev_aload_n (dSe_fillFrom.at 8 rfl) rfl ?_
    refine ev_getr (dSe_fillFrom.at 9 rfl) (own := 3) rfl fkSe_21 rfl rfl ?_
    refine ev_iload_n (dSe_fillFrom.at 10 rfl) rfl ?_
    refine ev_iaload (dSe_fillFrom.at 11 rfl) rfl (o1 c1) ?_
    refine ev_icmp_ge (tgt := 26) (dSe_fillFrom.at 12 rfl) rfl (fun c2 => ?_) (fun c2 => ?_)
    · refine ev_aload_n (dSe_fillFrom.at 15 rfl) rfl ?_
      refine ev_getr (dSe_fillFrom.at 16 rfl) (own := 3) rfl fkSe_15 rfl rfl ?_
      refine ev_iload_n (dSe_fillFrom.at 17 rfl) rfl ?_
      refine ev_iaload (dSe_fillFrom.at 18 rfl) rfl (o2 c1 c2) ?_
      refine ev_istore (dSe_fillFrom.at 19 rfl) (by decide) rfl ?_
      refine ev_iconst (dSe_fillFrom.at 20 rfl) kI_0 ?_
      refine ev_istore (dSe_fillFrom.at 21 rfl) (by decide) rfl ?_
      exact (k1 c1 c2)
    · refine ev_iconst (dSe_fillFrom.at 13 rfl) kI_0 ?_
      exact ev_zret (dSe_fillFrom.at 14 rfl) rfl (by decide) (k2 c1 c2)
  · refine ev_iconst (dSe_fillFrom.at 5 rfl) kI_1 ?_
    exact ev_zret (dSe_fillFrom.at 6 rfl) rfl (by decide) (k3 c1)
set_option maxHeartbeats 4000000 in
theorem bSe_fillFrom_37 {d : Nat} {w : sx_W} {Q : sx_Q} {x1 : Int32} {y2 : Int64} {x4 : Int32} {x5 : Int32} {x6 : Int32} {f1 : Int32} {f2 : Int64} {f3 : Int32} {w3 : sx_W} {f4 : Int32} {f5 : Int64} {f6 : Int32} {w6 : sx_W}
    (k1 : ((8 : Int32) ≤ x6) → Q (0 : Int32) 0 w)
    (o1 : (¬ (8 : Int32) ≤ x6) → vp_in x5 7)
    (k2 : (¬ (8 : Int32) ≤ x6) → (¬ x6 = (w.1 5 x5.toNatClampNeg)) → ((x4 - (1 : Int32)) < 0) → sx_ev (d + 1) rSe_fillFrom 37 [.ref 16, .int x1, .long y2, .null, .int x4, .int x5, .int (x6 + (1 : Int32)), .null, .null, .null] [] w Q)
    (m1 : (¬ (8 : Int32) ≤ x6) → (¬ x6 = (w.1 5 x5.toNatClampNeg)) → (¬ (x4 - (1 : Int32)) < 0) → sx_de d rSb_holds [.int (w.1 17 x5.toNatClampNeg), .int x6] w f1 0 w)
    (m2 : (¬ (8 : Int32) ≤ x6) → (¬ x6 = (w.1 5 x5.toNatClampNeg)) → (¬ (x4 - (1 : Int32)) < 0) → (¬ f1 = 0) → sx_de d rSt_joined [.ref 11, .long y2, .int x5, .int x6] w 0 f2 w)
    (k3 : (¬ (8 : Int32) ≤ x6) → (¬ x6 = (w.1 5 x5.toNatClampNeg)) → (¬ (x4 - (1 : Int32)) < 0) → (¬ f1 = 0) → (f2 = (-1 : Int64)) → sx_ev (d + 1) rSe_fillFrom 37 [.ref 16, .int x1, .long y2, .null, .int x4, .int x5, .int (x6 + (1 : Int32)), .null, .null, .null] [] w Q)
    (m3 : (¬ (8 : Int32) ≤ x6) → (¬ x6 = (w.1 5 x5.toNatClampNeg)) → (¬ (x4 - (1 : Int32)) < 0) → (¬ f1 = 0) → (¬ f2 = (-1 : Int64)) → sx_de d rSe_fillFrom [.ref 16, .int (x1 + (1 : Int32)), .long f2, .int (x4 - (1 : Int32))] w f3 0 w3)
    (k4 : (¬ (8 : Int32) ≤ x6) → (¬ x6 = (w.1 5 x5.toNatClampNeg)) → (¬ (x4 - (1 : Int32)) < 0) → (¬ f1 = 0) → (¬ f2 = (-1 : Int64)) → (f3 = 0) → sx_ev (d + 1) rSe_fillFrom 37 [.ref 16, .int x1, .long y2, .null, .int x4, .int x5, .int (x6 + (1 : Int32)), .null, .null, .null] [] w3 Q)
    (k5 : (¬ (8 : Int32) ≤ x6) → (¬ x6 = (w.1 5 x5.toNatClampNeg)) → (¬ (x4 - (1 : Int32)) < 0) → (¬ f1 = 0) → (¬ f2 = (-1 : Int64)) → (¬ f3 = 0) → Q (1 : Int32) 0 ((sx_u w3.1 21 x5.toNatClampNeg x6), w3.2))
    (k6 : (¬ (8 : Int32) ≤ x6) → (¬ x6 = (w.1 5 x5.toNatClampNeg)) → (¬ (x4 - (1 : Int32)) < 0) → (f1 = 0) → sx_ev (d + 1) rSe_fillFrom 37 [.ref 16, .int x1, .long y2, .null, .int x4, .int x5, .int (x6 + (1 : Int32)), .null, .null, .null] [] w Q)
    (k7 : (¬ (8 : Int32) ≤ x6) → (x6 = (w.1 5 x5.toNatClampNeg)) → (x4 < 0) → sx_ev (d + 1) rSe_fillFrom 37 [.ref 16, .int x1, .long y2, .null, .int x4, .int x5, .int (x6 + (1 : Int32)), .null, .null, .null] [] w Q)
    (m4 : (¬ (8 : Int32) ≤ x6) → (x6 = (w.1 5 x5.toNatClampNeg)) → (¬ x4 < 0) → sx_de d rSb_holds [.int (w.1 17 x5.toNatClampNeg), .int x6] w f4 0 w)
    (m5 : (¬ (8 : Int32) ≤ x6) → (x6 = (w.1 5 x5.toNatClampNeg)) → (¬ x4 < 0) → (¬ f4 = 0) → sx_de d rSt_joined [.ref 11, .long y2, .int x5, .int x6] w 0 f5 w)
    (k8 : (¬ (8 : Int32) ≤ x6) → (x6 = (w.1 5 x5.toNatClampNeg)) → (¬ x4 < 0) → (¬ f4 = 0) → (f5 = (-1 : Int64)) → sx_ev (d + 1) rSe_fillFrom 37 [.ref 16, .int x1, .long y2, .null, .int x4, .int x5, .int (x6 + (1 : Int32)), .null, .null, .null] [] w Q)
    (m6 : (¬ (8 : Int32) ≤ x6) → (x6 = (w.1 5 x5.toNatClampNeg)) → (¬ x4 < 0) → (¬ f4 = 0) → (¬ f5 = (-1 : Int64)) → sx_de d rSe_fillFrom [.ref 16, .int (x1 + (1 : Int32)), .long f5, .int x4] w f6 0 w6)
    (k9 : (¬ (8 : Int32) ≤ x6) → (x6 = (w.1 5 x5.toNatClampNeg)) → (¬ x4 < 0) → (¬ f4 = 0) → (¬ f5 = (-1 : Int64)) → (f6 = 0) → sx_ev (d + 1) rSe_fillFrom 37 [.ref 16, .int x1, .long y2, .null, .int x4, .int x5, .int (x6 + (1 : Int32)), .null, .null, .null] [] w6 Q)
    (k10 : (¬ (8 : Int32) ≤ x6) → (x6 = (w.1 5 x5.toNatClampNeg)) → (¬ x4 < 0) → (¬ f4 = 0) → (¬ f5 = (-1 : Int64)) → (¬ f6 = 0) → Q (1 : Int32) 0 ((sx_u w6.1 21 x5.toNatClampNeg x6), w6.2))
    (k11 : (¬ (8 : Int32) ≤ x6) → (x6 = (w.1 5 x5.toNatClampNeg)) → (¬ x4 < 0) → (f4 = 0) → sx_ev (d + 1) rSe_fillFrom 37 [.ref 16, .int x1, .long y2, .null, .int x4, .int x5, .int (x6 + (1 : Int32)), .null, .null, .null] [] w Q) :
    sx_ev (d + 1) rSe_fillFrom 37 [.ref 16, .int x1, .long y2, .null, .int x4, .int x5, .int x6, .null, .null, .null] [] w Q := by
  refine ev_iload (dSe_fillFrom.at 22 rfl) rfl ?_
  refine ev_bipush (dSe_fillFrom.at 23 rfl) kB_8 ?_
  refine ev_icmp_ge (tgt := 147) (dSe_fillFrom.at 24 rfl) rfl (fun c1 => ?_) (fun c1 => ?_)
  · refine ev_iconst (dSe_fillFrom.at 76 rfl) kI_0 ?_
    exact ev_zret (dSe_fillFrom.at 77 rfl) rfl (by decide) (k1 c1)
  · refine ev_iload (dSe_fillFrom.at 25 rfl) rfl ?_
    refine ev_aload_n (dSe_fillFrom.at 26 rfl) rfl ?_
    refine ev_getr (dSe_fillFrom.at 27 rfl) (own := 3) rfl fkSe_50 rfl rfl ?_
    refine ev_getr (dSe_fillFrom.at 28 rfl) (own := 3) rfl fkSe_128 rfl rfl ?_
    refine ev_iload (dSe_fillFrom.at 29 rfl) rfl ?_
    refine ev_iaload (dSe_fillFrom.at 30 rfl) rfl (o1 c1) ?_
    refine ev_icmp_ne (tgt := 64) (dSe_fillFrom.at 31 rfl) rfl (fun c2 => ?_) (fun c2 => ?_)
    · refine ev_iload (dSe_fillFrom.at 34 rfl) rfl ?_
      refine ev_iconst (dSe_fillFrom.at 35 rfl) kI_1 ?_
      refine ev_isub (dSe_fillFrom.at 36 rfl) ?_
      refine ev_istore (dSe_fillFrom.at 37 rfl) (by decide) rfl ?_
      refine ev_iload (dSe_fillFrom.at 38 rfl) rfl ?_
      refine ev_if_lt (tgt := 141) (dSe_fillFrom.at 39 rfl) rfl (fun c3 => ?_) (fun c3 => ?_)
      · refine ev_iinc (dSe_fillFrom.at 74 rfl) kI_1 rfl (by decide) rfl ?_
        refine ev_goto (tgt := 37) (dSe_fillFrom.at 75 rfl) rfl ?_
        refine ev_kp [true, true, true, false, true, true, true, false, false, false] rfl ?_
        exact (k2 c1 c2 c3)
      · refine ev_aload_n (dSe_fillFrom.at 40 rfl) rfl ?_
        refine ev_getr (dSe_fillFrom.at 41 rfl) (own := 3) rfl fkSe_9 rfl rfl ?_
        refine ev_iload (dSe_fillFrom.at 42 rfl) rfl ?_
        refine ev_iaload (dSe_fillFrom.at 43 rfl) rfl (o1 c1) ?_
        refine ev_iload (dSe_fillFrom.at 44 rfl) rfl ?_
        refine ev_cNi (dSe_fillFrom.at 45 rfl) (As := [.int (w.1 17 x5.toNatClampNeg), .int x6]) (own := 3) rfl ckSe_107 (Or.inr rfl) rfl (Nat.le_of_ble_eq_true rfl) rfl (m1 c1 c2 c3) ?_
        refine ev_if_ne (tgt := 93) (dSe_fillFrom.at 46 rfl) rfl (fun c4 => ?_) (fun c4 => ?_)
        · refine ev_aload_n (dSe_fillFrom.at 48 rfl) rfl ?_
          refine ev_getr (dSe_fillFrom.at 49 rfl) (own := 3) rfl fkSe_54 rfl rfl ?_
          refine ev_lload_n (dSe_fillFrom.at 50 rfl) rfl ?_
          refine ev_iload (dSe_fillFrom.at 51 rfl) rfl ?_
          refine ev_iload (dSe_fillFrom.at 52 rfl) rfl ?_
          refine ev_cVl (dSe_fillFrom.at 53 rfl) (As := [.long y2, .int x5, .int x6]) (own := 3) rfl ckSe_145 rfl rfl rfl (Nat.le_of_ble_eq_true rfl) rfl (m2 c1 c2 c3 c4) ?_
          refine ev_lstore (dSe_fillFrom.at 54 rfl) (by decide) rfl ?_
          refine ev_lload (dSe_fillFrom.at 55 rfl) rfl ?_
          refine ev_ldc2 (dSe_fillFrom.at 56 rfl) (own := 3) rfl (List.mem_of_getElem? (i := 0) rfl) ?_
          refine ev_lcmp (dSe_fillFrom.at 57 rfl) ?_
          refine ev_if_eq (tgt := 141) (dSe_fillFrom.at 58 rfl) rfl (fun c5 => ?_) (fun c5 => ?_)
          · rw [lg_cmp_eq] at c5
            refine ev_iinc (dSe_fillFrom.at 74 rfl) kI_1 rfl (by decide) rfl ?_
            refine ev_goto (tgt := 37) (dSe_fillFrom.at 75 rfl) rfl ?_
            refine ev_kp [true, true, true, false, true, true, true, false, false, false] rfl ?_
            exact (k3 c1 c2 c3 c4 c5)
          · rw [lg_cmp_eq] at c5
            refine ev_aload_n (dSe_fillFrom.at 59 rfl) rfl ?_
            refine ev_iload_n (dSe_fillFrom.at 60 rfl) rfl ?_
            refine ev_iconst (dSe_fillFrom.at 61 rfl) kI_1 ?_
            refine ev_iadd (dSe_fillFrom.at 62 rfl) ?_
            refine ev_lload (dSe_fillFrom.at 63 rfl) rfl ?_
            refine ev_iload (dSe_fillFrom.at 64 rfl) rfl ?_
            refine ev_cSi (dSe_fillFrom.at 65 rfl) (As := [.ref 16, .int (x1 + (1 : Int32)), .long f2, .int (x4 - (1 : Int32))]) (own := 3) rfl ckSe_113 (Or.inr rfl) rfl (Nat.le_of_ble_eq_true rfl) rfl (m3 c1 c2 c3 c4 c5) ?_
            refine ev_if_eq (tgt := 141) (dSe_fillFrom.at 66 rfl) rfl (fun c6 => ?_) (fun c6 => ?_)
            · refine ev_iinc (dSe_fillFrom.at 74 rfl) kI_1 rfl (by decide) rfl ?_
              refine ev_goto (tgt := 37) (dSe_fillFrom.at 75 rfl) rfl ?_
              refine ev_kp [true, true, true, false, true, true, true, false, false, false] rfl ?_
              exact (k4 c1 c2 c3 c4 c5 c6)
            · refine ev_aload_n (dSe_fillFrom.at 67 rfl) rfl ?_
              refine ev_getr (dSe_fillFrom.at 68 rfl) (own := 3) rfl fkSe_24 rfl rfl ?_
              refine ev_iload (dSe_fillFrom.at 69 rfl) rfl ?_
              refine ev_iload (dSe_fillFrom.at 70 rfl) rfl ?_
              refine ev_iastore (dSe_fillFrom.at 71 rfl) rfl (o1 c1) ?_
              refine ev_iconst (dSe_fillFrom.at 72 rfl) kI_1 ?_
              exact ev_zret (dSe_fillFrom.at 73 rfl) rfl (by decide) (k5 c1 c2 c3 c4 c5 c6)
        · refine ev_goto (tgt := 141) (dSe_fillFrom.at 47 rfl) rfl ?_
          refine ev_iinc (dSe_fillFrom.at 74 rfl) kI_1 rfl (by decide) rfl ?_
          refine ev_goto (tgt := 37) (dSe_fillFrom.at 75 rfl) rfl ?_
          refine ev_kp [true, true, true, false, true, true, true, false, false, false] rfl ?_
          exact (k6 c1 c2 c3 c4)
    · refine ev_iload (dSe_fillFrom.at 32 rfl) rfl ?_
      refine ev_goto (tgt := 68) (dSe_fillFrom.at 33 rfl) rfl ?_
      refine ev_istore (dSe_fillFrom.at 37 rfl) (by decide) rfl ?_
      refine ev_iload (dSe_fillFrom.at 38 rfl) rfl ?_
      refine ev_if_lt (tgt := 141) (dSe_fillFrom.at 39 rfl) rfl (fun c7 => ?_) (fun c7 => ?_)
      · refine ev_iinc (dSe_fillFrom.at 74 rfl) kI_1 rfl (by decide) rfl ?_
        refine ev_goto (tgt := 37) (dSe_fillFrom.at 75 rfl) rfl ?_
        refine ev_kp [true, true, true, false, true, true, true, false, false, false] rfl ?_
        exact (k7 c1 c2 c7)
      · refine ev_aload_n (dSe_fillFrom.at 40 rfl) rfl ?_
        refine ev_getr (dSe_fillFrom.at 41 rfl) (own := 3) rfl fkSe_9 rfl rfl ?_
        refine ev_iload (dSe_fillFrom.at 42 rfl) rfl ?_
        refine ev_iaload (dSe_fillFrom.at 43 rfl) rfl (o1 c1) ?_
        refine ev_iload (dSe_fillFrom.at 44 rfl) rfl ?_
        refine ev_cNi (dSe_fillFrom.at 45 rfl) (As := [.int (w.1 17 x5.toNatClampNeg), .int x6]) (own := 3) rfl ckSe_107 (Or.inr rfl) rfl (Nat.le_of_ble_eq_true rfl) rfl (m4 c1 c2 c7) ?_
        refine ev_if_ne (tgt := 93) (dSe_fillFrom.at 46 rfl) rfl (fun c8 => ?_) (fun c8 => ?_)
        · refine ev_aload_n (dSe_fillFrom.at 48 rfl) rfl ?_
          refine ev_getr (dSe_fillFrom.at 49 rfl) (own := 3) rfl fkSe_54 rfl rfl ?_
          refine ev_lload_n (dSe_fillFrom.at 50 rfl) rfl ?_
          refine ev_iload (dSe_fillFrom.at 51 rfl) rfl ?_
          refine ev_iload (dSe_fillFrom.at 52 rfl) rfl ?_
          refine ev_cVl (dSe_fillFrom.at 53 rfl) (As := [.long y2, .int x5, .int x6]) (own := 3) rfl ckSe_145 rfl rfl rfl (Nat.le_of_ble_eq_true rfl) rfl (m5 c1 c2 c7 c8) ?_
          refine ev_lstore (dSe_fillFrom.at 54 rfl) (by decide) rfl ?_
          refine ev_lload (dSe_fillFrom.at 55 rfl) rfl ?_
          refine ev_ldc2 (dSe_fillFrom.at 56 rfl) (own := 3) rfl (List.mem_of_getElem? (i := 0) rfl) ?_
          refine ev_lcmp (dSe_fillFrom.at 57 rfl) ?_
          refine ev_if_eq (tgt := 141) (dSe_fillFrom.at 58 rfl) rfl (fun c9 => ?_) (fun c9 => ?_)
          · rw [lg_cmp_eq] at c9
            refine ev_iinc (dSe_fillFrom.at 74 rfl) kI_1 rfl (by decide) rfl ?_
            refine ev_goto (tgt := 37) (dSe_fillFrom.at 75 rfl) rfl ?_
            refine ev_kp [true, true, true, false, true, true, true, false, false, false] rfl ?_
            exact (k8 c1 c2 c7 c8 c9)
          · rw [lg_cmp_eq] at c9
            refine ev_aload_n (dSe_fillFrom.at 59 rfl) rfl ?_
            refine ev_iload_n (dSe_fillFrom.at 60 rfl) rfl ?_
            refine ev_iconst (dSe_fillFrom.at 61 rfl) kI_1 ?_
            refine ev_iadd (dSe_fillFrom.at 62 rfl) ?_
            refine ev_lload (dSe_fillFrom.at 63 rfl) rfl ?_
            refine ev_iload (dSe_fillFrom.at 64 rfl) rfl ?_
            refine ev_cSi (dSe_fillFrom.at 65 rfl) (As := [.ref 16, .int (x1 + (1 : Int32)), .long f5, .int x4]) (own := 3) rfl ckSe_113 (Or.inr rfl) rfl (Nat.le_of_ble_eq_true rfl) rfl (m6 c1 c2 c7 c8 c9) ?_
            refine ev_if_eq (tgt := 141) (dSe_fillFrom.at 66 rfl) rfl (fun c10 => ?_) (fun c10 => ?_)
            · refine ev_iinc (dSe_fillFrom.at 74 rfl) kI_1 rfl (by decide) rfl ?_
              refine ev_goto (tgt := 37) (dSe_fillFrom.at 75 rfl) rfl ?_
              refine ev_kp [true, true, true, false, true, true, true, false, false, false] rfl ?_
              exact (k9 c1 c2 c7 c8 c9 c10)
            · refine ev_aload_n (dSe_fillFrom.at 67 rfl) rfl ?_
              refine ev_getr (dSe_fillFrom.at 68 rfl) (own := 3) rfl fkSe_24 rfl rfl ?_
              refine ev_iload (dSe_fillFrom.at 69 rfl) rfl ?_
              refine ev_iload (dSe_fillFrom.at 70 rfl) rfl ?_
              refine ev_iastore (dSe_fillFrom.at 71 rfl) rfl (o1 c1) ?_
              refine ev_iconst (dSe_fillFrom.at 72 rfl) kI_1 ?_
              exact ev_zret (dSe_fillFrom.at 73 rfl) rfl (by decide) (k10 c1 c2 c7 c8 c9 c10)
        · refine ev_goto (tgt := 141) (dSe_fillFrom.at 47 rfl) rfl ?_
          refine ev_iinc (dSe_fillFrom.at 74 rfl) kI_1 rfl (by decide) rfl ?_
          refine ev_goto (tgt := 37) (dSe_fillFrom.at 75 rfl) rfl ?_
          refine ev_kp [true, true, true, false, true, true, true, false, false, false] rfl ?_
          exact (k11 c1 c2 c7 c8)
set_option maxHeartbeats 4000000 in
theorem bSe_countFrom_0 {d : Nat} {w : sx_W} {Q : sx_Q} {x1 : Int32} {y2 : Int64} {x4 : Int32}
    (o1 : (x1 < (w.1 1 4)) → vp_in x1 7)
    (k1 : (x1 < (w.1 1 4)) → sx_ev d rSe_countFrom 27 [.ref 16, .int x1, .long y2, .null, .int x4, .int (w.1 18 x1.toNatClampNeg), .int (0 : Int32), .int (0 : Int32), .null, .null] [] w Q)
    (k2 : (¬ x1 < (w.1 1 4)) → Q (1 : Int32) 0 w) :
    sx_ev d rSe_countFrom 0 [.ref 16, .int x1, .long y2, .null, .int x4, .null, .null, .null, .null, .null] [] w Q := by
  refine ev_iload_n (dSe_countFrom.at 0 rfl) rfl ?_
  refine ev_aload_n (dSe_countFrom.at 1 rfl) rfl ?_
  refine ev_getr (dSe_countFrom.at 2 rfl) (own := 3) rfl fkSe_50 rfl rfl ?_
  refine ev_get (dSe_countFrom.at 3 rfl) (own := 3) rfl fkSe_63 rfl rfl ?_
  refine ev_icmp_lt (tgt := 13) (dSe_countFrom.at 4 rfl) rfl (fun c1 => ?_) (fun c1 => ?_)
  · refine ev_aload_n (dSe_countFrom.at 7 rfl) rfl ?_
    refine ev_getr (dSe_countFrom.at 8 rfl) (own := 3) rfl fkSe_15 rfl rfl ?_
    refine ev_iload_n (dSe_countFrom.at 9 rfl) rfl ?_
    refine ev_iaload (dSe_countFrom.at 10 rfl) rfl (o1 c1) ?_
    refine ev_istore (dSe_countFrom.at 11 rfl) (by decide) rfl ?_
    refine ev_iconst (dSe_countFrom.at 12 rfl) kI_0 ?_
    refine ev_istore (dSe_countFrom.at 13 rfl) (by decide) rfl ?_
    refine ev_iconst (dSe_countFrom.at 14 rfl) kI_0 ?_
    refine ev_istore (dSe_countFrom.at 15 rfl) (by decide) rfl ?_
    exact (k1 c1)
  · refine ev_iconst (dSe_countFrom.at 5 rfl) kI_1 ?_
    exact ev_iret (dSe_countFrom.at 6 rfl) rfl (k2 c1)
set_option maxHeartbeats 4000000 in
theorem bSe_countFrom_27 {d : Nat} {w : sx_W} {Q : sx_Q} {x1 : Int32} {y2 : Int64} {x4 : Int32} {x5 : Int32} {x6 : Int32} {x7 : Int32} {f1 : Int32} {f2 : Int64} {f3 : Int32}
    (k1 : ((8 : Int32) ≤ x7) → Q x6 0 w)
    (k2 : (¬ (8 : Int32) ≤ x7) → (x4 ≤ x6) → Q x6 0 w)
    (o1 : (¬ (8 : Int32) ≤ x7) → (¬ x4 ≤ x6) → vp_in x5 7)
    (m1 : (¬ (8 : Int32) ≤ x7) → (¬ x4 ≤ x6) → sx_de d rSb_holds [.int (w.1 17 x5.toNatClampNeg), .int x7] w f1 0 w)
    (k3 : (¬ (8 : Int32) ≤ x7) → (¬ x4 ≤ x6) → (f1 = 0) → sx_ev (d + 1) rSe_countFrom 27 [.ref 16, .int x1, .long y2, .null, .int x4, .int x5, .int x6, .int (x7 + (1 : Int32)), .null, .null] [] w Q)
    (m2 : (¬ (8 : Int32) ≤ x7) → (¬ x4 ≤ x6) → (¬ f1 = 0) → sx_de d rSt_joined [.ref 11, .long y2, .int x5, .int x7] w 0 f2 w)
    (m3 : (¬ (8 : Int32) ≤ x7) → (¬ x4 ≤ x6) → (¬ f1 = 0) → (¬ f2 = (-1 : Int64)) → sx_de d rSe_countFrom [.ref 16, .int (x1 + (1 : Int32)), .long f2, .int (x4 - x6)] w f3 0 w)
    (k4 : (¬ (8 : Int32) ≤ x7) → (¬ x4 ≤ x6) → (¬ f1 = 0) → (¬ f2 = (-1 : Int64)) → sx_ev (d + 1) rSe_countFrom 27 [.ref 16, .int x1, .long y2, .null, .int x4, .int x5, .int (x6 + f3), .int (x7 + (1 : Int32)), .null, .null] [] w Q)
    (k5 : (¬ (8 : Int32) ≤ x7) → (¬ x4 ≤ x6) → (¬ f1 = 0) → (f2 = (-1 : Int64)) → sx_ev (d + 1) rSe_countFrom 27 [.ref 16, .int x1, .long y2, .null, .int x4, .int x5, .int (x6 + (0 : Int32)), .int (x7 + (1 : Int32)), .null, .null] [] w Q) :
    sx_ev (d + 1) rSe_countFrom 27 [.ref 16, .int x1, .long y2, .null, .int x4, .int x5, .int x6, .int x7, .null, .null] [] w Q := by
  refine ev_iload (dSe_countFrom.at 16 rfl) rfl ?_
  refine ev_bipush (dSe_countFrom.at 17 rfl) kB_8 ?_
  refine ev_icmp_ge (tgt := 108) (dSe_countFrom.at 18 rfl) rfl (fun c1 => ?_) (fun c1 => ?_)
  · refine ev_iload (dSe_countFrom.at 56 rfl) rfl ?_
    exact ev_iret (dSe_countFrom.at 57 rfl) rfl (k1 c1)
  · refine ev_iload (dSe_countFrom.at 19 rfl) rfl ?_
    refine ev_iload (dSe_countFrom.at 20 rfl) rfl ?_
    refine ev_icmp_ge (tgt := 108) (dSe_countFrom.at 21 rfl) rfl (fun c2 => ?_) (fun c2 => ?_)
    · refine ev_iload (dSe_countFrom.at 56 rfl) rfl ?_
      exact ev_iret (dSe_countFrom.at 57 rfl) rfl (k2 c1 c2)
    · refine ev_aload_n (dSe_countFrom.at 22 rfl) rfl ?_
      refine ev_getr (dSe_countFrom.at 23 rfl) (own := 3) rfl fkSe_9 rfl rfl ?_
      refine ev_iload (dSe_countFrom.at 24 rfl) rfl ?_
      refine ev_iaload (dSe_countFrom.at 25 rfl) rfl (o1 c1 c2) ?_
      refine ev_iload (dSe_countFrom.at 26 rfl) rfl ?_
      refine ev_cNi (dSe_countFrom.at 27 rfl) (As := [.int (w.1 17 x5.toNatClampNeg), .int x7]) (own := 3) rfl ckSe_107 (Or.inr rfl) rfl (Nat.le_of_ble_eq_true rfl) rfl (m1 c1 c2) ?_
      refine ev_if_eq (tgt := 102) (dSe_countFrom.at 28 rfl) rfl (fun c3 => ?_) (fun c3 => ?_)
      · refine ev_iinc (dSe_countFrom.at 54 rfl) kI_1 rfl (by decide) rfl ?_
        refine ev_goto (tgt := 27) (dSe_countFrom.at 55 rfl) rfl ?_
        exact (k3 c1 c2 c3)
      · refine ev_aload_n (dSe_countFrom.at 29 rfl) rfl ?_
        refine ev_getr (dSe_countFrom.at 30 rfl) (own := 3) rfl fkSe_54 rfl rfl ?_
        refine ev_lload_n (dSe_countFrom.at 31 rfl) rfl ?_
        refine ev_iload (dSe_countFrom.at 32 rfl) rfl ?_
        refine ev_iload (dSe_countFrom.at 33 rfl) rfl ?_
        refine ev_cVl (dSe_countFrom.at 34 rfl) (As := [.long y2, .int x5, .int x7]) (own := 3) rfl ckSe_145 rfl rfl rfl (Nat.le_of_ble_eq_true rfl) rfl (m2 c1 c2 c3) ?_
        refine ev_lstore (dSe_countFrom.at 35 rfl) (by decide) rfl ?_
        refine ev_iload (dSe_countFrom.at 36 rfl) rfl ?_
        refine ev_lload (dSe_countFrom.at 37 rfl) rfl ?_
        refine ev_ldc2 (dSe_countFrom.at 38 rfl) (own := 3) rfl (List.mem_of_getElem? (i := 0) rfl) ?_
        refine ev_lcmp (dSe_countFrom.at 39 rfl) ?_
        refine ev_if_ne (tgt := 85) (dSe_countFrom.at 40 rfl) rfl (fun c4 => ?_) (fun c4 => ?_)
        · rw [lg_cmp_eq] at c4
          refine ev_aload_n (dSe_countFrom.at 43 rfl) rfl ?_
          refine ev_iload_n (dSe_countFrom.at 44 rfl) rfl ?_
          refine ev_iconst (dSe_countFrom.at 45 rfl) kI_1 ?_
          refine ev_iadd (dSe_countFrom.at 46 rfl) ?_
          refine ev_lload (dSe_countFrom.at 47 rfl) rfl ?_
          refine ev_iload (dSe_countFrom.at 48 rfl) rfl ?_
          refine ev_iload (dSe_countFrom.at 49 rfl) rfl ?_
          refine ev_isub (dSe_countFrom.at 50 rfl) ?_
          refine ev_cSi (dSe_countFrom.at 51 rfl) (As := [.ref 16, .int (x1 + (1 : Int32)), .long f2, .int (x4 - x6)]) (own := 3) rfl ckSe_89 (Or.inl rfl) rfl (Nat.le_of_ble_eq_true rfl) rfl (m3 c1 c2 c3 c4) ?_
          refine ev_iadd (dSe_countFrom.at 52 rfl) ?_
          refine ev_istore (dSe_countFrom.at 53 rfl) (by decide) rfl ?_
          refine ev_iinc (dSe_countFrom.at 54 rfl) kI_1 rfl (by decide) rfl ?_
          refine ev_goto (tgt := 27) (dSe_countFrom.at 55 rfl) rfl ?_
          refine ev_kp [true, true, true, false, true, true, true, true, false, false] rfl ?_
          exact (k4 c1 c2 c3 c4)
        · rw [lg_cmp_eq] at c4
          refine ev_iconst (dSe_countFrom.at 41 rfl) kI_0 ?_
          refine ev_goto (tgt := 99) (dSe_countFrom.at 42 rfl) rfl ?_
          refine ev_iadd (dSe_countFrom.at 52 rfl) ?_
          refine ev_istore (dSe_countFrom.at 53 rfl) (by decide) rfl ?_
          refine ev_iinc (dSe_countFrom.at 54 rfl) kI_1 rfl (by decide) rfl ?_
          refine ev_goto (tgt := 27) (dSe_countFrom.at 55 rfl) rfl ?_
          refine ev_kp [true, true, true, false, true, true, true, true, false, false] rfl ?_
          exact (k5 c1 c2 c3 c4)
