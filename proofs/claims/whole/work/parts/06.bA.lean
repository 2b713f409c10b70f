/-! ===== blocks of the methods between cut points, written by program ===== -/
set_option maxHeartbeats 4000000 in
theorem bHo_has_0 {d : Nat} {w : sx_W} {Q : sx_Q} {x1 : Int32}
    (k1 : (x1 < 0) → Q (0 : Int32) 0 w)
    (k2 : (¬ x1 < 0) → ((w.1 1 4) ≤ x1) → Q (0 : Int32) 0 w)
    (k3 : (¬ x1 < 0) → (¬ (w.1 1 4) ≤ x1) → Q (1 : Int32) 0 w) :
    sx_ev d rHo_has 0 [.ref 1, .int x1] [] w Q := by
  refine ev_iload_n (dHo_has.at 0 rfl) rfl ?_
  refine ev_if_lt (tgt := 16) (dHo_has.at 1 rfl) rfl (fun c1 => ?_) (fun c1 => ?_)
  · refine ev_iconst (dHo_has.at 8 rfl) kI_0 ?_
    exact ev_zret (dHo_has.at 9 rfl) rfl (by decide) (k1 c1)
  · refine ev_iload_n (dHo_has.at 2 rfl) rfl ?_
    refine ev_aload_n (dHo_has.at 3 rfl) rfl ?_
    refine ev_get (dHo_has.at 4 rfl) (own := 0) rfl fkHo_24 rfl rfl ?_
    refine ev_icmp_ge (tgt := 16) (dHo_has.at 5 rfl) rfl (fun c2 => ?_) (fun c2 => ?_)
    · refine ev_iconst (dHo_has.at 8 rfl) kI_0 ?_
      exact ev_zret (dHo_has.at 9 rfl) rfl (by decide) (k2 c1 c2)
    · refine ev_iconst (dHo_has.at 6 rfl) kI_1 ?_
      refine ev_goto (tgt := 17) (dHo_has.at 7 rfl) rfl ?_
      exact ev_zret (dHo_has.at 9 rfl) rfl (by decide) (k3 c1 c2)
set_option maxHeartbeats 4000000 in
theorem bHo_isSetOfLodgers_0 {d : Nat} {w : sx_W} {Q : sx_Q} {x1 : Int32}
    (k1 : (x1 < 0) → Q (0 : Int32) 0 w)
    (k2 : (¬ x1 < 0) → (((1 : Int32) <<< ((w.1 1 4) &&& 31)) ≤ x1) → Q (0 : Int32) 0 w)
    (k3 : (¬ x1 < 0) → (¬ ((1 : Int32) <<< ((w.1 1 4) &&& 31)) ≤ x1) → Q (1 : Int32) 0 w) :
    sx_ev d rHo_isSetOfLodgers 0 [.ref 1, .int x1] [] w Q := by
  refine ev_iload_n (dHo_isSetOfLodgers.at 0 rfl) rfl ?_
  refine ev_if_lt (tgt := 18) (dHo_isSetOfLodgers.at 1 rfl) rfl (fun c1 => ?_) (fun c1 => ?_)
  · refine ev_iconst (dHo_isSetOfLodgers.at 10 rfl) kI_0 ?_
    exact ev_zret (dHo_isSetOfLodgers.at 11 rfl) rfl (by decide) (k1 c1)
  · refine ev_iload_n (dHo_isSetOfLodgers.at 2 rfl) rfl ?_
    refine ev_iconst (dHo_isSetOfLodgers.at 3 rfl) kI_1 ?_
    refine ev_aload_n (dHo_isSetOfLodgers.at 4 rfl) rfl ?_
    refine ev_get (dHo_isSetOfLodgers.at 5 rfl) (own := 0) rfl fkHo_24 rfl rfl ?_
    refine ev_ishl (dHo_isSetOfLodgers.at 6 rfl) ?_
    refine ev_icmp_ge (tgt := 18) (dHo_isSetOfLodgers.at 7 rfl) rfl (fun c2 => ?_) (fun c2 => ?_)
    · refine ev_iconst (dHo_isSetOfLodgers.at 10 rfl) kI_0 ?_
      exact ev_zret (dHo_isSetOfLodgers.at 11 rfl) rfl (by decide) (k2 c1 c2)
    · refine ev_iconst (dHo_isSetOfLodgers.at 8 rfl) kI_1 ?_
      refine ev_goto (tgt := 19) (dHo_isSetOfLodgers.at 9 rfl) rfl ?_
      exact ev_zret (dHo_isSetOfLodgers.at 11 rfl) rfl (by decide) (k3 c1 c2)
set_option maxHeartbeats 4000000 in
theorem bHo_needOfAll_0 {d : Nat} {w : sx_W} {Q : sx_Q}
    (k1 : sx_ev d rHo_needOfAll 4 [.ref 1, .int (0 : Int32), .int (0 : Int32)] [] w Q) :
    sx_ev d rHo_needOfAll 0 [.ref 1, .null, .null] [] w Q := by
  refine ev_iconst (dHo_needOfAll.at 0 rfl) kI_0 ?_
  refine ev_istore_n (dHo_needOfAll.at 1 rfl) (by decide) rfl ?_
  refine ev_iconst (dHo_needOfAll.at 2 rfl) kI_0 ?_
  refine ev_istore_n (dHo_needOfAll.at 3 rfl) (by decide) rfl ?_
  exact k1
set_option maxHeartbeats 4000000 in
theorem bHo_needOfAll_4 {d : Nat} {w : sx_W} {Q : sx_Q} {x1 : Int32} {x2 : Int32}
    (k1 : ((w.1 1 4) ≤ x2) → Q x1 0 w)
    (o1 : (¬ (w.1 1 4) ≤ x2) → vp_in x2 7)
    (k2 : (¬ (w.1 1 4) ≤ x2) → sx_ev d rHo_needOfAll 4 [.ref 1, .int (x1 + (w.1 3 x2.toNatClampNeg)), .int (x2 + (1 : Int32))] [] w Q) :
    sx_ev d rHo_needOfAll 4 [.ref 1, .int x1, .int x2] [] w Q := by
  refine ev_iload_n (dHo_needOfAll.at 4 rfl) rfl ?_
  refine ev_aload_n (dHo_needOfAll.at 5 rfl) rfl ?_
  refine ev_get (dHo_needOfAll.at 6 rfl) (own := 0) rfl fkHo_24 rfl rfl ?_
  refine ev_icmp_ge (tgt := 27) (dHo_needOfAll.at 7 rfl) rfl (fun c1 => ?_) (fun c1 => ?_)
  · refine ev_iload_n (dHo_needOfAll.at 17 rfl) rfl ?_
    exact ev_iret (dHo_needOfAll.at 18 rfl) rfl (k1 c1)
  · refine ev_iload_n (dHo_needOfAll.at 8 rfl) rfl ?_
    refine ev_aload_n (dHo_needOfAll.at 9 rfl) rfl ?_
    refine ev_getr (dHo_needOfAll.at 10 rfl) (own := 0) rfl fkHo_15 rfl rfl ?_
    refine ev_iload_n (dHo_needOfAll.at 11 rfl) rfl ?_
    refine ev_iaload (dHo_needOfAll.at 12 rfl) rfl (o1 c1) ?_
    refine ev_iadd (dHo_needOfAll.at 13 rfl) ?_
    refine ev_istore_n (dHo_needOfAll.at 14 rfl) (by decide) rfl ?_
    refine ev_iinc (dHo_needOfAll.at 15 rfl) kI_1 rfl (by decide) rfl ?_
    refine ev_goto (tgt := 4) (dHo_needOfAll.at 16 rfl) rfl ?_
    exact (k2 c1)
set_option maxHeartbeats 4000000 in
theorem bHo_sleepSet_0 {d : Nat} {w : sx_W} {Q : sx_Q} {x1 : Int32} {x2 : Int32}
    (o1 : vp_in x1 7)
    (k1 : (¬ (w.1 2 x1.toNatClampNeg) = (1 : Int32)) → Q (((((((1 : Int32) <<< ((w.1 3 x1.toNatClampNeg) &&& 31)) - (1 : Int32)) ||| (0 : Int32)) <<< (x2 &&& 31)) ||| ((((((1 : Int32) <<< ((w.1 3 x1.toNatClampNeg) &&& 31)) - (1 : Int32)) ||| (0 : Int32)) <<< (x2 &&& 31)) >>> ((8 : Int32) &&& 31))) &&& (255 : Int32)) 0 w)
    (k2 : ((w.1 2 x1.toNatClampNeg) = (1 : Int32)) → ((w.1 3 x1.toNatClampNeg) ≤ (1 : Int32)) → Q (((((((1 : Int32) <<< ((w.1 3 x1.toNatClampNeg) &&& 31)) - (1 : Int32)) ||| (0 : Int32)) <<< (x2 &&& 31)) ||| ((((((1 : Int32) <<< ((w.1 3 x1.toNatClampNeg) &&& 31)) - (1 : Int32)) ||| (0 : Int32)) <<< (x2 &&& 31)) >>> ((8 : Int32) &&& 31))) &&& (255 : Int32)) 0 w)
    (k3 : ((w.1 2 x1.toNatClampNeg) = (1 : Int32)) → (¬ (w.1 3 x1.toNatClampNeg) ≤ (1 : Int32)) → Q (((((((1 : Int32) <<< (((w.1 3 x1.toNatClampNeg) - (1 : Int32)) &&& 31)) - (1 : Int32)) ||| (16 : Int32)) <<< (x2 &&& 31)) ||| ((((((1 : Int32) <<< (((w.1 3 x1.toNatClampNeg) - (1 : Int32)) &&& 31)) - (1 : Int32)) ||| (16 : Int32)) <<< (x2 &&& 31)) >>> ((8 : Int32) &&& 31))) &&& (255 : Int32)) 0 w) :
    sx_ev d rHo_sleepSet 0 [.ref 1, .int x1, .int x2, .null, .null, .null, .null] [] w Q := by
  refine ev_aload_n (dHo_sleepSet.at 0 rfl) rfl ?_
  refine ev_getr (dHo_sleepSet.at 1 rfl) (own := 0) rfl fkHo_9 rfl rfl ?_
  refine ev_iload_n (dHo_sleepSet.at 2 rfl) rfl ?_
  refine ev_iaload (dHo_sleepSet.at 3 rfl) rfl o1 ?_
  refine ev_iconst (dHo_sleepSet.at 4 rfl) kI_1 ?_
  refine ev_icmp_ne (tgt := 24) (dHo_sleepSet.at 5 rfl) rfl (fun c1 => ?_) (fun c1 => ?_)
  · refine ev_iconst (dHo_sleepSet.at 14 rfl) kI_0 ?_
    refine ev_istore_n (dHo_sleepSet.at 15 rfl) (by decide) rfl ?_
    refine ev_iload_n (dHo_sleepSet.at 16 rfl) rfl ?_
    refine ev_if_eq (tgt := 41) (dHo_sleepSet.at 17 rfl) rfl (fun _ => ?_) (fun h => absurd h (by decide))
    refine ev_aload_n (dHo_sleepSet.at 25 rfl) rfl ?_
    refine ev_getr (dHo_sleepSet.at 26 rfl) (own := 0) rfl fkHo_15 rfl rfl ?_
    refine ev_iload_n (dHo_sleepSet.at 27 rfl) rfl ?_
    refine ev_iaload (dHo_sleepSet.at 28 rfl) rfl o1 ?_
    refine ev_istore (dHo_sleepSet.at 29 rfl) (by decide) rfl ?_
    refine ev_iconst (dHo_sleepSet.at 30 rfl) kI_1 ?_
    refine ev_iload (dHo_sleepSet.at 31 rfl) rfl ?_
    refine ev_ishl (dHo_sleepSet.at 32 rfl) ?_
    refine ev_iconst (dHo_sleepSet.at 33 rfl) kI_1 ?_
    refine ev_isub (dHo_sleepSet.at 34 rfl) ?_
    refine ev_iload_n (dHo_sleepSet.at 35 rfl) rfl ?_
    refine ev_if_eq (tgt := 64) (dHo_sleepSet.at 36 rfl) rfl (fun _ => ?_) (fun h => absurd h (by decide))
    refine ev_iconst (dHo_sleepSet.at 39 rfl) kI_0 ?_
    refine ev_ior (dHo_sleepSet.at 40 rfl) ?_
    refine ev_istore (dHo_sleepSet.at 41 rfl) (by decide) rfl ?_
    refine ev_iload (dHo_sleepSet.at 42 rfl) rfl ?_
    refine ev_iload_n (dHo_sleepSet.at 43 rfl) rfl ?_
    refine ev_ishl (dHo_sleepSet.at 44 rfl) ?_
    refine ev_istore (dHo_sleepSet.at 45 rfl) (by decide) rfl ?_
    refine ev_iload (dHo_sleepSet.at 46 rfl) rfl ?_
    refine ev_iload (dHo_sleepSet.at 47 rfl) rfl ?_
    refine ev_bipush (dHo_sleepSet.at 48 rfl) kB_8 ?_
    refine ev_ishr (dHo_sleepSet.at 49 rfl) ?_
    refine ev_ior (dHo_sleepSet.at 50 rfl) ?_
    refine ev_sipush (dHo_sleepSet.at 51 rfl) kS_255 ?_
    refine ev_iand (dHo_sleepSet.at 52 rfl) ?_
    exact ev_iret (dHo_sleepSet.at 53 rfl) rfl (k1 c1)
  · refine ev_aload_n (dHo_sleepSet.at 6 rfl) rfl ?_
    refine ev_getr (dHo_sleepSet.at 7 rfl) (own := 0) rfl fkHo_15 rfl rfl ?_
    refine ev_iload_n (dHo_sleepSet.at 8 rfl) rfl ?_
    refine ev_iaload (dHo_sleepSet.at 9 rfl) rfl o1 ?_
    refine ev_iconst (dHo_sleepSet.at 10 rfl) kI_1 ?_
    refine ev_icmp_le (tgt := 24) (dHo_sleepSet.at 11 rfl) rfl (fun c2 => ?_) (fun c2 => ?_)
    · refine ev_iconst (dHo_sleepSet.at 14 rfl) kI_0 ?_
      refine ev_istore_n (dHo_sleepSet.at 15 rfl) (by decide) rfl ?_
      refine ev_iload_n (dHo_sleepSet.at 16 rfl) rfl ?_
      refine ev_if_eq (tgt := 41) (dHo_sleepSet.at 17 rfl) rfl (fun _ => ?_) (fun h => absurd h (by decide))
      refine ev_aload_n (dHo_sleepSet.at 25 rfl) rfl ?_
      refine ev_getr (dHo_sleepSet.at 26 rfl) (own := 0) rfl fkHo_15 rfl rfl ?_
      refine ev_iload_n (dHo_sleepSet.at 27 rfl) rfl ?_
      refine ev_iaload (dHo_sleepSet.at 28 rfl) rfl o1 ?_
      refine ev_istore (dHo_sleepSet.at 29 rfl) (by decide) rfl ?_
      refine ev_iconst (dHo_sleepSet.at 30 rfl) kI_1 ?_
      refine ev_iload (dHo_sleepSet.at 31 rfl) rfl ?_
      refine ev_ishl (dHo_sleepSet.at 32 rfl) ?_
      refine ev_iconst (dHo_sleepSet.at 33 rfl) kI_1 ?_
      refine ev_isub (dHo_sleepSet.at 34 rfl) ?_
      refine ev_iload_n (dHo_sleepSet.at 35 rfl) rfl ?_
      refine ev_if_eq (tgt := 64) (dHo_sleepSet.at 36 rfl) rfl (fun _ => ?_) (fun h => absurd h (by decide))
      refine ev_iconst (dHo_sleepSet.at 39 rfl) kI_0 ?_
      refine ev_ior (dHo_sleepSet.at 40 rfl) ?_
      refine ev_istore (dHo_sleepSet.at 41 rfl) (by decide) rfl ?_
      refine ev_iload (dHo_sleepSet.at 42 rfl) rfl ?_
      refine ev_iload_n (dHo_sleepSet.at 43 rfl) rfl ?_
      refine ev_ishl (dHo_sleepSet.at 44 rfl) ?_
      refine ev_istore (dHo_sleepSet.at 45 rfl) (by decide) rfl ?_
      refine ev_iload (dHo_sleepSet.at 46 rfl) rfl ?_
      refine ev_iload (dHo_sleepSet.at 47 rfl) rfl ?_
      refine ev_bipush (dHo_sleepSet.at 48 rfl) kB_8 ?_
      refine ev_ishr (dHo_sleepSet.at 49 rfl) ?_
      refine ev_ior (dHo_sleepSet.at 50 rfl) ?_
      refine ev_sipush (dHo_sleepSet.at 51 rfl) kS_255 ?_
      refine ev_iand (dHo_sleepSet.at 52 rfl) ?_
      exact ev_iret (dHo_sleepSet.at 53 rfl) rfl (k2 c1 c2)
    · refine ev_iconst (dHo_sleepSet.at 12 rfl) kI_1 ?_
      refine ev_goto (tgt := 25) (dHo_sleepSet.at 13 rfl) rfl ?_
      refine ev_istore_n (dHo_sleepSet.at 15 rfl) (by decide) rfl ?_
      refine ev_iload_n (dHo_sleepSet.at 16 rfl) rfl ?_
      refine ev_if_eq (tgt := 41) (dHo_sleepSet.at 17 rfl) rfl (fun h => absurd h (by decide)) (fun _ => ?_)
      refine ev_aload_n (dHo_sleepSet.at 18 rfl) rfl ?_
      refine ev_getr (dHo_sleepSet.at 19 rfl) (own := 0) rfl fkHo_15 rfl rfl ?_
      refine ev_iload_n (dHo_sleepSet.at 20 rfl) rfl ?_
      refine ev_iaload (dHo_sleepSet.at 21 rfl) rfl o1 ?_
      refine ev_iconst (dHo_sleepSet.at 22 rfl) kI_1 ?_
      refine ev_isub (dHo_sleepSet.at 23 rfl) ?_
      refine ev_goto (tgt := 47) (dHo_sleepSet.at 24 rfl) rfl ?_
      refine ev_istore (dHo_sleepSet.at 29 rfl) (by decide) rfl ?_
      refine ev_iconst (dHo_sleepSet.at 30 rfl) kI_1 ?_
      refine ev_iload (dHo_sleepSet.at 31 rfl) rfl ?_
      refine ev_ishl (dHo_sleepSet.at 32 rfl) ?_
      refine ev_iconst (dHo_sleepSet.at 33 rfl) kI_1 ?_
      refine ev_isub (dHo_sleepSet.at 34 rfl) ?_
      refine ev_iload_n (dHo_sleepSet.at 35 rfl) rfl ?_
      refine ev_if_eq (tgt := 64) (dHo_sleepSet.at 36 rfl) rfl (fun h => absurd h (by decide)) (fun _ => ?_)
      refine ev_bipush (dHo_sleepSet.at 37 rfl) kB_16 ?_
      refine ev_goto (tgt := 65) (dHo_sleepSet.at 38 rfl) rfl ?_
      refine ev_ior (dHo_sleepSet.at 40 rfl) ?_
      refine ev_istore (dHo_sleepSet.at 41 rfl) (by decide) rfl ?_
      refine ev_iload (dHo_sleepSet.at 42 rfl) rfl ?_
      refine ev_iload_n (dHo_sleepSet.at 43 rfl) rfl ?_
      refine ev_ishl (dHo_sleepSet.at 44 rfl) ?_
      refine ev_istore (dHo_sleepSet.at 45 rfl) (by decide) rfl ?_
      refine ev_iload (dHo_sleepSet.at 46 rfl) rfl ?_
      refine ev_iload (dHo_sleepSet.at 47 rfl) rfl ?_
      refine ev_bipush (dHo_sleepSet.at 48 rfl) kB_8 ?_
      refine ev_ishr (dHo_sleepSet.at 49 rfl) ?_
      refine ev_ior (dHo_sleepSet.at 50 rfl) ?_
      refine ev_sipush (dHo_sleepSet.at 51 rfl) kS_255 ?_
      refine ev_iand (dHo_sleepSet.at 52 rfl) ?_
      exact ev_iret (dHo_sleepSet.at 53 rfl) rfl (k3 c1 c2)
set_option maxHeartbeats 4000000 in
theorem bHo_admit_0 {d : Nat} {w : sx_W} {Q : sx_Q} {x1 : Int32} {x2 : Int32} {x3 : Int32} {w1 : sx_W}
    (o1 : ((w.1 1 4) < (7 : Int32)) → vp_in (w.1 1 4) 7)
    (m1 : ((w.1 1 4) < (7 : Int32)) → sx_de d rHo_lodgersChanged [.ref 1] ((sx_u (sx_u (sx_u (sx_u (sx_u w.1 2 (w.1 1 4).toNatClampNeg x1) 3 (w.1 1 4).toNatClampNeg x2) 4 (w.1 1 4).toNatClampNeg x3) 1 4 ((w.1 1 4) + (1 : Int32))) 1 7 (0 : Int32)), w.2) 0 0 w1)
    (k1 : ((w.1 1 4) < (7 : Int32)) → Q 0 0 w1)
    (k2 : (¬ (w.1 1 4) < (7 : Int32)) → Q 0 0 w) :
    sx_ev (d + 1) rHo_admit 0 [.ref 1, .int x1, .int x2, .int x3] [] w Q := by
  refine ev_aload_n (dHo_admit.at 0 rfl) rfl ?_
  refine ev_get (dHo_admit.at 1 rfl) (own := 0) rfl fkHo_24 rfl rfl ?_
  refine ev_bipush (dHo_admit.at 2 rfl) kB_7 ?_
  refine ev_icmp_lt (tgt := 10) (dHo_admit.at 3 rfl) rfl (fun c1 => ?_) (fun c1 => ?_)
  · refine ev_aload_n (dHo_admit.at 5 rfl) rfl ?_
    refine ev_getr (dHo_admit.at 6 rfl) (own := 0) rfl fkHo_9 rfl rfl ?_
    refine ev_aload_n (dHo_admit.at 7 rfl) rfl ?_
    refine ev_get (dHo_admit.at 8 rfl) (own := 0) rfl fkHo_24 rfl rfl ?_
    refine ev_iload_n (dHo_admit.at 9 rfl) rfl ?_
    refine ev_iastore (dHo_admit.at 10 rfl) rfl (o1 c1) ?_
    refine ev_aload_n (dHo_admit.at 11 rfl) rfl ?_
    refine ev_getr (dHo_admit.at 12 rfl) (own := 0) rfl fkHo_15 rfl rfl ?_
    refine ev_aload_n (dHo_admit.at 13 rfl) rfl ?_
    refine ev_get (dHo_admit.at 14 rfl) (own := 0) rfl fkHo_24 rfl rfl ?_
    refine ev_iload_n (dHo_admit.at 15 rfl) rfl ?_
    refine ev_iastore (dHo_admit.at 16 rfl) rfl (o1 c1) ?_
    refine ev_aload_n (dHo_admit.at 17 rfl) rfl ?_
    refine ev_getr (dHo_admit.at 18 rfl) (own := 0) rfl fkHo_18 rfl rfl ?_
    refine ev_aload_n (dHo_admit.at 19 rfl) rfl ?_
    refine ev_get (dHo_admit.at 20 rfl) (own := 0) rfl fkHo_24 rfl rfl ?_
    refine ev_iload_n (dHo_admit.at 21 rfl) rfl ?_
    refine ev_iastore (dHo_admit.at 22 rfl) rfl (o1 c1) ?_
    refine ev_aload_n (dHo_admit.at 23 rfl) rfl ?_
    refine ev_dup (dHo_admit.at 24 rfl) rfl ?_
    refine ev_get (dHo_admit.at 25 rfl) (own := 0) rfl fkHo_24 rfl rfl ?_
    refine ev_iconst (dHo_admit.at 26 rfl) kI_1 ?_
    refine ev_iadd (dHo_admit.at 27 rfl) ?_
    refine ev_put (dHo_admit.at 28 rfl) (own := 0) rfl fkHo_24 rfl rfl ?_
    refine ev_aload_n (dHo_admit.at 29 rfl) rfl ?_
    refine ev_iconst (dHo_admit.at 30 rfl) kI_0 ?_
    refine ev_putz (dHo_admit.at 31 rfl) (own := 0) rfl fkHo_34 rfl rfl (by decide) ?_
    refine ev_aload_n (dHo_admit.at 32 rfl) rfl ?_
    refine ev_cVv (dHo_admit.at 33 rfl) (As := []) (own := 0) rfl ckHo_44 rfl rfl rfl (Nat.le_of_ble_eq_true rfl) rfl (m1 c1) ?_
    exact ev_vret (dHo_admit.at 34 rfl) rfl (k1 c1)
  · exact ev_vret (dHo_admit.at 4 rfl) rfl (k2 c1)
set_option maxHeartbeats 4000000 in
theorem bHo_dismiss_0 {d : Nat} {w : sx_W} {Q : sx_Q} {x1 : Int32}
    (k1 : sx_ev d rHo_dismiss 2 [.ref 1, .null, .int x1] [] w Q) :
    sx_ev d rHo_dismiss 0 [.ref 1, .int x1, .null] [] w Q := by
  refine ev_iload_n (dHo_dismiss.at 0 rfl) rfl ?_
  refine ev_istore_n (dHo_dismiss.at 1 rfl) (by decide) rfl ?_
  refine ev_kp [true, false, true] rfl ?_
  exact k1
set_option maxHeartbeats 4000000 in
theorem bHo_dismiss_2 {d : Nat} {w : sx_W} {Q : sx_Q} {x2 : Int32} {w1 : sx_W}
    (m1 : ((w.1 1 4) ≤ (x2 + (1 : Int32))) → sx_de d rHo_lodgersChanged [.ref 1] ((sx_u (sx_u w.1 1 4 ((w.1 1 4) - (1 : Int32))) 1 7 (0 : Int32)), w.2) 0 0 w1)
    (k1 : ((w.1 1 4) ≤ (x2 + (1 : Int32))) → Q 0 0 w1)
    (o1 : (¬ (w.1 1 4) ≤ (x2 + (1 : Int32))) → vp_in (x2 + (1 : Int32)) 7)
    (o2 : (¬ (w.1 1 4) ≤ (x2 + (1 : Int32))) → vp_in x2 7)
    (k2 : (¬ (w.1 1 4) ≤ (x2 + (1 : Int32))) → sx_ev (d + 1) rHo_dismiss 2 [.ref 1, .null, .int (x2 + (1 : Int32))] [] ((sx_u (sx_u (sx_u w.1 2 x2.toNatClampNeg (w.1 2 (x2 + (1 : Int32)).toNatClampNeg)) 3 x2.toNatClampNeg (w.1 3 (x2 + (1 : Int32)).toNatClampNeg)) 4 x2.toNatClampNeg (w.1 4 (x2 + (1 : Int32)).toNatClampNeg)), w.2) Q) :
    sx_ev (d + 1) rHo_dismiss 2 [.ref 1, .null, .int x2] [] w Q := by
  refine ev_iload_n (dHo_dismiss.at 2 rfl) rfl ?_
  refine ev_iconst (dHo_dismiss.at 3 rfl) kI_1 ?_
  refine ev_iadd (dHo_dismiss.at 4 rfl) ?_
  refine ev_aload_n (dHo_dismiss.at 5 rfl) rfl ?_
  refine ev_get (dHo_dismiss.at 6 rfl) (own := 0) rfl fkHo_24 rfl rfl ?_
  refine ev_icmp_ge (tgt := 60) (dHo_dismiss.at 7 rfl) rfl (fun c1 => ?_) (fun c1 => ?_)
  · refine ev_aload_n (dHo_dismiss.at 40 rfl) rfl ?_
    refine ev_dup (dHo_dismiss.at 41 rfl) rfl ?_
    refine ev_get (dHo_dismiss.at 42 rfl) (own := 0) rfl fkHo_24 rfl rfl ?_
    refine ev_iconst (dHo_dismiss.at 43 rfl) kI_1 ?_
    refine ev_isub (dHo_dismiss.at 44 rfl) ?_
    refine ev_put (dHo_dismiss.at 45 rfl) (own := 0) rfl fkHo_24 rfl rfl ?_
    refine ev_aload_n (dHo_dismiss.at 46 rfl) rfl ?_
    refine ev_iconst (dHo_dismiss.at 47 rfl) kI_0 ?_
    refine ev_putz (dHo_dismiss.at 48 rfl) (own := 0) rfl fkHo_34 rfl rfl (by decide) ?_
    refine ev_aload_n (dHo_dismiss.at 49 rfl) rfl ?_
    refine ev_cVv (dHo_dismiss.at 50 rfl) (As := []) (own := 0) rfl ckHo_44 rfl rfl rfl (Nat.le_of_ble_eq_true rfl) rfl (m1 c1) ?_
    exact ev_vret (dHo_dismiss.at 51 rfl) rfl (k1 c1)
  · refine ev_aload_n (dHo_dismiss.at 8 rfl) rfl ?_
    refine ev_getr (dHo_dismiss.at 9 rfl) (own := 0) rfl fkHo_9 rfl rfl ?_
    refine ev_iload_n (dHo_dismiss.at 10 rfl) rfl ?_
    refine ev_aload_n (dHo_dismiss.at 11 rfl) rfl ?_
    refine ev_getr (dHo_dismiss.at 12 rfl) (own := 0) rfl fkHo_9 rfl rfl ?_
    refine ev_iload_n (dHo_dismiss.at 13 rfl) rfl ?_
    refine ev_iconst (dHo_dismiss.at 14 rfl) kI_1 ?_
    refine ev_iadd (dHo_dismiss.at 15 rfl) ?_
    refine ev_iaload (dHo_dismiss.at 16 rfl) rfl (o1 c1) ?_
    refine ev_iastore (dHo_dismiss.at 17 rfl) rfl (o2 c1) ?_
    refine ev_aload_n (dHo_dismiss.at 18 rfl) rfl ?_
    refine ev_getr (dHo_dismiss.at 19 rfl) (own := 0) rfl fkHo_15 rfl rfl ?_
    refine ev_iload_n (dHo_dismiss.at 20 rfl) rfl ?_
    refine ev_aload_n (dHo_dismiss.at 21 rfl) rfl ?_
    refine ev_getr (dHo_dismiss.at 22 rfl) (own := 0) rfl fkHo_15 rfl rfl ?_
    refine ev_iload_n (dHo_dismiss.at 23 rfl) rfl ?_
    refine ev_iconst (dHo_dismiss.at 24 rfl) kI_1 ?_
    refine ev_iadd (dHo_dismiss.at 25 rfl) ?_
    refine ev_iaload (dHo_dismiss.at 26 rfl) rfl (o1 c1) ?_
    refine ev_iastore (dHo_dismiss.at 27 rfl) rfl (o2 c1) ?_
    refine ev_aload_n (dHo_dismiss.at 28 rfl) rfl ?_
    refine ev_getr (dHo_dismiss.at 29 rfl) (own := 0) rfl fkHo_18 rfl rfl ?_
    refine ev_iload_n (dHo_dismiss.at 30 rfl) rfl ?_
    refine ev_aload_n (dHo_dismiss.at 31 rfl) rfl ?_
    refine ev_getr (dHo_dismiss.at 32 rfl) (own := 0) rfl fkHo_18 rfl rfl ?_
    refine ev_iload_n (dHo_dismiss.at 33 rfl) rfl ?_
    refine ev_iconst (dHo_dismiss.at 34 rfl) kI_1 ?_
    refine ev_iadd (dHo_dismiss.at 35 rfl) ?_
    refine ev_iaload (dHo_dismiss.at 36 rfl) rfl (o1 c1) ?_
    refine ev_iastore (dHo_dismiss.at 37 rfl) rfl (o2 c1) ?_
    refine ev_iinc (dHo_dismiss.at 38 rfl) kI_1 rfl (by decide) rfl ?_
    refine ev_goto (tgt := 2) (dHo_dismiss.at 39 rfl) rfl ?_
    exact (k2 c1)
set_option maxHeartbeats 4000000 in
theorem bHo_empty_0 {d : Nat} {w : sx_W} {Q : sx_Q} {w1 : sx_W}
    (m1 : sx_de d rHo_lodgersChanged [.ref 1] ((sx_u (sx_u w.1 1 4 (0 : Int32)) 1 7 (0 : Int32)), w.2) 0 0 w1)
    (k1 : Q 0 0 w1) :
    sx_ev (d + 1) rHo_empty 0 [.ref 1] [] w Q := by
  refine ev_aload_n (dHo_empty.at 0 rfl) rfl ?_
  refine ev_iconst (dHo_empty.at 1 rfl) kI_0 ?_
  refine ev_put (dHo_empty.at 2 rfl) (own := 0) rfl fkHo_24 rfl rfl ?_
  refine ev_aload_n (dHo_empty.at 3 rfl) rfl ?_
  refine ev_iconst (dHo_empty.at 4 rfl) kI_0 ?_
  refine ev_putz (dHo_empty.at 5 rfl) (own := 0) rfl fkHo_34 rfl rfl (by decide) ?_
  refine ev_aload_n (dHo_empty.at 6 rfl) rfl ?_
  refine ev_cVv (dHo_empty.at 7 rfl) (As := []) (own := 0) rfl ckHo_44 rfl rfl rfl (Nat.le_of_ble_eq_true rfl) rfl m1 ?_
  exact ev_vret (dHo_empty.at 8 rfl) rfl k1
set_option maxHeartbeats 4000000 in
theorem bHo_employ_0 {d : Nat} {w : sx_W} {Q : sx_Q} {x1 : Int32} {x2 : Int32} {w1 : sx_W}
    (o1 : vp_in x1 7)
    (m1 : sx_de d rHo_lodgersChanged [.ref 1] ((sx_u w.1 4 x1.toNatClampNeg x2), w.2) 0 0 w1)
    (k1 : Q 0 0 w1) :
    sx_ev (d + 1) rHo_employ 0 [.ref 1, .int x1, .int x2] [] w Q := by
  refine ev_aload_n (dHo_employ.at 0 rfl) rfl ?_
  refine ev_getr (dHo_employ.at 1 rfl) (own := 0) rfl fkHo_18 rfl rfl ?_
  refine ev_iload_n (dHo_employ.at 2 rfl) rfl ?_
  refine ev_iload_n (dHo_employ.at 3 rfl) rfl ?_
  refine ev_iastore (dHo_employ.at 4 rfl) rfl o1 ?_
  refine ev_aload_n (dHo_employ.at 5 rfl) rfl ?_
  refine ev_cVv (dHo_employ.at 6 rfl) (As := []) (own := 0) rfl ckHo_44 rfl rfl rfl (Nat.le_of_ble_eq_true rfl) rfl m1 ?_
  exact ev_vret (dHo_employ.at 7 rfl) rfl k1
set_option maxHeartbeats 4000000 in
theorem bHo_furnish_0 {d : Nat} {w : sx_W} {Q : sx_Q} {x1 : Int32} {w1 : sx_W}
    (m1 : sx_de d rHo_lodgersChanged [.ref 1] ((sx_u w.1 1 5 x1), w.2) 0 0 w1)
    (k1 : Q 0 0 w1) :
    sx_ev (d + 1) rHo_furnish 0 [.ref 1, .int x1] [] w Q := by
  refine ev_aload_n (dHo_furnish.at 0 rfl) rfl ?_
  refine ev_iload_n (dHo_furnish.at 1 rfl) rfl ?_
  refine ev_put (dHo_furnish.at 2 rfl) (own := 0) rfl fkHo_28 rfl rfl ?_
  refine ev_aload_n (dHo_furnish.at 3 rfl) rfl ?_
  refine ev_cVv (dHo_furnish.at 4 rfl) (As := []) (own := 0) rfl ckHo_44 rfl rfl rfl (Nat.le_of_ble_eq_true rfl) rfl m1 ?_
  exact ev_vret (dHo_furnish.at 5 rfl) rfl k1
set_option maxHeartbeats 4000000 in
theorem bHo_tellRow_22_0 {d : Nat} {w : sx_W} {Q : sx_Q}
    (o1 : ¬ (w.1 1 4) < 0)
    (o2 : 0 + (w.1 1 4).toNatClampNeg ≤ 7)
    (k1 : Q 0 0 ((sx_u (sx_u (sx_cp w.1 22 5 0 0 (w.1 1 4).toNatClampNeg) 1 7 (1 : Int32)) 1 8 ((w.1 1 8) + (1 : Int32))), w.2)) :
    sx_ev (d + 1) rHo_tellRow 0 [.ref 1, .ref 22] [] w Q := by
  refine ev_aload_n (dHo_tellRow.at 0 rfl) rfl ?_
  refine ev_iconst (dHo_tellRow.at 1 rfl) kI_0 ?_
  refine ev_aload_n (dHo_tellRow.at 2 rfl) rfl ?_
  refine ev_getr (dHo_tellRow.at 3 rfl) (own := 0) rfl fkHo_21 rfl rfl ?_
  refine ev_iconst (dHo_tellRow.at 4 rfl) kI_0 ?_
  refine ev_aload_n (dHo_tellRow.at 5 rfl) rfl ?_
  refine ev_get (dHo_tellRow.at 6 rfl) (own := 0) rfl fkHo_24 rfl rfl ?_
  refine ev_copyi (dHo_tellRow.at 7 rfl) (own := 0) rfl (List.mem_of_getElem? (i := 0) rfl) rfl rfl (Nat.le_of_ble_eq_true rfl) (by decide) (by decide) o1 o2 o2 ?_
  refine ev_aload_n (dHo_tellRow.at 8 rfl) rfl ?_
  refine ev_iconst (dHo_tellRow.at 9 rfl) kI_1 ?_
  refine ev_putz (dHo_tellRow.at 10 rfl) (own := 0) rfl fkHo_34 rfl rfl (by decide) ?_
  refine ev_aload_n (dHo_tellRow.at 11 rfl) rfl ?_
  refine ev_dup (dHo_tellRow.at 12 rfl) rfl ?_
  refine ev_get (dHo_tellRow.at 13 rfl) (own := 0) rfl fkHo_38 rfl rfl ?_
  refine ev_iconst (dHo_tellRow.at 14 rfl) kI_1 ?_
  refine ev_iadd (dHo_tellRow.at 15 rfl) ?_
  refine ev_put (dHo_tellRow.at 16 rfl) (own := 0) rfl fkHo_38 rfl rfl ?_
  exact ev_vret (dHo_tellRow.at 17 rfl) rfl k1
set_option maxHeartbeats 4000000 in
theorem bHo_tellRow_39_0 {d : Nat} {w : sx_W} {Q : sx_Q}
    (o1 : ¬ (w.1 1 4) < 0)
    (o2 : 0 + (w.1 1 4).toNatClampNeg ≤ 8)
    (o3 : 0 + (w.1 1 4).toNatClampNeg ≤ 7)
    (k1 : Q 0 0 ((sx_u (sx_u (sx_cp w.1 39 5 0 0 (w.1 1 4).toNatClampNeg) 1 7 (1 : Int32)) 1 8 ((w.1 1 8) + (1 : Int32))), w.2)) :
    sx_ev (d + 1) rHo_tellRow 0 [.ref 1, .ref 39] [] w Q := by
  refine ev_aload_n (dHo_tellRow.at 0 rfl) rfl ?_
  refine ev_iconst (dHo_tellRow.at 1 rfl) kI_0 ?_
  refine ev_aload_n (dHo_tellRow.at 2 rfl) rfl ?_
  refine ev_getr (dHo_tellRow.at 3 rfl) (own := 0) rfl fkHo_21 rfl rfl ?_
  refine ev_iconst (dHo_tellRow.at 4 rfl) kI_0 ?_
  refine ev_aload_n (dHo_tellRow.at 5 rfl) rfl ?_
  refine ev_get (dHo_tellRow.at 6 rfl) (own := 0) rfl fkHo_24 rfl rfl ?_
  refine ev_copyi (dHo_tellRow.at 7 rfl) (own := 0) rfl (List.mem_of_getElem? (i := 0) rfl) rfl rfl (Nat.le_of_ble_eq_true rfl) (by decide) (by decide) o1 o2 o3 ?_
  refine ev_aload_n (dHo_tellRow.at 8 rfl) rfl ?_
  refine ev_iconst (dHo_tellRow.at 9 rfl) kI_1 ?_
  refine ev_putz (dHo_tellRow.at 10 rfl) (own := 0) rfl fkHo_34 rfl rfl (by decide) ?_
  refine ev_aload_n (dHo_tellRow.at 11 rfl) rfl ?_
  refine ev_dup (dHo_tellRow.at 12 rfl) rfl ?_
  refine ev_get (dHo_tellRow.at 13 rfl) (own := 0) rfl fkHo_38 rfl rfl ?_
  refine ev_iconst (dHo_tellRow.at 14 rfl) kI_1 ?_
  refine ev_iadd (dHo_tellRow.at 15 rfl) ?_
  refine ev_put (dHo_tellRow.at 16 rfl) (own := 0) rfl fkHo_38 rfl rfl ?_
  exact ev_vret (dHo_tellRow.at 17 rfl) rfl k1
set_option maxHeartbeats 4000000 in
theorem bHo_shift_0 {d : Nat} {w : sx_W} {Q : sx_Q} {x1 : Int32} {x2 : Int32}
    (o1 : vp_in x1 7)
    (k1 : Q 0 0 ((sx_u (sx_u w.1 5 x1.toNatClampNeg x2) 1 8 ((w.1 1 8) + (1 : Int32))), w.2)) :
    sx_ev d rHo_shift 0 [.ref 1, .int x1, .int x2] [] w Q := by
  refine ev_aload_n (dHo_shift.at 0 rfl) rfl ?_
  refine ev_getr (dHo_shift.at 1 rfl) (own := 0) rfl fkHo_21 rfl rfl ?_
  refine ev_iload_n (dHo_shift.at 2 rfl) rfl ?_
  refine ev_iload_n (dHo_shift.at 3 rfl) rfl ?_
  refine ev_iastore (dHo_shift.at 4 rfl) rfl o1 ?_
  refine ev_aload_n (dHo_shift.at 5 rfl) rfl ?_
  refine ev_dup (dHo_shift.at 6 rfl) rfl ?_
  refine ev_get (dHo_shift.at 7 rfl) (own := 0) rfl fkHo_38 rfl rfl ?_
  refine ev_iconst (dHo_shift.at 8 rfl) kI_1 ?_
  refine ev_iadd (dHo_shift.at 9 rfl) ?_
  refine ev_put (dHo_shift.at 10 rfl) (own := 0) rfl fkHo_38 rfl rfl ?_
  exact ev_vret (dHo_shift.at 11 rfl) rfl k1
set_option maxHeartbeats 4000000 in
theorem bHo_become_6_0 {d : Nat} {w : sx_W} {Q : sx_Q} {w1 : sx_W}
    (o1 : ((w.1 1 7) = 0 ∨ (w.1 1 7) = 1))
    (m1 : sx_de d rHo_lodgersChanged [.ref 6] ((sx_u (sx_u (sx_u (sx_u (sx_cp (sx_cp (sx_cp (sx_cp w.1 2 7 0 0 7) 3 8 0 0 7) 4 9 0 0 7) 5 10 0 0 7) 6 4 (w.1 1 4)) 6 5 (w.1 1 5)) 6 6 (w.1 1 6)) 6 7 (w.1 1 7)), w.2) 0 0 w1)
    (k1 : Q 0 0 w1) :
    sx_ev (d + 1) rHo_become 0 [.ref 6, .ref 1] [] w Q := by
  refine ev_aload_n (dHo_become.at 0 rfl) rfl ?_
  refine ev_getr (dHo_become.at 1 rfl) (own := 0) rfl fkHo_9 rfl rfl ?_
  refine ev_iconst (dHo_become.at 2 rfl) kI_0 ?_
  refine ev_aload_n (dHo_become.at 3 rfl) rfl ?_
  refine ev_getr (dHo_become.at 4 rfl) (own := 0) rfl fkHo_9 rfl rfl ?_
  refine ev_iconst (dHo_become.at 5 rfl) kI_0 ?_
  refine ev_bipush (dHo_become.at 6 rfl) kB_7 ?_
  refine ev_copyi (dHo_become.at 7 rfl) (own := 0) rfl (List.mem_of_getElem? (i := 0) rfl) rfl rfl (Nat.le_of_ble_eq_true rfl) (by decide) (by decide) (by decide) (by decide) (by decide) ?_
  refine ev_aload_n (dHo_become.at 8 rfl) rfl ?_
  refine ev_getr (dHo_become.at 9 rfl) (own := 0) rfl fkHo_15 rfl rfl ?_
  refine ev_iconst (dHo_become.at 10 rfl) kI_0 ?_
  refine ev_aload_n (dHo_become.at 11 rfl) rfl ?_
  refine ev_getr (dHo_become.at 12 rfl) (own := 0) rfl fkHo_15 rfl rfl ?_
  refine ev_iconst (dHo_become.at 13 rfl) kI_0 ?_
  refine ev_bipush (dHo_become.at 14 rfl) kB_7 ?_
  refine ev_copyi (dHo_become.at 15 rfl) (own := 0) rfl (List.mem_of_getElem? (i := 0) rfl) rfl rfl (Nat.le_of_ble_eq_true rfl) (by decide) (by decide) (by decide) (by decide) (by decide) ?_
  refine ev_aload_n (dHo_become.at 16 rfl) rfl ?_
  refine ev_getr (dHo_become.at 17 rfl) (own := 0) rfl fkHo_18 rfl rfl ?_
  refine ev_iconst (dHo_become.at 18 rfl) kI_0 ?_
  refine ev_aload_n (dHo_become.at 19 rfl) rfl ?_
  refine ev_getr (dHo_become.at 20 rfl) (own := 0) rfl fkHo_18 rfl rfl ?_
  refine ev_iconst (dHo_become.at 21 rfl) kI_0 ?_
  refine ev_bipush (dHo_become.at 22 rfl) kB_7 ?_
  refine ev_copyi (dHo_become.at 23 rfl) (own := 0) rfl (List.mem_of_getElem? (i := 0) rfl) rfl rfl (Nat.le_of_ble_eq_true rfl) (by decide) (by decide) (by decide) (by decide) (by decide) ?_
  refine ev_aload_n (dHo_become.at 24 rfl) rfl ?_
  refine ev_getr (dHo_become.at 25 rfl) (own := 0) rfl fkHo_21 rfl rfl ?_
  refine ev_iconst (dHo_become.at 26 rfl) kI_0 ?_
  refine ev_aload_n (dHo_become.at 27 rfl) rfl ?_
  refine ev_getr (dHo_become.at 28 rfl) (own := 0) rfl fkHo_21 rfl rfl ?_
  refine ev_iconst (dHo_become.at 29 rfl) kI_0 ?_
  refine ev_bipush (dHo_become.at 30 rfl) kB_7 ?_
  refine ev_copyi (dHo_become.at 31 rfl) (own := 0) rfl (List.mem_of_getElem? (i := 0) rfl) rfl rfl (Nat.le_of_ble_eq_true rfl) (by decide) (by decide) (by decide) (by decide) (by decide) ?_
  refine ev_aload_n (dHo_become.at 32 rfl) rfl ?_
  refine ev_aload_n (dHo_become.at 33 rfl) rfl ?_
  refine ev_get (dHo_become.at 34 rfl) (own := 0) rfl fkHo_24 rfl rfl ?_
  refine ev_put (dHo_become.at 35 rfl) (own := 0) rfl fkHo_24 rfl rfl ?_
  refine ev_aload_n (dHo_become.at 36 rfl) rfl ?_
  refine ev_aload_n (dHo_become.at 37 rfl) rfl ?_
  refine ev_get (dHo_become.at 38 rfl) (own := 0) rfl fkHo_28 rfl rfl ?_
  refine ev_put (dHo_become.at 39 rfl) (own := 0) rfl fkHo_28 rfl rfl ?_
  refine ev_aload_n (dHo_become.at 40 rfl) rfl ?_
  refine ev_aload_n (dHo_become.at 41 rfl) rfl ?_
  refine ev_get (dHo_become.at 42 rfl) (own := 0) rfl fkHo_31 rfl rfl ?_
  refine ev_put (dHo_become.at 43 rfl) (own := 0) rfl fkHo_31 rfl rfl ?_
  refine ev_aload_n (dHo_become.at 44 rfl) rfl ?_
  refine ev_aload_n (dHo_become.at 45 rfl) rfl ?_
  refine ev_get (dHo_become.at 46 rfl) (own := 0) rfl fkHo_34 rfl rfl ?_
  refine ev_putz (dHo_become.at 47 rfl) (own := 0) rfl fkHo_34 rfl rfl o1 ?_
  refine ev_aload_n (dHo_become.at 48 rfl) rfl ?_
  refine ev_cVv (dHo_become.at 49 rfl) (As := []) (own := 0) rfl ckHo_44 rfl rfl rfl (Nat.le_of_ble_eq_true rfl) rfl m1 ?_
  exact ev_vret (dHo_become.at 50 rfl) rfl k1
set_option maxHeartbeats 4000000 in
theorem bHo_become_1_0 {d : Nat} {w : sx_W} {Q : sx_Q} {w1 : sx_W}
    (o1 : ((w.1 6 7) = 0 ∨ (w.1 6 7) = 1))
    (m1 : sx_de d rHo_lodgersChanged [.ref 1] ((sx_u (sx_u (sx_u (sx_u (sx_cp (sx_cp (sx_cp (sx_cp w.1 7 2 0 0 7) 8 3 0 0 7) 9 4 0 0 7) 10 5 0 0 7) 1 4 (w.1 6 4)) 1 5 (w.1 6 5)) 1 6 (w.1 6 6)) 1 7 (w.1 6 7)), w.2) 0 0 w1)
    (k1 : Q 0 0 w1) :
    sx_ev (d + 1) rHo_become 0 [.ref 1, .ref 6] [] w Q := by
  refine ev_aload_n (dHo_become.at 0 rfl) rfl ?_
  refine ev_getr (dHo_become.at 1 rfl) (own := 0) rfl fkHo_9 rfl rfl ?_
  refine ev_iconst (dHo_become.at 2 rfl) kI_0 ?_
  refine ev_aload_n (dHo_become.at 3 rfl) rfl ?_
  refine ev_getr (dHo_become.at 4 rfl) (own := 0) rfl fkHo_9 rfl rfl ?_
  refine ev_iconst (dHo_become.at 5 rfl) kI_0 ?_
  refine ev_bipush (dHo_become.at 6 rfl) kB_7 ?_
  refine ev_copyi (dHo_become.at 7 rfl) (own := 0) rfl (List.mem_of_getElem? (i := 0) rfl) rfl rfl (Nat.le_of_ble_eq_true rfl) (by decide) (by decide) (by decide) (by decide) (by decide) ?_
  refine ev_aload_n (dHo_become.at 8 rfl) rfl ?_
  refine ev_getr (dHo_become.at 9 rfl) (own := 0) rfl fkHo_15 rfl rfl ?_
  refine ev_iconst (dHo_become.at 10 rfl) kI_0 ?_
  refine ev_aload_n (dHo_become.at 11 rfl) rfl ?_
  refine ev_getr (dHo_become.at 12 rfl) (own := 0) rfl fkHo_15 rfl rfl ?_
  refine ev_iconst (dHo_become.at 13 rfl) kI_0 ?_
  refine ev_bipush (dHo_become.at 14 rfl) kB_7 ?_
  refine ev_copyi (dHo_become.at 15 rfl) (own := 0) rfl (List.mem_of_getElem? (i := 0) rfl) rfl rfl (Nat.le_of_ble_eq_true rfl) (by decide) (by decide) (by decide) (by decide) (by decide) ?_
  refine ev_aload_n (dHo_become.at 16 rfl) rfl ?_
  refine ev_getr (dHo_become.at 17 rfl) (own := 0) rfl fkHo_18 rfl rfl ?_
  refine ev_iconst (dHo_become.at 18 rfl) kI_0 ?_
  refine ev_aload_n (dHo_become.at 19 rfl) rfl ?_
  refine ev_getr (dHo_become.at 20 rfl) (own := 0) rfl fkHo_18 rfl rfl ?_
  refine ev_iconst (dHo_become.at 21 rfl) kI_0 ?_
  refine ev_bipush (dHo_become.at 22 rfl) kB_7 ?_
  refine ev_copyi (dHo_become.at 23 rfl) (own := 0) rfl (List.mem_of_getElem? (i := 0) rfl) rfl rfl (Nat.le_of_ble_eq_true rfl) (by decide) (by decide) (by decide) (by decide) (by decide) ?_
  refine ev_aload_n (dHo_become.at 24 rfl) rfl ?_
  refine ev_getr (dHo_become.at 25 rfl) (own := 0) rfl fkHo_21 rfl rfl ?_
  refine ev_iconst (dHo_become.at 26 rfl) kI_0 ?_
  refine ev_aload_n (dHo_become.at 27 rfl) rfl ?_
  refine ev_getr (dHo_become.at 28 rfl) (own := 0) rfl fkHo_21 rfl rfl ?_
  refine ev_iconst (dHo_become.at 29 rfl) kI_0 ?_
  refine ev_bipush (dHo_become.at 30 rfl) kB_7 ?_
  refine ev_copyi (dHo_become.at 31 rfl) (own := 0) rfl (List.mem_of_getElem? (i := 0) rfl) rfl rfl (Nat.le_of_ble_eq_true rfl) (by decide) (by decide) (by decide) (by decide) (by decide) ?_
  refine ev_aload_n (dHo_become.at 32 rfl) rfl ?_
  refine ev_aload_n (dHo_become.at 33 rfl) rfl ?_
  refine ev_get (dHo_become.at 34 rfl) (own := 0) rfl fkHo_24 rfl rfl ?_
  refine ev_put (dHo_become.at 35 rfl) (own := 0) rfl fkHo_24 rfl rfl ?_
  refine ev_aload_n (dHo_become.at 36 rfl) rfl ?_
  refine ev_aload_n (dHo_become.at 37 rfl) rfl ?_
  refine ev_get (dHo_become.at 38 rfl) (own := 0) rfl fkHo_28 rfl rfl ?_
  refine ev_put (dHo_become.at 39 rfl) (own := 0) rfl fkHo_28 rfl rfl ?_
  refine ev_aload_n (dHo_become.at 40 rfl) rfl ?_
  refine ev_aload_n (dHo_become.at 41 rfl) rfl ?_
  refine ev_get (dHo_become.at 42 rfl) (own := 0) rfl fkHo_31 rfl rfl ?_
  refine ev_put (dHo_become.at 43 rfl) (own := 0) rfl fkHo_31 rfl rfl ?_
  refine ev_aload_n (dHo_become.at 44 rfl) rfl ?_
  refine ev_aload_n (dHo_become.at 45 rfl) rfl ?_
  refine ev_get (dHo_become.at 46 rfl) (own := 0) rfl fkHo_34 rfl rfl ?_
  refine ev_putz (dHo_become.at 47 rfl) (own := 0) rfl fkHo_34 rfl rfl o1 ?_
  refine ev_aload_n (dHo_become.at 48 rfl) rfl ?_
  refine ev_cVv (dHo_become.at 49 rfl) (As := []) (own := 0) rfl ckHo_44 rfl rfl rfl (Nat.le_of_ble_eq_true rfl) rfl m1 ?_
  exact ev_vret (dHo_become.at 50 rfl) rfl k1
set_option maxHeartbeats 4000000 in
theorem bHo_lodgersChanged_0 {d : Nat} {w : sx_W} {Q : sx_Q}
    (k1 : Q 0 0 ((sx_u (sx_u w.1 1 8 ((w.1 1 8) + (1 : Int32))) 1 9 ((w.1 1 8) + (1 : Int32))), w.2)) :
    sx_ev d rHo_lodgersChanged 0 [.ref 1] [] w Q := by
  refine ev_aload_n (dHo_lodgersChanged.at 0 rfl) rfl ?_
  refine ev_dup (dHo_lodgersChanged.at 1 rfl) rfl ?_
  refine ev_get (dHo_lodgersChanged.at 2 rfl) (own := 0) rfl fkHo_38 rfl rfl ?_
  refine ev_iconst (dHo_lodgersChanged.at 3 rfl) kI_1 ?_
  refine ev_iadd (dHo_lodgersChanged.at 4 rfl) ?_
  refine ev_put (dHo_lodgersChanged.at 5 rfl) (own := 0) rfl fkHo_38 rfl rfl ?_
  refine ev_aload_n (dHo_lodgersChanged.at 6 rfl) rfl ?_
  refine ev_aload_n (dHo_lodgersChanged.at 7 rfl) rfl ?_
  refine ev_get (dHo_lodgersChanged.at 8 rfl) (own := 0) rfl fkHo_38 rfl rfl ?_
  refine ev_put (dHo_lodgersChanged.at 9 rfl) (own := 0) rfl fkHo_41 rfl rfl ?_
  exact ev_vret (dHo_lodgersChanged.at 10 rfl) rfl k1
set_option maxHeartbeats 4000000 in
theorem bHo_lodgersChanged_6_0 {d : Nat} {w : sx_W} {Q : sx_Q}
    (k1 : Q 0 0 ((sx_u (sx_u w.1 6 8 ((w.1 6 8) + (1 : Int32))) 6 9 ((w.1 6 8) + (1 : Int32))), w.2)) :
    sx_ev d rHo_lodgersChanged 0 [.ref 6] [] w Q := by
  refine ev_aload_n (dHo_lodgersChanged.at 0 rfl) rfl ?_
  refine ev_dup (dHo_lodgersChanged.at 1 rfl) rfl ?_
  refine ev_get (dHo_lodgersChanged.at 2 rfl) (own := 0) rfl fkHo_38 rfl rfl ?_
  refine ev_iconst (dHo_lodgersChanged.at 3 rfl) kI_1 ?_
  refine ev_iadd (dHo_lodgersChanged.at 4 rfl) ?_
  refine ev_put (dHo_lodgersChanged.at 5 rfl) (own := 0) rfl fkHo_38 rfl rfl ?_
  refine ev_aload_n (dHo_lodgersChanged.at 6 rfl) rfl ?_
  refine ev_aload_n (dHo_lodgersChanged.at 7 rfl) rfl ?_
  refine ev_get (dHo_lodgersChanged.at 8 rfl) (own := 0) rfl fkHo_38 rfl rfl ?_
  refine ev_put (dHo_lodgersChanged.at 9 rfl) (own := 0) rfl fkHo_41 rfl rfl ?_
  exact ev_vret (dHo_lodgersChanged.at 10 rfl) rfl k1
set_option maxHeartbeats 4000000 in
theorem bSh_begin_0 {d : Nat} {w : sx_W} {Q : sx_Q} {x1 : Int32} {x2 : Int32} {k : Nat} (hk : k < 4)
    (k1 : sx_ev d rSh_begin 2 [.ref (40 + 2 * k), .int x1, .int x2, .int (0 : Int32)] [] w Q) :
    sx_ev d rSh_begin 0 [.ref (40 + 2 * k), .int x1, .int x2, .null] [] w Q := by
  refine ev_iconst (dSh_begin.at 0 rfl) kI_0 ?_
  refine ev_istore_n (dSh_begin.at 1 rfl) (by decide) rfl ?_
  exact k1
set_option maxHeartbeats 4000000 in
theorem bSh_begin_2 {d : Nat} {w : sx_W} {Q : sx_Q} {x1 : Int32} {x2 : Int32} {x3 : Int32} {k : Nat} (hk : k < 4)
    (k1 : ((16 : Int32) ≤ x3) → Q 0 0 ((sx_u (sx_u (sx_u w.1 (40 + 2 * k) 1 (0 : Int32)) (40 + 2 * k) 2 x1) (40 + 2 * k) 3 x2), w.2))
    (o1 : (¬ (16 : Int32) ≤ x3) → vp_in x3 16)
    (k2 : (¬ (16 : Int32) ≤ x3) → sx_ev d rSh_begin 2 [.ref (40 + 2 * k), .int x1, .int x2, .int (x3 + (1 : Int32))] [] (w.1, (sx_ul w.2 (41 + 2 * k) x3.toNatClampNeg (0 : Int64))) Q) :
    sx_ev d rSh_begin 2 [.ref (40 + 2 * k), .int x1, .int x2, .int x3] [] w Q := by
  refine ev_iload_n (dSh_begin.at 2 rfl) rfl ?_
  refine ev_bipush (dSh_begin.at 3 rfl) kB_16 ?_
  refine ev_icmp_ge (tgt := 21) (dSh_begin.at 4 rfl) rfl (fun c1 => ?_) (fun c1 => ?_)
  · refine ev_aload_n (dSh_begin.at 12 rfl) rfl ?_
    refine ev_iconst (dSh_begin.at 13 rfl) kI_0 ?_
    refine ev_putz (dSh_begin.at 14 rfl) (own := 4) rfl fkSh_15 (sx_shS hk) rfl (by decide) ?_
    refine ev_aload_n (dSh_begin.at 15 rfl) rfl ?_
    refine ev_iload_n (dSh_begin.at 16 rfl) rfl ?_
    refine ev_put (dSh_begin.at 17 rfl) (own := 4) rfl fkSh_19 (sx_shS hk) rfl ?_
    refine ev_aload_n (dSh_begin.at 18 rfl) rfl ?_
    refine ev_iload_n (dSh_begin.at 19 rfl) rfl ?_
    refine ev_put (dSh_begin.at 20 rfl) (own := 4) rfl fkSh_23 (sx_shS hk) rfl ?_
    exact ev_vret (dSh_begin.at 21 rfl) rfl (k1 c1)
  · refine ev_aload_n (dSh_begin.at 5 rfl) rfl ?_
    refine ev_getr (dSh_begin.at 6 rfl) (own := 4) rfl fkSh_9 (sx_shS hk) rfl ?_
    refine ev_iload_n (dSh_begin.at 7 rfl) rfl ?_
    refine ev_lconst (dSh_begin.at 8 rfl) rfl ?_
    refine ev_lastore (dSh_begin.at 9 rfl) (sx_shI hk) (o1 c1) ?_
    refine ev_iinc (dSh_begin.at 10 rfl) kI_1 rfl (by decide) rfl ?_
    refine ev_goto (tgt := 2) (dSh_begin.at 11 rfl) rfl ?_
    exact (k2 c1)
set_option maxHeartbeats 4000000 in
theorem bSh_reaches_0 {d : Nat} {w : sx_W} {Q : sx_Q} {x1 : Int32} {x2 : Int32} {k : Nat} (hk : k < 4)
    (k1 : (x1 < 0) → Q (0 : Int32) 0 w)
    (k2 : (¬ x1 < 0) → (x2 < 0) → Q (0 : Int32) 0 w)
    (k3 : (¬ x1 < 0) → (¬ x2 < 0) → ((w.1 (40 + 2 * k) 3) < x2) → Q (0 : Int32) 0 w)
    (k4 : (¬ x1 < 0) → (¬ x2 < 0) → (¬ (w.1 (40 + 2 * k) 3) < x2) → (((w.1 (40 + 2 * k) 3) - x2) < x1) → Q (0 : Int32) 0 w)
    (k5 : (¬ x1 < 0) → (¬ x2 < 0) → (¬ (w.1 (40 + 2 * k) 3) < x2) → (¬ ((w.1 (40 + 2 * k) 3) - x2) < x1) → Q (1 : Int32) 0 w) :
    sx_ev d rSh_reaches 0 [.ref (40 + 2 * k), .int x1, .int x2] [] w Q := by
  refine ev_iload_n (dSh_reaches.at 0 rfl) rfl ?_
  refine ev_if_lt (tgt := 30) (dSh_reaches.at 1 rfl) rfl (fun c1 => ?_) (fun c1 => ?_)
  · refine ev_iconst (dSh_reaches.at 16 rfl) kI_0 ?_
    exact ev_zret (dSh_reaches.at 17 rfl) rfl (by decide) (k1 c1)
  · refine ev_iload_n (dSh_reaches.at 2 rfl) rfl ?_
    refine ev_if_lt (tgt := 30) (dSh_reaches.at 3 rfl) rfl (fun c2 => ?_) (fun c2 => ?_)
    · refine ev_iconst (dSh_reaches.at 16 rfl) kI_0 ?_
      exact ev_zret (dSh_reaches.at 17 rfl) rfl (by decide) (k2 c1 c2)
    · refine ev_iload_n (dSh_reaches.at 4 rfl) rfl ?_
      refine ev_aload_n (dSh_reaches.at 5 rfl) rfl ?_
      refine ev_get (dSh_reaches.at 6 rfl) (own := 4) rfl fkSh_23 (sx_shS hk) rfl ?_
      refine ev_icmp_gt (tgt := 30) (dSh_reaches.at 7 rfl) rfl (fun c3 => ?_) (fun c3 => ?_)
      · refine ev_iconst (dSh_reaches.at 16 rfl) kI_0 ?_
        exact ev_zret (dSh_reaches.at 17 rfl) rfl (by decide) (k3 c1 c2 c3)
      · refine ev_iload_n (dSh_reaches.at 8 rfl) rfl ?_
        refine ev_aload_n (dSh_reaches.at 9 rfl) rfl ?_
        refine ev_get (dSh_reaches.at 10 rfl) (own := 4) rfl fkSh_23 (sx_shS hk) rfl ?_
        refine ev_iload_n (dSh_reaches.at 11 rfl) rfl ?_
        refine ev_isub (dSh_reaches.at 12 rfl) ?_
        refine ev_icmp_gt (tgt := 30) (dSh_reaches.at 13 rfl) rfl (fun c4 => ?_) (fun c4 => ?_)
        · refine ev_iconst (dSh_reaches.at 16 rfl) kI_0 ?_
          exact ev_zret (dSh_reaches.at 17 rfl) rfl (by decide) (k4 c1 c2 c3 c4)
        · refine ev_iconst (dSh_reaches.at 14 rfl) kI_1 ?_
          refine ev_goto (tgt := 31) (dSh_reaches.at 15 rfl) rfl ?_
          exact ev_zret (dSh_reaches.at 17 rfl) rfl (by decide) (k5 c1 c2 c3 c4)
set_option maxHeartbeats 4000000 in
theorem bSh_put_0 {d : Nat} {w : sx_W} {Q : sx_Q} {x1 : Int32} {y2 : Int64} {k : Nat} (hk : k < 4)
    (o1 : (¬ (w.1 (40 + 2 * k) 2) = 0) → (¬ (w.1 (40 + 2 * k) 2) = (1 : Int32)) → vp_in x1 16)
    (k1 : (¬ (w.1 (40 + 2 * k) 2) = 0) → (¬ (w.1 (40 + 2 * k) 2) = (1 : Int32)) → Q 0 0 (w.1, (sx_ul w.2 (41 + 2 * k) x1.toNatClampNeg y2)))
    (o2 : (¬ (w.1 (40 + 2 * k) 2) = 0) → ((w.1 (40 + 2 * k) 2) = (1 : Int32)) → vp_in x1 16)
    (k2 : (¬ (w.1 (40 + 2 * k) 2) = 0) → ((w.1 (40 + 2 * k) 2) = (1 : Int32)) → Q 0 0 (w.1, (sx_ul w.2 (41 + 2 * k) x1.toNatClampNeg (y2.toInt32).toInt64)))
    (o3 : ((w.1 (40 + 2 * k) 2) = 0) → vp_in x1 16)
    (k3 : ((w.1 (40 + 2 * k) 2) = 0) → Q 0 0 (w.1, (sx_ul w.2 (41 + 2 * k) x1.toNatClampNeg (y2.toInt32.toInt8.toInt32).toInt64))) :
    sx_ev d rSh_put 0 [.ref (40 + 2 * k), .int x1, .long y2, .null] [] w Q := by
  refine ev_aload_n (dSh_put.at 0 rfl) rfl ?_
  refine ev_getr (dSh_put.at 1 rfl) (own := 4) rfl fkSh_9 (sx_shS hk) rfl ?_
  refine ev_iload_n (dSh_put.at 2 rfl) rfl ?_
  refine ev_aload_n (dSh_put.at 3 rfl) rfl ?_
  refine ev_get (dSh_put.at 4 rfl) (own := 4) rfl fkSh_19 (sx_shS hk) rfl ?_
  refine ev_if_ne (tgt := 19) (dSh_put.at 5 rfl) rfl (fun c1 => ?_) (fun c1 => ?_)
  · refine ev_aload_n (dSh_put.at 11 rfl) rfl ?_
    refine ev_get (dSh_put.at 12 rfl) (own := 4) rfl fkSh_19 (sx_shS hk) rfl ?_
    refine ev_iconst (dSh_put.at 13 rfl) kI_1 ?_
    refine ev_icmp_ne (tgt := 33) (dSh_put.at 14 rfl) rfl (fun c2 => ?_) (fun c2 => ?_)
    · refine ev_lload_n (dSh_put.at 19 rfl) rfl ?_
      refine ev_lastore (dSh_put.at 20 rfl) (sx_shI hk) (o1 c1 c2) ?_
      exact ev_vret (dSh_put.at 21 rfl) rfl (k1 c1 c2)
    · refine ev_lload_n (dSh_put.at 15 rfl) rfl ?_
      refine ev_l2i (dSh_put.at 16 rfl) ?_
      refine ev_i2l (dSh_put.at 17 rfl) ?_
      refine ev_goto (tgt := 34) (dSh_put.at 18 rfl) rfl ?_
      refine ev_lastore (dSh_put.at 20 rfl) (sx_shI hk) (o2 c1 c2) ?_
      exact ev_vret (dSh_put.at 21 rfl) rfl (k2 c1 c2)
  · refine ev_lload_n (dSh_put.at 6 rfl) rfl ?_
    refine ev_l2i (dSh_put.at 7 rfl) ?_
    refine ev_i2b (dSh_put.at 8 rfl) ?_
    refine ev_i2l (dSh_put.at 9 rfl) ?_
    refine ev_goto (tgt := 34) (dSh_put.at 10 rfl) rfl ?_
    refine ev_lastore (dSh_put.at 20 rfl) (sx_shI hk) (o3 c1) ?_
    exact ev_vret (dSh_put.at 21 rfl) rfl (k3 c1)
set_option maxHeartbeats 4000000 in
theorem bSt_allMayBegin_0 {d : Nat} {w : sx_W} {Q : sx_Q}
    (k1 : sx_ev d rSt_allMayBegin 2 [.ref 11, .int (0 : Int32)] [] w Q) :
    sx_ev d rSt_allMayBegin 0 [.ref 11, .null] [] w Q := by
  refine ev_iconst (dSt_allMayBegin.at 0 rfl) kI_0 ?_
  refine ev_istore_n (dSt_allMayBegin.at 1 rfl) (by decide) rfl ?_
  exact k1
set_option maxHeartbeats 4000000 in
theorem bSt_allMayBegin_2 {d : Nat} {w : sx_W} {Q : sx_Q} {x1 : Int32}
    (k1 : ((w.1 1 4) ≤ x1) → Q (1 : Int32) 0 w)
    (o1 : (¬ (w.1 1 4) ≤ x1) → vp_in x1 7)
    (k2 : (¬ (w.1 1 4) ≤ x1) → (¬ (w.1 12 x1.toNatClampNeg) = 0) → sx_ev d rSt_allMayBegin 2 [.ref 11, .int (x1 + (1 : Int32))] [] w Q)
    (k3 : (¬ (w.1 1 4) ≤ x1) → ((w.1 12 x1.toNatClampNeg) = 0) → Q (0 : Int32) 0 w) :
    sx_ev d rSt_allMayBegin 2 [.ref 11, .int x1] [] w Q := by
  refine ev_iload_n (dSt_allMayBegin.at 2 rfl) rfl ?_
  refine ev_aload_n (dSt_allMayBegin.at 3 rfl) rfl ?_
  refine ev_getr (dSt_allMayBegin.at 4 rfl) (own := 5) rfl fkSt_25 rfl rfl ?_
  refine ev_get (dSt_allMayBegin.at 5 rfl) (own := 5) rfl fkSt_29 rfl rfl ?_
  refine ev_icmp_ge (tgt := 30) (dSt_allMayBegin.at 6 rfl) rfl (fun c1 => ?_) (fun c1 => ?_)
  · refine ev_iconst (dSt_allMayBegin.at 16 rfl) kI_1 ?_
    exact ev_zret (dSt_allMayBegin.at 17 rfl) rfl (by decide) (k1 c1)
  · refine ev_aload_n (dSt_allMayBegin.at 7 rfl) rfl ?_
    refine ev_getr (dSt_allMayBegin.at 8 rfl) (own := 5) rfl fkSt_9 rfl rfl ?_
    refine ev_iload_n (dSt_allMayBegin.at 9 rfl) rfl ?_
    refine ev_iaload (dSt_allMayBegin.at 10 rfl) rfl (o1 c1) ?_
    refine ev_if_ne (tgt := 24) (dSt_allMayBegin.at 11 rfl) rfl (fun c2 => ?_) (fun c2 => ?_)
    · refine ev_iinc (dSt_allMayBegin.at 14 rfl) kI_1 rfl (by decide) rfl ?_
      refine ev_goto (tgt := 2) (dSt_allMayBegin.at 15 rfl) rfl ?_
      exact (k2 c1 c2)
    · refine ev_iconst (dSt_allMayBegin.at 12 rfl) kI_0 ?_
      exact ev_zret (dSt_allMayBegin.at 13 rfl) rfl (by decide) (k3 c1 c2)
set_option maxHeartbeats 4000000 in
theorem bSt_firstSpoiler_5_0 {d : Nat} {w : sx_W} {Q : sx_Q} {f1 : Int64}
    (m1 : sx_de d rSt_nobodyIn [.int (w.1 1 5)] w 0 f1 w)
    (k1 : sx_ev (d + 1) rSt_firstSpoiler 14 [.ref 11, .ref 5, .long f1, .null, .int (0 : Int32), .null] [] w Q) :
    sx_ev (d + 1) rSt_firstSpoiler 0 [.ref 11, .ref 5, .null, .null, .null, .null] [] w Q := by
  refine ev_aload_n (dSt_firstSpoiler.at 0 rfl) rfl ?_
  refine ev_getr (dSt_firstSpoiler.at 1 rfl) (own := 5) rfl fkSt_25 rfl rfl ?_
  refine ev_get (dSt_firstSpoiler.at 2 rfl) (own := 5) rfl fkSt_35 rfl rfl ?_
  refine ev_cSl (dSt_firstSpoiler.at 3 rfl) (As := [.int (w.1 1 5)]) (own := 5) rfl ckSt_38 rfl rfl (Nat.le_of_ble_eq_true rfl) rfl m1 ?_
  refine ev_lstore_n (dSt_firstSpoiler.at 4 rfl) (by decide) rfl ?_
  refine ev_iconst (dSt_firstSpoiler.at 5 rfl) kI_0 ?_
  refine ev_istore (dSt_firstSpoiler.at 6 rfl) (by decide) rfl ?_
  exact k1
set_option maxHeartbeats 4000000 in
theorem bSt_firstSpoiler_5_14 {d : Nat} {w : sx_W} {Q : sx_Q} {y2 : Int64} {x4 : Int32} {f1 : Int32} {f2 : Int32} {f3 : Int64}
    (k1 : ((w.1 1 4) ≤ x4) → Q (-1 : Int32) 0 w)
    (o1 : (¬ (w.1 1 4) ≤ x4) → vp_in x4 7)
    (m1 : (¬ (w.1 1 4) ≤ x4) → sx_de d rSb_isPart [.int (w.1 5 x4.toNatClampNeg)] w f1 0 w)
    (k2 : (¬ (w.1 1 4) ≤ x4) → (f1 = 0) → Q x4 0 w)
    (m2 : (¬ (w.1 1 4) ≤ x4) → (¬ f1 = 0) → sx_de d rSb_holds [.int (w.1 12 x4.toNatClampNeg), .int (w.1 5 x4.toNatClampNeg)] w f2 0 w)
    (m3 : (¬ (w.1 1 4) ≤ x4) → (¬ f1 = 0) → (¬ f2 = 0) → sx_de d rSt_joined [.ref 11, .long y2, .int x4, .int (w.1 5 x4.toNatClampNeg)] w 0 f3 w)
    (k3 : (¬ (w.1 1 4) ≤ x4) → (¬ f1 = 0) → (¬ f2 = 0) → (¬ f3 = (-1 : Int64)) → sx_ev (d + 1) rSt_firstSpoiler 14 [.ref 11, .ref 5, .long f3, .null, .int (x4 + (1 : Int32)), .null] [] w Q)
    (k4 : (¬ (w.1 1 4) ≤ x4) → (¬ f1 = 0) → (¬ f2 = 0) → (f3 = (-1 : Int64)) → Q x4 0 w)
    (k5 : (¬ (w.1 1 4) ≤ x4) → (¬ f1 = 0) → (f2 = 0) → Q x4 0 w) :
    sx_ev (d + 1) rSt_firstSpoiler 14 [.ref 11, .ref 5, .long y2, .null, .int x4, .null] [] w Q := by
  refine ev_iload (dSt_firstSpoiler.at 7 rfl) rfl ?_
  refine ev_aload_n (dSt_firstSpoiler.at 8 rfl) rfl ?_
  refine ev_getr (dSt_firstSpoiler.at 9 rfl) (own := 5) rfl fkSt_25 rfl rfl ?_
  refine ev_get (dSt_firstSpoiler.at 10 rfl) (own := 5) rfl fkSt_29 rfl rfl ?_
  refine ev_icmp_ge (tgt := 85) (dSt_firstSpoiler.at 11 rfl) rfl (fun c1 => ?_) (fun c1 => ?_)
  · refine ev_iconst (dSt_firstSpoiler.at 42 rfl) kI_m1 ?_
    exact ev_iret (dSt_firstSpoiler.at 43 rfl) rfl (k1 c1)
  · refine ev_aload_n (dSt_firstSpoiler.at 12 rfl) rfl ?_
    refine ev_iload (dSt_firstSpoiler.at 13 rfl) rfl ?_
    refine ev_iaload (dSt_firstSpoiler.at 14 rfl) rfl (o1 c1) ?_
    refine ev_istore (dSt_firstSpoiler.at 15 rfl) (by decide) rfl ?_
    refine ev_iload (dSt_firstSpoiler.at 16 rfl) rfl ?_
    refine ev_cNi (dSt_firstSpoiler.at 17 rfl) (As := [.int (w.1 5 x4.toNatClampNeg)]) (own := 5) rfl ckSt_42 (Or.inr rfl) rfl (Nat.le_of_ble_eq_true rfl) rfl (m1 c1) ?_
    refine ev_if_eq (tgt := 55) (dSt_firstSpoiler.at 18 rfl) rfl (fun c2 => ?_) (fun c2 => ?_)
    · refine ev_iload (dSt_firstSpoiler.at 26 rfl) rfl ?_
      exact ev_iret (dSt_firstSpoiler.at 27 rfl) rfl (k2 c1 c2)
    · refine ev_aload_n (dSt_firstSpoiler.at 19 rfl) rfl ?_
      refine ev_getr (dSt_firstSpoiler.at 20 rfl) (own := 5) rfl fkSt_9 rfl rfl ?_
      refine ev_iload (dSt_firstSpoiler.at 21 rfl) rfl ?_
      refine ev_iaload (dSt_firstSpoiler.at 22 rfl) rfl (o1 c1) ?_
      refine ev_iload (dSt_firstSpoiler.at 23 rfl) rfl ?_
      refine ev_cNi (dSt_firstSpoiler.at 24 rfl) (As := [.int (w.1 12 x4.toNatClampNeg), .int (w.1 5 x4.toNatClampNeg)]) (own := 5) rfl ckSt_46 (Or.inr rfl) rfl (Nat.le_of_ble_eq_true rfl) rfl (m2 c1 c2) ?_
      refine ev_if_ne (tgt := 58) (dSt_firstSpoiler.at 25 rfl) rfl (fun c3 => ?_) (fun c3 => ?_)
      · refine ev_aload_n (dSt_firstSpoiler.at 28 rfl) rfl ?_
        refine ev_lload_n (dSt_firstSpoiler.at 29 rfl) rfl ?_
        refine ev_iload (dSt_firstSpoiler.at 30 rfl) rfl ?_
        refine ev_iload (dSt_firstSpoiler.at 31 rfl) rfl ?_
        refine ev_cVl (dSt_firstSpoiler.at 32 rfl) (As := [.long y2, .int x4, .int (w.1 5 x4.toNatClampNeg)]) (own := 5) rfl ckSt_50 rfl rfl rfl (Nat.le_of_ble_eq_true rfl) rfl (m3 c1 c2 c3) ?_
        refine ev_lstore_n (dSt_firstSpoiler.at 33 rfl) (by decide) rfl ?_
        refine ev_lload_n (dSt_firstSpoiler.at 34 rfl) rfl ?_
        refine ev_ldc2 (dSt_firstSpoiler.at 35 rfl) (own := 5) rfl (List.mem_of_getElem? (i := 2) rfl) ?_
        refine ev_lcmp (dSt_firstSpoiler.at 36 rfl) ?_
        refine ev_if_ne (tgt := 79) (dSt_firstSpoiler.at 37 rfl) rfl (fun c4 => ?_) (fun c4 => ?_)
        · rw [lg_cmp_eq] at c4
          refine ev_iinc (dSt_firstSpoiler.at 40 rfl) kI_1 rfl (by decide) rfl ?_
          refine ev_goto (tgt := 14) (dSt_firstSpoiler.at 41 rfl) rfl ?_
          refine ev_kp [true, true, true, false, true, false] rfl ?_
          exact (k3 c1 c2 c3 c4)
        · rw [lg_cmp_eq] at c4
          refine ev_iload (dSt_firstSpoiler.at 38 rfl) rfl ?_
          exact ev_iret (dSt_firstSpoiler.at 39 rfl) rfl (k4 c1 c2 c3 c4)
      · refine ev_iload (dSt_firstSpoiler.at 26 rfl) rfl ?_
        exact ev_iret (dSt_firstSpoiler.at 27 rfl) rfl (k5 c1 c2 c3)
set_option maxHeartbeats 4000000 in
theorem bSt_firstSpoiler_39_0 {d : Nat} {w : sx_W} {Q : sx_Q} {f1 : Int64}
    (m1 : sx_de d rSt_nobodyIn [.int (w.1 1 5)] w 0 f1 w)
    (k1 : sx_ev (d + 1) rSt_firstSpoiler 14 [.ref 11, .ref 39, .long f1, .null, .int (0 : Int32), .null] [] w Q) :
    sx_ev (d + 1) rSt_firstSpoiler 0 [.ref 11, .ref 39, .null, .null, .null, .null] [] w Q := by
  refine ev_aload_n (dSt_firstSpoiler.at 0 rfl) rfl ?_
  refine ev_getr (dSt_firstSpoiler.at 1 rfl) (own := 5) rfl fkSt_25 rfl rfl ?_
  refine ev_get (dSt_firstSpoiler.at 2 rfl) (own := 5) rfl fkSt_35 rfl rfl ?_
  refine ev_cSl (dSt_firstSpoiler.at 3 rfl) (As := [.int (w.1 1 5)]) (own := 5) rfl ckSt_38 rfl rfl (Nat.le_of_ble_eq_true rfl) rfl m1 ?_
  refine ev_lstore_n (dSt_firstSpoiler.at 4 rfl) (by decide) rfl ?_
  refine ev_iconst (dSt_firstSpoiler.at 5 rfl) kI_0 ?_
  refine ev_istore (dSt_firstSpoiler.at 6 rfl) (by decide) rfl ?_
  exact k1
set_option maxHeartbeats 4000000 in
theorem bSt_firstSpoiler_39_14 {d : Nat} {w : sx_W} {Q : sx_Q} {y2 : Int64} {x4 : Int32} {f1 : Int32} {f2 : Int32} {f3 : Int64}
    (k1 : ((w.1 1 4) ≤ x4) → Q (-1 : Int32) 0 w)
    (o1 : (¬ (w.1 1 4) ≤ x4) → vp_in x4 8)
    (m1 : (¬ (w.1 1 4) ≤ x4) → sx_de d rSb_isPart [.int (w.1 39 x4.toNatClampNeg)] w f1 0 w)
    (k2 : (¬ (w.1 1 4) ≤ x4) → (f1 = 0) → Q x4 0 w)
    (o2 : (¬ (w.1 1 4) ≤ x4) → (¬ f1 = 0) → vp_in x4 7)
    (m2 : (¬ (w.1 1 4) ≤ x4) → (¬ f1 = 0) → sx_de d rSb_holds [.int (w.1 12 x4.toNatClampNeg), .int (w.1 39 x4.toNatClampNeg)] w f2 0 w)
    (m3 : (¬ (w.1 1 4) ≤ x4) → (¬ f1 = 0) → (¬ f2 = 0) → sx_de d rSt_joined [.ref 11, .long y2, .int x4, .int (w.1 39 x4.toNatClampNeg)] w 0 f3 w)
    (k3 : (¬ (w.1 1 4) ≤ x4) → (¬ f1 = 0) → (¬ f2 = 0) → (¬ f3 = (-1 : Int64)) → sx_ev (d + 1) rSt_firstSpoiler 14 [.ref 11, .ref 39, .long f3, .null, .int (x4 + (1 : Int32)), .null] [] w Q)
    (k4 : (¬ (w.1 1 4) ≤ x4) → (¬ f1 = 0) → (¬ f2 = 0) → (f3 = (-1 : Int64)) → Q x4 0 w)
    (k5 : (¬ (w.1 1 4) ≤ x4) → (¬ f1 = 0) → (f2 = 0) → Q x4 0 w) :
    sx_ev (d + 1) rSt_firstSpoiler 14 [.ref 11, .ref 39, .long y2, .null, .int x4, .null] [] w Q := by
  refine ev_iload (dSt_firstSpoiler.at 7 rfl) rfl ?_
  refine ev_aload_n (dSt_firstSpoiler.at 8 rfl) rfl ?_
  refine ev_getr (dSt_firstSpoiler.at 9 rfl) (own := 5) rfl fkSt_25 rfl rfl ?_
  refine ev_get (dSt_firstSpoiler.at 10 rfl) (own := 5) rfl fkSt_29 rfl rfl ?_
  refine ev_icmp_ge (tgt := 85) (dSt_firstSpoiler.at 11 rfl) rfl (fun c1 => ?_) (fun c1 => ?_)
  · refine ev_iconst (dSt_firstSpoiler.at 42 rfl) kI_m1 ?_
    exact ev_iret (dSt_firstSpoiler.at 43 rfl) rfl (k1 c1)
  · refine ev_aload_n (dSt_firstSpoiler.at 12 rfl) rfl ?_
    refine ev_iload (dSt_firstSpoiler.at 13 rfl) rfl ?_
    refine ev_iaload (dSt_firstSpoiler.at 14 rfl) rfl (o1 c1) ?_
    refine ev_istore (dSt_firstSpoiler.at 15 rfl) (by decide) rfl ?_
    refine ev_iload (dSt_firstSpoiler.at 16 rfl) rfl ?_
    refine ev_cNi (dSt_firstSpoiler.at 17 rfl) (As := [.int (w.1 39 x4.toNatClampNeg)]) (own := 5) rfl ckSt_42 (Or.inr rfl) rfl (Nat.le_of_ble_eq_true rfl) rfl (m1 c1) ?_
    refine ev_if_eq (tgt := 55) (dSt_firstSpoiler.at 18 rfl) rfl (fun c2 => ?_) (fun c2 => ?_)
    · refine ev_iload (dSt_firstSpoiler.at 26 rfl) rfl ?_
      exact ev_iret (dSt_firstSpoiler.at 27 rfl) rfl (k2 c1 c2)
    · refine ev_aload_n (dSt_firstSpoiler.at 19 rfl) rfl ?_
      refine ev_getr (dSt_firstSpoiler.at 20 rfl) (own := 5) rfl fkSt_9 rfl rfl ?_
      refine ev_iload (dSt_firstSpoiler.at 21 rfl) rfl ?_
      refine ev_iaload (dSt_firstSpoiler.at 22 rfl) rfl (o2 c1 c2) ?_
      refine ev_iload (dSt_firstSpoiler.at 23 rfl) rfl ?_
      refine ev_cNi (dSt_firstSpoiler.at 24 rfl) (As := [.int (w.1 12 x4.toNatClampNeg), .int (w.1 39 x4.toNatClampNeg)]) (own := 5) rfl ckSt_46 (Or.inr rfl) rfl (Nat.le_of_ble_eq_true rfl) rfl (m2 c1 c2) ?_
      refine ev_if_ne (tgt := 58) (dSt_firstSpoiler.at 25 rfl) rfl (fun c3 => ?_) (fun c3 => ?_)
      · refine ev_aload_n (dSt_firstSpoiler.at 28 rfl) rfl ?_
        refine ev_lload_n (dSt_firstSpoiler.at 29 rfl) rfl ?_
        refine ev_iload (dSt_firstSpoiler.at 30 rfl) rfl ?_
        refine ev_iload (dSt_firstSpoiler.at 31 rfl) rfl ?_
        refine ev_cVl (dSt_firstSpoiler.at 32 rfl) (As := [.long y2, .int x4, .int (w.1 39 x4.toNatClampNeg)]) (own := 5) rfl ckSt_50 rfl rfl rfl (Nat.le_of_ble_eq_true rfl) rfl (m3 c1 c2 c3) ?_
        refine ev_lstore_n (dSt_firstSpoiler.at 33 rfl) (by decide) rfl ?_
        refine ev_lload_n (dSt_firstSpoiler.at 34 rfl) rfl ?_
        refine ev_ldc2 (dSt_firstSpoiler.at 35 rfl) (own := 5) rfl (List.mem_of_getElem? (i := 2) rfl) ?_
        refine ev_lcmp (dSt_firstSpoiler.at 36 rfl) ?_
        refine ev_if_ne (tgt := 79) (dSt_firstSpoiler.at 37 rfl) rfl (fun c4 => ?_) (fun c4 => ?_)
        · rw [lg_cmp_eq] at c4
          refine ev_iinc (dSt_firstSpoiler.at 40 rfl) kI_1 rfl (by decide) rfl ?_
          refine ev_goto (tgt := 14) (dSt_firstSpoiler.at 41 rfl) rfl ?_
          refine ev_kp [true, true, true, false, true, false] rfl ?_
          exact (k3 c1 c2 c3 c4)
        · rw [lg_cmp_eq] at c4
          refine ev_iload (dSt_firstSpoiler.at 38 rfl) rfl ?_
          exact ev_iret (dSt_firstSpoiler.at 39 rfl) rfl (k4 c1 c2 c3 c4)
      · refine ev_iload (dSt_firstSpoiler.at 26 rfl) rfl ?_
        exact ev_iret (dSt_firstSpoiler.at 27 rfl) rfl (k5 c1 c2 c3)
set_option maxHeartbeats 4000000 in
theorem bSt_nobodyIn_0 {d : Nat} {w : sx_W} {Q : sx_Q} {x0 : Int32}
    (k1 : Q 0 ((lN 286331153) * ((7 : Int32) - x0).toInt64) w) :
    sx_ev d rSt_nobodyIn 0 [.int x0] [] w Q := by
  refine ev_ldc2 (dSt_nobodyIn.at 0 rfl) (own := 5) rfl (List.mem_of_getElem? (i := 0) rfl) ?_
  refine ev_bipush (dSt_nobodyIn.at 1 rfl) kB_7 ?_
  refine ev_iload_n (dSt_nobodyIn.at 2 rfl) rfl ?_
  refine ev_isub (dSt_nobodyIn.at 3 rfl) ?_
  refine ev_i2l (dSt_nobodyIn.at 4 rfl) ?_
  refine ev_lmul (dSt_nobodyIn.at 5 rfl) ?_
  exact ev_lret (dSt_nobodyIn.at 6 rfl) rfl k1
set_option maxHeartbeats 4000000 in
theorem bSt_joined_0 {d : Nat} {w : sx_W} {Q : sx_Q} {y1 : Int64} {x3 : Int32} {x4 : Int32}
    (o1 : vp_in ((x3 * (8 : Int32)) + x4) 56)
    (k1 : (¬ (y1 &&& (w.2 15 ((x3 * (8 : Int32)) + x4).toNatClampNeg)) = (0 : Int64)) → Q 0 (-1 : Int64) w)
    (k2 : ((y1 &&& (w.2 15 ((x3 * (8 : Int32)) + x4).toNatClampNeg)) = (0 : Int64)) → (¬ ((y1 + (w.2 13 ((x3 * (8 : Int32)) + x4).toNatClampNeg)) &&& (lN 2290649224)) = (0 : Int64)) → Q 0 (-1 : Int64) w)
    (k3 : ((y1 &&& (w.2 15 ((x3 * (8 : Int32)) + x4).toNatClampNeg)) = (0 : Int64)) → (((y1 + (w.2 13 ((x3 * (8 : Int32)) + x4).toNatClampNeg)) &&& (lN 2290649224)) = (0 : Int64)) → Q 0 ((y1 + (w.2 13 ((x3 * (8 : Int32)) + x4).toNatClampNeg)) ||| (w.2 14 ((x3 * (8 : Int32)) + x4).toNatClampNeg)) w) :
    sx_ev d rSt_joined 0 [.ref 11, .long y1, .null, .int x3, .int x4, .null, .null, .null, .null] [] w Q := by
  refine ev_iload_n (dSt_joined.at 0 rfl) rfl ?_
  refine ev_bipush (dSt_joined.at 1 rfl) kB_8 ?_
  refine ev_imul (dSt_joined.at 2 rfl) ?_
  refine ev_iload (dSt_joined.at 3 rfl) rfl ?_
  refine ev_iadd (dSt_joined.at 4 rfl) ?_
  refine ev_istore (dSt_joined.at 5 rfl) (by decide) rfl ?_
  refine ev_lload_n (dSt_joined.at 6 rfl) rfl ?_
  refine ev_aload_n (dSt_joined.at 7 rfl) rfl ?_
  refine ev_getr (dSt_joined.at 8 rfl) (own := 5) rfl fkSt_15 rfl rfl ?_
  refine ev_iload (dSt_joined.at 9 rfl) rfl ?_
  refine ev_laload (dSt_joined.at 10 rfl) rfl o1 ?_
  refine ev_ladd (dSt_joined.at 11 rfl) ?_
  refine ev_lstore (dSt_joined.at 12 rfl) (by decide) rfl ?_
  refine ev_lload_n (dSt_joined.at 13 rfl) rfl ?_
  refine ev_aload_n (dSt_joined.at 14 rfl) rfl ?_
  refine ev_getr (dSt_joined.at 15 rfl) (own := 5) rfl fkSt_22 rfl rfl ?_
  refine ev_iload (dSt_joined.at 16 rfl) rfl ?_
  refine ev_laload (dSt_joined.at 17 rfl) rfl o1 ?_
  refine ev_land (dSt_joined.at 18 rfl) ?_
  refine ev_lconst (dSt_joined.at 19 rfl) rfl ?_
  refine ev_lcmp (dSt_joined.at 20 rfl) ?_
  refine ev_if_ne (tgt := 49) (dSt_joined.at 21 rfl) rfl (fun c1 => ?_) (fun c1 => ?_)
  · rw [lg_cmp_eq] at c1
    refine ev_iconst (dSt_joined.at 30 rfl) kI_0 ?_
    refine ev_istore (dSt_joined.at 31 rfl) (by decide) rfl ?_
    refine ev_iload (dSt_joined.at 32 rfl) rfl ?_
    refine ev_if_eq (tgt := 70) (dSt_joined.at 33 rfl) rfl (fun _ => ?_) (fun h => absurd h (by decide))
    refine ev_ldc2 (dSt_joined.at 41 rfl) (own := 5) rfl (List.mem_of_getElem? (i := 2) rfl) ?_
    exact ev_lret (dSt_joined.at 42 rfl) rfl (k1 c1)
  · rw [lg_cmp_eq] at c1
    refine ev_lload (dSt_joined.at 22 rfl) rfl ?_
    refine ev_ldc2 (dSt_joined.at 23 rfl) (own := 5) rfl (List.mem_of_getElem? (i := 1) rfl) ?_
    refine ev_land (dSt_joined.at 24 rfl) ?_
    refine ev_lconst (dSt_joined.at 25 rfl) rfl ?_
    refine ev_lcmp (dSt_joined.at 26 rfl) ?_
    refine ev_if_ne (tgt := 49) (dSt_joined.at 27 rfl) rfl (fun c2 => ?_) (fun c2 => ?_)
    · rw [lg_cmp_eq] at c2
      refine ev_iconst (dSt_joined.at 30 rfl) kI_0 ?_
      refine ev_istore (dSt_joined.at 31 rfl) (by decide) rfl ?_
      refine ev_iload (dSt_joined.at 32 rfl) rfl ?_
      refine ev_if_eq (tgt := 70) (dSt_joined.at 33 rfl) rfl (fun _ => ?_) (fun h => absurd h (by decide))
      refine ev_ldc2 (dSt_joined.at 41 rfl) (own := 5) rfl (List.mem_of_getElem? (i := 2) rfl) ?_
      exact ev_lret (dSt_joined.at 42 rfl) rfl (k2 c1 c2)
    · rw [lg_cmp_eq] at c2
      refine ev_iconst (dSt_joined.at 28 rfl) kI_1 ?_
      refine ev_goto (tgt := 50) (dSt_joined.at 29 rfl) rfl ?_
      refine ev_istore (dSt_joined.at 31 rfl) (by decide) rfl ?_
      refine ev_iload (dSt_joined.at 32 rfl) rfl ?_
      refine ev_if_eq (tgt := 70) (dSt_joined.at 33 rfl) rfl (fun h => absurd h (by decide)) (fun _ => ?_)
      refine ev_lload (dSt_joined.at 34 rfl) rfl ?_
      refine ev_aload_n (dSt_joined.at 35 rfl) rfl ?_
      refine ev_getr (dSt_joined.at 36 rfl) (own := 5) rfl fkSt_19 rfl rfl ?_
      refine ev_iload (dSt_joined.at 37 rfl) rfl ?_
      refine ev_laload (dSt_joined.at 38 rfl) rfl o1 ?_
      refine ev_lor (dSt_joined.at 39 rfl) ?_
      refine ev_goto (tgt := 73) (dSt_joined.at 40 rfl) rfl ?_
      exact ev_lret (dSt_joined.at 42 rfl) rfl (k3 c1 c2)
set_option maxHeartbeats 4000000 in
theorem bSt_refresh_0 {d : Nat} {w : sx_W} {Q : sx_Q}
    (k1 : sx_ev d rSt_refresh 2 [.ref 11, .int (0 : Int32), .null] [] w Q) :
    sx_ev d rSt_refresh 0 [.ref 11, .null, .null] [] w Q := by
  refine ev_iconst (dSt_refresh.at 0 rfl) kI_0 ?_
  refine ev_istore_n (dSt_refresh.at 1 rfl) (by decide) rfl ?_
  exact k1
set_option maxHeartbeats 4000000 in
theorem bSt_refresh_2 {d : Nat} {w : sx_W} {Q : sx_Q} {x1 : Int32}
    (k1 : ((w.1 1 4) ≤ x1) → Q 0 0 w)
    (o1 : (¬ (w.1 1 4) ≤ x1) → vp_in x1 7)
    (k2 : (¬ (w.1 1 4) ≤ x1) → sx_ev d rSt_refresh 22 [.ref 11, .int x1, .int (0 : Int32)] [] ((sx_u w.1 12 x1.toNatClampNeg (0 : Int32)), w.2) Q) :
    sx_ev d rSt_refresh 2 [.ref 11, .int x1, .null] [] w Q := by
  refine ev_iload_n (dSt_refresh.at 2 rfl) rfl ?_
  refine ev_aload_n (dSt_refresh.at 3 rfl) rfl ?_
  refine ev_getr (dSt_refresh.at 4 rfl) (own := 5) rfl fkSt_25 rfl rfl ?_
  refine ev_get (dSt_refresh.at 5 rfl) (own := 5) rfl fkSt_29 rfl rfl ?_
  refine ev_icmp_ge (tgt := 55) (dSt_refresh.at 6 rfl) rfl (fun c1 => ?_) (fun c1 => ?_)
  · exact ev_vret (dSt_refresh.at 30 rfl) rfl (k1 c1)
  · refine ev_aload_n (dSt_refresh.at 7 rfl) rfl ?_
    refine ev_getr (dSt_refresh.at 8 rfl) (own := 5) rfl fkSt_9 rfl rfl ?_
    refine ev_iload_n (dSt_refresh.at 9 rfl) rfl ?_
    refine ev_iconst (dSt_refresh.at 10 rfl) kI_0 ?_
    refine ev_iastore (dSt_refresh.at 11 rfl) rfl (o1 c1) ?_
    refine ev_iconst (dSt_refresh.at 12 rfl) kI_0 ?_
    refine ev_istore_n (dSt_refresh.at 13 rfl) (by decide) rfl ?_
    exact (k2 c1)
set_option maxHeartbeats 4000000 in
theorem bSt_refresh_22 {d : Nat} {w : sx_W} {Q : sx_Q} {x1 : Int32} {x2 : Int32} {f1 : Int32} {w2 : sx_W}
    (k1 : ((8 : Int32) ≤ x2) → sx_ev (d + 1) rSt_refresh 2 [.ref 11, .int (x1 + (1 : Int32)), .null] [] w Q)
    (m1 : (¬ (8 : Int32) ≤ x2) → sx_de d rHo_sleepSet [.ref 1, .int x1, .int x2] w f1 0 w)
    (m2 : (¬ (8 : Int32) ≤ x2) → sx_de d rSt_note [.ref 11, .int x1, .int x2, .int f1] w 0 0 w2)
    (k2 : (¬ (8 : Int32) ≤ x2) → sx_ev (d + 1) rSt_refresh 22 [.ref 11, .int x1, .int (x2 + (1 : Int32))] [] w2 Q) :
    sx_ev (d + 1) rSt_refresh 22 [.ref 11, .int x1, .int x2] [] w Q := by
  refine ev_iload_n (dSt_refresh.at 14 rfl) rfl ?_
  refine ev_bipush (dSt_refresh.at 15 rfl) kB_8 ?_
  refine ev_icmp_ge (tgt := 49) (dSt_refresh.at 16 rfl) rfl (fun c1 => ?_) (fun c1 => ?_)
  · refine ev_iinc (dSt_refresh.at 28 rfl) kI_1 rfl (by decide) rfl ?_
    refine ev_goto (tgt := 2) (dSt_refresh.at 29 rfl) rfl ?_
    refine ev_kp [true, true, false] rfl ?_
    exact (k1 c1)
  · refine ev_aload_n (dSt_refresh.at 17 rfl) rfl ?_
    refine ev_iload_n (dSt_refresh.at 18 rfl) rfl ?_
    refine ev_iload_n (dSt_refresh.at 19 rfl) rfl ?_
    refine ev_aload_n (dSt_refresh.at 20 rfl) rfl ?_
    refine ev_getr (dSt_refresh.at 21 rfl) (own := 5) rfl fkSt_25 rfl rfl ?_
    refine ev_iload_n (dSt_refresh.at 22 rfl) rfl ?_
    refine ev_iload_n (dSt_refresh.at 23 rfl) rfl ?_
    refine ev_cVi (dSt_refresh.at 24 rfl) (As := [.int x1, .int x2]) (own := 5) rfl ckSt_60 rfl (Or.inl rfl) rfl (Nat.le_of_ble_eq_true rfl) rfl (m1 c1) ?_
    refine ev_cVv (dSt_refresh.at 25 rfl) (As := [.int x1, .int x2, .int f1]) (own := 5) rfl ckSt_64 rfl rfl rfl (Nat.le_of_ble_eq_true rfl) rfl (m2 c1) ?_
    refine ev_iinc (dSt_refresh.at 26 rfl) kI_1 rfl (by decide) rfl ?_
    refine ev_goto (tgt := 22) (dSt_refresh.at 27 rfl) rfl ?_
    exact (k2 c1)
set_option maxHeartbeats 4000000 in
theorem bSt_note_0 {d : Nat} {w : sx_W} {Q : sx_Q} {x1 : Int32} {x2 : Int32} {x3 : Int32} {f1 : Int64} {f2 : Int64}
    (o1 : vp_in x1 7)
    (m1 : (¬ (x3 &&& (w.1 4 x1.toNatClampNeg)) = 0) → sx_de d rSt_oneInEach [.int x3] w 0 f1 w)
    (o2 : (¬ (x3 &&& (w.1 4 x1.toNatClampNeg)) = 0) → vp_in ((x1 * (8 : Int32)) + x2) 56)
    (k1 : (¬ (x3 &&& (w.1 4 x1.toNatClampNeg)) = 0) → (¬ (w.1 2 x1.toNatClampNeg) = (2 : Int32)) → (¬ (w.1 2 x1.toNatClampNeg) = (3 : Int32)) → Q 0 0 (w.1, (sx_ul (sx_ul (sx_ul w.2 13 ((x1 * (8 : Int32)) + x2).toNatClampNeg f1) 14 ((x1 * (8 : Int32)) + x2).toNatClampNeg (0 : Int64)) 15 ((x1 * (8 : Int32)) + x2).toNatClampNeg (0 : Int64))))
    (k2 : (¬ (x3 &&& (w.1 4 x1.toNatClampNeg)) = 0) → (¬ (w.1 2 x1.toNatClampNeg) = (2 : Int32)) → ((w.1 2 x1.toNatClampNeg) = (3 : Int32)) → Q 0 0 (w.1, (sx_ul (sx_ul (sx_ul w.2 13 ((x1 * (8 : Int32)) + x2).toNatClampNeg f1) 14 ((x1 * (8 : Int32)) + x2).toNatClampNeg ((x3).toInt64 <<< ((40 : Int32).toInt64 &&& 63))) 15 ((x1 * (8 : Int32)) + x2).toNatClampNeg ((x3).toInt64 <<< ((32 : Int32).toInt64 &&& 63)))))
    (k3 : (¬ (x3 &&& (w.1 4 x1.toNatClampNeg)) = 0) → ((w.1 2 x1.toNatClampNeg) = (2 : Int32)) → Q 0 0 (w.1, (sx_ul (sx_ul (sx_ul w.2 13 ((x1 * (8 : Int32)) + x2).toNatClampNeg f1) 14 ((x1 * (8 : Int32)) + x2).toNatClampNeg ((x3).toInt64 <<< ((32 : Int32).toInt64 &&& 63))) 15 ((x1 * (8 : Int32)) + x2).toNatClampNeg ((x3).toInt64 <<< ((40 : Int32).toInt64 &&& 63)))))
    (m2 : ((x3 &&& (w.1 4 x1.toNatClampNeg)) = 0) → sx_de d rSt_oneInEach [.int x3] ((sx_u w.1 12 x1.toNatClampNeg ((w.1 12 x1.toNatClampNeg) ||| ((1 : Int32) <<< (x2 &&& 31)))), w.2) 0 f2 ((sx_u w.1 12 x1.toNatClampNeg ((w.1 12 x1.toNatClampNeg) ||| ((1 : Int32) <<< (x2 &&& 31)))), w.2))
    (o3 : ((x3 &&& (w.1 4 x1.toNatClampNeg)) = 0) → vp_in ((x1 * (8 : Int32)) + x2) 56)
    (k4 : ((x3 &&& (w.1 4 x1.toNatClampNeg)) = 0) → (¬ (w.1 2 x1.toNatClampNeg) = (2 : Int32)) → (¬ (w.1 2 x1.toNatClampNeg) = (3 : Int32)) → Q 0 0 ((sx_u w.1 12 x1.toNatClampNeg ((w.1 12 x1.toNatClampNeg) ||| ((1 : Int32) <<< (x2 &&& 31)))), (sx_ul (sx_ul (sx_ul w.2 13 ((x1 * (8 : Int32)) + x2).toNatClampNeg f2) 14 ((x1 * (8 : Int32)) + x2).toNatClampNeg (0 : Int64)) 15 ((x1 * (8 : Int32)) + x2).toNatClampNeg (0 : Int64))))
    (k5 : ((x3 &&& (w.1 4 x1.toNatClampNeg)) = 0) → (¬ (w.1 2 x1.toNatClampNeg) = (2 : Int32)) → ((w.1 2 x1.toNatClampNeg) = (3 : Int32)) → Q 0 0 ((sx_u w.1 12 x1.toNatClampNeg ((w.1 12 x1.toNatClampNeg) ||| ((1 : Int32) <<< (x2 &&& 31)))), (sx_ul (sx_ul (sx_ul w.2 13 ((x1 * (8 : Int32)) + x2).toNatClampNeg f2) 14 ((x1 * (8 : Int32)) + x2).toNatClampNeg ((x3).toInt64 <<< ((40 : Int32).toInt64 &&& 63))) 15 ((x1 * (8 : Int32)) + x2).toNatClampNeg ((x3).toInt64 <<< ((32 : Int32).toInt64 &&& 63)))))
    (k6 : ((x3 &&& (w.1 4 x1.toNatClampNeg)) = 0) → ((w.1 2 x1.toNatClampNeg) = (2 : Int32)) → Q 0 0 ((sx_u w.1 12 x1.toNatClampNeg ((w.1 12 x1.toNatClampNeg) ||| ((1 : Int32) <<< (x2 &&& 31)))), (sx_ul (sx_ul (sx_ul w.2 13 ((x1 * (8 : Int32)) + x2).toNatClampNeg f2) 14 ((x1 * (8 : Int32)) + x2).toNatClampNeg ((x3).toInt64 <<< ((32 : Int32).toInt64 &&& 63))) 15 ((x1 * (8 : Int32)) + x2).toNatClampNeg ((x3).toInt64 <<< ((40 : Int32).toInt64 &&& 63))))) :
    sx_ev (d + 1) rSt_note 0 [.ref 11, .int x1, .int x2, .int x3, .null, .null, .null, .null, .null, .null] [] w Q := by
  refine ev_iload_n (dSt_note.at 0 rfl) rfl ?_
  refine ev_bipush (dSt_note.at 1 rfl) kB_8 ?_
  refine ev_imul (dSt_note.at 2 rfl) ?_
  refine ev_iload_n (dSt_note.at 3 rfl) rfl ?_
  refine ev_iadd (dSt_note.at 4 rfl) ?_
  refine ev_istore (dSt_note.at 5 rfl) (by decide) rfl ?_
  refine ev_iload_n (dSt_note.at 6 rfl) rfl ?_
  refine ev_i2l (dSt_note.at 7 rfl) ?_
  refine ev_bipush (dSt_note.at 8 rfl) kB_32 ?_
  refine ev_lshl (dSt_note.at 9 rfl) ?_
  refine ev_lstore (dSt_note.at 10 rfl) (by decide) rfl ?_
  refine ev_iload_n (dSt_note.at 11 rfl) rfl ?_
  refine ev_i2l (dSt_note.at 12 rfl) ?_
  refine ev_bipush (dSt_note.at 13 rfl) kB_40 ?_
  refine ev_lshl (dSt_note.at 14 rfl) ?_
  refine ev_lstore (dSt_note.at 15 rfl) (by decide) rfl ?_
  refine ev_aload_n (dSt_note.at 16 rfl) rfl ?_
  refine ev_getr (dSt_note.at 17 rfl) (own := 5) rfl fkSt_25 rfl rfl ?_
  refine ev_getr (dSt_note.at 18 rfl) (own := 5) rfl fkSt_68 rfl rfl ?_
  refine ev_iload_n (dSt_note.at 19 rfl) rfl ?_
  refine ev_iaload (dSt_note.at 20 rfl) rfl o1 ?_
  refine ev_istore (dSt_note.at 21 rfl) (by decide) rfl ?_
  refine ev_iload_n (dSt_note.at 22 rfl) rfl ?_
  refine ev_aload_n (dSt_note.at 23 rfl) rfl ?_
  refine ev_getr (dSt_note.at 24 rfl) (own := 5) rfl fkSt_25 rfl rfl ?_
  refine ev_getr (dSt_note.at 25 rfl) (own := 5) rfl fkSt_71 rfl rfl ?_
  refine ev_iload_n (dSt_note.at 26 rfl) rfl ?_
  refine ev_iaload (dSt_note.at 27 rfl) rfl o1 ?_
  refine ev_iand (dSt_note.at 28 rfl) ?_
  refine ev_if_ne (tgt := 59) (dSt_note.at 29 rfl) rfl (fun c1 => ?_) (fun c1 => ?_)
  · refine ev_aload_n (dSt_note.at 40 rfl) rfl ?_
    refine ev_getr (dSt_note.at 41 rfl) (own := 5) rfl fkSt_15 rfl rfl ?_
    refine ev_iload (dSt_note.at 42 rfl) rfl ?_
    refine ev_iload_n (dSt_note.at 43 rfl) rfl ?_
    refine ev_cSl (dSt_note.at 44 rfl) (As := [.int x3]) (own := 5) rfl ckSt_74 rfl rfl (Nat.le_of_ble_eq_true rfl) rfl (m1 c1) ?_
    refine ev_lastore (dSt_note.at 45 rfl) rfl (o2 c1) ?_
    refine ev_aload_n (dSt_note.at 46 rfl) rfl ?_
    refine ev_getr (dSt_note.at 47 rfl) (own := 5) rfl fkSt_19 rfl rfl ?_
    refine ev_iload (dSt_note.at 48 rfl) rfl ?_
    refine ev_iload (dSt_note.at 49 rfl) rfl ?_
    refine ev_iconst (dSt_note.at 50 rfl) kI_2 ?_
    refine ev_icmp_ne (tgt := 87) (dSt_note.at 51 rfl) rfl (fun c2 => ?_) (fun c2 => ?_)
    · refine ev_iload (dSt_note.at 54 rfl) rfl ?_
      refine ev_iconst (dSt_note.at 55 rfl) kI_3 ?_
      refine ev_icmp_ne (tgt := 98) (dSt_note.at 56 rfl) rfl (fun c3 => ?_) (fun c3 => ?_)
      · refine ev_lconst (dSt_note.at 59 rfl) rfl ?_
        refine ev_lastore (dSt_note.at 60 rfl) rfl (o2 c1) ?_
        refine ev_aload_n (dSt_note.at 61 rfl) rfl ?_
        refine ev_getr (dSt_note.at 62 rfl) (own := 5) rfl fkSt_22 rfl rfl ?_
        refine ev_iload (dSt_note.at 63 rfl) rfl ?_
        refine ev_iload (dSt_note.at 64 rfl) rfl ?_
        refine ev_iconst (dSt_note.at 65 rfl) kI_2 ?_
        refine ev_icmp_ne (tgt := 117) (dSt_note.at 66 rfl) rfl (fun _ => ?_) (fun h => absurd h c2)
        refine ev_iload (dSt_note.at 69 rfl) rfl ?_
        refine ev_iconst (dSt_note.at 70 rfl) kI_3 ?_
        refine ev_icmp_ne (tgt := 128) (dSt_note.at 71 rfl) rfl (fun _ => ?_) (fun h => absurd h c3)
        refine ev_lconst (dSt_note.at 74 rfl) rfl ?_
        refine ev_lastore (dSt_note.at 75 rfl) rfl (o2 c1) ?_
        exact ev_vret (dSt_note.at 76 rfl) rfl (k1 c1 c2 c3)
      · refine ev_lload (dSt_note.at 57 rfl) rfl ?_
        refine ev_goto (tgt := 99) (dSt_note.at 58 rfl) rfl ?_
        refine ev_lastore (dSt_note.at 60 rfl) rfl (o2 c1) ?_
        refine ev_aload_n (dSt_note.at 61 rfl) rfl ?_
        refine ev_getr (dSt_note.at 62 rfl) (own := 5) rfl fkSt_22 rfl rfl ?_
        refine ev_iload (dSt_note.at 63 rfl) rfl ?_
        refine ev_iload (dSt_note.at 64 rfl) rfl ?_
        refine ev_iconst (dSt_note.at 65 rfl) kI_2 ?_
        refine ev_icmp_ne (tgt := 117) (dSt_note.at 66 rfl) rfl (fun _ => ?_) (fun h => absurd (c3.symm.trans h) (by decide))
        refine ev_iload (dSt_note.at 69 rfl) rfl ?_
        refine ev_iconst (dSt_note.at 70 rfl) kI_3 ?_
        refine ev_icmp_ne (tgt := 128) (dSt_note.at 71 rfl) rfl (fun h => absurd c3 h) (fun _ => ?_)
        refine ev_lload (dSt_note.at 72 rfl) rfl ?_
        refine ev_goto (tgt := 129) (dSt_note.at 73 rfl) rfl ?_
        refine ev_lastore (dSt_note.at 75 rfl) rfl (o2 c1) ?_
        exact ev_vret (dSt_note.at 76 rfl) rfl (k2 c1 c2 c3)
    · refine ev_lload (dSt_note.at 52 rfl) rfl ?_
      refine ev_goto (tgt := 99) (dSt_note.at 53 rfl) rfl ?_
      refine ev_lastore (dSt_note.at 60 rfl) rfl (o2 c1) ?_
      refine ev_aload_n (dSt_note.at 61 rfl) rfl ?_
      refine ev_getr (dSt_note.at 62 rfl) (own := 5) rfl fkSt_22 rfl rfl ?_
      refine ev_iload (dSt_note.at 63 rfl) rfl ?_
      refine ev_iload (dSt_note.at 64 rfl) rfl ?_
      refine ev_iconst (dSt_note.at 65 rfl) kI_2 ?_
      refine ev_icmp_ne (tgt := 117) (dSt_note.at 66 rfl) rfl (fun h => absurd c2 h) (fun _ => ?_)
      refine ev_lload (dSt_note.at 67 rfl) rfl ?_
      refine ev_goto (tgt := 129) (dSt_note.at 68 rfl) rfl ?_
      refine ev_lastore (dSt_note.at 75 rfl) rfl (o2 c1) ?_
      exact ev_vret (dSt_note.at 76 rfl) rfl (k3 c1 c2)
  · refine ev_aload_n (dSt_note.at 30 rfl) rfl ?_
    refine ev_getr (dSt_note.at 31 rfl) (own := 5) rfl fkSt_9 rfl rfl ?_
    refine ev_iload_n (dSt_note.at 32 rfl) rfl ?_
    refine ev_dup2 (dSt_note.at 33 rfl) rfl rfl ?_
    refine ev_iaload (dSt_note.at 34 rfl) rfl o1 ?_
    refine ev_iconst (dSt_note.at 35 rfl) kI_1 ?_
    refine ev_iload_n (dSt_note.at 36 rfl) rfl ?_
    refine ev_ishl (dSt_note.at 37 rfl) ?_
    refine ev_ior (dSt_note.at 38 rfl) ?_
    refine ev_iastore (dSt_note.at 39 rfl) rfl o1 ?_
    refine ev_aload_n (dSt_note.at 40 rfl) rfl ?_
    refine ev_getr (dSt_note.at 41 rfl) (own := 5) rfl fkSt_15 rfl rfl ?_
    refine ev_iload (dSt_note.at 42 rfl) rfl ?_
    refine ev_iload_n (dSt_note.at 43 rfl) rfl ?_
    refine ev_cSl (dSt_note.at 44 rfl) (As := [.int x3]) (own := 5) rfl ckSt_74 rfl rfl (Nat.le_of_ble_eq_true rfl) rfl (m2 c1) ?_
    refine ev_lastore (dSt_note.at 45 rfl) rfl (o3 c1) ?_
    refine ev_aload_n (dSt_note.at 46 rfl) rfl ?_
    refine ev_getr (dSt_note.at 47 rfl) (own := 5) rfl fkSt_19 rfl rfl ?_
    refine ev_iload (dSt_note.at 48 rfl) rfl ?_
    refine ev_iload (dSt_note.at 49 rfl) rfl ?_
    refine ev_iconst (dSt_note.at 50 rfl) kI_2 ?_
    refine ev_icmp_ne (tgt := 87) (dSt_note.at 51 rfl) rfl (fun c4 => ?_) (fun c4 => ?_)
    · refine ev_iload (dSt_note.at 54 rfl) rfl ?_
      refine ev_iconst (dSt_note.at 55 rfl) kI_3 ?_
      refine ev_icmp_ne (tgt := 98) (dSt_note.at 56 rfl) rfl (fun c5 => ?_) (fun c5 => ?_)
      · refine ev_lconst (dSt_note.at 59 rfl) rfl ?_
        refine ev_lastore (dSt_note.at 60 rfl) rfl (o3 c1) ?_
        refine ev_aload_n (dSt_note.at 61 rfl) rfl ?_
        refine ev_getr (dSt_note.at 62 rfl) (own := 5) rfl fkSt_22 rfl rfl ?_
        refine ev_iload (dSt_note.at 63 rfl) rfl ?_
        refine ev_iload (dSt_note.at 64 rfl) rfl ?_
        refine ev_iconst (dSt_note.at 65 rfl) kI_2 ?_
        refine ev_icmp_ne (tgt := 117) (dSt_note.at 66 rfl) rfl (fun _ => ?_) (fun h => absurd h c4)
        refine ev_iload (dSt_note.at 69 rfl) rfl ?_
        refine ev_iconst (dSt_note.at 70 rfl) kI_3 ?_
        refine ev_icmp_ne (tgt := 128) (dSt_note.at 71 rfl) rfl (fun _ => ?_) (fun h => absurd h c5)
        refine ev_lconst (dSt_note.at 74 rfl) rfl ?_
        refine ev_lastore (dSt_note.at 75 rfl) rfl (o3 c1) ?_
        exact ev_vret (dSt_note.at 76 rfl) rfl (k4 c1 c4 c5)
      · refine ev_lload (dSt_note.at 57 rfl) rfl ?_
        refine ev_goto (tgt := 99) (dSt_note.at 58 rfl) rfl ?_
        refine ev_lastore (dSt_note.at 60 rfl) rfl (o3 c1) ?_
        refine ev_aload_n (dSt_note.at 61 rfl) rfl ?_
        refine ev_getr (dSt_note.at 62 rfl) (own := 5) rfl fkSt_22 rfl rfl ?_
        refine ev_iload (dSt_note.at 63 rfl) rfl ?_
        refine ev_iload (dSt_note.at 64 rfl) rfl ?_
        refine ev_iconst (dSt_note.at 65 rfl) kI_2 ?_
        refine ev_icmp_ne (tgt := 117) (dSt_note.at 66 rfl) rfl (fun _ => ?_) (fun h => absurd (c5.symm.trans h) (by decide))
        refine ev_iload (dSt_note.at 69 rfl) rfl ?_
        refine ev_iconst (dSt_note.at 70 rfl) kI_3 ?_
        refine ev_icmp_ne (tgt := 128) (dSt_note.at 71 rfl) rfl (fun h => absurd c5 h) (fun _ => ?_)
        refine ev_lload (dSt_note.at 72 rfl) rfl ?_
        refine ev_goto (tgt := 129) (dSt_note.at 73 rfl) rfl ?_
        refine ev_lastore (dSt_note.at 75 rfl) rfl (o3 c1) ?_
        exact ev_vret (dSt_note.at 76 rfl) rfl (k5 c1 c4 c5)
    · refine ev_lload (dSt_note.at 52 rfl) rfl ?_
      refine ev_goto (tgt := 99) (dSt_note.at 53 rfl) rfl ?_
      refine ev_lastore (dSt_note.at 60 rfl) rfl (o3 c1) ?_
      refine ev_aload_n (dSt_note.at 61 rfl) rfl ?_
      refine ev_getr (dSt_note.at 62 rfl) (own := 5) rfl fkSt_22 rfl rfl ?_
      refine ev_iload (dSt_note.at 63 rfl) rfl ?_
      refine ev_iload (dSt_note.at 64 rfl) rfl ?_
      refine ev_iconst (dSt_note.at 65 rfl) kI_2 ?_
      refine ev_icmp_ne (tgt := 117) (dSt_note.at 66 rfl) rfl (fun h => absurd c4 h) (fun _ => ?_)
      refine ev_lload (dSt_note.at 67 rfl) rfl ?_
      refine ev_goto (tgt := 129) (dSt_note.at 68 rfl) rfl ?_
      refine ev_lastore (dSt_note.at 75 rfl) rfl (o3 c1) ?_
      exact ev_vret (dSt_note.at 76 rfl) rfl (k6 c1 c4)
set_option maxHeartbeats 4000000 in
theorem bSt_oneInEach_0 {d : Nat} {w : sx_W} {Q : sx_Q} {x0 : Int32}
    (k1 : sx_ev d rSt_oneInEach 4 [.int x0, .long (0 : Int64), .null, .int (0 : Int32)] [] w Q) :
    sx_ev d rSt_oneInEach 0 [.int x0, .null, .null, .null] [] w Q := by
  refine ev_lconst (dSt_oneInEach.at 0 rfl) rfl ?_
  refine ev_lstore_n (dSt_oneInEach.at 1 rfl) (by decide) rfl ?_
  refine ev_iconst (dSt_oneInEach.at 2 rfl) kI_0 ?_
  refine ev_istore_n (dSt_oneInEach.at 3 rfl) (by decide) rfl ?_
  exact k1
set_option maxHeartbeats 4000000 in
theorem bSt_oneInEach_4 {d : Nat} {w : sx_W} {Q : sx_Q} {x0 : Int32} {y1 : Int64} {x3 : Int32} {f1 : Int32}
    (k1 : ((8 : Int32) ≤ x3) → Q 0 y1 w)
    (m1 : (¬ (8 : Int32) ≤ x3) → sx_de d rSb_holds [.int x0, .int x3] w f1 0 w)
    (k2 : (¬ (8 : Int32) ≤ x3) → (f1 = 0) → sx_ev (d + 1) rSt_oneInEach 4 [.int x0, .long (y1 ||| (0 : Int64)), .null, .int (x3 + (1 : Int32))] [] w Q)
    (k3 : (¬ (8 : Int32) ≤ x3) → (¬ f1 = 0) → sx_ev (d + 1) rSt_oneInEach 4 [.int x0, .long (y1 ||| ((1 : Int64) <<< (((4 : Int32) * x3).toInt64 &&& 63))), .null, .int (x3 + (1 : Int32))] [] w Q) :
    sx_ev (d + 1) rSt_oneInEach 4 [.int x0, .long y1, .null, .int x3] [] w Q := by
  refine ev_iload_n (dSt_oneInEach.at 4 rfl) rfl ?_
  refine ev_bipush (dSt_oneInEach.at 5 rfl) kB_8 ?_
  refine ev_icmp_ge (tgt := 36) (dSt_oneInEach.at 6 rfl) rfl (fun c1 => ?_) (fun c1 => ?_)
  · refine ev_lload_n (dSt_oneInEach.at 23 rfl) rfl ?_
    exact ev_lret (dSt_oneInEach.at 24 rfl) rfl (k1 c1)
  · refine ev_lload_n (dSt_oneInEach.at 7 rfl) rfl ?_
    refine ev_iload_n (dSt_oneInEach.at 8 rfl) rfl ?_
    refine ev_iload_n (dSt_oneInEach.at 9 rfl) rfl ?_
    refine ev_cNi (dSt_oneInEach.at 10 rfl) (As := [.int x0, .int x3]) (own := 5) rfl ckSt_46 (Or.inr rfl) rfl (Nat.le_of_ble_eq_true rfl) rfl (m1 c1) ?_
    refine ev_if_eq (tgt := 27) (dSt_oneInEach.at 11 rfl) rfl (fun c2 => ?_) (fun c2 => ?_)
    · refine ev_lconst (dSt_oneInEach.at 18 rfl) rfl ?_
      refine ev_lor (dSt_oneInEach.at 19 rfl) ?_
      refine ev_lstore_n (dSt_oneInEach.at 20 rfl) (by decide) rfl ?_
      refine ev_iinc (dSt_oneInEach.at 21 rfl) kI_1 rfl (by decide) rfl ?_
      refine ev_goto (tgt := 4) (dSt_oneInEach.at 22 rfl) rfl ?_
      exact (k2 c1 c2)
    · refine ev_lconst (dSt_oneInEach.at 12 rfl) rfl ?_
      refine ev_iconst (dSt_oneInEach.at 13 rfl) kI_4 ?_
      refine ev_iload_n (dSt_oneInEach.at 14 rfl) rfl ?_
      refine ev_imul (dSt_oneInEach.at 15 rfl) ?_
      refine ev_lshl (dSt_oneInEach.at 16 rfl) ?_
      refine ev_goto (tgt := 28) (dSt_oneInEach.at 17 rfl) rfl ?_
      refine ev_lor (dSt_oneInEach.at 19 rfl) ?_
      refine ev_lstore_n (dSt_oneInEach.at 20 rfl) (by decide) rfl ?_
      refine ev_iinc (dSt_oneInEach.at 21 rfl) kI_1 rfl (by decide) rfl ?_
      refine ev_goto (tgt := 4) (dSt_oneInEach.at 22 rfl) rfl ?_
      exact (k3 c1 c2)
set_option maxHeartbeats 4000000 in
theorem bTa_canHold_0 {d : Nat} {w : sx_W} {Q : sx_Q} {y0 : Int64} {x2 : Int32}
    (k1 : (x2 < (1 : Int32)) → Q (0 : Int32) 0 w)
    (k2 : (¬ x2 < (1 : Int32)) → (x2 ≤ (8 : Int32)) → sx_ev d rTa_canHold 15 [.long y0, .null, .int x2, .int (0 : Int32), .null] [] w Q)
    (k3 : (¬ x2 < (1 : Int32)) → (¬ x2 ≤ (8 : Int32)) → Q (0 : Int32) 0 w) :
    sx_ev d rTa_canHold 0 [.long y0, .null, .int x2, .null, .null] [] w Q := by
  refine ev_iload_n (dTa_canHold.at 0 rfl) rfl ?_
  refine ev_iconst (dTa_canHold.at 1 rfl) kI_1 ?_
  refine ev_icmp_lt (tgt := 11) (dTa_canHold.at 2 rfl) rfl (fun c1 => ?_) (fun c1 => ?_)
  · refine ev_iconst (dTa_canHold.at 6 rfl) kI_0 ?_
    exact ev_zret (dTa_canHold.at 7 rfl) rfl (by decide) (k1 c1)
  · refine ev_iload_n (dTa_canHold.at 3 rfl) rfl ?_
    refine ev_bipush (dTa_canHold.at 4 rfl) kB_8 ?_
    refine ev_icmp_le (tgt := 13) (dTa_canHold.at 5 rfl) rfl (fun c2 => ?_) (fun c2 => ?_)
    · refine ev_iconst (dTa_canHold.at 8 rfl) kI_0 ?_
      refine ev_istore_n (dTa_canHold.at 9 rfl) (by decide) rfl ?_
      exact (k2 c1 c2)
    · refine ev_iconst (dTa_canHold.at 6 rfl) kI_0 ?_
      exact ev_zret (dTa_canHold.at 7 rfl) rfl (by decide) (k3 c1 c2)
set_option maxHeartbeats 4000000 in
theorem bTa_canHold_15 {d : Nat} {w : sx_W} {Q : sx_Q} {y0 : Int64} {x2 : Int32} {x3 : Int32} {f1 : Int32}
    (k1 : (x2 ≤ x3) → Q (1 : Int32) 0 w)
    (m1 : (¬ x2 ≤ x3) → sx_de d rTa_byteAt [.long y0, .int x3] w f1 0 w)
    (k2 : (¬ x2 ≤ x3) → (f1 < (32 : Int32)) → Q (0 : Int32) 0 w)
    (k3 : (¬ x2 ≤ x3) → (¬ f1 < (32 : Int32)) → (f1 ≤ (126 : Int32)) → sx_ev (d + 1) rTa_canHold 15 [.long y0, .null, .int x2, .int (x3 + (1 : Int32)), .null] [] w Q)
    (k4 : (¬ x2 ≤ x3) → (¬ f1 < (32 : Int32)) → (¬ f1 ≤ (126 : Int32)) → Q (0 : Int32) 0 w) :
    sx_ev (d + 1) rTa_canHold 15 [.long y0, .null, .int x2, .int x3, .null] [] w Q := by
  refine ev_iload_n (dTa_canHold.at 10 rfl) rfl ?_
  refine ev_iload_n (dTa_canHold.at 11 rfl) rfl ?_
  refine ev_icmp_ge (tgt := 49) (dTa_canHold.at 12 rfl) rfl (fun c1 => ?_) (fun c1 => ?_)
  · refine ev_iconst (dTa_canHold.at 27 rfl) kI_1 ?_
    exact ev_zret (dTa_canHold.at 28 rfl) rfl (by decide) (k1 c1)
  · refine ev_lload_n (dTa_canHold.at 13 rfl) rfl ?_
    refine ev_iload_n (dTa_canHold.at 14 rfl) rfl ?_
    refine ev_cSi (dTa_canHold.at 15 rfl) (As := [.long y0, .int x3]) (own := 6) rfl ckTa_34 (Or.inl rfl) rfl (Nat.le_of_ble_eq_true rfl) rfl (m1 c1) ?_
    refine ev_istore (dTa_canHold.at 16 rfl) (by decide) rfl ?_
    refine ev_iload (dTa_canHold.at 17 rfl) rfl ?_
    refine ev_bipush (dTa_canHold.at 18 rfl) kB_32 ?_
    refine ev_icmp_lt (tgt := 41) (dTa_canHold.at 19 rfl) rfl (fun c2 => ?_) (fun c2 => ?_)
    · refine ev_iconst (dTa_canHold.at 23 rfl) kI_0 ?_
      exact ev_zret (dTa_canHold.at 24 rfl) rfl (by decide) (k2 c1 c2)
    · refine ev_iload (dTa_canHold.at 20 rfl) rfl ?_
      refine ev_bipush (dTa_canHold.at 21 rfl) kB_126 ?_
      refine ev_icmp_le (tgt := 43) (dTa_canHold.at 22 rfl) rfl (fun c3 => ?_) (fun c3 => ?_)
      · refine ev_iinc (dTa_canHold.at 25 rfl) kI_1 rfl (by decide) rfl ?_
        refine ev_goto (tgt := 15) (dTa_canHold.at 26 rfl) rfl ?_
        refine ev_kp [true, false, true, true, false] rfl ?_
        exact (k3 c1 c2 c3)
      · refine ev_iconst (dTa_canHold.at 23 rfl) kI_0 ?_
        exact ev_zret (dTa_canHold.at 24 rfl) rfl (by decide) (k4 c1 c2 c3)
set_option maxHeartbeats 4000000 in
theorem bTa_hasRoom_0 {d : Nat} {w : sx_W} {Q : sx_Q} {x1 : Int32}
    (k1 : (((100 : Int32) - (w.1 33 1)) < x1) → Q (0 : Int32) 0 w)
    (k2 : (¬ ((100 : Int32) - (w.1 33 1)) < x1) → Q (1 : Int32) 0 w) :
    sx_ev d rTa_hasRoom 0 [.ref 33, .int x1] [] w Q := by
  refine ev_iload_n (dTa_hasRoom.at 0 rfl) rfl ?_
  refine ev_bipush (dTa_hasRoom.at 1 rfl) kB_100 ?_
  refine ev_aload_n (dTa_hasRoom.at 2 rfl) rfl ?_
  refine ev_get (dTa_hasRoom.at 3 rfl) (own := 6) rfl fkTa_15 rfl rfl ?_
  refine ev_isub (dTa_hasRoom.at 4 rfl) ?_
  refine ev_icmp_gt (tgt := 15) (dTa_hasRoom.at 5 rfl) rfl (fun c1 => ?_) (fun c1 => ?_)
  · refine ev_iconst (dTa_hasRoom.at 8 rfl) kI_0 ?_
    exact ev_zret (dTa_hasRoom.at 9 rfl) rfl (by decide) (k1 c1)
  · refine ev_iconst (dTa_hasRoom.at 6 rfl) kI_1 ?_
    refine ev_goto (tgt := 16) (dTa_hasRoom.at 7 rfl) rfl ?_
    exact ev_zret (dTa_hasRoom.at 9 rfl) rfl (by decide) (k2 c1)
set_option maxHeartbeats 4000000 in
theorem bTa_append_0 {d : Nat} {w : sx_W} {Q : sx_Q} {y1 : Int64} {x3 : Int32}
    (k1 : sx_ev d rTa_append 5 [.ref 33, .long y1, .null, .null, .int (x3 - (1 : Int32))] [] w Q) :
    sx_ev d rTa_append 0 [.ref 33, .long y1, .null, .int x3, .null] [] w Q := by
  refine ev_iload_n (dTa_append.at 0 rfl) rfl ?_
  refine ev_iconst (dTa_append.at 1 rfl) kI_1 ?_
  refine ev_isub (dTa_append.at 2 rfl) ?_
  refine ev_istore (dTa_append.at 3 rfl) (by decide) rfl ?_
  refine ev_kp [true, true, false, false, true] rfl ?_
  exact k1
set_option maxHeartbeats 4000000 in
theorem bTa_append_5 {d : Nat} {w : sx_W} {Q : sx_Q} {y1 : Int64} {x4 : Int32} {f1 : Int32}
    (k1 : (x4 < 0) → Q 0 0 w)
    (k2 : (¬ x4 < 0) → ((100 : Int32) ≤ (w.1 33 1)) → Q 0 0 w)
    (m1 : (¬ x4 < 0) → (¬ (100 : Int32) ≤ (w.1 33 1)) → sx_de d rTa_byteAt [.long y1, .int x4] w f1 0 w)
    (o1 : (¬ x4 < 0) → (¬ (100 : Int32) ≤ (w.1 33 1)) → vp_in (w.1 33 1) 100)
    (k3 : (¬ x4 < 0) → (¬ (100 : Int32) ≤ (w.1 33 1)) → sx_ev (d + 1) rTa_append 5 [.ref 33, .long y1, .null, .null, .int (x4 + (-1 : Int32))] [] ((sx_u (sx_u w.1 34 (w.1 33 1).toNatClampNeg f1) 33 1 ((w.1 33 1) + (1 : Int32))), w.2) Q) :
    sx_ev (d + 1) rTa_append 5 [.ref 33, .long y1, .null, .null, .int x4] [] w Q := by
  refine ev_iload (dTa_append.at 4 rfl) rfl ?_
  refine ev_if_lt (tgt := 50) (dTa_append.at 5 rfl) rfl (fun c1 => ?_) (fun c1 => ?_)
  · exact ev_vret (dTa_append.at 26 rfl) rfl (k1 c1)
  · refine ev_aload_n (dTa_append.at 6 rfl) rfl ?_
    refine ev_get (dTa_append.at 7 rfl) (own := 6) rfl fkTa_15 rfl rfl ?_
    refine ev_bipush (dTa_append.at 8 rfl) kB_100 ?_
    refine ev_icmp_ge (tgt := 50) (dTa_append.at 9 rfl) rfl (fun c2 => ?_) (fun c2 => ?_)
    · exact ev_vret (dTa_append.at 26 rfl) rfl (k2 c1 c2)
    · refine ev_aload_n (dTa_append.at 10 rfl) rfl ?_
      refine ev_getr (dTa_append.at 11 rfl) (own := 6) rfl fkTa_11 rfl rfl ?_
      refine ev_aload_n (dTa_append.at 12 rfl) rfl ?_
      refine ev_get (dTa_append.at 13 rfl) (own := 6) rfl fkTa_15 rfl rfl ?_
      refine ev_lload_n (dTa_append.at 14 rfl) rfl ?_
      refine ev_iload (dTa_append.at 15 rfl) rfl ?_
      refine ev_cSi (dTa_append.at 16 rfl) (As := [.long y1, .int x4]) (own := 6) rfl ckTa_34 (Or.inl rfl) rfl (Nat.le_of_ble_eq_true rfl) rfl (m1 c1 c2) ?_
      refine ev_iastore (dTa_append.at 17 rfl) rfl (o1 c1 c2) ?_
      refine ev_aload_n (dTa_append.at 18 rfl) rfl ?_
      refine ev_dup (dTa_append.at 19 rfl) rfl ?_
      refine ev_get (dTa_append.at 20 rfl) (own := 6) rfl fkTa_15 rfl rfl ?_
      refine ev_iconst (dTa_append.at 21 rfl) kI_1 ?_
      refine ev_iadd (dTa_append.at 22 rfl) ?_
      refine ev_put (dTa_append.at 23 rfl) (own := 6) rfl fkTa_15 rfl rfl ?_
      refine ev_iinc (dTa_append.at 24 rfl) kI_m1 rfl (by decide) rfl ?_
      refine ev_goto (tgt := 5) (dTa_append.at 25 rfl) rfl ?_
      exact (k3 c1 c2)
set_option maxHeartbeats 4000000 in
theorem bTa_parses_0 {d : Nat} {w : sx_W} {Q : sx_Q}
    (k1 : sx_ev d rTa_parses 7 [.ref 33, .int (0 : Int32), .null] [] ((sx_u w.1 33 2 (0 : Int32)), w.2) Q) :
    sx_ev d rTa_parses 0 [.ref 33, .null, .null] [] w Q := by
  refine ev_aload_n (dTa_parses.at 0 rfl) rfl ?_
  refine ev_iconst (dTa_parses.at 1 rfl) kI_0 ?_
  refine ev_put (dTa_parses.at 2 rfl) (own := 6) rfl fkTa_19 rfl rfl ?_
  refine ev_iconst (dTa_parses.at 3 rfl) kI_0 ?_
  refine ev_istore_n (dTa_parses.at 4 rfl) (by decide) rfl ?_
  exact k1
set_option maxHeartbeats 4000000 in
theorem bTa_parses_7 {d : Nat} {w : sx_W} {Q : sx_Q} {x1 : Int32} {f1 : Int32} {w1 : sx_W} {f2 : Int32} {w2 : sx_W}
    (k1 : ((7 : Int32) ≤ x1) → Q (0 : Int32) 0 w)
    (m1 : (¬ (7 : Int32) ≤ x1) → sx_de d rTa_readLodger [.ref 33, .int x1] w f1 0 w1)
    (m2 : (¬ (7 : Int32) ≤ x1) → (¬ f1 = 0) → sx_de d rTa_peek [.ref 33] w1 f2 0 w2)
    (k2 : (¬ (7 : Int32) ≤ x1) → (¬ f1 = 0) → (¬ f2 = (-1 : Int32)) → (¬ f2 = (44 : Int32)) → Q (0 : Int32) 0 ((sx_u w2.1 33 3 (x1 + (1 : Int32))), w2.2))
    (k3 : (¬ (7 : Int32) ≤ x1) → (¬ f1 = 0) → (¬ f2 = (-1 : Int32)) → (f2 = (44 : Int32)) → (¬ (x1 + (1 : Int32)) = (7 : Int32)) → sx_ev (d + 1) rTa_parses 7 [.ref 33, .int (x1 + (1 : Int32)), .null] [] ((sx_u (sx_u w2.1 33 3 (x1 + (1 : Int32))) 33 2 ((w2.1 33 2) + (1 : Int32))), w2.2) Q)
    (k4 : (¬ (7 : Int32) ≤ x1) → (¬ f1 = 0) → (¬ f2 = (-1 : Int32)) → (f2 = (44 : Int32)) → ((x1 + (1 : Int32)) = (7 : Int32)) → Q (0 : Int32) 0 ((sx_u w2.1 33 3 (x1 + (1 : Int32))), w2.2))
    (k5 : (¬ (7 : Int32) ≤ x1) → (¬ f1 = 0) → (f2 = (-1 : Int32)) → Q (1 : Int32) 0 ((sx_u w2.1 33 3 (x1 + (1 : Int32))), w2.2))
    (k6 : (¬ (7 : Int32) ≤ x1) → (f1 = 0) → Q (0 : Int32) 0 w1) :
    sx_ev (d + 1) rTa_parses 7 [.ref 33, .int x1, .null] [] w Q := by
  refine ev_iload_n (dTa_parses.at 5 rfl) rfl ?_
  refine ev_bipush (dTa_parses.at 6 rfl) kB_7 ?_
  refine ev_icmp_ge (tgt := 75) (dTa_parses.at 7 rfl) rfl (fun c1 => ?_) (fun c1 => ?_)
  · refine ev_iconst (dTa_parses.at 44 rfl) kI_0 ?_
    exact ev_zret (dTa_parses.at 45 rfl) rfl (by decide) (k1 c1)
  · refine ev_aload_n (dTa_parses.at 8 rfl) rfl ?_
    refine ev_iload_n (dTa_parses.at 9 rfl) rfl ?_
    refine ev_cVi (dTa_parses.at 10 rfl) (As := [.int x1]) (own := 6) rfl ckTa_38 rfl (Or.inr rfl) rfl (Nat.le_of_ble_eq_true rfl) rfl (m1 c1) ?_
    refine ev_if_ne (tgt := 23) (dTa_parses.at 11 rfl) rfl (fun c2 => ?_) (fun c2 => ?_)
    · refine ev_aload_n (dTa_parses.at 14 rfl) rfl ?_
      refine ev_cVi (dTa_parses.at 15 rfl) (As := []) (own := 6) rfl ckTa_42 rfl (Or.inl rfl) rfl (Nat.le_of_ble_eq_true rfl) rfl (m2 c1 c2) ?_
      refine ev_istore_n (dTa_parses.at 16 rfl) (by decide) rfl ?_
      refine ev_aload_n (dTa_parses.at 17 rfl) rfl ?_
      refine ev_iload_n (dTa_parses.at 18 rfl) rfl ?_
      refine ev_iconst (dTa_parses.at 19 rfl) kI_1 ?_
      refine ev_iadd (dTa_parses.at 20 rfl) ?_
      refine ev_put (dTa_parses.at 21 rfl) (own := 6) rfl fkTa_22 rfl rfl ?_
      refine ev_iload_n (dTa_parses.at 22 rfl) rfl ?_
      refine ev_iconst (dTa_parses.at 23 rfl) kI_m1 ?_
      refine ev_icmp_ne (tgt := 42) (dTa_parses.at 24 rfl) rfl (fun c3 => ?_) (fun c3 => ?_)
      · refine ev_iload_n (dTa_parses.at 27 rfl) rfl ?_
        refine ev_bipush (dTa_parses.at 28 rfl) kB_44 ?_
        refine ev_icmp_ne (tgt := 57) (dTa_parses.at 29 rfl) rfl (fun c4 => ?_) (fun c4 => ?_)
        · refine ev_iconst (dTa_parses.at 34 rfl) kI_0 ?_
          exact ev_zret (dTa_parses.at 35 rfl) rfl (by decide) (k2 c1 c2 c3 c4)
        · refine ev_aload_n (dTa_parses.at 30 rfl) rfl ?_
          refine ev_get (dTa_parses.at 31 rfl) (own := 6) rfl fkTa_22 rfl rfl ?_
          refine ev_bipush (dTa_parses.at 32 rfl) kB_7 ?_
          refine ev_icmp_ne (tgt := 59) (dTa_parses.at 33 rfl) rfl (fun c5 => ?_) (fun c5 => ?_)
          · refine ev_aload_n (dTa_parses.at 36 rfl) rfl ?_
            refine ev_dup (dTa_parses.at 37 rfl) rfl ?_
            refine ev_get (dTa_parses.at 38 rfl) (own := 6) rfl fkTa_19 rfl rfl ?_
            refine ev_iconst (dTa_parses.at 39 rfl) kI_1 ?_
            refine ev_iadd (dTa_parses.at 40 rfl) ?_
            refine ev_put (dTa_parses.at 41 rfl) (own := 6) rfl fkTa_19 rfl rfl ?_
            refine ev_iinc (dTa_parses.at 42 rfl) kI_1 rfl (by decide) rfl ?_
            refine ev_goto (tgt := 7) (dTa_parses.at 43 rfl) rfl ?_
            refine ev_kp [true, true, false] rfl ?_
            exact (k3 c1 c2 c3 c4 c5)
          · refine ev_iconst (dTa_parses.at 34 rfl) kI_0 ?_
            exact ev_zret (dTa_parses.at 35 rfl) rfl (by decide) (k4 c1 c2 c3 c4 c5)
      · refine ev_iconst (dTa_parses.at 25 rfl) kI_1 ?_
        exact ev_zret (dTa_parses.at 26 rfl) rfl (by decide) (k5 c1 c2 c3)
    · refine ev_iconst (dTa_parses.at 12 rfl) kI_0 ?_
      exact ev_zret (dTa_parses.at 13 rfl) rfl (by decide) (k6 c1 c2)
set_option maxHeartbeats 4000000 in
theorem bTa_readLodger_0 {d : Nat} {w : sx_W} {Q : sx_Q} {x1 : Int32} {f1 : Int32} {w1 : sx_W} {f2 : Int32} {f3 : Int32} {w3 : sx_W} {f4 : Int32} {w4 : sx_W} {f5 : Int32} {w5 : sx_W}
    (m1 : sx_de d rTa_peek [.ref 33] w f1 0 w1)
    (m2 : sx_de d rTa_kindOf [.int f1] w1 f2 0 w1)
    (m3 : (¬ f2 = (-1 : Int32)) → sx_de d rTa_peek [.ref 33] ((sx_u w1.1 33 2 ((w1.1 33 2) + (1 : Int32))), w1.2) f3 0 w3)
    (k1 : (¬ f2 = (-1 : Int32)) → ((f3 - (48 : Int32)) < (1 : Int32)) → Q (0 : Int32) 0 w3)
    (o1 : (¬ f2 = (-1 : Int32)) → (¬ (f3 - (48 : Int32)) < (1 : Int32)) → ((f3 - (48 : Int32)) ≤ (4 : Int32)) → vp_in x1 7)
    (m4 : (¬ f2 = (-1 : Int32)) → (¬ (f3 - (48 : Int32)) < (1 : Int32)) → ((f3 - (48 : Int32)) ≤ (4 : Int32)) → sx_de d rTa_peek [.ref 33] ((sx_u (sx_u (sx_u (sx_u w3.1 33 2 ((w3.1 33 2) + (1 : Int32))) 35 x1.toNatClampNeg f2) 36 x1.toNatClampNeg (f3 - (48 : Int32))) 37 x1.toNatClampNeg (0 : Int32)), w3.2) f4 0 w4)
    (m5 : (¬ f2 = (-1 : Int32)) → (¬ (f3 - (48 : Int32)) < (1 : Int32)) → ((f3 - (48 : Int32)) ≤ (4 : Int32)) → (f4 = (119 : Int32)) → sx_de d rTa_readWork [.ref 33, .int x1] ((sx_u w4.1 33 2 ((w4.1 33 2) + (1 : Int32))), w4.2) f5 0 w5)
    (k2 : (¬ f2 = (-1 : Int32)) → (¬ (f3 - (48 : Int32)) < (1 : Int32)) → ((f3 - (48 : Int32)) ≤ (4 : Int32)) → (f4 = (119 : Int32)) → Q f5 0 w5)
    (o2 : (¬ f2 = (-1 : Int32)) → (¬ (f3 - (48 : Int32)) < (1 : Int32)) → ((f3 - (48 : Int32)) ≤ (4 : Int32)) → (f4 = (119 : Int32)) → (f5 = 0 ∨ f5 = 1))
    (k3 : (¬ f2 = (-1 : Int32)) → (¬ (f3 - (48 : Int32)) < (1 : Int32)) → ((f3 - (48 : Int32)) ≤ (4 : Int32)) → (¬ f4 = (119 : Int32)) → Q (1 : Int32) 0 w4)
    (k4 : (¬ f2 = (-1 : Int32)) → (¬ (f3 - (48 : Int32)) < (1 : Int32)) → (¬ (f3 - (48 : Int32)) ≤ (4 : Int32)) → Q (0 : Int32) 0 w3)
    (k5 : (f2 = (-1 : Int32)) → Q (0 : Int32) 0 w1) :
    sx_ev (d + 1) rTa_readLodger 0 [.ref 33, .int x1, .null, .null] [] w Q := by
  refine ev_aload_n (dTa_readLodger.at 0 rfl) rfl ?_
  refine ev_cVi (dTa_readLodger.at 1 rfl) (As := []) (own := 6) rfl ckTa_42 rfl (Or.inl rfl) rfl (Nat.le_of_ble_eq_true rfl) rfl m1 ?_
  refine ev_cSi (dTa_readLodger.at 2 rfl) (As := [.int f1]) (own := 6) rfl ckTa_46 (Or.inl rfl) rfl (Nat.le_of_ble_eq_true rfl) rfl m2 ?_
  refine ev_istore_n (dTa_readLodger.at 3 rfl) (by decide) rfl ?_
  refine ev_iload_n (dTa_readLodger.at 4 rfl) rfl ?_
  refine ev_iconst (dTa_readLodger.at 5 rfl) kI_m1 ?_
  refine ev_icmp_ne (tgt := 15) (dTa_readLodger.at 6 rfl) rfl (fun c1 => ?_) (fun c1 => ?_)
  · refine ev_aload_n (dTa_readLodger.at 9 rfl) rfl ?_
    refine ev_dup (dTa_readLodger.at 10 rfl) rfl ?_
    refine ev_get (dTa_readLodger.at 11 rfl) (own := 6) rfl fkTa_19 rfl rfl ?_
    refine ev_iconst (dTa_readLodger.at 12 rfl) kI_1 ?_
    refine ev_iadd (dTa_readLodger.at 13 rfl) ?_
    refine ev_put (dTa_readLodger.at 14 rfl) (own := 6) rfl fkTa_19 rfl rfl ?_
    refine ev_aload_n (dTa_readLodger.at 15 rfl) rfl ?_
    refine ev_cVi (dTa_readLodger.at 16 rfl) (As := []) (own := 6) rfl ckTa_42 rfl (Or.inl rfl) rfl (Nat.le_of_ble_eq_true rfl) rfl (m3 c1) ?_
    refine ev_bipush (dTa_readLodger.at 17 rfl) kB_48 ?_
    refine ev_isub (dTa_readLodger.at 18 rfl) ?_
    refine ev_istore_n (dTa_readLodger.at 19 rfl) (by decide) rfl ?_
    refine ev_iload_n (dTa_readLodger.at 20 rfl) rfl ?_
    refine ev_iconst (dTa_readLodger.at 21 rfl) kI_1 ?_
    refine ev_icmp_lt (tgt := 43) (dTa_readLodger.at 22 rfl) rfl (fun c2 => ?_) (fun c2 => ?_)
    · refine ev_iconst (dTa_readLodger.at 26 rfl) kI_0 ?_
      exact ev_zret (dTa_readLodger.at 27 rfl) rfl (by decide) (k1 c1 c2)
    · refine ev_iload_n (dTa_readLodger.at 23 rfl) rfl ?_
      refine ev_iconst (dTa_readLodger.at 24 rfl) kI_4 ?_
      refine ev_icmp_le (tgt := 45) (dTa_readLodger.at 25 rfl) rfl (fun c3 => ?_) (fun c3 => ?_)
      · refine ev_aload_n (dTa_readLodger.at 28 rfl) rfl ?_
        refine ev_dup (dTa_readLodger.at 29 rfl) rfl ?_
        refine ev_get (dTa_readLodger.at 30 rfl) (own := 6) rfl fkTa_19 rfl rfl ?_
        refine ev_iconst (dTa_readLodger.at 31 rfl) kI_1 ?_
        refine ev_iadd (dTa_readLodger.at 32 rfl) ?_
        refine ev_put (dTa_readLodger.at 33 rfl) (own := 6) rfl fkTa_19 rfl rfl ?_
        refine ev_aload_n (dTa_readLodger.at 34 rfl) rfl ?_
        refine ev_getr (dTa_readLodger.at 35 rfl) (own := 6) rfl fkTa_25 rfl rfl ?_
        refine ev_iload_n (dTa_readLodger.at 36 rfl) rfl ?_
        refine ev_iload_n (dTa_readLodger.at 37 rfl) rfl ?_
        refine ev_iastore (dTa_readLodger.at 38 rfl) rfl (o1 c1 c2 c3) ?_
        refine ev_aload_n (dTa_readLodger.at 39 rfl) rfl ?_
        refine ev_getr (dTa_readLodger.at 40 rfl) (own := 6) rfl fkTa_28 rfl rfl ?_
        refine ev_iload_n (dTa_readLodger.at 41 rfl) rfl ?_
        refine ev_iload_n (dTa_readLodger.at 42 rfl) rfl ?_
        refine ev_iastore (dTa_readLodger.at 43 rfl) rfl (o1 c1 c2 c3) ?_
        refine ev_aload_n (dTa_readLodger.at 44 rfl) rfl ?_
        refine ev_getr (dTa_readLodger.at 45 rfl) (own := 6) rfl fkTa_31 rfl rfl ?_
        refine ev_iload_n (dTa_readLodger.at 46 rfl) rfl ?_
        refine ev_iconst (dTa_readLodger.at 47 rfl) kI_0 ?_
        refine ev_iastore (dTa_readLodger.at 48 rfl) rfl (o1 c1 c2 c3) ?_
        refine ev_aload_n (dTa_readLodger.at 49 rfl) rfl ?_
        refine ev_cVi (dTa_readLodger.at 50 rfl) (As := []) (own := 6) rfl ckTa_42 rfl (Or.inl rfl) rfl (Nat.le_of_ble_eq_true rfl) rfl (m4 c1 c2 c3) ?_
        refine ev_bipush (dTa_readLodger.at 51 rfl) kB_119 ?_
        refine ev_icmp_eq (tgt := 87) (dTa_readLodger.at 52 rfl) rfl (fun c4 => ?_) (fun c4 => ?_)
        · refine ev_aload_n (dTa_readLodger.at 55 rfl) rfl ?_
          refine ev_dup (dTa_readLodger.at 56 rfl) rfl ?_
          refine ev_get (dTa_readLodger.at 57 rfl) (own := 6) rfl fkTa_19 rfl rfl ?_
          refine ev_iconst (dTa_readLodger.at 58 rfl) kI_1 ?_
          refine ev_iadd (dTa_readLodger.at 59 rfl) ?_
          refine ev_put (dTa_readLodger.at 60 rfl) (own := 6) rfl fkTa_19 rfl rfl ?_
          refine ev_aload_n (dTa_readLodger.at 61 rfl) rfl ?_
          refine ev_iload_n (dTa_readLodger.at 62 rfl) rfl ?_
          refine ev_cVi (dTa_readLodger.at 63 rfl) (As := [.int x1]) (own := 6) rfl ckTa_50 rfl (Or.inr rfl) rfl (Nat.le_of_ble_eq_true rfl) rfl (m5 c1 c2 c3 c4) ?_
          exact ev_zret (dTa_readLodger.at 64 rfl) rfl (o2 c1 c2 c3 c4) (k2 c1 c2 c3 c4)
        · refine ev_iconst (dTa_readLodger.at 53 rfl) kI_1 ?_
          exact ev_zret (dTa_readLodger.at 54 rfl) rfl (by decide) (k3 c1 c2 c3 c4)
      · refine ev_iconst (dTa_readLodger.at 26 rfl) kI_0 ?_
        exact ev_zret (dTa_readLodger.at 27 rfl) rfl (by decide) (k4 c1 c2 c3)
  · refine ev_iconst (dTa_readLodger.at 7 rfl) kI_0 ?_
    exact ev_zret (dTa_readLodger.at 8 rfl) rfl (by decide) (k5 c1)
set_option maxHeartbeats 4000000 in
theorem bTa_readWork_0 {d : Nat} {w : sx_W} {Q : sx_Q} {x1 : Int32}
    (k1 : sx_ev d rTa_readWork 2 [.ref 33, .int x1, .int (0 : Int32), .null] [] w Q) :
    sx_ev d rTa_readWork 0 [.ref 33, .int x1, .null, .null] [] w Q := by
  refine ev_iconst (dTa_readWork.at 0 rfl) kI_0 ?_
  refine ev_istore_n (dTa_readWork.at 1 rfl) (by decide) rfl ?_
  exact k1
set_option maxHeartbeats 4000000 in
theorem bTa_readWork_2 {d : Nat} {w : sx_W} {Q : sx_Q} {x1 : Int32} {x2 : Int32} {f1 : Int32} {w1 : sx_W} {f2 : Int32} {f3 : Int32}
    (k1 : ((8 : Int32) < x2) → Q (0 : Int32) 0 w)
    (m1 : (¬ (8 : Int32) < x2) → sx_de d rTa_peek [.ref 33] w f1 0 w1)
    (m2 : (¬ (8 : Int32) < x2) → sx_de d rSb_isPart [.int (f1 - (48 : Int32))] w1 f2 0 w1)
    (o1 : (¬ (8 : Int32) < x2) → (¬ f2 = 0) → vp_in x1 7)
    (m3 : (¬ (8 : Int32) < x2) → (¬ f2 = 0) → sx_de d rSb_holds [.int (w1.1 37 x1.toNatClampNeg), .int (f1 - (48 : Int32))] w1 f3 0 w1)
    (k2 : (¬ (8 : Int32) < x2) → (¬ f2 = 0) → (f3 = 0) → sx_ev (d + 1) rTa_readWork 2 [.ref 33, .int x1, .int (x2 + (1 : Int32)), .null] [] ((sx_u (sx_u w1.1 37 x1.toNatClampNeg ((w1.1 37 x1.toNatClampNeg) ||| ((1 : Int32) <<< ((f1 - (48 : Int32)) &&& 31)))) 33 2 ((w1.1 33 2) + (1 : Int32))), w1.2) Q)
    (k3 : (¬ (8 : Int32) < x2) → (¬ f2 = 0) → (¬ f3 = 0) → Q (0 : Int32) 0 w1)
    (k4 : (¬ (8 : Int32) < x2) → (f2 = 0) → (x2 ≤ 0) → Q (0 : Int32) 0 w1)
    (k5 : (¬ (8 : Int32) < x2) → (f2 = 0) → (¬ x2 ≤ 0) → Q (1 : Int32) 0 w1) :
    sx_ev (d + 1) rTa_readWork 2 [.ref 33, .int x1, .int x2, .null] [] w Q := by
  refine ev_iload_n (dTa_readWork.at 2 rfl) rfl ?_
  refine ev_bipush (dTa_readWork.at 3 rfl) kB_8 ?_
  refine ev_icmp_gt (tgt := 76) (dTa_readWork.at 4 rfl) rfl (fun c1 => ?_) (fun c1 => ?_)
  · refine ev_iconst (dTa_readWork.at 46 rfl) kI_0 ?_
    exact ev_zret (dTa_readWork.at 47 rfl) rfl (by decide) (k1 c1)
  · refine ev_aload_n (dTa_readWork.at 5 rfl) rfl ?_
    refine ev_cVi (dTa_readWork.at 6 rfl) (As := []) (own := 6) rfl ckTa_42 rfl (Or.inl rfl) rfl (Nat.le_of_ble_eq_true rfl) rfl (m1 c1) ?_
    refine ev_bipush (dTa_readWork.at 7 rfl) kB_48 ?_
    refine ev_isub (dTa_readWork.at 8 rfl) ?_
    refine ev_istore_n (dTa_readWork.at 9 rfl) (by decide) rfl ?_
    refine ev_iload_n (dTa_readWork.at 10 rfl) rfl ?_
    refine ev_cNi (dTa_readWork.at 11 rfl) (As := [.int (f1 - (48 : Int32))]) (own := 6) rfl ckTa_53 (Or.inr rfl) rfl (Nat.le_of_ble_eq_true rfl) rfl (m2 c1) ?_
    refine ev_if_ne (tgt := 33) (dTa_readWork.at 12 rfl) rfl (fun c2 => ?_) (fun c2 => ?_)
    · refine ev_aload_n (dTa_readWork.at 19 rfl) rfl ?_
      refine ev_getr (dTa_readWork.at 20 rfl) (own := 6) rfl fkTa_31 rfl rfl ?_
      refine ev_iload_n (dTa_readWork.at 21 rfl) rfl ?_
      refine ev_iaload (dTa_readWork.at 22 rfl) rfl (o1 c1 c2) ?_
      refine ev_iload_n (dTa_readWork.at 23 rfl) rfl ?_
      refine ev_cNi (dTa_readWork.at 24 rfl) (As := [.int (w1.1 37 x1.toNatClampNeg), .int (f1 - (48 : Int32))]) (own := 6) rfl ckTa_56 (Or.inr rfl) rfl (Nat.le_of_ble_eq_true rfl) rfl (m3 c1 c2) ?_
      refine ev_if_eq (tgt := 48) (dTa_readWork.at 25 rfl) rfl (fun c3 => ?_) (fun c3 => ?_)
      · refine ev_aload_n (dTa_readWork.at 28 rfl) rfl ?_
        refine ev_getr (dTa_readWork.at 29 rfl) (own := 6) rfl fkTa_31 rfl rfl ?_
        refine ev_iload_n (dTa_readWork.at 30 rfl) rfl ?_
        refine ev_dup2 (dTa_readWork.at 31 rfl) rfl rfl ?_
        refine ev_iaload (dTa_readWork.at 32 rfl) rfl (o1 c1 c2) ?_
        refine ev_iconst (dTa_readWork.at 33 rfl) kI_1 ?_
        refine ev_iload_n (dTa_readWork.at 34 rfl) rfl ?_
        refine ev_ishl (dTa_readWork.at 35 rfl) ?_
        refine ev_ior (dTa_readWork.at 36 rfl) ?_
        refine ev_iastore (dTa_readWork.at 37 rfl) rfl (o1 c1 c2) ?_
        refine ev_aload_n (dTa_readWork.at 38 rfl) rfl ?_
        refine ev_dup (dTa_readWork.at 39 rfl) rfl ?_
        refine ev_get (dTa_readWork.at 40 rfl) (own := 6) rfl fkTa_19 rfl rfl ?_
        refine ev_iconst (dTa_readWork.at 41 rfl) kI_1 ?_
        refine ev_iadd (dTa_readWork.at 42 rfl) ?_
        refine ev_put (dTa_readWork.at 43 rfl) (own := 6) rfl fkTa_19 rfl rfl ?_
        refine ev_iinc (dTa_readWork.at 44 rfl) kI_1 rfl (by decide) rfl ?_
        refine ev_goto (tgt := 2) (dTa_readWork.at 45 rfl) rfl ?_
        refine ev_kp [true, true, true, false] rfl ?_
        exact (k2 c1 c2 c3)
      · refine ev_iconst (dTa_readWork.at 26 rfl) kI_0 ?_
        exact ev_zret (dTa_readWork.at 27 rfl) rfl (by decide) (k3 c1 c2 c3)
    · refine ev_iload_n (dTa_readWork.at 13 rfl) rfl ?_
      refine ev_if_le (tgt := 31) (dTa_readWork.at 14 rfl) rfl (fun c4 => ?_) (fun c4 => ?_)
      · refine ev_iconst (dTa_readWork.at 17 rfl) kI_0 ?_
        exact ev_zret (dTa_readWork.at 18 rfl) rfl (by decide) (k4 c1 c2 c4)
      · refine ev_iconst (dTa_readWork.at 15 rfl) kI_1 ?_
        refine ev_goto (tgt := 32) (dTa_readWork.at 16 rfl) rfl ?_
        exact ev_zret (dTa_readWork.at 18 rfl) rfl (by decide) (k5 c1 c2 c4)
set_option maxHeartbeats 4000000 in
theorem bTa_peek_e {d : Nat} {w : sx_W} {Q : sx_Q}
    (k1 : ((w.1 33 1) ≤ (w.1 33 2)) → Q (-1 : Int32) 0 w)
    (o1 : (¬ (w.1 33 1) ≤ (w.1 33 2)) → vp_in (w.1 33 2) 100)
    (k2 : (¬ (w.1 33 1) ≤ (w.1 33 2)) → (¬ (w.1 34 (w.1 33 2).toNatClampNeg) = (32 : Int32)) → Q (w.1 34 (w.1 33 2).toNatClampNeg) 0 w)
    (k3 : (¬ (w.1 33 1) ≤ (w.1 33 2)) → ((w.1 34 (w.1 33 2).toNatClampNeg) = (32 : Int32)) → sx_ev d rTa_peek 0 [.ref 33] [] ((sx_u w.1 33 2 ((w.1 33 2) + (1 : Int32))), w.2) Q) :
    sx_ev d rTa_peek 0 [.ref 33] [] w Q := by
  refine ev_aload_n (dTa_peek.at 0 rfl) rfl ?_
  refine ev_get (dTa_peek.at 1 rfl) (own := 6) rfl fkTa_19 rfl rfl ?_
  refine ev_aload_n (dTa_peek.at 2 rfl) rfl ?_
  refine ev_get (dTa_peek.at 3 rfl) (own := 6) rfl fkTa_15 rfl rfl ?_
  refine ev_icmp_ge (tgt := 38) (dTa_peek.at 4 rfl) rfl (fun c1 => ?_) (fun c1 => ?_)
  · refine ev_aload_n (dTa_peek.at 19 rfl) rfl ?_
    refine ev_get (dTa_peek.at 20 rfl) (own := 6) rfl fkTa_19 rfl rfl ?_
    refine ev_aload_n (dTa_peek.at 21 rfl) rfl ?_
    refine ev_get (dTa_peek.at 22 rfl) (own := 6) rfl fkTa_15 rfl rfl ?_
    refine ev_icmp_ge (tgt := 61) (dTa_peek.at 23 rfl) rfl (fun _ => ?_) (fun h => absurd c1 h)
    refine ev_iconst (dTa_peek.at 30 rfl) kI_m1 ?_
    exact ev_iret (dTa_peek.at 31 rfl) rfl (k1 c1)
  · refine ev_aload_n (dTa_peek.at 5 rfl) rfl ?_
    refine ev_getr (dTa_peek.at 6 rfl) (own := 6) rfl fkTa_11 rfl rfl ?_
    refine ev_aload_n (dTa_peek.at 7 rfl) rfl ?_
    refine ev_get (dTa_peek.at 8 rfl) (own := 6) rfl fkTa_19 rfl rfl ?_
    refine ev_iaload (dTa_peek.at 9 rfl) rfl (o1 c1) ?_
    refine ev_bipush (dTa_peek.at 10 rfl) kB_32 ?_
    refine ev_icmp_ne (tgt := 38) (dTa_peek.at 11 rfl) rfl (fun c2 => ?_) (fun c2 => ?_)
    · refine ev_aload_n (dTa_peek.at 19 rfl) rfl ?_
      refine ev_get (dTa_peek.at 20 rfl) (own := 6) rfl fkTa_19 rfl rfl ?_
      refine ev_aload_n (dTa_peek.at 21 rfl) rfl ?_
      refine ev_get (dTa_peek.at 22 rfl) (own := 6) rfl fkTa_15 rfl rfl ?_
      refine ev_icmp_ge (tgt := 61) (dTa_peek.at 23 rfl) rfl (fun h => absurd h c1) (fun _ => ?_)
      refine ev_aload_n (dTa_peek.at 24 rfl) rfl ?_
      refine ev_getr (dTa_peek.at 25 rfl) (own := 6) rfl fkTa_11 rfl rfl ?_
      refine ev_aload_n (dTa_peek.at 26 rfl) rfl ?_
      refine ev_get (dTa_peek.at 27 rfl) (own := 6) rfl fkTa_19 rfl rfl ?_
      refine ev_iaload (dTa_peek.at 28 rfl) rfl (o1 c1) ?_
      refine ev_goto (tgt := 62) (dTa_peek.at 29 rfl) rfl ?_
      exact ev_iret (dTa_peek.at 31 rfl) rfl (k2 c1 c2)
    · refine ev_aload_n (dTa_peek.at 12 rfl) rfl ?_
      refine ev_dup (dTa_peek.at 13 rfl) rfl ?_
      refine ev_get (dTa_peek.at 14 rfl) (own := 6) rfl fkTa_19 rfl rfl ?_
      refine ev_iconst (dTa_peek.at 15 rfl) kI_1 ?_
      refine ev_iadd (dTa_peek.at 16 rfl) ?_
      refine ev_put (dTa_peek.at 17 rfl) (own := 6) rfl fkTa_19 rfl rfl ?_
      refine ev_goto (tgt := 0) (dTa_peek.at 18 rfl) rfl ?_
      exact (k3 c1 c2)
set_option maxHeartbeats 4000000 in
theorem bTa_peek_0 {d : Nat} {w : sx_W} {Q : sx_Q}
    (k1 : ((w.1 33 1) ≤ (w.1 33 2)) → Q (-1 : Int32) 0 w)
    (o1 : (¬ (w.1 33 1) ≤ (w.1 33 2)) → vp_in (w.1 33 2) 100)
    (k2 : (¬ (w.1 33 1) ≤ (w.1 33 2)) → (¬ (w.1 34 (w.1 33 2).toNatClampNeg) = (32 : Int32)) → Q (w.1 34 (w.1 33 2).toNatClampNeg) 0 w)
    (k3 : (¬ (w.1 33 1) ≤ (w.1 33 2)) → ((w.1 34 (w.1 33 2).toNatClampNeg) = (32 : Int32)) → sx_ev d rTa_peek 0 [.ref 33] [] ((sx_u w.1 33 2 ((w.1 33 2) + (1 : Int32))), w.2) Q) :
    sx_ev d rTa_peek 0 [.ref 33] [] w Q := by
  refine ev_aload_n (dTa_peek.at 0 rfl) rfl ?_
  refine ev_get (dTa_peek.at 1 rfl) (own := 6) rfl fkTa_19 rfl rfl ?_
  refine ev_aload_n (dTa_peek.at 2 rfl) rfl ?_
  refine ev_get (dTa_peek.at 3 rfl) (own := 6) rfl fkTa_15 rfl rfl ?_
  refine ev_icmp_ge (tgt := 38) (dTa_peek.at 4 rfl) rfl (fun c1 => ?_) (fun c1 => ?_)
  · refine ev_aload_n (dTa_peek.at 19 rfl) rfl ?_
    refine ev_get (dTa_peek.at 20 rfl) (own := 6) rfl fkTa_19 rfl rfl ?_
    refine ev_aload_n (dTa_peek.at 21 rfl) rfl ?_
    refine ev_get (dTa_peek.at 22 rfl) (own := 6) rfl fkTa_15 rfl rfl ?_
    refine ev_icmp_ge (tgt := 61) (dTa_peek.at 23 rfl) rfl (fun _ => ?_) (fun h => absurd c1 h)
    refine ev_iconst (dTa_peek.at 30 rfl) kI_m1 ?_
    exact ev_iret (dTa_peek.at 31 rfl) rfl (k1 c1)
  · refine ev_aload_n (dTa_peek.at 5 rfl) rfl ?_
    refine ev_getr (dTa_peek.at 6 rfl) (own := 6) rfl fkTa_11 rfl rfl ?_
    refine ev_aload_n (dTa_peek.at 7 rfl) rfl ?_
    refine ev_get (dTa_peek.at 8 rfl) (own := 6) rfl fkTa_19 rfl rfl ?_
    refine ev_iaload (dTa_peek.at 9 rfl) rfl (o1 c1) ?_
    refine ev_bipush (dTa_peek.at 10 rfl) kB_32 ?_
    refine ev_icmp_ne (tgt := 38) (dTa_peek.at 11 rfl) rfl (fun c2 => ?_) (fun c2 => ?_)
    · refine ev_aload_n (dTa_peek.at 19 rfl) rfl ?_
      refine ev_get (dTa_peek.at 20 rfl) (own := 6) rfl fkTa_19 rfl rfl ?_
      refine ev_aload_n (dTa_peek.at 21 rfl) rfl ?_
      refine ev_get (dTa_peek.at 22 rfl) (own := 6) rfl fkTa_15 rfl rfl ?_
      refine ev_icmp_ge (tgt := 61) (dTa_peek.at 23 rfl) rfl (fun h => absurd h c1) (fun _ => ?_)
      refine ev_aload_n (dTa_peek.at 24 rfl) rfl ?_
      refine ev_getr (dTa_peek.at 25 rfl) (own := 6) rfl fkTa_11 rfl rfl ?_
      refine ev_aload_n (dTa_peek.at 26 rfl) rfl ?_
      refine ev_get (dTa_peek.at 27 rfl) (own := 6) rfl fkTa_19 rfl rfl ?_
      refine ev_iaload (dTa_peek.at 28 rfl) rfl (o1 c1) ?_
      refine ev_goto (tgt := 62) (dTa_peek.at 29 rfl) rfl ?_
      exact ev_iret (dTa_peek.at 31 rfl) rfl (k2 c1 c2)
    · refine ev_aload_n (dTa_peek.at 12 rfl) rfl ?_
      refine ev_dup (dTa_peek.at 13 rfl) rfl ?_
      refine ev_get (dTa_peek.at 14 rfl) (own := 6) rfl fkTa_19 rfl rfl ?_
      refine ev_iconst (dTa_peek.at 15 rfl) kI_1 ?_
      refine ev_iadd (dTa_peek.at 16 rfl) ?_
      refine ev_put (dTa_peek.at 17 rfl) (own := 6) rfl fkTa_19 rfl rfl ?_
      refine ev_goto (tgt := 0) (dTa_peek.at 18 rfl) rfl ?_
      exact (k3 c1 c2)
set_option maxHeartbeats 4000000 in
theorem bTa_kindOf_0 {d : Nat} {w : sx_W} {Q : sx_Q} {x0 : Int32}
    (k1 : (x0.toInt = 108 + 0) → Q (2 : Int32) 0 w)
    (k2 : (x0.toInt = 108 + 1) → Q (-1 : Int32) 0 w)
    (k3 : (x0.toInt = 108 + 2) → Q (3 : Int32) 0 w)
    (k4 : (x0.toInt = 108 + 3) → Q (-1 : Int32) 0 w)
    (k5 : (x0.toInt = 108 + 4) → Q (0 : Int32) 0 w)
    (k6 : (x0.toInt = 108 + 5) → Q (-1 : Int32) 0 w)
    (k7 : (x0.toInt = 108 + 6) → Q (-1 : Int32) 0 w)
    (k8 : (x0.toInt = 108 + 7) → Q (1 : Int32) 0 w)
    (k9 : (x0.toInt < 108 ∨ 115 < x0.toInt) → Q (-1 : Int32) 0 w) :
    sx_ev d rTa_kindOf 0 [.int x0] [] w Q := by
  refine ev_iload_n (dTa_kindOf.at 0 rfl) rfl ?_
  refine ev_tsw (td := 56) (dTa_kindOf.at 1 rfl) rfl rfl (fun j off ho c1 => ?_) (fun c1 => ?_)
  · match j, ho, c1 with
    | 0, ho, c1 =>
      obtain rfl : (51 : Int) = off := Option.some.inj ho
      refine ⟨52, rfl, ?_⟩
      refine ev_iconst (dTa_kindOf.at 6 rfl) kI_2 ?_
      exact ev_iret (dTa_kindOf.at 7 rfl) rfl (k1 c1)
    | 1, ho, c1 =>
      obtain rfl : (55 : Int) = off := Option.some.inj ho
      refine ⟨56, rfl, ?_⟩
      refine ev_iconst (dTa_kindOf.at 10 rfl) kI_m1 ?_
      exact ev_iret (dTa_kindOf.at 11 rfl) rfl (k2 c1)
    | 2, ho, c1 =>
      obtain rfl : (53 : Int) = off := Option.some.inj ho
      refine ⟨54, rfl, ?_⟩
      refine ev_iconst (dTa_kindOf.at 8 rfl) kI_3 ?_
      exact ev_iret (dTa_kindOf.at 9 rfl) rfl (k3 c1)
    | 3, ho, c1 =>
      obtain rfl : (55 : Int) = off := Option.some.inj ho
      refine ⟨56, rfl, ?_⟩
      refine ev_iconst (dTa_kindOf.at 10 rfl) kI_m1 ?_
      exact ev_iret (dTa_kindOf.at 11 rfl) rfl (k4 c1)
    | 4, ho, c1 =>
      obtain rfl : (47 : Int) = off := Option.some.inj ho
      refine ⟨48, rfl, ?_⟩
      refine ev_iconst (dTa_kindOf.at 2 rfl) kI_0 ?_
      exact ev_iret (dTa_kindOf.at 3 rfl) rfl (k5 c1)
    | 5, ho, c1 =>
      obtain rfl : (55 : Int) = off := Option.some.inj ho
      refine ⟨56, rfl, ?_⟩
      refine ev_iconst (dTa_kindOf.at 10 rfl) kI_m1 ?_
      exact ev_iret (dTa_kindOf.at 11 rfl) rfl (k6 c1)
    | 6, ho, c1 =>
      obtain rfl : (55 : Int) = off := Option.some.inj ho
      refine ⟨56, rfl, ?_⟩
      refine ev_iconst (dTa_kindOf.at 10 rfl) kI_m1 ?_
      exact ev_iret (dTa_kindOf.at 11 rfl) rfl (k7 c1)
    | 7, ho, c1 =>
      obtain rfl : (49 : Int) = off := Option.some.inj ho
      refine ⟨50, rfl, ?_⟩
      refine ev_iconst (dTa_kindOf.at 4 rfl) kI_1 ?_
      exact ev_iret (dTa_kindOf.at 5 rfl) rfl (k8 c1)
    | j + 8, ho, _ => cases ho
  · refine ev_iconst (dTa_kindOf.at 10 rfl) kI_m1 ?_
    exact ev_iret (dTa_kindOf.at 11 rfl) rfl (k9 c1)
set_option maxHeartbeats 4000000 in
theorem bTa_byteAt_0 {d : Nat} {w : sx_W} {Q : sx_Q} {y0 : Int64} {x2 : Int32}
    (k1 : Q ((y0.toUInt64 >>> (((8 : Int32) * x2).toInt64.toUInt64 &&& Int64.toUInt64 63)).toInt64.toInt32 &&& (255 : Int32)) 0 w) :
    sx_ev d rTa_byteAt 0 [.long y0, .null, .int x2] [] w Q := by
  refine ev_lload_n (dTa_byteAt.at 0 rfl) rfl ?_
  refine ev_bipush (dTa_byteAt.at 1 rfl) kB_8 ?_
  refine ev_iload_n (dTa_byteAt.at 2 rfl) rfl ?_
  refine ev_imul (dTa_byteAt.at 3 rfl) ?_
  refine ev_lushr (dTa_byteAt.at 4 rfl) ?_
  refine ev_l2i (dTa_byteAt.at 5 rfl) ?_
  refine ev_sipush (dTa_byteAt.at 6 rfl) kS_255 ?_
  refine ev_iand (dTa_byteAt.at 7 rfl) ?_
  exact ev_iret (dTa_byteAt.at 8 rfl) rfl k1
set_option maxHeartbeats 4000000 in
theorem bIn_bitCount_0 {d : Nat} {w : sx_W} {Q : sx_Q} {x0 : Int32}
    (k1 : Q ((((((((x0 - ((x0.toUInt32 >>> ((1 : Int32).toUInt32 &&& Int32.toUInt32 31)).toInt32 &&& (nI 1431655765))) &&& (nI 858993459)) + (((x0 - ((x0.toUInt32 >>> ((1 : Int32).toUInt32 &&& Int32.toUInt32 31)).toInt32 &&& (nI 1431655765))).toUInt32 >>> ((2 : Int32).toUInt32 &&& Int32.toUInt32 31)).toInt32 &&& (nI 858993459))) + ((((x0 - ((x0.toUInt32 >>> ((1 : Int32).toUInt32 &&& Int32.toUInt32 31)).toInt32 &&& (nI 1431655765))) &&& (nI 858993459)) + (((x0 - ((x0.toUInt32 >>> ((1 : Int32).toUInt32 &&& Int32.toUInt32 31)).toInt32 &&& (nI 1431655765))).toUInt32 >>> ((2 : Int32).toUInt32 &&& Int32.toUInt32 31)).toInt32 &&& (nI 858993459))).toUInt32 >>> ((4 : Int32).toUInt32 &&& Int32.toUInt32 31)).toInt32) &&& (nI 252645135)) + ((((((x0 - ((x0.toUInt32 >>> ((1 : Int32).toUInt32 &&& Int32.toUInt32 31)).toInt32 &&& (nI 1431655765))) &&& (nI 858993459)) + (((x0 - ((x0.toUInt32 >>> ((1 : Int32).toUInt32 &&& Int32.toUInt32 31)).toInt32 &&& (nI 1431655765))).toUInt32 >>> ((2 : Int32).toUInt32 &&& Int32.toUInt32 31)).toInt32 &&& (nI 858993459))) + ((((x0 - ((x0.toUInt32 >>> ((1 : Int32).toUInt32 &&& Int32.toUInt32 31)).toInt32 &&& (nI 1431655765))) &&& (nI 858993459)) + (((x0 - ((x0.toUInt32 >>> ((1 : Int32).toUInt32 &&& Int32.toUInt32 31)).toInt32 &&& (nI 1431655765))).toUInt32 >>> ((2 : Int32).toUInt32 &&& Int32.toUInt32 31)).toInt32 &&& (nI 858993459))).toUInt32 >>> ((4 : Int32).toUInt32 &&& Int32.toUInt32 31)).toInt32) &&& (nI 252645135)).toUInt32 >>> ((8 : Int32).toUInt32 &&& Int32.toUInt32 31)).toInt32) + (((((((x0 - ((x0.toUInt32 >>> ((1 : Int32).toUInt32 &&& Int32.toUInt32 31)).toInt32 &&& (nI 1431655765))) &&& (nI 858993459)) + (((x0 - ((x0.toUInt32 >>> ((1 : Int32).toUInt32 &&& Int32.toUInt32 31)).toInt32 &&& (nI 1431655765))).toUInt32 >>> ((2 : Int32).toUInt32 &&& Int32.toUInt32 31)).toInt32 &&& (nI 858993459))) + ((((x0 - ((x0.toUInt32 >>> ((1 : Int32).toUInt32 &&& Int32.toUInt32 31)).toInt32 &&& (nI 1431655765))) &&& (nI 858993459)) + (((x0 - ((x0.toUInt32 >>> ((1 : Int32).toUInt32 &&& Int32.toUInt32 31)).toInt32 &&& (nI 1431655765))).toUInt32 >>> ((2 : Int32).toUInt32 &&& Int32.toUInt32 31)).toInt32 &&& (nI 858993459))).toUInt32 >>> ((4 : Int32).toUInt32 &&& Int32.toUInt32 31)).toInt32) &&& (nI 252645135)) + ((((((x0 - ((x0.toUInt32 >>> ((1 : Int32).toUInt32 &&& Int32.toUInt32 31)).toInt32 &&& (nI 1431655765))) &&& (nI 858993459)) + (((x0 - ((x0.toUInt32 >>> ((1 : Int32).toUInt32 &&& Int32.toUInt32 31)).toInt32 &&& (nI 1431655765))).toUInt32 >>> ((2 : Int32).toUInt32 &&& Int32.toUInt32 31)).toInt32 &&& (nI 858993459))) + ((((x0 - ((x0.toUInt32 >>> ((1 : Int32).toUInt32 &&& Int32.toUInt32 31)).toInt32 &&& (nI 1431655765))) &&& (nI 858993459)) + (((x0 - ((x0.toUInt32 >>> ((1 : Int32).toUInt32 &&& Int32.toUInt32 31)).toInt32 &&& (nI 1431655765))).toUInt32 >>> ((2 : Int32).toUInt32 &&& Int32.toUInt32 31)).toInt32 &&& (nI 858993459))).toUInt32 >>> ((4 : Int32).toUInt32 &&& Int32.toUInt32 31)).toInt32) &&& (nI 252645135)).toUInt32 >>> ((8 : Int32).toUInt32 &&& Int32.toUInt32 31)).toInt32).toUInt32 >>> ((16 : Int32).toUInt32 &&& Int32.toUInt32 31)).toInt32) &&& (63 : Int32)) 0 w) :
    sx_ev d rIn_bitCount 0 [.int x0] [] w Q := by
  refine ev_iload_n (dIn_bitCount.at 0 rfl) rfl ?_
  refine ev_iload_n (dIn_bitCount.at 1 rfl) rfl ?_
  refine ev_iconst (dIn_bitCount.at 2 rfl) kI_1 ?_
  refine ev_iushr (dIn_bitCount.at 3 rfl) ?_
  refine ev_ldcw (dIn_bitCount.at 4 rfl) (own := 9) rfl (List.mem_of_getElem? (i := 0) rfl) ?_
  refine ev_iand (dIn_bitCount.at 5 rfl) ?_
  refine ev_isub (dIn_bitCount.at 6 rfl) ?_
  refine ev_istore_n (dIn_bitCount.at 7 rfl) (by decide) rfl ?_
  refine ev_iload_n (dIn_bitCount.at 8 rfl) rfl ?_
  refine ev_ldcw (dIn_bitCount.at 9 rfl) (own := 9) rfl (List.mem_of_getElem? (i := 1) rfl) ?_
  refine ev_iand (dIn_bitCount.at 10 rfl) ?_
  refine ev_iload_n (dIn_bitCount.at 11 rfl) rfl ?_
  refine ev_iconst (dIn_bitCount.at 12 rfl) kI_2 ?_
  refine ev_iushr (dIn_bitCount.at 13 rfl) ?_
  refine ev_ldcw (dIn_bitCount.at 14 rfl) (own := 9) rfl (List.mem_of_getElem? (i := 1) rfl) ?_
  refine ev_iand (dIn_bitCount.at 15 rfl) ?_
  refine ev_iadd (dIn_bitCount.at 16 rfl) ?_
  refine ev_istore_n (dIn_bitCount.at 17 rfl) (by decide) rfl ?_
  refine ev_iload_n (dIn_bitCount.at 18 rfl) rfl ?_
  refine ev_iload_n (dIn_bitCount.at 19 rfl) rfl ?_
  refine ev_iconst (dIn_bitCount.at 20 rfl) kI_4 ?_
  refine ev_iushr (dIn_bitCount.at 21 rfl) ?_
  refine ev_iadd (dIn_bitCount.at 22 rfl) ?_
  refine ev_ldcw (dIn_bitCount.at 23 rfl) (own := 9) rfl (List.mem_of_getElem? (i := 2) rfl) ?_
  refine ev_iand (dIn_bitCount.at 24 rfl) ?_
  refine ev_istore_n (dIn_bitCount.at 25 rfl) (by decide) rfl ?_
  refine ev_iload_n (dIn_bitCount.at 26 rfl) rfl ?_
  refine ev_iload_n (dIn_bitCount.at 27 rfl) rfl ?_
  refine ev_bipush (dIn_bitCount.at 28 rfl) kB_8 ?_
  refine ev_iushr (dIn_bitCount.at 29 rfl) ?_
  refine ev_iadd (dIn_bitCount.at 30 rfl) ?_
  refine ev_istore_n (dIn_bitCount.at 31 rfl) (by decide) rfl ?_
  refine ev_iload_n (dIn_bitCount.at 32 rfl) rfl ?_
  refine ev_iload_n (dIn_bitCount.at 33 rfl) rfl ?_
  refine ev_bipush (dIn_bitCount.at 34 rfl) kB_16 ?_
  refine ev_iushr (dIn_bitCount.at 35 rfl) ?_
  refine ev_iadd (dIn_bitCount.at 36 rfl) ?_
  refine ev_istore_n (dIn_bitCount.at 37 rfl) (by decide) rfl ?_
  refine ev_iload_n (dIn_bitCount.at 38 rfl) rfl ?_
  refine ev_bipush (dIn_bitCount.at 39 rfl) kB_63 ?_
  refine ev_iand (dIn_bitCount.at 40 rfl) ?_
  exact ev_iret (dIn_bitCount.at 41 rfl) rfl k1
