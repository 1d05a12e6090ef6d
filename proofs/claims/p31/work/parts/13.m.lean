def f_X5_set (r0 : Nat) (x1 : Int32) (x2 : Int32) (M : Mem) : Option (Int32 × Mem) := if x1 = 0 then (if (f_X5_isWithin x2 (1 : Int32) (30 : Int32)) = 0 then (if x1 = (1 : Int32) then (if (f_X5_isWithin x2 (9 : Int32) (60 : Int32)) = 0 then (some ((-1 : Int32), M)) else (gdd (kd r0 = 6) <| obb (f_X5_keepState r0 M) fun M24 => gdd (kd (fld r0 0) = 5) <| obb (f_X5_at (fld (fld r0 0) 1) x1 M24) fun y27 => obb (f_X5_put (fld (fld r0 0) 1) x1 x2 M24) fun M29 => some (y27, M29))) else (some ((-1 : Int32), M))) else (gdd (kd r0 = 6) <| obb (f_X5_keepState r0 M) fun M14 => gdd (kd (fld r0 0) = 5) <| obb (f_X5_at (fld (fld r0 0) 1) x1 M14) fun y17 => obb (f_X5_put (fld (fld r0 0) 1) x1 x2 M14) fun M19 => some (y17, M19))) else (if x1 = (1 : Int32) then (if (f_X5_isWithin x2 (9 : Int32) (60 : Int32)) = 0 then (some ((-1 : Int32), M)) else (gdd (kd r0 = 6) <| obb (f_X5_keepState r0 M) fun M5 => gdd (kd (fld r0 0) = 5) <| obb (f_X5_at (fld (fld r0 0) 1) x1 M5) fun y8 => obb (f_X5_put (fld (fld r0 0) 1) x1 x2 M5) fun M10 => some (y8, M10))) else (some ((-1 : Int32), M)))
set_option maxRecDepth 100000 in
set_option maxHeartbeats 4000000 in
theorem ct_X5_set {l : Launch} {w : Om} (hw : Wf w) {r0 : Nat} {x1 : Int32} {x2 : Int32} {M : Mem} {r : Int32} {M2 : Mem} (h : f_X5_set r0 x1 x2 M = some (r, M2)) : Ct l w yX5_set cX5_set 5 (some .int) 5 [rv w r0, .int x1, .int x2] M (some (.int r)) M2 := by
  refine ct_of hw (by decide) (cat_s (rv_cat _ _) (cat_s rfl (cat_s rfl cat_0))) (Nat.le_of_ble_eq_true rfl) (fun f _ C hR => ?_)
  show Go w f 0 [some (rv w r0), some (.int x1), some (.int x2), none, none] [] M
  unfold f_X5_set at h
  refine g_iload_n C dX5_set_0 rfl rfl ?_
  refine g_if_ne 14 C dX5_set_1 (by decide) (fun c1 => ?_) (fun c1 => ?_)
  · replace h := of_iff h c1
    refine g_iload_n C dX5_set_14 rfl rfl ?_
    refine g_iconst (v := 1) C dX5_set_15 rfl ?_
    refine g_icmp_ne 34 C dX5_set_16 (by decide) (fun c2 => ?_) (fun c2 => ?_)
    · replace h := of_iff h c2
      refine g_iconst (v := 0) C dX5_set_34 rfl ?_
      refine g_istore_n C dX5_set_35 rfl (by decide) rfl (L2 := [some (rv w r0), some (.int x1), some (.int x2), some (.int (0 : Int32)), none]) rfl ?_
      refine g_iload_n C dX5_set_36 rfl rfl ?_
      refine g_if_ne 42 C dX5_set_37 (by decide) (fun c => absurd c (by decide)) (fun _ => ?_)
      refine g_iconst (v := -1) C dX5_set_40 rfl ?_
      cases h
      exact hR 41 _ ⟨.int, rfl, rfl⟩ dX5_set_41
    · replace h := of_ift h c2
      refine g_iload_n C dX5_set_19 rfl rfl ?_
      refine g_bipush (v := 9) C dX5_set_20 rfl ?_
      refine g_bipush (v := 60) C dX5_set_22 rfl ?_
      refine g_callS (As := [.int x2, .int (9 : Int32), .int (60 : Int32)]) C (ct_X5_isWithin C.wf rfl) lk_RX5_48 mi_X5_isWithin (by decide) cs_0 (by decide) dX5_set_24 rfl ?_
      show Go w f 27 [some (rv w r0), some (.int x1), some (.int x2), none, none] [.int (f_X5_isWithin x2 (9 : Int32) (60 : Int32))] M
      refine g_if_eq 34 C dX5_set_27 (by decide) (fun c3 => ?_) (fun c3 => ?_)
      · replace h := of_ift h c3
        refine g_iconst (v := 0) C dX5_set_34 rfl ?_
        refine g_istore_n C dX5_set_35 rfl (by decide) rfl (L2 := [some (rv w r0), some (.int x1), some (.int x2), some (.int (0 : Int32)), none]) rfl ?_
        refine g_iload_n C dX5_set_36 rfl rfl ?_
        refine g_if_ne 42 C dX5_set_37 (by decide) (fun c => absurd c (by decide)) (fun _ => ?_)
        refine g_iconst (v := -1) C dX5_set_40 rfl ?_
        cases h
        exact hR 41 _ ⟨.int, rfl, rfl⟩ dX5_set_41
      · replace h := of_iff h c3
        refine g_iconst (v := 1) C dX5_set_30 rfl ?_
        refine g_goto 35 C dX5_set_31 (by decide) ?_
        refine g_istore_n C dX5_set_35 rfl (by decide) rfl (L2 := [some (rv w r0), some (.int x1), some (.int x2), some (.int (1 : Int32)), none]) rfl ?_
        refine g_iload_n C dX5_set_36 rfl rfl ?_
        refine g_if_ne 42 C dX5_set_37 (by decide) (fun _ => ?_) (fun c => absurd c (by decide))
        refine g_aload_n C dX5_set_42 rfl rfl ?_
        obtain ⟨g4, h⟩ := of_gdd h
        obtain ⟨M5, e6, h⟩ := of_obb h
        refine g_callV (As := []) C (ct_X5_keepState C.wf e6) g4 lk_RX5_52 mi_X5_keepState (by decide) cs_0 (by decide) dX5_set_43 rfl ?_
        show Go w f 46 [some (rv w r0), some (.int x1), some (.int x2), some (.int (1 : Int32)), none] [] M5
        refine g_aload_n C dX5_set_46 rfl rfl ?_
        refine gf_5_0 C fl_RX5_10 g4 dX5_set_47 ?_
        obtain ⟨g7, h⟩ := of_gdd h
        refine gf_4_1 C fl_RX5_67 g7 dX5_set_50 ?_
        refine g_iload_n C dX5_set_53 rfl rfl ?_
        obtain ⟨y8, e9, h⟩ := of_obb h
        refine g_callS (As := [rv w (fld (fld r0 0) 1), .int x1]) C (ct_X5_at C.wf e9) lk_RX5_59 mi_X5_at (by decide) cs_0 (by decide) dX5_set_54 rfl ?_
        show Go w f 57 [some (rv w r0), some (.int x1), some (.int x2), some (.int (1 : Int32)), none] [.int y8] M5
        refine g_istore C dX5_set_57 (by decide) rfl (L2 := [some (rv w r0), some (.int x1), some (.int x2), some (.int (1 : Int32)), some (.int y8)]) rfl ?_
        refine g_aload_n C dX5_set_59 rfl rfl ?_
        refine gf_5_0 C fl_RX5_10 g4 dX5_set_60 ?_
        refine gf_4_1 C fl_RX5_67 g7 dX5_set_63 ?_
        refine g_iload_n C dX5_set_66 rfl rfl ?_
        refine g_iload_n C dX5_set_67 rfl rfl ?_
        obtain ⟨M10, e11, h⟩ := of_obb h
        refine g_callS (As := [rv w (fld (fld r0 0) 1), .int x1, .int x2]) C (ct_X5_put C.wf e11) lk_RX5_63 mi_X5_put (by decide) cs_0 (by decide) dX5_set_68 rfl ?_
        show Go w f 71 [some (rv w r0), some (.int x1), some (.int x2), some (.int (1 : Int32)), some (.int y8)] [] M10
        refine g_iload C dX5_set_71 rfl ?_
        cases h
        exact hR 73 _ ⟨.int, rfl, rfl⟩ dX5_set_73
  · replace h := of_ift h c1
    refine g_iload_n C dX5_set_4 rfl rfl ?_
    refine g_iconst (v := 1) C dX5_set_5 rfl ?_
    refine g_bipush (v := 30) C dX5_set_6 rfl ?_
    refine g_callS (As := [.int x2, .int (1 : Int32), .int (30 : Int32)]) C (ct_X5_isWithin C.wf rfl) lk_RX5_48 mi_X5_isWithin (by decide) cs_0 (by decide) dX5_set_8 rfl ?_
    show Go w f 11 [some (rv w r0), some (.int x1), some (.int x2), none, none] [.int (f_X5_isWithin x2 (1 : Int32) (30 : Int32))] M
    refine g_if_ne 30 C dX5_set_11 (by decide) (fun c12 => ?_) (fun c12 => ?_)
    · replace h := of_iff h c12
      refine g_iconst (v := 1) C dX5_set_30 rfl ?_
      refine g_goto 35 C dX5_set_31 (by decide) ?_
      refine g_istore_n C dX5_set_35 rfl (by decide) rfl (L2 := [some (rv w r0), some (.int x1), some (.int x2), some (.int (1 : Int32)), none]) rfl ?_
      refine g_iload_n C dX5_set_36 rfl rfl ?_
      refine g_if_ne 42 C dX5_set_37 (by decide) (fun _ => ?_) (fun c => absurd c (by decide))
      refine g_aload_n C dX5_set_42 rfl rfl ?_
      obtain ⟨g13, h⟩ := of_gdd h
      obtain ⟨M14, e15, h⟩ := of_obb h
      refine g_callV (As := []) C (ct_X5_keepState C.wf e15) g13 lk_RX5_52 mi_X5_keepState (by decide) cs_0 (by decide) dX5_set_43 rfl ?_
      show Go w f 46 [some (rv w r0), some (.int x1), some (.int x2), some (.int (1 : Int32)), none] [] M14
      refine g_aload_n C dX5_set_46 rfl rfl ?_
      refine gf_5_0 C fl_RX5_10 g13 dX5_set_47 ?_
      obtain ⟨g16, h⟩ := of_gdd h
      refine gf_4_1 C fl_RX5_67 g16 dX5_set_50 ?_
      refine g_iload_n C dX5_set_53 rfl rfl ?_
      obtain ⟨y17, e18, h⟩ := of_obb h
      refine g_callS (As := [rv w (fld (fld r0 0) 1), .int x1]) C (ct_X5_at C.wf e18) lk_RX5_59 mi_X5_at (by decide) cs_0 (by decide) dX5_set_54 rfl ?_
      show Go w f 57 [some (rv w r0), some (.int x1), some (.int x2), some (.int (1 : Int32)), none] [.int y17] M14
      refine g_istore C dX5_set_57 (by decide) rfl (L2 := [some (rv w r0), some (.int x1), some (.int x2), some (.int (1 : Int32)), some (.int y17)]) rfl ?_
      refine g_aload_n C dX5_set_59 rfl rfl ?_
      refine gf_5_0 C fl_RX5_10 g13 dX5_set_60 ?_
      refine gf_4_1 C fl_RX5_67 g16 dX5_set_63 ?_
      refine g_iload_n C dX5_set_66 rfl rfl ?_
      refine g_iload_n C dX5_set_67 rfl rfl ?_
      obtain ⟨M19, e20, h⟩ := of_obb h
      refine g_callS (As := [rv w (fld (fld r0 0) 1), .int x1, .int x2]) C (ct_X5_put C.wf e20) lk_RX5_63 mi_X5_put (by decide) cs_0 (by decide) dX5_set_68 rfl ?_
      show Go w f 71 [some (rv w r0), some (.int x1), some (.int x2), some (.int (1 : Int32)), some (.int y17)] [] M19
      refine g_iload C dX5_set_71 rfl ?_
      cases h
      exact hR 73 _ ⟨.int, rfl, rfl⟩ dX5_set_73
    · replace h := of_ift h c12
      refine g_iload_n C dX5_set_14 rfl rfl ?_
      refine g_iconst (v := 1) C dX5_set_15 rfl ?_
      refine g_icmp_ne 34 C dX5_set_16 (by decide) (fun c21 => ?_) (fun c21 => ?_)
      · replace h := of_iff h c21
        refine g_iconst (v := 0) C dX5_set_34 rfl ?_
        refine g_istore_n C dX5_set_35 rfl (by decide) rfl (L2 := [some (rv w r0), some (.int x1), some (.int x2), some (.int (0 : Int32)), none]) rfl ?_
        refine g_iload_n C dX5_set_36 rfl rfl ?_
        refine g_if_ne 42 C dX5_set_37 (by decide) (fun c => absurd c (by decide)) (fun _ => ?_)
        refine g_iconst (v := -1) C dX5_set_40 rfl ?_
        cases h
        exact hR 41 _ ⟨.int, rfl, rfl⟩ dX5_set_41
      · replace h := of_ift h c21
        refine g_iload_n C dX5_set_19 rfl rfl ?_
        refine g_bipush (v := 9) C dX5_set_20 rfl ?_
        refine g_bipush (v := 60) C dX5_set_22 rfl ?_
        refine g_callS (As := [.int x2, .int (9 : Int32), .int (60 : Int32)]) C (ct_X5_isWithin C.wf rfl) lk_RX5_48 mi_X5_isWithin (by decide) cs_0 (by decide) dX5_set_24 rfl ?_
        show Go w f 27 [some (rv w r0), some (.int x1), some (.int x2), none, none] [.int (f_X5_isWithin x2 (9 : Int32) (60 : Int32))] M
        refine g_if_eq 34 C dX5_set_27 (by decide) (fun c22 => ?_) (fun c22 => ?_)
        · replace h := of_ift h c22
          refine g_iconst (v := 0) C dX5_set_34 rfl ?_
          refine g_istore_n C dX5_set_35 rfl (by decide) rfl (L2 := [some (rv w r0), some (.int x1), some (.int x2), some (.int (0 : Int32)), none]) rfl ?_
          refine g_iload_n C dX5_set_36 rfl rfl ?_
          refine g_if_ne 42 C dX5_set_37 (by decide) (fun c => absurd c (by decide)) (fun _ => ?_)
          refine g_iconst (v := -1) C dX5_set_40 rfl ?_
          cases h
          exact hR 41 _ ⟨.int, rfl, rfl⟩ dX5_set_41
        · replace h := of_iff h c22
          refine g_iconst (v := 1) C dX5_set_30 rfl ?_
          refine g_goto 35 C dX5_set_31 (by decide) ?_
          refine g_istore_n C dX5_set_35 rfl (by decide) rfl (L2 := [some (rv w r0), some (.int x1), some (.int x2), some (.int (1 : Int32)), none]) rfl ?_
          refine g_iload_n C dX5_set_36 rfl rfl ?_
          refine g_if_ne 42 C dX5_set_37 (by decide) (fun _ => ?_) (fun c => absurd c (by decide))
          refine g_aload_n C dX5_set_42 rfl rfl ?_
          obtain ⟨g23, h⟩ := of_gdd h
          obtain ⟨M24, e25, h⟩ := of_obb h
          refine g_callV (As := []) C (ct_X5_keepState C.wf e25) g23 lk_RX5_52 mi_X5_keepState (by decide) cs_0 (by decide) dX5_set_43 rfl ?_
          show Go w f 46 [some (rv w r0), some (.int x1), some (.int x2), some (.int (1 : Int32)), none] [] M24
          refine g_aload_n C dX5_set_46 rfl rfl ?_
          refine gf_5_0 C fl_RX5_10 g23 dX5_set_47 ?_
          obtain ⟨g26, h⟩ := of_gdd h
          refine gf_4_1 C fl_RX5_67 g26 dX5_set_50 ?_
          refine g_iload_n C dX5_set_53 rfl rfl ?_
          obtain ⟨y27, e28, h⟩ := of_obb h
          refine g_callS (As := [rv w (fld (fld r0 0) 1), .int x1]) C (ct_X5_at C.wf e28) lk_RX5_59 mi_X5_at (by decide) cs_0 (by decide) dX5_set_54 rfl ?_
          show Go w f 57 [some (rv w r0), some (.int x1), some (.int x2), some (.int (1 : Int32)), none] [.int y27] M24
          refine g_istore C dX5_set_57 (by decide) rfl (L2 := [some (rv w r0), some (.int x1), some (.int x2), some (.int (1 : Int32)), some (.int y27)]) rfl ?_
          refine g_aload_n C dX5_set_59 rfl rfl ?_
          refine gf_5_0 C fl_RX5_10 g23 dX5_set_60 ?_
          refine gf_4_1 C fl_RX5_67 g26 dX5_set_63 ?_
          refine g_iload_n C dX5_set_66 rfl rfl ?_
          refine g_iload_n C dX5_set_67 rfl rfl ?_
          obtain ⟨M29, e30, h⟩ := of_obb h
          refine g_callS (As := [rv w (fld (fld r0 0) 1), .int x1, .int x2]) C (ct_X5_put C.wf e30) lk_RX5_63 mi_X5_put (by decide) cs_0 (by decide) dX5_set_68 rfl ?_
          show Go w f 71 [some (rv w r0), some (.int x1), some (.int x2), some (.int (1 : Int32)), some (.int y27)] [] M29
          refine g_iload C dX5_set_71 rfl ?_
          cases h
          exact hR 73 _ ⟨.int, rfl, rfl⟩ dX5_set_73
def f_X5_day (r0 : Nat) (M : Mem) : Option (Int32 × Mem) := gdd (kd r0 = 6) <| obb (f_X5_keepState r0 M) fun M2 => gdd (kd (fld r0 0) = 5) <| bvv (sI M2 (fld r0 0) 6 ((gI M2 (fld r0 0) 6) + (1 : Int32))) fun M5 => some (gI M5 (fld r0 0) 6, M5)
set_option maxRecDepth 100000 in
set_option maxHeartbeats 4000000 in
theorem ct_X5_day {l : Launch} {w : Om} (hw : Wf w) {r0 : Nat} {M : Mem} {r : Int32} {M2 : Mem} (h : f_X5_day r0 M = some (r, M2)) : Ct l w yX5_day cX5_day 1 (some .int) 5 [rv w r0] M (some (.int r)) M2 := by
  refine ct_of hw (by decide) (cat_s (rv_cat _ _) cat_0) (Nat.le_of_ble_eq_true rfl) (fun f _ C hR => ?_)
  show Go w f 0 [some (rv w r0)] [] M
  unfold f_X5_day at h
  refine g_aload_n C dX5_day_0 rfl rfl ?_
  obtain ⟨g1, h⟩ := of_gdd h
  obtain ⟨M2, e3, h⟩ := of_obb h
  refine g_callV (As := []) C (ct_X5_keepState C.wf e3) g1 lk_RX5_52 mi_X5_keepState (by decide) cs_0 (by decide) dX5_day_1 rfl ?_
  show Go w f 4 [some (rv w r0)] [] M2
  refine g_aload_n C dX5_day_4 rfl rfl ?_
  refine gf_5_0 C fl_RX5_10 g1 dX5_day_5 ?_
  refine g_dup C (rv_cat _ _) dX5_day_8 ?_
  obtain ⟨g4, h⟩ := of_gdd h
  refine gf_4_6 C fl_RX5_139 g4 dX5_day_9 ?_
  refine g_iconst (v := 1) C dX5_day_12 rfl ?_
  refine g_iadd C dX5_day_13 ?_
  refine pf_4_6 C fl_RX5_139 g4 dX5_day_14 ?_
  obtain ⟨M5, e6, h⟩ := of_bvv h
  refine g_mem e6 ?_
  refine g_aload_n C dX5_day_17 rfl rfl ?_
  refine gf_5_0 C fl_RX5_10 g1 dX5_day_18 ?_
  refine gf_4_6 C fl_RX5_139 g4 dX5_day_21 ?_
  cases h
  exact hR 24 _ ⟨.int, rfl, rfl⟩ dX5_day_24
def f_X1_beginsPart (r0 : Nat) (x1 : Int32) (M : Mem) : Option Int32 := if x1 = 0 then (some (1 : Int32)) else (gdd (kd r0 = 2) <| obb (f_X1_signAt r0 (x1 - (1 : Int32)) M) fun y3 => if y3 = (59 : Int32) then (some (1 : Int32)) else (some (0 : Int32)))
set_option maxRecDepth 100000 in
set_option maxHeartbeats 4000000 in
theorem ct_X1_beginsPart {l : Launch} {w : Om} (hw : Wf w) {r0 : Nat} {x1 : Int32}  {M : Mem} {r : Int32} (h : f_X1_beginsPart r0 x1 M = some r) : Ct l w yX1_beginsPart cX1_beginsPart 2 (some .boolean) 2 [rv w r0, .int x1] M (some (.int r)) M := by
  refine ct_of hw (by decide) (cat_s (rv_cat _ _) (cat_s rfl cat_0)) (Nat.le_of_ble_eq_true rfl) (fun f _ C hR => ?_)
  show Go w f 0 [some (rv w r0), some (.int x1)] [] M
  unfold f_X1_beginsPart at h
  refine g_iload_n C dX1_beginsPart_0 rfl rfl ?_
  refine g_if_eq 16 C dX1_beginsPart_1 (by decide) (fun c1 => ?_) (fun c1 => ?_)
  · replace h := of_ift h c1
    refine g_iconst (v := 1) C dX1_beginsPart_16 rfl ?_
    refine g_goto 21 C dX1_beginsPart_17 (by decide) ?_
    cases h
    exact hR 21 _ ⟨.boolean, rfl, rfl⟩ dX1_beginsPart_21
  · replace h := of_iff h c1
    refine g_aload_n C dX1_beginsPart_4 rfl rfl ?_
    refine g_iload_n C dX1_beginsPart_5 rfl rfl ?_
    refine g_iconst (v := 1) C dX1_beginsPart_6 rfl ?_
    refine g_isub C dX1_beginsPart_7 ?_
    obtain ⟨g2, h⟩ := of_gdd h
    obtain ⟨y3, e4, h⟩ := of_obb h
    refine g_callV (As := [.int (x1 - (1 : Int32))]) C (ct_X1_signAt C.wf e4) g2 lk_RX1_23 mi_X1_signAt (by decide) cs_0 (by decide) dX1_beginsPart_8 rfl ?_
    show Go w f 11 [some (rv w r0), some (.int x1)] [.int y3] M
    refine g_bipush (v := 59) C dX1_beginsPart_11 rfl ?_
    refine g_icmp_ne 20 C dX1_beginsPart_13 (by decide) (fun c5 => ?_) (fun c5 => ?_)
    · replace h := of_iff h c5
      refine g_iconst (v := 0) C dX1_beginsPart_20 rfl ?_
      cases h
      exact hR 21 _ ⟨.boolean, rfl, rfl⟩ dX1_beginsPart_21
    · replace h := of_ift h c5
      refine g_iconst (v := 1) C dX1_beginsPart_16 rfl ?_
      refine g_goto 21 C dX1_beginsPart_17 (by decide) ?_
      cases h
      exact hR 21 _ ⟨.boolean, rfl, rfl⟩ dX1_beginsPart_21
def f_X1_gapAt (r0 : Nat) (x1 : Int32) (M : Mem) : Option Int32 := gdd (kd r0 = 2) <| obb (f_X1_signAt r0 (x1 + (1 : Int32)) M) fun y2 => if (f_X5_isWithin y2 (48 : Int32) (57 : Int32)) = 0 then (obb (f_X1_signAt r0 x1 M) fun y5 => some (y5 - (48 : Int32))) else (some (((10 : Int32) + y2) - (48 : Int32)))
set_option maxRecDepth 100000 in
set_option maxHeartbeats 4000000 in
theorem ct_X1_gapAt {l : Launch} {w : Om} (hw : Wf w) {r0 : Nat} {x1 : Int32}  {M : Mem} {r : Int32} (h : f_X1_gapAt r0 x1 M = some r) : Ct l w yX1_gapAt cX1_gapAt 3 (some .int) 2 [rv w r0, .int x1] M (some (.int r)) M := by
  refine ct_of hw (by decide) (cat_s (rv_cat _ _) (cat_s rfl cat_0)) (Nat.le_of_ble_eq_true rfl) (fun f _ C hR => ?_)
  show Go w f 0 [some (rv w r0), some (.int x1), none] [] M
  unfold f_X1_gapAt at h
  refine g_aload_n C dX1_gapAt_0 rfl rfl ?_
  refine g_iload_n C dX1_gapAt_1 rfl rfl ?_
  refine g_iconst (v := 1) C dX1_gapAt_2 rfl ?_
  refine g_iadd C dX1_gapAt_3 ?_
  obtain ⟨g1, h⟩ := of_gdd h
  obtain ⟨y2, e3, h⟩ := of_obb h
  refine g_callV (As := [.int (x1 + (1 : Int32))]) C (ct_X1_signAt C.wf e3) g1 lk_RX1_23 mi_X1_signAt (by decide) cs_0 (by decide) dX1_gapAt_4 rfl ?_
  show Go w f 7 [some (rv w r0), some (.int x1), none] [.int y2] M
  refine g_istore_n C dX1_gapAt_7 rfl (by decide) rfl (L2 := [some (rv w r0), some (.int x1), some (.int y2)]) rfl ?_
  refine g_iload_n C dX1_gapAt_8 rfl rfl ?_
  refine g_bipush (v := 48) C dX1_gapAt_9 rfl ?_
  refine g_bipush (v := 57) C dX1_gapAt_11 rfl ?_
  refine g_callSN (As := [.int y2, .int (48 : Int32), .int (57 : Int32)]) C (ct_X5_isWithin C.wf rfl) ln_RX1_27 mi_X5_isWithin (by decide) cs_0 (by decide) dX1_gapAt_13 rfl ?_
  show Go w f 16 [some (rv w r0), some (.int x1), some (.int y2)] [.int (f_X5_isWithin y2 (48 : Int32) (57 : Int32))] M
  refine g_if_eq 29 C dX1_gapAt_16 (by decide) (fun c4 => ?_) (fun c4 => ?_)
  · replace h := of_ift h c4
    refine g_aload_n C dX1_gapAt_29 rfl rfl ?_
    refine g_iload_n C dX1_gapAt_30 rfl rfl ?_
    obtain ⟨y5, e6, h⟩ := of_obb h
    refine g_callV (As := [.int x1]) C (ct_X1_signAt C.wf e6) g1 lk_RX1_23 mi_X1_signAt (by decide) cs_0 (by decide) dX1_gapAt_31 rfl ?_
    show Go w f 34 [some (rv w r0), some (.int x1), some (.int y2)] [.int y5] M
    refine g_bipush (v := 48) C dX1_gapAt_34 rfl ?_
    refine g_isub C dX1_gapAt_36 ?_
    cases h
    exact hR 37 _ ⟨.int, rfl, rfl⟩ dX1_gapAt_37
  · replace h := of_iff h c4
    refine g_bipush (v := 10) C dX1_gapAt_19 rfl ?_
    refine g_iload_n C dX1_gapAt_21 rfl rfl ?_
    refine g_iadd C dX1_gapAt_22 ?_
    refine g_bipush (v := 48) C dX1_gapAt_23 rfl ?_
    refine g_isub C dX1_gapAt_25 ?_
    refine g_goto 37 C dX1_gapAt_26 (by decide) ?_
    cases h
    exact hR 37 _ ⟨.int, rfl, rfl⟩ dX1_gapAt_37
def f_X5_reasonOfPart (r0 : Nat) (x1 : Int32) (M : Mem) : Option (Int32 × Mem) := gdd (kd r0 = 6) <| gdd (kd (fld r0 3) = 2) <| obb (f_X1_signAt (fld r0 3) x1 M) fun y3 => if y3 = (43 : Int32) then (gdd (kd (fld r0 0) = 5) <| bvv (sI M (fld r0 0) 6 ((gI M (fld r0 0) 6) + (1 : Int32))) fun M23 => some ((0 : Int32), M23)) else (obb (f_X1_signAt (fld r0 3) x1 M) fun y6 => gdd (kd (fld r0 0) = 5) <| obb (f_X4_editionAt (fld r0 0) (y6 - (48 : Int32)) M) fun y9 => obb (f_X1_gapAt (fld r0 3) (x1 + (2 : Int32)) M) fun y11 => if y9 = 0 then (some ((-1 : Int32), M)) else (gdd (kd y9 = 1) <| obb (f_X0_hasGap y9 y11 M) fun y15 => if y15 = 0 then (some ((-1 : Int32), M)) else (opp (f_X5_decide r0 y9 y11 M) fun y20 M18 => if y20 ≤ (10 : Int32) then (some (y20, M18)) else (some ((0 : Int32), M18)))))
set_option maxRecDepth 100000 in
set_option maxHeartbeats 4000000 in
theorem ct_X5_reasonOfPart {l : Launch} {w : Om} (hw : Wf w) {r0 : Nat} {x1 : Int32} {M : Mem} {r : Int32} {M2 : Mem} (h : f_X5_reasonOfPart r0 x1 M = some (r, M2)) : Ct l w yX5_reasonOfPart cX5_reasonOfPart 5 (some .int) 6 [rv w r0, .int x1] M (some (.int r)) M2 := by
  refine ct_of hw (by decide) (cat_s (rv_cat _ _) (cat_s rfl cat_0)) (Nat.le_of_ble_eq_true rfl) (fun f _ C hR => ?_)
  show Go w f 0 [some (rv w r0), some (.int x1), none, none, none] [] M
  unfold f_X5_reasonOfPart at h
  refine g_aload_n C dX5_reasonOfPart_0 rfl rfl ?_
  obtain ⟨g1, h⟩ := of_gdd h
  refine gf_5_3 C fl_RX5_26 g1 dX5_reasonOfPart_1 ?_
  refine g_iload_n C dX5_reasonOfPart_4 rfl rfl ?_
  obtain ⟨g2, h⟩ := of_gdd h
  obtain ⟨y3, e4, h⟩ := of_obb h
  refine g_callV (As := [.int x1]) C (ct_X1_signAt C.wf e4) g2 lk_RX5_297 mi_X1_signAt (by decide) cs_0 (by decide) dX5_reasonOfPart_5 rfl ?_
  show Go w f 8 [some (rv w r0), some (.int x1), none, none, none] [.int y3] M
  refine g_bipush (v := 43) C dX5_reasonOfPart_8 rfl ?_
  refine g_icmp_ne 28 C dX5_reasonOfPart_10 (by decide) (fun c5 => ?_) (fun c5 => ?_)
  · replace h := of_iff h c5
    refine g_aload_n C dX5_reasonOfPart_28 rfl rfl ?_
    refine gf_5_0 C fl_RX5_10 g1 dX5_reasonOfPart_29 ?_
    refine g_aload_n C dX5_reasonOfPart_32 rfl rfl ?_
    refine gf_5_3 C fl_RX5_26 g1 dX5_reasonOfPart_33 ?_
    refine g_iload_n C dX5_reasonOfPart_36 rfl rfl ?_
    obtain ⟨y6, e7, h⟩ := of_obb h
    refine g_callV (As := [.int x1]) C (ct_X1_signAt C.wf e7) g2 lk_RX5_297 mi_X1_signAt (by decide) (cs_r cs_0) (by decide) dX5_reasonOfPart_37 rfl ?_
    show Go w f 40 [some (rv w r0), some (.int x1), none, none, none] [.int y6, rv w (fld r0 0)] M
    refine g_bipush (v := 48) C dX5_reasonOfPart_40 rfl ?_
    refine g_isub C dX5_reasonOfPart_42 ?_
    obtain ⟨g8, h⟩ := of_gdd h
    obtain ⟨y9, e10, h⟩ := of_obb h
    refine g_callV (As := [.int (y6 - (48 : Int32))]) C (ct_X4_editionAt C.wf e10) g8 lk_RX5_121 mi_X4_editionAt (by decide) cs_0 (by decide) dX5_reasonOfPart_43 rfl ?_
    show Go w f 46 [some (rv w r0), some (.int x1), none, none, none] [rv w y9] M
    refine g_astore_n C dX5_reasonOfPart_46 rfl (by decide) rfl (L2 := [some (rv w r0), some (.int x1), some (rv w y9), none, none]) rfl ?_
    refine g_aload_n C dX5_reasonOfPart_47 rfl rfl ?_
    refine gf_5_3 C fl_RX5_26 g1 dX5_reasonOfPart_48 ?_
    refine g_iload_n C dX5_reasonOfPart_51 rfl rfl ?_
    refine g_iconst (v := 2) C dX5_reasonOfPart_52 rfl ?_
    refine g_iadd C dX5_reasonOfPart_53 ?_
    obtain ⟨y11, e12, h⟩ := of_obb h
    refine g_callV (As := [.int (x1 + (2 : Int32))]) C (ct_X1_gapAt C.wf e12) g2 lk_RX5_300 mi_X1_gapAt (by decide) cs_0 (by decide) dX5_reasonOfPart_54 rfl ?_
    show Go w f 57 [some (rv w r0), some (.int x1), some (rv w y9), none, none] [.int y11] M
    refine g_istore_n C dX5_reasonOfPart_57 rfl (by decide) (rv_cat _ _) (L2 := [some (rv w r0), some (.int x1), some (rv w y9), some (.int y11), none]) rfl ?_
    refine g_aload_n C dX5_reasonOfPart_58 rfl rfl ?_
    refine g_ifnull 70 C dX5_reasonOfPart_59 (by decide) (fun c13 => ?_) (fun c13 => ?_)
    · replace h := of_ift h c13
      refine g_iconst (v := -1) C dX5_reasonOfPart_70 rfl ?_
      cases h
      exact hR 71 _ ⟨.int, rfl, rfl⟩ dX5_reasonOfPart_71
    · replace h := of_iff h c13
      refine g_aload_n C dX5_reasonOfPart_62 rfl rfl ?_
      refine g_iload_n C dX5_reasonOfPart_63 rfl rfl ?_
      obtain ⟨g14, h⟩ := of_gdd h
      obtain ⟨y15, e16, h⟩ := of_obb h
      refine g_callV (As := [.int y11]) C (ct_X0_hasGap C.wf e16) g14 lk_RX5_129 mi_X0_hasGap (by decide) cs_0 (by decide) dX5_reasonOfPart_64 rfl ?_
      show Go w f 67 [some (rv w r0), some (.int x1), some (rv w y9), some (.int y11), none] [.int y15] M
      refine g_if_ne 72 C dX5_reasonOfPart_67 (by decide) (fun c17 => ?_) (fun c17 => ?_)
      · replace h := of_iff h c17
        refine g_aload_n C dX5_reasonOfPart_72 rfl rfl ?_
        refine g_aload_n C dX5_reasonOfPart_73 rfl rfl ?_
        refine g_iload_n C dX5_reasonOfPart_74 rfl rfl ?_
        obtain ⟨y20, M18, e19, h⟩ := of_opp h
        refine g_callV (As := [rv w y9, .int y11]) C (ct_X5_decide C.wf e19) g1 lk_RX5_132 mi_X5_decide (by decide) cs_0 (by decide) dX5_reasonOfPart_75 rfl ?_
        show Go w f 78 [some (rv w r0), some (.int x1), some (rv w y9), some (.int y11), none] [.int y20] M18
        refine g_istore C dX5_reasonOfPart_78 (by decide) rfl (L2 := [some (rv w r0), some (.int x1), some (rv w y9), some (.int y11), some (.int y20)]) rfl ?_
        refine g_iload C dX5_reasonOfPart_80 rfl ?_
        refine g_bipush (v := 10) C dX5_reasonOfPart_82 rfl ?_
        refine g_icmp_le 91 C dX5_reasonOfPart_84 (by decide) (fun c21 => ?_) (fun c21 => ?_)
        · replace h := of_ift h c21
          refine g_iload C dX5_reasonOfPart_91 rfl ?_
          cases h
          exact hR 93 _ ⟨.int, rfl, rfl⟩ dX5_reasonOfPart_93
        · replace h := of_iff h c21
          refine g_iconst (v := 0) C dX5_reasonOfPart_87 rfl ?_
          refine g_goto 93 C dX5_reasonOfPart_88 (by decide) ?_
          cases h
          exact hR 93 _ ⟨.int, rfl, rfl⟩ dX5_reasonOfPart_93
      · replace h := of_ift h c17
        refine g_iconst (v := -1) C dX5_reasonOfPart_70 rfl ?_
        cases h
        exact hR 71 _ ⟨.int, rfl, rfl⟩ dX5_reasonOfPart_71
  · replace h := of_ift h c5
    refine g_aload_n C dX5_reasonOfPart_13 rfl rfl ?_
    refine gf_5_0 C fl_RX5_10 g1 dX5_reasonOfPart_14 ?_
    refine g_dup C (rv_cat _ _) dX5_reasonOfPart_17 ?_
    obtain ⟨g22, h⟩ := of_gdd h
    refine gf_4_6 C fl_RX5_139 g22 dX5_reasonOfPart_18 ?_
    refine g_iconst (v := 1) C dX5_reasonOfPart_21 rfl ?_
    refine g_iadd C dX5_reasonOfPart_22 ?_
    refine pf_4_6 C fl_RX5_139 g22 dX5_reasonOfPart_23 ?_
    obtain ⟨M23, e24, h⟩ := of_bvv h
    refine g_mem e24 ?_
    refine g_iconst (v := 0) C dX5_reasonOfPart_26 rfl ?_
    cases h
    exact hR 27 _ ⟨.int, rfl, rfl⟩ dX5_reasonOfPart_27
def f_X5_plead_27 : Nat → Nat → Int32 → Int32 → Mem → Option (Int32 × Mem)
  | 0, _, _, _, _ => none
  | n + 1, r0, x1, x2, M => gdd (kd r0 = 6) <| gdd (kd (fld r0 3) = 2) <| if (gI M (fld r0 3) 1) ≤ x2 then (bvv (sI M (fld r0 3) 1 (0 : Int32)) fun M204 => some (x1, M204)) else (if (gI M r0 8) = 0 then (obb (f_X1_beginsPart (fld r0 3) x2 M) fun y209 => if y209 = 0 then (bvv (x2 + (1 : Int32)) fun y212 => (f_X5_plead_27 n) r0 x1 y212 M) else (opp (f_X5_reasonOfPart r0 x2 M) fun y216 M214 => if y216 = 0 then (bvv (x1 + (1 : Int32)) fun y228 => bvv (x2 + (1 : Int32)) fun y230 => (f_X5_plead_27 n) r0 y228 y230 M214) else (bvv (sI M214 r0 8 (1 : Int32)) fun M218 => bvv (sI M218 r0 9 y216) fun M220 => bvv (sI M220 r0 10 x1) fun M222 => bvv (sI M222 r0 11 x2) fun M224 => bvv (x2 + (1 : Int32)) fun y226 => (f_X5_plead_27 n) r0 x1 y226 M224))) else (bvv (sI M (fld r0 3) 1 (0 : Int32)) fun M207 => some (x1, M207)))
set_option maxRecDepth 100000 in
set_option maxHeartbeats 4000000 in
theorem t_X5_plead_27 {w : Om} {f : Fr} {r : Int32} {M2 : Mem} (C : Cx w f RX5 cX5_plead 4 7) (hR : Rt w f cX5_plead (some .int) (some (.int r)) M2)   : ∀ (n : Nat) (r0 : Nat) (x1 : Int32) (x2 : Int32) (M : Mem), f_X5_plead_27 n r0 x1 x2 M = some (r, M2) → Go w f 27 [some (rv w r0), some (.int x1), some (.int x2), none] [] M := by
  intro n
  induction n with
  | zero =>
    intro r0 x1 x2 M h
    cases h
  | succ n ih =>
    intro r0 x1 x2 M h
    rw [f_X5_plead_27] at h
    refine g_iload_n C dX5_plead_27 rfl rfl ?_
    refine g_aload_n C dX5_plead_28 rfl rfl ?_
    obtain ⟨g201, h⟩ := of_gdd h
    refine gf_5_3 C fl_RX5_26 g201 dX5_plead_29 ?_
    obtain ⟨g202, h⟩ := of_gdd h
    refine gf_1_1 C fl_RX5_118 g202 dX5_plead_32 ?_
    refine g_icmp_ge 98 C dX5_plead_35 (by decide) (fun c203 => ?_) (fun c203 => ?_)
    · replace h := of_ift h c203
      refine g_aload_n C dX5_plead_98 rfl rfl ?_
      refine gf_5_3 C fl_RX5_26 g201 dX5_plead_99 ?_
      refine g_iconst (v := 0) C dX5_plead_102 rfl ?_
      refine pf_1_1 C fl_RX5_118 g202 dX5_plead_103 ?_
      obtain ⟨M204, e205, h⟩ := of_bvv h
      refine g_mem e205 ?_
      refine g_iload_n C dX5_plead_106 rfl rfl ?_
      cases h
      exact hR 107 _ ⟨.int, rfl, rfl⟩ dX5_plead_107
    · replace h := of_iff h c203
      refine g_aload_n C dX5_plead_38 rfl rfl ?_
      refine gf_5_8 C fl_RX5_148 g201 dX5_plead_39 ?_
      refine g_if_ne 98 C dX5_plead_42 (by decide) (fun c206 => ?_) (fun c206 => ?_)
      · replace h := of_iff h c206
        refine g_aload_n C dX5_plead_98 rfl rfl ?_
        refine gf_5_3 C fl_RX5_26 g201 dX5_plead_99 ?_
        refine g_iconst (v := 0) C dX5_plead_102 rfl ?_
        refine pf_1_1 C fl_RX5_118 g202 dX5_plead_103 ?_
        obtain ⟨M207, e208, h⟩ := of_bvv h
        refine g_mem e208 ?_
        refine g_iload_n C dX5_plead_106 rfl rfl ?_
        cases h
        exact hR 107 _ ⟨.int, rfl, rfl⟩ dX5_plead_107
      · replace h := of_ift h c206
        refine g_aload_n C dX5_plead_45 rfl rfl ?_
        refine gf_5_3 C fl_RX5_26 g201 dX5_plead_46 ?_
        refine g_iload_n C dX5_plead_49 rfl rfl ?_
        obtain ⟨y209, e210, h⟩ := of_obb h
        refine g_callV (As := [.int x2]) C (ct_X1_beginsPart C.wf e210) g202 lk_RX5_151 mi_X1_beginsPart (by decide) cs_0 (by decide) dX5_plead_50 rfl ?_
        show Go w f 53 [some (rv w r0), some (.int x1), some (.int x2), none] [.int y209] M
        refine g_if_eq 92 C dX5_plead_53 (by decide) (fun c211 => ?_) (fun c211 => ?_)
        · replace h := of_ift h c211
          obtain ⟨y212, e213, h⟩ := of_bvv h
          refine g_iinc (v := y212) C dX5_plead_92 rfl e213.symm (by decide) rfl (L2 := [some (rv w r0), some (.int x1), some (.int y212), none]) rfl ?_
          refine g_goto 27 C dX5_plead_95 (by decide) ?_
          exact ih r0 x1 y212 M h
        · replace h := of_iff h c211
          refine g_aload_n C dX5_plead_56 rfl rfl ?_
          refine g_iload_n C dX5_plead_57 rfl rfl ?_
          obtain ⟨y216, M214, e215, h⟩ := of_opp h
          refine g_callV (As := [.int x2]) C (ct_X5_reasonOfPart C.wf e215) g201 lk_RX5_154 mi_X5_reasonOfPart (by decide) cs_0 (by decide) dX5_plead_58 rfl ?_
          show Go w f 61 [some (rv w r0), some (.int x1), some (.int x2), none] [.int y216] M214
          refine g_istore_n C dX5_plead_61 rfl (by decide) rfl (L2 := [some (rv w r0), some (.int x1), some (.int x2), some (.int y216)]) rfl ?_
          refine g_iload_n C dX5_plead_62 rfl rfl ?_
          refine g_if_ne 72 C dX5_plead_63 (by decide) (fun c217 => ?_) (fun c217 => ?_)
          · replace h := of_iff h c217
            refine g_aload_n C dX5_plead_72 rfl rfl ?_
            refine g_iconst (v := 1) C dX5_plead_73 rfl ?_
            refine pf_5_8 C fl_RX5_148 g201 (isb_1) dX5_plead_74 ?_
            obtain ⟨M218, e219, h⟩ := of_bvv h
            refine g_mem e219 ?_
            refine g_aload_n C dX5_plead_77 rfl rfl ?_
            refine g_iload_n C dX5_plead_78 rfl rfl ?_
            refine pf_5_9 C fl_RX5_158 g201 dX5_plead_79 ?_
            obtain ⟨M220, e221, h⟩ := of_bvv h
            refine g_mem e221 ?_
            refine g_aload_n C dX5_plead_82 rfl rfl ?_
            refine g_iload_n C dX5_plead_83 rfl rfl ?_
            refine pf_5_10 C fl_RX5_161 g201 dX5_plead_84 ?_
            obtain ⟨M222, e223, h⟩ := of_bvv h
            refine g_mem e223 ?_
            refine g_aload_n C dX5_plead_87 rfl rfl ?_
            refine g_iload_n C dX5_plead_88 rfl rfl ?_
            refine pf_5_11 C fl_RX5_164 g201 dX5_plead_89 ?_
            obtain ⟨M224, e225, h⟩ := of_bvv h
            refine g_mem e225 ?_
            obtain ⟨y226, e227, h⟩ := of_bvv h
            refine g_iinc (v := y226) C dX5_plead_92 rfl e227.symm (by decide) rfl (L2 := [some (rv w r0), some (.int x1), some (.int y226), some (.int y216)]) rfl ?_
            refine g_goto 27 C dX5_plead_95 (by decide) ?_
            refine g_mask (bs := [true, true, true, false]) (L2 := [some (rv w r0), some (.int x1), some (.int y226), none]) rfl ?_
            exact ih r0 x1 y226 M224 h
          · replace h := of_ift h c217
            obtain ⟨y228, e229, h⟩ := of_bvv h
            refine g_iinc (v := y228) C dX5_plead_66 rfl e229.symm (by decide) (rv_cat _ _) (L2 := [some (rv w r0), some (.int y228), some (.int x2), some (.int y216)]) rfl ?_
            refine g_goto 92 C dX5_plead_69 (by decide) ?_
            obtain ⟨y230, e231, h⟩ := of_bvv h
            refine g_iinc (v := y230) C dX5_plead_92 rfl e231.symm (by decide) rfl (L2 := [some (rv w r0), some (.int y228), some (.int y230), some (.int y216)]) rfl ?_
            refine g_goto 27 C dX5_plead_95 (by decide) ?_
            refine g_mask (bs := [true, true, true, false]) (L2 := [some (rv w r0), some (.int y228), some (.int y230), none]) rfl ?_
            exact ih r0 y228 y230 M214 h
def f_X5_plead (r0 : Nat) (M : Mem) : Option (Int32 × Mem) := gdd (kd r0 = 6) <| gdd (kd (fld r0 3) = 2) <| obb (f_X1_suitsFault (fld r0 3) M) fun y3 => if y3 = (-1 : Int32) then (obb (f_X5_keepState r0 M) fun M6 => bvv (sI M6 r0 8 (0 : Int32)) fun M8 => f_X5_plead_27 FU r0 (0 : Int32) (0 : Int32) M8) else (some ((-2 : Int32), M))
set_option maxRecDepth 100000 in
set_option maxHeartbeats 4000000 in
theorem ct_X5_plead {l : Launch} {w : Om} (hw : Wf w) {r0 : Nat} {M : Mem} {r : Int32} {M2 : Mem} (h : f_X5_plead r0 M = some (r, M2)) : Ct l w yX5_plead cX5_plead 4 (some .int) 7 [rv w r0] M (some (.int r)) M2 := by
  refine ct_of hw (by decide) (cat_s (rv_cat _ _) cat_0) (Nat.le_of_ble_eq_true rfl) (fun f _ C hR => ?_)
  show Go w f 0 [some (rv w r0), none, none, none] [] M
  unfold f_X5_plead at h
  refine g_aload_n C dX5_plead_0 rfl rfl ?_
  obtain ⟨g1, h⟩ := of_gdd h
  refine gf_5_3 C fl_RX5_26 g1 dX5_plead_1 ?_
  obtain ⟨g2, h⟩ := of_gdd h
  obtain ⟨y3, e4, h⟩ := of_obb h
  refine g_callV (As := []) C (ct_X1_suitsFault C.wf e4) g2 lk_RX5_145 mi_X1_suitsFault (by decide) cs_0 (by decide) dX5_plead_4 rfl ?_
  show Go w f 7 [some (rv w r0), none, none, none] [.int y3] M
  refine g_iconst (v := -1) C dX5_plead_7 rfl ?_
  refine g_icmp_eq 14 C dX5_plead_8 (by decide) (fun c5 => ?_) (fun c5 => ?_)
  · replace h := of_ift h c5
    refine g_aload_n C dX5_plead_14 rfl rfl ?_
    obtain ⟨M6, e7, h⟩ := of_obb h
    refine g_callV (As := []) C (ct_X5_keepState C.wf e7) g1 lk_RX5_52 mi_X5_keepState (by decide) cs_0 (by decide) dX5_plead_15 rfl ?_
    show Go w f 18 [some (rv w r0), none, none, none] [] M6
    refine g_aload_n C dX5_plead_18 rfl rfl ?_
    refine g_iconst (v := 0) C dX5_plead_19 rfl ?_
    refine pf_5_8 C fl_RX5_148 g1 (isb_0) dX5_plead_20 ?_
    obtain ⟨M8, e9, h⟩ := of_bvv h
    refine g_mem e9 ?_
    refine g_iconst (v := 0) C dX5_plead_23 rfl ?_
    refine g_istore_n C dX5_plead_24 rfl (by decide) (rv_cat _ _) (L2 := [some (rv w r0), some (.int (0 : Int32)), none, none]) rfl ?_
    refine g_iconst (v := 0) C dX5_plead_25 rfl ?_
    refine g_istore_n C dX5_plead_26 rfl (by decide) rfl (L2 := [some (rv w r0), some (.int (0 : Int32)), some (.int (0 : Int32)), none]) rfl ?_
    exact t_X5_plead_27 C hR _ r0 (0 : Int32) (0 : Int32) M8 h
  · replace h := of_iff h c5
    refine g_bipush (v := -2) C dX5_plead_11 rfl ?_
    cases h
    exact hR 13 _ ⟨.int, rfl, rfl⟩ dX5_plead_13
def f_X5_why (r0 : Nat) (x1 : Int32) (M : Mem) : Option Int32 := if (f_X5_isWithin x1 (0 : Int32) (2 : Int32)) = 0 then (some (-1 : Int32)) else (gdd (kd r0 = 6) <| if (gI M r0 8) = 0 then (some (-4 : Int32)) else (if x1 = nI 0 then (some (gI M r0 9)) else if x1 = nI 1 then (some (gI M r0 10)) else (some (gI M r0 11))))
set_option maxRecDepth 100000 in
set_option maxHeartbeats 4000000 in
theorem ct_X5_why {l : Launch} {w : Om} (hw : Wf w) {r0 : Nat} {x1 : Int32}  {M : Mem} {r : Int32} (h : f_X5_why r0 x1 M = some r) : Ct l w yX5_why cX5_why 2 (some .int) 1 [rv w r0, .int x1] M (some (.int r)) M := by
  refine ct_of hw (by decide) (cat_s (rv_cat _ _) (cat_s rfl cat_0)) (Nat.le_of_ble_eq_true rfl) (fun f _ C hR => ?_)
  show Go w f 0 [some (rv w r0), some (.int x1)] [] M
  unfold f_X5_why at h
  refine g_iload_n C dX5_why_0 rfl rfl ?_
  refine g_iconst (v := 0) C dX5_why_1 rfl ?_
  refine g_iconst (v := 2) C dX5_why_2 rfl ?_
  refine g_callS (As := [.int x1, .int (0 : Int32), .int (2 : Int32)]) C (ct_X5_isWithin C.wf rfl) lk_RX5_48 mi_X5_isWithin (by decide) cs_0 (by decide) dX5_why_3 rfl ?_
  show Go w f 6 [some (rv w r0), some (.int x1)] [.int (f_X5_isWithin x1 (0 : Int32) (2 : Int32))] M
  refine g_if_ne 11 C dX5_why_6 (by decide) (fun c1 => ?_) (fun c1 => ?_)
  · replace h := of_iff h c1
    refine g_aload_n C dX5_why_11 rfl rfl ?_
    obtain ⟨g2, h⟩ := of_gdd h
    refine gf_5_8 C fl_RX5_148 g2 dX5_why_12 ?_
    refine g_if_ne 21 C dX5_why_15 (by decide) (fun c3 => ?_) (fun c3 => ?_)
    · replace h := of_iff h c3
      refine g_iload_n C dX5_why_21 rfl rfl ?_
      by_cases c4 : x1 = nI 0
      · replace h := of_ift h c4
        refine g_lsw (26) 48 C dX5_why_22 (by decide) (by rw [c4]; decide) (by decide) ?_
        refine g_aload_n C dX5_why_48 rfl rfl ?_
        refine gf_5_9 C fl_RX5_158 g2 dX5_why_49 ?_
        cases h
        exact hR 52 _ ⟨.int, rfl, rfl⟩ dX5_why_52
      replace h := of_iff h c4
      by_cases c5 : x1 = nI 1
      · replace h := of_ift h c5
        refine g_lsw (31) 53 C dX5_why_22 (by decide) (by rw [c5]; decide) (by decide) ?_
        refine g_aload_n C dX5_why_53 rfl rfl ?_
        refine gf_5_10 C fl_RX5_161 g2 dX5_why_54 ?_
        cases h
        exact hR 57 _ ⟨.int, rfl, rfl⟩ dX5_why_57
      replace h := of_iff h c5
      refine g_lsw (36) 58 C dX5_why_22 (by decide) (ls_out01 c4 c5) (by decide) ?_
      refine g_aload_n C dX5_why_58 rfl rfl ?_
      refine gf_5_11 C fl_RX5_164 g2 dX5_why_59 ?_
      cases h
      exact hR 62 _ ⟨.int, rfl, rfl⟩ dX5_why_62
    · replace h := of_ift h c3
      refine g_bipush (v := -4) C dX5_why_18 rfl ?_
      cases h
      exact hR 20 _ ⟨.int, rfl, rfl⟩ dX5_why_20
  · replace h := of_ift h c1
    refine g_iconst (v := -1) C dX5_why_9 rfl ?_
    cases h
    exact hR 10 _ ⟨.int, rfl, rfl⟩ dX5_why_10
