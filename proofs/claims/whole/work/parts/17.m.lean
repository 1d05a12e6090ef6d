def f_X6_restore (r0 : Nat) (M : Mem) : Option (Int32 × Mem) := gdd (kd r0 = 7) <| if (gI M r0 4) = 0 then (some ((-2 : Int32), M)) else (obb (f_X6_records r0 M) fun M3 => obb (f_X6_copies (fld r0 3) (0 : Int32) (fld r0 0) (0 : Int32) M3) fun M5 => gdd (kd (fld r0 0) = 8) <| gdd (inb (3 : Int32) (ln (fld r0 0)) = true) <| some (gI M5 (fld r0 0) ((3 : Int32)).toNatClampNeg, M5))
set_option maxRecDepth 100000 in
set_option maxHeartbeats 4000000 in
theorem ct_X6_restore {l : Launch} {w : Om} (hw : Wf w) {r0 : Nat} {M : Mem} {r : Int32} {M2 : Mem} (h : f_X6_restore r0 M = some (r, M2)) : Ct l w yX6_restore cX6_restore 1 (some .int) 2 [rv w r0] M (some (.int r)) M2 := by
  refine ct_of hw (by decide) (cat_s (rv_cat _ _) cat_0) (Nat.le_of_ble_eq_true rfl) (fun f _ C hR => ?_)
  show Go w f 0 [some (rv w r0)] [] M
  unfold f_X6_restore at h
  refine g_aload_n C dX6_restore_0 rfl rfl ?_
  obtain ⟨g1, h⟩ := of_gdd h
  refine gf_6_4 C fl_RX6_236 g1 dX6_restore_1 ?_
  refine g_if_ne 10 C dX6_restore_4 (by decide) (fun c2 => ?_) (fun c2 => ?_)
  · replace h := of_iff h c2
    refine g_aload_n C dX6_restore_10 rfl rfl ?_
    obtain ⟨M3, e4, h⟩ := of_obb h
    refine g_callV (As := []) C (ct_X6_records C.wf e4) g1 lk_RX6_112 mi_X6_records (by decide) cs_0 (by decide) dX6_restore_11 rfl ?_
    show Go w f 14 [some (rv w r0)] [] M3
    refine g_aload_n C dX6_restore_14 rfl rfl ?_
    refine gf_6_3 C fl_RX6_16 g1 dX6_restore_15 ?_
    refine g_iconst (v := 0) C dX6_restore_18 rfl ?_
    refine g_aload_n C dX6_restore_19 rfl rfl ?_
    refine gf_6_0 C fl_RX6_7 g1 dX6_restore_20 ?_
    refine g_iconst (v := 0) C dX6_restore_23 rfl ?_
    obtain ⟨M5, e6, h⟩ := of_obb h
    refine g_callS (As := [rv w (fld r0 3), .int (0 : Int32), rv w (fld r0 0), .int (0 : Int32)]) C (ct_X6_copies C.wf e6) lk_RX6_38 mi_X6_copies (by decide) cs_0 (by decide) dX6_restore_24 rfl ?_
    show Go w f 27 [some (rv w r0)] [] M5
    refine g_aload_n C dX6_restore_27 rfl rfl ?_
    refine gf_6_0 C fl_RX6_7 g1 dX6_restore_28 ?_
    refine g_iconst (v := 3) C dX6_restore_31 rfl ?_
    obtain ⟨g7, h⟩ := of_gdd h
    obtain ⟨g8, h⟩ := of_gdd h
    refine g_iald C g7 g8 dX6_restore_32 ?_
    cases h
    exact hR 33 _ ⟨.int, rfl, rfl⟩ dX6_restore_33
  · replace h := of_ift h c2
    refine g_bipush (v := -2) C dX6_restore_7 rfl ?_
    cases h
    exact hR 9 _ ⟨.int, rfl, rfl⟩ dX6_restore_9
