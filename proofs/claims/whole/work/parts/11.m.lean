def f_X4_addEdition (r0 : Nat) (r1 : Nat) (M : Mem) : Option Mem := gdd (kd r0 = 5) <| bvv (sI M r0 4 ((gI M r0 4) + (1 : Int32))) fun M2 => obb (f_X4_copyEdition r0 r1 ((gI M2 r0 4) - (1 : Int32)) M2) fun M4 => some M4
set_option maxRecDepth 100000 in
set_option maxHeartbeats 4000000 in
theorem ct_X4_addEdition {l : Launch} {w : Om} (hw : Wf w) {r0 : Nat} {r1 : Nat} {M : Mem} {M2 : Mem} (h : f_X4_addEdition r0 r1 M = some M2) : Ct l w yX4_addEdition cX4_addEdition 2 none 3 [rv w r0, rv w r1] M none M2 := by
  refine ct_of hw (by decide) (cat_s (rv_cat _ _) (cat_s (rv_cat _ _) cat_0)) (Nat.le_of_ble_eq_true rfl) (fun f _ C hR => ?_)
  show Go w f 0 [some (rv w r0), some (rv w r1)] [] M
  unfold f_X4_addEdition at h
  refine g_aload_n C dX4_addEdition_0 rfl rfl ?_
  refine g_dup C (rv_cat _ _) dX4_addEdition_1 ?_
  obtain ⟨g1, h⟩ := of_gdd h
  refine gf_4_4 C fl_RX4_40 g1 dX4_addEdition_2 ?_
  refine g_iconst (v := 1) C dX4_addEdition_5 rfl ?_
  refine g_iadd C dX4_addEdition_6 ?_
  refine pf_4_4 C fl_RX4_40 g1 dX4_addEdition_7 ?_
  obtain ⟨M2, e3, h⟩ := of_bvv h
  refine g_mem e3 ?_
  refine g_aload_n C dX4_addEdition_10 rfl rfl ?_
  refine g_aload_n C dX4_addEdition_11 rfl rfl ?_
  refine g_aload_n C dX4_addEdition_12 rfl rfl ?_
  refine gf_4_4 C fl_RX4_40 g1 dX4_addEdition_13 ?_
  refine g_iconst (v := 1) C dX4_addEdition_16 rfl ?_
  refine g_isub C dX4_addEdition_17 ?_
  obtain ⟨M4, e5, h⟩ := of_obb h
  refine g_callV (As := [rv w r1, .int ((gI M2 r0 4) - (1 : Int32))]) C (ct_X4_copyEdition C.wf e5) g1 lk_RX4_51 mi_X4_copyEdition (by decide) cs_0 (by decide) dX4_addEdition_18 rfl ?_
  show Go w f 21 [some (rv w r0), some (rv w r1)] [] M4
  cases h
  exact hR 21 _ rfl dX4_addEdition_21
def f_X5_print (r0 : Nat) (M : Mem) : Option (Int32 × Mem) := gdd (kd r0 = 6) <| gdd (kd (fld r0 3) = 2) <| obb (f_X1_editionFault (fld r0 3) M) fun y3 => if y3 = (-1 : Int32) then (obb (f_X1_writeTo (fld r0 3) (fld r0 4) M) fun M6 => gdd (kd (fld r0 4) = 1) <| gdd (kd (fld r0 0) = 5) <| obb (f_X4_hasEditionLike (fld r0 0) (fld r0 4) (gI M6 (fld r0 4) 2) M6) fun y10 => if y10 = 0 then (if (gI M6 (fld r0 0) 4) < (4 : Int32) then (obb (f_X5_keepState r0 M6) fun M14 => obb (f_X4_addEdition (fld r0 0) (fld r0 4) M14) fun M16 => bvv (sI M16 (fld r0 3) 1 (0 : Int32)) fun M18 => some ((gI M18 (fld r0 0) 4) - (1 : Int32), M18)) else (some ((-3 : Int32), M6))) else (some ((-2 : Int32), M6))) else (some ((-2 : Int32), M))
set_option maxRecDepth 100000 in
set_option maxHeartbeats 4000000 in
theorem ct_X5_print {l : Launch} {w : Om} (hw : Wf w) {r0 : Nat} {M : Mem} {r : Int32} {M2 : Mem} (h : f_X5_print r0 M = some (r, M2)) : Ct l w yX5_print cX5_print 1 (some .int) 5 [rv w r0] M (some (.int r)) M2 := by
  refine ct_of hw (by decide) (cat_s (rv_cat _ _) cat_0) (Nat.le_of_ble_eq_true rfl) (fun f _ C hR => ?_)
  show Go w f 0 [some (rv w r0)] [] M
  unfold f_X5_print at h
  refine g_aload_n C dX5_print_0 rfl rfl ?_
  obtain ⟨g1, h⟩ := of_gdd h
  refine gf_5_3 C fl_RX5_26 g1 dX5_print_1 ?_
  obtain ⟨g2, h⟩ := of_gdd h
  obtain ⟨y3, e4, h⟩ := of_obb h
  refine g_callV (As := []) C (ct_X1_editionFault C.wf e4) g2 lk_RX5_98 mi_X1_editionFault (by decide) cs_0 (by decide) dX5_print_4 rfl ?_
  show Go w f 7 [some (rv w r0)] [.int y3] M
  refine g_iconst (v := -1) C dX5_print_7 rfl ?_
  refine g_icmp_eq 14 C dX5_print_8 (by decide) (fun c5 => ?_) (fun c5 => ?_)
  · replace h := of_ift h c5
    refine g_aload_n C dX5_print_14 rfl rfl ?_
    refine gf_5_3 C fl_RX5_26 g1 dX5_print_15 ?_
    refine g_aload_n C dX5_print_18 rfl rfl ?_
    refine gf_5_4 C fl_RX5_33 g1 dX5_print_19 ?_
    obtain ⟨M6, e7, h⟩ := of_obb h
    refine g_callV (As := [rv w (fld r0 4)]) C (ct_X1_writeTo C.wf e7) g2 lk_RX5_101 mi_X1_writeTo (by decide) cs_0 (by decide) dX5_print_22 rfl ?_
    show Go w f 25 [some (rv w r0)] [] M6
    refine g_aload_n C dX5_print_25 rfl rfl ?_
    refine gf_5_0 C fl_RX5_10 g1 dX5_print_26 ?_
    refine g_aload_n C dX5_print_29 rfl rfl ?_
    refine gf_5_4 C fl_RX5_33 g1 dX5_print_30 ?_
    refine g_aload_n C dX5_print_33 rfl rfl ?_
    refine gf_5_4 C fl_RX5_33 g1 dX5_print_34 ?_
    obtain ⟨g8, h⟩ := of_gdd h
    refine gf_0_2 C fl_RX5_105 g8 dX5_print_37 ?_
    obtain ⟨g9, h⟩ := of_gdd h
    obtain ⟨y10, e11, h⟩ := of_obb h
    refine g_callV (As := [rv w (fld r0 4), .int (gI M6 (fld r0 4) 2)]) C (ct_X4_hasEditionLike C.wf e11) g9 lk_RX5_108 mi_X4_hasEditionLike (by decide) cs_0 (by decide) dX5_print_40 rfl ?_
    show Go w f 43 [some (rv w r0)] [.int y10] M6
    refine g_if_eq 49 C dX5_print_43 (by decide) (fun c12 => ?_) (fun c12 => ?_)
    · replace h := of_ift h c12
      refine g_aload_n C dX5_print_49 rfl rfl ?_
      refine gf_5_0 C fl_RX5_10 g1 dX5_print_50 ?_
      refine gf_4_4 C fl_RX5_112 g9 dX5_print_53 ?_
      refine g_iconst (v := 4) C dX5_print_56 rfl ?_
      refine g_icmp_lt 63 C dX5_print_57 (by decide) (fun c13 => ?_) (fun c13 => ?_)
      · replace h := of_ift h c13
        refine g_aload_n C dX5_print_63 rfl rfl ?_
        obtain ⟨M14, e15, h⟩ := of_obb h
        refine g_callV (As := []) C (ct_X5_keepState C.wf e15) g1 lk_RX5_52 mi_X5_keepState (by decide) cs_0 (by decide) dX5_print_64 rfl ?_
        show Go w f 67 [some (rv w r0)] [] M14
        refine g_aload_n C dX5_print_67 rfl rfl ?_
        refine gf_5_0 C fl_RX5_10 g1 dX5_print_68 ?_
        refine g_aload_n C dX5_print_71 rfl rfl ?_
        refine gf_5_4 C fl_RX5_33 g1 dX5_print_72 ?_
        obtain ⟨M16, e17, h⟩ := of_obb h
        refine g_callV (As := [rv w (fld r0 4)]) C (ct_X4_addEdition C.wf e17) g9 lk_RX5_115 mi_X4_addEdition (by decide) cs_0 (by decide) dX5_print_75 rfl ?_
        show Go w f 78 [some (rv w r0)] [] M16
        refine g_aload_n C dX5_print_78 rfl rfl ?_
        refine gf_5_3 C fl_RX5_26 g1 dX5_print_79 ?_
        refine g_iconst (v := 0) C dX5_print_82 rfl ?_
        refine pf_1_1 C fl_RX5_118 g2 dX5_print_83 ?_
        obtain ⟨M18, e19, h⟩ := of_bvv h
        refine g_mem e19 ?_
        refine g_aload_n C dX5_print_86 rfl rfl ?_
        refine gf_5_0 C fl_RX5_10 g1 dX5_print_87 ?_
        refine gf_4_4 C fl_RX5_112 g9 dX5_print_90 ?_
        refine g_iconst (v := 1) C dX5_print_93 rfl ?_
        refine g_isub C dX5_print_94 ?_
        cases h
        exact hR 95 _ ⟨.int, rfl, rfl⟩ dX5_print_95
      · replace h := of_iff h c13
        refine g_bipush (v := -3) C dX5_print_60 rfl ?_
        cases h
        exact hR 62 _ ⟨.int, rfl, rfl⟩ dX5_print_62
    · replace h := of_iff h c12
      refine g_bipush (v := -2) C dX5_print_46 rfl ?_
      cases h
      exact hR 48 _ ⟨.int, rfl, rfl⟩ dX5_print_48
  · replace h := of_iff h c5
    refine g_bipush (v := -2) C dX5_print_11 rfl ?_
    cases h
    exact hR 13 _ ⟨.int, rfl, rfl⟩ dX5_print_13
def f_X4_removeEdition_4 : Nat → Nat → Int32 → Mem → Option Mem
  | 0, _, _, _ => none
  | n + 1, r0, x2, M => gdd (kd r0 = 5) <| if (gI M r0 4) ≤ x2 then (bvv (sI M r0 4 ((gI M r0 4) - (1 : Int32))) fun M203 => some M203) else (obb (f_X4_editionAt r0 x2 M) fun y205 => obb (f_X4_copyEdition r0 y205 (x2 - (1 : Int32)) M) fun M207 => bvv (x2 + (1 : Int32)) fun y209 => (f_X4_removeEdition_4 n) r0 y209 M207)
set_option maxRecDepth 100000 in
set_option maxHeartbeats 4000000 in
theorem t_X4_removeEdition_4 {w : Om} {f : Fr} {M2 : Mem} (C : Cx w f RX4 cX4_removeEdition 3 3) (hR : Rt w f cX4_removeEdition none none M2)   : ∀ (n : Nat) (r0 : Nat) (x2 : Int32) (M : Mem), f_X4_removeEdition_4 n r0 x2 M = some M2 → Go w f 4 [some (rv w r0), none, some (.int x2)] [] M := by
  intro n
  induction n with
  | zero =>
    intro r0 x2 M h
    cases h
  | succ n ih =>
    intro r0 x2 M h
    rw [f_X4_removeEdition_4] at h
    refine g_iload_n C dX4_removeEdition_4 rfl rfl ?_
    refine g_aload_n C dX4_removeEdition_5 rfl rfl ?_
    obtain ⟨g201, h⟩ := of_gdd h
    refine gf_4_4 C fl_RX4_40 g201 dX4_removeEdition_6 ?_
    refine g_icmp_ge 30 C dX4_removeEdition_9 (by decide) (fun c202 => ?_) (fun c202 => ?_)
    · replace h := of_ift h c202
      refine g_aload_n C dX4_removeEdition_30 rfl rfl ?_
      refine g_dup C (rv_cat _ _) dX4_removeEdition_31 ?_
      refine gf_4_4 C fl_RX4_40 g201 dX4_removeEdition_32 ?_
      refine g_iconst (v := 1) C dX4_removeEdition_35 rfl ?_
      refine g_isub C dX4_removeEdition_36 ?_
      refine pf_4_4 C fl_RX4_40 g201 dX4_removeEdition_37 ?_
      obtain ⟨M203, e204, h⟩ := of_bvv h
      refine g_mem e204 ?_
      cases h
      exact hR 40 _ rfl dX4_removeEdition_40
    · replace h := of_iff h c202
      refine g_aload_n C dX4_removeEdition_12 rfl rfl ?_
      refine g_aload_n C dX4_removeEdition_13 rfl rfl ?_
      refine g_iload_n C dX4_removeEdition_14 rfl rfl ?_
      obtain ⟨y205, e206, h⟩ := of_obb h
      refine g_callV (As := [.int x2]) C (ct_X4_editionAt C.wf e206) g201 lk_RX4_47 mi_X4_editionAt (by decide) (cs_r cs_0) (by decide) dX4_removeEdition_15 rfl ?_
      show Go w f 18 [some (rv w r0), none, some (.int x2)] [rv w y205, rv w r0] M
      refine g_iload_n C dX4_removeEdition_18 rfl rfl ?_
      refine g_iconst (v := 1) C dX4_removeEdition_19 rfl ?_
      refine g_isub C dX4_removeEdition_20 ?_
      obtain ⟨M207, e208, h⟩ := of_obb h
      refine g_callV (As := [rv w y205, .int (x2 - (1 : Int32))]) C (ct_X4_copyEdition C.wf e208) g201 lk_RX4_51 mi_X4_copyEdition (by decide) cs_0 (by decide) dX4_removeEdition_21 rfl ?_
      show Go w f 24 [some (rv w r0), none, some (.int x2)] [] M207
      obtain ⟨y209, e210, h⟩ := of_bvv h
      refine g_iinc (v := y209) C dX4_removeEdition_24 rfl e210.symm (by decide) trivial (L2 := [some (rv w r0), none, some (.int y209)]) rfl ?_
      refine g_goto 4 C dX4_removeEdition_27 (by decide) ?_
      exact ih r0 y209 M207 h
def f_X4_removeEdition (r0 : Nat) (x1 : Int32) (M : Mem) : Option Mem := bvv (x1 + (1 : Int32)) fun y1 => f_X4_removeEdition_4 FU r0 y1 M
set_option maxRecDepth 100000 in
set_option maxHeartbeats 4000000 in
theorem ct_X4_removeEdition {l : Launch} {w : Om} (hw : Wf w) {r0 : Nat} {x1 : Int32} {M : Mem} {M2 : Mem} (h : f_X4_removeEdition r0 x1 M = some M2) : Ct l w yX4_removeEdition cX4_removeEdition 3 none 3 [rv w r0, .int x1] M none M2 := by
  refine ct_of hw (by decide) (cat_s (rv_cat _ _) (cat_s rfl cat_0)) (Nat.le_of_ble_eq_true rfl) (fun f _ C hR => ?_)
  show Go w f 0 [some (rv w r0), some (.int x1), none] [] M
  unfold f_X4_removeEdition at h
  refine g_iload_n C dX4_removeEdition_0 rfl rfl ?_
  refine g_iconst (v := 1) C dX4_removeEdition_1 rfl ?_
  refine g_iadd C dX4_removeEdition_2 ?_
  obtain ⟨y1, e2, h⟩ := of_bvv h
  refine g_topi e2 ?_
  refine g_istore_n C dX4_removeEdition_3 rfl (by decide) rfl (L2 := [some (rv w r0), some (.int x1), some (.int y1)]) rfl ?_
  refine g_mask (bs := [true, false, true]) (L2 := [some (rv w r0), none, some (.int y1)]) rfl ?_
  exact t_X4_removeEdition_4 C hR _ r0 y1 M h
def f_X5_drop (r0 : Nat) (x1 : Int32) (M : Mem) : Option (Int32 × Mem) := gdd (kd r0 = 6) <| gdd (kd (fld r0 0) = 5) <| obb (f_X4_editionAt (fld r0 0) x1 M) fun y3 => if y3 = 0 then (some ((-1 : Int32), M)) else (obb (f_X5_keepState r0 M) fun M6 => obb (f_X4_removeEdition (fld r0 0) x1 M6) fun M8 => some (gI M8 (fld r0 0) 4, M8))
set_option maxRecDepth 100000 in
set_option maxHeartbeats 4000000 in
theorem ct_X5_drop {l : Launch} {w : Om} (hw : Wf w) {r0 : Nat} {x1 : Int32} {M : Mem} {r : Int32} {M2 : Mem} (h : f_X5_drop r0 x1 M = some (r, M2)) : Ct l w yX5_drop cX5_drop 2 (some .int) 5 [rv w r0, .int x1] M (some (.int r)) M2 := by
  refine ct_of hw (by decide) (cat_s (rv_cat _ _) (cat_s rfl cat_0)) (Nat.le_of_ble_eq_true rfl) (fun f _ C hR => ?_)
  show Go w f 0 [some (rv w r0), some (.int x1)] [] M
  unfold f_X5_drop at h
  refine g_aload_n C dX5_drop_0 rfl rfl ?_
  obtain ⟨g1, h⟩ := of_gdd h
  refine gf_5_0 C fl_RX5_10 g1 dX5_drop_1 ?_
  refine g_iload_n C dX5_drop_4 rfl rfl ?_
  obtain ⟨g2, h⟩ := of_gdd h
  obtain ⟨y3, e4, h⟩ := of_obb h
  refine g_callV (As := [.int x1]) C (ct_X4_editionAt C.wf e4) g2 lk_RX5_121 mi_X4_editionAt (by decide) cs_0 (by decide) dX5_drop_5 rfl ?_
  show Go w f 8 [some (rv w r0), some (.int x1)] [rv w y3] M
  refine g_ifnonnull 13 C dX5_drop_8 (by decide) (fun c5 => ?_) (fun c5 => ?_)
  · replace h := of_iff h c5
    refine g_aload_n C dX5_drop_13 rfl rfl ?_
    obtain ⟨M6, e7, h⟩ := of_obb h
    refine g_callV (As := []) C (ct_X5_keepState C.wf e7) g1 lk_RX5_52 mi_X5_keepState (by decide) cs_0 (by decide) dX5_drop_14 rfl ?_
    show Go w f 17 [some (rv w r0), some (.int x1)] [] M6
    refine g_aload_n C dX5_drop_17 rfl rfl ?_
    refine gf_5_0 C fl_RX5_10 g1 dX5_drop_18 ?_
    refine g_iload_n C dX5_drop_21 rfl rfl ?_
    obtain ⟨M8, e9, h⟩ := of_obb h
    refine g_callV (As := [.int x1]) C (ct_X4_removeEdition C.wf e9) g2 lk_RX5_125 mi_X4_removeEdition (by decide) cs_0 (by decide) dX5_drop_22 rfl ?_
    show Go w f 25 [some (rv w r0), some (.int x1)] [] M8
    refine g_aload_n C dX5_drop_25 rfl rfl ?_
    refine gf_5_0 C fl_RX5_10 g1 dX5_drop_26 ?_
    refine gf_4_4 C fl_RX5_112 g2 dX5_drop_29 ?_
    cases h
    exact hR 32 _ ⟨.int, rfl, rfl⟩ dX5_drop_32
  · replace h := of_ift h c5
    refine g_iconst (v := -1) C dX5_drop_11 rfl ?_
    cases h
    exact hR 12 _ ⟨.int, rfl, rfl⟩ dX5_drop_12
def f_X0_hasGap (r0 : Nat) (x1 : Int32) (M : Mem) : Option Int32 := if x1 < 0 then (some (0 : Int32)) else (gdd (kd r0 = 1) <| if ((gI M r0 1) - (1 : Int32)) ≤ x1 then (some (0 : Int32)) else (some (1 : Int32)))
set_option maxRecDepth 100000 in
set_option maxHeartbeats 4000000 in
theorem ct_X0_hasGap {l : Launch} {w : Om} (hw : Wf w) {r0 : Nat} {x1 : Int32}  {M : Mem} {r : Int32} (h : f_X0_hasGap r0 x1 M = some r) : Ct l w yX0_hasGap cX0_hasGap 2 (some .boolean) 0 [rv w r0, .int x1] M (some (.int r)) M := by
  refine ct_of hw (by decide) (cat_s (rv_cat _ _) (cat_s rfl cat_0)) (Nat.le_of_ble_eq_true rfl) (fun f _ C hR => ?_)
  show Go w f 0 [some (rv w r0), some (.int x1)] [] M
  unfold f_X0_hasGap at h
  refine g_iload_n C dX0_hasGap_0 rfl rfl ?_
  refine g_if_lt 18 C dX0_hasGap_1 (by decide) (fun c1 => ?_) (fun c1 => ?_)
  · replace h := of_ift h c1
    refine g_iconst (v := 0) C dX0_hasGap_18 rfl ?_
    cases h
    exact hR 19 _ ⟨.boolean, rfl, rfl⟩ dX0_hasGap_19
  · replace h := of_iff h c1
    refine g_iload_n C dX0_hasGap_4 rfl rfl ?_
    refine g_aload_n C dX0_hasGap_5 rfl rfl ?_
    obtain ⟨g2, h⟩ := of_gdd h
    refine gf_0_1 C fl_RX0_23 g2 dX0_hasGap_6 ?_
    refine g_iconst (v := 1) C dX0_hasGap_9 rfl ?_
    refine g_isub C dX0_hasGap_10 ?_
    refine g_icmp_ge 18 C dX0_hasGap_11 (by decide) (fun c3 => ?_) (fun c3 => ?_)
    · replace h := of_ift h c3
      refine g_iconst (v := 0) C dX0_hasGap_18 rfl ?_
      cases h
      exact hR 19 _ ⟨.boolean, rfl, rfl⟩ dX0_hasGap_19
    · replace h := of_iff h c3
      refine g_iconst (v := 1) C dX0_hasGap_14 rfl ?_
      refine g_goto 19 C dX0_hasGap_15 (by decide) ?_
      cases h
      exact hR 19 _ ⟨.boolean, rfl, rfl⟩ dX0_hasGap_19
def f_X4_countingAbout_7 (M : Mem) : Nat → Nat → Int32 → Int32 → Int32 → Option Int32
  | 0, _, _, _, _ => none
  | n + 1, r0, x1, x2, x3 => if x3 < 0 then (some (-4 : Int32)) else (gdd (kd r0 = 5) <| obb (f_X4_rulingAt r0 x3 M) fun y203 => if y203 = 0 then (bvv (x3 + (-1 : Int32)) fun y206 => (f_X4_countingAbout_7 M n) r0 x1 x2 y206) else (gdd (kd y203 = 3) <| if (gI M y203 6) = 0 then (bvv (x3 + (-1 : Int32)) fun y210 => (f_X4_countingAbout_7 M n) r0 x1 x2 y210) else (if (gI M y203 0) = x1 then (if (gI M y203 1) = x2 then (some x3) else (bvv (x3 + (-1 : Int32)) fun y216 => (f_X4_countingAbout_7 M n) r0 x1 x2 y216)) else (bvv (x3 + (-1 : Int32)) fun y213 => (f_X4_countingAbout_7 M n) r0 x1 x2 y213))))
set_option maxRecDepth 100000 in
set_option maxHeartbeats 4000000 in
theorem t_X4_countingAbout_7 {w : Om} {f : Fr} {M : Mem} {r : Int32} (C : Cx w f RX4 cX4_countingAbout 5 1) (hR : Rt w f cX4_countingAbout (some .int) (some (.int r)) M)   : ∀ (n : Nat) (r0 : Nat) (x1 : Int32) (x2 : Int32) (x3 : Int32), f_X4_countingAbout_7 M n r0 x1 x2 x3 = some r → Go w f 7 [some (rv w r0), some (.int x1), some (.int x2), some (.int x3), none] [] M := by
  intro n
  induction n with
  | zero =>
    intro r0 x1 x2 x3 h
    cases h
  | succ n ih =>
    intro r0 x1 x2 x3 h
    rw [f_X4_countingAbout_7] at h
    refine g_iload_n C dX4_countingAbout_7 rfl rfl ?_
    refine g_if_lt 57 C dX4_countingAbout_8 (by decide) (fun c201 => ?_) (fun c201 => ?_)
    · replace h := of_ift h c201
      refine g_bipush (v := -4) C dX4_countingAbout_57 rfl ?_
      cases h
      exact hR 59 _ ⟨.int, rfl, rfl⟩ dX4_countingAbout_59
    · replace h := of_iff h c201
      refine g_aload_n C dX4_countingAbout_11 rfl rfl ?_
      refine g_iload_n C dX4_countingAbout_12 rfl rfl ?_
      obtain ⟨g202, h⟩ := of_gdd h
      obtain ⟨y203, e204, h⟩ := of_obb h
      refine g_callV (As := [.int x3]) C (ct_X4_rulingAt C.wf e204) g202 lk_RX4_55 mi_X4_rulingAt (by decide) cs_0 (by decide) dX4_countingAbout_13 rfl ?_
      show Go w f 16 [some (rv w r0), some (.int x1), some (.int x2), some (.int x3), none] [rv w y203] M
      refine g_astore C dX4_countingAbout_16 (by decide) rfl (L2 := [some (rv w r0), some (.int x1), some (.int x2), some (.int x3), some (rv w y203)]) rfl ?_
      refine g_aload C dX4_countingAbout_18 rfl ?_
      refine g_ifnull 51 C dX4_countingAbout_20 (by decide) (fun c205 => ?_) (fun c205 => ?_)
      · replace h := of_ift h c205
        obtain ⟨y206, e207, h⟩ := of_bvv h
        refine g_iinc (v := y206) C dX4_countingAbout_51 rfl e207.symm (by decide) rfl (L2 := [some (rv w r0), some (.int x1), some (.int x2), some (.int y206), some (rv w y203)]) rfl ?_
        refine g_goto 7 C dX4_countingAbout_54 (by decide) ?_
        refine g_mask (bs := [true, true, true, true, false]) (L2 := [some (rv w r0), some (.int x1), some (.int x2), some (.int y206), none]) rfl ?_
        exact ih r0 x1 x2 y206 h
      · replace h := of_iff h c205
        refine g_aload C dX4_countingAbout_23 rfl ?_
        obtain ⟨g208, h⟩ := of_gdd h
        refine gf_2_6 C fl_RX4_119 g208 dX4_countingAbout_25 ?_
        refine g_if_eq 51 C dX4_countingAbout_28 (by decide) (fun c209 => ?_) (fun c209 => ?_)
        · replace h := of_ift h c209
          obtain ⟨y210, e211, h⟩ := of_bvv h
          refine g_iinc (v := y210) C dX4_countingAbout_51 rfl e211.symm (by decide) rfl (L2 := [some (rv w r0), some (.int x1), some (.int x2), some (.int y210), some (rv w y203)]) rfl ?_
          refine g_goto 7 C dX4_countingAbout_54 (by decide) ?_
          refine g_mask (bs := [true, true, true, true, false]) (L2 := [some (rv w r0), some (.int x1), some (.int x2), some (.int y210), none]) rfl ?_
          exact ih r0 x1 x2 y210 h
        · replace h := of_iff h c209
          refine g_aload C dX4_countingAbout_31 rfl ?_
          refine gf_2_0 C fl_RX4_97 g208 dX4_countingAbout_33 ?_
          refine g_iload_n C dX4_countingAbout_36 rfl rfl ?_
          refine g_icmp_ne 51 C dX4_countingAbout_37 (by decide) (fun c212 => ?_) (fun c212 => ?_)
          · replace h := of_iff h c212
            obtain ⟨y213, e214, h⟩ := of_bvv h
            refine g_iinc (v := y213) C dX4_countingAbout_51 rfl e214.symm (by decide) rfl (L2 := [some (rv w r0), some (.int x1), some (.int x2), some (.int y213), some (rv w y203)]) rfl ?_
            refine g_goto 7 C dX4_countingAbout_54 (by decide) ?_
            refine g_mask (bs := [true, true, true, true, false]) (L2 := [some (rv w r0), some (.int x1), some (.int x2), some (.int y213), none]) rfl ?_
            exact ih r0 x1 x2 y213 h
          · replace h := of_ift h c212
            refine g_aload C dX4_countingAbout_40 rfl ?_
            refine gf_2_1 C fl_RX4_100 g208 dX4_countingAbout_42 ?_
            refine g_iload_n C dX4_countingAbout_45 rfl rfl ?_
            refine g_icmp_ne 51 C dX4_countingAbout_46 (by decide) (fun c215 => ?_) (fun c215 => ?_)
            · replace h := of_iff h c215
              obtain ⟨y216, e217, h⟩ := of_bvv h
              refine g_iinc (v := y216) C dX4_countingAbout_51 rfl e217.symm (by decide) rfl (L2 := [some (rv w r0), some (.int x1), some (.int x2), some (.int y216), some (rv w y203)]) rfl ?_
              refine g_goto 7 C dX4_countingAbout_54 (by decide) ?_
              refine g_mask (bs := [true, true, true, true, false]) (L2 := [some (rv w r0), some (.int x1), some (.int x2), some (.int y216), none]) rfl ?_
              exact ih r0 x1 x2 y216 h
            · replace h := of_ift h c215
              refine g_iload_n C dX4_countingAbout_49 rfl rfl ?_
              cases h
              exact hR 50 _ ⟨.int, rfl, rfl⟩ dX4_countingAbout_50
def f_X4_countingAbout (r0 : Nat) (x1 : Int32) (x2 : Int32) (M : Mem) : Option Int32 := gdd (kd r0 = 5) <| bvv ((gI M r0 5) - (1 : Int32)) fun y2 => f_X4_countingAbout_7 M FU r0 x1 x2 y2
set_option maxRecDepth 100000 in
set_option maxHeartbeats 4000000 in
theorem ct_X4_countingAbout {l : Launch} {w : Om} (hw : Wf w) {r0 : Nat} {x1 : Int32} {x2 : Int32}  {M : Mem} {r : Int32} (h : f_X4_countingAbout r0 x1 x2 M = some r) : Ct l w yX4_countingAbout cX4_countingAbout 5 (some .int) 1 [rv w r0, .int x1, .int x2] M (some (.int r)) M := by
  refine ct_of hw (by decide) (cat_s (rv_cat _ _) (cat_s rfl (cat_s rfl cat_0))) (Nat.le_of_ble_eq_true rfl) (fun f _ C hR => ?_)
  show Go w f 0 [some (rv w r0), some (.int x1), some (.int x2), none, none] [] M
  unfold f_X4_countingAbout at h
  refine g_aload_n C dX4_countingAbout_0 rfl rfl ?_
  obtain ⟨g1, h⟩ := of_gdd h
  refine gf_4_5 C fl_RX4_44 g1 dX4_countingAbout_1 ?_
  refine g_iconst (v := 1) C dX4_countingAbout_4 rfl ?_
  refine g_isub C dX4_countingAbout_5 ?_
  obtain ⟨y2, e3, h⟩ := of_bvv h
  refine g_topi e3 ?_
  refine g_istore_n C dX4_countingAbout_6 rfl (by decide) rfl (L2 := [some (rv w r0), some (.int x1), some (.int x2), some (.int y2), none]) rfl ?_
  exact t_X4_countingAbout_7 C hR _ r0 x1 x2 y2 h
def f_X4_countingAt (r0 : Nat) (r1 : Nat) (x2 : Int32) (M : Mem) : Option Int32 := gdd (kd r1 = 1) <| obb (f_X0_kindAt r1 x2 M) fun y2 => obb (f_X0_kindAt r1 (x2 + (1 : Int32)) M) fun y4 => gdd (kd r0 = 5) <| obb (f_X4_countingAbout r0 y2 y4 M) fun y7 => some y7
set_option maxRecDepth 100000 in
set_option maxHeartbeats 4000000 in
theorem ct_X4_countingAt {l : Launch} {w : Om} (hw : Wf w) {r0 : Nat} {r1 : Nat} {x2 : Int32}  {M : Mem} {r : Int32} (h : f_X4_countingAt r0 r1 x2 M = some r) : Ct l w yX4_countingAt cX4_countingAt 3 (some .int) 2 [rv w r0, rv w r1, .int x2] M (some (.int r)) M := by
  refine ct_of hw (by decide) (cat_s (rv_cat _ _) (cat_s (rv_cat _ _) (cat_s rfl cat_0))) (Nat.le_of_ble_eq_true rfl) (fun f _ C hR => ?_)
  show Go w f 0 [some (rv w r0), some (rv w r1), some (.int x2)] [] M
  unfold f_X4_countingAt at h
  refine g_aload_n C dX4_countingAt_0 rfl rfl ?_
  refine g_aload_n C dX4_countingAt_1 rfl rfl ?_
  refine g_iload_n C dX4_countingAt_2 rfl rfl ?_
  obtain ⟨g1, h⟩ := of_gdd h
  obtain ⟨y2, e3, h⟩ := of_obb h
  refine g_callV (As := [.int x2]) C (ct_X0_kindAt C.wf e3) g1 lk_RX4_126 mi_X0_kindAt (by decide) (cs_r cs_0) (by decide) dX4_countingAt_3 rfl ?_
  show Go w f 6 [some (rv w r0), some (rv w r1), some (.int x2)] [.int y2, rv w r0] M
  refine g_aload_n C dX4_countingAt_6 rfl rfl ?_
  refine g_iload_n C dX4_countingAt_7 rfl rfl ?_
  refine g_iconst (v := 1) C dX4_countingAt_8 rfl ?_
  refine g_iadd C dX4_countingAt_9 ?_
  obtain ⟨y4, e5, h⟩ := of_obb h
  refine g_callV (As := [.int (x2 + (1 : Int32))]) C (ct_X0_kindAt C.wf e5) g1 lk_RX4_126 mi_X0_kindAt (by decide) (cs_i (cs_r cs_0)) (by decide) dX4_countingAt_10 rfl ?_
  show Go w f 13 [some (rv w r0), some (rv w r1), some (.int x2)] [.int y4, .int y2, rv w r0] M
  obtain ⟨g6, h⟩ := of_gdd h
  obtain ⟨y7, e8, h⟩ := of_obb h
  refine g_callV (As := [.int y2, .int y4]) C (ct_X4_countingAbout C.wf e8) g6 lk_RX4_129 mi_X4_countingAbout (by decide) cs_0 (by decide) dX4_countingAt_13 rfl ?_
  show Go w f 16 [some (rv w r0), some (rv w r1), some (.int x2)] [.int y7] M
  cases h
  exact hR 16 _ ⟨.int, rfl, rfl⟩ dX4_countingAt_16
def f_X2_fineFor (r0 : Nat) (x1 : Int32) (M : Mem) : Option Int32 := gdd (kd r0 = 3) <| if (gI M r0 2) = x1 then (some (0 : Int32)) else (some (gI M r0 3))
set_option maxRecDepth 100000 in
set_option maxHeartbeats 4000000 in
theorem ct_X2_fineFor {l : Launch} {w : Om} (hw : Wf w) {r0 : Nat} {x1 : Int32}  {M : Mem} {r : Int32} (h : f_X2_fineFor r0 x1 M = some r) : Ct l w yX2_fineFor cX2_fineFor 2 (some .int) 0 [rv w r0, .int x1] M (some (.int r)) M := by
  refine ct_of hw (by decide) (cat_s (rv_cat _ _) (cat_s rfl cat_0)) (Nat.le_of_ble_eq_true rfl) (fun f _ C hR => ?_)
  show Go w f 0 [some (rv w r0), some (.int x1)] [] M
  unfold f_X2_fineFor at h
  refine g_aload_n C dX2_fineFor_0 rfl rfl ?_
  obtain ⟨g1, h⟩ := of_gdd h
  refine gf_2_2 C fl_RX2_16 g1 dX2_fineFor_1 ?_
  refine g_iload_n C dX2_fineFor_4 rfl rfl ?_
  refine g_icmp_ne 12 C dX2_fineFor_5 (by decide) (fun c2 => ?_) (fun c2 => ?_)
  · replace h := of_iff h c2
    refine g_aload_n C dX2_fineFor_12 rfl rfl ?_
    refine gf_2_3 C fl_RX2_20 g1 dX2_fineFor_13 ?_
    cases h
    exact hR 16 _ ⟨.int, rfl, rfl⟩ dX2_fineFor_16
  · replace h := of_ift h c2
    refine g_iconst (v := 0) C dX2_fineFor_8 rfl ?_
    refine g_goto 16 C dX2_fineFor_9 (by decide) ?_
    cases h
    exact hR 16 _ ⟨.int, rfl, rfl⟩ dX2_fineFor_16
def f_X3_read_70 : Nat → Nat → Nat → Nat → Int32 → Mem → Option Mem
  | 0, _, _, _, _, _ => none
  | n + 1, r0, r1, r2, x3, M => gdd (kd r0 = 4) <| if ((gI M r0 4) - (1 : Int32)) ≤ x3 then (some M) else (gdd (kd r1 = 5) <| obb (f_X4_countingAt r1 r2 x3 M) fun y304 => obb (f_X4_rulingAt r1 y304 M) fun y306 => if y306 = 0 then (obb (f_X5_put (fld r0 1) x3 (0 : Int32) M) fun M320 => if y306 = 0 then (obb (f_X5_put (fld r0 2) x3 (0 : Int32) M320) fun M330 => bvv (x3 + (1 : Int32)) fun y332 => (f_X3_read_70 n) r0 r1 r2 y332 M330) else (gdd (kd y306 = 3) <| obb (f_X2_fineFor y306 (0 : Int32) M320) fun y324 => obb (f_X5_put (fld r0 2) x3 y324 M320) fun M326 => bvv (x3 + (1 : Int32)) fun y328 => (f_X3_read_70 n) r0 r1 r2 y328 M326)) else (gdd (kd y306 = 3) <| obb (f_X2_fineFor y306 (1 : Int32) M) fun y310 => obb (f_X5_put (fld r0 1) x3 y310 M) fun M312 => obb (f_X2_fineFor y306 (0 : Int32) M312) fun y314 => obb (f_X5_put (fld r0 2) x3 y314 M312) fun M316 => bvv (x3 + (1 : Int32)) fun y318 => (f_X3_read_70 n) r0 r1 r2 y318 M316))
set_option maxRecDepth 100000 in
set_option maxHeartbeats 4000000 in
theorem t_X3_read_70 {w : Om} {f : Fr} {M2 : Mem} (C : Cx w f RX3 cX3_read 5 3) (hR : Rt w f cX3_read none none M2)   : ∀ (n : Nat) (r0 : Nat) (r1 : Nat) (r2 : Nat) (x3 : Int32) (M : Mem), f_X3_read_70 n r0 r1 r2 x3 M = some M2 → Go w f 70 [some (rv w r0), some (rv w r1), some (rv w r2), some (.int x3), none] [] M := by
  intro n
  induction n with
  | zero =>
    intro r0 r1 r2 x3 M h
    cases h
  | succ n ih =>
    intro r0 r1 r2 x3 M h
    rw [f_X3_read_70] at h
    refine g_iload_n C dX3_read_70 rfl rfl ?_
    refine g_aload_n C dX3_read_71 rfl rfl ?_
    obtain ⟨g301, h⟩ := of_gdd h
    refine gf_3_4 C fl_RX3_30 g301 dX3_read_72 ?_
    refine g_iconst (v := 1) C dX3_read_75 rfl ?_
    refine g_isub C dX3_read_76 ?_
    refine g_icmp_ge 144 C dX3_read_77 (by decide) (fun c302 => ?_) (fun c302 => ?_)
    · replace h := of_ift h c302
      cases h
      exact hR 144 _ rfl dX3_read_144
    · replace h := of_iff h c302
      refine g_aload_n C dX3_read_80 rfl rfl ?_
      refine g_aload_n C dX3_read_81 rfl rfl ?_
      refine g_aload_n C dX3_read_82 rfl rfl ?_
      refine g_iload_n C dX3_read_83 rfl rfl ?_
      obtain ⟨g303, h⟩ := of_gdd h
      obtain ⟨y304, e305, h⟩ := of_obb h
      refine g_callV (As := [rv w r2, .int x3]) C (ct_X4_countingAt C.wf e305) g303 lk_RX3_55 mi_X4_countingAt (by decide) (cs_r cs_0) (by decide) dX3_read_84 rfl ?_
      show Go w f 87 [some (rv w r0), some (rv w r1), some (rv w r2), some (.int x3), none] [.int y304, rv w r1] M
      obtain ⟨y306, e307, h⟩ := of_obb h
      refine g_callV (As := [.int y304]) C (ct_X4_rulingAt C.wf e307) g303 lk_RX3_59 mi_X4_rulingAt (by decide) cs_0 (by decide) dX3_read_87 rfl ?_
      show Go w f 90 [some (rv w r0), some (rv w r1), some (rv w r2), some (.int x3), none] [rv w y306] M
      refine g_astore C dX3_read_90 (by decide) rfl (L2 := [some (rv w r0), some (rv w r1), some (rv w r2), some (.int x3), some (rv w y306)]) rfl ?_
      refine g_aload_n C dX3_read_92 rfl rfl ?_
      refine gf_3_1 C fl_RX3_15 g301 dX3_read_93 ?_
      refine g_iload_n C dX3_read_96 rfl rfl ?_
      refine g_aload C dX3_read_97 rfl ?_
      refine g_ifnonnull 106 C dX3_read_99 (by decide) (fun c308 => ?_) (fun c308 => ?_)
      · replace h := of_iff h c308
        refine g_aload C dX3_read_106 rfl ?_
        refine g_iconst (v := 1) C dX3_read_108 rfl ?_
        obtain ⟨g309, h⟩ := of_gdd h
        obtain ⟨y310, e311, h⟩ := of_obb h
        refine g_callV (As := [.int (1 : Int32)]) C (ct_X2_fineFor C.wf e311) g309 lk_RX3_63 mi_X2_fineFor (by decide) (cs_i (cs_r cs_0)) (by decide) dX3_read_109 rfl ?_
        show Go w f 112 [some (rv w r0), some (rv w r1), some (rv w r2), some (.int x3), some (rv w y306)] [.int y310, .int x3, rv w (fld r0 1)] M
        obtain ⟨M312, e313, h⟩ := of_obb h
        refine g_callSN (As := [rv w (fld r0 1), .int x3, .int y310]) C (ct_X5_put C.wf e313) ln_RX3_51 mi_X5_put (by decide) cs_0 (by decide) dX3_read_112 rfl ?_
        show Go w f 115 [some (rv w r0), some (rv w r1), some (rv w r2), some (.int x3), some (rv w y306)] [] M312
        refine g_aload_n C dX3_read_115 rfl rfl ?_
        refine gf_3_2 C fl_RX3_18 g301 dX3_read_116 ?_
        refine g_iload_n C dX3_read_119 rfl rfl ?_
        refine g_aload C dX3_read_120 rfl ?_
        refine g_ifnonnull 129 C dX3_read_122 (by decide) (fun _ => ?_) (fun c => absurd c (kd_ne0 g309 (by decide)))
        refine g_aload C dX3_read_129 rfl ?_
        refine g_iconst (v := 0) C dX3_read_131 rfl ?_
        obtain ⟨y314, e315, h⟩ := of_obb h
        refine g_callV (As := [.int (0 : Int32)]) C (ct_X2_fineFor C.wf e315) g309 lk_RX3_63 mi_X2_fineFor (by decide) (cs_i (cs_r cs_0)) (by decide) dX3_read_132 rfl ?_
        show Go w f 135 [some (rv w r0), some (rv w r1), some (rv w r2), some (.int x3), some (rv w y306)] [.int y314, .int x3, rv w (fld r0 2)] M312
        obtain ⟨M316, e317, h⟩ := of_obb h
        refine g_callSN (As := [rv w (fld r0 2), .int x3, .int y314]) C (ct_X5_put C.wf e317) ln_RX3_51 mi_X5_put (by decide) cs_0 (by decide) dX3_read_135 rfl ?_
        show Go w f 138 [some (rv w r0), some (rv w r1), some (rv w r2), some (.int x3), some (rv w y306)] [] M316
        obtain ⟨y318, e319, h⟩ := of_bvv h
        refine g_iinc (v := y318) C dX3_read_138 rfl e319.symm (by decide) (rv_cat _ _) (L2 := [some (rv w r0), some (rv w r1), some (rv w r2), some (.int y318), some (rv w y306)]) rfl ?_
        refine g_goto 70 C dX3_read_141 (by decide) ?_
        refine g_mask (bs := [true, true, true, true, false]) (L2 := [some (rv w r0), some (rv w r1), some (rv w r2), some (.int y318), none]) rfl ?_
        exact ih r0 r1 r2 y318 M316 h
      · replace h := of_ift h c308
        refine g_iconst (v := 0) C dX3_read_102 rfl ?_
        refine g_goto 112 C dX3_read_103 (by decide) ?_
        obtain ⟨M320, e321, h⟩ := of_obb h
        refine g_callSN (As := [rv w (fld r0 1), .int x3, .int (0 : Int32)]) C (ct_X5_put C.wf e321) ln_RX3_51 mi_X5_put (by decide) cs_0 (by decide) dX3_read_112 rfl ?_
        show Go w f 115 [some (rv w r0), some (rv w r1), some (rv w r2), some (.int x3), some (rv w y306)] [] M320
        refine g_aload_n C dX3_read_115 rfl rfl ?_
        refine gf_3_2 C fl_RX3_18 g301 dX3_read_116 ?_
        refine g_iload_n C dX3_read_119 rfl rfl ?_
        refine g_aload C dX3_read_120 rfl ?_
        refine g_ifnonnull 129 C dX3_read_122 (by decide) (fun c322 => ?_) (fun c322 => ?_)
        · replace h := of_iff h c322
          refine g_aload C dX3_read_129 rfl ?_
          refine g_iconst (v := 0) C dX3_read_131 rfl ?_
          obtain ⟨g323, h⟩ := of_gdd h
          obtain ⟨y324, e325, h⟩ := of_obb h
          refine g_callV (As := [.int (0 : Int32)]) C (ct_X2_fineFor C.wf e325) g323 lk_RX3_63 mi_X2_fineFor (by decide) (cs_i (cs_r cs_0)) (by decide) dX3_read_132 rfl ?_
          show Go w f 135 [some (rv w r0), some (rv w r1), some (rv w r2), some (.int x3), some (rv w y306)] [.int y324, .int x3, rv w (fld r0 2)] M320
          obtain ⟨M326, e327, h⟩ := of_obb h
          refine g_callSN (As := [rv w (fld r0 2), .int x3, .int y324]) C (ct_X5_put C.wf e327) ln_RX3_51 mi_X5_put (by decide) cs_0 (by decide) dX3_read_135 rfl ?_
          show Go w f 138 [some (rv w r0), some (rv w r1), some (rv w r2), some (.int x3), some (rv w y306)] [] M326
          obtain ⟨y328, e329, h⟩ := of_bvv h
          refine g_iinc (v := y328) C dX3_read_138 rfl e329.symm (by decide) (rv_cat _ _) (L2 := [some (rv w r0), some (rv w r1), some (rv w r2), some (.int y328), some (rv w y306)]) rfl ?_
          refine g_goto 70 C dX3_read_141 (by decide) ?_
          refine g_mask (bs := [true, true, true, true, false]) (L2 := [some (rv w r0), some (rv w r1), some (rv w r2), some (.int y328), none]) rfl ?_
          exact ih r0 r1 r2 y328 M326 h
        · replace h := of_ift h c322
          refine g_iconst (v := 0) C dX3_read_125 rfl ?_
          refine g_goto 135 C dX3_read_126 (by decide) ?_
          obtain ⟨M330, e331, h⟩ := of_obb h
          refine g_callSN (As := [rv w (fld r0 2), .int x3, .int (0 : Int32)]) C (ct_X5_put C.wf e331) ln_RX3_51 mi_X5_put (by decide) cs_0 (by decide) dX3_read_135 rfl ?_
          show Go w f 138 [some (rv w r0), some (rv w r1), some (rv w r2), some (.int x3), some (rv w y306)] [] M330
          obtain ⟨y332, e333, h⟩ := of_bvv h
          refine g_iinc (v := y332) C dX3_read_138 rfl e333.symm (by decide) (rv_cat _ _) (L2 := [some (rv w r0), some (rv w r1), some (rv w r2), some (.int y332), some (rv w y306)]) rfl ?_
          refine g_goto 70 C dX3_read_141 (by decide) ?_
          refine g_mask (bs := [true, true, true, true, false]) (L2 := [some (rv w r0), some (rv w r1), some (rv w r2), some (.int y332), none]) rfl ?_
          exact ih r0 r1 r2 y332 M330 h
def f_X3_read_34 : Nat → Nat → Nat → Nat → Int32 → Mem → Option Mem
  | 0, _, _, _, _, _ => none
  | n + 1, r0, r1, r2, x3, M => gdd (kd r0 = 4) <| if (gI M r0 4) ≤ x3 then (f_X3_read_70 FU r0 r1 r2 (0 : Int32) M) else (gdd (kd r1 = 5) <| gdd (kd r2 = 1) <| obb (f_X0_kindAt r2 x3 M) fun y205 => obb (f_X5_at (fld r1 0) y205 M) fun y207 => obb (f_X5_put (fld r0 0) x3 y207 M) fun M209 => bvv (x3 + (1 : Int32)) fun y211 => (f_X3_read_34 n) r0 r1 r2 y211 M209)
set_option maxRecDepth 100000 in
set_option maxHeartbeats 4000000 in
theorem t_X3_read_34 {w : Om} {f : Fr} {M2 : Mem} (C : Cx w f RX3 cX3_read 5 3) (hR : Rt w f cX3_read none none M2)   : ∀ (n : Nat) (r0 : Nat) (r1 : Nat) (r2 : Nat) (x3 : Int32) (M : Mem), f_X3_read_34 n r0 r1 r2 x3 M = some M2 → Go w f 34 [some (rv w r0), some (rv w r1), some (rv w r2), some (.int x3), none] [] M := by
  intro n
  induction n with
  | zero =>
    intro r0 r1 r2 x3 M h
    cases h
  | succ n ih =>
    intro r0 r1 r2 x3 M h
    rw [f_X3_read_34] at h
    refine g_iload_n C dX3_read_34 rfl rfl ?_
    refine g_aload_n C dX3_read_35 rfl rfl ?_
    obtain ⟨g201, h⟩ := of_gdd h
    refine gf_3_4 C fl_RX3_30 g201 dX3_read_36 ?_
    refine g_icmp_ge 68 C dX3_read_39 (by decide) (fun c202 => ?_) (fun c202 => ?_)
    · replace h := of_ift h c202
      refine g_iconst (v := 0) C dX3_read_68 rfl ?_
      refine g_istore_n C dX3_read_69 rfl (by decide) (rv_cat _ _) (L2 := [some (rv w r0), some (rv w r1), some (rv w r2), some (.int (0 : Int32)), none]) rfl ?_
      exact t_X3_read_70 C hR _ r0 r1 r2 (0 : Int32) M h
    · replace h := of_iff h c202
      refine g_aload_n C dX3_read_42 rfl rfl ?_
      refine gf_3_0 C fl_RX3_9 g201 dX3_read_43 ?_
      refine g_iload_n C dX3_read_46 rfl rfl ?_
      refine g_aload_n C dX3_read_47 rfl rfl ?_
      obtain ⟨g203, h⟩ := of_gdd h
      refine gf_4_0 C fl_RX3_46 g203 dX3_read_48 ?_
      refine g_aload_n C dX3_read_51 rfl rfl ?_
      refine g_iload_n C dX3_read_52 rfl rfl ?_
      obtain ⟨g204, h⟩ := of_gdd h
      obtain ⟨y205, e206, h⟩ := of_obb h
      refine g_callV (As := [.int x3]) C (ct_X0_kindAt C.wf e206) g204 lk_RX3_47 mi_X0_kindAt (by decide) (cs_r (cs_i (cs_r cs_0))) (by decide) dX3_read_53 rfl ?_
      show Go w f 56 [some (rv w r0), some (rv w r1), some (rv w r2), some (.int x3), none] [.int y205, rv w (fld r1 0), .int x3, rv w (fld r0 0)] M
      obtain ⟨y207, e208, h⟩ := of_obb h
      refine g_callSN (As := [rv w (fld r1 0), .int y205]) C (ct_X5_at C.wf e208) ln_RX3_36 mi_X5_at (by decide) (cs_i (cs_r cs_0)) (by decide) dX3_read_56 rfl ?_
      show Go w f 59 [some (rv w r0), some (rv w r1), some (rv w r2), some (.int x3), none] [.int y207, .int x3, rv w (fld r0 0)] M
      obtain ⟨M209, e210, h⟩ := of_obb h
      refine g_callSN (As := [rv w (fld r0 0), .int x3, .int y207]) C (ct_X5_put C.wf e210) ln_RX3_51 mi_X5_put (by decide) cs_0 (by decide) dX3_read_59 rfl ?_
      show Go w f 62 [some (rv w r0), some (rv w r1), some (rv w r2), some (.int x3), none] [] M209
      obtain ⟨y211, e212, h⟩ := of_bvv h
      refine g_iinc (v := y211) C dX3_read_62 rfl e212.symm (by decide) (rv_cat _ _) (L2 := [some (rv w r0), some (rv w r1), some (rv w r2), some (.int y211), none]) rfl ?_
      refine g_goto 34 C dX3_read_65 (by decide) ?_
      exact ih r0 r1 r2 y211 M209 h
def f_X3_read (r0 : Nat) (r1 : Nat) (r2 : Nat) (M : Mem) : Option Mem := gdd (kd r2 = 1) <| gdd (kd r0 = 4) <| bvv (sI M r0 4 (gI M r2 1)) fun M3 => gdd (kd r1 = 5) <| obb (f_X5_at (fld r1 1) (0 : Int32) M3) fun y6 => bvv (sI M3 r0 6 y6) fun M8 => obb (f_X5_at (fld r1 1) (1 : Int32) M8) fun y10 => bvv (sI M8 r0 5 y10) fun M12 => f_X3_read_34 FU r0 r1 r2 (0 : Int32) M12
set_option maxRecDepth 100000 in
set_option maxHeartbeats 4000000 in
theorem ct_X3_read {l : Launch} {w : Om} (hw : Wf w) {r0 : Nat} {r1 : Nat} {r2 : Nat} {M : Mem} {M2 : Mem} (h : f_X3_read r0 r1 r2 M = some M2) : Ct l w yX3_read cX3_read 5 none 3 [rv w r0, rv w r1, rv w r2] M none M2 := by
  refine ct_of hw (by decide) (cat_s (rv_cat _ _) (cat_s (rv_cat _ _) (cat_s (rv_cat _ _) cat_0))) (Nat.le_of_ble_eq_true rfl) (fun f _ C hR => ?_)
  show Go w f 0 [some (rv w r0), some (rv w r1), some (rv w r2), none, none] [] M
  unfold f_X3_read at h
  refine g_aload_n C dX3_read_0 rfl rfl ?_
  refine g_aload_n C dX3_read_1 rfl rfl ?_
  obtain ⟨g1, h⟩ := of_gdd h
  refine gf_0_1 C fl_RX3_24 g1 dX3_read_2 ?_
  obtain ⟨g2, h⟩ := of_gdd h
  refine pf_3_4 C fl_RX3_30 g2 dX3_read_5 ?_
  obtain ⟨M3, e4, h⟩ := of_bvv h
  refine g_mem e4 ?_
  refine g_aload_n C dX3_read_8 rfl rfl ?_
  refine g_aload_n C dX3_read_9 rfl rfl ?_
  obtain ⟨g5, h⟩ := of_gdd h
  refine gf_4_1 C fl_RX3_31 g5 dX3_read_10 ?_
  refine g_iconst (v := 0) C dX3_read_13 rfl ?_
  obtain ⟨y6, e7, h⟩ := of_obb h
  refine g_callSN (As := [rv w (fld r1 1), .int (0 : Int32)]) C (ct_X5_at C.wf e7) ln_RX3_36 mi_X5_at (by decide) (cs_r cs_0) (by decide) dX3_read_14 rfl ?_
  show Go w f 17 [some (rv w r0), some (rv w r1), some (rv w r2), none, none] [.int y6, rv w r0] M3
  refine pf_3_6 C fl_RX3_40 g2 dX3_read_17 ?_
  obtain ⟨M8, e9, h⟩ := of_bvv h
  refine g_mem e9 ?_
  refine g_aload_n C dX3_read_20 rfl rfl ?_
  refine g_aload_n C dX3_read_21 rfl rfl ?_
  refine gf_4_1 C fl_RX3_31 g5 dX3_read_22 ?_
  refine g_iconst (v := 1) C dX3_read_25 rfl ?_
  obtain ⟨y10, e11, h⟩ := of_obb h
  refine g_callSN (As := [rv w (fld r1 1), .int (1 : Int32)]) C (ct_X5_at C.wf e11) ln_RX3_36 mi_X5_at (by decide) (cs_r cs_0) (by decide) dX3_read_26 rfl ?_
  show Go w f 29 [some (rv w r0), some (rv w r1), some (rv w r2), none, none] [.int y10, rv w r0] M8
  refine pf_3_5 C fl_RX3_43 g2 dX3_read_29 ?_
  obtain ⟨M12, e13, h⟩ := of_bvv h
  refine g_mem e13 ?_
  refine g_iconst (v := 0) C dX3_read_32 rfl ?_
  refine g_istore_n C dX3_read_33 rfl (by decide) (rv_cat _ _) (L2 := [some (rv w r0), some (rv w r1), some (rv w r2), some (.int (0 : Int32)), none]) rfl ?_
  exact t_X3_read_34 C hR _ r0 r1 r2 (0 : Int32) M12 h
def f_X4_isStayed (r0 : Nat) (r1 : Nat) (M : Mem) : Option Int32 := gdd (kd r0 = 5) <| gdd (kd r1 = 1) <| if (gI M r1 3) ≤ (gI M r0 6) then (some (0 : Int32)) else (some (1 : Int32))
set_option maxRecDepth 100000 in
set_option maxHeartbeats 4000000 in
theorem ct_X4_isStayed {l : Launch} {w : Om} (hw : Wf w) {r0 : Nat} {r1 : Nat}  {M : Mem} {r : Int32} (h : f_X4_isStayed r0 r1 M = some r) : Ct l w yX4_isStayed cX4_isStayed 2 (some .boolean) 0 [rv w r0, rv w r1] M (some (.int r)) M := by
  refine ct_of hw (by decide) (cat_s (rv_cat _ _) (cat_s (rv_cat _ _) cat_0)) (Nat.le_of_ble_eq_true rfl) (fun f _ C hR => ?_)
  show Go w f 0 [some (rv w r0), some (rv w r1)] [] M
  unfold f_X4_isStayed at h
  refine g_aload_n C dX4_isStayed_0 rfl rfl ?_
  obtain ⟨g1, h⟩ := of_gdd h
  refine gf_4_6 C fl_RX4_63 g1 dX4_isStayed_1 ?_
  refine g_aload_n C dX4_isStayed_4 rfl rfl ?_
  obtain ⟨g2, h⟩ := of_gdd h
  refine gf_0_3 C fl_RX4_82 g2 dX4_isStayed_5 ?_
  refine g_icmp_ge 15 C dX4_isStayed_8 (by decide) (fun c3 => ?_) (fun c3 => ?_)
  · replace h := of_ift h c3
    refine g_iconst (v := 0) C dX4_isStayed_15 rfl ?_
    cases h
    exact hR 16 _ ⟨.boolean, rfl, rfl⟩ dX4_isStayed_16
  · replace h := of_iff h c3
    refine g_iconst (v := 1) C dX4_isStayed_11 rfl ?_
    refine g_goto 16 C dX4_isStayed_12 (by decide) ?_
    cases h
    exact hR 16 _ ⟨.boolean, rfl, rfl⟩ dX4_isStayed_16
def f_X0_movedCommas (r0 : Nat) (x1 : Int32) (M : Mem) : Option Int32 := gdd (kd r0 = 1) <| some ((gI M r0 2) ^^^ ((1 : Int32) <<< (x1 &&& 31)))
set_option maxRecDepth 100000 in
set_option maxHeartbeats 4000000 in
theorem ct_X0_movedCommas {l : Launch} {w : Om} (hw : Wf w) {r0 : Nat} {x1 : Int32}  {M : Mem} {r : Int32} (h : f_X0_movedCommas r0 x1 M = some r) : Ct l w yX0_movedCommas cX0_movedCommas 2 (some .int) 0 [rv w r0, .int x1] M (some (.int r)) M := by
  refine ct_of hw (by decide) (cat_s (rv_cat _ _) (cat_s rfl cat_0)) (Nat.le_of_ble_eq_true rfl) (fun f _ C hR => ?_)
  show Go w f 0 [some (rv w r0), some (.int x1)] [] M
  unfold f_X0_movedCommas at h
  refine g_aload_n C dX0_movedCommas_0 rfl rfl ?_
  obtain ⟨g1, h⟩ := of_gdd h
  refine gf_0_2 C fl_RX0_27 g1 dX0_movedCommas_1 ?_
  refine g_iconst (v := 1) C dX0_movedCommas_4 rfl ?_
  refine g_iload_n C dX0_movedCommas_5 rfl rfl ?_
  refine g_ishl C dX0_movedCommas_6 ?_
  refine g_ixor C dX0_movedCommas_7 ?_
  cases h
  exact hR 8 _ ⟨.int, rfl, rfl⟩ dX0_movedCommas_8
def f_X3_clauseCost (r0 : Nat) (x1 : Int32) (M : Mem) : Option Int32 := gdd (kd r0 = 4) <| some (if 0 ≤ (x1 - (gI M r0 6)) then (x1 - (gI M r0 6)) else 0 - (x1 - (gI M r0 6)))
set_option maxRecDepth 100000 in
set_option maxHeartbeats 4000000 in
theorem ct_X3_clauseCost {l : Launch} {w : Om} (hw : Wf w) {r0 : Nat} {x1 : Int32}  {M : Mem} {r : Int32} (h : f_X3_clauseCost r0 x1 M = some r) : Ct l w yX3_clauseCost cX3_clauseCost 2 (some .int) 1 [rv w r0, .int x1] M (some (.int r)) M := by
  refine ct_of hw (by decide) (cat_s (rv_cat _ _) (cat_s rfl cat_0)) (Nat.le_of_ble_eq_true rfl) (fun f _ C hR => ?_)
  show Go w f 0 [some (rv w r0), some (.int x1)] [] M
  unfold f_X3_clauseCost at h
  refine g_iload_n C dX3_clauseCost_0 rfl rfl ?_
  refine g_aload_n C dX3_clauseCost_1 rfl rfl ?_
  obtain ⟨g1, h⟩ := of_gdd h
  refine gf_3_6 C fl_RX3_40 g1 dX3_clauseCost_2 ?_
  refine g_isub C dX3_clauseCost_5 ?_
  refine g_mabs C lk_RX3_69 cs_0 (by decide) dX3_clauseCost_6 ?_
  cases h
  exact hR 9 _ ⟨.int, rfl, rfl⟩ dX3_clauseCost_9
def f_X3_clausesCost_7 (M : Mem) : Nat → Nat → Int32 → Int32 → Int32 → Int32 → Option Int32
  | 0, _, _, _, _, _ => none
  | n + 1, r0, x1, x2, x3, x4 => gdd (kd r0 = 4) <| if (gI M r0 4) ≤ x4 then (some x2) else (obb (f_X5_at (fld r0 0) x4 M) fun y203 => bvv (x3 + y203) fun y205 => if x4 = ((gI M r0 4) - (1 : Int32)) then (obb (f_X3_clauseCost r0 y205 M) fun y208 => bvv (x2 + y208) fun y210 => bvv (x4 + (1 : Int32)) fun y212 => (f_X3_clausesCost_7 M n) r0 x1 y210 (0 : Int32) y212) else (if ((x1 >>> (x4 &&& 31)) &&& (1 : Int32)) = (1 : Int32) then (obb (f_X3_clauseCost r0 y205 M) fun y217 => bvv (x2 + y217) fun y219 => bvv (x4 + (1 : Int32)) fun y221 => (f_X3_clausesCost_7 M n) r0 x1 y219 (0 : Int32) y221) else (bvv (x4 + (1 : Int32)) fun y215 => (f_X3_clausesCost_7 M n) r0 x1 x2 y205 y215)))
set_option maxRecDepth 100000 in
set_option maxHeartbeats 4000000 in
theorem t_X3_clausesCost_7 {w : Om} {f : Fr} {M : Mem} {r : Int32} (C : Cx w f RX3 cX3_clausesCost 5 2) (hR : Rt w f cX3_clausesCost (some .int) (some (.int r)) M)   : ∀ (n : Nat) (r0 : Nat) (x1 : Int32) (x2 : Int32) (x3 : Int32) (x4 : Int32), f_X3_clausesCost_7 M n r0 x1 x2 x3 x4 = some r → Go w f 7 [some (rv w r0), some (.int x1), some (.int x2), some (.int x3), some (.int x4)] [] M := by
  intro n
  induction n with
  | zero =>
    intro r0 x1 x2 x3 x4 h
    cases h
  | succ n ih =>
    intro r0 x1 x2 x3 x4 h
    rw [f_X3_clausesCost_7] at h
    refine g_iload C dX3_clausesCost_7 rfl ?_
    refine g_aload_n C dX3_clausesCost_9 rfl rfl ?_
    obtain ⟨g201, h⟩ := of_gdd h
    refine gf_3_4 C fl_RX3_30 g201 dX3_clausesCost_10 ?_
    refine g_icmp_ge 65 C dX3_clausesCost_13 (by decide) (fun c202 => ?_) (fun c202 => ?_)
    · replace h := of_ift h c202
      refine g_iload_n C dX3_clausesCost_65 rfl rfl ?_
      cases h
      exact hR 66 _ ⟨.int, rfl, rfl⟩ dX3_clausesCost_66
    · replace h := of_iff h c202
      refine g_iload_n C dX3_clausesCost_16 rfl rfl ?_
      refine g_aload_n C dX3_clausesCost_17 rfl rfl ?_
      refine gf_3_0 C fl_RX3_9 g201 dX3_clausesCost_18 ?_
      refine g_iload C dX3_clausesCost_21 rfl ?_
      obtain ⟨y203, e204, h⟩ := of_obb h
      refine g_callSN (As := [rv w (fld r0 0), .int x4]) C (ct_X5_at C.wf e204) ln_RX3_36 mi_X5_at (by decide) (cs_i cs_0) (by decide) dX3_clausesCost_23 rfl ?_
      show Go w f 26 [some (rv w r0), some (.int x1), some (.int x2), some (.int x3), some (.int x4)] [.int y203, .int x3] M
      refine g_iadd C dX3_clausesCost_26 ?_
      obtain ⟨y205, e206, h⟩ := of_bvv h
      refine g_topi e206 ?_
      refine g_istore_n C dX3_clausesCost_27 rfl (by decide) rfl (L2 := [some (rv w r0), some (.int x1), some (.int x2), some (.int y205), some (.int x4)]) rfl ?_
      refine g_iload C dX3_clausesCost_28 rfl ?_
      refine g_aload_n C dX3_clausesCost_30 rfl rfl ?_
      refine gf_3_4 C fl_RX3_30 g201 dX3_clausesCost_31 ?_
      refine g_iconst (v := 1) C dX3_clausesCost_34 rfl ?_
      refine g_isub C dX3_clausesCost_35 ?_
      refine g_icmp_eq 49 C dX3_clausesCost_36 (by decide) (fun c207 => ?_) (fun c207 => ?_)
      · replace h := of_ift h c207
        refine g_iload_n C dX3_clausesCost_49 rfl rfl ?_
        refine g_aload_n C dX3_clausesCost_50 rfl rfl ?_
        refine g_iload_n C dX3_clausesCost_51 rfl rfl ?_
        obtain ⟨y208, e209, h⟩ := of_obb h
        refine g_callV (As := [.int y205]) C (ct_X3_clauseCost C.wf e209) g201 lk_RX3_74 mi_X3_clauseCost (by decide) (cs_i cs_0) (by decide) dX3_clausesCost_52 rfl ?_
        show Go w f 55 [some (rv w r0), some (.int x1), some (.int x2), some (.int y205), some (.int x4)] [.int y208, .int x2] M
        refine g_iadd C dX3_clausesCost_55 ?_
        obtain ⟨y210, e211, h⟩ := of_bvv h
        refine g_topi e211 ?_
        refine g_istore_n C dX3_clausesCost_56 rfl (by decide) rfl (L2 := [some (rv w r0), some (.int x1), some (.int y210), some (.int y205), some (.int x4)]) rfl ?_
        refine g_iconst (v := 0) C dX3_clausesCost_57 rfl ?_
        refine g_istore_n C dX3_clausesCost_58 rfl (by decide) rfl (L2 := [some (rv w r0), some (.int x1), some (.int y210), some (.int (0 : Int32)), some (.int x4)]) rfl ?_
        obtain ⟨y212, e213, h⟩ := of_bvv h
        refine g_iinc (v := y212) C dX3_clausesCost_59 rfl e213.symm (by decide) rfl (L2 := [some (rv w r0), some (.int x1), some (.int y210), some (.int (0 : Int32)), some (.int y212)]) rfl ?_
        refine g_goto 7 C dX3_clausesCost_62 (by decide) ?_
        exact ih r0 x1 y210 (0 : Int32) y212 h
      · replace h := of_iff h c207
        refine g_iload_n C dX3_clausesCost_39 rfl rfl ?_
        refine g_iload C dX3_clausesCost_40 rfl ?_
        refine g_ishr C dX3_clausesCost_42 ?_
        refine g_iconst (v := 1) C dX3_clausesCost_43 rfl ?_
        refine g_iand C dX3_clausesCost_44 ?_
        refine g_iconst (v := 1) C dX3_clausesCost_45 rfl ?_
        refine g_icmp_ne 59 C dX3_clausesCost_46 (by decide) (fun c214 => ?_) (fun c214 => ?_)
        · replace h := of_iff h c214
          obtain ⟨y215, e216, h⟩ := of_bvv h
          refine g_iinc (v := y215) C dX3_clausesCost_59 rfl e216.symm (by decide) rfl (L2 := [some (rv w r0), some (.int x1), some (.int x2), some (.int y205), some (.int y215)]) rfl ?_
          refine g_goto 7 C dX3_clausesCost_62 (by decide) ?_
          exact ih r0 x1 x2 y205 y215 h
        · replace h := of_ift h c214
          refine g_iload_n C dX3_clausesCost_49 rfl rfl ?_
          refine g_aload_n C dX3_clausesCost_50 rfl rfl ?_
          refine g_iload_n C dX3_clausesCost_51 rfl rfl ?_
          obtain ⟨y217, e218, h⟩ := of_obb h
          refine g_callV (As := [.int y205]) C (ct_X3_clauseCost C.wf e218) g201 lk_RX3_74 mi_X3_clauseCost (by decide) (cs_i cs_0) (by decide) dX3_clausesCost_52 rfl ?_
          show Go w f 55 [some (rv w r0), some (.int x1), some (.int x2), some (.int y205), some (.int x4)] [.int y217, .int x2] M
          refine g_iadd C dX3_clausesCost_55 ?_
          obtain ⟨y219, e220, h⟩ := of_bvv h
          refine g_topi e220 ?_
          refine g_istore_n C dX3_clausesCost_56 rfl (by decide) rfl (L2 := [some (rv w r0), some (.int x1), some (.int y219), some (.int y205), some (.int x4)]) rfl ?_
          refine g_iconst (v := 0) C dX3_clausesCost_57 rfl ?_
          refine g_istore_n C dX3_clausesCost_58 rfl (by decide) rfl (L2 := [some (rv w r0), some (.int x1), some (.int y219), some (.int (0 : Int32)), some (.int x4)]) rfl ?_
          obtain ⟨y221, e222, h⟩ := of_bvv h
          refine g_iinc (v := y221) C dX3_clausesCost_59 rfl e222.symm (by decide) rfl (L2 := [some (rv w r0), some (.int x1), some (.int y219), some (.int (0 : Int32)), some (.int y221)]) rfl ?_
          refine g_goto 7 C dX3_clausesCost_62 (by decide) ?_
          exact ih r0 x1 y219 (0 : Int32) y221 h
def f_X3_clausesCost (r0 : Nat) (x1 : Int32) (M : Mem) : Option Int32 := f_X3_clausesCost_7 M FU r0 x1 (0 : Int32) (0 : Int32) (0 : Int32)
set_option maxRecDepth 100000 in
set_option maxHeartbeats 4000000 in
theorem ct_X3_clausesCost {l : Launch} {w : Om} (hw : Wf w) {r0 : Nat} {x1 : Int32}  {M : Mem} {r : Int32} (h : f_X3_clausesCost r0 x1 M = some r) : Ct l w yX3_clausesCost cX3_clausesCost 5 (some .int) 2 [rv w r0, .int x1] M (some (.int r)) M := by
  refine ct_of hw (by decide) (cat_s (rv_cat _ _) (cat_s rfl cat_0)) (Nat.le_of_ble_eq_true rfl) (fun f _ C hR => ?_)
  show Go w f 0 [some (rv w r0), some (.int x1), none, none, none] [] M
  unfold f_X3_clausesCost at h
  refine g_iconst (v := 0) C dX3_clausesCost_0 rfl ?_
  refine g_istore_n C dX3_clausesCost_1 rfl (by decide) rfl (L2 := [some (rv w r0), some (.int x1), some (.int (0 : Int32)), none, none]) rfl ?_
  refine g_iconst (v := 0) C dX3_clausesCost_2 rfl ?_
  refine g_istore_n C dX3_clausesCost_3 rfl (by decide) rfl (L2 := [some (rv w r0), some (.int x1), some (.int (0 : Int32)), some (.int (0 : Int32)), none]) rfl ?_
  refine g_iconst (v := 0) C dX3_clausesCost_4 rfl ?_
  refine g_istore C dX3_clausesCost_5 (by decide) rfl (L2 := [some (rv w r0), some (.int x1), some (.int (0 : Int32)), some (.int (0 : Int32)), some (.int (0 : Int32))]) rfl ?_
  exact t_X3_clausesCost_7 C hR _ r0 x1 (0 : Int32) (0 : Int32) (0 : Int32) h
def f_X3_fines_4 (M : Mem) : Nat → Nat → Int32 → Int32 → Int32 → Option Int32
  | 0, _, _, _, _ => none
  | n + 1, r0, x1, x2, x3 => gdd (kd r0 = 4) <| if ((gI M r0 4) - (1 : Int32)) ≤ x3 then (some x2) else (if ((x1 >>> (x3 &&& 31)) &&& (1 : Int32)) = (1 : Int32) then (obb (f_X5_at (fld r0 1) x3 M) fun y210 => bvv (x2 + y210) fun y212 => bvv (x3 + (1 : Int32)) fun y214 => (f_X3_fines_4 M n) r0 x1 y212 y214) else (obb (f_X5_at (fld r0 2) x3 M) fun y204 => bvv (x2 + y204) fun y206 => bvv (x3 + (1 : Int32)) fun y208 => (f_X3_fines_4 M n) r0 x1 y206 y208))
set_option maxRecDepth 100000 in
set_option maxHeartbeats 4000000 in
theorem t_X3_fines_4 {w : Om} {f : Fr} {M : Mem} {r : Int32} (C : Cx w f RX3 cX3_fines 4 1) (hR : Rt w f cX3_fines (some .int) (some (.int r)) M)   : ∀ (n : Nat) (r0 : Nat) (x1 : Int32) (x2 : Int32) (x3 : Int32), f_X3_fines_4 M n r0 x1 x2 x3 = some r → Go w f 4 [some (rv w r0), some (.int x1), some (.int x2), some (.int x3)] [] M := by
  intro n
  induction n with
  | zero =>
    intro r0 x1 x2 x3 h
    cases h
  | succ n ih =>
    intro r0 x1 x2 x3 h
    rw [f_X3_fines_4] at h
    refine g_iload_n C dX3_fines_4 rfl rfl ?_
    refine g_aload_n C dX3_fines_5 rfl rfl ?_
    obtain ⟨g201, h⟩ := of_gdd h
    refine gf_3_4 C fl_RX3_30 g201 dX3_fines_6 ?_
    refine g_iconst (v := 1) C dX3_fines_9 rfl ?_
    refine g_isub C dX3_fines_10 ?_
    refine g_icmp_ge 51 C dX3_fines_11 (by decide) (fun c202 => ?_) (fun c202 => ?_)
    · replace h := of_ift h c202
      refine g_iload_n C dX3_fines_51 rfl rfl ?_
      cases h
      exact hR 52 _ ⟨.int, rfl, rfl⟩ dX3_fines_52
    · replace h := of_iff h c202
      refine g_iload_n C dX3_fines_14 rfl rfl ?_
      refine g_iload_n C dX3_fines_15 rfl rfl ?_
      refine g_iload_n C dX3_fines_16 rfl rfl ?_
      refine g_ishr C dX3_fines_17 ?_
      refine g_iconst (v := 1) C dX3_fines_18 rfl ?_
      refine g_iand C dX3_fines_19 ?_
      refine g_iconst (v := 1) C dX3_fines_20 rfl ?_
      refine g_icmp_ne 35 C dX3_fines_21 (by decide) (fun c203 => ?_) (fun c203 => ?_)
      · replace h := of_iff h c203
        refine g_aload_n C dX3_fines_35 rfl rfl ?_
        refine gf_3_2 C fl_RX3_18 g201 dX3_fines_36 ?_
        refine g_iload_n C dX3_fines_39 rfl rfl ?_
        obtain ⟨y204, e205, h⟩ := of_obb h
        refine g_callSN (As := [rv w (fld r0 2), .int x3]) C (ct_X5_at C.wf e205) ln_RX3_36 mi_X5_at (by decide) (cs_i cs_0) (by decide) dX3_fines_40 rfl ?_
        show Go w f 43 [some (rv w r0), some (.int x1), some (.int x2), some (.int x3)] [.int y204, .int x2] M
        refine g_iadd C dX3_fines_43 ?_
        obtain ⟨y206, e207, h⟩ := of_bvv h
        refine g_topi e207 ?_
        refine g_istore_n C dX3_fines_44 rfl (by decide) rfl (L2 := [some (rv w r0), some (.int x1), some (.int y206), some (.int x3)]) rfl ?_
        obtain ⟨y208, e209, h⟩ := of_bvv h
        refine g_iinc (v := y208) C dX3_fines_45 rfl e209.symm (by decide) rfl (L2 := [some (rv w r0), some (.int x1), some (.int y206), some (.int y208)]) rfl ?_
        refine g_goto 4 C dX3_fines_48 (by decide) ?_
        exact ih r0 x1 y206 y208 h
      · replace h := of_ift h c203
        refine g_aload_n C dX3_fines_24 rfl rfl ?_
        refine gf_3_1 C fl_RX3_15 g201 dX3_fines_25 ?_
        refine g_iload_n C dX3_fines_28 rfl rfl ?_
        obtain ⟨y210, e211, h⟩ := of_obb h
        refine g_callSN (As := [rv w (fld r0 1), .int x3]) C (ct_X5_at C.wf e211) ln_RX3_36 mi_X5_at (by decide) (cs_i cs_0) (by decide) dX3_fines_29 rfl ?_
        show Go w f 32 [some (rv w r0), some (.int x1), some (.int x2), some (.int x3)] [.int y210, .int x2] M
        refine g_goto 43 C dX3_fines_32 (by decide) ?_
        refine g_iadd C dX3_fines_43 ?_
        obtain ⟨y212, e213, h⟩ := of_bvv h
        refine g_topi e213 ?_
        refine g_istore_n C dX3_fines_44 rfl (by decide) rfl (L2 := [some (rv w r0), some (.int x1), some (.int y212), some (.int x3)]) rfl ?_
        obtain ⟨y214, e215, h⟩ := of_bvv h
        refine g_iinc (v := y214) C dX3_fines_45 rfl e215.symm (by decide) rfl (L2 := [some (rv w r0), some (.int x1), some (.int y212), some (.int y214)]) rfl ?_
        refine g_goto 4 C dX3_fines_48 (by decide) ?_
        exact ih r0 x1 y212 y214 h
def f_X3_fines (r0 : Nat) (x1 : Int32) (M : Mem) : Option Int32 := f_X3_fines_4 M FU r0 x1 (0 : Int32) (0 : Int32)
set_option maxRecDepth 100000 in
set_option maxHeartbeats 4000000 in
theorem ct_X3_fines {l : Launch} {w : Om} (hw : Wf w) {r0 : Nat} {x1 : Int32}  {M : Mem} {r : Int32} (h : f_X3_fines r0 x1 M = some r) : Ct l w yX3_fines cX3_fines 4 (some .int) 1 [rv w r0, .int x1] M (some (.int r)) M := by
  refine ct_of hw (by decide) (cat_s (rv_cat _ _) (cat_s rfl cat_0)) (Nat.le_of_ble_eq_true rfl) (fun f _ C hR => ?_)
  show Go w f 0 [some (rv w r0), some (.int x1), none, none] [] M
  unfold f_X3_fines at h
  refine g_iconst (v := 0) C dX3_fines_0 rfl ?_
  refine g_istore_n C dX3_fines_1 rfl (by decide) rfl (L2 := [some (rv w r0), some (.int x1), some (.int (0 : Int32)), none]) rfl ?_
  refine g_iconst (v := 0) C dX3_fines_2 rfl ?_
  refine g_istore_n C dX3_fines_3 rfl (by decide) rfl (L2 := [some (rv w r0), some (.int x1), some (.int (0 : Int32)), some (.int (0 : Int32))]) rfl ?_
  exact t_X3_fines_4 C hR _ r0 x1 (0 : Int32) (0 : Int32) h
def f_X3_cost (r0 : Nat) (x1 : Int32) (M : Mem) : Option Int32 := gdd (kd r0 = 4) <| obb (f_X3_clausesCost r0 x1 M) fun y2 => obb (f_X3_fines r0 x1 M) fun y4 => some (y2 + y4)
set_option maxRecDepth 100000 in
set_option maxHeartbeats 4000000 in
theorem ct_X3_cost {l : Launch} {w : Om} (hw : Wf w) {r0 : Nat} {x1 : Int32}  {M : Mem} {r : Int32} (h : f_X3_cost r0 x1 M = some r) : Ct l w yX3_cost cX3_cost 2 (some .int) 3 [rv w r0, .int x1] M (some (.int r)) M := by
  refine ct_of hw (by decide) (cat_s (rv_cat _ _) (cat_s rfl cat_0)) (Nat.le_of_ble_eq_true rfl) (fun f _ C hR => ?_)
  show Go w f 0 [some (rv w r0), some (.int x1)] [] M
  unfold f_X3_cost at h
  refine g_aload_n C dX3_cost_0 rfl rfl ?_
  refine g_iload_n C dX3_cost_1 rfl rfl ?_
  obtain ⟨g1, h⟩ := of_gdd h
  obtain ⟨y2, e3, h⟩ := of_obb h
  refine g_callV (As := [.int x1]) C (ct_X3_clausesCost C.wf e3) g1 lk_RX3_77 mi_X3_clausesCost (by decide) cs_0 (by decide) dX3_cost_2 rfl ?_
  show Go w f 5 [some (rv w r0), some (.int x1)] [.int y2] M
  refine g_aload_n C dX3_cost_5 rfl rfl ?_
  refine g_iload_n C dX3_cost_6 rfl rfl ?_
  obtain ⟨y4, e5, h⟩ := of_obb h
  refine g_callV (As := [.int x1]) C (ct_X3_fines C.wf e5) g1 lk_RX3_80 mi_X3_fines (by decide) (cs_i cs_0) (by decide) dX3_cost_7 rfl ?_
  show Go w f 10 [some (rv w r0), some (.int x1)] [.int y4, .int y2] M
  refine g_iadd C dX3_cost_10 ?_
  cases h
  exact hR 11 _ ⟨.int, rfl, rfl⟩ dX3_cost_11
def f_X5_reasonAgainst (r0 : Nat) (r1 : Nat) (x2 : Int32) (M : Mem) : Option Int32 := gdd (kd r0 = 6) <| gdd (kd (fld r0 0) = 5) <| obb (f_X4_isStayed (fld r0 0) r1 M) fun y3 => if y3 = 0 then (gdd (kd r1 = 1) <| obb (f_X0_movedCommas r1 x2 M) fun y7 => gdd (kd (fld r0 5) = 4) <| obb (f_X3_cost (fld r0 5) y7 M) fun y10 => obb (f_X3_cost (fld r0 5) (gI M r1 2) M) fun y12 => if y10 < y12 then (obb (f_X4_hasEditionLike (fld r0 0) r1 y7 M) fun y15 => if y15 = 0 then (some (0 : Int32)) else (some (3 : Int32))) else (some (2 : Int32))) else (some (1 : Int32))
set_option maxRecDepth 100000 in
set_option maxHeartbeats 4000000 in
theorem ct_X5_reasonAgainst {l : Launch} {w : Om} (hw : Wf w) {r0 : Nat} {r1 : Nat} {x2 : Int32}  {M : Mem} {r : Int32} (h : f_X5_reasonAgainst r0 r1 x2 M = some r) : Ct l w yX5_reasonAgainst cX5_reasonAgainst 4 (some .int) 4 [rv w r0, rv w r1, .int x2] M (some (.int r)) M := by
  refine ct_of hw (by decide) (cat_s (rv_cat _ _) (cat_s (rv_cat _ _) (cat_s rfl cat_0))) (Nat.le_of_ble_eq_true rfl) (fun f _ C hR => ?_)
  show Go w f 0 [some (rv w r0), some (rv w r1), some (.int x2), none] [] M
  unfold f_X5_reasonAgainst at h
  refine g_aload_n C dX5_reasonAgainst_0 rfl rfl ?_
  obtain ⟨g1, h⟩ := of_gdd h
  refine gf_5_0 C fl_RX5_10 g1 dX5_reasonAgainst_1 ?_
  refine g_aload_n C dX5_reasonAgainst_4 rfl rfl ?_
  obtain ⟨g2, h⟩ := of_gdd h
  obtain ⟨y3, e4, h⟩ := of_obb h
  refine g_callV (As := [rv w r1]) C (ct_X4_isStayed C.wf e4) g2 lk_RX5_192 mi_X4_isStayed (by decide) cs_0 (by decide) dX5_reasonAgainst_5 rfl ?_
  show Go w f 8 [some (rv w r0), some (rv w r1), some (.int x2), none] [.int y3] M
  refine g_if_eq 13 C dX5_reasonAgainst_8 (by decide) (fun c5 => ?_) (fun c5 => ?_)
  · replace h := of_ift h c5
    refine g_aload_n C dX5_reasonAgainst_13 rfl rfl ?_
    refine g_iload_n C dX5_reasonAgainst_14 rfl rfl ?_
    obtain ⟨g6, h⟩ := of_gdd h
    obtain ⟨y7, e8, h⟩ := of_obb h
    refine g_callV (As := [.int x2]) C (ct_X0_movedCommas C.wf e8) g6 lk_RX5_208 mi_X0_movedCommas (by decide) cs_0 (by decide) dX5_reasonAgainst_15 rfl ?_
    show Go w f 18 [some (rv w r0), some (rv w r1), some (.int x2), none] [.int y7] M
    refine g_istore_n C dX5_reasonAgainst_18 rfl (by decide) rfl (L2 := [some (rv w r0), some (rv w r1), some (.int x2), some (.int y7)]) rfl ?_
    refine g_aload_n C dX5_reasonAgainst_19 rfl rfl ?_
    refine gf_5_5 C fl_RX5_40 g1 dX5_reasonAgainst_20 ?_
    refine g_iload_n C dX5_reasonAgainst_23 rfl rfl ?_
    obtain ⟨g9, h⟩ := of_gdd h
    obtain ⟨y10, e11, h⟩ := of_obb h
    refine g_callV (As := [.int y7]) C (ct_X3_cost C.wf e11) g9 lk_RX5_189 mi_X3_cost (by decide) cs_0 (by decide) dX5_reasonAgainst_24 rfl ?_
    show Go w f 27 [some (rv w r0), some (rv w r1), some (.int x2), some (.int y7)] [.int y10] M
    refine g_aload_n C dX5_reasonAgainst_27 rfl rfl ?_
    refine gf_5_5 C fl_RX5_40 g1 dX5_reasonAgainst_28 ?_
    refine g_aload_n C dX5_reasonAgainst_31 rfl rfl ?_
    refine gf_0_2 C fl_RX5_105 g6 dX5_reasonAgainst_32 ?_
    obtain ⟨y12, e13, h⟩ := of_obb h
    refine g_callV (As := [.int (gI M r1 2)]) C (ct_X3_cost C.wf e13) g9 lk_RX5_189 mi_X3_cost (by decide) (cs_i cs_0) (by decide) dX5_reasonAgainst_35 rfl ?_
    show Go w f 38 [some (rv w r0), some (rv w r1), some (.int x2), some (.int y7)] [.int y12, .int y10] M
    refine g_icmp_lt 43 C dX5_reasonAgainst_38 (by decide) (fun c14 => ?_) (fun c14 => ?_)
    · replace h := of_ift h c14
      refine g_aload_n C dX5_reasonAgainst_43 rfl rfl ?_
      refine gf_5_0 C fl_RX5_10 g1 dX5_reasonAgainst_44 ?_
      refine g_aload_n C dX5_reasonAgainst_47 rfl rfl ?_
      refine g_iload_n C dX5_reasonAgainst_48 rfl rfl ?_
      obtain ⟨y15, e16, h⟩ := of_obb h
      refine g_callV (As := [rv w r1, .int y7]) C (ct_X4_hasEditionLike C.wf e16) g2 lk_RX5_108 mi_X4_hasEditionLike (by decide) cs_0 (by decide) dX5_reasonAgainst_49 rfl ?_
      show Go w f 52 [some (rv w r0), some (rv w r1), some (.int x2), some (.int y7)] [.int y15] M
      refine g_if_eq 59 C dX5_reasonAgainst_52 (by decide) (fun c17 => ?_) (fun c17 => ?_)
      · replace h := of_ift h c17
        refine g_iconst (v := 0) C dX5_reasonAgainst_59 rfl ?_
        cases h
        exact hR 60 _ ⟨.int, rfl, rfl⟩ dX5_reasonAgainst_60
      · replace h := of_iff h c17
        refine g_iconst (v := 3) C dX5_reasonAgainst_55 rfl ?_
        refine g_goto 60 C dX5_reasonAgainst_56 (by decide) ?_
        cases h
        exact hR 60 _ ⟨.int, rfl, rfl⟩ dX5_reasonAgainst_60
    · replace h := of_iff h c14
      refine g_iconst (v := 2) C dX5_reasonAgainst_41 rfl ?_
      cases h
      exact hR 42 _ ⟨.int, rfl, rfl⟩ dX5_reasonAgainst_42
  · replace h := of_iff h c5
    refine g_iconst (v := 1) C dX5_reasonAgainst_11 rfl ?_
    cases h
    exact hR 12 _ ⟨.int, rfl, rfl⟩ dX5_reasonAgainst_12
def f_X5_decide (r0 : Nat) (r1 : Nat) (x2 : Int32) (M : Mem) : Option (Int32 × Mem) := gdd (kd r0 = 6) <| gdd (kd (fld r0 5) = 4) <| obb (f_X3_read (fld r0 5) (fld r0 0) r1 M) fun M3 => obb (f_X5_reasonAgainst r0 r1 x2 M3) fun y5 => if y5 = 0 then (gdd (kd r1 = 1) <| obb (f_X0_movedCommas r1 x2 M3) fun y9 => obb (f_X3_cost (fld r0 5) (gI M3 r1 2) M3) fun y11 => obb (f_X3_cost (fld r0 5) y9 M3) fun y13 => bvv (y11 - y13) fun y15 => bvv (sI M3 r1 2 y9) fun M17 => bvv (sI M17 r1 4 ((gI M17 r1 4) + (1 : Int32))) fun M19 => gdd (kd (fld r0 0) = 5) <| bvv (sI M19 (fld r0 0) 7 ((gI M19 (fld r0 0) 7) + (1 : Int32))) fun M22 => some ((10 : Int32) + y15, M22)) else (gdd (kd (fld r0 0) = 5) <| bvv (sI M3 (fld r0 0) 8 ((gI M3 (fld r0 0) 8) + (1 : Int32))) fun M25 => some (y5, M25))
set_option maxRecDepth 100000 in
set_option maxHeartbeats 4000000 in
theorem ct_X5_decide {l : Launch} {w : Om} (hw : Wf w) {r0 : Nat} {r1 : Nat} {x2 : Int32} {M : Mem} {r : Int32} {M2 : Mem} (h : f_X5_decide r0 r1 x2 M = some (r, M2)) : Ct l w yX5_decide cX5_decide 6 (some .int) 5 [rv w r0, rv w r1, .int x2] M (some (.int r)) M2 := by
  refine ct_of hw (by decide) (cat_s (rv_cat _ _) (cat_s (rv_cat _ _) (cat_s rfl cat_0))) (Nat.le_of_ble_eq_true rfl) (fun f _ C hR => ?_)
  show Go w f 0 [some (rv w r0), some (rv w r1), some (.int x2), none, none, none] [] M
  unfold f_X5_decide at h
  refine g_aload_n C dX5_decide_0 rfl rfl ?_
  obtain ⟨g1, h⟩ := of_gdd h
  refine gf_5_5 C fl_RX5_40 g1 dX5_decide_1 ?_
  refine g_aload_n C dX5_decide_4 rfl rfl ?_
  refine gf_5_0 C fl_RX5_10 g1 dX5_decide_5 ?_
  refine g_aload_n C dX5_decide_8 rfl rfl ?_
  obtain ⟨g2, h⟩ := of_gdd h
  obtain ⟨M3, e4, h⟩ := of_obb h
  refine g_callV (As := [rv w (fld r0 0), rv w r1]) C (ct_X3_read C.wf e4) g2 lk_RX5_170 mi_X3_read (by decide) cs_0 (by decide) dX5_decide_9 rfl ?_
  show Go w f 12 [some (rv w r0), some (rv w r1), some (.int x2), none, none, none] [] M3
  refine g_aload_n C dX5_decide_12 rfl rfl ?_
  refine g_aload_n C dX5_decide_13 rfl rfl ?_
  refine g_iload_n C dX5_decide_14 rfl rfl ?_
  obtain ⟨y5, e6, h⟩ := of_obb h
  refine g_callV (As := [rv w r1, .int x2]) C (ct_X5_reasonAgainst C.wf e6) g1 lk_RX5_238 mi_X5_reasonAgainst (by decide) cs_0 (by decide) dX5_decide_15 rfl ?_
  show Go w f 18 [some (rv w r0), some (rv w r1), some (.int x2), none, none, none] [.int y5] M3
  refine g_istore_n C dX5_decide_18 rfl (by decide) rfl (L2 := [some (rv w r0), some (rv w r1), some (.int x2), some (.int y5), none, none]) rfl ?_
  refine g_iload_n C dX5_decide_19 rfl rfl ?_
  refine g_if_eq 38 C dX5_decide_20 (by decide) (fun c7 => ?_) (fun c7 => ?_)
  · replace h := of_ift h c7
    refine g_aload_n C dX5_decide_38 rfl rfl ?_
    refine g_iload_n C dX5_decide_39 rfl rfl ?_
    obtain ⟨g8, h⟩ := of_gdd h
    obtain ⟨y9, e10, h⟩ := of_obb h
    refine g_callV (As := [.int x2]) C (ct_X0_movedCommas C.wf e10) g8 lk_RX5_208 mi_X0_movedCommas (by decide) cs_0 (by decide) dX5_decide_40 rfl ?_
    show Go w f 43 [some (rv w r0), some (rv w r1), some (.int x2), some (.int y5), none, none] [.int y9] M3
    refine g_istore C dX5_decide_43 (by decide) rfl (L2 := [some (rv w r0), some (rv w r1), some (.int x2), some (.int y5), some (.int y9), none]) rfl ?_
    refine g_aload_n C dX5_decide_45 rfl rfl ?_
    refine gf_5_5 C fl_RX5_40 g1 dX5_decide_46 ?_
    refine g_aload_n C dX5_decide_49 rfl rfl ?_
    refine gf_0_2 C fl_RX5_105 g8 dX5_decide_50 ?_
    obtain ⟨y11, e12, h⟩ := of_obb h
    refine g_callV (As := [.int (gI M3 r1 2)]) C (ct_X3_cost C.wf e12) g2 lk_RX5_189 mi_X3_cost (by decide) cs_0 (by decide) dX5_decide_53 rfl ?_
    show Go w f 56 [some (rv w r0), some (rv w r1), some (.int x2), some (.int y5), some (.int y9), none] [.int y11] M3
    refine g_aload_n C dX5_decide_56 rfl rfl ?_
    refine gf_5_5 C fl_RX5_40 g1 dX5_decide_57 ?_
    refine g_iload C dX5_decide_60 rfl ?_
    obtain ⟨y13, e14, h⟩ := of_obb h
    refine g_callV (As := [.int y9]) C (ct_X3_cost C.wf e14) g2 lk_RX5_189 mi_X3_cost (by decide) (cs_i cs_0) (by decide) dX5_decide_62 rfl ?_
    show Go w f 65 [some (rv w r0), some (rv w r1), some (.int x2), some (.int y5), some (.int y9), none] [.int y13, .int y11] M3
    refine g_isub C dX5_decide_65 ?_
    obtain ⟨y15, e16, h⟩ := of_bvv h
    refine g_topi e16 ?_
    refine g_istore C dX5_decide_66 (by decide) rfl (L2 := [some (rv w r0), some (rv w r1), some (.int x2), some (.int y5), some (.int y9), some (.int y15)]) rfl ?_
    refine g_aload_n C dX5_decide_68 rfl rfl ?_
    refine g_iload C dX5_decide_69 rfl ?_
    refine pf_0_2 C fl_RX5_105 g8 dX5_decide_71 ?_
    obtain ⟨M17, e18, h⟩ := of_bvv h
    refine g_mem e18 ?_
    refine g_aload_n C dX5_decide_74 rfl rfl ?_
    refine g_dup C (rv_cat _ _) dX5_decide_75 ?_
    refine gf_0_4 C fl_RX5_196 g8 dX5_decide_76 ?_
    refine g_iconst (v := 1) C dX5_decide_79 rfl ?_
    refine g_iadd C dX5_decide_80 ?_
    refine pf_0_4 C fl_RX5_196 g8 dX5_decide_81 ?_
    obtain ⟨M19, e20, h⟩ := of_bvv h
    refine g_mem e20 ?_
    refine g_aload_n C dX5_decide_84 rfl rfl ?_
    refine gf_5_0 C fl_RX5_10 g1 dX5_decide_85 ?_
    refine g_dup C (rv_cat _ _) dX5_decide_88 ?_
    obtain ⟨g21, h⟩ := of_gdd h
    refine gf_4_7 C fl_RX5_264 g21 dX5_decide_89 ?_
    refine g_iconst (v := 1) C dX5_decide_92 rfl ?_
    refine g_iadd C dX5_decide_93 ?_
    refine pf_4_7 C fl_RX5_264 g21 dX5_decide_94 ?_
    obtain ⟨M22, e23, h⟩ := of_bvv h
    refine g_mem e23 ?_
    refine g_bipush (v := 10) C dX5_decide_97 rfl ?_
    refine g_iload C dX5_decide_99 rfl ?_
    refine g_iadd C dX5_decide_101 ?_
    cases h
    exact hR 102 _ ⟨.int, rfl, rfl⟩ dX5_decide_102
  · replace h := of_iff h c7
    refine g_aload_n C dX5_decide_23 rfl rfl ?_
    refine gf_5_0 C fl_RX5_10 g1 dX5_decide_24 ?_
    refine g_dup C (rv_cat _ _) dX5_decide_27 ?_
    obtain ⟨g24, h⟩ := of_gdd h
    refine gf_4_8 C fl_RX5_265 g24 dX5_decide_28 ?_
    refine g_iconst (v := 1) C dX5_decide_31 rfl ?_
    refine g_iadd C dX5_decide_32 ?_
    refine pf_4_8 C fl_RX5_265 g24 dX5_decide_33 ?_
    obtain ⟨M25, e26, h⟩ := of_bvv h
    refine g_mem e26 ?_
    refine g_iload_n C dX5_decide_36 rfl rfl ?_
    cases h
    exact hR 37 _ ⟨.int, rfl, rfl⟩ dX5_decide_37
def f_X5_sue (r0 : Nat) (x1 : Int32) (x2 : Int32) (M : Mem) : Option (Int32 × Mem) := gdd (kd r0 = 6) <| gdd (kd (fld r0 0) = 5) <| obb (f_X4_editionAt (fld r0 0) x1 M) fun y3 => if y3 = 0 then (some ((-1 : Int32), M)) else (gdd (kd y3 = 1) <| obb (f_X0_hasGap y3 x2 M) fun y7 => if y7 = 0 then (some ((-1 : Int32), M)) else (obb (f_X5_keepState r0 M) fun M10 => opp (f_X5_decide r0 y3 x2 M10) fun y14 M12 => some (y14, M12)))
set_option maxRecDepth 100000 in
set_option maxHeartbeats 4000000 in
theorem ct_X5_sue {l : Launch} {w : Om} (hw : Wf w) {r0 : Nat} {x1 : Int32} {x2 : Int32} {M : Mem} {r : Int32} {M2 : Mem} (h : f_X5_sue r0 x1 x2 M = some (r, M2)) : Ct l w yX5_sue cX5_sue 4 (some .int) 6 [rv w r0, .int x1, .int x2] M (some (.int r)) M2 := by
  refine ct_of hw (by decide) (cat_s (rv_cat _ _) (cat_s rfl (cat_s rfl cat_0))) (Nat.le_of_ble_eq_true rfl) (fun f _ C hR => ?_)
  show Go w f 0 [some (rv w r0), some (.int x1), some (.int x2), none] [] M
  unfold f_X5_sue at h
  refine g_aload_n C dX5_sue_0 rfl rfl ?_
  obtain ⟨g1, h⟩ := of_gdd h
  refine gf_5_0 C fl_RX5_10 g1 dX5_sue_1 ?_
  refine g_iload_n C dX5_sue_4 rfl rfl ?_
  obtain ⟨g2, h⟩ := of_gdd h
  obtain ⟨y3, e4, h⟩ := of_obb h
  refine g_callV (As := [.int x1]) C (ct_X4_editionAt C.wf e4) g2 lk_RX5_121 mi_X4_editionAt (by decide) cs_0 (by decide) dX5_sue_5 rfl ?_
  show Go w f 8 [some (rv w r0), some (.int x1), some (.int x2), none] [rv w y3] M
  refine g_astore_n C dX5_sue_8 rfl (by decide) rfl (L2 := [some (rv w r0), some (.int x1), some (.int x2), some (rv w y3)]) rfl ?_
  refine g_aload_n C dX5_sue_9 rfl rfl ?_
  refine g_ifnull 21 C dX5_sue_10 (by decide) (fun c5 => ?_) (fun c5 => ?_)
  · replace h := of_ift h c5
    refine g_iconst (v := -1) C dX5_sue_21 rfl ?_
    cases h
    exact hR 22 _ ⟨.int, rfl, rfl⟩ dX5_sue_22
  · replace h := of_iff h c5
    refine g_aload_n C dX5_sue_13 rfl rfl ?_
    refine g_iload_n C dX5_sue_14 rfl rfl ?_
    obtain ⟨g6, h⟩ := of_gdd h
    obtain ⟨y7, e8, h⟩ := of_obb h
    refine g_callV (As := [.int x2]) C (ct_X0_hasGap C.wf e8) g6 lk_RX5_129 mi_X0_hasGap (by decide) cs_0 (by decide) dX5_sue_15 rfl ?_
    show Go w f 18 [some (rv w r0), some (.int x1), some (.int x2), some (rv w y3)] [.int y7] M
    refine g_if_ne 23 C dX5_sue_18 (by decide) (fun c9 => ?_) (fun c9 => ?_)
    · replace h := of_iff h c9
      refine g_aload_n C dX5_sue_23 rfl rfl ?_
      obtain ⟨M10, e11, h⟩ := of_obb h
      refine g_callV (As := []) C (ct_X5_keepState C.wf e11) g1 lk_RX5_52 mi_X5_keepState (by decide) cs_0 (by decide) dX5_sue_24 rfl ?_
      show Go w f 27 [some (rv w r0), some (.int x1), some (.int x2), some (rv w y3)] [] M10
      refine g_aload_n C dX5_sue_27 rfl rfl ?_
      refine g_aload_n C dX5_sue_28 rfl rfl ?_
      refine g_iload_n C dX5_sue_29 rfl rfl ?_
      obtain ⟨y14, M12, e13, h⟩ := of_opp h
      refine g_callV (As := [rv w y3, .int x2]) C (ct_X5_decide C.wf e13) g1 lk_RX5_132 mi_X5_decide (by decide) cs_0 (by decide) dX5_sue_30 rfl ?_
      show Go w f 33 [some (rv w r0), some (.int x1), some (.int x2), some (rv w y3)] [.int y14] M12
      cases h
      exact hR 33 _ ⟨.int, rfl, rfl⟩ dX5_sue_33
    · replace h := of_ift h c9
      refine g_iconst (v := -1) C dX5_sue_21 rfl ?_
      cases h
      exact hR 22 _ ⟨.int, rfl, rfl⟩ dX5_sue_22
def f_X5_stay (r0 : Nat) (x1 : Int32) (x2 : Int32) (M : Mem) : Option (Int32 × Mem) := gdd (kd r0 = 6) <| gdd (kd (fld r0 0) = 5) <| obb (f_X4_editionAt (fld r0 0) x1 M) fun y3 => if y3 = 0 then (some ((-1 : Int32), M)) else (if (f_X5_isWithin x2 (0 : Int32) (30 : Int32)) = 0 then (some ((-1 : Int32), M)) else (obb (f_X5_keepState r0 M) fun M7 => gdd (kd y3 = 1) <| bvv (gI M7 y3 3) fun y10 => bvv (sI M7 y3 3 ((gI M7 (fld r0 0) 6) + x2)) fun M12 => some (y10, M12)))
set_option maxRecDepth 100000 in
set_option maxHeartbeats 4000000 in
theorem ct_X5_stay {l : Launch} {w : Om} (hw : Wf w) {r0 : Nat} {x1 : Int32} {x2 : Int32} {M : Mem} {r : Int32} {M2 : Mem} (h : f_X5_stay r0 x1 x2 M = some (r, M2)) : Ct l w yX5_stay cX5_stay 5 (some .int) 5 [rv w r0, .int x1, .int x2] M (some (.int r)) M2 := by
  refine ct_of hw (by decide) (cat_s (rv_cat _ _) (cat_s rfl (cat_s rfl cat_0))) (Nat.le_of_ble_eq_true rfl) (fun f _ C hR => ?_)
  show Go w f 0 [some (rv w r0), some (.int x1), some (.int x2), none, none] [] M
  unfold f_X5_stay at h
  refine g_aload_n C dX5_stay_0 rfl rfl ?_
  obtain ⟨g1, h⟩ := of_gdd h
  refine gf_5_0 C fl_RX5_10 g1 dX5_stay_1 ?_
  refine g_iload_n C dX5_stay_4 rfl rfl ?_
  obtain ⟨g2, h⟩ := of_gdd h
  obtain ⟨y3, e4, h⟩ := of_obb h
  refine g_callV (As := [.int x1]) C (ct_X4_editionAt C.wf e4) g2 lk_RX5_121 mi_X4_editionAt (by decide) cs_0 (by decide) dX5_stay_5 rfl ?_
  show Go w f 8 [some (rv w r0), some (.int x1), some (.int x2), none, none] [rv w y3] M
  refine g_astore_n C dX5_stay_8 rfl (by decide) rfl (L2 := [some (rv w r0), some (.int x1), some (.int x2), some (rv w y3), none]) rfl ?_
  refine g_aload_n C dX5_stay_9 rfl rfl ?_
  refine g_ifnull 23 C dX5_stay_10 (by decide) (fun c5 => ?_) (fun c5 => ?_)
  · replace h := of_ift h c5
    refine g_iconst (v := -1) C dX5_stay_23 rfl ?_
    cases h
    exact hR 24 _ ⟨.int, rfl, rfl⟩ dX5_stay_24
  · replace h := of_iff h c5
    refine g_iload_n C dX5_stay_13 rfl rfl ?_
    refine g_iconst (v := 0) C dX5_stay_14 rfl ?_
    refine g_bipush (v := 30) C dX5_stay_15 rfl ?_
    refine g_callS (As := [.int x2, .int (0 : Int32), .int (30 : Int32)]) C (ct_X5_isWithin C.wf rfl) lk_RX5_48 mi_X5_isWithin (by decide) cs_0 (by decide) dX5_stay_17 rfl ?_
    show Go w f 20 [some (rv w r0), some (.int x1), some (.int x2), some (rv w y3), none] [.int (f_X5_isWithin x2 (0 : Int32) (30 : Int32))] M
    refine g_if_ne 25 C dX5_stay_20 (by decide) (fun c6 => ?_) (fun c6 => ?_)
    · replace h := of_iff h c6
      refine g_aload_n C dX5_stay_25 rfl rfl ?_
      obtain ⟨M7, e8, h⟩ := of_obb h
      refine g_callV (As := []) C (ct_X5_keepState C.wf e8) g1 lk_RX5_52 mi_X5_keepState (by decide) cs_0 (by decide) dX5_stay_26 rfl ?_
      show Go w f 29 [some (rv w r0), some (.int x1), some (.int x2), some (rv w y3), none] [] M7
      refine g_aload_n C dX5_stay_29 rfl rfl ?_
      obtain ⟨g9, h⟩ := of_gdd h
      refine gf_0_3 C fl_RX5_136 g9 dX5_stay_30 ?_
      obtain ⟨y10, e11, h⟩ := of_bvv h
      refine g_topi e11 ?_
      refine g_istore C dX5_stay_33 (by decide) (rv_cat _ _) (L2 := [some (rv w r0), some (.int x1), some (.int x2), some (rv w y3), some (.int y10)]) rfl ?_
      refine g_aload_n C dX5_stay_35 rfl rfl ?_
      refine g_aload_n C dX5_stay_36 rfl rfl ?_
      refine gf_5_0 C fl_RX5_10 g1 dX5_stay_37 ?_
      refine gf_4_6 C fl_RX5_139 g2 dX5_stay_40 ?_
      refine g_iload_n C dX5_stay_43 rfl rfl ?_
      refine g_iadd C dX5_stay_44 ?_
      refine pf_0_3 C fl_RX5_136 g9 dX5_stay_45 ?_
      obtain ⟨M12, e13, h⟩ := of_bvv h
      refine g_mem e13 ?_
      refine g_iload C dX5_stay_48 rfl ?_
      cases h
      exact hR 50 _ ⟨.int, rfl, rfl⟩ dX5_stay_50
    · replace h := of_ift h c6
      refine g_iconst (v := -1) C dX5_stay_23 rfl ?_
      cases h
      exact hR 24 _ ⟨.int, rfl, rfl⟩ dX5_stay_24
def f_X5_day (r0 : Nat) (M : Mem) : Option (Int32 × Mem) := gdd (kd r0 = 6) <| obb (f_X5_keepState r0 M) fun M2 => gdd (kd (fld r0 0) = 5) <| bvv (sI M2 (fld r0 0) 6 ((gI M2 (fld r0 0) 6) + (1 : Int32))) fun M5 => some (gI M5 (fld r0 0) 6, M5)
set_option maxRecDepth 100000 in
set_option maxHeartbeats 4000000 in
theorem ct_X5_day {l : Launch} {w : Om} (hw : Wf w) {r0 : Nat} {M : Mem} {r : Int32} {M2 : Mem} (h : f_X5_day r0 M = some (r, M2)) : Ct l w yX5_day cX5_day 1 (some .int) 5 [rv w r0] M (some (.int r)) M2 := by
  refine ct_of hw (by decide) (cat_s (rv_cat _ _) cat_0) (Nat.le_of_ble_eq_true rfl) (fun f _ C hR => ?_)
  show Go w f 0 [some (rv w r0)] [] M
  unfold f_X5_day at h
  refine g_aload_n C dX5_day_0 rfl rfl ?_
  obtain ⟨g1, h⟩ := of_gdd h
  obtain ⟨M2, e3, h⟩ := of_obb h
  refine g_callV (As := []) C (ct_X5_keepState C.wf e3) g1 lk_RX5_52 mi_X5_keepState (by decide) cs_0 (by decide) dX5_day_1 rfl ?_
  show Go w f 4 [some (rv w r0)] [] M2
  refine g_aload_n C dX5_day_4 rfl rfl ?_
  refine gf_5_0 C fl_RX5_10 g1 dX5_day_5 ?_
  refine g_dup C (rv_cat _ _) dX5_day_8 ?_
  obtain ⟨g4, h⟩ := of_gdd h
  refine gf_4_6 C fl_RX5_139 g4 dX5_day_9 ?_
  refine g_iconst (v := 1) C dX5_day_12 rfl ?_
  refine g_iadd C dX5_day_13 ?_
  refine pf_4_6 C fl_RX5_139 g4 dX5_day_14 ?_
  obtain ⟨M5, e6, h⟩ := of_bvv h
  refine g_mem e6 ?_
  refine g_aload_n C dX5_day_17 rfl rfl ?_
  refine gf_5_0 C fl_RX5_10 g1 dX5_day_18 ?_
  refine gf_4_6 C fl_RX5_139 g4 dX5_day_21 ?_
  cases h
  exact hR 24 _ ⟨.int, rfl, rfl⟩ dX5_day_24
def f_X5_append (r0 : Nat) (x1 : Int32) (M : Mem) : Option (Int32 × Mem) := if (f_X5_isWithin x1 (33 : Int32) (126 : Int32)) = 0 then (some ((-1 : Int32), M)) else (gdd (kd r0 = 6) <| gdd (kd (fld r0 3) = 2) <| if (gI M (fld r0 3) 1) < (60 : Int32) then (obb (f_X5_put (fld (fld r0 3) 0) (gI M (fld r0 3) 1) x1 M) fun M5 => bvv (sI M5 (fld r0 3) 1 ((gI M5 (fld r0 3) 1) + (1 : Int32))) fun M7 => some (gI M7 (fld r0 3) 1, M7)) else (some ((-3 : Int32), M)))
set_option maxRecDepth 100000 in
set_option maxHeartbeats 4000000 in
theorem ct_X5_append {l : Launch} {w : Om} (hw : Wf w) {r0 : Nat} {x1 : Int32} {M : Mem} {r : Int32} {M2 : Mem} (h : f_X5_append r0 x1 M = some (r, M2)) : Ct l w yX5_append cX5_append 2 (some .int) 1 [rv w r0, .int x1] M (some (.int r)) M2 := by
  refine ct_of hw (by decide) (cat_s (rv_cat _ _) (cat_s rfl cat_0)) (Nat.le_of_ble_eq_true rfl) (fun f _ C hR => ?_)
  show Go w f 0 [some (rv w r0), some (.int x1)] [] M
  unfold f_X5_append at h
  refine g_iload_n C dX5_append_0 rfl rfl ?_
  refine g_bipush (v := 33) C dX5_append_1 rfl ?_
  refine g_bipush (v := 126) C dX5_append_3 rfl ?_
  refine g_callS (As := [.int x1, .int (33 : Int32), .int (126 : Int32)]) C (ct_X5_isWithin C.wf rfl) lk_RX5_48 mi_X5_isWithin (by decide) cs_0 (by decide) dX5_append_5 rfl ?_
  show Go w f 8 [some (rv w r0), some (.int x1)] [.int (f_X5_isWithin x1 (33 : Int32) (126 : Int32))] M
  refine g_if_ne 13 C dX5_append_8 (by decide) (fun c1 => ?_) (fun c1 => ?_)
  · replace h := of_iff h c1
    refine g_aload_n C dX5_append_13 rfl rfl ?_
    obtain ⟨g2, h⟩ := of_gdd h
    refine gf_5_3 C fl_RX5_26 g2 dX5_append_14 ?_
    obtain ⟨g3, h⟩ := of_gdd h
    refine gf_1_1 C fl_RX5_118 g3 dX5_append_17 ?_
    refine g_bipush (v := 60) C dX5_append_20 rfl ?_
    refine g_icmp_lt 28 C dX5_append_22 (by decide) (fun c4 => ?_) (fun c4 => ?_)
    · replace h := of_ift h c4
      refine g_aload_n C dX5_append_28 rfl rfl ?_
      refine gf_5_3 C fl_RX5_26 g2 dX5_append_29 ?_
      refine gf_1_0 C fl_RX5_142 g3 dX5_append_32 ?_
      refine g_aload_n C dX5_append_35 rfl rfl ?_
      refine gf_5_3 C fl_RX5_26 g2 dX5_append_36 ?_
      refine gf_1_1 C fl_RX5_118 g3 dX5_append_39 ?_
      refine g_iload_n C dX5_append_42 rfl rfl ?_
      obtain ⟨M5, e6, h⟩ := of_obb h
      refine g_callS (As := [rv w (fld (fld r0 3) 0), .int (gI M (fld r0 3) 1), .int x1]) C (ct_X5_put C.wf e6) lk_RX5_63 mi_X5_put (by decide) cs_0 (by decide) dX5_append_43 rfl ?_
      show Go w f 46 [some (rv w r0), some (.int x1)] [] M5
      refine g_aload_n C dX5_append_46 rfl rfl ?_
      refine gf_5_3 C fl_RX5_26 g2 dX5_append_47 ?_
      refine g_dup C (rv_cat _ _) dX5_append_50 ?_
      refine gf_1_1 C fl_RX5_118 g3 dX5_append_51 ?_
      refine g_iconst (v := 1) C dX5_append_54 rfl ?_
      refine g_iadd C dX5_append_55 ?_
      refine pf_1_1 C fl_RX5_118 g3 dX5_append_56 ?_
      obtain ⟨M7, e8, h⟩ := of_bvv h
      refine g_mem e8 ?_
      refine g_aload_n C dX5_append_59 rfl rfl ?_
      refine gf_5_3 C fl_RX5_26 g2 dX5_append_60 ?_
      refine gf_1_1 C fl_RX5_118 g3 dX5_append_63 ?_
      cases h
      exact hR 66 _ ⟨.int, rfl, rfl⟩ dX5_append_66
    · replace h := of_iff h c4
      refine g_bipush (v := -3) C dX5_append_25 rfl ?_
      cases h
      exact hR 27 _ ⟨.int, rfl, rfl⟩ dX5_append_27
  · replace h := of_ift h c1
    refine g_iconst (v := -1) C dX5_append_11 rfl ?_
    cases h
    exact hR 12 _ ⟨.int, rfl, rfl⟩ dX5_append_12
def f_X5_clear (r0 : Nat) (M : Mem) : Option (Int32 × Mem) := gdd (kd r0 = 6) <| gdd (kd (fld r0 3) = 2) <| bvv (gI M (fld r0 3) 1) fun y3 => bvv (sI M (fld r0 3) 1 (0 : Int32)) fun M5 => some (y3, M5)
set_option maxRecDepth 100000 in
set_option maxHeartbeats 4000000 in
theorem ct_X5_clear {l : Launch} {w : Om} (hw : Wf w) {r0 : Nat} {M : Mem} {r : Int32} {M2 : Mem} (h : f_X5_clear r0 M = some (r, M2)) : Ct l w yX5_clear cX5_clear 2 (some .int) 0 [rv w r0] M (some (.int r)) M2 := by
  refine ct_of hw (by decide) (cat_s (rv_cat _ _) cat_0) (Nat.le_of_ble_eq_true rfl) (fun f _ C hR => ?_)
  show Go w f 0 [some (rv w r0), none] [] M
  unfold f_X5_clear at h
  refine g_aload_n C dX5_clear_0 rfl rfl ?_
  obtain ⟨g1, h⟩ := of_gdd h
  refine gf_5_3 C fl_RX5_26 g1 dX5_clear_1 ?_
  obtain ⟨g2, h⟩ := of_gdd h
  refine gf_1_1 C fl_RX5_118 g2 dX5_clear_4 ?_
  obtain ⟨y3, e4, h⟩ := of_bvv h
  refine g_topi e4 ?_
  refine g_istore_n C dX5_clear_7 rfl (by decide) (rv_cat _ _) (L2 := [some (rv w r0), some (.int y3)]) rfl ?_
  refine g_aload_n C dX5_clear_8 rfl rfl ?_
  refine gf_5_3 C fl_RX5_26 g1 dX5_clear_9 ?_
  refine g_iconst (v := 0) C dX5_clear_12 rfl ?_
  refine pf_1_1 C fl_RX5_118 g2 dX5_clear_13 ?_
  obtain ⟨M5, e6, h⟩ := of_bvv h
  refine g_mem e6 ?_
  refine g_iload_n C dX5_clear_16 rfl rfl ?_
  cases h
  exact hR 17 _ ⟨.int, rfl, rfl⟩ dX5_clear_17
def f_X1_dueBehind (x0 : Int32) (x1 : Int32) : Int32 := if x0 = nI 0 then (if x1 = (43 : Int32) then ((4 : Int32)) else (if (f_X5_isWithin x1 (48 : Int32) (51 : Int32)) = 0 then ((-1 : Int32)) else ((1 : Int32)))) else if x0 = nI 1 then (if x1 = (58 : Int32) then ((2 : Int32)) else ((-1 : Int32))) else if x0 = nI 2 then (if x1 = (49 : Int32) then ((3 : Int32)) else (if (f_X5_isWithin x1 (48 : Int32) (57 : Int32)) = 0 then ((-1 : Int32)) else ((4 : Int32)))) else if x0 = nI 3 then (if x1 = (48 : Int32) then ((4 : Int32)) else (if x1 = (59 : Int32) then ((0 : Int32)) else ((-1 : Int32)))) else (if x1 = (59 : Int32) then ((0 : Int32)) else ((-1 : Int32)))
set_option maxRecDepth 100000 in
set_option maxHeartbeats 4000000 in
theorem ct_X1_dueBehind {l : Launch} {w : Om} (hw : Wf w) {x0 : Int32} {x1 : Int32}  {M : Mem} {r : Int32} (h : f_X1_dueBehind x0 x1 = r) : Ct l w yX1_dueBehind cX1_dueBehind 2 (some .int) 1 [.int x0, .int x1] M (some (.int r)) M := by
  refine ct_of hw (by decide) (cat_s rfl (cat_s rfl cat_0)) (Nat.le_of_ble_eq_true rfl) (fun f _ C hR => ?_)
  show Go w f 0 [some (.int x0), some (.int x1)] [] M
  unfold f_X1_dueBehind at h
  refine g_iload_n C dX1_dueBehind_0 rfl rfl ?_
  by_cases c1 : x0 = nI 0
  · replace h := of_ift h c1
    refine g_tsI (nI 0) (31) 32 C dX1_dueBehind_1 c1 (by decide) (by decide) rfl (by decide) ?_
    refine g_iload_n C dX1_dueBehind_32 rfl rfl ?_
    refine g_bipush (v := 43) C dX1_dueBehind_33 rfl ?_
    refine g_icmp_ne 40 C dX1_dueBehind_35 (by decide) (fun c2 => ?_) (fun c2 => ?_)
    · replace h := of_iff h c2
      refine g_iload_n C dX1_dueBehind_40 rfl rfl ?_
      refine g_bipush (v := 48) C dX1_dueBehind_41 rfl ?_
      refine g_bipush (v := 51) C dX1_dueBehind_43 rfl ?_
      refine g_callSN (As := [.int x1, .int (48 : Int32), .int (51 : Int32)]) C (ct_X5_isWithin C.wf rfl) ln_RX1_27 mi_X5_isWithin (by decide) cs_0 (by decide) dX1_dueBehind_45 rfl ?_
      show Go w f 48 [some (.int x0), some (.int x1)] [.int (f_X5_isWithin x1 (48 : Int32) (51 : Int32))] M
      refine g_if_eq 55 C dX1_dueBehind_48 (by decide) (fun c3 => ?_) (fun c3 => ?_)
      · replace h := of_ift h c3
        refine g_iconst (v := -1) C dX1_dueBehind_55 rfl ?_
        cases h
        exact hR 56 _ ⟨.int, rfl, rfl⟩ dX1_dueBehind_56
      · replace h := of_iff h c3
        refine g_iconst (v := 1) C dX1_dueBehind_51 rfl ?_
        refine g_goto 56 C dX1_dueBehind_52 (by decide) ?_
        cases h
        exact hR 56 _ ⟨.int, rfl, rfl⟩ dX1_dueBehind_56
    · replace h := of_ift h c2
      refine g_iconst (v := 4) C dX1_dueBehind_38 rfl ?_
      cases h
      exact hR 39 _ ⟨.int, rfl, rfl⟩ dX1_dueBehind_39
  replace h := of_iff h c1
  by_cases c4 : x0 = nI 1
  · replace h := of_ift h c4
    refine g_tsI (nI 1) (56) 57 C dX1_dueBehind_1 c4 (by decide) (by decide) rfl (by decide) ?_
    refine g_iload_n C dX1_dueBehind_57 rfl rfl ?_
    refine g_bipush (v := 58) C dX1_dueBehind_58 rfl ?_
    refine g_icmp_ne 67 C dX1_dueBehind_60 (by decide) (fun c5 => ?_) (fun c5 => ?_)
    · replace h := of_iff h c5
      refine g_iconst (v := -1) C dX1_dueBehind_67 rfl ?_
      cases h
      exact hR 68 _ ⟨.int, rfl, rfl⟩ dX1_dueBehind_68
    · replace h := of_ift h c5
      refine g_iconst (v := 2) C dX1_dueBehind_63 rfl ?_
      refine g_goto 68 C dX1_dueBehind_64 (by decide) ?_
      cases h
      exact hR 68 _ ⟨.int, rfl, rfl⟩ dX1_dueBehind_68
  replace h := of_iff h c4
  by_cases c6 : x0 = nI 2
  · replace h := of_ift h c6
    refine g_tsI (nI 2) (68) 69 C dX1_dueBehind_1 c6 (by decide) (by decide) rfl (by decide) ?_
    refine g_iload_n C dX1_dueBehind_69 rfl rfl ?_
    refine g_bipush (v := 49) C dX1_dueBehind_70 rfl ?_
    refine g_icmp_ne 77 C dX1_dueBehind_72 (by decide) (fun c7 => ?_) (fun c7 => ?_)
    · replace h := of_iff h c7
      refine g_iload_n C dX1_dueBehind_77 rfl rfl ?_
      refine g_bipush (v := 48) C dX1_dueBehind_78 rfl ?_
      refine g_bipush (v := 57) C dX1_dueBehind_80 rfl ?_
      refine g_callSN (As := [.int x1, .int (48 : Int32), .int (57 : Int32)]) C (ct_X5_isWithin C.wf rfl) ln_RX1_27 mi_X5_isWithin (by decide) cs_0 (by decide) dX1_dueBehind_82 rfl ?_
      show Go w f 85 [some (.int x0), some (.int x1)] [.int (f_X5_isWithin x1 (48 : Int32) (57 : Int32))] M
      refine g_if_eq 92 C dX1_dueBehind_85 (by decide) (fun c8 => ?_) (fun c8 => ?_)
      · replace h := of_ift h c8
        refine g_iconst (v := -1) C dX1_dueBehind_92 rfl ?_
        cases h
        exact hR 93 _ ⟨.int, rfl, rfl⟩ dX1_dueBehind_93
      · replace h := of_iff h c8
        refine g_iconst (v := 4) C dX1_dueBehind_88 rfl ?_
        refine g_goto 93 C dX1_dueBehind_89 (by decide) ?_
        cases h
        exact hR 93 _ ⟨.int, rfl, rfl⟩ dX1_dueBehind_93
    · replace h := of_ift h c7
      refine g_iconst (v := 3) C dX1_dueBehind_75 rfl ?_
      cases h
      exact hR 76 _ ⟨.int, rfl, rfl⟩ dX1_dueBehind_76
  replace h := of_iff h c6
  by_cases c9 : x0 = nI 3
  · replace h := of_ift h c9
    refine g_tsI (nI 3) (93) 94 C dX1_dueBehind_1 c9 (by decide) (by decide) rfl (by decide) ?_
    refine g_iload_n C dX1_dueBehind_94 rfl rfl ?_
    refine g_bipush (v := 48) C dX1_dueBehind_95 rfl ?_
    refine g_icmp_ne 102 C dX1_dueBehind_97 (by decide) (fun c10 => ?_) (fun c10 => ?_)
    · replace h := of_iff h c10
      refine g_iload_n C dX1_dueBehind_102 rfl rfl ?_
      refine g_bipush (v := 59) C dX1_dueBehind_103 rfl ?_
      refine g_icmp_ne 112 C dX1_dueBehind_105 (by decide) (fun c11 => ?_) (fun c11 => ?_)
      · replace h := of_iff h c11
        refine g_iconst (v := -1) C dX1_dueBehind_112 rfl ?_
        cases h
        exact hR 113 _ ⟨.int, rfl, rfl⟩ dX1_dueBehind_113
      · replace h := of_ift h c11
        refine g_iconst (v := 0) C dX1_dueBehind_108 rfl ?_
        refine g_goto 113 C dX1_dueBehind_109 (by decide) ?_
        cases h
        exact hR 113 _ ⟨.int, rfl, rfl⟩ dX1_dueBehind_113
    · replace h := of_ift h c10
      refine g_iconst (v := 4) C dX1_dueBehind_100 rfl ?_
      cases h
      exact hR 101 _ ⟨.int, rfl, rfl⟩ dX1_dueBehind_101
  replace h := of_iff h c9
  refine g_tsD 4 114 C dX1_dueBehind_1 (by decide) rfl rfl (p_lt (lt_s (lt_s (lt_s (lt_s lt_0 c1) c4) c6) c9)) (by decide) ?_
  refine g_iload_n C dX1_dueBehind_114 rfl rfl ?_
  refine g_bipush (v := 59) C dX1_dueBehind_115 rfl ?_
  refine g_icmp_ne 124 C dX1_dueBehind_117 (by decide) (fun c12 => ?_) (fun c12 => ?_)
  · replace h := of_iff h c12
    refine g_iconst (v := -1) C dX1_dueBehind_124 rfl ?_
    cases h
    exact hR 125 _ ⟨.int, rfl, rfl⟩ dX1_dueBehind_125
  · replace h := of_ift h c12
    refine g_iconst (v := 0) C dX1_dueBehind_120 rfl ?_
    refine g_goto 125 C dX1_dueBehind_121 (by decide) ?_
    cases h
    exact hR 125 _ ⟨.int, rfl, rfl⟩ dX1_dueBehind_125
def f_X1_suitsFault_4 (M : Mem) : Nat → Nat → Int32 → Int32 → Option Int32
  | 0, _, _, _ => none
  | n + 1, r0, x1, x2 => gdd (kd r0 = 2) <| if (gI M r0 1) ≤ x2 then (if x1 = (3 : Int32) then (some (-1 : Int32)) else (if x1 = (4 : Int32) then (some (-1 : Int32)) else (some (gI M r0 1)))) else (obb (f_X1_signAt r0 x2 M) fun y205 => bvv (f_X1_dueBehind x1 y205) fun y207 => if y207 = (-1 : Int32) then (some x2) else (bvv (x2 + (1 : Int32)) fun y210 => (f_X1_suitsFault_4 M n) r0 y207 y210))
set_option maxRecDepth 100000 in
set_option maxHeartbeats 4000000 in
theorem t_X1_suitsFault_4 {w : Om} {f : Fr} {M : Mem} {r : Int32} (C : Cx w f RX1 cX1_suitsFault 3 2) (hR : Rt w f cX1_suitsFault (some .int) (some (.int r)) M)   : ∀ (n : Nat) (r0 : Nat) (x1 : Int32) (x2 : Int32), f_X1_suitsFault_4 M n r0 x1 x2 = some r → Go w f 4 [some (rv w r0), some (.int x1), some (.int x2)] [] M := by
  intro n
  induction n with
  | zero =>
    intro r0 x1 x2 h
    cases h
  | succ n ih =>
    intro r0 x1 x2 h
    rw [f_X1_suitsFault_4] at h
    refine g_iload_n C dX1_suitsFault_4 rfl rfl ?_
    refine g_aload_n C dX1_suitsFault_5 rfl rfl ?_
    obtain ⟨g201, h⟩ := of_gdd h
    refine gf_1_1 C fl_RX1_15 g201 dX1_suitsFault_6 ?_
    refine g_icmp_ge 35 C dX1_suitsFault_9 (by decide) (fun c202 => ?_) (fun c202 => ?_)
    · replace h := of_ift h c202
      refine g_iload_n C dX1_suitsFault_35 rfl rfl ?_
      refine g_iconst (v := 3) C dX1_suitsFault_36 rfl ?_
      refine g_icmp_eq 45 C dX1_suitsFault_37 (by decide) (fun c203 => ?_) (fun c203 => ?_)
      · replace h := of_ift h c203
        refine g_iconst (v := -1) C dX1_suitsFault_45 rfl ?_
        refine g_goto 53 C dX1_suitsFault_46 (by decide) ?_
        cases h
        exact hR 53 _ ⟨.int, rfl, rfl⟩ dX1_suitsFault_53
      · replace h := of_iff h c203
        refine g_iload_n C dX1_suitsFault_40 rfl rfl ?_
        refine g_iconst (v := 4) C dX1_suitsFault_41 rfl ?_
        refine g_icmp_ne 49 C dX1_suitsFault_42 (by decide) (fun c204 => ?_) (fun c204 => ?_)
        · replace h := of_iff h c204
          refine g_aload_n C dX1_suitsFault_49 rfl rfl ?_
          refine gf_1_1 C fl_RX1_15 g201 dX1_suitsFault_50 ?_
          cases h
          exact hR 53 _ ⟨.int, rfl, rfl⟩ dX1_suitsFault_53
        · replace h := of_ift h c204
          refine g_iconst (v := -1) C dX1_suitsFault_45 rfl ?_
          refine g_goto 53 C dX1_suitsFault_46 (by decide) ?_
          cases h
          exact hR 53 _ ⟨.int, rfl, rfl⟩ dX1_suitsFault_53
    · replace h := of_iff h c202
      refine g_iload_n C dX1_suitsFault_12 rfl rfl ?_
      refine g_aload_n C dX1_suitsFault_13 rfl rfl ?_
      refine g_iload_n C dX1_suitsFault_14 rfl rfl ?_
      obtain ⟨y205, e206, h⟩ := of_obb h
      refine g_callV (As := [.int x2]) C (ct_X1_signAt C.wf e206) g201 lk_RX1_23 mi_X1_signAt (by decide) (cs_i cs_0) (by decide) dX1_suitsFault_15 rfl ?_
      show Go w f 18 [some (rv w r0), some (.int x1), some (.int x2)] [.int y205, .int x1] M
      refine g_callS (As := [.int x1, .int y205]) C (ct_X1_dueBehind C.wf rfl) lk_RX1_31 mi_X1_dueBehind (by decide) cs_0 (by decide) dX1_suitsFault_18 rfl ?_
      show Go w f 21 [some (rv w r0), some (.int x1), some (.int x2)] [.int (f_X1_dueBehind x1 y205)] M
      obtain ⟨y207, e208, h⟩ := of_bvv h
      refine g_topi e208 ?_
      refine g_istore_n C dX1_suitsFault_21 rfl (by decide) (rv_cat _ _) (L2 := [some (rv w r0), some (.int y207), some (.int x2)]) rfl ?_
      refine g_iload_n C dX1_suitsFault_22 rfl rfl ?_
      refine g_iconst (v := -1) C dX1_suitsFault_23 rfl ?_
      refine g_icmp_ne 29 C dX1_suitsFault_24 (by decide) (fun c209 => ?_) (fun c209 => ?_)
      · replace h := of_iff h c209
        obtain ⟨y210, e211, h⟩ := of_bvv h
        refine g_iinc (v := y210) C dX1_suitsFault_29 rfl e211.symm (by decide) rfl (L2 := [some (rv w r0), some (.int y207), some (.int y210)]) rfl ?_
        refine g_goto 4 C dX1_suitsFault_32 (by decide) ?_
        exact ih r0 y207 y210 h
      · replace h := of_ift h c209
        refine g_iload_n C dX1_suitsFault_27 rfl rfl ?_
        cases h
        exact hR 28 _ ⟨.int, rfl, rfl⟩ dX1_suitsFault_28
def f_X1_suitsFault (r0 : Nat) (M : Mem) : Option Int32 := f_X1_suitsFault_4 M FU r0 (0 : Int32) (0 : Int32)
set_option maxRecDepth 100000 in
set_option maxHeartbeats 4000000 in
theorem ct_X1_suitsFault {l : Launch} {w : Om} (hw : Wf w) {r0 : Nat}  {M : Mem} {r : Int32} (h : f_X1_suitsFault r0 M = some r) : Ct l w yX1_suitsFault cX1_suitsFault 3 (some .int) 2 [rv w r0] M (some (.int r)) M := by
  refine ct_of hw (by decide) (cat_s (rv_cat _ _) cat_0) (Nat.le_of_ble_eq_true rfl) (fun f _ C hR => ?_)
  show Go w f 0 [some (rv w r0), none, none] [] M
  unfold f_X1_suitsFault at h
  refine g_iconst (v := 0) C dX1_suitsFault_0 rfl ?_
  refine g_istore_n C dX1_suitsFault_1 rfl (by decide) (rv_cat _ _) (L2 := [some (rv w r0), some (.int (0 : Int32)), none]) rfl ?_
  refine g_iconst (v := 0) C dX1_suitsFault_2 rfl ?_
  refine g_istore_n C dX1_suitsFault_3 rfl (by decide) rfl (L2 := [some (rv w r0), some (.int (0 : Int32)), some (.int (0 : Int32))]) rfl ?_
  exact t_X1_suitsFault_4 C hR _ r0 (0 : Int32) (0 : Int32) h
def f_X5_fault (r0 : Nat) (x1 : Int32) (M : Mem) : Option Int32 := if (f_X5_isWithin x1 (0 : Int32) (1 : Int32)) = 0 then (some (-1 : Int32)) else (if x1 = 0 then (gdd (kd r0 = 6) <| gdd (kd (fld r0 3) = 2) <| obb (f_X1_editionFault (fld r0 3) M) fun y10 => if y10 = (-1 : Int32) then (some (-4 : Int32)) else (some y10)) else (gdd (kd r0 = 6) <| gdd (kd (fld r0 3) = 2) <| obb (f_X1_suitsFault (fld r0 3) M) fun y5 => if y5 = (-1 : Int32) then (some (-4 : Int32)) else (some y5)))
set_option maxRecDepth 100000 in
set_option maxHeartbeats 4000000 in
theorem ct_X5_fault {l : Launch} {w : Om} (hw : Wf w) {r0 : Nat} {x1 : Int32}  {M : Mem} {r : Int32} (h : f_X5_fault r0 x1 M = some r) : Ct l w yX5_fault cX5_fault 3 (some .int) 3 [rv w r0, .int x1] M (some (.int r)) M := by
  refine ct_of hw (by decide) (cat_s (rv_cat _ _) (cat_s rfl cat_0)) (Nat.le_of_ble_eq_true rfl) (fun f _ C hR => ?_)
  show Go w f 0 [some (rv w r0), some (.int x1), none] [] M
  unfold f_X5_fault at h
  refine g_iload_n C dX5_fault_0 rfl rfl ?_
  refine g_iconst (v := 0) C dX5_fault_1 rfl ?_
  refine g_iconst (v := 1) C dX5_fault_2 rfl ?_
  refine g_callS (As := [.int x1, .int (0 : Int32), .int (1 : Int32)]) C (ct_X5_isWithin C.wf rfl) lk_RX5_48 mi_X5_isWithin (by decide) cs_0 (by decide) dX5_fault_3 rfl ?_
  show Go w f 6 [some (rv w r0), some (.int x1), none] [.int (f_X5_isWithin x1 (0 : Int32) (1 : Int32))] M
  refine g_if_ne 11 C dX5_fault_6 (by decide) (fun c1 => ?_) (fun c1 => ?_)
  · replace h := of_iff h c1
    refine g_iload_n C dX5_fault_11 rfl rfl ?_
    refine g_if_ne 25 C dX5_fault_12 (by decide) (fun c2 => ?_) (fun c2 => ?_)
    · replace h := of_iff h c2
      refine g_aload_n C dX5_fault_25 rfl rfl ?_
      obtain ⟨g3, h⟩ := of_gdd h
      refine gf_5_3 C fl_RX5_26 g3 dX5_fault_26 ?_
      obtain ⟨g4, h⟩ := of_gdd h
      obtain ⟨y5, e6, h⟩ := of_obb h
      refine g_callV (As := []) C (ct_X1_suitsFault C.wf e6) g4 lk_RX5_145 mi_X1_suitsFault (by decide) cs_0 (by decide) dX5_fault_29 rfl ?_
      show Go w f 32 [some (rv w r0), some (.int x1), none] [.int y5] M
      refine g_istore_n C dX5_fault_32 rfl (by decide) rfl (L2 := [some (rv w r0), some (.int x1), some (.int y5)]) rfl ?_
      refine g_iload_n C dX5_fault_33 rfl rfl ?_
      refine g_iconst (v := -1) C dX5_fault_34 rfl ?_
      refine g_icmp_ne 43 C dX5_fault_35 (by decide) (fun c7 => ?_) (fun c7 => ?_)
      · replace h := of_iff h c7
        refine g_iload_n C dX5_fault_43 rfl rfl ?_
        cases h
        exact hR 44 _ ⟨.int, rfl, rfl⟩ dX5_fault_44
      · replace h := of_ift h c7
        refine g_bipush (v := -4) C dX5_fault_38 rfl ?_
        refine g_goto 44 C dX5_fault_40 (by decide) ?_
        cases h
        exact hR 44 _ ⟨.int, rfl, rfl⟩ dX5_fault_44
    · replace h := of_ift h c2
      refine g_aload_n C dX5_fault_15 rfl rfl ?_
      obtain ⟨g8, h⟩ := of_gdd h
      refine gf_5_3 C fl_RX5_26 g8 dX5_fault_16 ?_
      obtain ⟨g9, h⟩ := of_gdd h
      obtain ⟨y10, e11, h⟩ := of_obb h
      refine g_callV (As := []) C (ct_X1_editionFault C.wf e11) g9 lk_RX5_98 mi_X1_editionFault (by decide) cs_0 (by decide) dX5_fault_19 rfl ?_
      show Go w f 22 [some (rv w r0), some (.int x1), none] [.int y10] M
      refine g_goto 32 C dX5_fault_22 (by decide) ?_
      refine g_istore_n C dX5_fault_32 rfl (by decide) rfl (L2 := [some (rv w r0), some (.int x1), some (.int y10)]) rfl ?_
      refine g_iload_n C dX5_fault_33 rfl rfl ?_
      refine g_iconst (v := -1) C dX5_fault_34 rfl ?_
      refine g_icmp_ne 43 C dX5_fault_35 (by decide) (fun c12 => ?_) (fun c12 => ?_)
      · replace h := of_iff h c12
        refine g_iload_n C dX5_fault_43 rfl rfl ?_
        cases h
        exact hR 44 _ ⟨.int, rfl, rfl⟩ dX5_fault_44
      · replace h := of_ift h c12
        refine g_bipush (v := -4) C dX5_fault_38 rfl ?_
        refine g_goto 44 C dX5_fault_40 (by decide) ?_
        cases h
        exact hR 44 _ ⟨.int, rfl, rfl⟩ dX5_fault_44
  · replace h := of_ift h c1
    refine g_iconst (v := -1) C dX5_fault_9 rfl ?_
    cases h
    exact hR 10 _ ⟨.int, rfl, rfl⟩ dX5_fault_10
def f_X1_beginsPart (r0 : Nat) (x1 : Int32) (M : Mem) : Option Int32 := if x1 = 0 then (some (1 : Int32)) else (gdd (kd r0 = 2) <| obb (f_X1_signAt r0 (x1 - (1 : Int32)) M) fun y3 => if y3 = (59 : Int32) then (some (1 : Int32)) else (some (0 : Int32)))
set_option maxRecDepth 100000 in
set_option maxHeartbeats 4000000 in
theorem ct_X1_beginsPart {l : Launch} {w : Om} (hw : Wf w) {r0 : Nat} {x1 : Int32}  {M : Mem} {r : Int32} (h : f_X1_beginsPart r0 x1 M = some r) : Ct l w yX1_beginsPart cX1_beginsPart 2 (some .boolean) 2 [rv w r0, .int x1] M (some (.int r)) M := by
  refine ct_of hw (by decide) (cat_s (rv_cat _ _) (cat_s rfl cat_0)) (Nat.le_of_ble_eq_true rfl) (fun f _ C hR => ?_)
  show Go w f 0 [some (rv w r0), some (.int x1)] [] M
  unfold f_X1_beginsPart at h
  refine g_iload_n C dX1_beginsPart_0 rfl rfl ?_
  refine g_if_eq 16 C dX1_beginsPart_1 (by decide) (fun c1 => ?_) (fun c1 => ?_)
  · replace h := of_ift h c1
    refine g_iconst (v := 1) C dX1_beginsPart_16 rfl ?_
    refine g_goto 21 C dX1_beginsPart_17 (by decide) ?_
    cases h
    exact hR 21 _ ⟨.boolean, rfl, rfl⟩ dX1_beginsPart_21
  · replace h := of_iff h c1
    refine g_aload_n C dX1_beginsPart_4 rfl rfl ?_
    refine g_iload_n C dX1_beginsPart_5 rfl rfl ?_
    refine g_iconst (v := 1) C dX1_beginsPart_6 rfl ?_
    refine g_isub C dX1_beginsPart_7 ?_
    obtain ⟨g2, h⟩ := of_gdd h
    obtain ⟨y3, e4, h⟩ := of_obb h
    refine g_callV (As := [.int (x1 - (1 : Int32))]) C (ct_X1_signAt C.wf e4) g2 lk_RX1_23 mi_X1_signAt (by decide) cs_0 (by decide) dX1_beginsPart_8 rfl ?_
    show Go w f 11 [some (rv w r0), some (.int x1)] [.int y3] M
    refine g_bipush (v := 59) C dX1_beginsPart_11 rfl ?_
    refine g_icmp_ne 20 C dX1_beginsPart_13 (by decide) (fun c5 => ?_) (fun c5 => ?_)
    · replace h := of_iff h c5
      refine g_iconst (v := 0) C dX1_beginsPart_20 rfl ?_
      cases h
      exact hR 21 _ ⟨.boolean, rfl, rfl⟩ dX1_beginsPart_21
    · replace h := of_ift h c5
      refine g_iconst (v := 1) C dX1_beginsPart_16 rfl ?_
      refine g_goto 21 C dX1_beginsPart_17 (by decide) ?_
      cases h
      exact hR 21 _ ⟨.boolean, rfl, rfl⟩ dX1_beginsPart_21
def f_X1_gapAt (r0 : Nat) (x1 : Int32) (M : Mem) : Option Int32 := gdd (kd r0 = 2) <| obb (f_X1_signAt r0 (x1 + (1 : Int32)) M) fun y2 => if (f_X5_isWithin y2 (48 : Int32) (57 : Int32)) = 0 then (obb (f_X1_signAt r0 x1 M) fun y5 => some (y5 - (48 : Int32))) else (some (((10 : Int32) + y2) - (48 : Int32)))
set_option maxRecDepth 100000 in
set_option maxHeartbeats 4000000 in
theorem ct_X1_gapAt {l : Launch} {w : Om} (hw : Wf w) {r0 : Nat} {x1 : Int32}  {M : Mem} {r : Int32} (h : f_X1_gapAt r0 x1 M = some r) : Ct l w yX1_gapAt cX1_gapAt 3 (some .int) 2 [rv w r0, .int x1] M (some (.int r)) M := by
  refine ct_of hw (by decide) (cat_s (rv_cat _ _) (cat_s rfl cat_0)) (Nat.le_of_ble_eq_true rfl) (fun f _ C hR => ?_)
  show Go w f 0 [some (rv w r0), some (.int x1), none] [] M
  unfold f_X1_gapAt at h
  refine g_aload_n C dX1_gapAt_0 rfl rfl ?_
  refine g_iload_n C dX1_gapAt_1 rfl rfl ?_
  refine g_iconst (v := 1) C dX1_gapAt_2 rfl ?_
  refine g_iadd C dX1_gapAt_3 ?_
  obtain ⟨g1, h⟩ := of_gdd h
  obtain ⟨y2, e3, h⟩ := of_obb h
  refine g_callV (As := [.int (x1 + (1 : Int32))]) C (ct_X1_signAt C.wf e3) g1 lk_RX1_23 mi_X1_signAt (by decide) cs_0 (by decide) dX1_gapAt_4 rfl ?_
  show Go w f 7 [some (rv w r0), some (.int x1), none] [.int y2] M
  refine g_istore_n C dX1_gapAt_7 rfl (by decide) rfl (L2 := [some (rv w r0), some (.int x1), some (.int y2)]) rfl ?_
  refine g_iload_n C dX1_gapAt_8 rfl rfl ?_
  refine g_bipush (v := 48) C dX1_gapAt_9 rfl ?_
  refine g_bipush (v := 57) C dX1_gapAt_11 rfl ?_
  refine g_callSN (As := [.int y2, .int (48 : Int32), .int (57 : Int32)]) C (ct_X5_isWithin C.wf rfl) ln_RX1_27 mi_X5_isWithin (by decide) cs_0 (by decide) dX1_gapAt_13 rfl ?_
  show Go w f 16 [some (rv w r0), some (.int x1), some (.int y2)] [.int (f_X5_isWithin y2 (48 : Int32) (57 : Int32))] M
  refine g_if_eq 29 C dX1_gapAt_16 (by decide) (fun c4 => ?_) (fun c4 => ?_)
  · replace h := of_ift h c4
    refine g_aload_n C dX1_gapAt_29 rfl rfl ?_
    refine g_iload_n C dX1_gapAt_30 rfl rfl ?_
    obtain ⟨y5, e6, h⟩ := of_obb h
    refine g_callV (As := [.int x1]) C (ct_X1_signAt C.wf e6) g1 lk_RX1_23 mi_X1_signAt (by decide) cs_0 (by decide) dX1_gapAt_31 rfl ?_
    show Go w f 34 [some (rv w r0), some (.int x1), some (.int y2)] [.int y5] M
    refine g_bipush (v := 48) C dX1_gapAt_34 rfl ?_
    refine g_isub C dX1_gapAt_36 ?_
    cases h
    exact hR 37 _ ⟨.int, rfl, rfl⟩ dX1_gapAt_37
  · replace h := of_iff h c4
    refine g_bipush (v := 10) C dX1_gapAt_19 rfl ?_
    refine g_iload_n C dX1_gapAt_21 rfl rfl ?_
    refine g_iadd C dX1_gapAt_22 ?_
    refine g_bipush (v := 48) C dX1_gapAt_23 rfl ?_
    refine g_isub C dX1_gapAt_25 ?_
    refine g_goto 37 C dX1_gapAt_26 (by decide) ?_
    cases h
    exact hR 37 _ ⟨.int, rfl, rfl⟩ dX1_gapAt_37
def f_X5_reasonOfPart (r0 : Nat) (x1 : Int32) (M : Mem) : Option (Int32 × Mem) := gdd (kd r0 = 6) <| gdd (kd (fld r0 3) = 2) <| obb (f_X1_signAt (fld r0 3) x1 M) fun y3 => if y3 = (43 : Int32) then (gdd (kd (fld r0 0) = 5) <| bvv (sI M (fld r0 0) 6 ((gI M (fld r0 0) 6) + (1 : Int32))) fun M23 => some ((0 : Int32), M23)) else (obb (f_X1_signAt (fld r0 3) x1 M) fun y6 => gdd (kd (fld r0 0) = 5) <| obb (f_X4_editionAt (fld r0 0) (y6 - (48 : Int32)) M) fun y9 => obb (f_X1_gapAt (fld r0 3) (x1 + (2 : Int32)) M) fun y11 => if y9 = 0 then (some ((-1 : Int32), M)) else (gdd (kd y9 = 1) <| obb (f_X0_hasGap y9 y11 M) fun y15 => if y15 = 0 then (some ((-1 : Int32), M)) else (opp (f_X5_decide r0 y9 y11 M) fun y20 M18 => if y20 ≤ (10 : Int32) then (some (y20, M18)) else (some ((0 : Int32), M18)))))
set_option maxRecDepth 100000 in
set_option maxHeartbeats 4000000 in
theorem ct_X5_reasonOfPart {l : Launch} {w : Om} (hw : Wf w) {r0 : Nat} {x1 : Int32} {M : Mem} {r : Int32} {M2 : Mem} (h : f_X5_reasonOfPart r0 x1 M = some (r, M2)) : Ct l w yX5_reasonOfPart cX5_reasonOfPart 5 (some .int) 6 [rv w r0, .int x1] M (some (.int r)) M2 := by
  refine ct_of hw (by decide) (cat_s (rv_cat _ _) (cat_s rfl cat_0)) (Nat.le_of_ble_eq_true rfl) (fun f _ C hR => ?_)
  show Go w f 0 [some (rv w r0), some (.int x1), none, none, none] [] M
  unfold f_X5_reasonOfPart at h
  refine g_aload_n C dX5_reasonOfPart_0 rfl rfl ?_
  obtain ⟨g1, h⟩ := of_gdd h
  refine gf_5_3 C fl_RX5_26 g1 dX5_reasonOfPart_1 ?_
  refine g_iload_n C dX5_reasonOfPart_4 rfl rfl ?_
  obtain ⟨g2, h⟩ := of_gdd h
  obtain ⟨y3, e4, h⟩ := of_obb h
  refine g_callV (As := [.int x1]) C (ct_X1_signAt C.wf e4) g2 lk_RX5_297 mi_X1_signAt (by decide) cs_0 (by decide) dX5_reasonOfPart_5 rfl ?_
  show Go w f 8 [some (rv w r0), some (.int x1), none, none, none] [.int y3] M
  refine g_bipush (v := 43) C dX5_reasonOfPart_8 rfl ?_
  refine g_icmp_ne 28 C dX5_reasonOfPart_10 (by decide) (fun c5 => ?_) (fun c5 => ?_)
  · replace h := of_iff h c5
    refine g_aload_n C dX5_reasonOfPart_28 rfl rfl ?_
    refine gf_5_0 C fl_RX5_10 g1 dX5_reasonOfPart_29 ?_
    refine g_aload_n C dX5_reasonOfPart_32 rfl rfl ?_
    refine gf_5_3 C fl_RX5_26 g1 dX5_reasonOfPart_33 ?_
    refine g_iload_n C dX5_reasonOfPart_36 rfl rfl ?_
    obtain ⟨y6, e7, h⟩ := of_obb h
    refine g_callV (As := [.int x1]) C (ct_X1_signAt C.wf e7) g2 lk_RX5_297 mi_X1_signAt (by decide) (cs_r cs_0) (by decide) dX5_reasonOfPart_37 rfl ?_
    show Go w f 40 [some (rv w r0), some (.int x1), none, none, none] [.int y6, rv w (fld r0 0)] M
    refine g_bipush (v := 48) C dX5_reasonOfPart_40 rfl ?_
    refine g_isub C dX5_reasonOfPart_42 ?_
    obtain ⟨g8, h⟩ := of_gdd h
    obtain ⟨y9, e10, h⟩ := of_obb h
    refine g_callV (As := [.int (y6 - (48 : Int32))]) C (ct_X4_editionAt C.wf e10) g8 lk_RX5_121 mi_X4_editionAt (by decide) cs_0 (by decide) dX5_reasonOfPart_43 rfl ?_
    show Go w f 46 [some (rv w r0), some (.int x1), none, none, none] [rv w y9] M
    refine g_astore_n C dX5_reasonOfPart_46 rfl (by decide) rfl (L2 := [some (rv w r0), some (.int x1), some (rv w y9), none, none]) rfl ?_
    refine g_aload_n C dX5_reasonOfPart_47 rfl rfl ?_
    refine gf_5_3 C fl_RX5_26 g1 dX5_reasonOfPart_48 ?_
    refine g_iload_n C dX5_reasonOfPart_51 rfl rfl ?_
    refine g_iconst (v := 2) C dX5_reasonOfPart_52 rfl ?_
    refine g_iadd C dX5_reasonOfPart_53 ?_
    obtain ⟨y11, e12, h⟩ := of_obb h
    refine g_callV (As := [.int (x1 + (2 : Int32))]) C (ct_X1_gapAt C.wf e12) g2 lk_RX5_300 mi_X1_gapAt (by decide) cs_0 (by decide) dX5_reasonOfPart_54 rfl ?_
    show Go w f 57 [some (rv w r0), some (.int x1), some (rv w y9), none, none] [.int y11] M
    refine g_istore_n C dX5_reasonOfPart_57 rfl (by decide) (rv_cat _ _) (L2 := [some (rv w r0), some (.int x1), some (rv w y9), some (.int y11), none]) rfl ?_
    refine g_aload_n C dX5_reasonOfPart_58 rfl rfl ?_
    refine g_ifnull 70 C dX5_reasonOfPart_59 (by decide) (fun c13 => ?_) (fun c13 => ?_)
    · replace h := of_ift h c13
      refine g_iconst (v := -1) C dX5_reasonOfPart_70 rfl ?_
      cases h
      exact hR 71 _ ⟨.int, rfl, rfl⟩ dX5_reasonOfPart_71
    · replace h := of_iff h c13
      refine g_aload_n C dX5_reasonOfPart_62 rfl rfl ?_
      refine g_iload_n C dX5_reasonOfPart_63 rfl rfl ?_
      obtain ⟨g14, h⟩ := of_gdd h
      obtain ⟨y15, e16, h⟩ := of_obb h
      refine g_callV (As := [.int y11]) C (ct_X0_hasGap C.wf e16) g14 lk_RX5_129 mi_X0_hasGap (by decide) cs_0 (by decide) dX5_reasonOfPart_64 rfl ?_
      show Go w f 67 [some (rv w r0), some (.int x1), some (rv w y9), some (.int y11), none] [.int y15] M
      refine g_if_ne 72 C dX5_reasonOfPart_67 (by decide) (fun c17 => ?_) (fun c17 => ?_)
      · replace h := of_iff h c17
        refine g_aload_n C dX5_reasonOfPart_72 rfl rfl ?_
        refine g_aload_n C dX5_reasonOfPart_73 rfl rfl ?_
        refine g_iload_n C dX5_reasonOfPart_74 rfl rfl ?_
        obtain ⟨y20, M18, e19, h⟩ := of_opp h
        refine g_callV (As := [rv w y9, .int y11]) C (ct_X5_decide C.wf e19) g1 lk_RX5_132 mi_X5_decide (by decide) cs_0 (by decide) dX5_reasonOfPart_75 rfl ?_
        show Go w f 78 [some (rv w r0), some (.int x1), some (rv w y9), some (.int y11), none] [.int y20] M18
        refine g_istore C dX5_reasonOfPart_78 (by decide) rfl (L2 := [some (rv w r0), some (.int x1), some (rv w y9), some (.int y11), some (.int y20)]) rfl ?_
        refine g_iload C dX5_reasonOfPart_80 rfl ?_
        refine g_bipush (v := 10) C dX5_reasonOfPart_82 rfl ?_
        refine g_icmp_le 91 C dX5_reasonOfPart_84 (by decide) (fun c21 => ?_) (fun c21 => ?_)
        · replace h := of_ift h c21
          refine g_iload C dX5_reasonOfPart_91 rfl ?_
          cases h
          exact hR 93 _ ⟨.int, rfl, rfl⟩ dX5_reasonOfPart_93
        · replace h := of_iff h c21
          refine g_iconst (v := 0) C dX5_reasonOfPart_87 rfl ?_
          refine g_goto 93 C dX5_reasonOfPart_88 (by decide) ?_
          cases h
          exact hR 93 _ ⟨.int, rfl, rfl⟩ dX5_reasonOfPart_93
      · replace h := of_ift h c17
        refine g_iconst (v := -1) C dX5_reasonOfPart_70 rfl ?_
        cases h
        exact hR 71 _ ⟨.int, rfl, rfl⟩ dX5_reasonOfPart_71
  · replace h := of_ift h c5
    refine g_aload_n C dX5_reasonOfPart_13 rfl rfl ?_
    refine gf_5_0 C fl_RX5_10 g1 dX5_reasonOfPart_14 ?_
    refine g_dup C (rv_cat _ _) dX5_reasonOfPart_17 ?_
    obtain ⟨g22, h⟩ := of_gdd h
    refine gf_4_6 C fl_RX5_139 g22 dX5_reasonOfPart_18 ?_
    refine g_iconst (v := 1) C dX5_reasonOfPart_21 rfl ?_
    refine g_iadd C dX5_reasonOfPart_22 ?_
    refine pf_4_6 C fl_RX5_139 g22 dX5_reasonOfPart_23 ?_
    obtain ⟨M23, e24, h⟩ := of_bvv h
    refine g_mem e24 ?_
    refine g_iconst (v := 0) C dX5_reasonOfPart_26 rfl ?_
    cases h
    exact hR 27 _ ⟨.int, rfl, rfl⟩ dX5_reasonOfPart_27
def f_X5_plead_27 : Nat → Nat → Int32 → Int32 → Mem → Option (Int32 × Mem)
  | 0, _, _, _, _ => none
  | n + 1, r0, x1, x2, M => gdd (kd r0 = 6) <| gdd (kd (fld r0 3) = 2) <| if (gI M (fld r0 3) 1) ≤ x2 then (bvv (sI M (fld r0 3) 1 (0 : Int32)) fun M204 => some (x1, M204)) else (if (gI M r0 8) = 0 then (obb (f_X1_beginsPart (fld r0 3) x2 M) fun y209 => if y209 = 0 then (bvv (x2 + (1 : Int32)) fun y212 => (f_X5_plead_27 n) r0 x1 y212 M) else (opp (f_X5_reasonOfPart r0 x2 M) fun y216 M214 => if y216 = 0 then (bvv (x1 + (1 : Int32)) fun y228 => bvv (x2 + (1 : Int32)) fun y230 => (f_X5_plead_27 n) r0 y228 y230 M214) else (bvv (sI M214 r0 8 (1 : Int32)) fun M218 => bvv (sI M218 r0 9 y216) fun M220 => bvv (sI M220 r0 10 x1) fun M222 => bvv (sI M222 r0 11 x2) fun M224 => bvv (x2 + (1 : Int32)) fun y226 => (f_X5_plead_27 n) r0 x1 y226 M224))) else (bvv (sI M (fld r0 3) 1 (0 : Int32)) fun M207 => some (x1, M207)))
set_option maxRecDepth 100000 in
set_option maxHeartbeats 4000000 in
theorem t_X5_plead_27 {w : Om} {f : Fr} {r : Int32} {M2 : Mem} (C : Cx w f RX5 cX5_plead 4 7) (hR : Rt w f cX5_plead (some .int) (some (.int r)) M2)   : ∀ (n : Nat) (r0 : Nat) (x1 : Int32) (x2 : Int32) (M : Mem), f_X5_plead_27 n r0 x1 x2 M = some (r, M2) → Go w f 27 [some (rv w r0), some (.int x1), some (.int x2), none] [] M := by
  intro n
  induction n with
  | zero =>
    intro r0 x1 x2 M h
    cases h
  | succ n ih =>
    intro r0 x1 x2 M h
    rw [f_X5_plead_27] at h
    refine g_iload_n C dX5_plead_27 rfl rfl ?_
    refine g_aload_n C dX5_plead_28 rfl rfl ?_
    obtain ⟨g201, h⟩ := of_gdd h
    refine gf_5_3 C fl_RX5_26 g201 dX5_plead_29 ?_
    obtain ⟨g202, h⟩ := of_gdd h
    refine gf_1_1 C fl_RX5_118 g202 dX5_plead_32 ?_
    refine g_icmp_ge 98 C dX5_plead_35 (by decide) (fun c203 => ?_) (fun c203 => ?_)
    · replace h := of_ift h c203
      refine g_aload_n C dX5_plead_98 rfl rfl ?_
      refine gf_5_3 C fl_RX5_26 g201 dX5_plead_99 ?_
      refine g_iconst (v := 0) C dX5_plead_102 rfl ?_
      refine pf_1_1 C fl_RX5_118 g202 dX5_plead_103 ?_
      obtain ⟨M204, e205, h⟩ := of_bvv h
      refine g_mem e205 ?_
      refine g_iload_n C dX5_plead_106 rfl rfl ?_
      cases h
      exact hR 107 _ ⟨.int, rfl, rfl⟩ dX5_plead_107
    · replace h := of_iff h c203
      refine g_aload_n C dX5_plead_38 rfl rfl ?_
      refine gf_5_8 C fl_RX5_148 g201 dX5_plead_39 ?_
      refine g_if_ne 98 C dX5_plead_42 (by decide) (fun c206 => ?_) (fun c206 => ?_)
      · replace h := of_iff h c206
        refine g_aload_n C dX5_plead_98 rfl rfl ?_
        refine gf_5_3 C fl_RX5_26 g201 dX5_plead_99 ?_
        refine g_iconst (v := 0) C dX5_plead_102 rfl ?_
        refine pf_1_1 C fl_RX5_118 g202 dX5_plead_103 ?_
        obtain ⟨M207, e208, h⟩ := of_bvv h
        refine g_mem e208 ?_
        refine g_iload_n C dX5_plead_106 rfl rfl ?_
        cases h
        exact hR 107 _ ⟨.int, rfl, rfl⟩ dX5_plead_107
      · replace h := of_ift h c206
        refine g_aload_n C dX5_plead_45 rfl rfl ?_
        refine gf_5_3 C fl_RX5_26 g201 dX5_plead_46 ?_
        refine g_iload_n C dX5_plead_49 rfl rfl ?_
        obtain ⟨y209, e210, h⟩ := of_obb h
        refine g_callV (As := [.int x2]) C (ct_X1_beginsPart C.wf e210) g202 lk_RX5_151 mi_X1_beginsPart (by decide) cs_0 (by decide) dX5_plead_50 rfl ?_
        show Go w f 53 [some (rv w r0), some (.int x1), some (.int x2), none] [.int y209] M
        refine g_if_eq 92 C dX5_plead_53 (by decide) (fun c211 => ?_) (fun c211 => ?_)
        · replace h := of_ift h c211
          obtain ⟨y212, e213, h⟩ := of_bvv h
          refine g_iinc (v := y212) C dX5_plead_92 rfl e213.symm (by decide) rfl (L2 := [some (rv w r0), some (.int x1), some (.int y212), none]) rfl ?_
          refine g_goto 27 C dX5_plead_95 (by decide) ?_
          exact ih r0 x1 y212 M h
        · replace h := of_iff h c211
          refine g_aload_n C dX5_plead_56 rfl rfl ?_
          refine g_iload_n C dX5_plead_57 rfl rfl ?_
          obtain ⟨y216, M214, e215, h⟩ := of_opp h
          refine g_callV (As := [.int x2]) C (ct_X5_reasonOfPart C.wf e215) g201 lk_RX5_154 mi_X5_reasonOfPart (by decide) cs_0 (by decide) dX5_plead_58 rfl ?_
          show Go w f 61 [some (rv w r0), some (.int x1), some (.int x2), none] [.int y216] M214
          refine g_istore_n C dX5_plead_61 rfl (by decide) rfl (L2 := [some (rv w r0), some (.int x1), some (.int x2), some (.int y216)]) rfl ?_
          refine g_iload_n C dX5_plead_62 rfl rfl ?_
          refine g_if_ne 72 C dX5_plead_63 (by decide) (fun c217 => ?_) (fun c217 => ?_)
          · replace h := of_iff h c217
            refine g_aload_n C dX5_plead_72 rfl rfl ?_
            refine g_iconst (v := 1) C dX5_plead_73 rfl ?_
            refine pf_5_8 C fl_RX5_148 g201 (isb_1) dX5_plead_74 ?_
            obtain ⟨M218, e219, h⟩ := of_bvv h
            refine g_mem e219 ?_
            refine g_aload_n C dX5_plead_77 rfl rfl ?_
            refine g_iload_n C dX5_plead_78 rfl rfl ?_
            refine pf_5_9 C fl_RX5_158 g201 dX5_plead_79 ?_
            obtain ⟨M220, e221, h⟩ := of_bvv h
            refine g_mem e221 ?_
            refine g_aload_n C dX5_plead_82 rfl rfl ?_
            refine g_iload_n C dX5_plead_83 rfl rfl ?_
            refine pf_5_10 C fl_RX5_161 g201 dX5_plead_84 ?_
            obtain ⟨M222, e223, h⟩ := of_bvv h
            refine g_mem e223 ?_
            refine g_aload_n C dX5_plead_87 rfl rfl ?_
            refine g_iload_n C dX5_plead_88 rfl rfl ?_
            refine pf_5_11 C fl_RX5_164 g201 dX5_plead_89 ?_
            obtain ⟨M224, e225, h⟩ := of_bvv h
            refine g_mem e225 ?_
            obtain ⟨y226, e227, h⟩ := of_bvv h
            refine g_iinc (v := y226) C dX5_plead_92 rfl e227.symm (by decide) rfl (L2 := [some (rv w r0), some (.int x1), some (.int y226), some (.int y216)]) rfl ?_
            refine g_goto 27 C dX5_plead_95 (by decide) ?_
            refine g_mask (bs := [true, true, true, false]) (L2 := [some (rv w r0), some (.int x1), some (.int y226), none]) rfl ?_
            exact ih r0 x1 y226 M224 h
          · replace h := of_ift h c217
            obtain ⟨y228, e229, h⟩ := of_bvv h
            refine g_iinc (v := y228) C dX5_plead_66 rfl e229.symm (by decide) (rv_cat _ _) (L2 := [some (rv w r0), some (.int y228), some (.int x2), some (.int y216)]) rfl ?_
            refine g_goto 92 C dX5_plead_69 (by decide) ?_
            obtain ⟨y230, e231, h⟩ := of_bvv h
            refine g_iinc (v := y230) C dX5_plead_92 rfl e231.symm (by decide) rfl (L2 := [some (rv w r0), some (.int y228), some (.int y230), some (.int y216)]) rfl ?_
            refine g_goto 27 C dX5_plead_95 (by decide) ?_
            refine g_mask (bs := [true, true, true, false]) (L2 := [some (rv w r0), some (.int y228), some (.int y230), none]) rfl ?_
            exact ih r0 y228 y230 M214 h
def f_X5_plead (r0 : Nat) (M : Mem) : Option (Int32 × Mem) := gdd (kd r0 = 6) <| gdd (kd (fld r0 3) = 2) <| obb (f_X1_suitsFault (fld r0 3) M) fun y3 => if y3 = (-1 : Int32) then (obb (f_X5_keepState r0 M) fun M6 => bvv (sI M6 r0 8 (0 : Int32)) fun M8 => f_X5_plead_27 FU r0 (0 : Int32) (0 : Int32) M8) else (some ((-2 : Int32), M))
set_option maxRecDepth 100000 in
set_option maxHeartbeats 4000000 in
theorem ct_X5_plead {l : Launch} {w : Om} (hw : Wf w) {r0 : Nat} {M : Mem} {r : Int32} {M2 : Mem} (h : f_X5_plead r0 M = some (r, M2)) : Ct l w yX5_plead cX5_plead 4 (some .int) 7 [rv w r0] M (some (.int r)) M2 := by
  refine ct_of hw (by decide) (cat_s (rv_cat _ _) cat_0) (Nat.le_of_ble_eq_true rfl) (fun f _ C hR => ?_)
  show Go w f 0 [some (rv w r0), none, none, none] [] M
  unfold f_X5_plead at h
  refine g_aload_n C dX5_plead_0 rfl rfl ?_
  obtain ⟨g1, h⟩ := of_gdd h
  refine gf_5_3 C fl_RX5_26 g1 dX5_plead_1 ?_
  obtain ⟨g2, h⟩ := of_gdd h
  obtain ⟨y3, e4, h⟩ := of_obb h
  refine g_callV (As := []) C (ct_X1_suitsFault C.wf e4) g2 lk_RX5_145 mi_X1_suitsFault (by decide) cs_0 (by decide) dX5_plead_4 rfl ?_
  show Go w f 7 [some (rv w r0), none, none, none] [.int y3] M
  refine g_iconst (v := -1) C dX5_plead_7 rfl ?_
  refine g_icmp_eq 14 C dX5_plead_8 (by decide) (fun c5 => ?_) (fun c5 => ?_)
  · replace h := of_ift h c5
    refine g_aload_n C dX5_plead_14 rfl rfl ?_
    obtain ⟨M6, e7, h⟩ := of_obb h
    refine g_callV (As := []) C (ct_X5_keepState C.wf e7) g1 lk_RX5_52 mi_X5_keepState (by decide) cs_0 (by decide) dX5_plead_15 rfl ?_
    show Go w f 18 [some (rv w r0), none, none, none] [] M6
    refine g_aload_n C dX5_plead_18 rfl rfl ?_
    refine g_iconst (v := 0) C dX5_plead_19 rfl ?_
    refine pf_5_8 C fl_RX5_148 g1 (isb_0) dX5_plead_20 ?_
    obtain ⟨M8, e9, h⟩ := of_bvv h
    refine g_mem e9 ?_
    refine g_iconst (v := 0) C dX5_plead_23 rfl ?_
    refine g_istore_n C dX5_plead_24 rfl (by decide) (rv_cat _ _) (L2 := [some (rv w r0), some (.int (0 : Int32)), none, none]) rfl ?_
    refine g_iconst (v := 0) C dX5_plead_25 rfl ?_
    refine g_istore_n C dX5_plead_26 rfl (by decide) rfl (L2 := [some (rv w r0), some (.int (0 : Int32)), some (.int (0 : Int32)), none]) rfl ?_
    exact t_X5_plead_27 C hR _ r0 (0 : Int32) (0 : Int32) M8 h
  · replace h := of_iff h c5
    refine g_bipush (v := -2) C dX5_plead_11 rfl ?_
    cases h
    exact hR 13 _ ⟨.int, rfl, rfl⟩ dX5_plead_13
def f_X5_why (r0 : Nat) (x1 : Int32) (M : Mem) : Option Int32 := if (f_X5_isWithin x1 (0 : Int32) (2 : Int32)) = 0 then (some (-1 : Int32)) else (gdd (kd r0 = 6) <| if (gI M r0 8) = 0 then (some (-4 : Int32)) else (if x1 = nI 0 then (some (gI M r0 9)) else if x1 = nI 1 then (some (gI M r0 10)) else (some (gI M r0 11))))
set_option maxRecDepth 100000 in
set_option maxHeartbeats 4000000 in
theorem ct_X5_why {l : Launch} {w : Om} (hw : Wf w) {r0 : Nat} {x1 : Int32}  {M : Mem} {r : Int32} (h : f_X5_why r0 x1 M = some r) : Ct l w yX5_why cX5_why 2 (some .int) 1 [rv w r0, .int x1] M (some (.int r)) M := by
  refine ct_of hw (by decide) (cat_s (rv_cat _ _) (cat_s rfl cat_0)) (Nat.le_of_ble_eq_true rfl) (fun f _ C hR => ?_)
  show Go w f 0 [some (rv w r0), some (.int x1)] [] M
  unfold f_X5_why at h
  refine g_iload_n C dX5_why_0 rfl rfl ?_
  refine g_iconst (v := 0) C dX5_why_1 rfl ?_
  refine g_iconst (v := 2) C dX5_why_2 rfl ?_
  refine g_callS (As := [.int x1, .int (0 : Int32), .int (2 : Int32)]) C (ct_X5_isWithin C.wf rfl) lk_RX5_48 mi_X5_isWithin (by decide) cs_0 (by decide) dX5_why_3 rfl ?_
  show Go w f 6 [some (rv w r0), some (.int x1)] [.int (f_X5_isWithin x1 (0 : Int32) (2 : Int32))] M
  refine g_if_ne 11 C dX5_why_6 (by decide) (fun c1 => ?_) (fun c1 => ?_)
  · replace h := of_iff h c1
    refine g_aload_n C dX5_why_11 rfl rfl ?_
    obtain ⟨g2, h⟩ := of_gdd h
    refine gf_5_8 C fl_RX5_148 g2 dX5_why_12 ?_
    refine g_if_ne 21 C dX5_why_15 (by decide) (fun c3 => ?_) (fun c3 => ?_)
    · replace h := of_iff h c3
      refine g_iload_n C dX5_why_21 rfl rfl ?_
      by_cases c4 : x1 = nI 0
      · replace h := of_ift h c4
        refine g_lsw (26) 48 C dX5_why_22 (by decide) (by rw [c4]; decide) (by decide) ?_
        refine g_aload_n C dX5_why_48 rfl rfl ?_
        refine gf_5_9 C fl_RX5_158 g2 dX5_why_49 ?_
        cases h
        exact hR 52 _ ⟨.int, rfl, rfl⟩ dX5_why_52
      replace h := of_iff h c4
      by_cases c5 : x1 = nI 1
      · replace h := of_ift h c5
        refine g_lsw (31) 53 C dX5_why_22 (by decide) (by rw [c5]; decide) (by decide) ?_
        refine g_aload_n C dX5_why_53 rfl rfl ?_
        refine gf_5_10 C fl_RX5_161 g2 dX5_why_54 ?_
        cases h
        exact hR 57 _ ⟨.int, rfl, rfl⟩ dX5_why_57
      replace h := of_iff h c5
      refine g_lsw (36) 58 C dX5_why_22 (by decide) (ls_out01 c4 c5) (by decide) ?_
      refine g_aload_n C dX5_why_58 rfl rfl ?_
      refine gf_5_11 C fl_RX5_164 g2 dX5_why_59 ?_
      cases h
      exact hR 62 _ ⟨.int, rfl, rfl⟩ dX5_why_62
    · replace h := of_ift h c3
      refine g_bipush (v := -4) C dX5_why_18 rfl ?_
      cases h
      exact hR 20 _ ⟨.int, rfl, rfl⟩ dX5_why_20
  · replace h := of_ift h c1
    refine g_iconst (v := -1) C dX5_why_9 rfl ?_
    cases h
    exact hR 10 _ ⟨.int, rfl, rfl⟩ dX5_why_10
def f_X0_hasComma (r0 : Nat) (x1 : Int32) (M : Mem) : Option Int32 := gdd (kd r0 = 1) <| if (((gI M r0 2) >>> (x1 &&& 31)) &&& (1 : Int32)) = (1 : Int32) then (some (1 : Int32)) else (some (0 : Int32))
set_option maxRecDepth 100000 in
set_option maxHeartbeats 4000000 in
theorem ct_X0_hasComma {l : Launch} {w : Om} (hw : Wf w) {r0 : Nat} {x1 : Int32}  {M : Mem} {r : Int32} (h : f_X0_hasComma r0 x1 M = some r) : Ct l w yX0_hasComma cX0_hasComma 2 (some .boolean) 0 [rv w r0, .int x1] M (some (.int r)) M := by
  refine ct_of hw (by decide) (cat_s (rv_cat _ _) (cat_s rfl cat_0)) (Nat.le_of_ble_eq_true rfl) (fun f _ C hR => ?_)
  show Go w f 0 [some (rv w r0), some (.int x1)] [] M
  unfold f_X0_hasComma at h
  refine g_aload_n C dX0_hasComma_0 rfl rfl ?_
  obtain ⟨g1, h⟩ := of_gdd h
  refine gf_0_2 C fl_RX0_27 g1 dX0_hasComma_1 ?_
  refine g_iload_n C dX0_hasComma_4 rfl rfl ?_
  refine g_ishr C dX0_hasComma_5 ?_
  refine g_iconst (v := 1) C dX0_hasComma_6 rfl ?_
  refine g_iand C dX0_hasComma_7 ?_
  refine g_iconst (v := 1) C dX0_hasComma_8 rfl ?_
  refine g_icmp_ne 16 C dX0_hasComma_9 (by decide) (fun c2 => ?_) (fun c2 => ?_)
  · replace h := of_iff h c2
    refine g_iconst (v := 0) C dX0_hasComma_16 rfl ?_
    cases h
    exact hR 17 _ ⟨.boolean, rfl, rfl⟩ dX0_hasComma_17
  · replace h := of_ift h c2
    refine g_iconst (v := 1) C dX0_hasComma_12 rfl ?_
    refine g_goto 17 C dX0_hasComma_13 (by decide) ?_
    cases h
    exact hR 17 _ ⟨.boolean, rfl, rfl⟩ dX0_hasComma_17
def f_X0_textSign_4 (M : Mem) : Nat → Nat → Int32 → Int32 → Int32 → Option Int32
  | 0, _, _, _, _ => none
  | n + 1, r0, x1, x2, x3 => gdd (kd r0 = 1) <| if (gI M r0 1) ≤ x3 then (some (-4 : Int32)) else (if x2 = x1 then (obb (f_X0_kindAt r0 x3 M) fun y216 => some ((97 : Int32) + y216)) else (bvv (x2 + (1 : Int32)) fun y204 => obb (f_X0_hasComma r0 x3 M) fun y206 => if y206 = 0 then (bvv (x3 + (1 : Int32)) fun y209 => (f_X0_textSign_4 M n) r0 x1 y204 y209) else (if y204 = x1 then (some (44 : Int32)) else (bvv (y204 + (1 : Int32)) fun y212 => bvv (x3 + (1 : Int32)) fun y214 => (f_X0_textSign_4 M n) r0 x1 y212 y214))))
set_option maxRecDepth 100000 in
set_option maxHeartbeats 4000000 in
theorem t_X0_textSign_4 {w : Om} {f : Fr} {M : Mem} {r : Int32} (C : Cx w f RX0 cX0_textSign 4 1) (hR : Rt w f cX0_textSign (some .int) (some (.int r)) M)   : ∀ (n : Nat) (r0 : Nat) (x1 : Int32) (x2 : Int32) (x3 : Int32), f_X0_textSign_4 M n r0 x1 x2 x3 = some r → Go w f 4 [some (rv w r0), some (.int x1), some (.int x2), some (.int x3)] [] M := by
  intro n
  induction n with
  | zero =>
    intro r0 x1 x2 x3 h
    cases h
  | succ n ih =>
    intro r0 x1 x2 x3 h
    rw [f_X0_textSign_4] at h
    refine g_iload_n C dX0_textSign_4 rfl rfl ?_
    refine g_aload_n C dX0_textSign_5 rfl rfl ?_
    obtain ⟨g201, h⟩ := of_gdd h
    refine gf_0_1 C fl_RX0_23 g201 dX0_textSign_6 ?_
    refine g_icmp_ge 54 C dX0_textSign_9 (by decide) (fun c202 => ?_) (fun c202 => ?_)
    · replace h := of_ift h c202
      refine g_bipush (v := -4) C dX0_textSign_54 rfl ?_
      cases h
      exact hR 56 _ ⟨.int, rfl, rfl⟩ dX0_textSign_56
    · replace h := of_iff h c202
      refine g_iload_n C dX0_textSign_12 rfl rfl ?_
      refine g_iload_n C dX0_textSign_13 rfl rfl ?_
      refine g_icmp_ne 26 C dX0_textSign_14 (by decide) (fun c203 => ?_) (fun c203 => ?_)
      · replace h := of_iff h c203
        obtain ⟨y204, e205, h⟩ := of_bvv h
        refine g_iinc (v := y204) C dX0_textSign_26 rfl e205.symm (by decide) rfl (L2 := [some (rv w r0), some (.int x1), some (.int y204), some (.int x3)]) rfl ?_
        refine g_aload_n C dX0_textSign_29 rfl rfl ?_
        refine g_iload_n C dX0_textSign_30 rfl rfl ?_
        obtain ⟨y206, e207, h⟩ := of_obb h
        refine g_callV (As := [.int x3]) C (ct_X0_hasComma C.wf e207) g201 lk_RX0_45 mi_X0_hasComma (by decide) cs_0 (by decide) dX0_textSign_31 rfl ?_
        show Go w f 34 [some (rv w r0), some (.int x1), some (.int y204), some (.int x3)] [.int y206] M
        refine g_if_eq 48 C dX0_textSign_34 (by decide) (fun c208 => ?_) (fun c208 => ?_)
        · replace h := of_ift h c208
          obtain ⟨y209, e210, h⟩ := of_bvv h
          refine g_iinc (v := y209) C dX0_textSign_48 rfl e210.symm (by decide) rfl (L2 := [some (rv w r0), some (.int x1), some (.int y204), some (.int y209)]) rfl ?_
          refine g_goto 4 C dX0_textSign_51 (by decide) ?_
          exact ih r0 x1 y204 y209 h
        · replace h := of_iff h c208
          refine g_iload_n C dX0_textSign_37 rfl rfl ?_
          refine g_iload_n C dX0_textSign_38 rfl rfl ?_
          refine g_icmp_ne 45 C dX0_textSign_39 (by decide) (fun c211 => ?_) (fun c211 => ?_)
          · replace h := of_iff h c211
            obtain ⟨y212, e213, h⟩ := of_bvv h
            refine g_iinc (v := y212) C dX0_textSign_45 rfl e213.symm (by decide) rfl (L2 := [some (rv w r0), some (.int x1), some (.int y212), some (.int x3)]) rfl ?_
            obtain ⟨y214, e215, h⟩ := of_bvv h
            refine g_iinc (v := y214) C dX0_textSign_48 rfl e215.symm (by decide) rfl (L2 := [some (rv w r0), some (.int x1), some (.int y212), some (.int y214)]) rfl ?_
            refine g_goto 4 C dX0_textSign_51 (by decide) ?_
            exact ih r0 x1 y212 y214 h
          · replace h := of_ift h c211
            refine g_bipush (v := 44) C dX0_textSign_42 rfl ?_
            cases h
            exact hR 44 _ ⟨.int, rfl, rfl⟩ dX0_textSign_44
      · replace h := of_ift h c203
        refine g_bipush (v := 97) C dX0_textSign_17 rfl ?_
        refine g_aload_n C dX0_textSign_19 rfl rfl ?_
        refine g_iload_n C dX0_textSign_20 rfl rfl ?_
        obtain ⟨y216, e217, h⟩ := of_obb h
        refine g_callV (As := [.int x3]) C (ct_X0_kindAt C.wf e217) g201 lk_RX0_42 mi_X0_kindAt (by decide) (cs_i cs_0) (by decide) dX0_textSign_21 rfl ?_
        show Go w f 24 [some (rv w r0), some (.int x1), some (.int x2), some (.int x3)] [.int y216, .int (97 : Int32)] M
        refine g_iadd C dX0_textSign_24 ?_
        cases h
        exact hR 25 _ ⟨.int, rfl, rfl⟩ dX0_textSign_25
def f_X0_textSign (r0 : Nat) (x1 : Int32) (M : Mem) : Option Int32 := f_X0_textSign_4 M FU r0 x1 (0 : Int32) (0 : Int32)
set_option maxRecDepth 100000 in
set_option maxHeartbeats 4000000 in
theorem ct_X0_textSign {l : Launch} {w : Om} (hw : Wf w) {r0 : Nat} {x1 : Int32}  {M : Mem} {r : Int32} (h : f_X0_textSign r0 x1 M = some r) : Ct l w yX0_textSign cX0_textSign 4 (some .int) 1 [rv w r0, .int x1] M (some (.int r)) M := by
  refine ct_of hw (by decide) (cat_s (rv_cat _ _) (cat_s rfl cat_0)) (Nat.le_of_ble_eq_true rfl) (fun f _ C hR => ?_)
  show Go w f 0 [some (rv w r0), some (.int x1), none, none] [] M
  unfold f_X0_textSign at h
  refine g_iconst (v := 0) C dX0_textSign_0 rfl ?_
  refine g_istore_n C dX0_textSign_1 rfl (by decide) rfl (L2 := [some (rv w r0), some (.int x1), some (.int (0 : Int32)), none]) rfl ?_
  refine g_iconst (v := 0) C dX0_textSign_2 rfl ?_
  refine g_istore_n C dX0_textSign_3 rfl (by decide) rfl (L2 := [some (rv w r0), some (.int x1), some (.int (0 : Int32)), some (.int (0 : Int32))]) rfl ?_
  exact t_X0_textSign_4 C hR _ r0 x1 (0 : Int32) (0 : Int32) h
def f_X5_sign (r0 : Nat) (x1 : Int32) (x2 : Int32) (M : Mem) : Option Int32 := gdd (kd r0 = 6) <| gdd (kd (fld r0 0) = 5) <| obb (f_X4_editionAt (fld r0 0) x1 M) fun y3 => if y3 = 0 then (some (-1 : Int32)) else (if 0 ≤ x2 then (gdd (kd y3 = 1) <| obb (f_X0_textSign y3 x2 M) fun y8 => some y8) else (some (-1 : Int32)))
set_option maxRecDepth 100000 in
set_option maxHeartbeats 4000000 in
theorem ct_X5_sign {l : Launch} {w : Om} (hw : Wf w) {r0 : Nat} {x1 : Int32} {x2 : Int32}  {M : Mem} {r : Int32} (h : f_X5_sign r0 x1 x2 M = some r) : Ct l w yX5_sign cX5_sign 4 (some .int) 2 [rv w r0, .int x1, .int x2] M (some (.int r)) M := by
  refine ct_of hw (by decide) (cat_s (rv_cat _ _) (cat_s rfl (cat_s rfl cat_0))) (Nat.le_of_ble_eq_true rfl) (fun f _ C hR => ?_)
  show Go w f 0 [some (rv w r0), some (.int x1), some (.int x2), none] [] M
  unfold f_X5_sign at h
  refine g_aload_n C dX5_sign_0 rfl rfl ?_
  obtain ⟨g1, h⟩ := of_gdd h
  refine gf_5_0 C fl_RX5_10 g1 dX5_sign_1 ?_
  refine g_iload_n C dX5_sign_4 rfl rfl ?_
  obtain ⟨g2, h⟩ := of_gdd h
  obtain ⟨y3, e4, h⟩ := of_obb h
  refine g_callV (As := [.int x1]) C (ct_X4_editionAt C.wf e4) g2 lk_RX5_121 mi_X4_editionAt (by decide) cs_0 (by decide) dX5_sign_5 rfl ?_
  show Go w f 8 [some (rv w r0), some (.int x1), some (.int x2), none] [rv w y3] M
  refine g_astore_n C dX5_sign_8 rfl (by decide) rfl (L2 := [some (rv w r0), some (.int x1), some (.int x2), some (rv w y3)]) rfl ?_
  refine g_aload_n C dX5_sign_9 rfl rfl ?_
  refine g_ifnull 17 C dX5_sign_10 (by decide) (fun c5 => ?_) (fun c5 => ?_)
  · replace h := of_ift h c5
    refine g_iconst (v := -1) C dX5_sign_17 rfl ?_
    cases h
    exact hR 18 _ ⟨.int, rfl, rfl⟩ dX5_sign_18
  · replace h := of_iff h c5
    refine g_iload_n C dX5_sign_13 rfl rfl ?_
    refine g_if_ge 19 C dX5_sign_14 (by decide) (fun c6 => ?_) (fun c6 => ?_)
    · replace h := of_ift h c6
      refine g_aload_n C dX5_sign_19 rfl rfl ?_
      refine g_iload_n C dX5_sign_20 rfl rfl ?_
      obtain ⟨g7, h⟩ := of_gdd h
      obtain ⟨y8, e9, h⟩ := of_obb h
      refine g_callV (As := [.int x2]) C (ct_X0_textSign C.wf e9) g7 lk_RX5_167 mi_X0_textSign (by decide) cs_0 (by decide) dX5_sign_21 rfl ?_
      show Go w f 24 [some (rv w r0), some (.int x1), some (.int x2), some (rv w y3)] [.int y8] M
      cases h
      exact hR 24 _ ⟨.int, rfl, rfl⟩ dX5_sign_24
    · replace h := of_iff h c6
      refine g_iconst (v := -1) C dX5_sign_17 rfl ?_
      cases h
      exact hR 18 _ ⟨.int, rfl, rfl⟩ dX5_sign_18
