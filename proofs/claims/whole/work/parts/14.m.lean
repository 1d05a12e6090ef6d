def f_X6_of (r0 : Nat) (x1 : Int32) (x2 : Int32) (M : Mem) : Option Int32 := gdd (kd r0 = 7) <| gdd (kd (fld r0 0) = 8) <| gdd (inb (((73 : Int32) + ((16 : Int32) * x1)) + x2) (ln (fld r0 0)) = true) <| some (gI M (fld r0 0) (((73 : Int32) + ((16 : Int32) * x1)) + x2).toNatClampNeg)
set_option maxRecDepth 100000 in
set_option maxHeartbeats 4000000 in
theorem ct_X6_of {l : Launch} {w : Om} (hw : Wf w) {r0 : Nat} {x1 : Int32} {x2 : Int32}  {M : Mem} {r : Int32} (h : f_X6_of r0 x1 x2 M = some r) : Ct l w yX6_of cX6_of 3 (some .int) 0 [rv w r0, .int x1, .int x2] M (some (.int r)) M := by
  refine ct_of hw (by decide) (cat_s (rv_cat _ _) (cat_s rfl (cat_s rfl cat_0))) (Nat.le_of_ble_eq_true rfl) (fun f _ C hR => ?_)
  show Go w f 0 [some (rv w r0), some (.int x1), some (.int x2)] [] M
  unfold f_X6_of at h
  refine g_aload_n C dX6_of_0 rfl rfl ?_
  obtain ⟨g1, h⟩ := of_gdd h
  refine gf_6_0 C fl_RX6_7 g1 dX6_of_1 ?_
  refine g_bipush (v := 73) C dX6_of_4 rfl ?_
  refine g_bipush (v := 16) C dX6_of_6 rfl ?_
  refine g_iload_n C dX6_of_8 rfl rfl ?_
  refine g_imul C dX6_of_9 ?_
  refine g_iadd C dX6_of_10 ?_
  refine g_iload_n C dX6_of_11 rfl rfl ?_
  refine g_iadd C dX6_of_12 ?_
  obtain ⟨g2, h⟩ := of_gdd h
  obtain ⟨g3, h⟩ := of_gdd h
  refine g_iald C g2 g3 dX6_of_13 ?_
  cases h
  exact hR 14 _ ⟨.int, rfl, rfl⟩ dX6_of_14
def f_X6_isGap (r0 : Nat) (x1 : Int32) (x2 : Int32) (M : Mem) : Option Int32 := gdd (kd r0 = 7) <| obb (f_X6_isEdition r0 x1 M) fun y2 => if y2 = 0 then (some (0 : Int32)) else (obb (f_X6_of r0 x1 (0 : Int32) M) fun y5 => if (f_X6_in x2 (0 : Int32) (y5 - (2 : Int32))) = 0 then (some (0 : Int32)) else (some (1 : Int32)))
set_option maxRecDepth 100000 in
set_option maxHeartbeats 4000000 in
theorem ct_X6_isGap {l : Launch} {w : Om} (hw : Wf w) {r0 : Nat} {x1 : Int32} {x2 : Int32}  {M : Mem} {r : Int32} (h : f_X6_isGap r0 x1 x2 M = some r) : Ct l w yX6_isGap cX6_isGap 3 (some .boolean) 2 [rv w r0, .int x1, .int x2] M (some (.int r)) M := by
  refine ct_of hw (by decide) (cat_s (rv_cat _ _) (cat_s rfl (cat_s rfl cat_0))) (Nat.le_of_ble_eq_true rfl) (fun f _ C hR => ?_)
  show Go w f 0 [some (rv w r0), some (.int x1), some (.int x2)] [] M
  unfold f_X6_isGap at h
  refine g_aload_n C dX6_isGap_0 rfl rfl ?_
  refine g_iload_n C dX6_isGap_1 rfl rfl ?_
  obtain ⟨g1, h⟩ := of_gdd h
  obtain ⟨y2, e3, h⟩ := of_obb h
  refine g_callV (As := [.int x1]) C (ct_X6_isEdition C.wf e3) g1 lk_RX6_57 mi_X6_isEdition (by decide) cs_0 (by decide) dX6_isGap_2 rfl ?_
  show Go w f 5 [some (rv w r0), some (.int x1), some (.int x2)] [.int y2] M
  refine g_if_eq 28 C dX6_isGap_5 (by decide) (fun c4 => ?_) (fun c4 => ?_)
  · replace h := of_ift h c4
    refine g_iconst (v := 0) C dX6_isGap_28 rfl ?_
    cases h
    exact hR 29 _ ⟨.boolean, rfl, rfl⟩ dX6_isGap_29
  · replace h := of_iff h c4
    refine g_iload_n C dX6_isGap_8 rfl rfl ?_
    refine g_iconst (v := 0) C dX6_isGap_9 rfl ?_
    refine g_aload_n C dX6_isGap_10 rfl rfl ?_
    refine g_iload_n C dX6_isGap_11 rfl rfl ?_
    refine g_iconst (v := 0) C dX6_isGap_12 rfl ?_
    obtain ⟨y5, e6, h⟩ := of_obb h
    refine g_callV (As := [.int x1, .int (0 : Int32)]) C (ct_X6_of C.wf e6) g1 lk_RX6_60 mi_X6_of (by decide) (cs_i (cs_i cs_0)) (by decide) dX6_isGap_13 rfl ?_
    show Go w f 16 [some (rv w r0), some (.int x1), some (.int x2)] [.int y5, .int (0 : Int32), .int x2] M
    refine g_iconst (v := 2) C dX6_isGap_16 rfl ?_
    refine g_isub C dX6_isGap_17 ?_
    refine g_callS (As := [.int x2, .int (0 : Int32), .int (y5 - (2 : Int32))]) C (ct_X6_in C.wf rfl) lk_RX6_42 mi_X6_in (by decide) cs_0 (by decide) dX6_isGap_18 rfl ?_
    show Go w f 21 [some (rv w r0), some (.int x1), some (.int x2)] [.int (f_X6_in x2 (0 : Int32) (y5 - (2 : Int32)))] M
    refine g_if_eq 28 C dX6_isGap_21 (by decide) (fun c7 => ?_) (fun c7 => ?_)
    · replace h := of_ift h c7
      refine g_iconst (v := 0) C dX6_isGap_28 rfl ?_
      cases h
      exact hR 29 _ ⟨.boolean, rfl, rfl⟩ dX6_isGap_29
    · replace h := of_iff h c7
      refine g_iconst (v := 1) C dX6_isGap_24 rfl ?_
      refine g_goto 29 C dX6_isGap_25 (by decide) ?_
      cases h
      exact hR 29 _ ⟨.boolean, rfl, rfl⟩ dX6_isGap_29
def f_X6_isStayed (r0 : Nat) (x1 : Int32) (M : Mem) : Option Int32 := gdd (kd r0 = 7) <| gdd (kd (fld r0 0) = 8) <| gdd (inb (0 : Int32) (ln (fld r0 0)) = true) <| obb (f_X6_of r0 x1 (2 : Int32) M) fun y4 => if y4 ≤ (gI M (fld r0 0) ((0 : Int32)).toNatClampNeg) then (some (0 : Int32)) else (some (1 : Int32))
set_option maxRecDepth 100000 in
set_option maxHeartbeats 4000000 in
theorem ct_X6_isStayed {l : Launch} {w : Om} (hw : Wf w) {r0 : Nat} {x1 : Int32}  {M : Mem} {r : Int32} (h : f_X6_isStayed r0 x1 M = some r) : Ct l w yX6_isStayed cX6_isStayed 2 (some .boolean) 1 [rv w r0, .int x1] M (some (.int r)) M := by
  refine ct_of hw (by decide) (cat_s (rv_cat _ _) (cat_s rfl cat_0)) (Nat.le_of_ble_eq_true rfl) (fun f _ C hR => ?_)
  show Go w f 0 [some (rv w r0), some (.int x1)] [] M
  unfold f_X6_isStayed at h
  refine g_aload_n C dX6_isStayed_0 rfl rfl ?_
  obtain ⟨g1, h⟩ := of_gdd h
  refine gf_6_0 C fl_RX6_7 g1 dX6_isStayed_1 ?_
  refine g_iconst (v := 0) C dX6_isStayed_4 rfl ?_
  obtain ⟨g2, h⟩ := of_gdd h
  obtain ⟨g3, h⟩ := of_gdd h
  refine g_iald C g2 g3 dX6_isStayed_5 ?_
  refine g_aload_n C dX6_isStayed_6 rfl rfl ?_
  refine g_iload_n C dX6_isStayed_7 rfl rfl ?_
  refine g_iconst (v := 2) C dX6_isStayed_8 rfl ?_
  obtain ⟨y4, e5, h⟩ := of_obb h
  refine g_callV (As := [.int x1, .int (2 : Int32)]) C (ct_X6_of C.wf e5) g1 lk_RX6_60 mi_X6_of (by decide) (cs_i cs_0) (by decide) dX6_isStayed_9 rfl ?_
  show Go w f 12 [some (rv w r0), some (.int x1)] [.int y4, .int (gI M (fld r0 0) ((0 : Int32)).toNatClampNeg)] M
  refine g_icmp_ge 19 C dX6_isStayed_12 (by decide) (fun c6 => ?_) (fun c6 => ?_)
  · replace h := of_ift h c6
    refine g_iconst (v := 0) C dX6_isStayed_19 rfl ?_
    cases h
    exact hR 20 _ ⟨.boolean, rfl, rfl⟩ dX6_isStayed_20
  · replace h := of_iff h c6
    refine g_iconst (v := 1) C dX6_isStayed_15 rfl ?_
    refine g_goto 20 C dX6_isStayed_16 (by decide) ?_
    cases h
    exact hR 20 _ ⟨.boolean, rfl, rfl⟩ dX6_isStayed_20
def f_X6_wordOf (r0 : Nat) (x1 : Int32) (x2 : Int32) (M : Mem) : Option Int32 := gdd (kd r0 = 7) <| obb (f_X6_of r0 x1 ((4 : Int32) + x2) M) fun y2 => some y2
set_option maxRecDepth 100000 in
set_option maxHeartbeats 4000000 in
theorem ct_X6_wordOf {l : Launch} {w : Om} (hw : Wf w) {r0 : Nat} {x1 : Int32} {x2 : Int32}  {M : Mem} {r : Int32} (h : f_X6_wordOf r0 x1 x2 M = some r) : Ct l w yX6_wordOf cX6_wordOf 3 (some .int) 1 [rv w r0, .int x1, .int x2] M (some (.int r)) M := by
  refine ct_of hw (by decide) (cat_s (rv_cat _ _) (cat_s rfl (cat_s rfl cat_0))) (Nat.le_of_ble_eq_true rfl) (fun f _ C hR => ?_)
  show Go w f 0 [some (rv w r0), some (.int x1), some (.int x2)] [] M
  unfold f_X6_wordOf at h
  refine g_aload_n C dX6_wordOf_0 rfl rfl ?_
  refine g_iload_n C dX6_wordOf_1 rfl rfl ?_
  refine g_iconst (v := 4) C dX6_wordOf_2 rfl ?_
  refine g_iload_n C dX6_wordOf_3 rfl rfl ?_
  refine g_iadd C dX6_wordOf_4 ?_
  obtain ⟨g1, h⟩ := of_gdd h
  obtain ⟨y2, e3, h⟩ := of_obb h
  refine g_callV (As := [.int x1, .int ((4 : Int32) + x2)]) C (ct_X6_of C.wf e3) g1 lk_RX6_60 mi_X6_of (by decide) cs_0 (by decide) dX6_wordOf_5 rfl ?_
  show Go w f 8 [some (rv w r0), some (.int x1), some (.int x2)] [.int y2] M
  cases h
  exact hR 8 _ ⟨.int, rfl, rfl⟩ dX6_wordOf_8
def f_X6_weightOf (r0 : Nat) (x1 : Int32) (x2 : Int32) (M : Mem) : Option Int32 := gdd (kd r0 = 7) <| obb (f_X6_wordOf r0 x1 x2 M) fun y2 => gdd (kd (fld r0 0) = 8) <| gdd (inb ((7 : Int32) + y2) (ln (fld r0 0)) = true) <| some (gI M (fld r0 0) ((7 : Int32) + y2).toNatClampNeg)
set_option maxRecDepth 100000 in
set_option maxHeartbeats 4000000 in
theorem ct_X6_weightOf {l : Launch} {w : Om} (hw : Wf w) {r0 : Nat} {x1 : Int32} {x2 : Int32}  {M : Mem} {r : Int32} (h : f_X6_weightOf r0 x1 x2 M = some r) : Ct l w yX6_weightOf cX6_weightOf 3 (some .int) 2 [rv w r0, .int x1, .int x2] M (some (.int r)) M := by
  refine ct_of hw (by decide) (cat_s (rv_cat _ _) (cat_s rfl (cat_s rfl cat_0))) (Nat.le_of_ble_eq_true rfl) (fun f _ C hR => ?_)
  show Go w f 0 [some (rv w r0), some (.int x1), some (.int x2)] [] M
  unfold f_X6_weightOf at h
  refine g_aload_n C dX6_weightOf_0 rfl rfl ?_
  obtain ⟨g1, h⟩ := of_gdd h
  refine gf_6_0 C fl_RX6_7 g1 dX6_weightOf_1 ?_
  refine g_bipush (v := 7) C dX6_weightOf_4 rfl ?_
  refine g_aload_n C dX6_weightOf_6 rfl rfl ?_
  refine g_iload_n C dX6_weightOf_7 rfl rfl ?_
  refine g_iload_n C dX6_weightOf_8 rfl rfl ?_
  obtain ⟨y2, e3, h⟩ := of_obb h
  refine g_callV (As := [.int x1, .int x2]) C (ct_X6_wordOf C.wf e3) g1 lk_RX6_63 mi_X6_wordOf (by decide) (cs_i (cs_r cs_0)) (by decide) dX6_weightOf_9 rfl ?_
  show Go w f 12 [some (rv w r0), some (.int x1), some (.int x2)] [.int y2, .int (7 : Int32), rv w (fld r0 0)] M
  refine g_iadd C dX6_weightOf_12 ?_
  obtain ⟨g4, h⟩ := of_gdd h
  obtain ⟨g5, h⟩ := of_gdd h
  refine g_iald C g4 g5 dX6_weightOf_13 ?_
  cases h
  exact hR 14 _ ⟨.int, rfl, rfl⟩ dX6_weightOf_14
def f_X6_off (r0 : Nat) (x1 : Int32) (M : Mem) : Option Int32 := gdd (kd r0 = 7) <| gdd (kd (fld r0 0) = 8) <| gdd (inb (1 : Int32) (ln (fld r0 0)) = true) <| if (gI M (fld r0 0) ((1 : Int32)).toNatClampNeg) ≤ x1 then (some (x1 - (gI M (fld r0 0) ((1 : Int32)).toNatClampNeg))) else (some ((gI M (fld r0 0) ((1 : Int32)).toNatClampNeg) - x1))
set_option maxRecDepth 100000 in
set_option maxHeartbeats 4000000 in
theorem ct_X6_off {l : Launch} {w : Om} (hw : Wf w) {r0 : Nat} {x1 : Int32}  {M : Mem} {r : Int32} (h : f_X6_off r0 x1 M = some r) : Ct l w yX6_off cX6_off 2 (some .int) 0 [rv w r0, .int x1] M (some (.int r)) M := by
  refine ct_of hw (by decide) (cat_s (rv_cat _ _) (cat_s rfl cat_0)) (Nat.le_of_ble_eq_true rfl) (fun f _ C hR => ?_)
  show Go w f 0 [some (rv w r0), some (.int x1)] [] M
  unfold f_X6_off at h
  refine g_iload_n C dX6_off_0 rfl rfl ?_
  refine g_aload_n C dX6_off_1 rfl rfl ?_
  obtain ⟨g1, h⟩ := of_gdd h
  refine gf_6_0 C fl_RX6_7 g1 dX6_off_2 ?_
  refine g_iconst (v := 1) C dX6_off_5 rfl ?_
  obtain ⟨g2, h⟩ := of_gdd h
  obtain ⟨g3, h⟩ := of_gdd h
  refine g_iald C g2 g3 dX6_off_6 ?_
  refine g_icmp_ge 21 C dX6_off_7 (by decide) (fun c4 => ?_) (fun c4 => ?_)
  · replace h := of_ift h c4
    refine g_iload_n C dX6_off_21 rfl rfl ?_
    refine g_aload_n C dX6_off_22 rfl rfl ?_
    refine gf_6_0 C fl_RX6_7 g1 dX6_off_23 ?_
    refine g_iconst (v := 1) C dX6_off_26 rfl ?_
    refine g_iald C g2 g3 dX6_off_27 ?_
    refine g_isub C dX6_off_28 ?_
    cases h
    exact hR 29 _ ⟨.int, rfl, rfl⟩ dX6_off_29
  · replace h := of_iff h c4
    refine g_aload_n C dX6_off_10 rfl rfl ?_
    refine gf_6_0 C fl_RX6_7 g1 dX6_off_11 ?_
    refine g_iconst (v := 1) C dX6_off_14 rfl ?_
    refine g_iald C g2 g3 dX6_off_15 ?_
    refine g_iload_n C dX6_off_16 rfl rfl ?_
    refine g_isub C dX6_off_17 ?_
    refine g_goto 29 C dX6_off_18 (by decide) ?_
    cases h
    exact hR 29 _ ⟨.int, rfl, rfl⟩ dX6_off_29
def f_X6_clauseCost_16 (M : Mem) : Nat → Nat → Int32 → Int32 → Int32 → Int32 → Int32 → Int32 → Option Int32
  | 0, _, _, _, _, _, _, _ => none
  | n + 1, r0, x1, x2, x3, x4, x5, x6 => if x5 ≤ x6 then (some x3) else (gdd (kd r0 = 7) <| obb (f_X6_weightOf r0 x1 x6 M) fun y203 => bvv (x4 + y203) fun y205 => if x6 = (x5 - (1 : Int32)) then (obb (f_X6_off r0 y205 M) fun y208 => bvv (x3 + y208) fun y210 => bvv (x6 + (1 : Int32)) fun y212 => (f_X6_clauseCost_16 M n) r0 x1 x2 y210 (0 : Int32) x5 y212) else (if ((x2 >>> (x6 &&& 31)) &&& (1 : Int32)) = (1 : Int32) then (obb (f_X6_off r0 y205 M) fun y219 => bvv (x3 + y219) fun y221 => bvv (x6 + (1 : Int32)) fun y223 => (f_X6_clauseCost_16 M n) r0 x1 x2 y221 (0 : Int32) x5 y223) else (bvv (x3 + (0 : Int32)) fun y215 => bvv (x6 + (1 : Int32)) fun y217 => (f_X6_clauseCost_16 M n) r0 x1 x2 y215 y205 x5 y217)))
set_option maxRecDepth 100000 in
set_option maxHeartbeats 4000000 in
theorem t_X6_clauseCost_16 {w : Om} {f : Fr} {M : Mem} {r : Int32} (C : Cx w f RX6 cX6_clauseCost 8 3) (hR : Rt w f cX6_clauseCost (some .int) (some (.int r)) M)   : ∀ (n : Nat) (r0 : Nat) (x1 : Int32) (x2 : Int32) (x3 : Int32) (x4 : Int32) (x5 : Int32) (x6 : Int32), f_X6_clauseCost_16 M n r0 x1 x2 x3 x4 x5 x6 = some r → Go w f 16 [some (rv w r0), some (.int x1), some (.int x2), some (.int x3), some (.int x4), some (.int x5), some (.int x6), none] [] M := by
  intro n
  induction n with
  | zero =>
    intro r0 x1 x2 x3 x4 x5 x6 h
    cases h
  | succ n ih =>
    intro r0 x1 x2 x3 x4 x5 x6 h
    rw [f_X6_clauseCost_16] at h
    refine g_iload C dX6_clauseCost_16 rfl ?_
    refine g_iload C dX6_clauseCost_18 rfl ?_
    refine g_icmp_ge 98 C dX6_clauseCost_20 (by decide) (fun c201 => ?_) (fun c201 => ?_)
    · replace h := of_ift h c201
      refine g_iload_n C dX6_clauseCost_98 rfl rfl ?_
      cases h
      exact hR 99 _ ⟨.int, rfl, rfl⟩ dX6_clauseCost_99
    · replace h := of_iff h c201
      refine g_iload C dX6_clauseCost_23 rfl ?_
      refine g_aload_n C dX6_clauseCost_25 rfl rfl ?_
      refine g_iload_n C dX6_clauseCost_26 rfl rfl ?_
      refine g_iload C dX6_clauseCost_27 rfl ?_
      obtain ⟨g202, h⟩ := of_gdd h
      obtain ⟨y203, e204, h⟩ := of_obb h
      refine g_callV (As := [.int x1, .int x6]) C (ct_X6_weightOf C.wf e204) g202 lk_RX6_66 mi_X6_weightOf (by decide) (cs_i cs_0) (by decide) dX6_clauseCost_29 rfl ?_
      show Go w f 32 [some (rv w r0), some (.int x1), some (.int x2), some (.int x3), some (.int x4), some (.int x5), some (.int x6), none] [.int y203, .int x4] M
      refine g_iadd C dX6_clauseCost_32 ?_
      obtain ⟨y205, e206, h⟩ := of_bvv h
      refine g_topi e206 ?_
      refine g_istore C dX6_clauseCost_33 (by decide) rfl (L2 := [some (rv w r0), some (.int x1), some (.int x2), some (.int x3), some (.int y205), some (.int x5), some (.int x6), none]) rfl ?_
      refine g_iload C dX6_clauseCost_35 rfl ?_
      refine g_iload C dX6_clauseCost_37 rfl ?_
      refine g_iconst (v := 1) C dX6_clauseCost_39 rfl ?_
      refine g_isub C dX6_clauseCost_40 ?_
      refine g_icmp_eq 54 C dX6_clauseCost_41 (by decide) (fun c207 => ?_) (fun c207 => ?_)
      · replace h := of_ift h c207
        refine g_iconst (v := 1) C dX6_clauseCost_54 rfl ?_
        refine g_goto 59 C dX6_clauseCost_55 (by decide) ?_
        refine g_istore C dX6_clauseCost_59 (by decide) rfl (L2 := [some (rv w r0), some (.int x1), some (.int x2), some (.int x3), some (.int y205), some (.int x5), some (.int x6), some (.int (1 : Int32))]) rfl ?_
        refine g_iload_n C dX6_clauseCost_61 rfl rfl ?_
        refine g_iload C dX6_clauseCost_62 rfl ?_
        refine g_if_eq 76 C dX6_clauseCost_64 (by decide) (fun c => absurd c (by decide)) (fun _ => ?_)
        refine g_aload_n C dX6_clauseCost_67 rfl rfl ?_
        refine g_iload C dX6_clauseCost_68 rfl ?_
        obtain ⟨y208, e209, h⟩ := of_obb h
        refine g_callV (As := [.int y205]) C (ct_X6_off C.wf e209) g202 lk_RX6_69 mi_X6_off (by decide) (cs_i cs_0) (by decide) dX6_clauseCost_70 rfl ?_
        show Go w f 73 [some (rv w r0), some (.int x1), some (.int x2), some (.int x3), some (.int y205), some (.int x5), some (.int x6), some (.int (1 : Int32))] [.int y208, .int x3] M
        refine g_goto 77 C dX6_clauseCost_73 (by decide) ?_
        refine g_iadd C dX6_clauseCost_77 ?_
        obtain ⟨y210, e211, h⟩ := of_bvv h
        refine g_topi e211 ?_
        refine g_istore_n C dX6_clauseCost_78 rfl (by decide) rfl (L2 := [some (rv w r0), some (.int x1), some (.int x2), some (.int y210), some (.int y205), some (.int x5), some (.int x6), some (.int (1 : Int32))]) rfl ?_
        refine g_iload C dX6_clauseCost_79 rfl ?_
        refine g_if_eq 88 C dX6_clauseCost_81 (by decide) (fun c => absurd c (by decide)) (fun _ => ?_)
        refine g_iconst (v := 0) C dX6_clauseCost_84 rfl ?_
        refine g_goto 90 C dX6_clauseCost_85 (by decide) ?_
        refine g_istore C dX6_clauseCost_90 (by decide) rfl (L2 := [some (rv w r0), some (.int x1), some (.int x2), some (.int y210), some (.int (0 : Int32)), some (.int x5), some (.int x6), some (.int (1 : Int32))]) rfl ?_
        obtain ⟨y212, e213, h⟩ := of_bvv h
        refine g_iinc (v := y212) C dX6_clauseCost_92 rfl e213.symm (by decide) rfl (L2 := [some (rv w r0), some (.int x1), some (.int x2), some (.int y210), some (.int (0 : Int32)), some (.int x5), some (.int y212), some (.int (1 : Int32))]) rfl ?_
        refine g_goto 16 C dX6_clauseCost_95 (by decide) ?_
        refine g_mask (bs := [true, true, true, true, true, true, true, false]) (L2 := [some (rv w r0), some (.int x1), some (.int x2), some (.int y210), some (.int (0 : Int32)), some (.int x5), some (.int y212), none]) rfl ?_
        exact ih r0 x1 x2 y210 (0 : Int32) x5 y212 h
      · replace h := of_iff h c207
        refine g_iload_n C dX6_clauseCost_44 rfl rfl ?_
        refine g_iload C dX6_clauseCost_45 rfl ?_
        refine g_ishr C dX6_clauseCost_47 ?_
        refine g_iconst (v := 1) C dX6_clauseCost_48 rfl ?_
        refine g_iand C dX6_clauseCost_49 ?_
        refine g_iconst (v := 1) C dX6_clauseCost_50 rfl ?_
        refine g_icmp_ne 58 C dX6_clauseCost_51 (by decide) (fun c214 => ?_) (fun c214 => ?_)
        · replace h := of_iff h c214
          refine g_iconst (v := 0) C dX6_clauseCost_58 rfl ?_
          refine g_istore C dX6_clauseCost_59 (by decide) rfl (L2 := [some (rv w r0), some (.int x1), some (.int x2), some (.int x3), some (.int y205), some (.int x5), some (.int x6), some (.int (0 : Int32))]) rfl ?_
          refine g_iload_n C dX6_clauseCost_61 rfl rfl ?_
          refine g_iload C dX6_clauseCost_62 rfl ?_
          refine g_if_eq 76 C dX6_clauseCost_64 (by decide) (fun _ => ?_) (fun c => absurd c (by decide))
          refine g_iconst (v := 0) C dX6_clauseCost_76 rfl ?_
          refine g_iadd C dX6_clauseCost_77 ?_
          obtain ⟨y215, e216, h⟩ := of_bvv h
          refine g_topi e216 ?_
          refine g_istore_n C dX6_clauseCost_78 rfl (by decide) rfl (L2 := [some (rv w r0), some (.int x1), some (.int x2), some (.int y215), some (.int y205), some (.int x5), some (.int x6), some (.int (0 : Int32))]) rfl ?_
          refine g_iload C dX6_clauseCost_79 rfl ?_
          refine g_if_eq 88 C dX6_clauseCost_81 (by decide) (fun _ => ?_) (fun c => absurd c (by decide))
          refine g_iload C dX6_clauseCost_88 rfl ?_
          refine g_istore C dX6_clauseCost_90 (by decide) rfl (L2 := [some (rv w r0), some (.int x1), some (.int x2), some (.int y215), some (.int y205), some (.int x5), some (.int x6), some (.int (0 : Int32))]) rfl ?_
          obtain ⟨y217, e218, h⟩ := of_bvv h
          refine g_iinc (v := y217) C dX6_clauseCost_92 rfl e218.symm (by decide) rfl (L2 := [some (rv w r0), some (.int x1), some (.int x2), some (.int y215), some (.int y205), some (.int x5), some (.int y217), some (.int (0 : Int32))]) rfl ?_
          refine g_goto 16 C dX6_clauseCost_95 (by decide) ?_
          refine g_mask (bs := [true, true, true, true, true, true, true, false]) (L2 := [some (rv w r0), some (.int x1), some (.int x2), some (.int y215), some (.int y205), some (.int x5), some (.int y217), none]) rfl ?_
          exact ih r0 x1 x2 y215 y205 x5 y217 h
        · replace h := of_ift h c214
          refine g_iconst (v := 1) C dX6_clauseCost_54 rfl ?_
          refine g_goto 59 C dX6_clauseCost_55 (by decide) ?_
          refine g_istore C dX6_clauseCost_59 (by decide) rfl (L2 := [some (rv w r0), some (.int x1), some (.int x2), some (.int x3), some (.int y205), some (.int x5), some (.int x6), some (.int (1 : Int32))]) rfl ?_
          refine g_iload_n C dX6_clauseCost_61 rfl rfl ?_
          refine g_iload C dX6_clauseCost_62 rfl ?_
          refine g_if_eq 76 C dX6_clauseCost_64 (by decide) (fun c => absurd c (by decide)) (fun _ => ?_)
          refine g_aload_n C dX6_clauseCost_67 rfl rfl ?_
          refine g_iload C dX6_clauseCost_68 rfl ?_
          obtain ⟨y219, e220, h⟩ := of_obb h
          refine g_callV (As := [.int y205]) C (ct_X6_off C.wf e220) g202 lk_RX6_69 mi_X6_off (by decide) (cs_i cs_0) (by decide) dX6_clauseCost_70 rfl ?_
          show Go w f 73 [some (rv w r0), some (.int x1), some (.int x2), some (.int x3), some (.int y205), some (.int x5), some (.int x6), some (.int (1 : Int32))] [.int y219, .int x3] M
          refine g_goto 77 C dX6_clauseCost_73 (by decide) ?_
          refine g_iadd C dX6_clauseCost_77 ?_
          obtain ⟨y221, e222, h⟩ := of_bvv h
          refine g_topi e222 ?_
          refine g_istore_n C dX6_clauseCost_78 rfl (by decide) rfl (L2 := [some (rv w r0), some (.int x1), some (.int x2), some (.int y221), some (.int y205), some (.int x5), some (.int x6), some (.int (1 : Int32))]) rfl ?_
          refine g_iload C dX6_clauseCost_79 rfl ?_
          refine g_if_eq 88 C dX6_clauseCost_81 (by decide) (fun c => absurd c (by decide)) (fun _ => ?_)
          refine g_iconst (v := 0) C dX6_clauseCost_84 rfl ?_
          refine g_goto 90 C dX6_clauseCost_85 (by decide) ?_
          refine g_istore C dX6_clauseCost_90 (by decide) rfl (L2 := [some (rv w r0), some (.int x1), some (.int x2), some (.int y221), some (.int (0 : Int32)), some (.int x5), some (.int x6), some (.int (1 : Int32))]) rfl ?_
          obtain ⟨y223, e224, h⟩ := of_bvv h
          refine g_iinc (v := y223) C dX6_clauseCost_92 rfl e224.symm (by decide) rfl (L2 := [some (rv w r0), some (.int x1), some (.int x2), some (.int y221), some (.int (0 : Int32)), some (.int x5), some (.int y223), some (.int (1 : Int32))]) rfl ?_
          refine g_goto 16 C dX6_clauseCost_95 (by decide) ?_
          refine g_mask (bs := [true, true, true, true, true, true, true, false]) (L2 := [some (rv w r0), some (.int x1), some (.int x2), some (.int y221), some (.int (0 : Int32)), some (.int x5), some (.int y223), none]) rfl ?_
          exact ih r0 x1 x2 y221 (0 : Int32) x5 y223 h
def f_X6_clauseCost (r0 : Nat) (x1 : Int32) (x2 : Int32) (M : Mem) : Option Int32 := gdd (kd r0 = 7) <| obb (f_X6_of r0 x1 (0 : Int32) M) fun y2 => f_X6_clauseCost_16 M FU r0 x1 x2 (0 : Int32) (0 : Int32) y2 (0 : Int32)
set_option maxRecDepth 100000 in
set_option maxHeartbeats 4000000 in
theorem ct_X6_clauseCost {l : Launch} {w : Om} (hw : Wf w) {r0 : Nat} {x1 : Int32} {x2 : Int32}  {M : Mem} {r : Int32} (h : f_X6_clauseCost r0 x1 x2 M = some r) : Ct l w yX6_clauseCost cX6_clauseCost 8 (some .int) 3 [rv w r0, .int x1, .int x2] M (some (.int r)) M := by
  refine ct_of hw (by decide) (cat_s (rv_cat _ _) (cat_s rfl (cat_s rfl cat_0))) (Nat.le_of_ble_eq_true rfl) (fun f _ C hR => ?_)
  show Go w f 0 [some (rv w r0), some (.int x1), some (.int x2), none, none, none, none, none] [] M
  unfold f_X6_clauseCost at h
  refine g_iconst (v := 0) C dX6_clauseCost_0 rfl ?_
  refine g_istore_n C dX6_clauseCost_1 rfl (by decide) rfl (L2 := [some (rv w r0), some (.int x1), some (.int x2), some (.int (0 : Int32)), none, none, none, none]) rfl ?_
  refine g_iconst (v := 0) C dX6_clauseCost_2 rfl ?_
  refine g_istore C dX6_clauseCost_3 (by decide) rfl (L2 := [some (rv w r0), some (.int x1), some (.int x2), some (.int (0 : Int32)), some (.int (0 : Int32)), none, none, none]) rfl ?_
  refine g_aload_n C dX6_clauseCost_5 rfl rfl ?_
  refine g_iload_n C dX6_clauseCost_6 rfl rfl ?_
  refine g_iconst (v := 0) C dX6_clauseCost_7 rfl ?_
  obtain ⟨g1, h⟩ := of_gdd h
  obtain ⟨y2, e3, h⟩ := of_obb h
  refine g_callV (As := [.int x1, .int (0 : Int32)]) C (ct_X6_of C.wf e3) g1 lk_RX6_60 mi_X6_of (by decide) cs_0 (by decide) dX6_clauseCost_8 rfl ?_
  show Go w f 11 [some (rv w r0), some (.int x1), some (.int x2), some (.int (0 : Int32)), some (.int (0 : Int32)), none, none, none] [.int y2] M
  refine g_istore C dX6_clauseCost_11 (by decide) rfl (L2 := [some (rv w r0), some (.int x1), some (.int x2), some (.int (0 : Int32)), some (.int (0 : Int32)), some (.int y2), none, none]) rfl ?_
  refine g_iconst (v := 0) C dX6_clauseCost_13 rfl ?_
  refine g_istore C dX6_clauseCost_14 (by decide) rfl (L2 := [some (rv w r0), some (.int x1), some (.int x2), some (.int (0 : Int32)), some (.int (0 : Int32)), some (.int y2), some (.int (0 : Int32)), none]) rfl ?_
  exact t_X6_clauseCost_16 C hR _ r0 x1 x2 (0 : Int32) (0 : Int32) y2 (0 : Int32) h
def f_X6_counting_6 (M : Mem) : Nat → Nat → Int32 → Int32 → Int32 → Int32 → Option Int32
  | 0, _, _, _, _, _ => none
  | n + 1, r0, x1, x2, x3, x4 => gdd (kd r0 = 7) <| gdd (kd (fld r0 0) = 8) <| gdd (inb (4 : Int32) (ln (fld r0 0)) = true) <| if (gI M (fld r0 0) ((4 : Int32)).toNatClampNeg) ≤ x4 then (some x3) else (obb (f_X6_ofRuling r0 x4 (0 : Int32) M) fun y205 => if y205 = x1 then (obb (f_X6_ofRuling r0 x4 (1 : Int32) M) fun y210 => if y210 = x2 then (obb (f_X6_isForce r0 x4 M) fun y215 => if y215 = 0 then (bvv (x4 + (1 : Int32)) fun y218 => (f_X6_counting_6 M n) r0 x1 x2 x3 y218) else (bvv (x4 + (1 : Int32)) fun y220 => (f_X6_counting_6 M n) r0 x1 x2 x4 y220)) else (bvv (x4 + (1 : Int32)) fun y213 => (f_X6_counting_6 M n) r0 x1 x2 x3 y213)) else (bvv (x4 + (1 : Int32)) fun y208 => (f_X6_counting_6 M n) r0 x1 x2 x3 y208))
set_option maxRecDepth 100000 in
set_option maxHeartbeats 4000000 in
theorem t_X6_counting_6 {w : Om} {f : Fr} {M : Mem} {r : Int32} (C : Cx w f RX6 cX6_counting 6 2) (hR : Rt w f cX6_counting (some .int) (some (.int r)) M)   : ∀ (n : Nat) (r0 : Nat) (x1 : Int32) (x2 : Int32) (x3 : Int32) (x4 : Int32), f_X6_counting_6 M n r0 x1 x2 x3 x4 = some r → Go w f 6 [some (rv w r0), some (.int x1), some (.int x2), some (.int x3), some (.int x4), none] [] M := by
  intro n
  induction n with
  | zero =>
    intro r0 x1 x2 x3 x4 h
    cases h
  | succ n ih =>
    intro r0 x1 x2 x3 x4 h
    rw [f_X6_counting_6] at h
    refine g_iload C dX6_counting_6 rfl ?_
    refine g_aload_n C dX6_counting_8 rfl rfl ?_
    obtain ⟨g201, h⟩ := of_gdd h
    refine gf_6_0 C fl_RX6_7 g201 dX6_counting_9 ?_
    refine g_iconst (v := 4) C dX6_counting_12 rfl ?_
    obtain ⟨g202, h⟩ := of_gdd h
    obtain ⟨g203, h⟩ := of_gdd h
    refine g_iald C g202 g203 dX6_counting_13 ?_
    refine g_icmp_ge 73 C dX6_counting_14 (by decide) (fun c204 => ?_) (fun c204 => ?_)
    · replace h := of_ift h c204
      refine g_iload_n C dX6_counting_73 rfl rfl ?_
      cases h
      exact hR 74 _ ⟨.int, rfl, rfl⟩ dX6_counting_74
    · replace h := of_iff h c204
      refine g_aload_n C dX6_counting_17 rfl rfl ?_
      refine g_iload C dX6_counting_18 rfl ?_
      refine g_iconst (v := 0) C dX6_counting_20 rfl ?_
      obtain ⟨y205, e206, h⟩ := of_obb h
      refine g_callV (As := [.int x4, .int (0 : Int32)]) C (ct_X6_ofRuling C.wf e206) g201 lk_RX6_46 mi_X6_ofRuling (by decide) cs_0 (by decide) dX6_counting_21 rfl ?_
      show Go w f 24 [some (rv w r0), some (.int x1), some (.int x2), some (.int x3), some (.int x4), none] [.int y205] M
      refine g_iload_n C dX6_counting_24 rfl rfl ?_
      refine g_icmp_ne 43 C dX6_counting_25 (by decide) (fun c207 => ?_) (fun c207 => ?_)
      · replace h := of_iff h c207
        refine g_iconst (v := 0) C dX6_counting_43 rfl ?_
        refine g_istore C dX6_counting_44 (by decide) rfl (L2 := [some (rv w r0), some (.int x1), some (.int x2), some (.int x3), some (.int x4), some (.int (0 : Int32))]) rfl ?_
        refine g_iload C dX6_counting_46 rfl ?_
        refine g_if_eq 65 C dX6_counting_48 (by decide) (fun _ => ?_) (fun c => absurd c (by decide))
        refine g_iload_n C dX6_counting_65 rfl rfl ?_
        refine g_istore_n C dX6_counting_66 rfl (by decide) rfl (L2 := [some (rv w r0), some (.int x1), some (.int x2), some (.int x3), some (.int x4), some (.int (0 : Int32))]) rfl ?_
        obtain ⟨y208, e209, h⟩ := of_bvv h
        refine g_iinc (v := y208) C dX6_counting_67 rfl e209.symm (by decide) rfl (L2 := [some (rv w r0), some (.int x1), some (.int x2), some (.int x3), some (.int y208), some (.int (0 : Int32))]) rfl ?_
        refine g_goto 6 C dX6_counting_70 (by decide) ?_
        refine g_mask (bs := [true, true, true, true, true, false]) (L2 := [some (rv w r0), some (.int x1), some (.int x2), some (.int x3), some (.int y208), none]) rfl ?_
        exact ih r0 x1 x2 x3 y208 h
      · replace h := of_ift h c207
        refine g_aload_n C dX6_counting_28 rfl rfl ?_
        refine g_iload C dX6_counting_29 rfl ?_
        refine g_iconst (v := 1) C dX6_counting_31 rfl ?_
        obtain ⟨y210, e211, h⟩ := of_obb h
        refine g_callV (As := [.int x4, .int (1 : Int32)]) C (ct_X6_ofRuling C.wf e211) g201 lk_RX6_46 mi_X6_ofRuling (by decide) cs_0 (by decide) dX6_counting_32 rfl ?_
        show Go w f 35 [some (rv w r0), some (.int x1), some (.int x2), some (.int x3), some (.int x4), none] [.int y210] M
        refine g_iload_n C dX6_counting_35 rfl rfl ?_
        refine g_icmp_ne 43 C dX6_counting_36 (by decide) (fun c212 => ?_) (fun c212 => ?_)
        · replace h := of_iff h c212
          refine g_iconst (v := 0) C dX6_counting_43 rfl ?_
          refine g_istore C dX6_counting_44 (by decide) rfl (L2 := [some (rv w r0), some (.int x1), some (.int x2), some (.int x3), some (.int x4), some (.int (0 : Int32))]) rfl ?_
          refine g_iload C dX6_counting_46 rfl ?_
          refine g_if_eq 65 C dX6_counting_48 (by decide) (fun _ => ?_) (fun c => absurd c (by decide))
          refine g_iload_n C dX6_counting_65 rfl rfl ?_
          refine g_istore_n C dX6_counting_66 rfl (by decide) rfl (L2 := [some (rv w r0), some (.int x1), some (.int x2), some (.int x3), some (.int x4), some (.int (0 : Int32))]) rfl ?_
          obtain ⟨y213, e214, h⟩ := of_bvv h
          refine g_iinc (v := y213) C dX6_counting_67 rfl e214.symm (by decide) rfl (L2 := [some (rv w r0), some (.int x1), some (.int x2), some (.int x3), some (.int y213), some (.int (0 : Int32))]) rfl ?_
          refine g_goto 6 C dX6_counting_70 (by decide) ?_
          refine g_mask (bs := [true, true, true, true, true, false]) (L2 := [some (rv w r0), some (.int x1), some (.int x2), some (.int x3), some (.int y213), none]) rfl ?_
          exact ih r0 x1 x2 x3 y213 h
        · replace h := of_ift h c212
          refine g_iconst (v := 1) C dX6_counting_39 rfl ?_
          refine g_goto 44 C dX6_counting_40 (by decide) ?_
          refine g_istore C dX6_counting_44 (by decide) rfl (L2 := [some (rv w r0), some (.int x1), some (.int x2), some (.int x3), some (.int x4), some (.int (1 : Int32))]) rfl ?_
          refine g_iload C dX6_counting_46 rfl ?_
          refine g_if_eq 65 C dX6_counting_48 (by decide) (fun c => absurd c (by decide)) (fun _ => ?_)
          refine g_aload_n C dX6_counting_51 rfl rfl ?_
          refine g_iload C dX6_counting_52 rfl ?_
          obtain ⟨y215, e216, h⟩ := of_obb h
          refine g_callV (As := [.int x4]) C (ct_X6_isForce C.wf e216) g201 lk_RX6_50 mi_X6_isForce (by decide) cs_0 (by decide) dX6_counting_54 rfl ?_
          show Go w f 57 [some (rv w r0), some (.int x1), some (.int x2), some (.int x3), some (.int x4), some (.int (1 : Int32))] [.int y215] M
          refine g_if_eq 65 C dX6_counting_57 (by decide) (fun c217 => ?_) (fun c217 => ?_)
          · replace h := of_ift h c217
            refine g_iload_n C dX6_counting_65 rfl rfl ?_
            refine g_istore_n C dX6_counting_66 rfl (by decide) rfl (L2 := [some (rv w r0), some (.int x1), some (.int x2), some (.int x3), some (.int x4), some (.int (1 : Int32))]) rfl ?_
            obtain ⟨y218, e219, h⟩ := of_bvv h
            refine g_iinc (v := y218) C dX6_counting_67 rfl e219.symm (by decide) rfl (L2 := [some (rv w r0), some (.int x1), some (.int x2), some (.int x3), some (.int y218), some (.int (1 : Int32))]) rfl ?_
            refine g_goto 6 C dX6_counting_70 (by decide) ?_
            refine g_mask (bs := [true, true, true, true, true, false]) (L2 := [some (rv w r0), some (.int x1), some (.int x2), some (.int x3), some (.int y218), none]) rfl ?_
            exact ih r0 x1 x2 x3 y218 h
          · replace h := of_iff h c217
            refine g_iload C dX6_counting_60 rfl ?_
            refine g_goto 66 C dX6_counting_62 (by decide) ?_
            refine g_istore_n C dX6_counting_66 rfl (by decide) rfl (L2 := [some (rv w r0), some (.int x1), some (.int x2), some (.int x4), some (.int x4), some (.int (1 : Int32))]) rfl ?_
            obtain ⟨y220, e221, h⟩ := of_bvv h
            refine g_iinc (v := y220) C dX6_counting_67 rfl e221.symm (by decide) rfl (L2 := [some (rv w r0), some (.int x1), some (.int x2), some (.int x4), some (.int y220), some (.int (1 : Int32))]) rfl ?_
            refine g_goto 6 C dX6_counting_70 (by decide) ?_
            refine g_mask (bs := [true, true, true, true, true, false]) (L2 := [some (rv w r0), some (.int x1), some (.int x2), some (.int x4), some (.int y220), none]) rfl ?_
            exact ih r0 x1 x2 x4 y220 h
def f_X6_counting (r0 : Nat) (x1 : Int32) (x2 : Int32) (M : Mem) : Option Int32 := f_X6_counting_6 M FU r0 x1 x2 (-4 : Int32) (0 : Int32)
set_option maxRecDepth 100000 in
set_option maxHeartbeats 4000000 in
theorem ct_X6_counting {l : Launch} {w : Om} (hw : Wf w) {r0 : Nat} {x1 : Int32} {x2 : Int32}  {M : Mem} {r : Int32} (h : f_X6_counting r0 x1 x2 M = some r) : Ct l w yX6_counting cX6_counting 6 (some .int) 2 [rv w r0, .int x1, .int x2] M (some (.int r)) M := by
  refine ct_of hw (by decide) (cat_s (rv_cat _ _) (cat_s rfl (cat_s rfl cat_0))) (Nat.le_of_ble_eq_true rfl) (fun f _ C hR => ?_)
  show Go w f 0 [some (rv w r0), some (.int x1), some (.int x2), none, none, none] [] M
  unfold f_X6_counting at h
  refine g_bipush (v := -4) C dX6_counting_0 rfl ?_
  refine g_istore_n C dX6_counting_2 rfl (by decide) rfl (L2 := [some (rv w r0), some (.int x1), some (.int x2), some (.int (-4 : Int32)), none, none]) rfl ?_
  refine g_iconst (v := 0) C dX6_counting_3 rfl ?_
  refine g_istore C dX6_counting_4 (by decide) rfl (L2 := [some (rv w r0), some (.int x1), some (.int x2), some (.int (-4 : Int32)), some (.int (0 : Int32)), none]) rfl ?_
  exact t_X6_counting_6 C hR _ r0 x1 x2 (-4 : Int32) (0 : Int32) h
def f_X6_rulingOf (r0 : Nat) (x1 : Int32) (x2 : Int32) (M : Mem) : Option Int32 := gdd (kd r0 = 7) <| obb (f_X6_wordOf r0 x1 x2 M) fun y2 => obb (f_X6_wordOf r0 x1 (x2 + (1 : Int32)) M) fun y4 => obb (f_X6_counting r0 y2 y4 M) fun y6 => some y6
set_option maxRecDepth 100000 in
set_option maxHeartbeats 4000000 in
theorem ct_X6_rulingOf {l : Launch} {w : Om} (hw : Wf w) {r0 : Nat} {x1 : Int32} {x2 : Int32}  {M : Mem} {r : Int32} (h : f_X6_rulingOf r0 x1 x2 M = some r) : Ct l w yX6_rulingOf cX6_rulingOf 3 (some .int) 3 [rv w r0, .int x1, .int x2] M (some (.int r)) M := by
  refine ct_of hw (by decide) (cat_s (rv_cat _ _) (cat_s rfl (cat_s rfl cat_0))) (Nat.le_of_ble_eq_true rfl) (fun f _ C hR => ?_)
  show Go w f 0 [some (rv w r0), some (.int x1), some (.int x2)] [] M
  unfold f_X6_rulingOf at h
  refine g_aload_n C dX6_rulingOf_0 rfl rfl ?_
  refine g_aload_n C dX6_rulingOf_1 rfl rfl ?_
  refine g_iload_n C dX6_rulingOf_2 rfl rfl ?_
  refine g_iload_n C dX6_rulingOf_3 rfl rfl ?_
  obtain ⟨g1, h⟩ := of_gdd h
  obtain ⟨y2, e3, h⟩ := of_obb h
  refine g_callV (As := [.int x1, .int x2]) C (ct_X6_wordOf C.wf e3) g1 lk_RX6_63 mi_X6_wordOf (by decide) (cs_r cs_0) (by decide) dX6_rulingOf_4 rfl ?_
  show Go w f 7 [some (rv w r0), some (.int x1), some (.int x2)] [.int y2, rv w r0] M
  refine g_aload_n C dX6_rulingOf_7 rfl rfl ?_
  refine g_iload_n C dX6_rulingOf_8 rfl rfl ?_
  refine g_iload_n C dX6_rulingOf_9 rfl rfl ?_
  refine g_iconst (v := 1) C dX6_rulingOf_10 rfl ?_
  refine g_iadd C dX6_rulingOf_11 ?_
  obtain ⟨y4, e5, h⟩ := of_obb h
  refine g_callV (As := [.int x1, .int (x2 + (1 : Int32))]) C (ct_X6_wordOf C.wf e5) g1 lk_RX6_63 mi_X6_wordOf (by decide) (cs_i (cs_r cs_0)) (by decide) dX6_rulingOf_12 rfl ?_
  show Go w f 15 [some (rv w r0), some (.int x1), some (.int x2)] [.int y4, .int y2, rv w r0] M
  obtain ⟨y6, e7, h⟩ := of_obb h
  refine g_callV (As := [.int y2, .int y4]) C (ct_X6_counting C.wf e7) g1 lk_RX6_54 mi_X6_counting (by decide) cs_0 (by decide) dX6_rulingOf_15 rfl ?_
  show Go w f 18 [some (rv w r0), some (.int x1), some (.int x2)] [.int y6] M
  cases h
  exact hR 18 _ ⟨.int, rfl, rfl⟩ dX6_rulingOf_18
def f_X6_fineOf (r0 : Nat) (x1 : Int32) (x2 : Int32) (x3 : Int32) (M : Mem) : Option Int32 := gdd (kd r0 = 7) <| obb (f_X6_rulingOf r0 x1 x2 M) fun y2 => if y2 < 0 then (some (0 : Int32)) else (obb (f_X6_ofRuling r0 y2 (2 : Int32) M) fun y5 => if y5 = ((x3 >>> (x2 &&& 31)) &&& (1 : Int32)) then (some (0 : Int32)) else (obb (f_X6_ofRuling r0 y2 (3 : Int32) M) fun y8 => some y8))
set_option maxRecDepth 100000 in
set_option maxHeartbeats 4000000 in
theorem ct_X6_fineOf {l : Launch} {w : Om} (hw : Wf w) {r0 : Nat} {x1 : Int32} {x2 : Int32} {x3 : Int32}  {M : Mem} {r : Int32} (h : f_X6_fineOf r0 x1 x2 x3 M = some r) : Ct l w yX6_fineOf cX6_fineOf 5 (some .int) 4 [rv w r0, .int x1, .int x2, .int x3] M (some (.int r)) M := by
  refine ct_of hw (by decide) (cat_s (rv_cat _ _) (cat_s rfl (cat_s rfl (cat_s rfl cat_0)))) (Nat.le_of_ble_eq_true rfl) (fun f _ C hR => ?_)
  show Go w f 0 [some (rv w r0), some (.int x1), some (.int x2), some (.int x3), none] [] M
  unfold f_X6_fineOf at h
  refine g_aload_n C dX6_fineOf_0 rfl rfl ?_
  refine g_iload_n C dX6_fineOf_1 rfl rfl ?_
  refine g_iload_n C dX6_fineOf_2 rfl rfl ?_
  obtain ⟨g1, h⟩ := of_gdd h
  obtain ⟨y2, e3, h⟩ := of_obb h
  refine g_callV (As := [.int x1, .int x2]) C (ct_X6_rulingOf C.wf e3) g1 lk_RX6_73 mi_X6_rulingOf (by decide) cs_0 (by decide) dX6_fineOf_3 rfl ?_
  show Go w f 6 [some (rv w r0), some (.int x1), some (.int x2), some (.int x3), none] [.int y2] M
  refine g_istore C dX6_fineOf_6 (by decide) rfl (L2 := [some (rv w r0), some (.int x1), some (.int x2), some (.int x3), some (.int y2)]) rfl ?_
  refine g_iload C dX6_fineOf_8 rfl ?_
  refine g_if_lt 28 C dX6_fineOf_10 (by decide) (fun c4 => ?_) (fun c4 => ?_)
  · replace h := of_ift h c4
    refine g_iconst (v := 0) C dX6_fineOf_28 rfl ?_
    refine g_goto 39 C dX6_fineOf_29 (by decide) ?_
    cases h
    exact hR 39 _ ⟨.int, rfl, rfl⟩ dX6_fineOf_39
  · replace h := of_iff h c4
    refine g_aload_n C dX6_fineOf_13 rfl rfl ?_
    refine g_iload C dX6_fineOf_14 rfl ?_
    refine g_iconst (v := 2) C dX6_fineOf_16 rfl ?_
    obtain ⟨y5, e6, h⟩ := of_obb h
    refine g_callV (As := [.int y2, .int (2 : Int32)]) C (ct_X6_ofRuling C.wf e6) g1 lk_RX6_46 mi_X6_ofRuling (by decide) cs_0 (by decide) dX6_fineOf_17 rfl ?_
    show Go w f 20 [some (rv w r0), some (.int x1), some (.int x2), some (.int x3), some (.int y2)] [.int y5] M
    refine g_iload_n C dX6_fineOf_20 rfl rfl ?_
    refine g_iload_n C dX6_fineOf_21 rfl rfl ?_
    refine g_ishr C dX6_fineOf_22 ?_
    refine g_iconst (v := 1) C dX6_fineOf_23 rfl ?_
    refine g_iand C dX6_fineOf_24 ?_
    refine g_icmp_ne 32 C dX6_fineOf_25 (by decide) (fun c7 => ?_) (fun c7 => ?_)
    · replace h := of_iff h c7
      refine g_aload_n C dX6_fineOf_32 rfl rfl ?_
      refine g_iload C dX6_fineOf_33 rfl ?_
      refine g_iconst (v := 3) C dX6_fineOf_35 rfl ?_
      obtain ⟨y8, e9, h⟩ := of_obb h
      refine g_callV (As := [.int y2, .int (3 : Int32)]) C (ct_X6_ofRuling C.wf e9) g1 lk_RX6_46 mi_X6_ofRuling (by decide) cs_0 (by decide) dX6_fineOf_36 rfl ?_
      show Go w f 39 [some (rv w r0), some (.int x1), some (.int x2), some (.int x3), some (.int y2)] [.int y8] M
      cases h
      exact hR 39 _ ⟨.int, rfl, rfl⟩ dX6_fineOf_39
    · replace h := of_ift h c7
      refine g_iconst (v := 0) C dX6_fineOf_28 rfl ?_
      refine g_goto 39 C dX6_fineOf_29 (by decide) ?_
      cases h
      exact hR 39 _ ⟨.int, rfl, rfl⟩ dX6_fineOf_39
def f_X6_finesOf_5 (M : Mem) : Nat → Nat → Int32 → Int32 → Int32 → Int32 → Option Int32
  | 0, _, _, _, _, _ => none
  | n + 1, r0, x1, x2, x3, x4 => gdd (kd r0 = 7) <| obb (f_X6_of r0 x1 (0 : Int32) M) fun y202 => if y202 ≤ (x4 + (1 : Int32)) then (some x3) else (obb (f_X6_fineOf r0 x1 x4 x2 M) fun y205 => bvv (x3 + y205) fun y207 => bvv (x4 + (1 : Int32)) fun y209 => (f_X6_finesOf_5 M n) r0 x1 x2 y207 y209)
set_option maxRecDepth 100000 in
set_option maxHeartbeats 4000000 in
theorem t_X6_finesOf_5 {w : Om} {f : Fr} {M : Mem} {r : Int32} (C : Cx w f RX6 cX6_finesOf 5 5) (hR : Rt w f cX6_finesOf (some .int) (some (.int r)) M)   : ∀ (n : Nat) (r0 : Nat) (x1 : Int32) (x2 : Int32) (x3 : Int32) (x4 : Int32), f_X6_finesOf_5 M n r0 x1 x2 x3 x4 = some r → Go w f 5 [some (rv w r0), some (.int x1), some (.int x2), some (.int x3), some (.int x4)] [] M := by
  intro n
  induction n with
  | zero =>
    intro r0 x1 x2 x3 x4 h
    cases h
  | succ n ih =>
    intro r0 x1 x2 x3 x4 h
    rw [f_X6_finesOf_5] at h
    refine g_iload C dX6_finesOf_5 rfl ?_
    refine g_iconst (v := 1) C dX6_finesOf_7 rfl ?_
    refine g_iadd C dX6_finesOf_8 ?_
    refine g_aload_n C dX6_finesOf_9 rfl rfl ?_
    refine g_iload_n C dX6_finesOf_10 rfl rfl ?_
    refine g_iconst (v := 0) C dX6_finesOf_11 rfl ?_
    obtain ⟨g201, h⟩ := of_gdd h
    obtain ⟨y202, e203, h⟩ := of_obb h
    refine g_callV (As := [.int x1, .int (0 : Int32)]) C (ct_X6_of C.wf e203) g201 lk_RX6_60 mi_X6_of (by decide) (cs_i cs_0) (by decide) dX6_finesOf_12 rfl ?_
    show Go w f 15 [some (rv w r0), some (.int x1), some (.int x2), some (.int x3), some (.int x4)] [.int y202, .int (x4 + (1 : Int32))] M
    refine g_icmp_ge 35 C dX6_finesOf_15 (by decide) (fun c204 => ?_) (fun c204 => ?_)
    · replace h := of_ift h c204
      refine g_iload_n C dX6_finesOf_35 rfl rfl ?_
      cases h
      exact hR 36 _ ⟨.int, rfl, rfl⟩ dX6_finesOf_36
    · replace h := of_iff h c204
      refine g_iload_n C dX6_finesOf_18 rfl rfl ?_
      refine g_aload_n C dX6_finesOf_19 rfl rfl ?_
      refine g_iload_n C dX6_finesOf_20 rfl rfl ?_
      refine g_iload C dX6_finesOf_21 rfl ?_
      refine g_iload_n C dX6_finesOf_23 rfl rfl ?_
      obtain ⟨y205, e206, h⟩ := of_obb h
      refine g_callV (As := [.int x1, .int x4, .int x2]) C (ct_X6_fineOf C.wf e206) g201 lk_RX6_76 mi_X6_fineOf (by decide) (cs_i cs_0) (by decide) dX6_finesOf_24 rfl ?_
      show Go w f 27 [some (rv w r0), some (.int x1), some (.int x2), some (.int x3), some (.int x4)] [.int y205, .int x3] M
      refine g_iadd C dX6_finesOf_27 ?_
      obtain ⟨y207, e208, h⟩ := of_bvv h
      refine g_topi e208 ?_
      refine g_istore_n C dX6_finesOf_28 rfl (by decide) rfl (L2 := [some (rv w r0), some (.int x1), some (.int x2), some (.int y207), some (.int x4)]) rfl ?_
      obtain ⟨y209, e210, h⟩ := of_bvv h
      refine g_iinc (v := y209) C dX6_finesOf_29 rfl e210.symm (by decide) rfl (L2 := [some (rv w r0), some (.int x1), some (.int x2), some (.int y207), some (.int y209)]) rfl ?_
      refine g_goto 5 C dX6_finesOf_32 (by decide) ?_
      exact ih r0 x1 x2 y207 y209 h
def f_X6_finesOf (r0 : Nat) (x1 : Int32) (x2 : Int32) (M : Mem) : Option Int32 := f_X6_finesOf_5 M FU r0 x1 x2 (0 : Int32) (0 : Int32)
set_option maxRecDepth 100000 in
set_option maxHeartbeats 4000000 in
theorem ct_X6_finesOf {l : Launch} {w : Om} (hw : Wf w) {r0 : Nat} {x1 : Int32} {x2 : Int32}  {M : Mem} {r : Int32} (h : f_X6_finesOf r0 x1 x2 M = some r) : Ct l w yX6_finesOf cX6_finesOf 5 (some .int) 5 [rv w r0, .int x1, .int x2] M (some (.int r)) M := by
  refine ct_of hw (by decide) (cat_s (rv_cat _ _) (cat_s rfl (cat_s rfl cat_0))) (Nat.le_of_ble_eq_true rfl) (fun f _ C hR => ?_)
  show Go w f 0 [some (rv w r0), some (.int x1), some (.int x2), none, none] [] M
  unfold f_X6_finesOf at h
  refine g_iconst (v := 0) C dX6_finesOf_0 rfl ?_
  refine g_istore_n C dX6_finesOf_1 rfl (by decide) rfl (L2 := [some (rv w r0), some (.int x1), some (.int x2), some (.int (0 : Int32)), none]) rfl ?_
  refine g_iconst (v := 0) C dX6_finesOf_2 rfl ?_
  refine g_istore C dX6_finesOf_3 (by decide) rfl (L2 := [some (rv w r0), some (.int x1), some (.int x2), some (.int (0 : Int32)), some (.int (0 : Int32))]) rfl ?_
  exact t_X6_finesOf_5 C hR _ r0 x1 x2 (0 : Int32) (0 : Int32) h
def f_X6_costBy (r0 : Nat) (x1 : Int32) (x2 : Int32) (M : Mem) : Option Int32 := gdd (kd r0 = 7) <| obb (f_X6_clauseCost r0 x1 x2 M) fun y2 => obb (f_X6_finesOf r0 x1 x2 M) fun y4 => some (y2 + y4)
set_option maxRecDepth 100000 in
set_option maxHeartbeats 4000000 in
theorem ct_X6_costBy {l : Launch} {w : Om} (hw : Wf w) {r0 : Nat} {x1 : Int32} {x2 : Int32}  {M : Mem} {r : Int32} (h : f_X6_costBy r0 x1 x2 M = some r) : Ct l w yX6_costBy cX6_costBy 3 (some .int) 6 [rv w r0, .int x1, .int x2] M (some (.int r)) M := by
  refine ct_of hw (by decide) (cat_s (rv_cat _ _) (cat_s rfl (cat_s rfl cat_0))) (Nat.le_of_ble_eq_true rfl) (fun f _ C hR => ?_)
  show Go w f 0 [some (rv w r0), some (.int x1), some (.int x2)] [] M
  unfold f_X6_costBy at h
  refine g_aload_n C dX6_costBy_0 rfl rfl ?_
  refine g_iload_n C dX6_costBy_1 rfl rfl ?_
  refine g_iload_n C dX6_costBy_2 rfl rfl ?_
  obtain ⟨g1, h⟩ := of_gdd h
  obtain ⟨y2, e3, h⟩ := of_obb h
  refine g_callV (As := [.int x1, .int x2]) C (ct_X6_clauseCost C.wf e3) g1 lk_RX6_80 mi_X6_clauseCost (by decide) cs_0 (by decide) dX6_costBy_3 rfl ?_
  show Go w f 6 [some (rv w r0), some (.int x1), some (.int x2)] [.int y2] M
  refine g_aload_n C dX6_costBy_6 rfl rfl ?_
  refine g_iload_n C dX6_costBy_7 rfl rfl ?_
  refine g_iload_n C dX6_costBy_8 rfl rfl ?_
  obtain ⟨y4, e5, h⟩ := of_obb h
  refine g_callV (As := [.int x1, .int x2]) C (ct_X6_finesOf C.wf e5) g1 lk_RX6_83 mi_X6_finesOf (by decide) (cs_i cs_0) (by decide) dX6_costBy_9 rfl ?_
  show Go w f 12 [some (rv w r0), some (.int x1), some (.int x2)] [.int y4, .int y2] M
  refine g_iadd C dX6_costBy_12 ?_
  cases h
  exact hR 13 _ ⟨.int, rfl, rfl⟩ dX6_costBy_13
def f_X6_costOf (r0 : Nat) (x1 : Int32) (M : Mem) : Option Int32 := gdd (kd r0 = 7) <| obb (f_X6_of r0 x1 (1 : Int32) M) fun y2 => obb (f_X6_costBy r0 x1 y2 M) fun y4 => some y4
set_option maxRecDepth 100000 in
set_option maxHeartbeats 4000000 in
theorem ct_X6_costOf {l : Launch} {w : Om} (hw : Wf w) {r0 : Nat} {x1 : Int32}  {M : Mem} {r : Int32} (h : f_X6_costOf r0 x1 M = some r) : Ct l w yX6_costOf cX6_costOf 2 (some .int) 7 [rv w r0, .int x1] M (some (.int r)) M := by
  refine ct_of hw (by decide) (cat_s (rv_cat _ _) (cat_s rfl cat_0)) (Nat.le_of_ble_eq_true rfl) (fun f _ C hR => ?_)
  show Go w f 0 [some (rv w r0), some (.int x1)] [] M
  unfold f_X6_costOf at h
  refine g_aload_n C dX6_costOf_0 rfl rfl ?_
  refine g_iload_n C dX6_costOf_1 rfl rfl ?_
  refine g_aload_n C dX6_costOf_2 rfl rfl ?_
  refine g_iload_n C dX6_costOf_3 rfl rfl ?_
  refine g_iconst (v := 1) C dX6_costOf_4 rfl ?_
  obtain ⟨g1, h⟩ := of_gdd h
  obtain ⟨y2, e3, h⟩ := of_obb h
  refine g_callV (As := [.int x1, .int (1 : Int32)]) C (ct_X6_of C.wf e3) g1 lk_RX6_60 mi_X6_of (by decide) (cs_i (cs_r cs_0)) (by decide) dX6_costOf_5 rfl ?_
  show Go w f 8 [some (rv w r0), some (.int x1)] [.int y2, .int x1, rv w r0] M
  obtain ⟨y4, e5, h⟩ := of_obb h
  refine g_callV (As := [.int x1, .int y2]) C (ct_X6_costBy C.wf e5) g1 lk_RX6_86 mi_X6_costBy (by decide) cs_0 (by decide) dX6_costOf_8 rfl ?_
  show Go w f 11 [some (rv w r0), some (.int x1)] [.int y4] M
  cases h
  exact hR 11 _ ⟨.int, rfl, rfl⟩ dX6_costOf_11
def f_X6_isSame_24 (M : Mem) : Nat → Nat → Int32 → Int32 → Int32 → Int32 → Option Int32
  | 0, _, _, _, _, _ => none
  | n + 1, r0, x1, x2, x3, x4 => if (12 : Int32) ≤ x4 then (gdd (isb x3 = true) <| some x3) else (if x3 = 0 then (bvv (x4 + (1 : Int32)) fun y204 => (f_X6_isSame_24 M n) r0 x1 x2 (0 : Int32) y204) else (gdd (kd r0 = 7) <| obb (f_X6_wordOf r0 x1 x4 M) fun y207 => obb (f_X6_wordOf r0 x2 x4 M) fun y209 => if y207 = y209 then (bvv (x4 + (1 : Int32)) fun y214 => (f_X6_isSame_24 M n) r0 x1 x2 (1 : Int32) y214) else (bvv (x4 + (1 : Int32)) fun y212 => (f_X6_isSame_24 M n) r0 x1 x2 (0 : Int32) y212)))
set_option maxRecDepth 100000 in
set_option maxHeartbeats 4000000 in
theorem t_X6_isSame_24 {w : Om} {f : Fr} {M : Mem} {r : Int32} (C : Cx w f RX6 cX6_isSame 5 2) (hR : Rt w f cX6_isSame (some .boolean) (some (.int r)) M)   : ∀ (n : Nat) (r0 : Nat) (x1 : Int32) (x2 : Int32) (x3 : Int32) (x4 : Int32), f_X6_isSame_24 M n r0 x1 x2 x3 x4 = some r → Go w f 24 [some (rv w r0), some (.int x1), some (.int x2), some (.int x3), some (.int x4)] [] M := by
  intro n
  induction n with
  | zero =>
    intro r0 x1 x2 x3 x4 h
    cases h
  | succ n ih =>
    intro r0 x1 x2 x3 x4 h
    rw [f_X6_isSame_24] at h
    refine g_iload C dX6_isSame_24 rfl ?_
    refine g_bipush (v := 12) C dX6_isSame_26 rfl ?_
    refine g_icmp_ge 64 C dX6_isSame_28 (by decide) (fun c201 => ?_) (fun c201 => ?_)
    · replace h := of_ift h c201
      refine g_iload_n C dX6_isSame_64 rfl rfl ?_
      obtain ⟨g202, h⟩ := of_gdd h
      cases h
      exact hR 65 _ ⟨.boolean, rfl, nb_use g202⟩ dX6_isSame_65
    · replace h := of_iff h c201
      refine g_iload_n C dX6_isSame_31 rfl rfl ?_
      refine g_if_eq 56 C dX6_isSame_32 (by decide) (fun c203 => ?_) (fun c203 => ?_)
      · replace h := of_ift h c203
        refine g_iconst (v := 0) C dX6_isSame_56 rfl ?_
        refine g_istore_n C dX6_isSame_57 rfl (by decide) rfl (L2 := [some (rv w r0), some (.int x1), some (.int x2), some (.int (0 : Int32)), some (.int x4)]) rfl ?_
        obtain ⟨y204, e205, h⟩ := of_bvv h
        refine g_iinc (v := y204) C dX6_isSame_58 rfl e205.symm (by decide) rfl (L2 := [some (rv w r0), some (.int x1), some (.int x2), some (.int (0 : Int32)), some (.int y204)]) rfl ?_
        refine g_goto 24 C dX6_isSame_61 (by decide) ?_
        exact ih r0 x1 x2 (0 : Int32) y204 h
      · replace h := of_iff h c203
        refine g_aload_n C dX6_isSame_35 rfl rfl ?_
        refine g_iload_n C dX6_isSame_36 rfl rfl ?_
        refine g_iload C dX6_isSame_37 rfl ?_
        obtain ⟨g206, h⟩ := of_gdd h
        obtain ⟨y207, e208, h⟩ := of_obb h
        refine g_callV (As := [.int x1, .int x4]) C (ct_X6_wordOf C.wf e208) g206 lk_RX6_63 mi_X6_wordOf (by decide) cs_0 (by decide) dX6_isSame_39 rfl ?_
        show Go w f 42 [some (rv w r0), some (.int x1), some (.int x2), some (.int x3), some (.int x4)] [.int y207] M
        refine g_aload_n C dX6_isSame_42 rfl rfl ?_
        refine g_iload_n C dX6_isSame_43 rfl rfl ?_
        refine g_iload C dX6_isSame_44 rfl ?_
        obtain ⟨y209, e210, h⟩ := of_obb h
        refine g_callV (As := [.int x2, .int x4]) C (ct_X6_wordOf C.wf e210) g206 lk_RX6_63 mi_X6_wordOf (by decide) (cs_i cs_0) (by decide) dX6_isSame_46 rfl ?_
        show Go w f 49 [some (rv w r0), some (.int x1), some (.int x2), some (.int x3), some (.int x4)] [.int y209, .int y207] M
        refine g_icmp_ne 56 C dX6_isSame_49 (by decide) (fun c211 => ?_) (fun c211 => ?_)
        · replace h := of_iff h c211
          refine g_iconst (v := 0) C dX6_isSame_56 rfl ?_
          refine g_istore_n C dX6_isSame_57 rfl (by decide) rfl (L2 := [some (rv w r0), some (.int x1), some (.int x2), some (.int (0 : Int32)), some (.int x4)]) rfl ?_
          obtain ⟨y212, e213, h⟩ := of_bvv h
          refine g_iinc (v := y212) C dX6_isSame_58 rfl e213.symm (by decide) rfl (L2 := [some (rv w r0), some (.int x1), some (.int x2), some (.int (0 : Int32)), some (.int y212)]) rfl ?_
          refine g_goto 24 C dX6_isSame_61 (by decide) ?_
          exact ih r0 x1 x2 (0 : Int32) y212 h
        · replace h := of_ift h c211
          refine g_iconst (v := 1) C dX6_isSame_52 rfl ?_
          refine g_goto 57 C dX6_isSame_53 (by decide) ?_
          refine g_istore_n C dX6_isSame_57 rfl (by decide) rfl (L2 := [some (rv w r0), some (.int x1), some (.int x2), some (.int (1 : Int32)), some (.int x4)]) rfl ?_
          obtain ⟨y214, e215, h⟩ := of_bvv h
          refine g_iinc (v := y214) C dX6_isSame_58 rfl e215.symm (by decide) rfl (L2 := [some (rv w r0), some (.int x1), some (.int x2), some (.int (1 : Int32)), some (.int y214)]) rfl ?_
          refine g_goto 24 C dX6_isSame_61 (by decide) ?_
          exact ih r0 x1 x2 (1 : Int32) y214 h
def f_X6_isSame (r0 : Nat) (x1 : Int32) (x2 : Int32) (M : Mem) : Option Int32 := gdd (kd r0 = 7) <| obb (f_X6_of r0 x1 (0 : Int32) M) fun y2 => obb (f_X6_of r0 x2 (0 : Int32) M) fun y4 => if y2 = y4 then (f_X6_isSame_24 M FU r0 x1 x2 (1 : Int32) (0 : Int32)) else (f_X6_isSame_24 M FU r0 x1 x2 (0 : Int32) (0 : Int32))
set_option maxRecDepth 100000 in
set_option maxHeartbeats 4000000 in
theorem ct_X6_isSame {l : Launch} {w : Om} (hw : Wf w) {r0 : Nat} {x1 : Int32} {x2 : Int32}  {M : Mem} {r : Int32} (h : f_X6_isSame r0 x1 x2 M = some r) : Ct l w yX6_isSame cX6_isSame 5 (some .boolean) 2 [rv w r0, .int x1, .int x2] M (some (.int r)) M := by
  refine ct_of hw (by decide) (cat_s (rv_cat _ _) (cat_s rfl (cat_s rfl cat_0))) (Nat.le_of_ble_eq_true rfl) (fun f _ C hR => ?_)
  show Go w f 0 [some (rv w r0), some (.int x1), some (.int x2), none, none] [] M
  unfold f_X6_isSame at h
  refine g_aload_n C dX6_isSame_0 rfl rfl ?_
  refine g_iload_n C dX6_isSame_1 rfl rfl ?_
  refine g_iconst (v := 0) C dX6_isSame_2 rfl ?_
  obtain ⟨g1, h⟩ := of_gdd h
  obtain ⟨y2, e3, h⟩ := of_obb h
  refine g_callV (As := [.int x1, .int (0 : Int32)]) C (ct_X6_of C.wf e3) g1 lk_RX6_60 mi_X6_of (by decide) cs_0 (by decide) dX6_isSame_3 rfl ?_
  show Go w f 6 [some (rv w r0), some (.int x1), some (.int x2), none, none] [.int y2] M
  refine g_aload_n C dX6_isSame_6 rfl rfl ?_
  refine g_iload_n C dX6_isSame_7 rfl rfl ?_
  refine g_iconst (v := 0) C dX6_isSame_8 rfl ?_
  obtain ⟨y4, e5, h⟩ := of_obb h
  refine g_callV (As := [.int x2, .int (0 : Int32)]) C (ct_X6_of C.wf e5) g1 lk_RX6_60 mi_X6_of (by decide) (cs_i cs_0) (by decide) dX6_isSame_9 rfl ?_
  show Go w f 12 [some (rv w r0), some (.int x1), some (.int x2), none, none] [.int y4, .int y2] M
  refine g_icmp_ne 19 C dX6_isSame_12 (by decide) (fun c6 => ?_) (fun c6 => ?_)
  · replace h := of_iff h c6
    refine g_iconst (v := 0) C dX6_isSame_19 rfl ?_
    refine g_istore_n C dX6_isSame_20 rfl (by decide) rfl (L2 := [some (rv w r0), some (.int x1), some (.int x2), some (.int (0 : Int32)), none]) rfl ?_
    refine g_iconst (v := 0) C dX6_isSame_21 rfl ?_
    refine g_istore C dX6_isSame_22 (by decide) rfl (L2 := [some (rv w r0), some (.int x1), some (.int x2), some (.int (0 : Int32)), some (.int (0 : Int32))]) rfl ?_
    exact t_X6_isSame_24 C hR _ r0 x1 x2 (0 : Int32) (0 : Int32) h
  · replace h := of_ift h c6
    refine g_iconst (v := 1) C dX6_isSame_15 rfl ?_
    refine g_goto 20 C dX6_isSame_16 (by decide) ?_
    refine g_istore_n C dX6_isSame_20 rfl (by decide) rfl (L2 := [some (rv w r0), some (.int x1), some (.int x2), some (.int (1 : Int32)), none]) rfl ?_
    refine g_iconst (v := 0) C dX6_isSame_21 rfl ?_
    refine g_istore C dX6_isSame_22 (by decide) rfl (L2 := [some (rv w r0), some (.int x1), some (.int x2), some (.int (1 : Int32)), some (.int (0 : Int32))]) rfl ?_
    exact t_X6_isSame_24 C hR _ r0 x1 x2 (1 : Int32) (0 : Int32) h
def f_X6_isTaken_5 (M : Mem) : Nat → Nat → Int32 → Int32 → Int32 → Int32 → Option Int32
  | 0, _, _, _, _, _ => none
  | n + 1, r0, x1, x2, x3, x4 => gdd (kd r0 = 7) <| gdd (kd (fld r0 0) = 8) <| gdd (inb (3 : Int32) (ln (fld r0 0)) = true) <| if (gI M (fld r0 0) ((3 : Int32)).toNatClampNeg) ≤ x4 then (gdd (isb x3 = true) <| some x3) else (if x3 = 0 then (if x4 = x1 then (bvv (x4 + (1 : Int32)) fun y210 => (f_X6_isTaken_5 M n) r0 x1 x2 (0 : Int32) y210) else (obb (f_X6_isSame r0 x4 x1 M) fun y212 => if y212 = 0 then (bvv (x4 + (1 : Int32)) fun y215 => (f_X6_isTaken_5 M n) r0 x1 x2 (0 : Int32) y215) else (obb (f_X6_of r0 x4 (1 : Int32) M) fun y217 => if y217 = x2 then (bvv (x4 + (1 : Int32)) fun y222 => (f_X6_isTaken_5 M n) r0 x1 x2 (1 : Int32) y222) else (bvv (x4 + (1 : Int32)) fun y220 => (f_X6_isTaken_5 M n) r0 x1 x2 (0 : Int32) y220)))) else (bvv (x4 + (1 : Int32)) fun y207 => (f_X6_isTaken_5 M n) r0 x1 x2 (1 : Int32) y207))
set_option maxRecDepth 100000 in
set_option maxHeartbeats 4000000 in
theorem t_X6_isTaken_5 {w : Om} {f : Fr} {M : Mem} {r : Int32} (C : Cx w f RX6 cX6_isTaken 5 3) (hR : Rt w f cX6_isTaken (some .boolean) (some (.int r)) M)   : ∀ (n : Nat) (r0 : Nat) (x1 : Int32) (x2 : Int32) (x3 : Int32) (x4 : Int32), f_X6_isTaken_5 M n r0 x1 x2 x3 x4 = some r → Go w f 5 [some (rv w r0), some (.int x1), some (.int x2), some (.int x3), some (.int x4)] [] M := by
  intro n
  induction n with
  | zero =>
    intro r0 x1 x2 x3 x4 h
    cases h
  | succ n ih =>
    intro r0 x1 x2 x3 x4 h
    rw [f_X6_isTaken_5] at h
    refine g_iload C dX6_isTaken_5 rfl ?_
    refine g_aload_n C dX6_isTaken_7 rfl rfl ?_
    obtain ⟨g201, h⟩ := of_gdd h
    refine gf_6_0 C fl_RX6_7 g201 dX6_isTaken_8 ?_
    refine g_iconst (v := 3) C dX6_isTaken_11 rfl ?_
    obtain ⟨g202, h⟩ := of_gdd h
    obtain ⟨g203, h⟩ := of_gdd h
    refine g_iald C g202 g203 dX6_isTaken_12 ?_
    refine g_icmp_ge 59 C dX6_isTaken_13 (by decide) (fun c204 => ?_) (fun c204 => ?_)
    · replace h := of_ift h c204
      refine g_iload_n C dX6_isTaken_59 rfl rfl ?_
      obtain ⟨g205, h⟩ := of_gdd h
      cases h
      exact hR 60 _ ⟨.boolean, rfl, nb_use g205⟩ dX6_isTaken_60
    · replace h := of_iff h c204
      refine g_iload_n C dX6_isTaken_16 rfl rfl ?_
      refine g_if_ne 47 C dX6_isTaken_17 (by decide) (fun c206 => ?_) (fun c206 => ?_)
      · replace h := of_iff h c206
        refine g_iconst (v := 1) C dX6_isTaken_47 rfl ?_
        refine g_goto 52 C dX6_isTaken_48 (by decide) ?_
        refine g_istore_n C dX6_isTaken_52 rfl (by decide) rfl (L2 := [some (rv w r0), some (.int x1), some (.int x2), some (.int (1 : Int32)), some (.int x4)]) rfl ?_
        obtain ⟨y207, e208, h⟩ := of_bvv h
        refine g_iinc (v := y207) C dX6_isTaken_53 rfl e208.symm (by decide) rfl (L2 := [some (rv w r0), some (.int x1), some (.int x2), some (.int (1 : Int32)), some (.int y207)]) rfl ?_
        refine g_goto 5 C dX6_isTaken_56 (by decide) ?_
        exact ih r0 x1 x2 (1 : Int32) y207 h
      · replace h := of_ift h c206
        refine g_iload C dX6_isTaken_20 rfl ?_
        refine g_iload_n C dX6_isTaken_22 rfl rfl ?_
        refine g_icmp_eq 51 C dX6_isTaken_23 (by decide) (fun c209 => ?_) (fun c209 => ?_)
        · replace h := of_ift h c209
          refine g_iconst (v := 0) C dX6_isTaken_51 rfl ?_
          refine g_istore_n C dX6_isTaken_52 rfl (by decide) rfl (L2 := [some (rv w r0), some (.int x1), some (.int x2), some (.int (0 : Int32)), some (.int x4)]) rfl ?_
          obtain ⟨y210, e211, h⟩ := of_bvv h
          refine g_iinc (v := y210) C dX6_isTaken_53 rfl e211.symm (by decide) rfl (L2 := [some (rv w r0), some (.int x1), some (.int x2), some (.int (0 : Int32)), some (.int y210)]) rfl ?_
          refine g_goto 5 C dX6_isTaken_56 (by decide) ?_
          exact ih r0 x1 x2 (0 : Int32) y210 h
        · replace h := of_iff h c209
          refine g_aload_n C dX6_isTaken_26 rfl rfl ?_
          refine g_iload C dX6_isTaken_27 rfl ?_
          refine g_iload_n C dX6_isTaken_29 rfl rfl ?_
          obtain ⟨y212, e213, h⟩ := of_obb h
          refine g_callV (As := [.int x4, .int x1]) C (ct_X6_isSame C.wf e213) g201 lk_RX6_92 mi_X6_isSame (by decide) cs_0 (by decide) dX6_isTaken_30 rfl ?_
          show Go w f 33 [some (rv w r0), some (.int x1), some (.int x2), some (.int x3), some (.int x4)] [.int y212] M
          refine g_if_eq 51 C dX6_isTaken_33 (by decide) (fun c214 => ?_) (fun c214 => ?_)
          · replace h := of_ift h c214
            refine g_iconst (v := 0) C dX6_isTaken_51 rfl ?_
            refine g_istore_n C dX6_isTaken_52 rfl (by decide) rfl (L2 := [some (rv w r0), some (.int x1), some (.int x2), some (.int (0 : Int32)), some (.int x4)]) rfl ?_
            obtain ⟨y215, e216, h⟩ := of_bvv h
            refine g_iinc (v := y215) C dX6_isTaken_53 rfl e216.symm (by decide) rfl (L2 := [some (rv w r0), some (.int x1), some (.int x2), some (.int (0 : Int32)), some (.int y215)]) rfl ?_
            refine g_goto 5 C dX6_isTaken_56 (by decide) ?_
            exact ih r0 x1 x2 (0 : Int32) y215 h
          · replace h := of_iff h c214
            refine g_aload_n C dX6_isTaken_36 rfl rfl ?_
            refine g_iload C dX6_isTaken_37 rfl ?_
            refine g_iconst (v := 1) C dX6_isTaken_39 rfl ?_
            obtain ⟨y217, e218, h⟩ := of_obb h
            refine g_callV (As := [.int x4, .int (1 : Int32)]) C (ct_X6_of C.wf e218) g201 lk_RX6_60 mi_X6_of (by decide) cs_0 (by decide) dX6_isTaken_40 rfl ?_
            show Go w f 43 [some (rv w r0), some (.int x1), some (.int x2), some (.int x3), some (.int x4)] [.int y217] M
            refine g_iload_n C dX6_isTaken_43 rfl rfl ?_
            refine g_icmp_ne 51 C dX6_isTaken_44 (by decide) (fun c219 => ?_) (fun c219 => ?_)
            · replace h := of_iff h c219
              refine g_iconst (v := 0) C dX6_isTaken_51 rfl ?_
              refine g_istore_n C dX6_isTaken_52 rfl (by decide) rfl (L2 := [some (rv w r0), some (.int x1), some (.int x2), some (.int (0 : Int32)), some (.int x4)]) rfl ?_
              obtain ⟨y220, e221, h⟩ := of_bvv h
              refine g_iinc (v := y220) C dX6_isTaken_53 rfl e221.symm (by decide) rfl (L2 := [some (rv w r0), some (.int x1), some (.int x2), some (.int (0 : Int32)), some (.int y220)]) rfl ?_
              refine g_goto 5 C dX6_isTaken_56 (by decide) ?_
              exact ih r0 x1 x2 (0 : Int32) y220 h
            · replace h := of_ift h c219
              refine g_iconst (v := 1) C dX6_isTaken_47 rfl ?_
              refine g_goto 52 C dX6_isTaken_48 (by decide) ?_
              refine g_istore_n C dX6_isTaken_52 rfl (by decide) rfl (L2 := [some (rv w r0), some (.int x1), some (.int x2), some (.int (1 : Int32)), some (.int x4)]) rfl ?_
              obtain ⟨y222, e223, h⟩ := of_bvv h
              refine g_iinc (v := y222) C dX6_isTaken_53 rfl e223.symm (by decide) rfl (L2 := [some (rv w r0), some (.int x1), some (.int x2), some (.int (1 : Int32)), some (.int y222)]) rfl ?_
              refine g_goto 5 C dX6_isTaken_56 (by decide) ?_
              exact ih r0 x1 x2 (1 : Int32) y222 h
def f_X6_isTaken (r0 : Nat) (x1 : Int32) (x2 : Int32) (M : Mem) : Option Int32 := f_X6_isTaken_5 M FU r0 x1 x2 (0 : Int32) (0 : Int32)
set_option maxRecDepth 100000 in
set_option maxHeartbeats 4000000 in
theorem ct_X6_isTaken {l : Launch} {w : Om} (hw : Wf w) {r0 : Nat} {x1 : Int32} {x2 : Int32}  {M : Mem} {r : Int32} (h : f_X6_isTaken r0 x1 x2 M = some r) : Ct l w yX6_isTaken cX6_isTaken 5 (some .boolean) 3 [rv w r0, .int x1, .int x2] M (some (.int r)) M := by
  refine ct_of hw (by decide) (cat_s (rv_cat _ _) (cat_s rfl (cat_s rfl cat_0))) (Nat.le_of_ble_eq_true rfl) (fun f _ C hR => ?_)
  show Go w f 0 [some (rv w r0), some (.int x1), some (.int x2), none, none] [] M
  unfold f_X6_isTaken at h
  refine g_iconst (v := 0) C dX6_isTaken_0 rfl ?_
  refine g_istore_n C dX6_isTaken_1 rfl (by decide) rfl (L2 := [some (rv w r0), some (.int x1), some (.int x2), some (.int (0 : Int32)), none]) rfl ?_
  refine g_iconst (v := 0) C dX6_isTaken_2 rfl ?_
  refine g_istore C dX6_isTaken_3 (by decide) rfl (L2 := [some (rv w r0), some (.int x1), some (.int x2), some (.int (0 : Int32)), some (.int (0 : Int32))]) rfl ?_
  exact t_X6_isTaken_5 C hR _ r0 x1 x2 (0 : Int32) (0 : Int32) h
def f_X6_reasonToRefuse (r0 : Nat) (x1 : Int32) (x2 : Int32) (M : Mem) : Option Int32 := gdd (kd r0 = 7) <| obb (f_X6_isStayed r0 x1 M) fun y2 => if y2 = 0 then (obb (f_X6_of r0 x1 (1 : Int32) M) fun y5 => bvv (y5 ^^^ ((1 : Int32) <<< (x2 &&& 31))) fun y7 => obb (f_X6_costBy r0 x1 y7 M) fun y9 => obb (f_X6_costOf r0 x1 M) fun y11 => if y9 < y11 then (obb (f_X6_isTaken r0 x1 y7 M) fun y14 => if y14 = 0 then (some (0 : Int32)) else (some (3 : Int32))) else (some (2 : Int32))) else (some (1 : Int32))
set_option maxRecDepth 100000 in
set_option maxHeartbeats 4000000 in
theorem ct_X6_reasonToRefuse {l : Launch} {w : Om} (hw : Wf w) {r0 : Nat} {x1 : Int32} {x2 : Int32}  {M : Mem} {r : Int32} (h : f_X6_reasonToRefuse r0 x1 x2 M = some r) : Ct l w yX6_reasonToRefuse cX6_reasonToRefuse 4 (some .int) 8 [rv w r0, .int x1, .int x2] M (some (.int r)) M := by
  refine ct_of hw (by decide) (cat_s (rv_cat _ _) (cat_s rfl (cat_s rfl cat_0))) (Nat.le_of_ble_eq_true rfl) (fun f _ C hR => ?_)
  show Go w f 0 [some (rv w r0), some (.int x1), some (.int x2), none] [] M
  unfold f_X6_reasonToRefuse at h
  refine g_aload_n C dX6_reasonToRefuse_0 rfl rfl ?_
  refine g_iload_n C dX6_reasonToRefuse_1 rfl rfl ?_
  obtain ⟨g1, h⟩ := of_gdd h
  obtain ⟨y2, e3, h⟩ := of_obb h
  refine g_callV (As := [.int x1]) C (ct_X6_isStayed C.wf e3) g1 lk_RX6_96 mi_X6_isStayed (by decide) cs_0 (by decide) dX6_reasonToRefuse_2 rfl ?_
  show Go w f 5 [some (rv w r0), some (.int x1), some (.int x2), none] [.int y2] M
  refine g_if_eq 10 C dX6_reasonToRefuse_5 (by decide) (fun c4 => ?_) (fun c4 => ?_)
  · replace h := of_ift h c4
    refine g_aload_n C dX6_reasonToRefuse_10 rfl rfl ?_
    refine g_iload_n C dX6_reasonToRefuse_11 rfl rfl ?_
    refine g_iconst (v := 1) C dX6_reasonToRefuse_12 rfl ?_
    obtain ⟨y5, e6, h⟩ := of_obb h
    refine g_callV (As := [.int x1, .int (1 : Int32)]) C (ct_X6_of C.wf e6) g1 lk_RX6_60 mi_X6_of (by decide) cs_0 (by decide) dX6_reasonToRefuse_13 rfl ?_
    show Go w f 16 [some (rv w r0), some (.int x1), some (.int x2), none] [.int y5] M
    refine g_iconst (v := 1) C dX6_reasonToRefuse_16 rfl ?_
    refine g_iload_n C dX6_reasonToRefuse_17 rfl rfl ?_
    refine g_ishl C dX6_reasonToRefuse_18 ?_
    refine g_ixor C dX6_reasonToRefuse_19 ?_
    obtain ⟨y7, e8, h⟩ := of_bvv h
    refine g_topi e8 ?_
    refine g_istore_n C dX6_reasonToRefuse_20 rfl (by decide) rfl (L2 := [some (rv w r0), some (.int x1), some (.int x2), some (.int y7)]) rfl ?_
    refine g_aload_n C dX6_reasonToRefuse_21 rfl rfl ?_
    refine g_iload_n C dX6_reasonToRefuse_22 rfl rfl ?_
    refine g_iload_n C dX6_reasonToRefuse_23 rfl rfl ?_
    obtain ⟨y9, e10, h⟩ := of_obb h
    refine g_callV (As := [.int x1, .int y7]) C (ct_X6_costBy C.wf e10) g1 lk_RX6_86 mi_X6_costBy (by decide) cs_0 (by decide) dX6_reasonToRefuse_24 rfl ?_
    show Go w f 27 [some (rv w r0), some (.int x1), some (.int x2), some (.int y7)] [.int y9] M
    refine g_aload_n C dX6_reasonToRefuse_27 rfl rfl ?_
    refine g_iload_n C dX6_reasonToRefuse_28 rfl rfl ?_
    obtain ⟨y11, e12, h⟩ := of_obb h
    refine g_callV (As := [.int x1]) C (ct_X6_costOf C.wf e12) g1 lk_RX6_89 mi_X6_costOf (by decide) (cs_i cs_0) (by decide) dX6_reasonToRefuse_29 rfl ?_
    show Go w f 32 [some (rv w r0), some (.int x1), some (.int x2), some (.int y7)] [.int y11, .int y9] M
    refine g_icmp_lt 39 C dX6_reasonToRefuse_32 (by decide) (fun c13 => ?_) (fun c13 => ?_)
    · replace h := of_ift h c13
      refine g_aload_n C dX6_reasonToRefuse_39 rfl rfl ?_
      refine g_iload_n C dX6_reasonToRefuse_40 rfl rfl ?_
      refine g_iload_n C dX6_reasonToRefuse_41 rfl rfl ?_
      obtain ⟨y14, e15, h⟩ := of_obb h
      refine g_callV (As := [.int x1, .int y7]) C (ct_X6_isTaken C.wf e15) g1 lk_RX6_99 mi_X6_isTaken (by decide) cs_0 (by decide) dX6_reasonToRefuse_42 rfl ?_
      show Go w f 45 [some (rv w r0), some (.int x1), some (.int x2), some (.int y7)] [.int y14] M
      refine g_if_eq 52 C dX6_reasonToRefuse_45 (by decide) (fun c16 => ?_) (fun c16 => ?_)
      · replace h := of_ift h c16
        refine g_iconst (v := 0) C dX6_reasonToRefuse_52 rfl ?_
        cases h
        exact hR 53 _ ⟨.int, rfl, rfl⟩ dX6_reasonToRefuse_53
      · replace h := of_iff h c16
        refine g_iconst (v := 3) C dX6_reasonToRefuse_48 rfl ?_
        refine g_goto 53 C dX6_reasonToRefuse_49 (by decide) ?_
        cases h
        exact hR 53 _ ⟨.int, rfl, rfl⟩ dX6_reasonToRefuse_53
    · replace h := of_iff h c13
      refine g_iconst (v := 2) C dX6_reasonToRefuse_35 rfl ?_
      refine g_goto 53 C dX6_reasonToRefuse_36 (by decide) ?_
      cases h
      exact hR 53 _ ⟨.int, rfl, rfl⟩ dX6_reasonToRefuse_53
  · replace h := of_iff h c4
    refine g_iconst (v := 1) C dX6_reasonToRefuse_8 rfl ?_
    cases h
    exact hR 9 _ ⟨.int, rfl, rfl⟩ dX6_reasonToRefuse_9
def f_X6_lays (r0 : Nat) (x1 : Int32) (x2 : Int32) (x3 : Int32) (M : Mem) : Option Mem := gdd (kd r0 = 7) <| gdd (kd (fld r0 0) = 8) <| gdd (inb (((73 : Int32) + ((16 : Int32) * x1)) + x2) (ln (fld r0 0)) = true) <| bvv (sI M (fld r0 0) (((73 : Int32) + ((16 : Int32) * x1)) + x2).toNatClampNeg x3) fun M4 => some M4
set_option maxRecDepth 100000 in
set_option maxHeartbeats 4000000 in
theorem ct_X6_lays {l : Launch} {w : Om} (hw : Wf w) {r0 : Nat} {x1 : Int32} {x2 : Int32} {x3 : Int32} {M : Mem} {M2 : Mem} (h : f_X6_lays r0 x1 x2 x3 M = some M2) : Ct l w yX6_lays cX6_lays 4 none 0 [rv w r0, .int x1, .int x2, .int x3] M none M2 := by
  refine ct_of hw (by decide) (cat_s (rv_cat _ _) (cat_s rfl (cat_s rfl (cat_s rfl cat_0)))) (Nat.le_of_ble_eq_true rfl) (fun f _ C hR => ?_)
  show Go w f 0 [some (rv w r0), some (.int x1), some (.int x2), some (.int x3)] [] M
  unfold f_X6_lays at h
  refine g_aload_n C dX6_lays_0 rfl rfl ?_
  obtain ⟨g1, h⟩ := of_gdd h
  refine gf_6_0 C fl_RX6_7 g1 dX6_lays_1 ?_
  refine g_bipush (v := 73) C dX6_lays_4 rfl ?_
  refine g_bipush (v := 16) C dX6_lays_6 rfl ?_
  refine g_iload_n C dX6_lays_8 rfl rfl ?_
  refine g_imul C dX6_lays_9 ?_
  refine g_iadd C dX6_lays_10 ?_
  refine g_iload_n C dX6_lays_11 rfl rfl ?_
  refine g_iadd C dX6_lays_12 ?_
  refine g_iload_n C dX6_lays_13 rfl rfl ?_
  obtain ⟨g2, h⟩ := of_gdd h
  obtain ⟨g3, h⟩ := of_gdd h
  refine g_iast C g2 g3 dX6_lays_14 ?_
  obtain ⟨M4, e5, h⟩ := of_bvv h
  refine g_mem e5 ?_
  cases h
  exact hR 15 _ rfl dX6_lays_15
def f_X6_goSue (r0 : Nat) (x1 : Int32) (x2 : Int32) (M : Mem) : Option (Int32 × Mem) := gdd (kd r0 = 7) <| obb (f_X6_reasonToRefuse r0 x1 x2 M) fun y2 => if y2 ≤ 0 then (obb (f_X6_costOf r0 x1 M) fun y5 => obb (f_X6_of r0 x1 (1 : Int32) M) fun y7 => obb (f_X6_lays r0 x1 (1 : Int32) (y7 ^^^ ((1 : Int32) <<< (x2 &&& 31))) M) fun M9 => obb (f_X6_of r0 x1 (3 : Int32) M9) fun y11 => obb (f_X6_lays r0 x1 (3 : Int32) (y11 + (1 : Int32)) M9) fun M13 => gdd (kd (fld r0 0) = 8) <| gdd (inb (5 : Int32) (ln (fld r0 0)) = true) <| bvv (sI M13 (fld r0 0) ((5 : Int32)).toNatClampNeg ((gI M13 (fld r0 0) ((5 : Int32)).toNatClampNeg) + (1 : Int32))) fun M17 => obb (f_X6_costOf r0 x1 M17) fun y19 => some (((10 : Int32) + y5) - y19, M17)) else (gdd (kd (fld r0 0) = 8) <| gdd (inb (6 : Int32) (ln (fld r0 0)) = true) <| bvv (sI M (fld r0 0) ((6 : Int32)).toNatClampNeg ((gI M (fld r0 0) ((6 : Int32)).toNatClampNeg) + (1 : Int32))) fun M23 => some (y2, M23))
set_option maxRecDepth 100000 in
set_option maxHeartbeats 4000000 in
theorem ct_X6_goSue {l : Launch} {w : Om} (hw : Wf w) {r0 : Nat} {x1 : Int32} {x2 : Int32} {M : Mem} {r : Int32} {M2 : Mem} (h : f_X6_goSue r0 x1 x2 M = some (r, M2)) : Ct l w yX6_goSue cX6_goSue 5 (some .int) 9 [rv w r0, .int x1, .int x2] M (some (.int r)) M2 := by
  refine ct_of hw (by decide) (cat_s (rv_cat _ _) (cat_s rfl (cat_s rfl cat_0))) (Nat.le_of_ble_eq_true rfl) (fun f _ C hR => ?_)
  show Go w f 0 [some (rv w r0), some (.int x1), some (.int x2), none, none] [] M
  unfold f_X6_goSue at h
  refine g_aload_n C dX6_goSue_0 rfl rfl ?_
  refine g_iload_n C dX6_goSue_1 rfl rfl ?_
  refine g_iload_n C dX6_goSue_2 rfl rfl ?_
  obtain ⟨g1, h⟩ := of_gdd h
  obtain ⟨y2, e3, h⟩ := of_obb h
  refine g_callV (As := [.int x1, .int x2]) C (ct_X6_reasonToRefuse C.wf e3) g1 lk_RX6_102 mi_X6_reasonToRefuse (by decide) cs_0 (by decide) dX6_goSue_3 rfl ?_
  show Go w f 6 [some (rv w r0), some (.int x1), some (.int x2), none, none] [.int y2] M
  refine g_istore_n C dX6_goSue_6 rfl (by decide) rfl (L2 := [some (rv w r0), some (.int x1), some (.int x2), some (.int y2), none]) rfl ?_
  refine g_iload_n C dX6_goSue_7 rfl rfl ?_
  refine g_if_le 24 C dX6_goSue_8 (by decide) (fun c4 => ?_) (fun c4 => ?_)
  · replace h := of_ift h c4
    refine g_aload_n C dX6_goSue_24 rfl rfl ?_
    refine g_iload_n C dX6_goSue_25 rfl rfl ?_
    obtain ⟨y5, e6, h⟩ := of_obb h
    refine g_callV (As := [.int x1]) C (ct_X6_costOf C.wf e6) g1 lk_RX6_89 mi_X6_costOf (by decide) cs_0 (by decide) dX6_goSue_26 rfl ?_
    show Go w f 29 [some (rv w r0), some (.int x1), some (.int x2), some (.int y2), none] [.int y5] M
    refine g_istore C dX6_goSue_29 (by decide) rfl (L2 := [some (rv w r0), some (.int x1), some (.int x2), some (.int y2), some (.int y5)]) rfl ?_
    refine g_aload_n C dX6_goSue_31 rfl rfl ?_
    refine g_iload_n C dX6_goSue_32 rfl rfl ?_
    refine g_iconst (v := 1) C dX6_goSue_33 rfl ?_
    refine g_aload_n C dX6_goSue_34 rfl rfl ?_
    refine g_iload_n C dX6_goSue_35 rfl rfl ?_
    refine g_iconst (v := 1) C dX6_goSue_36 rfl ?_
    obtain ⟨y7, e8, h⟩ := of_obb h
    refine g_callV (As := [.int x1, .int (1 : Int32)]) C (ct_X6_of C.wf e8) g1 lk_RX6_60 mi_X6_of (by decide) (cs_i (cs_i (cs_r cs_0))) (by decide) dX6_goSue_37 rfl ?_
    show Go w f 40 [some (rv w r0), some (.int x1), some (.int x2), some (.int y2), some (.int y5)] [.int y7, .int (1 : Int32), .int x1, rv w r0] M
    refine g_iconst (v := 1) C dX6_goSue_40 rfl ?_
    refine g_iload_n C dX6_goSue_41 rfl rfl ?_
    refine g_ishl C dX6_goSue_42 ?_
    refine g_ixor C dX6_goSue_43 ?_
    obtain ⟨M9, e10, h⟩ := of_obb h
    refine g_callV (As := [.int x1, .int (1 : Int32), .int (y7 ^^^ ((1 : Int32) <<< (x2 &&& 31)))]) C (ct_X6_lays C.wf e10) g1 lk_RX6_105 mi_X6_lays (by decide) cs_0 (by decide) dX6_goSue_44 rfl ?_
    show Go w f 47 [some (rv w r0), some (.int x1), some (.int x2), some (.int y2), some (.int y5)] [] M9
    refine g_aload_n C dX6_goSue_47 rfl rfl ?_
    refine g_iload_n C dX6_goSue_48 rfl rfl ?_
    refine g_iconst (v := 3) C dX6_goSue_49 rfl ?_
    refine g_aload_n C dX6_goSue_50 rfl rfl ?_
    refine g_iload_n C dX6_goSue_51 rfl rfl ?_
    refine g_iconst (v := 3) C dX6_goSue_52 rfl ?_
    obtain ⟨y11, e12, h⟩ := of_obb h
    refine g_callV (As := [.int x1, .int (3 : Int32)]) C (ct_X6_of C.wf e12) g1 lk_RX6_60 mi_X6_of (by decide) (cs_i (cs_i (cs_r cs_0))) (by decide) dX6_goSue_53 rfl ?_
    show Go w f 56 [some (rv w r0), some (.int x1), some (.int x2), some (.int y2), some (.int y5)] [.int y11, .int (3 : Int32), .int x1, rv w r0] M9
    refine g_iconst (v := 1) C dX6_goSue_56 rfl ?_
    refine g_iadd C dX6_goSue_57 ?_
    obtain ⟨M13, e14, h⟩ := of_obb h
    refine g_callV (As := [.int x1, .int (3 : Int32), .int (y11 + (1 : Int32))]) C (ct_X6_lays C.wf e14) g1 lk_RX6_105 mi_X6_lays (by decide) cs_0 (by decide) dX6_goSue_58 rfl ?_
    show Go w f 61 [some (rv w r0), some (.int x1), some (.int x2), some (.int y2), some (.int y5)] [] M13
    refine g_aload_n C dX6_goSue_61 rfl rfl ?_
    refine gf_6_0 C fl_RX6_7 g1 dX6_goSue_62 ?_
    refine g_iconst (v := 5) C dX6_goSue_65 rfl ?_
    refine g_dup2 C rfl (rv_cat _ _) dX6_goSue_66 ?_
    obtain ⟨g15, h⟩ := of_gdd h
    obtain ⟨g16, h⟩ := of_gdd h
    refine g_iald C g15 g16 dX6_goSue_67 ?_
    refine g_iconst (v := 1) C dX6_goSue_68 rfl ?_
    refine g_iadd C dX6_goSue_69 ?_
    refine g_iast C g15 g16 dX6_goSue_70 ?_
    obtain ⟨M17, e18, h⟩ := of_bvv h
    refine g_mem e18 ?_
    refine g_bipush (v := 10) C dX6_goSue_71 rfl ?_
    refine g_iload C dX6_goSue_73 rfl ?_
    refine g_iadd C dX6_goSue_75 ?_
    refine g_aload_n C dX6_goSue_76 rfl rfl ?_
    refine g_iload_n C dX6_goSue_77 rfl rfl ?_
    obtain ⟨y19, e20, h⟩ := of_obb h
    refine g_callV (As := [.int x1]) C (ct_X6_costOf C.wf e20) g1 lk_RX6_89 mi_X6_costOf (by decide) (cs_i cs_0) (by decide) dX6_goSue_78 rfl ?_
    show Go w f 81 [some (rv w r0), some (.int x1), some (.int x2), some (.int y2), some (.int y5)] [.int y19, .int ((10 : Int32) + y5)] M17
    refine g_isub C dX6_goSue_81 ?_
    cases h
    exact hR 82 _ ⟨.int, rfl, rfl⟩ dX6_goSue_82
  · replace h := of_iff h c4
    refine g_aload_n C dX6_goSue_11 rfl rfl ?_
    refine gf_6_0 C fl_RX6_7 g1 dX6_goSue_12 ?_
    refine g_bipush (v := 6) C dX6_goSue_15 rfl ?_
    refine g_dup2 C rfl (rv_cat _ _) dX6_goSue_17 ?_
    obtain ⟨g21, h⟩ := of_gdd h
    obtain ⟨g22, h⟩ := of_gdd h
    refine g_iald C g21 g22 dX6_goSue_18 ?_
    refine g_iconst (v := 1) C dX6_goSue_19 rfl ?_
    refine g_iadd C dX6_goSue_20 ?_
    refine g_iast C g21 g22 dX6_goSue_21 ?_
    obtain ⟨M23, e24, h⟩ := of_bvv h
    refine g_mem e24 ?_
    refine g_iload_n C dX6_goSue_22 rfl rfl ?_
    cases h
    exact hR 23 _ ⟨.int, rfl, rfl⟩ dX6_goSue_23
def f_X6_sue (r0 : Nat) (x1 : Int32) (x2 : Int32) (M : Mem) : Option (Int32 × Mem) := gdd (kd r0 = 7) <| obb (f_X6_isGap r0 x1 x2 M) fun y2 => if y2 = 0 then (some ((-1 : Int32), M)) else (obb (f_X6_records r0 M) fun M5 => opp (f_X6_goSue r0 x1 x2 M5) fun y9 M7 => some (y9, M7))
set_option maxRecDepth 100000 in
set_option maxHeartbeats 4000000 in
theorem ct_X6_sue {l : Launch} {w : Om} (hw : Wf w) {r0 : Nat} {x1 : Int32} {x2 : Int32} {M : Mem} {r : Int32} {M2 : Mem} (h : f_X6_sue r0 x1 x2 M = some (r, M2)) : Ct l w yX6_sue cX6_sue 3 (some .int) 10 [rv w r0, .int x1, .int x2] M (some (.int r)) M2 := by
  refine ct_of hw (by decide) (cat_s (rv_cat _ _) (cat_s rfl (cat_s rfl cat_0))) (Nat.le_of_ble_eq_true rfl) (fun f _ C hR => ?_)
  show Go w f 0 [some (rv w r0), some (.int x1), some (.int x2)] [] M
  unfold f_X6_sue at h
  refine g_aload_n C dX6_sue_0 rfl rfl ?_
  refine g_iload_n C dX6_sue_1 rfl rfl ?_
  refine g_iload_n C dX6_sue_2 rfl rfl ?_
  obtain ⟨g1, h⟩ := of_gdd h
  obtain ⟨y2, e3, h⟩ := of_obb h
  refine g_callV (As := [.int x1, .int x2]) C (ct_X6_isGap C.wf e3) g1 lk_RX6_129 mi_X6_isGap (by decide) cs_0 (by decide) dX6_sue_3 rfl ?_
  show Go w f 6 [some (rv w r0), some (.int x1), some (.int x2)] [.int y2] M
  refine g_if_ne 11 C dX6_sue_6 (by decide) (fun c4 => ?_) (fun c4 => ?_)
  · replace h := of_iff h c4
    refine g_aload_n C dX6_sue_11 rfl rfl ?_
    obtain ⟨M5, e6, h⟩ := of_obb h
    refine g_callV (As := []) C (ct_X6_records C.wf e6) g1 lk_RX6_112 mi_X6_records (by decide) cs_0 (by decide) dX6_sue_12 rfl ?_
    show Go w f 15 [some (rv w r0), some (.int x1), some (.int x2)] [] M5
    refine g_aload_n C dX6_sue_15 rfl rfl ?_
    refine g_iload_n C dX6_sue_16 rfl rfl ?_
    refine g_iload_n C dX6_sue_17 rfl rfl ?_
    obtain ⟨y9, M7, e8, h⟩ := of_opp h
    refine g_callV (As := [.int x1, .int x2]) C (ct_X6_goSue C.wf e8) g1 lk_RX6_132 mi_X6_goSue (by decide) cs_0 (by decide) dX6_sue_18 rfl ?_
    show Go w f 21 [some (rv w r0), some (.int x1), some (.int x2)] [.int y9] M7
    cases h
    exact hR 21 _ ⟨.int, rfl, rfl⟩ dX6_sue_21
  · replace h := of_ift h c4
    refine g_iconst (v := -1) C dX6_sue_9 rfl ?_
    cases h
    exact hR 10 _ ⟨.int, rfl, rfl⟩ dX6_sue_10
def f_X6_stay (r0 : Nat) (x1 : Int32) (x2 : Int32) (M : Mem) : Option (Int32 × Mem) := gdd (kd r0 = 7) <| obb (f_X6_isEdition r0 x1 M) fun y2 => if y2 = 0 then (some ((-1 : Int32), M)) else (if (f_X6_in x2 (0 : Int32) (30 : Int32)) = 0 then (some ((-1 : Int32), M)) else (obb (f_X6_records r0 M) fun M6 => obb (f_X6_of r0 x1 (2 : Int32) M6) fun y8 => gdd (kd (fld r0 0) = 8) <| gdd (inb (0 : Int32) (ln (fld r0 0)) = true) <| obb (f_X6_lays r0 x1 (2 : Int32) ((gI M6 (fld r0 0) ((0 : Int32)).toNatClampNeg) + x2) M6) fun M12 => some (y8, M12)))
set_option maxRecDepth 100000 in
set_option maxHeartbeats 4000000 in
theorem ct_X6_stay {l : Launch} {w : Om} (hw : Wf w) {r0 : Nat} {x1 : Int32} {x2 : Int32} {M : Mem} {r : Int32} {M2 : Mem} (h : f_X6_stay r0 x1 x2 M = some (r, M2)) : Ct l w yX6_stay cX6_stay 4 (some .int) 2 [rv w r0, .int x1, .int x2] M (some (.int r)) M2 := by
  refine ct_of hw (by decide) (cat_s (rv_cat _ _) (cat_s rfl (cat_s rfl cat_0))) (Nat.le_of_ble_eq_true rfl) (fun f _ C hR => ?_)
  show Go w f 0 [some (rv w r0), some (.int x1), some (.int x2), none] [] M
  unfold f_X6_stay at h
  refine g_aload_n C dX6_stay_0 rfl rfl ?_
  refine g_iload_n C dX6_stay_1 rfl rfl ?_
  obtain ⟨g1, h⟩ := of_gdd h
  obtain ⟨y2, e3, h⟩ := of_obb h
  refine g_callV (As := [.int x1]) C (ct_X6_isEdition C.wf e3) g1 lk_RX6_57 mi_X6_isEdition (by decide) cs_0 (by decide) dX6_stay_2 rfl ?_
  show Go w f 5 [some (rv w r0), some (.int x1), some (.int x2), none] [.int y2] M
  refine g_if_eq 18 C dX6_stay_5 (by decide) (fun c4 => ?_) (fun c4 => ?_)
  · replace h := of_ift h c4
    refine g_iconst (v := -1) C dX6_stay_18 rfl ?_
    cases h
    exact hR 19 _ ⟨.int, rfl, rfl⟩ dX6_stay_19
  · replace h := of_iff h c4
    refine g_iload_n C dX6_stay_8 rfl rfl ?_
    refine g_iconst (v := 0) C dX6_stay_9 rfl ?_
    refine g_bipush (v := 30) C dX6_stay_10 rfl ?_
    refine g_callS (As := [.int x2, .int (0 : Int32), .int (30 : Int32)]) C (ct_X6_in C.wf rfl) lk_RX6_42 mi_X6_in (by decide) cs_0 (by decide) dX6_stay_12 rfl ?_
    show Go w f 15 [some (rv w r0), some (.int x1), some (.int x2), none] [.int (f_X6_in x2 (0 : Int32) (30 : Int32))] M
    refine g_if_ne 20 C dX6_stay_15 (by decide) (fun c5 => ?_) (fun c5 => ?_)
    · replace h := of_iff h c5
      refine g_aload_n C dX6_stay_20 rfl rfl ?_
      obtain ⟨M6, e7, h⟩ := of_obb h
      refine g_callV (As := []) C (ct_X6_records C.wf e7) g1 lk_RX6_112 mi_X6_records (by decide) cs_0 (by decide) dX6_stay_21 rfl ?_
      show Go w f 24 [some (rv w r0), some (.int x1), some (.int x2), none] [] M6
      refine g_aload_n C dX6_stay_24 rfl rfl ?_
      refine g_iload_n C dX6_stay_25 rfl rfl ?_
      refine g_iconst (v := 2) C dX6_stay_26 rfl ?_
      obtain ⟨y8, e9, h⟩ := of_obb h
      refine g_callV (As := [.int x1, .int (2 : Int32)]) C (ct_X6_of C.wf e9) g1 lk_RX6_60 mi_X6_of (by decide) cs_0 (by decide) dX6_stay_27 rfl ?_
      show Go w f 30 [some (rv w r0), some (.int x1), some (.int x2), none] [.int y8] M6
      refine g_istore_n C dX6_stay_30 rfl (by decide) rfl (L2 := [some (rv w r0), some (.int x1), some (.int x2), some (.int y8)]) rfl ?_
      refine g_aload_n C dX6_stay_31 rfl rfl ?_
      refine g_iload_n C dX6_stay_32 rfl rfl ?_
      refine g_iconst (v := 2) C dX6_stay_33 rfl ?_
      refine g_aload_n C dX6_stay_34 rfl rfl ?_
      refine gf_6_0 C fl_RX6_7 g1 dX6_stay_35 ?_
      refine g_iconst (v := 0) C dX6_stay_38 rfl ?_
      obtain ⟨g10, h⟩ := of_gdd h
      obtain ⟨g11, h⟩ := of_gdd h
      refine g_iald C g10 g11 dX6_stay_39 ?_
      refine g_iload_n C dX6_stay_40 rfl rfl ?_
      refine g_iadd C dX6_stay_41 ?_
      obtain ⟨M12, e13, h⟩ := of_obb h
      refine g_callV (As := [.int x1, .int (2 : Int32), .int ((gI M6 (fld r0 0) ((0 : Int32)).toNatClampNeg) + x2)]) C (ct_X6_lays C.wf e13) g1 lk_RX6_105 mi_X6_lays (by decide) cs_0 (by decide) dX6_stay_42 rfl ?_
      show Go w f 45 [some (rv w r0), some (.int x1), some (.int x2), some (.int y8)] [] M12
      refine g_iload_n C dX6_stay_45 rfl rfl ?_
      cases h
      exact hR 46 _ ⟨.int, rfl, rfl⟩ dX6_stay_46
    · replace h := of_ift h c5
      refine g_iconst (v := -1) C dX6_stay_18 rfl ?_
      cases h
      exact hR 19 _ ⟨.int, rfl, rfl⟩ dX6_stay_19
def f_X6_day (r0 : Nat) (M : Mem) : Option (Int32 × Mem) := gdd (kd r0 = 7) <| obb (f_X6_records r0 M) fun M2 => gdd (kd (fld r0 0) = 8) <| gdd (inb (0 : Int32) (ln (fld r0 0)) = true) <| bvv (sI M2 (fld r0 0) ((0 : Int32)).toNatClampNeg ((gI M2 (fld r0 0) ((0 : Int32)).toNatClampNeg) + (1 : Int32))) fun M6 => some (gI M6 (fld r0 0) ((0 : Int32)).toNatClampNeg, M6)
set_option maxRecDepth 100000 in
set_option maxHeartbeats 4000000 in
theorem ct_X6_day {l : Launch} {w : Om} (hw : Wf w) {r0 : Nat} {M : Mem} {r : Int32} {M2 : Mem} (h : f_X6_day r0 M = some (r, M2)) : Ct l w yX6_day cX6_day 1 (some .int) 2 [rv w r0] M (some (.int r)) M2 := by
  refine ct_of hw (by decide) (cat_s (rv_cat _ _) cat_0) (Nat.le_of_ble_eq_true rfl) (fun f _ C hR => ?_)
  show Go w f 0 [some (rv w r0)] [] M
  unfold f_X6_day at h
  refine g_aload_n C dX6_day_0 rfl rfl ?_
  obtain ⟨g1, h⟩ := of_gdd h
  obtain ⟨M2, e3, h⟩ := of_obb h
  refine g_callV (As := []) C (ct_X6_records C.wf e3) g1 lk_RX6_112 mi_X6_records (by decide) cs_0 (by decide) dX6_day_1 rfl ?_
  show Go w f 4 [some (rv w r0)] [] M2
  refine g_aload_n C dX6_day_4 rfl rfl ?_
  refine gf_6_0 C fl_RX6_7 g1 dX6_day_5 ?_
  refine g_iconst (v := 0) C dX6_day_8 rfl ?_
  refine g_dup2 C rfl (rv_cat _ _) dX6_day_9 ?_
  obtain ⟨g4, h⟩ := of_gdd h
  obtain ⟨g5, h⟩ := of_gdd h
  refine g_iald C g4 g5 dX6_day_10 ?_
  refine g_iconst (v := 1) C dX6_day_11 rfl ?_
  refine g_iadd C dX6_day_12 ?_
  refine g_iast C g4 g5 dX6_day_13 ?_
  obtain ⟨M6, e7, h⟩ := of_bvv h
  refine g_mem e7 ?_
  refine g_aload_n C dX6_day_14 rfl rfl ?_
  refine gf_6_0 C fl_RX6_7 g1 dX6_day_15 ?_
  refine g_iconst (v := 0) C dX6_day_18 rfl ?_
  refine g_iald C g4 g5 dX6_day_19 ?_
  cases h
  exact hR 20 _ ⟨.int, rfl, rfl⟩ dX6_day_20
def f_X6_append (r0 : Nat) (x1 : Int32) (M : Mem) : Option (Int32 × Mem) := if (f_X6_in x1 (33 : Int32) (126 : Int32)) = 0 then (some ((-1 : Int32), M)) else (gdd (kd r0 = 7) <| if (gI M r0 6) = (60 : Int32) then (some ((-3 : Int32), M)) else (gdd (kd (fld r0 5) = 8) <| gdd (inb (gI M r0 6) (ln (fld r0 5)) = true) <| bvv (sI M (fld r0 5) (gI M r0 6).toNatClampNeg x1) fun M6 => bvv (sI M6 r0 6 ((gI M6 r0 6) + (1 : Int32))) fun M8 => some (gI M8 r0 6, M8)))
set_option maxRecDepth 100000 in
set_option maxHeartbeats 4000000 in
theorem ct_X6_append {l : Launch} {w : Om} (hw : Wf w) {r0 : Nat} {x1 : Int32} {M : Mem} {r : Int32} {M2 : Mem} (h : f_X6_append r0 x1 M = some (r, M2)) : Ct l w yX6_append cX6_append 2 (some .int) 1 [rv w r0, .int x1] M (some (.int r)) M2 := by
  refine ct_of hw (by decide) (cat_s (rv_cat _ _) (cat_s rfl cat_0)) (Nat.le_of_ble_eq_true rfl) (fun f _ C hR => ?_)
  show Go w f 0 [some (rv w r0), some (.int x1)] [] M
  unfold f_X6_append at h
  refine g_iload_n C dX6_append_0 rfl rfl ?_
  refine g_bipush (v := 33) C dX6_append_1 rfl ?_
  refine g_bipush (v := 126) C dX6_append_3 rfl ?_
  refine g_callS (As := [.int x1, .int (33 : Int32), .int (126 : Int32)]) C (ct_X6_in C.wf rfl) lk_RX6_42 mi_X6_in (by decide) cs_0 (by decide) dX6_append_5 rfl ?_
  show Go w f 8 [some (rv w r0), some (.int x1)] [.int (f_X6_in x1 (33 : Int32) (126 : Int32))] M
  refine g_if_ne 13 C dX6_append_8 (by decide) (fun c1 => ?_) (fun c1 => ?_)
  · replace h := of_iff h c1
    refine g_aload_n C dX6_append_13 rfl rfl ?_
    obtain ⟨g2, h⟩ := of_gdd h
    refine gf_6_6 C fl_RX6_135 g2 dX6_append_14 ?_
    refine g_bipush (v := 60) C dX6_append_17 rfl ?_
    refine g_icmp_ne 25 C dX6_append_19 (by decide) (fun c3 => ?_) (fun c3 => ?_)
    · replace h := of_iff h c3
      refine g_aload_n C dX6_append_25 rfl rfl ?_
      refine gf_6_5 C fl_RX6_19 g2 dX6_append_26 ?_
      refine g_aload_n C dX6_append_29 rfl rfl ?_
      refine gf_6_6 C fl_RX6_135 g2 dX6_append_30 ?_
      refine g_iload_n C dX6_append_33 rfl rfl ?_
      obtain ⟨g4, h⟩ := of_gdd h
      obtain ⟨g5, h⟩ := of_gdd h
      refine g_iast C g4 g5 dX6_append_34 ?_
      obtain ⟨M6, e7, h⟩ := of_bvv h
      refine g_mem e7 ?_
      refine g_aload_n C dX6_append_35 rfl rfl ?_
      refine g_dup C (rv_cat _ _) dX6_append_36 ?_
      refine gf_6_6 C fl_RX6_135 g2 dX6_append_37 ?_
      refine g_iconst (v := 1) C dX6_append_40 rfl ?_
      refine g_iadd C dX6_append_41 ?_
      refine pf_6_6 C fl_RX6_135 g2 dX6_append_42 ?_
      obtain ⟨M8, e9, h⟩ := of_bvv h
      refine g_mem e9 ?_
      refine g_aload_n C dX6_append_45 rfl rfl ?_
      refine gf_6_6 C fl_RX6_135 g2 dX6_append_46 ?_
      cases h
      exact hR 49 _ ⟨.int, rfl, rfl⟩ dX6_append_49
    · replace h := of_ift h c3
      refine g_bipush (v := -3) C dX6_append_22 rfl ?_
      cases h
      exact hR 24 _ ⟨.int, rfl, rfl⟩ dX6_append_24
  · replace h := of_ift h c1
    refine g_iconst (v := -1) C dX6_append_11 rfl ?_
    cases h
    exact hR 12 _ ⟨.int, rfl, rfl⟩ dX6_append_12
def f_X6_clear (r0 : Nat) (M : Mem) : Option (Int32 × Mem) := gdd (kd r0 = 7) <| bvv (gI M r0 6) fun y2 => bvv (sI M r0 6 (0 : Int32)) fun M4 => some (y2, M4)
set_option maxRecDepth 100000 in
set_option maxHeartbeats 4000000 in
theorem ct_X6_clear {l : Launch} {w : Om} (hw : Wf w) {r0 : Nat} {M : Mem} {r : Int32} {M2 : Mem} (h : f_X6_clear r0 M = some (r, M2)) : Ct l w yX6_clear cX6_clear 2 (some .int) 0 [rv w r0] M (some (.int r)) M2 := by
  refine ct_of hw (by decide) (cat_s (rv_cat _ _) cat_0) (Nat.le_of_ble_eq_true rfl) (fun f _ C hR => ?_)
  show Go w f 0 [some (rv w r0), none] [] M
  unfold f_X6_clear at h
  refine g_aload_n C dX6_clear_0 rfl rfl ?_
  obtain ⟨g1, h⟩ := of_gdd h
  refine gf_6_6 C fl_RX6_135 g1 dX6_clear_1 ?_
  obtain ⟨y2, e3, h⟩ := of_bvv h
  refine g_topi e3 ?_
  refine g_istore_n C dX6_clear_4 rfl (by decide) (rv_cat _ _) (L2 := [some (rv w r0), some (.int y2)]) rfl ?_
  refine g_aload_n C dX6_clear_5 rfl rfl ?_
  refine g_iconst (v := 0) C dX6_clear_6 rfl ?_
  refine pf_6_6 C fl_RX6_135 g1 dX6_clear_7 ?_
  obtain ⟨M4, e5, h⟩ := of_bvv h
  refine g_mem e5 ?_
  refine g_iload_n C dX6_clear_10 rfl rfl ?_
  cases h
  exact hR 11 _ ⟨.int, rfl, rfl⟩ dX6_clear_11
def f_X6_here (r0 : Nat) (M : Mem) : Option Int32 := gdd (kd r0 = 7) <| if (gI M r0 6) ≤ (gI M r0 7) then (some (0 : Int32)) else (gdd (kd (fld r0 5) = 8) <| gdd (inb (gI M r0 7) (ln (fld r0 5)) = true) <| some (gI M (fld r0 5) (gI M r0 7).toNatClampNeg))
set_option maxRecDepth 100000 in
set_option maxHeartbeats 4000000 in
theorem ct_X6_here {l : Launch} {w : Om} (hw : Wf w) {r0 : Nat}  {M : Mem} {r : Int32} (h : f_X6_here r0 M = some r) : Ct l w yX6_here cX6_here 1 (some .int) 0 [rv w r0] M (some (.int r)) M := by
  refine ct_of hw (by decide) (cat_s (rv_cat _ _) cat_0) (Nat.le_of_ble_eq_true rfl) (fun f _ C hR => ?_)
  show Go w f 0 [some (rv w r0)] [] M
  unfold f_X6_here at h
  refine g_aload_n C dX6_here_0 rfl rfl ?_
  obtain ⟨g1, h⟩ := of_gdd h
  refine gf_6_7 C fl_RX6_138 g1 dX6_here_1 ?_
  refine g_aload_n C dX6_here_4 rfl rfl ?_
  refine gf_6_6 C fl_RX6_135 g1 dX6_here_5 ?_
  refine g_icmp_ge 23 C dX6_here_8 (by decide) (fun c2 => ?_) (fun c2 => ?_)
  · replace h := of_ift h c2
    refine g_iconst (v := 0) C dX6_here_23 rfl ?_
    cases h
    exact hR 24 _ ⟨.int, rfl, rfl⟩ dX6_here_24
  · replace h := of_iff h c2
    refine g_aload_n C dX6_here_11 rfl rfl ?_
    refine gf_6_5 C fl_RX6_19 g1 dX6_here_12 ?_
    refine g_aload_n C dX6_here_15 rfl rfl ?_
    refine gf_6_7 C fl_RX6_138 g1 dX6_here_16 ?_
    obtain ⟨g3, h⟩ := of_gdd h
    obtain ⟨g4, h⟩ := of_gdd h
    refine g_iald C g3 g4 dX6_here_19 ?_
    refine g_goto 24 C dX6_here_20 (by decide) ?_
    cases h
    exact hR 24 _ ⟨.int, rfl, rfl⟩ dX6_here_24
def f_X6_takes (r0 : Nat) (x1 : Int32) (M : Mem) : Option Mem := gdd (kd r0 = 7) <| if (gI M r0 8) = 0 then (bvv (sI M r0 8 (0 : Int32)) fun M3 => if (gI M3 r0 8) = 0 then (bvv (sI M3 r0 7 ((gI M3 r0 7) + (0 : Int32))) fun M6 => some M6) else (bvv (sI M3 r0 7 ((gI M3 r0 7) + (1 : Int32))) fun M8 => some M8)) else (if x1 = 0 then (bvv (sI M r0 8 (0 : Int32)) fun M11 => if (gI M11 r0 8) = 0 then (bvv (sI M11 r0 7 ((gI M11 r0 7) + (0 : Int32))) fun M14 => some M14) else (bvv (sI M11 r0 7 ((gI M11 r0 7) + (1 : Int32))) fun M16 => some M16)) else (bvv (sI M r0 8 (1 : Int32)) fun M18 => if (gI M18 r0 8) = 0 then (bvv (sI M18 r0 7 ((gI M18 r0 7) + (0 : Int32))) fun M21 => some M21) else (bvv (sI M18 r0 7 ((gI M18 r0 7) + (1 : Int32))) fun M23 => some M23)))
set_option maxRecDepth 100000 in
set_option maxHeartbeats 4000000 in
theorem ct_X6_takes {l : Launch} {w : Om} (hw : Wf w) {r0 : Nat} {x1 : Int32} {M : Mem} {M2 : Mem} (h : f_X6_takes r0 x1 M = some M2) : Ct l w yX6_takes cX6_takes 2 none 0 [rv w r0, .int x1] M none M2 := by
  refine ct_of hw (by decide) (cat_s (rv_cat _ _) (cat_s rfl cat_0)) (Nat.le_of_ble_eq_true rfl) (fun f _ C hR => ?_)
  show Go w f 0 [some (rv w r0), some (.int x1)] [] M
  unfold f_X6_takes at h
  refine g_aload_n C dX6_takes_0 rfl rfl ?_
  refine g_aload_n C dX6_takes_1 rfl rfl ?_
  obtain ⟨g1, h⟩ := of_gdd h
  refine gf_6_8 C fl_RX6_141 g1 dX6_takes_2 ?_
  refine g_if_eq 16 C dX6_takes_5 (by decide) (fun c2 => ?_) (fun c2 => ?_)
  · replace h := of_ift h c2
    refine g_iconst (v := 0) C dX6_takes_16 rfl ?_
    refine pf_6_8 C fl_RX6_141 g1 (isb_0) dX6_takes_17 ?_
    obtain ⟨M3, e4, h⟩ := of_bvv h
    refine g_mem e4 ?_
    refine g_aload_n C dX6_takes_20 rfl rfl ?_
    refine g_dup C (rv_cat _ _) dX6_takes_21 ?_
    refine gf_6_7 C fl_RX6_138 g1 dX6_takes_22 ?_
    refine g_aload_n C dX6_takes_25 rfl rfl ?_
    refine gf_6_8 C fl_RX6_141 g1 dX6_takes_26 ?_
    refine g_if_eq 36 C dX6_takes_29 (by decide) (fun c5 => ?_) (fun c5 => ?_)
    · replace h := of_ift h c5
      refine g_iconst (v := 0) C dX6_takes_36 rfl ?_
      refine g_iadd C dX6_takes_37 ?_
      refine pf_6_7 C fl_RX6_138 g1 dX6_takes_38 ?_
      obtain ⟨M6, e7, h⟩ := of_bvv h
      refine g_mem e7 ?_
      cases h
      exact hR 41 _ rfl dX6_takes_41
    · replace h := of_iff h c5
      refine g_iconst (v := 1) C dX6_takes_32 rfl ?_
      refine g_goto 37 C dX6_takes_33 (by decide) ?_
      refine g_iadd C dX6_takes_37 ?_
      refine pf_6_7 C fl_RX6_138 g1 dX6_takes_38 ?_
      obtain ⟨M8, e9, h⟩ := of_bvv h
      refine g_mem e9 ?_
      cases h
      exact hR 41 _ rfl dX6_takes_41
  · replace h := of_iff h c2
    refine g_iload_n C dX6_takes_8 rfl rfl ?_
    refine g_if_eq 16 C dX6_takes_9 (by decide) (fun c10 => ?_) (fun c10 => ?_)
    · replace h := of_ift h c10
      refine g_iconst (v := 0) C dX6_takes_16 rfl ?_
      refine pf_6_8 C fl_RX6_141 g1 (isb_0) dX6_takes_17 ?_
      obtain ⟨M11, e12, h⟩ := of_bvv h
      refine g_mem e12 ?_
      refine g_aload_n C dX6_takes_20 rfl rfl ?_
      refine g_dup C (rv_cat _ _) dX6_takes_21 ?_
      refine gf_6_7 C fl_RX6_138 g1 dX6_takes_22 ?_
      refine g_aload_n C dX6_takes_25 rfl rfl ?_
      refine gf_6_8 C fl_RX6_141 g1 dX6_takes_26 ?_
      refine g_if_eq 36 C dX6_takes_29 (by decide) (fun c13 => ?_) (fun c13 => ?_)
      · replace h := of_ift h c13
        refine g_iconst (v := 0) C dX6_takes_36 rfl ?_
        refine g_iadd C dX6_takes_37 ?_
        refine pf_6_7 C fl_RX6_138 g1 dX6_takes_38 ?_
        obtain ⟨M14, e15, h⟩ := of_bvv h
        refine g_mem e15 ?_
        cases h
        exact hR 41 _ rfl dX6_takes_41
      · replace h := of_iff h c13
        refine g_iconst (v := 1) C dX6_takes_32 rfl ?_
        refine g_goto 37 C dX6_takes_33 (by decide) ?_
        refine g_iadd C dX6_takes_37 ?_
        refine pf_6_7 C fl_RX6_138 g1 dX6_takes_38 ?_
        obtain ⟨M16, e17, h⟩ := of_bvv h
        refine g_mem e17 ?_
        cases h
        exact hR 41 _ rfl dX6_takes_41
    · replace h := of_iff h c10
      refine g_iconst (v := 1) C dX6_takes_12 rfl ?_
      refine g_goto 17 C dX6_takes_13 (by decide) ?_
      refine pf_6_8 C fl_RX6_141 g1 (isb_1) dX6_takes_17 ?_
      obtain ⟨M18, e19, h⟩ := of_bvv h
      refine g_mem e19 ?_
      refine g_aload_n C dX6_takes_20 rfl rfl ?_
      refine g_dup C (rv_cat _ _) dX6_takes_21 ?_
      refine gf_6_7 C fl_RX6_138 g1 dX6_takes_22 ?_
      refine g_aload_n C dX6_takes_25 rfl rfl ?_
      refine gf_6_8 C fl_RX6_141 g1 dX6_takes_26 ?_
      refine g_if_eq 36 C dX6_takes_29 (by decide) (fun c20 => ?_) (fun c20 => ?_)
      · replace h := of_ift h c20
        refine g_iconst (v := 0) C dX6_takes_36 rfl ?_
        refine g_iadd C dX6_takes_37 ?_
        refine pf_6_7 C fl_RX6_138 g1 dX6_takes_38 ?_
        obtain ⟨M21, e22, h⟩ := of_bvv h
        refine g_mem e22 ?_
        cases h
        exact hR 41 _ rfl dX6_takes_41
      · replace h := of_iff h c20
        refine g_iconst (v := 1) C dX6_takes_32 rfl ?_
        refine g_goto 37 C dX6_takes_33 (by decide) ?_
        refine g_iadd C dX6_takes_37 ?_
        refine pf_6_7 C fl_RX6_138 g1 dX6_takes_38 ?_
        obtain ⟨M23, e24, h⟩ := of_bvv h
        refine g_mem e24 ?_
        cases h
        exact hR 41 _ rfl dX6_takes_41
def f_X6_isWords_22 : Nat → Nat → Int32 → Mem → Option (Int32 × Mem)
  | 0, _, _, _ => none
  | n + 1, r0, x1, M => if x1 = 0 then (gdd (kd r0 = 7) <| if (gI M r0 8) = 0 then (some ((0 : Int32), M)) else (if (gI M r0 7) = (gI M r0 6) then (some ((1 : Int32), M)) else (some ((0 : Int32), M)))) else (gdd (kd r0 = 7) <| obb (f_X6_here r0 M) fun y206 => obb (f_X6_takes r0 (f_X6_in y206 (97 : Int32) (102 : Int32)) M) fun M208 => if (gI M208 r0 8) = 0 then (bvv (sI M208 r0 9 ((gI M208 r0 9) + (0 : Int32))) fun M211 => if (gI M211 r0 8) = 0 then (bvv (sI M211 r0 10 ((gI M211 r0 10) ||| (0 : Int32))) fun M214 => bvv (sI M214 r0 7 ((gI M214 r0 7) + (0 : Int32))) fun M216 => if (gI M216 r0 8) = 0 then ((f_X6_isWords_22 n) r0 (0 : Int32) M216) else (if (12 : Int32) ≤ (gI M216 r0 9) then ((f_X6_isWords_22 n) r0 (0 : Int32) M216) else (if (gI M216 r0 6) ≤ (gI M216 r0 7) then ((f_X6_isWords_22 n) r0 (0 : Int32) M216) else ((f_X6_isWords_22 n) r0 (1 : Int32) M216)))) else (if (12 : Int32) ≤ (gI M211 r0 9) then (bvv (sI M211 r0 10 ((gI M211 r0 10) ||| (0 : Int32))) fun M222 => bvv (sI M222 r0 7 ((gI M222 r0 7) + (0 : Int32))) fun M224 => if (gI M224 r0 8) = 0 then ((f_X6_isWords_22 n) r0 (0 : Int32) M224) else (if (12 : Int32) ≤ (gI M224 r0 9) then ((f_X6_isWords_22 n) r0 (0 : Int32) M224) else (if (gI M224 r0 6) ≤ (gI M224 r0 7) then ((f_X6_isWords_22 n) r0 (0 : Int32) M224) else ((f_X6_isWords_22 n) r0 (1 : Int32) M224)))) else (obb (f_X6_here r0 M211) fun y229 => if y229 = (44 : Int32) then (bvv (sI M211 r0 10 ((gI M211 r0 10) ||| ((1 : Int32) <<< (((gI M211 r0 9) - (1 : Int32)) &&& 31)))) fun M239 => bvv (sI M239 r0 7 ((gI M239 r0 7) + (1 : Int32))) fun M241 => if (gI M241 r0 8) = 0 then ((f_X6_isWords_22 n) r0 (0 : Int32) M241) else ((f_X6_isWords_22 n) r0 (1 : Int32) M241)) else (bvv (sI M211 r0 10 ((gI M211 r0 10) ||| (0 : Int32))) fun M232 => bvv (sI M232 r0 7 ((gI M232 r0 7) + (0 : Int32))) fun M234 => if (gI M234 r0 8) = 0 then ((f_X6_isWords_22 n) r0 (0 : Int32) M234) else (if (12 : Int32) ≤ (gI M234 r0 9) then ((f_X6_isWords_22 n) r0 (0 : Int32) M234) else (if (gI M234 r0 6) ≤ (gI M234 r0 7) then ((f_X6_isWords_22 n) r0 (0 : Int32) M234) else ((f_X6_isWords_22 n) r0 (1 : Int32) M234))))))) else (bvv (sI M208 r0 9 ((gI M208 r0 9) + (1 : Int32))) fun M244 => if (gI M244 r0 8) = 0 then (bvv (sI M244 r0 10 ((gI M244 r0 10) ||| (0 : Int32))) fun M247 => bvv (sI M247 r0 7 ((gI M247 r0 7) + (0 : Int32))) fun M249 => if (gI M249 r0 8) = 0 then ((f_X6_isWords_22 n) r0 (0 : Int32) M249) else (if (12 : Int32) ≤ (gI M249 r0 9) then ((f_X6_isWords_22 n) r0 (0 : Int32) M249) else (if (gI M249 r0 6) ≤ (gI M249 r0 7) then ((f_X6_isWords_22 n) r0 (0 : Int32) M249) else ((f_X6_isWords_22 n) r0 (1 : Int32) M249)))) else (if (12 : Int32) ≤ (gI M244 r0 9) then (bvv (sI M244 r0 10 ((gI M244 r0 10) ||| (0 : Int32))) fun M255 => bvv (sI M255 r0 7 ((gI M255 r0 7) + (0 : Int32))) fun M257 => if (gI M257 r0 8) = 0 then ((f_X6_isWords_22 n) r0 (0 : Int32) M257) else (if (12 : Int32) ≤ (gI M257 r0 9) then ((f_X6_isWords_22 n) r0 (0 : Int32) M257) else (if (gI M257 r0 6) ≤ (gI M257 r0 7) then ((f_X6_isWords_22 n) r0 (0 : Int32) M257) else ((f_X6_isWords_22 n) r0 (1 : Int32) M257)))) else (obb (f_X6_here r0 M244) fun y262 => if y262 = (44 : Int32) then (bvv (sI M244 r0 10 ((gI M244 r0 10) ||| ((1 : Int32) <<< (((gI M244 r0 9) - (1 : Int32)) &&& 31)))) fun M272 => bvv (sI M272 r0 7 ((gI M272 r0 7) + (1 : Int32))) fun M274 => if (gI M274 r0 8) = 0 then ((f_X6_isWords_22 n) r0 (0 : Int32) M274) else ((f_X6_isWords_22 n) r0 (1 : Int32) M274)) else (bvv (sI M244 r0 10 ((gI M244 r0 10) ||| (0 : Int32))) fun M265 => bvv (sI M265 r0 7 ((gI M265 r0 7) + (0 : Int32))) fun M267 => if (gI M267 r0 8) = 0 then ((f_X6_isWords_22 n) r0 (0 : Int32) M267) else (if (12 : Int32) ≤ (gI M267 r0 9) then ((f_X6_isWords_22 n) r0 (0 : Int32) M267) else (if (gI M267 r0 6) ≤ (gI M267 r0 7) then ((f_X6_isWords_22 n) r0 (0 : Int32) M267) else ((f_X6_isWords_22 n) r0 (1 : Int32) M267))))))))
set_option maxRecDepth 100000 in
set_option maxHeartbeats 4000000 in
theorem t_X6_isWords_22 {w : Om} {f : Fr} {r : Int32} {M2 : Mem} (C : Cx w f RX6 cX6_isWords 3 1) (hR : Rt w f cX6_isWords (some .boolean) (some (.int r)) M2)   : ∀ (n : Nat) (r0 : Nat) (x1 : Int32) (M : Mem), f_X6_isWords_22 n r0 x1 M = some (r, M2) → Go w f 22 [some (rv w r0), some (.int x1), none] [] M := by
  intro n
  induction n with
  | zero =>
    intro r0 x1 M h
    cases h
  | succ n ih =>
    intro r0 x1 M h
    rw [f_X6_isWords_22] at h
    refine g_iload_n C dX6_isWords_22 rfl rfl ?_
    refine g_if_eq 176 C dX6_isWords_23 (by decide) (fun c201 => ?_) (fun c201 => ?_)
    · replace h := of_ift h c201
      refine g_aload_n C dX6_isWords_176 rfl rfl ?_
      obtain ⟨g202, h⟩ := of_gdd h
      refine gf_6_8 C fl_RX6_141 g202 dX6_isWords_177 ?_
      refine g_if_eq 198 C dX6_isWords_180 (by decide) (fun c203 => ?_) (fun c203 => ?_)
      · replace h := of_ift h c203
        refine g_iconst (v := 0) C dX6_isWords_198 rfl ?_
        cases h
        exact hR 199 _ ⟨.boolean, rfl, rfl⟩ dX6_isWords_199
      · replace h := of_iff h c203
        refine g_aload_n C dX6_isWords_183 rfl rfl ?_
        refine gf_6_7 C fl_RX6_138 g202 dX6_isWords_184 ?_
        refine g_aload_n C dX6_isWords_187 rfl rfl ?_
        refine gf_6_6 C fl_RX6_135 g202 dX6_isWords_188 ?_
        refine g_icmp_ne 198 C dX6_isWords_191 (by decide) (fun c204 => ?_) (fun c204 => ?_)
        · replace h := of_iff h c204
          refine g_iconst (v := 0) C dX6_isWords_198 rfl ?_
          cases h
          exact hR 199 _ ⟨.boolean, rfl, rfl⟩ dX6_isWords_199
        · replace h := of_ift h c204
          refine g_iconst (v := 1) C dX6_isWords_194 rfl ?_
          refine g_goto 199 C dX6_isWords_195 (by decide) ?_
          cases h
          exact hR 199 _ ⟨.boolean, rfl, rfl⟩ dX6_isWords_199
    · replace h := of_iff h c201
      refine g_aload_n C dX6_isWords_26 rfl rfl ?_
      refine g_aload_n C dX6_isWords_27 rfl rfl ?_
      obtain ⟨g205, h⟩ := of_gdd h
      obtain ⟨y206, e207, h⟩ := of_obb h
      refine g_callV (As := []) C (ct_X6_here C.wf e207) g205 lk_RX6_151 mi_X6_here (by decide) (cs_r cs_0) (by decide) dX6_isWords_28 rfl ?_
      show Go w f 31 [some (rv w r0), some (.int x1), none] [.int y206, rv w r0] M
      refine g_bipush (v := 97) C dX6_isWords_31 rfl ?_
      refine g_bipush (v := 102) C dX6_isWords_33 rfl ?_
      refine g_callS (As := [.int y206, .int (97 : Int32), .int (102 : Int32)]) C (ct_X6_in C.wf rfl) lk_RX6_42 mi_X6_in (by decide) (cs_r cs_0) (by decide) dX6_isWords_35 rfl ?_
      show Go w f 38 [some (rv w r0), some (.int x1), none] [.int (f_X6_in y206 (97 : Int32) (102 : Int32)), rv w r0] M
      obtain ⟨M208, e209, h⟩ := of_obb h
      refine g_callV (As := [.int (f_X6_in y206 (97 : Int32) (102 : Int32))]) C (ct_X6_takes C.wf e209) g205 lk_RX6_154 mi_X6_takes (by decide) cs_0 (by decide) dX6_isWords_38 rfl ?_
      show Go w f 41 [some (rv w r0), some (.int x1), none] [] M208
      refine g_aload_n C dX6_isWords_41 rfl rfl ?_
      refine g_dup C (rv_cat _ _) dX6_isWords_42 ?_
      refine gf_6_9 C fl_RX6_145 g205 dX6_isWords_43 ?_
      refine g_aload_n C dX6_isWords_46 rfl rfl ?_
      refine gf_6_8 C fl_RX6_141 g205 dX6_isWords_47 ?_
      refine g_if_eq 57 C dX6_isWords_50 (by decide) (fun c210 => ?_) (fun c210 => ?_)
      · replace h := of_ift h c210
        refine g_iconst (v := 0) C dX6_isWords_57 rfl ?_
        refine g_iadd C dX6_isWords_58 ?_
        refine pf_6_9 C fl_RX6_145 g205 dX6_isWords_59 ?_
        obtain ⟨M211, e212, h⟩ := of_bvv h
        refine g_mem e212 ?_
        refine g_aload_n C dX6_isWords_62 rfl rfl ?_
        refine gf_6_8 C fl_RX6_141 g205 dX6_isWords_63 ?_
        refine g_if_eq 91 C dX6_isWords_66 (by decide) (fun c213 => ?_) (fun c213 => ?_)
        · replace h := of_ift h c213
          refine g_iconst (v := 0) C dX6_isWords_91 rfl ?_
          refine g_istore_n C dX6_isWords_92 rfl (by decide) rfl (L2 := [some (rv w r0), some (.int x1), some (.int (0 : Int32))]) rfl ?_
          refine g_aload_n C dX6_isWords_93 rfl rfl ?_
          refine g_dup C (rv_cat _ _) dX6_isWords_94 ?_
          refine gf_6_10 C fl_RX6_148 g205 dX6_isWords_95 ?_
          refine g_iload_n C dX6_isWords_98 rfl rfl ?_
          refine g_if_eq 113 C dX6_isWords_99 (by decide) (fun _ => ?_) (fun c => absurd c (by decide))
          refine g_iconst (v := 0) C dX6_isWords_113 rfl ?_
          refine g_ior C dX6_isWords_114 ?_
          refine pf_6_10 C fl_RX6_148 g205 dX6_isWords_115 ?_
          obtain ⟨M214, e215, h⟩ := of_bvv h
          refine g_mem e215 ?_
          refine g_aload_n C dX6_isWords_118 rfl rfl ?_
          refine g_dup C (rv_cat _ _) dX6_isWords_119 ?_
          refine gf_6_7 C fl_RX6_138 g205 dX6_isWords_120 ?_
          refine g_iload_n C dX6_isWords_123 rfl rfl ?_
          refine g_if_eq 131 C dX6_isWords_124 (by decide) (fun _ => ?_) (fun c => absurd c (by decide))
          refine g_iconst (v := 0) C dX6_isWords_131 rfl ?_
          refine g_iadd C dX6_isWords_132 ?_
          refine pf_6_7 C fl_RX6_138 g205 dX6_isWords_133 ?_
          obtain ⟨M216, e217, h⟩ := of_bvv h
          refine g_mem e217 ?_
          refine g_aload_n C dX6_isWords_136 rfl rfl ?_
          refine gf_6_8 C fl_RX6_141 g205 dX6_isWords_137 ?_
          refine g_if_eq 171 C dX6_isWords_140 (by decide) (fun c218 => ?_) (fun c218 => ?_)
          · replace h := of_ift h c218
            refine g_iconst (v := 0) C dX6_isWords_171 rfl ?_
            refine g_istore_n C dX6_isWords_172 rfl (by decide) (rv_cat _ _) (L2 := [some (rv w r0), some (.int (0 : Int32)), some (.int (0 : Int32))]) rfl ?_
            refine g_goto 22 C dX6_isWords_173 (by decide) ?_
            refine g_mask (bs := [true, true, false]) (L2 := [some (rv w r0), some (.int (0 : Int32)), none]) rfl ?_
            exact ih r0 (0 : Int32) M216 h
          · replace h := of_iff h c218
            refine g_iload_n C dX6_isWords_143 rfl rfl ?_
            refine g_if_ne 167 C dX6_isWords_144 (by decide) (fun c => absurd c (by decide)) (fun _ => ?_)
            refine g_aload_n C dX6_isWords_147 rfl rfl ?_
            refine gf_6_9 C fl_RX6_145 g205 dX6_isWords_148 ?_
            refine g_bipush (v := 12) C dX6_isWords_151 rfl ?_
            refine g_icmp_ge 171 C dX6_isWords_153 (by decide) (fun c219 => ?_) (fun c219 => ?_)
            · replace h := of_ift h c219
              refine g_iconst (v := 0) C dX6_isWords_171 rfl ?_
              refine g_istore_n C dX6_isWords_172 rfl (by decide) (rv_cat _ _) (L2 := [some (rv w r0), some (.int (0 : Int32)), some (.int (0 : Int32))]) rfl ?_
              refine g_goto 22 C dX6_isWords_173 (by decide) ?_
              refine g_mask (bs := [true, true, false]) (L2 := [some (rv w r0), some (.int (0 : Int32)), none]) rfl ?_
              exact ih r0 (0 : Int32) M216 h
            · replace h := of_iff h c219
              refine g_aload_n C dX6_isWords_156 rfl rfl ?_
              refine gf_6_7 C fl_RX6_138 g205 dX6_isWords_157 ?_
              refine g_aload_n C dX6_isWords_160 rfl rfl ?_
              refine gf_6_6 C fl_RX6_135 g205 dX6_isWords_161 ?_
              refine g_icmp_ge 171 C dX6_isWords_164 (by decide) (fun c220 => ?_) (fun c220 => ?_)
              · replace h := of_ift h c220
                refine g_iconst (v := 0) C dX6_isWords_171 rfl ?_
                refine g_istore_n C dX6_isWords_172 rfl (by decide) (rv_cat _ _) (L2 := [some (rv w r0), some (.int (0 : Int32)), some (.int (0 : Int32))]) rfl ?_
                refine g_goto 22 C dX6_isWords_173 (by decide) ?_
                refine g_mask (bs := [true, true, false]) (L2 := [some (rv w r0), some (.int (0 : Int32)), none]) rfl ?_
                exact ih r0 (0 : Int32) M216 h
              · replace h := of_iff h c220
                refine g_iconst (v := 1) C dX6_isWords_167 rfl ?_
                refine g_goto 172 C dX6_isWords_168 (by decide) ?_
                refine g_istore_n C dX6_isWords_172 rfl (by decide) (rv_cat _ _) (L2 := [some (rv w r0), some (.int (1 : Int32)), some (.int (0 : Int32))]) rfl ?_
                refine g_goto 22 C dX6_isWords_173 (by decide) ?_
                refine g_mask (bs := [true, true, false]) (L2 := [some (rv w r0), some (.int (1 : Int32)), none]) rfl ?_
                exact ih r0 (1 : Int32) M216 h
        · replace h := of_iff h c213
          refine g_aload_n C dX6_isWords_69 rfl rfl ?_
          refine gf_6_9 C fl_RX6_145 g205 dX6_isWords_70 ?_
          refine g_bipush (v := 12) C dX6_isWords_73 rfl ?_
          refine g_icmp_ge 91 C dX6_isWords_75 (by decide) (fun c221 => ?_) (fun c221 => ?_)
          · replace h := of_ift h c221
            refine g_iconst (v := 0) C dX6_isWords_91 rfl ?_
            refine g_istore_n C dX6_isWords_92 rfl (by decide) rfl (L2 := [some (rv w r0), some (.int x1), some (.int (0 : Int32))]) rfl ?_
            refine g_aload_n C dX6_isWords_93 rfl rfl ?_
            refine g_dup C (rv_cat _ _) dX6_isWords_94 ?_
            refine gf_6_10 C fl_RX6_148 g205 dX6_isWords_95 ?_
            refine g_iload_n C dX6_isWords_98 rfl rfl ?_
            refine g_if_eq 113 C dX6_isWords_99 (by decide) (fun _ => ?_) (fun c => absurd c (by decide))
            refine g_iconst (v := 0) C dX6_isWords_113 rfl ?_
            refine g_ior C dX6_isWords_114 ?_
            refine pf_6_10 C fl_RX6_148 g205 dX6_isWords_115 ?_
            obtain ⟨M222, e223, h⟩ := of_bvv h
            refine g_mem e223 ?_
            refine g_aload_n C dX6_isWords_118 rfl rfl ?_
            refine g_dup C (rv_cat _ _) dX6_isWords_119 ?_
            refine gf_6_7 C fl_RX6_138 g205 dX6_isWords_120 ?_
            refine g_iload_n C dX6_isWords_123 rfl rfl ?_
            refine g_if_eq 131 C dX6_isWords_124 (by decide) (fun _ => ?_) (fun c => absurd c (by decide))
            refine g_iconst (v := 0) C dX6_isWords_131 rfl ?_
            refine g_iadd C dX6_isWords_132 ?_
            refine pf_6_7 C fl_RX6_138 g205 dX6_isWords_133 ?_
            obtain ⟨M224, e225, h⟩ := of_bvv h
            refine g_mem e225 ?_
            refine g_aload_n C dX6_isWords_136 rfl rfl ?_
            refine gf_6_8 C fl_RX6_141 g205 dX6_isWords_137 ?_
            refine g_if_eq 171 C dX6_isWords_140 (by decide) (fun c226 => ?_) (fun c226 => ?_)
            · replace h := of_ift h c226
              refine g_iconst (v := 0) C dX6_isWords_171 rfl ?_
              refine g_istore_n C dX6_isWords_172 rfl (by decide) (rv_cat _ _) (L2 := [some (rv w r0), some (.int (0 : Int32)), some (.int (0 : Int32))]) rfl ?_
              refine g_goto 22 C dX6_isWords_173 (by decide) ?_
              refine g_mask (bs := [true, true, false]) (L2 := [some (rv w r0), some (.int (0 : Int32)), none]) rfl ?_
              exact ih r0 (0 : Int32) M224 h
            · replace h := of_iff h c226
              refine g_iload_n C dX6_isWords_143 rfl rfl ?_
              refine g_if_ne 167 C dX6_isWords_144 (by decide) (fun c => absurd c (by decide)) (fun _ => ?_)
              refine g_aload_n C dX6_isWords_147 rfl rfl ?_
              refine gf_6_9 C fl_RX6_145 g205 dX6_isWords_148 ?_
              refine g_bipush (v := 12) C dX6_isWords_151 rfl ?_
              refine g_icmp_ge 171 C dX6_isWords_153 (by decide) (fun c227 => ?_) (fun c227 => ?_)
              · replace h := of_ift h c227
                refine g_iconst (v := 0) C dX6_isWords_171 rfl ?_
                refine g_istore_n C dX6_isWords_172 rfl (by decide) (rv_cat _ _) (L2 := [some (rv w r0), some (.int (0 : Int32)), some (.int (0 : Int32))]) rfl ?_
                refine g_goto 22 C dX6_isWords_173 (by decide) ?_
                refine g_mask (bs := [true, true, false]) (L2 := [some (rv w r0), some (.int (0 : Int32)), none]) rfl ?_
                exact ih r0 (0 : Int32) M224 h
              · replace h := of_iff h c227
                refine g_aload_n C dX6_isWords_156 rfl rfl ?_
                refine gf_6_7 C fl_RX6_138 g205 dX6_isWords_157 ?_
                refine g_aload_n C dX6_isWords_160 rfl rfl ?_
                refine gf_6_6 C fl_RX6_135 g205 dX6_isWords_161 ?_
                refine g_icmp_ge 171 C dX6_isWords_164 (by decide) (fun c228 => ?_) (fun c228 => ?_)
                · replace h := of_ift h c228
                  refine g_iconst (v := 0) C dX6_isWords_171 rfl ?_
                  refine g_istore_n C dX6_isWords_172 rfl (by decide) (rv_cat _ _) (L2 := [some (rv w r0), some (.int (0 : Int32)), some (.int (0 : Int32))]) rfl ?_
                  refine g_goto 22 C dX6_isWords_173 (by decide) ?_
                  refine g_mask (bs := [true, true, false]) (L2 := [some (rv w r0), some (.int (0 : Int32)), none]) rfl ?_
                  exact ih r0 (0 : Int32) M224 h
                · replace h := of_iff h c228
                  refine g_iconst (v := 1) C dX6_isWords_167 rfl ?_
                  refine g_goto 172 C dX6_isWords_168 (by decide) ?_
                  refine g_istore_n C dX6_isWords_172 rfl (by decide) (rv_cat _ _) (L2 := [some (rv w r0), some (.int (1 : Int32)), some (.int (0 : Int32))]) rfl ?_
                  refine g_goto 22 C dX6_isWords_173 (by decide) ?_
                  refine g_mask (bs := [true, true, false]) (L2 := [some (rv w r0), some (.int (1 : Int32)), none]) rfl ?_
                  exact ih r0 (1 : Int32) M224 h
          · replace h := of_iff h c221
            refine g_aload_n C dX6_isWords_78 rfl rfl ?_
            obtain ⟨y229, e230, h⟩ := of_obb h
            refine g_callV (As := []) C (ct_X6_here C.wf e230) g205 lk_RX6_151 mi_X6_here (by decide) cs_0 (by decide) dX6_isWords_79 rfl ?_
            show Go w f 82 [some (rv w r0), some (.int x1), none] [.int y229] M211
            refine g_bipush (v := 44) C dX6_isWords_82 rfl ?_
            refine g_icmp_ne 91 C dX6_isWords_84 (by decide) (fun c231 => ?_) (fun c231 => ?_)
            · replace h := of_iff h c231
              refine g_iconst (v := 0) C dX6_isWords_91 rfl ?_
              refine g_istore_n C dX6_isWords_92 rfl (by decide) rfl (L2 := [some (rv w r0), some (.int x1), some (.int (0 : Int32))]) rfl ?_
              refine g_aload_n C dX6_isWords_93 rfl rfl ?_
              refine g_dup C (rv_cat _ _) dX6_isWords_94 ?_
              refine gf_6_10 C fl_RX6_148 g205 dX6_isWords_95 ?_
              refine g_iload_n C dX6_isWords_98 rfl rfl ?_
              refine g_if_eq 113 C dX6_isWords_99 (by decide) (fun _ => ?_) (fun c => absurd c (by decide))
              refine g_iconst (v := 0) C dX6_isWords_113 rfl ?_
              refine g_ior C dX6_isWords_114 ?_
              refine pf_6_10 C fl_RX6_148 g205 dX6_isWords_115 ?_
              obtain ⟨M232, e233, h⟩ := of_bvv h
              refine g_mem e233 ?_
              refine g_aload_n C dX6_isWords_118 rfl rfl ?_
              refine g_dup C (rv_cat _ _) dX6_isWords_119 ?_
              refine gf_6_7 C fl_RX6_138 g205 dX6_isWords_120 ?_
              refine g_iload_n C dX6_isWords_123 rfl rfl ?_
              refine g_if_eq 131 C dX6_isWords_124 (by decide) (fun _ => ?_) (fun c => absurd c (by decide))
              refine g_iconst (v := 0) C dX6_isWords_131 rfl ?_
              refine g_iadd C dX6_isWords_132 ?_
              refine pf_6_7 C fl_RX6_138 g205 dX6_isWords_133 ?_
              obtain ⟨M234, e235, h⟩ := of_bvv h
              refine g_mem e235 ?_
              refine g_aload_n C dX6_isWords_136 rfl rfl ?_
              refine gf_6_8 C fl_RX6_141 g205 dX6_isWords_137 ?_
              refine g_if_eq 171 C dX6_isWords_140 (by decide) (fun c236 => ?_) (fun c236 => ?_)
              · replace h := of_ift h c236
                refine g_iconst (v := 0) C dX6_isWords_171 rfl ?_
                refine g_istore_n C dX6_isWords_172 rfl (by decide) (rv_cat _ _) (L2 := [some (rv w r0), some (.int (0 : Int32)), some (.int (0 : Int32))]) rfl ?_
                refine g_goto 22 C dX6_isWords_173 (by decide) ?_
                refine g_mask (bs := [true, true, false]) (L2 := [some (rv w r0), some (.int (0 : Int32)), none]) rfl ?_
                exact ih r0 (0 : Int32) M234 h
              · replace h := of_iff h c236
                refine g_iload_n C dX6_isWords_143 rfl rfl ?_
                refine g_if_ne 167 C dX6_isWords_144 (by decide) (fun c => absurd c (by decide)) (fun _ => ?_)
                refine g_aload_n C dX6_isWords_147 rfl rfl ?_
                refine gf_6_9 C fl_RX6_145 g205 dX6_isWords_148 ?_
                refine g_bipush (v := 12) C dX6_isWords_151 rfl ?_
                refine g_icmp_ge 171 C dX6_isWords_153 (by decide) (fun c237 => ?_) (fun c237 => ?_)
                · replace h := of_ift h c237
                  refine g_iconst (v := 0) C dX6_isWords_171 rfl ?_
                  refine g_istore_n C dX6_isWords_172 rfl (by decide) (rv_cat _ _) (L2 := [some (rv w r0), some (.int (0 : Int32)), some (.int (0 : Int32))]) rfl ?_
                  refine g_goto 22 C dX6_isWords_173 (by decide) ?_
                  refine g_mask (bs := [true, true, false]) (L2 := [some (rv w r0), some (.int (0 : Int32)), none]) rfl ?_
                  exact ih r0 (0 : Int32) M234 h
                · replace h := of_iff h c237
                  refine g_aload_n C dX6_isWords_156 rfl rfl ?_
                  refine gf_6_7 C fl_RX6_138 g205 dX6_isWords_157 ?_
                  refine g_aload_n C dX6_isWords_160 rfl rfl ?_
                  refine gf_6_6 C fl_RX6_135 g205 dX6_isWords_161 ?_
                  refine g_icmp_ge 171 C dX6_isWords_164 (by decide) (fun c238 => ?_) (fun c238 => ?_)
                  · replace h := of_ift h c238
                    refine g_iconst (v := 0) C dX6_isWords_171 rfl ?_
                    refine g_istore_n C dX6_isWords_172 rfl (by decide) (rv_cat _ _) (L2 := [some (rv w r0), some (.int (0 : Int32)), some (.int (0 : Int32))]) rfl ?_
                    refine g_goto 22 C dX6_isWords_173 (by decide) ?_
                    refine g_mask (bs := [true, true, false]) (L2 := [some (rv w r0), some (.int (0 : Int32)), none]) rfl ?_
                    exact ih r0 (0 : Int32) M234 h
                  · replace h := of_iff h c238
                    refine g_iconst (v := 1) C dX6_isWords_167 rfl ?_
                    refine g_goto 172 C dX6_isWords_168 (by decide) ?_
                    refine g_istore_n C dX6_isWords_172 rfl (by decide) (rv_cat _ _) (L2 := [some (rv w r0), some (.int (1 : Int32)), some (.int (0 : Int32))]) rfl ?_
                    refine g_goto 22 C dX6_isWords_173 (by decide) ?_
                    refine g_mask (bs := [true, true, false]) (L2 := [some (rv w r0), some (.int (1 : Int32)), none]) rfl ?_
                    exact ih r0 (1 : Int32) M234 h
            · replace h := of_ift h c231
              refine g_iconst (v := 1) C dX6_isWords_87 rfl ?_
              refine g_goto 92 C dX6_isWords_88 (by decide) ?_
              refine g_istore_n C dX6_isWords_92 rfl (by decide) rfl (L2 := [some (rv w r0), some (.int x1), some (.int (1 : Int32))]) rfl ?_
              refine g_aload_n C dX6_isWords_93 rfl rfl ?_
              refine g_dup C (rv_cat _ _) dX6_isWords_94 ?_
              refine gf_6_10 C fl_RX6_148 g205 dX6_isWords_95 ?_
              refine g_iload_n C dX6_isWords_98 rfl rfl ?_
              refine g_if_eq 113 C dX6_isWords_99 (by decide) (fun c => absurd c (by decide)) (fun _ => ?_)
              refine g_iconst (v := 1) C dX6_isWords_102 rfl ?_
              refine g_aload_n C dX6_isWords_103 rfl rfl ?_
              refine gf_6_9 C fl_RX6_145 g205 dX6_isWords_104 ?_
              refine g_iconst (v := 1) C dX6_isWords_107 rfl ?_
              refine g_isub C dX6_isWords_108 ?_
              refine g_ishl C dX6_isWords_109 ?_
              refine g_goto 114 C dX6_isWords_110 (by decide) ?_
              refine g_ior C dX6_isWords_114 ?_
              refine pf_6_10 C fl_RX6_148 g205 dX6_isWords_115 ?_
              obtain ⟨M239, e240, h⟩ := of_bvv h
              refine g_mem e240 ?_
              refine g_aload_n C dX6_isWords_118 rfl rfl ?_
              refine g_dup C (rv_cat _ _) dX6_isWords_119 ?_
              refine gf_6_7 C fl_RX6_138 g205 dX6_isWords_120 ?_
              refine g_iload_n C dX6_isWords_123 rfl rfl ?_
              refine g_if_eq 131 C dX6_isWords_124 (by decide) (fun c => absurd c (by decide)) (fun _ => ?_)
              refine g_iconst (v := 1) C dX6_isWords_127 rfl ?_
              refine g_goto 132 C dX6_isWords_128 (by decide) ?_
              refine g_iadd C dX6_isWords_132 ?_
              refine pf_6_7 C fl_RX6_138 g205 dX6_isWords_133 ?_
              obtain ⟨M241, e242, h⟩ := of_bvv h
              refine g_mem e242 ?_
              refine g_aload_n C dX6_isWords_136 rfl rfl ?_
              refine gf_6_8 C fl_RX6_141 g205 dX6_isWords_137 ?_
              refine g_if_eq 171 C dX6_isWords_140 (by decide) (fun c243 => ?_) (fun c243 => ?_)
              · replace h := of_ift h c243
                refine g_iconst (v := 0) C dX6_isWords_171 rfl ?_
                refine g_istore_n C dX6_isWords_172 rfl (by decide) (rv_cat _ _) (L2 := [some (rv w r0), some (.int (0 : Int32)), some (.int (1 : Int32))]) rfl ?_
                refine g_goto 22 C dX6_isWords_173 (by decide) ?_
                refine g_mask (bs := [true, true, false]) (L2 := [some (rv w r0), some (.int (0 : Int32)), none]) rfl ?_
                exact ih r0 (0 : Int32) M241 h
              · replace h := of_iff h c243
                refine g_iload_n C dX6_isWords_143 rfl rfl ?_
                refine g_if_ne 167 C dX6_isWords_144 (by decide) (fun _ => ?_) (fun c => absurd c (by decide))
                refine g_iconst (v := 1) C dX6_isWords_167 rfl ?_
                refine g_goto 172 C dX6_isWords_168 (by decide) ?_
                refine g_istore_n C dX6_isWords_172 rfl (by decide) (rv_cat _ _) (L2 := [some (rv w r0), some (.int (1 : Int32)), some (.int (1 : Int32))]) rfl ?_
                refine g_goto 22 C dX6_isWords_173 (by decide) ?_
                refine g_mask (bs := [true, true, false]) (L2 := [some (rv w r0), some (.int (1 : Int32)), none]) rfl ?_
                exact ih r0 (1 : Int32) M241 h
      · replace h := of_iff h c210
        refine g_iconst (v := 1) C dX6_isWords_53 rfl ?_
        refine g_goto 58 C dX6_isWords_54 (by decide) ?_
        refine g_iadd C dX6_isWords_58 ?_
        refine pf_6_9 C fl_RX6_145 g205 dX6_isWords_59 ?_
        obtain ⟨M244, e245, h⟩ := of_bvv h
        refine g_mem e245 ?_
        refine g_aload_n C dX6_isWords_62 rfl rfl ?_
        refine gf_6_8 C fl_RX6_141 g205 dX6_isWords_63 ?_
        refine g_if_eq 91 C dX6_isWords_66 (by decide) (fun c246 => ?_) (fun c246 => ?_)
        · replace h := of_ift h c246
          refine g_iconst (v := 0) C dX6_isWords_91 rfl ?_
          refine g_istore_n C dX6_isWords_92 rfl (by decide) rfl (L2 := [some (rv w r0), some (.int x1), some (.int (0 : Int32))]) rfl ?_
          refine g_aload_n C dX6_isWords_93 rfl rfl ?_
          refine g_dup C (rv_cat _ _) dX6_isWords_94 ?_
          refine gf_6_10 C fl_RX6_148 g205 dX6_isWords_95 ?_
          refine g_iload_n C dX6_isWords_98 rfl rfl ?_
          refine g_if_eq 113 C dX6_isWords_99 (by decide) (fun _ => ?_) (fun c => absurd c (by decide))
          refine g_iconst (v := 0) C dX6_isWords_113 rfl ?_
          refine g_ior C dX6_isWords_114 ?_
          refine pf_6_10 C fl_RX6_148 g205 dX6_isWords_115 ?_
          obtain ⟨M247, e248, h⟩ := of_bvv h
          refine g_mem e248 ?_
          refine g_aload_n C dX6_isWords_118 rfl rfl ?_
          refine g_dup C (rv_cat _ _) dX6_isWords_119 ?_
          refine gf_6_7 C fl_RX6_138 g205 dX6_isWords_120 ?_
          refine g_iload_n C dX6_isWords_123 rfl rfl ?_
          refine g_if_eq 131 C dX6_isWords_124 (by decide) (fun _ => ?_) (fun c => absurd c (by decide))
          refine g_iconst (v := 0) C dX6_isWords_131 rfl ?_
          refine g_iadd C dX6_isWords_132 ?_
          refine pf_6_7 C fl_RX6_138 g205 dX6_isWords_133 ?_
          obtain ⟨M249, e250, h⟩ := of_bvv h
          refine g_mem e250 ?_
          refine g_aload_n C dX6_isWords_136 rfl rfl ?_
          refine gf_6_8 C fl_RX6_141 g205 dX6_isWords_137 ?_
          refine g_if_eq 171 C dX6_isWords_140 (by decide) (fun c251 => ?_) (fun c251 => ?_)
          · replace h := of_ift h c251
            refine g_iconst (v := 0) C dX6_isWords_171 rfl ?_
            refine g_istore_n C dX6_isWords_172 rfl (by decide) (rv_cat _ _) (L2 := [some (rv w r0), some (.int (0 : Int32)), some (.int (0 : Int32))]) rfl ?_
            refine g_goto 22 C dX6_isWords_173 (by decide) ?_
            refine g_mask (bs := [true, true, false]) (L2 := [some (rv w r0), some (.int (0 : Int32)), none]) rfl ?_
            exact ih r0 (0 : Int32) M249 h
          · replace h := of_iff h c251
            refine g_iload_n C dX6_isWords_143 rfl rfl ?_
            refine g_if_ne 167 C dX6_isWords_144 (by decide) (fun c => absurd c (by decide)) (fun _ => ?_)
            refine g_aload_n C dX6_isWords_147 rfl rfl ?_
            refine gf_6_9 C fl_RX6_145 g205 dX6_isWords_148 ?_
            refine g_bipush (v := 12) C dX6_isWords_151 rfl ?_
            refine g_icmp_ge 171 C dX6_isWords_153 (by decide) (fun c252 => ?_) (fun c252 => ?_)
            · replace h := of_ift h c252
              refine g_iconst (v := 0) C dX6_isWords_171 rfl ?_
              refine g_istore_n C dX6_isWords_172 rfl (by decide) (rv_cat _ _) (L2 := [some (rv w r0), some (.int (0 : Int32)), some (.int (0 : Int32))]) rfl ?_
              refine g_goto 22 C dX6_isWords_173 (by decide) ?_
              refine g_mask (bs := [true, true, false]) (L2 := [some (rv w r0), some (.int (0 : Int32)), none]) rfl ?_
              exact ih r0 (0 : Int32) M249 h
            · replace h := of_iff h c252
              refine g_aload_n C dX6_isWords_156 rfl rfl ?_
              refine gf_6_7 C fl_RX6_138 g205 dX6_isWords_157 ?_
              refine g_aload_n C dX6_isWords_160 rfl rfl ?_
              refine gf_6_6 C fl_RX6_135 g205 dX6_isWords_161 ?_
              refine g_icmp_ge 171 C dX6_isWords_164 (by decide) (fun c253 => ?_) (fun c253 => ?_)
              · replace h := of_ift h c253
                refine g_iconst (v := 0) C dX6_isWords_171 rfl ?_
                refine g_istore_n C dX6_isWords_172 rfl (by decide) (rv_cat _ _) (L2 := [some (rv w r0), some (.int (0 : Int32)), some (.int (0 : Int32))]) rfl ?_
                refine g_goto 22 C dX6_isWords_173 (by decide) ?_
                refine g_mask (bs := [true, true, false]) (L2 := [some (rv w r0), some (.int (0 : Int32)), none]) rfl ?_
                exact ih r0 (0 : Int32) M249 h
              · replace h := of_iff h c253
                refine g_iconst (v := 1) C dX6_isWords_167 rfl ?_
                refine g_goto 172 C dX6_isWords_168 (by decide) ?_
                refine g_istore_n C dX6_isWords_172 rfl (by decide) (rv_cat _ _) (L2 := [some (rv w r0), some (.int (1 : Int32)), some (.int (0 : Int32))]) rfl ?_
                refine g_goto 22 C dX6_isWords_173 (by decide) ?_
                refine g_mask (bs := [true, true, false]) (L2 := [some (rv w r0), some (.int (1 : Int32)), none]) rfl ?_
                exact ih r0 (1 : Int32) M249 h
        · replace h := of_iff h c246
          refine g_aload_n C dX6_isWords_69 rfl rfl ?_
          refine gf_6_9 C fl_RX6_145 g205 dX6_isWords_70 ?_
          refine g_bipush (v := 12) C dX6_isWords_73 rfl ?_
          refine g_icmp_ge 91 C dX6_isWords_75 (by decide) (fun c254 => ?_) (fun c254 => ?_)
          · replace h := of_ift h c254
            refine g_iconst (v := 0) C dX6_isWords_91 rfl ?_
            refine g_istore_n C dX6_isWords_92 rfl (by decide) rfl (L2 := [some (rv w r0), some (.int x1), some (.int (0 : Int32))]) rfl ?_
            refine g_aload_n C dX6_isWords_93 rfl rfl ?_
            refine g_dup C (rv_cat _ _) dX6_isWords_94 ?_
            refine gf_6_10 C fl_RX6_148 g205 dX6_isWords_95 ?_
            refine g_iload_n C dX6_isWords_98 rfl rfl ?_
            refine g_if_eq 113 C dX6_isWords_99 (by decide) (fun _ => ?_) (fun c => absurd c (by decide))
            refine g_iconst (v := 0) C dX6_isWords_113 rfl ?_
            refine g_ior C dX6_isWords_114 ?_
            refine pf_6_10 C fl_RX6_148 g205 dX6_isWords_115 ?_
            obtain ⟨M255, e256, h⟩ := of_bvv h
            refine g_mem e256 ?_
            refine g_aload_n C dX6_isWords_118 rfl rfl ?_
            refine g_dup C (rv_cat _ _) dX6_isWords_119 ?_
            refine gf_6_7 C fl_RX6_138 g205 dX6_isWords_120 ?_
            refine g_iload_n C dX6_isWords_123 rfl rfl ?_
            refine g_if_eq 131 C dX6_isWords_124 (by decide) (fun _ => ?_) (fun c => absurd c (by decide))
            refine g_iconst (v := 0) C dX6_isWords_131 rfl ?_
            refine g_iadd C dX6_isWords_132 ?_
            refine pf_6_7 C fl_RX6_138 g205 dX6_isWords_133 ?_
            obtain ⟨M257, e258, h⟩ := of_bvv h
            refine g_mem e258 ?_
            refine g_aload_n C dX6_isWords_136 rfl rfl ?_
            refine gf_6_8 C fl_RX6_141 g205 dX6_isWords_137 ?_
            refine g_if_eq 171 C dX6_isWords_140 (by decide) (fun c259 => ?_) (fun c259 => ?_)
            · replace h := of_ift h c259
              refine g_iconst (v := 0) C dX6_isWords_171 rfl ?_
              refine g_istore_n C dX6_isWords_172 rfl (by decide) (rv_cat _ _) (L2 := [some (rv w r0), some (.int (0 : Int32)), some (.int (0 : Int32))]) rfl ?_
              refine g_goto 22 C dX6_isWords_173 (by decide) ?_
              refine g_mask (bs := [true, true, false]) (L2 := [some (rv w r0), some (.int (0 : Int32)), none]) rfl ?_
              exact ih r0 (0 : Int32) M257 h
            · replace h := of_iff h c259
              refine g_iload_n C dX6_isWords_143 rfl rfl ?_
              refine g_if_ne 167 C dX6_isWords_144 (by decide) (fun c => absurd c (by decide)) (fun _ => ?_)
              refine g_aload_n C dX6_isWords_147 rfl rfl ?_
              refine gf_6_9 C fl_RX6_145 g205 dX6_isWords_148 ?_
              refine g_bipush (v := 12) C dX6_isWords_151 rfl ?_
              refine g_icmp_ge 171 C dX6_isWords_153 (by decide) (fun c260 => ?_) (fun c260 => ?_)
              · replace h := of_ift h c260
                refine g_iconst (v := 0) C dX6_isWords_171 rfl ?_
                refine g_istore_n C dX6_isWords_172 rfl (by decide) (rv_cat _ _) (L2 := [some (rv w r0), some (.int (0 : Int32)), some (.int (0 : Int32))]) rfl ?_
                refine g_goto 22 C dX6_isWords_173 (by decide) ?_
                refine g_mask (bs := [true, true, false]) (L2 := [some (rv w r0), some (.int (0 : Int32)), none]) rfl ?_
                exact ih r0 (0 : Int32) M257 h
              · replace h := of_iff h c260
                refine g_aload_n C dX6_isWords_156 rfl rfl ?_
                refine gf_6_7 C fl_RX6_138 g205 dX6_isWords_157 ?_
                refine g_aload_n C dX6_isWords_160 rfl rfl ?_
                refine gf_6_6 C fl_RX6_135 g205 dX6_isWords_161 ?_
                refine g_icmp_ge 171 C dX6_isWords_164 (by decide) (fun c261 => ?_) (fun c261 => ?_)
                · replace h := of_ift h c261
                  refine g_iconst (v := 0) C dX6_isWords_171 rfl ?_
                  refine g_istore_n C dX6_isWords_172 rfl (by decide) (rv_cat _ _) (L2 := [some (rv w r0), some (.int (0 : Int32)), some (.int (0 : Int32))]) rfl ?_
                  refine g_goto 22 C dX6_isWords_173 (by decide) ?_
                  refine g_mask (bs := [true, true, false]) (L2 := [some (rv w r0), some (.int (0 : Int32)), none]) rfl ?_
                  exact ih r0 (0 : Int32) M257 h
                · replace h := of_iff h c261
                  refine g_iconst (v := 1) C dX6_isWords_167 rfl ?_
                  refine g_goto 172 C dX6_isWords_168 (by decide) ?_
                  refine g_istore_n C dX6_isWords_172 rfl (by decide) (rv_cat _ _) (L2 := [some (rv w r0), some (.int (1 : Int32)), some (.int (0 : Int32))]) rfl ?_
                  refine g_goto 22 C dX6_isWords_173 (by decide) ?_
                  refine g_mask (bs := [true, true, false]) (L2 := [some (rv w r0), some (.int (1 : Int32)), none]) rfl ?_
                  exact ih r0 (1 : Int32) M257 h
          · replace h := of_iff h c254
            refine g_aload_n C dX6_isWords_78 rfl rfl ?_
            obtain ⟨y262, e263, h⟩ := of_obb h
            refine g_callV (As := []) C (ct_X6_here C.wf e263) g205 lk_RX6_151 mi_X6_here (by decide) cs_0 (by decide) dX6_isWords_79 rfl ?_
            show Go w f 82 [some (rv w r0), some (.int x1), none] [.int y262] M244
            refine g_bipush (v := 44) C dX6_isWords_82 rfl ?_
            refine g_icmp_ne 91 C dX6_isWords_84 (by decide) (fun c264 => ?_) (fun c264 => ?_)
            · replace h := of_iff h c264
              refine g_iconst (v := 0) C dX6_isWords_91 rfl ?_
              refine g_istore_n C dX6_isWords_92 rfl (by decide) rfl (L2 := [some (rv w r0), some (.int x1), some (.int (0 : Int32))]) rfl ?_
              refine g_aload_n C dX6_isWords_93 rfl rfl ?_
              refine g_dup C (rv_cat _ _) dX6_isWords_94 ?_
              refine gf_6_10 C fl_RX6_148 g205 dX6_isWords_95 ?_
              refine g_iload_n C dX6_isWords_98 rfl rfl ?_
              refine g_if_eq 113 C dX6_isWords_99 (by decide) (fun _ => ?_) (fun c => absurd c (by decide))
              refine g_iconst (v := 0) C dX6_isWords_113 rfl ?_
              refine g_ior C dX6_isWords_114 ?_
              refine pf_6_10 C fl_RX6_148 g205 dX6_isWords_115 ?_
              obtain ⟨M265, e266, h⟩ := of_bvv h
              refine g_mem e266 ?_
              refine g_aload_n C dX6_isWords_118 rfl rfl ?_
              refine g_dup C (rv_cat _ _) dX6_isWords_119 ?_
              refine gf_6_7 C fl_RX6_138 g205 dX6_isWords_120 ?_
              refine g_iload_n C dX6_isWords_123 rfl rfl ?_
              refine g_if_eq 131 C dX6_isWords_124 (by decide) (fun _ => ?_) (fun c => absurd c (by decide))
              refine g_iconst (v := 0) C dX6_isWords_131 rfl ?_
              refine g_iadd C dX6_isWords_132 ?_
              refine pf_6_7 C fl_RX6_138 g205 dX6_isWords_133 ?_
              obtain ⟨M267, e268, h⟩ := of_bvv h
              refine g_mem e268 ?_
              refine g_aload_n C dX6_isWords_136 rfl rfl ?_
              refine gf_6_8 C fl_RX6_141 g205 dX6_isWords_137 ?_
              refine g_if_eq 171 C dX6_isWords_140 (by decide) (fun c269 => ?_) (fun c269 => ?_)
              · replace h := of_ift h c269
                refine g_iconst (v := 0) C dX6_isWords_171 rfl ?_
                refine g_istore_n C dX6_isWords_172 rfl (by decide) (rv_cat _ _) (L2 := [some (rv w r0), some (.int (0 : Int32)), some (.int (0 : Int32))]) rfl ?_
                refine g_goto 22 C dX6_isWords_173 (by decide) ?_
                refine g_mask (bs := [true, true, false]) (L2 := [some (rv w r0), some (.int (0 : Int32)), none]) rfl ?_
                exact ih r0 (0 : Int32) M267 h
              · replace h := of_iff h c269
                refine g_iload_n C dX6_isWords_143 rfl rfl ?_
                refine g_if_ne 167 C dX6_isWords_144 (by decide) (fun c => absurd c (by decide)) (fun _ => ?_)
                refine g_aload_n C dX6_isWords_147 rfl rfl ?_
                refine gf_6_9 C fl_RX6_145 g205 dX6_isWords_148 ?_
                refine g_bipush (v := 12) C dX6_isWords_151 rfl ?_
                refine g_icmp_ge 171 C dX6_isWords_153 (by decide) (fun c270 => ?_) (fun c270 => ?_)
                · replace h := of_ift h c270
                  refine g_iconst (v := 0) C dX6_isWords_171 rfl ?_
                  refine g_istore_n C dX6_isWords_172 rfl (by decide) (rv_cat _ _) (L2 := [some (rv w r0), some (.int (0 : Int32)), some (.int (0 : Int32))]) rfl ?_
                  refine g_goto 22 C dX6_isWords_173 (by decide) ?_
                  refine g_mask (bs := [true, true, false]) (L2 := [some (rv w r0), some (.int (0 : Int32)), none]) rfl ?_
                  exact ih r0 (0 : Int32) M267 h
                · replace h := of_iff h c270
                  refine g_aload_n C dX6_isWords_156 rfl rfl ?_
                  refine gf_6_7 C fl_RX6_138 g205 dX6_isWords_157 ?_
                  refine g_aload_n C dX6_isWords_160 rfl rfl ?_
                  refine gf_6_6 C fl_RX6_135 g205 dX6_isWords_161 ?_
                  refine g_icmp_ge 171 C dX6_isWords_164 (by decide) (fun c271 => ?_) (fun c271 => ?_)
                  · replace h := of_ift h c271
                    refine g_iconst (v := 0) C dX6_isWords_171 rfl ?_
                    refine g_istore_n C dX6_isWords_172 rfl (by decide) (rv_cat _ _) (L2 := [some (rv w r0), some (.int (0 : Int32)), some (.int (0 : Int32))]) rfl ?_
                    refine g_goto 22 C dX6_isWords_173 (by decide) ?_
                    refine g_mask (bs := [true, true, false]) (L2 := [some (rv w r0), some (.int (0 : Int32)), none]) rfl ?_
                    exact ih r0 (0 : Int32) M267 h
                  · replace h := of_iff h c271
                    refine g_iconst (v := 1) C dX6_isWords_167 rfl ?_
                    refine g_goto 172 C dX6_isWords_168 (by decide) ?_
                    refine g_istore_n C dX6_isWords_172 rfl (by decide) (rv_cat _ _) (L2 := [some (rv w r0), some (.int (1 : Int32)), some (.int (0 : Int32))]) rfl ?_
                    refine g_goto 22 C dX6_isWords_173 (by decide) ?_
                    refine g_mask (bs := [true, true, false]) (L2 := [some (rv w r0), some (.int (1 : Int32)), none]) rfl ?_
                    exact ih r0 (1 : Int32) M267 h
            · replace h := of_ift h c264
              refine g_iconst (v := 1) C dX6_isWords_87 rfl ?_
              refine g_goto 92 C dX6_isWords_88 (by decide) ?_
              refine g_istore_n C dX6_isWords_92 rfl (by decide) rfl (L2 := [some (rv w r0), some (.int x1), some (.int (1 : Int32))]) rfl ?_
              refine g_aload_n C dX6_isWords_93 rfl rfl ?_
              refine g_dup C (rv_cat _ _) dX6_isWords_94 ?_
              refine gf_6_10 C fl_RX6_148 g205 dX6_isWords_95 ?_
              refine g_iload_n C dX6_isWords_98 rfl rfl ?_
              refine g_if_eq 113 C dX6_isWords_99 (by decide) (fun c => absurd c (by decide)) (fun _ => ?_)
              refine g_iconst (v := 1) C dX6_isWords_102 rfl ?_
              refine g_aload_n C dX6_isWords_103 rfl rfl ?_
              refine gf_6_9 C fl_RX6_145 g205 dX6_isWords_104 ?_
              refine g_iconst (v := 1) C dX6_isWords_107 rfl ?_
              refine g_isub C dX6_isWords_108 ?_
              refine g_ishl C dX6_isWords_109 ?_
              refine g_goto 114 C dX6_isWords_110 (by decide) ?_
              refine g_ior C dX6_isWords_114 ?_
              refine pf_6_10 C fl_RX6_148 g205 dX6_isWords_115 ?_
              obtain ⟨M272, e273, h⟩ := of_bvv h
              refine g_mem e273 ?_
              refine g_aload_n C dX6_isWords_118 rfl rfl ?_
              refine g_dup C (rv_cat _ _) dX6_isWords_119 ?_
              refine gf_6_7 C fl_RX6_138 g205 dX6_isWords_120 ?_
              refine g_iload_n C dX6_isWords_123 rfl rfl ?_
              refine g_if_eq 131 C dX6_isWords_124 (by decide) (fun c => absurd c (by decide)) (fun _ => ?_)
              refine g_iconst (v := 1) C dX6_isWords_127 rfl ?_
              refine g_goto 132 C dX6_isWords_128 (by decide) ?_
              refine g_iadd C dX6_isWords_132 ?_
              refine pf_6_7 C fl_RX6_138 g205 dX6_isWords_133 ?_
              obtain ⟨M274, e275, h⟩ := of_bvv h
              refine g_mem e275 ?_
              refine g_aload_n C dX6_isWords_136 rfl rfl ?_
              refine gf_6_8 C fl_RX6_141 g205 dX6_isWords_137 ?_
              refine g_if_eq 171 C dX6_isWords_140 (by decide) (fun c276 => ?_) (fun c276 => ?_)
              · replace h := of_ift h c276
                refine g_iconst (v := 0) C dX6_isWords_171 rfl ?_
                refine g_istore_n C dX6_isWords_172 rfl (by decide) (rv_cat _ _) (L2 := [some (rv w r0), some (.int (0 : Int32)), some (.int (1 : Int32))]) rfl ?_
                refine g_goto 22 C dX6_isWords_173 (by decide) ?_
                refine g_mask (bs := [true, true, false]) (L2 := [some (rv w r0), some (.int (0 : Int32)), none]) rfl ?_
                exact ih r0 (0 : Int32) M274 h
              · replace h := of_iff h c276
                refine g_iload_n C dX6_isWords_143 rfl rfl ?_
                refine g_if_ne 167 C dX6_isWords_144 (by decide) (fun _ => ?_) (fun c => absurd c (by decide))
                refine g_iconst (v := 1) C dX6_isWords_167 rfl ?_
                refine g_goto 172 C dX6_isWords_168 (by decide) ?_
                refine g_istore_n C dX6_isWords_172 rfl (by decide) (rv_cat _ _) (L2 := [some (rv w r0), some (.int (1 : Int32)), some (.int (1 : Int32))]) rfl ?_
                refine g_goto 22 C dX6_isWords_173 (by decide) ?_
                refine g_mask (bs := [true, true, false]) (L2 := [some (rv w r0), some (.int (1 : Int32)), none]) rfl ?_
                exact ih r0 (1 : Int32) M274 h
def f_X6_isWords (r0 : Nat) (M : Mem) : Option (Int32 × Mem) := gdd (kd r0 = 7) <| bvv (sI M r0 7 (0 : Int32)) fun M2 => bvv (sI M2 r0 8 (1 : Int32)) fun M4 => bvv (sI M4 r0 9 (0 : Int32)) fun M6 => bvv (sI M6 r0 10 (0 : Int32)) fun M8 => f_X6_isWords_22 FU r0 (1 : Int32) M8
set_option maxRecDepth 100000 in
set_option maxHeartbeats 4000000 in
theorem ct_X6_isWords {l : Launch} {w : Om} (hw : Wf w) {r0 : Nat} {M : Mem} {r : Int32} {M2 : Mem} (h : f_X6_isWords r0 M = some (r, M2)) : Ct l w yX6_isWords cX6_isWords 3 (some .boolean) 1 [rv w r0] M (some (.int r)) M2 := by
  refine ct_of hw (by decide) (cat_s (rv_cat _ _) cat_0) (Nat.le_of_ble_eq_true rfl) (fun f _ C hR => ?_)
  show Go w f 0 [some (rv w r0), none, none] [] M
  unfold f_X6_isWords at h
  refine g_aload_n C dX6_isWords_0 rfl rfl ?_
  refine g_iconst (v := 0) C dX6_isWords_1 rfl ?_
  obtain ⟨g1, h⟩ := of_gdd h
  refine pf_6_7 C fl_RX6_138 g1 dX6_isWords_2 ?_
  obtain ⟨M2, e3, h⟩ := of_bvv h
  refine g_mem e3 ?_
  refine g_aload_n C dX6_isWords_5 rfl rfl ?_
  refine g_iconst (v := 1) C dX6_isWords_6 rfl ?_
  refine pf_6_8 C fl_RX6_141 g1 (isb_1) dX6_isWords_7 ?_
  obtain ⟨M4, e5, h⟩ := of_bvv h
  refine g_mem e5 ?_
  refine g_aload_n C dX6_isWords_10 rfl rfl ?_
  refine g_iconst (v := 0) C dX6_isWords_11 rfl ?_
  refine pf_6_9 C fl_RX6_145 g1 dX6_isWords_12 ?_
  obtain ⟨M6, e7, h⟩ := of_bvv h
  refine g_mem e7 ?_
  refine g_aload_n C dX6_isWords_15 rfl rfl ?_
  refine g_iconst (v := 0) C dX6_isWords_16 rfl ?_
  refine pf_6_10 C fl_RX6_148 g1 dX6_isWords_17 ?_
  obtain ⟨M8, e9, h⟩ := of_bvv h
  refine g_mem e9 ?_
  refine g_iconst (v := 1) C dX6_isWords_20 rfl ?_
  refine g_istore_n C dX6_isWords_21 rfl (by decide) (rv_cat _ _) (L2 := [some (rv w r0), some (.int (1 : Int32)), none]) rfl ?_
  exact t_X6_isWords_22 C hR _ r0 (1 : Int32) M8 h
