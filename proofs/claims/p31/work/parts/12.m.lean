def f_X5_whyNot (r0 : Nat) (x1 : Int32) (x2 : Int32) (M : Mem) : Option (Int32 × Mem) := gdd (kd r0 = 6) <| gdd (kd (fld r0 0) = 5) <| obb (f_X4_editionAt (fld r0 0) x1 M) fun y3 => if y3 = 0 then (some ((-1 : Int32), M)) else (gdd (kd y3 = 1) <| obb (f_X0_hasGap y3 x2 M) fun y7 => if y7 = 0 then (some ((-1 : Int32), M)) else (gdd (kd (fld r0 5) = 4) <| obb (f_X3_read (fld r0 5) (fld r0 0) y3 M) fun M11 => obb (f_X5_reasonAgainst r0 y3 x2 M11) fun y13 => some (y13, M11)))
set_option maxRecDepth 100000 in
set_option maxHeartbeats 4000000 in
theorem ct_X5_whyNot {l : Launch} {w : Om} (hw : Wf w) {r0 : Nat} {x1 : Int32} {x2 : Int32} {M : Mem} {r : Int32} {M2 : Mem} (h : f_X5_whyNot r0 x1 x2 M = some (r, M2)) : Ct l w yX5_whyNot cX5_whyNot 4 (some .int) 5 [rv w r0, .int x1, .int x2] M (some (.int r)) M2 := by
  refine ct_of hw (by decide) (cat_s (rv_cat _ _) (cat_s rfl (cat_s rfl cat_0))) (Nat.le_of_ble_eq_true rfl) (fun f _ C hR => ?_)
  show Go w f 0 [some (rv w r0), some (.int x1), some (.int x2), none] [] M
  unfold f_X5_whyNot at h
  refine g_aload_n C dX5_whyNot_0 rfl rfl ?_
  obtain ⟨g1, h⟩ := of_gdd h
  refine gf_5_0 C fl_RX5_10 g1 dX5_whyNot_1 ?_
  refine g_iload_n C dX5_whyNot_4 rfl rfl ?_
  obtain ⟨g2, h⟩ := of_gdd h
  obtain ⟨y3, e4, h⟩ := of_obb h
  refine g_callV (As := [.int x1]) C (ct_X4_editionAt C.wf e4) g2 lk_RX5_121 mi_X4_editionAt (by decide) cs_0 (by decide) dX5_whyNot_5 rfl ?_
  show Go w f 8 [some (rv w r0), some (.int x1), some (.int x2), none] [rv w y3] M
  refine g_astore_n C dX5_whyNot_8 rfl (by decide) rfl (L2 := [some (rv w r0), some (.int x1), some (.int x2), some (rv w y3)]) rfl ?_
  refine g_aload_n C dX5_whyNot_9 rfl rfl ?_
  refine g_ifnull 21 C dX5_whyNot_10 (by decide) (fun c5 => ?_) (fun c5 => ?_)
  · replace h := of_ift h c5
    refine g_iconst (v := -1) C dX5_whyNot_21 rfl ?_
    cases h
    exact hR 22 _ ⟨.int, rfl, rfl⟩ dX5_whyNot_22
  · replace h := of_iff h c5
    refine g_aload_n C dX5_whyNot_13 rfl rfl ?_
    refine g_iload_n C dX5_whyNot_14 rfl rfl ?_
    obtain ⟨g6, h⟩ := of_gdd h
    obtain ⟨y7, e8, h⟩ := of_obb h
    refine g_callV (As := [.int x2]) C (ct_X0_hasGap C.wf e8) g6 lk_RX5_129 mi_X0_hasGap (by decide) cs_0 (by decide) dX5_whyNot_15 rfl ?_
    show Go w f 18 [some (rv w r0), some (.int x1), some (.int x2), some (rv w y3)] [.int y7] M
    refine g_if_ne 23 C dX5_whyNot_18 (by decide) (fun c9 => ?_) (fun c9 => ?_)
    · replace h := of_iff h c9
      refine g_aload_n C dX5_whyNot_23 rfl rfl ?_
      refine gf_5_5 C fl_RX5_40 g1 dX5_whyNot_24 ?_
      refine g_aload_n C dX5_whyNot_27 rfl rfl ?_
      refine gf_5_0 C fl_RX5_10 g1 dX5_whyNot_28 ?_
      refine g_aload_n C dX5_whyNot_31 rfl rfl ?_
      obtain ⟨g10, h⟩ := of_gdd h
      obtain ⟨M11, e12, h⟩ := of_obb h
      refine g_callV (As := [rv w (fld r0 0), rv w y3]) C (ct_X3_read C.wf e12) g10 lk_RX5_170 mi_X3_read (by decide) cs_0 (by decide) dX5_whyNot_32 rfl ?_
      show Go w f 35 [some (rv w r0), some (.int x1), some (.int x2), some (rv w y3)] [] M11
      refine g_aload_n C dX5_whyNot_35 rfl rfl ?_
      refine g_aload_n C dX5_whyNot_36 rfl rfl ?_
      refine g_iload_n C dX5_whyNot_37 rfl rfl ?_
      obtain ⟨y13, e14, h⟩ := of_obb h
      refine g_callV (As := [rv w y3, .int x2]) C (ct_X5_reasonAgainst C.wf e14) g1 lk_RX5_238 mi_X5_reasonAgainst (by decide) cs_0 (by decide) dX5_whyNot_38 rfl ?_
      show Go w f 41 [some (rv w r0), some (.int x1), some (.int x2), some (rv w y3)] [.int y13] M11
      cases h
      exact hR 41 _ ⟨.int, rfl, rfl⟩ dX5_whyNot_41
    · replace h := of_ift h c9
      refine g_iconst (v := -1) C dX5_whyNot_21 rfl ?_
      cases h
      exact hR 22 _ ⟨.int, rfl, rfl⟩ dX5_whyNot_22
def f_X5_bestSuit_36 : Nat → Nat → Nat → Int32 → Int32 → Int32 → Mem → Option (Int32 × Mem)
  | 0, _, _, _, _, _, _ => none
  | n + 1, r0, r2, x3, x4, x5, M => gdd (kd r2 = 1) <| if ((gI M r2 1) - (1 : Int32)) ≤ x5 then (some (x3, M)) else (gdd (kd r0 = 6) <| obb (f_X0_movedCommas r2 x5 M) fun y204 => gdd (kd (fld r0 5) = 4) <| obb (f_X3_cost (fld r0 5) y204 M) fun y207 => if x3 = (-4 : Int32) then (obb (f_X5_reasonAgainst r0 r2 x5 M) fun y210 => if y210 = 0 then (bvv (x5 + (1 : Int32)) fun y215 => (f_X5_bestSuit_36 n) r0 r2 x5 y207 y215 M) else (bvv (x5 + (1 : Int32)) fun y213 => (f_X5_bestSuit_36 n) r0 r2 x3 x4 y213 M)) else (if x4 ≤ y207 then (bvv (x5 + (1 : Int32)) fun y218 => (f_X5_bestSuit_36 n) r0 r2 x3 x4 y218 M) else (obb (f_X5_reasonAgainst r0 r2 x5 M) fun y220 => if y220 = 0 then (bvv (x5 + (1 : Int32)) fun y225 => (f_X5_bestSuit_36 n) r0 r2 x5 y207 y225 M) else (bvv (x5 + (1 : Int32)) fun y223 => (f_X5_bestSuit_36 n) r0 r2 x3 x4 y223 M))))
set_option maxRecDepth 100000 in
set_option maxHeartbeats 4000000 in
theorem t_X5_bestSuit_36 {w : Om} {f : Fr} {r : Int32} {M2 : Mem} (C : Cx w f RX5 cX5_bestSuit 7 5) (hR : Rt w f cX5_bestSuit (some .int) (some (.int r)) M2)   : ∀ (n : Nat) (r0 : Nat) (r2 : Nat) (x3 : Int32) (x4 : Int32) (x5 : Int32) (M : Mem), f_X5_bestSuit_36 n r0 r2 x3 x4 x5 M = some (r, M2) → Go w f 36 [some (rv w r0), none, some (rv w r2), some (.int x3), some (.int x4), some (.int x5), none] [] M := by
  intro n
  induction n with
  | zero =>
    intro r0 r2 x3 x4 x5 M h
    cases h
  | succ n ih =>
    intro r0 r2 x3 x4 x5 M h
    rw [f_X5_bestSuit_36] at h
    refine g_iload C dX5_bestSuit_36 rfl ?_
    refine g_aload_n C dX5_bestSuit_38 rfl rfl ?_
    obtain ⟨g201, h⟩ := of_gdd h
    refine gf_0_1 C fl_RX5_174 g201 dX5_bestSuit_39 ?_
    refine g_iconst (v := 1) C dX5_bestSuit_42 rfl ?_
    refine g_isub C dX5_bestSuit_43 ?_
    refine g_icmp_ge 98 C dX5_bestSuit_44 (by decide) (fun c202 => ?_) (fun c202 => ?_)
    · replace h := of_ift h c202
      refine g_iload_n C dX5_bestSuit_98 rfl rfl ?_
      cases h
      exact hR 99 _ ⟨.int, rfl, rfl⟩ dX5_bestSuit_99
    · replace h := of_iff h c202
      refine g_aload_n C dX5_bestSuit_47 rfl rfl ?_
      obtain ⟨g203, h⟩ := of_gdd h
      refine gf_5_5 C fl_RX5_40 g203 dX5_bestSuit_48 ?_
      refine g_aload_n C dX5_bestSuit_51 rfl rfl ?_
      refine g_iload C dX5_bestSuit_52 rfl ?_
      obtain ⟨y204, e205, h⟩ := of_obb h
      refine g_callV (As := [.int x5]) C (ct_X0_movedCommas C.wf e205) g201 lk_RX5_208 mi_X0_movedCommas (by decide) (cs_r cs_0) (by decide) dX5_bestSuit_54 rfl ?_
      show Go w f 57 [some (rv w r0), none, some (rv w r2), some (.int x3), some (.int x4), some (.int x5), none] [.int y204, rv w (fld r0 5)] M
      obtain ⟨g206, h⟩ := of_gdd h
      obtain ⟨y207, e208, h⟩ := of_obb h
      refine g_callV (As := [.int y204]) C (ct_X3_cost C.wf e208) g206 lk_RX5_189 mi_X3_cost (by decide) cs_0 (by decide) dX5_bestSuit_57 rfl ?_
      show Go w f 60 [some (rv w r0), none, some (rv w r2), some (.int x3), some (.int x4), some (.int x5), none] [.int y207] M
      refine g_istore C dX5_bestSuit_60 (by decide) rfl (L2 := [some (rv w r0), none, some (rv w r2), some (.int x3), some (.int x4), some (.int x5), some (.int y207)]) rfl ?_
      refine g_iload_n C dX5_bestSuit_62 rfl rfl ?_
      refine g_bipush (v := -4) C dX5_bestSuit_63 rfl ?_
      refine g_icmp_eq 75 C dX5_bestSuit_65 (by decide) (fun c209 => ?_) (fun c209 => ?_)
      · replace h := of_ift h c209
        refine g_aload_n C dX5_bestSuit_75 rfl rfl ?_
        refine g_aload_n C dX5_bestSuit_76 rfl rfl ?_
        refine g_iload C dX5_bestSuit_77 rfl ?_
        obtain ⟨y210, e211, h⟩ := of_obb h
        refine g_callV (As := [rv w r2, .int x5]) C (ct_X5_reasonAgainst C.wf e211) g203 lk_RX5_238 mi_X5_reasonAgainst (by decide) cs_0 (by decide) dX5_bestSuit_79 rfl ?_
        show Go w f 82 [some (rv w r0), none, some (rv w r2), some (.int x3), some (.int x4), some (.int x5), some (.int y207)] [.int y210] M
        refine g_if_ne 92 C dX5_bestSuit_82 (by decide) (fun c212 => ?_) (fun c212 => ?_)
        · replace h := of_iff h c212
          obtain ⟨y213, e214, h⟩ := of_bvv h
          refine g_iinc (v := y213) C dX5_bestSuit_92 rfl e214.symm (by decide) rfl (L2 := [some (rv w r0), none, some (rv w r2), some (.int x3), some (.int x4), some (.int y213), some (.int y207)]) rfl ?_
          refine g_goto 36 C dX5_bestSuit_95 (by decide) ?_
          refine g_mask (bs := [true, false, true, true, true, true, false]) (L2 := [some (rv w r0), none, some (rv w r2), some (.int x3), some (.int x4), some (.int y213), none]) rfl ?_
          exact ih r0 r2 x3 x4 y213 M h
        · replace h := of_ift h c212
          refine g_iload C dX5_bestSuit_85 rfl ?_
          refine g_istore_n C dX5_bestSuit_87 rfl (by decide) (rv_cat _ _) (L2 := [some (rv w r0), none, some (rv w r2), some (.int x5), some (.int x4), some (.int x5), some (.int y207)]) rfl ?_
          refine g_iload C dX5_bestSuit_88 rfl ?_
          refine g_istore C dX5_bestSuit_90 (by decide) rfl (L2 := [some (rv w r0), none, some (rv w r2), some (.int x5), some (.int y207), some (.int x5), some (.int y207)]) rfl ?_
          obtain ⟨y215, e216, h⟩ := of_bvv h
          refine g_iinc (v := y215) C dX5_bestSuit_92 rfl e216.symm (by decide) rfl (L2 := [some (rv w r0), none, some (rv w r2), some (.int x5), some (.int y207), some (.int y215), some (.int y207)]) rfl ?_
          refine g_goto 36 C dX5_bestSuit_95 (by decide) ?_
          refine g_mask (bs := [true, false, true, true, true, true, false]) (L2 := [some (rv w r0), none, some (rv w r2), some (.int x5), some (.int y207), some (.int y215), none]) rfl ?_
          exact ih r0 r2 x5 y207 y215 M h
      · replace h := of_iff h c209
        refine g_iload C dX5_bestSuit_68 rfl ?_
        refine g_iload C dX5_bestSuit_70 rfl ?_
        refine g_icmp_ge 92 C dX5_bestSuit_72 (by decide) (fun c217 => ?_) (fun c217 => ?_)
        · replace h := of_ift h c217
          obtain ⟨y218, e219, h⟩ := of_bvv h
          refine g_iinc (v := y218) C dX5_bestSuit_92 rfl e219.symm (by decide) rfl (L2 := [some (rv w r0), none, some (rv w r2), some (.int x3), some (.int x4), some (.int y218), some (.int y207)]) rfl ?_
          refine g_goto 36 C dX5_bestSuit_95 (by decide) ?_
          refine g_mask (bs := [true, false, true, true, true, true, false]) (L2 := [some (rv w r0), none, some (rv w r2), some (.int x3), some (.int x4), some (.int y218), none]) rfl ?_
          exact ih r0 r2 x3 x4 y218 M h
        · replace h := of_iff h c217
          refine g_aload_n C dX5_bestSuit_75 rfl rfl ?_
          refine g_aload_n C dX5_bestSuit_76 rfl rfl ?_
          refine g_iload C dX5_bestSuit_77 rfl ?_
          obtain ⟨y220, e221, h⟩ := of_obb h
          refine g_callV (As := [rv w r2, .int x5]) C (ct_X5_reasonAgainst C.wf e221) g203 lk_RX5_238 mi_X5_reasonAgainst (by decide) cs_0 (by decide) dX5_bestSuit_79 rfl ?_
          show Go w f 82 [some (rv w r0), none, some (rv w r2), some (.int x3), some (.int x4), some (.int x5), some (.int y207)] [.int y220] M
          refine g_if_ne 92 C dX5_bestSuit_82 (by decide) (fun c222 => ?_) (fun c222 => ?_)
          · replace h := of_iff h c222
            obtain ⟨y223, e224, h⟩ := of_bvv h
            refine g_iinc (v := y223) C dX5_bestSuit_92 rfl e224.symm (by decide) rfl (L2 := [some (rv w r0), none, some (rv w r2), some (.int x3), some (.int x4), some (.int y223), some (.int y207)]) rfl ?_
            refine g_goto 36 C dX5_bestSuit_95 (by decide) ?_
            refine g_mask (bs := [true, false, true, true, true, true, false]) (L2 := [some (rv w r0), none, some (rv w r2), some (.int x3), some (.int x4), some (.int y223), none]) rfl ?_
            exact ih r0 r2 x3 x4 y223 M h
          · replace h := of_ift h c222
            refine g_iload C dX5_bestSuit_85 rfl ?_
            refine g_istore_n C dX5_bestSuit_87 rfl (by decide) (rv_cat _ _) (L2 := [some (rv w r0), none, some (rv w r2), some (.int x5), some (.int x4), some (.int x5), some (.int y207)]) rfl ?_
            refine g_iload C dX5_bestSuit_88 rfl ?_
            refine g_istore C dX5_bestSuit_90 (by decide) rfl (L2 := [some (rv w r0), none, some (rv w r2), some (.int x5), some (.int y207), some (.int x5), some (.int y207)]) rfl ?_
            obtain ⟨y225, e226, h⟩ := of_bvv h
            refine g_iinc (v := y225) C dX5_bestSuit_92 rfl e226.symm (by decide) rfl (L2 := [some (rv w r0), none, some (rv w r2), some (.int x5), some (.int y207), some (.int y225), some (.int y207)]) rfl ?_
            refine g_goto 36 C dX5_bestSuit_95 (by decide) ?_
            refine g_mask (bs := [true, false, true, true, true, true, false]) (L2 := [some (rv w r0), none, some (rv w r2), some (.int x5), some (.int y207), some (.int y225), none]) rfl ?_
            exact ih r0 r2 x5 y207 y225 M h
def f_X5_bestSuit (r0 : Nat) (x1 : Int32) (M : Mem) : Option (Int32 × Mem) := gdd (kd r0 = 6) <| gdd (kd (fld r0 0) = 5) <| obb (f_X4_editionAt (fld r0 0) x1 M) fun y3 => if y3 = 0 then (some ((-1 : Int32), M)) else (gdd (kd (fld r0 5) = 4) <| obb (f_X3_read (fld r0 5) (fld r0 0) y3 M) fun M7 => f_X5_bestSuit_36 FU r0 y3 (-4 : Int32) (0 : Int32) (0 : Int32) M7)
set_option maxRecDepth 100000 in
set_option maxHeartbeats 4000000 in
theorem ct_X5_bestSuit {l : Launch} {w : Om} (hw : Wf w) {r0 : Nat} {x1 : Int32} {M : Mem} {r : Int32} {M2 : Mem} (h : f_X5_bestSuit r0 x1 M = some (r, M2)) : Ct l w yX5_bestSuit cX5_bestSuit 7 (some .int) 5 [rv w r0, .int x1] M (some (.int r)) M2 := by
  refine ct_of hw (by decide) (cat_s (rv_cat _ _) (cat_s rfl cat_0)) (Nat.le_of_ble_eq_true rfl) (fun f _ C hR => ?_)
  show Go w f 0 [some (rv w r0), some (.int x1), none, none, none, none, none] [] M
  unfold f_X5_bestSuit at h
  refine g_aload_n C dX5_bestSuit_0 rfl rfl ?_
  obtain ⟨g1, h⟩ := of_gdd h
  refine gf_5_0 C fl_RX5_10 g1 dX5_bestSuit_1 ?_
  refine g_iload_n C dX5_bestSuit_4 rfl rfl ?_
  obtain ⟨g2, h⟩ := of_gdd h
  obtain ⟨y3, e4, h⟩ := of_obb h
  refine g_callV (As := [.int x1]) C (ct_X4_editionAt C.wf e4) g2 lk_RX5_121 mi_X4_editionAt (by decide) cs_0 (by decide) dX5_bestSuit_5 rfl ?_
  show Go w f 8 [some (rv w r0), some (.int x1), none, none, none, none, none] [rv w y3] M
  refine g_astore_n C dX5_bestSuit_8 rfl (by decide) rfl (L2 := [some (rv w r0), some (.int x1), some (rv w y3), none, none, none, none]) rfl ?_
  refine g_aload_n C dX5_bestSuit_9 rfl rfl ?_
  refine g_ifnonnull 15 C dX5_bestSuit_10 (by decide) (fun c5 => ?_) (fun c5 => ?_)
  · replace h := of_iff h c5
    refine g_aload_n C dX5_bestSuit_15 rfl rfl ?_
    refine gf_5_5 C fl_RX5_40 g1 dX5_bestSuit_16 ?_
    refine g_aload_n C dX5_bestSuit_19 rfl rfl ?_
    refine gf_5_0 C fl_RX5_10 g1 dX5_bestSuit_20 ?_
    refine g_aload_n C dX5_bestSuit_23 rfl rfl ?_
    obtain ⟨g6, h⟩ := of_gdd h
    obtain ⟨M7, e8, h⟩ := of_obb h
    refine g_callV (As := [rv w (fld r0 0), rv w y3]) C (ct_X3_read C.wf e8) g6 lk_RX5_170 mi_X3_read (by decide) cs_0 (by decide) dX5_bestSuit_24 rfl ?_
    show Go w f 27 [some (rv w r0), some (.int x1), some (rv w y3), none, none, none, none] [] M7
    refine g_bipush (v := -4) C dX5_bestSuit_27 rfl ?_
    refine g_istore_n C dX5_bestSuit_29 rfl (by decide) (rv_cat _ _) (L2 := [some (rv w r0), some (.int x1), some (rv w y3), some (.int (-4 : Int32)), none, none, none]) rfl ?_
    refine g_iconst (v := 0) C dX5_bestSuit_30 rfl ?_
    refine g_istore C dX5_bestSuit_31 (by decide) rfl (L2 := [some (rv w r0), some (.int x1), some (rv w y3), some (.int (-4 : Int32)), some (.int (0 : Int32)), none, none]) rfl ?_
    refine g_iconst (v := 0) C dX5_bestSuit_33 rfl ?_
    refine g_istore C dX5_bestSuit_34 (by decide) rfl (L2 := [some (rv w r0), some (.int x1), some (rv w y3), some (.int (-4 : Int32)), some (.int (0 : Int32)), some (.int (0 : Int32)), none]) rfl ?_
    refine g_mask (bs := [true, false, true, true, true, true, false]) (L2 := [some (rv w r0), none, some (rv w y3), some (.int (-4 : Int32)), some (.int (0 : Int32)), some (.int (0 : Int32)), none]) rfl ?_
    exact t_X5_bestSuit_36 C hR _ r0 y3 (-4 : Int32) (0 : Int32) (0 : Int32) M7 h
  · replace h := of_ift h c5
    refine g_iconst (v := -1) C dX5_bestSuit_13 rfl ?_
    cases h
    exact hR 14 _ ⟨.int, rfl, rfl⟩ dX5_bestSuit_14
def f_X5_isKind (x0 : Int32) : Int32 := f_X5_isWithin x0 (0 : Int32) (5 : Int32)
set_option maxRecDepth 100000 in
set_option maxHeartbeats 4000000 in
theorem ct_X5_isKind {l : Launch} {w : Om} (hw : Wf w) {x0 : Int32}  {M : Mem} {r : Int32} (h : f_X5_isKind x0 = r) : Ct l w yX5_isKind cX5_isKind 1 (some .boolean) 1 [.int x0] M (some (.int r)) M := by
  refine ct_of hw (by decide) (cat_s rfl cat_0) (Nat.le_of_ble_eq_true rfl) (fun f _ C hR => ?_)
  show Go w f 0 [some (.int x0)] [] M
  unfold f_X5_isKind at h
  refine g_iload_n C dX5_isKind_0 rfl rfl ?_
  refine g_iconst (v := 0) C dX5_isKind_1 rfl ?_
  refine g_iconst (v := 5) C dX5_isKind_2 rfl ?_
  refine g_callS (As := [.int x0, .int (0 : Int32), .int (5 : Int32)]) C (ct_X5_isWithin C.wf rfl) lk_RX5_48 mi_X5_isWithin (by decide) cs_0 (by decide) dX5_isKind_3 rfl ?_
  show Go w f 6 [some (.int x0)] [.int (f_X5_isWithin x0 (0 : Int32) (5 : Int32))] M
  cases h
  exact hR 6 _ ⟨.boolean, rfl, nb_use (zb_X5_isWithin ..)⟩ dX5_isKind_6
theorem zb_X5_isKind (x0 : Int32) : isb (f_X5_isKind x0) = true := by
  unfold f_X5_isKind
  repeat' split
  all_goals first | decide | exact zb_X5_isWithin ..
def f_X5_isAboutKinds (x0 : Int32) (x1 : Int32) (x2 : Int32) : Int32 := if (f_X5_isKind x0) = 0 then ((0 : Int32)) else (if (f_X5_isKind x1) = 0 then ((0 : Int32)) else (if (f_X5_isWithin x2 (1 : Int32) (20 : Int32)) = 0 then ((0 : Int32)) else ((1 : Int32))))
set_option maxRecDepth 100000 in
set_option maxHeartbeats 4000000 in
theorem ct_X5_isAboutKinds {l : Launch} {w : Om} (hw : Wf w) {x0 : Int32} {x1 : Int32} {x2 : Int32}  {M : Mem} {r : Int32} (h : f_X5_isAboutKinds x0 x1 x2 = r) : Ct l w yX5_isAboutKinds cX5_isAboutKinds 3 (some .boolean) 2 [.int x0, .int x1, .int x2] M (some (.int r)) M := by
  refine ct_of hw (by decide) (cat_s rfl (cat_s rfl (cat_s rfl cat_0))) (Nat.le_of_ble_eq_true rfl) (fun f _ C hR => ?_)
  show Go w f 0 [some (.int x0), some (.int x1), some (.int x2)] [] M
  unfold f_X5_isAboutKinds at h
  refine g_iload_n C dX5_isAboutKinds_0 rfl rfl ?_
  refine g_callS (As := [.int x0]) C (ct_X5_isKind C.wf rfl) lk_RX5_44 mi_X5_isKind (by decide) cs_0 (by decide) dX5_isAboutKinds_1 rfl ?_
  show Go w f 4 [some (.int x0), some (.int x1), some (.int x2)] [.int (f_X5_isKind x0)] M
  refine g_if_eq 28 C dX5_isAboutKinds_4 (by decide) (fun c1 => ?_) (fun c1 => ?_)
  · replace h := of_ift h c1
    refine g_iconst (v := 0) C dX5_isAboutKinds_28 rfl ?_
    cases h
    exact hR 29 _ ⟨.boolean, rfl, rfl⟩ dX5_isAboutKinds_29
  · replace h := of_iff h c1
    refine g_iload_n C dX5_isAboutKinds_7 rfl rfl ?_
    refine g_callS (As := [.int x1]) C (ct_X5_isKind C.wf rfl) lk_RX5_44 mi_X5_isKind (by decide) cs_0 (by decide) dX5_isAboutKinds_8 rfl ?_
    show Go w f 11 [some (.int x0), some (.int x1), some (.int x2)] [.int (f_X5_isKind x1)] M
    refine g_if_eq 28 C dX5_isAboutKinds_11 (by decide) (fun c2 => ?_) (fun c2 => ?_)
    · replace h := of_ift h c2
      refine g_iconst (v := 0) C dX5_isAboutKinds_28 rfl ?_
      cases h
      exact hR 29 _ ⟨.boolean, rfl, rfl⟩ dX5_isAboutKinds_29
    · replace h := of_iff h c2
      refine g_iload_n C dX5_isAboutKinds_14 rfl rfl ?_
      refine g_iconst (v := 1) C dX5_isAboutKinds_15 rfl ?_
      refine g_bipush (v := 20) C dX5_isAboutKinds_16 rfl ?_
      refine g_callS (As := [.int x2, .int (1 : Int32), .int (20 : Int32)]) C (ct_X5_isWithin C.wf rfl) lk_RX5_48 mi_X5_isWithin (by decide) cs_0 (by decide) dX5_isAboutKinds_18 rfl ?_
      show Go w f 21 [some (.int x0), some (.int x1), some (.int x2)] [.int (f_X5_isWithin x2 (1 : Int32) (20 : Int32))] M
      refine g_if_eq 28 C dX5_isAboutKinds_21 (by decide) (fun c3 => ?_) (fun c3 => ?_)
      · replace h := of_ift h c3
        refine g_iconst (v := 0) C dX5_isAboutKinds_28 rfl ?_
        cases h
        exact hR 29 _ ⟨.boolean, rfl, rfl⟩ dX5_isAboutKinds_29
      · replace h := of_iff h c3
        refine g_iconst (v := 1) C dX5_isAboutKinds_24 rfl ?_
        refine g_goto 29 C dX5_isAboutKinds_25 (by decide) ?_
        cases h
        exact hR 29 _ ⟨.boolean, rfl, rfl⟩ dX5_isAboutKinds_29
theorem zb_X5_isAboutKinds (x0 x1 x2 : Int32) : isb (f_X5_isAboutKinds x0 x1 x2) = true := by
  unfold f_X5_isAboutKinds
  repeat' split
  all_goals first | decide | exact zb_X5_isKind .. | exact zb_X5_isKind .. | exact zb_X5_isWithin ..
def f_X5_ifRuled_49 (M : Mem) (k18 : Nat → Int32 → Int32 → Int32 → Int32 → Int32 → Int32 → Option Int32) : Nat → Nat → Int32 → Int32 → Int32 → Int32 → Int32 → Int32 → Nat → Int32 → Option Int32
  | 0, _, _, _, _, _, _, _, _, _ => none
  | n + 1, r0, x1, x2, x3, x4, x5, x6, r7, x8 => gdd (kd r7 = 1) <| if ((gI M r7 1) - (1 : Int32)) ≤ x8 then (bvv (x6 + (1 : Int32)) fun y303 => k18 r0 x1 x2 x3 x4 x5 y303) else (obb (f_X0_kindAt r7 x8 M) fun y305 => if y305 = x1 then (obb (f_X0_kindAt r7 (x8 + (1 : Int32)) M) fun y310 => if y310 = x2 then (obb (f_X0_hasComma r7 x8 M) fun y315 => if y315 = x3 then (gdd (kd r0 = 6) <| gdd (kd (fld r0 0) = 5) <| obb (f_X4_fineAt (fld r0 0) r7 x8 M) fun y328 => bvv (x5 + ((0 : Int32) - y328)) fun y330 => bvv (x8 + (1 : Int32)) fun y332 => (f_X5_ifRuled_49 M k18 n) r0 x1 x2 x3 x4 y330 x6 r7 y332) else (gdd (kd r0 = 6) <| gdd (kd (fld r0 0) = 5) <| obb (f_X4_fineAt (fld r0 0) r7 x8 M) fun y320 => bvv (x5 + (x4 - y320)) fun y322 => bvv (x8 + (1 : Int32)) fun y324 => (f_X5_ifRuled_49 M k18 n) r0 x1 x2 x3 x4 y322 x6 r7 y324)) else (bvv (x8 + (1 : Int32)) fun y313 => (f_X5_ifRuled_49 M k18 n) r0 x1 x2 x3 x4 x5 x6 r7 y313)) else (bvv (x8 + (1 : Int32)) fun y308 => (f_X5_ifRuled_49 M k18 n) r0 x1 x2 x3 x4 x5 x6 r7 y308))
set_option maxRecDepth 100000 in
set_option maxHeartbeats 4000000 in
theorem t_X5_ifRuled_49 {w : Om} {f : Fr} {M : Mem} {r : Int32} (C : Cx w f RX5 cX5_ifRuled 10 4) (hR : Rt w f cX5_ifRuled (some .int) (some (.int r)) M) {k18 : Nat → Int32 → Int32 → Int32 → Int32 → Int32 → Int32 → Option Int32} (hk18 : ∀ (r0' : Nat) (x1' : Int32) (x2' : Int32) (x3' : Int32) (x4' : Int32) (x5' : Int32) (x6' : Int32), k18 r0' x1' x2' x3' x4' x5' x6' = some r → Go w f 18 [some (rv w r0'), some (.int x1'), some (.int x2'), some (.int x3'), some (.int x4'), some (.int x5'), some (.int x6'), none, none, none] [] M) : ∀ (n : Nat) (r0 : Nat) (x1 : Int32) (x2 : Int32) (x3 : Int32) (x4 : Int32) (x5 : Int32) (x6 : Int32) (r7 : Nat) (x8 : Int32), f_X5_ifRuled_49 M k18 n r0 x1 x2 x3 x4 x5 x6 r7 x8 = some r → Go w f 49 [some (rv w r0), some (.int x1), some (.int x2), some (.int x3), some (.int x4), some (.int x5), some (.int x6), some (rv w r7), some (.int x8), none] [] M := by
  intro n
  induction n with
  | zero =>
    intro r0 x1 x2 x3 x4 x5 x6 r7 x8 h
    cases h
  | succ n ih =>
    intro r0 x1 x2 x3 x4 x5 x6 r7 x8 h
    rw [f_X5_ifRuled_49] at h
    refine g_iload C dX5_ifRuled_49 rfl ?_
    refine g_aload C dX5_ifRuled_51 rfl ?_
    obtain ⟨g301, h⟩ := of_gdd h
    refine gf_0_1 C fl_RX5_174 g301 dX5_ifRuled_53 ?_
    refine g_iconst (v := 1) C dX5_ifRuled_56 rfl ?_
    refine g_isub C dX5_ifRuled_57 ?_
    refine g_icmp_ge 129 C dX5_ifRuled_58 (by decide) (fun c302 => ?_) (fun c302 => ?_)
    · replace h := of_ift h c302
      obtain ⟨y303, e304, h⟩ := of_bvv h
      refine g_iinc (v := y303) C dX5_ifRuled_129 rfl e304.symm (by decide) rfl (L2 := [some (rv w r0), some (.int x1), some (.int x2), some (.int x3), some (.int x4), some (.int x5), some (.int y303), some (rv w r7), some (.int x8), none]) rfl ?_
      refine g_goto 18 C dX5_ifRuled_132 (by decide) ?_
      refine g_mask (bs := [true, true, true, true, true, true, true, false, false, false]) (L2 := [some (rv w r0), some (.int x1), some (.int x2), some (.int x3), some (.int x4), some (.int x5), some (.int y303), none, none, none]) rfl ?_
      exact hk18 r0 x1 x2 x3 x4 x5 y303 h
    · replace h := of_iff h c302
      refine g_aload C dX5_ifRuled_61 rfl ?_
      refine g_iload C dX5_ifRuled_63 rfl ?_
      obtain ⟨y305, e306, h⟩ := of_obb h
      refine g_callV (As := [.int x8]) C (ct_X0_kindAt C.wf e306) g301 lk_RX5_280 mi_X0_kindAt (by decide) cs_0 (by decide) dX5_ifRuled_65 rfl ?_
      show Go w f 68 [some (rv w r0), some (.int x1), some (.int x2), some (.int x3), some (.int x4), some (.int x5), some (.int x6), some (rv w r7), some (.int x8), none] [.int y305] M
      refine g_iload_n C dX5_ifRuled_68 rfl rfl ?_
      refine g_icmp_ne 123 C dX5_ifRuled_69 (by decide) (fun c307 => ?_) (fun c307 => ?_)
      · replace h := of_iff h c307
        obtain ⟨y308, e309, h⟩ := of_bvv h
        refine g_iinc (v := y308) C dX5_ifRuled_123 rfl e309.symm (by decide) (rv_cat _ _) (L2 := [some (rv w r0), some (.int x1), some (.int x2), some (.int x3), some (.int x4), some (.int x5), some (.int x6), some (rv w r7), some (.int y308), none]) rfl ?_
        refine g_goto 49 C dX5_ifRuled_126 (by decide) ?_
        exact ih r0 x1 x2 x3 x4 x5 x6 r7 y308 h
      · replace h := of_ift h c307
        refine g_aload C dX5_ifRuled_72 rfl ?_
        refine g_iload C dX5_ifRuled_74 rfl ?_
        refine g_iconst (v := 1) C dX5_ifRuled_76 rfl ?_
        refine g_iadd C dX5_ifRuled_77 ?_
        obtain ⟨y310, e311, h⟩ := of_obb h
        refine g_callV (As := [.int (x8 + (1 : Int32))]) C (ct_X0_kindAt C.wf e311) g301 lk_RX5_280 mi_X0_kindAt (by decide) cs_0 (by decide) dX5_ifRuled_78 rfl ?_
        show Go w f 81 [some (rv w r0), some (.int x1), some (.int x2), some (.int x3), some (.int x4), some (.int x5), some (.int x6), some (rv w r7), some (.int x8), none] [.int y310] M
        refine g_iload_n C dX5_ifRuled_81 rfl rfl ?_
        refine g_icmp_ne 123 C dX5_ifRuled_82 (by decide) (fun c312 => ?_) (fun c312 => ?_)
        · replace h := of_iff h c312
          obtain ⟨y313, e314, h⟩ := of_bvv h
          refine g_iinc (v := y313) C dX5_ifRuled_123 rfl e314.symm (by decide) (rv_cat _ _) (L2 := [some (rv w r0), some (.int x1), some (.int x2), some (.int x3), some (.int x4), some (.int x5), some (.int x6), some (rv w r7), some (.int y313), none]) rfl ?_
          refine g_goto 49 C dX5_ifRuled_126 (by decide) ?_
          exact ih r0 x1 x2 x3 x4 x5 x6 r7 y313 h
        · replace h := of_ift h c312
          refine g_aload C dX5_ifRuled_85 rfl ?_
          refine g_iload C dX5_ifRuled_87 rfl ?_
          obtain ⟨y315, e316, h⟩ := of_obb h
          refine g_callV (As := [.int x8]) C (ct_X0_hasComma C.wf e316) g301 lk_RX5_199 mi_X0_hasComma (by decide) cs_0 (by decide) dX5_ifRuled_89 rfl ?_
          show Go w f 92 [some (rv w r0), some (.int x1), some (.int x2), some (.int x3), some (.int x4), some (.int x5), some (.int x6), some (rv w r7), some (.int x8), none] [.int y315] M
          refine g_iload_n C dX5_ifRuled_92 rfl rfl ?_
          refine g_icmp_ne 100 C dX5_ifRuled_93 (by decide) (fun c317 => ?_) (fun c317 => ?_)
          · replace h := of_iff h c317
            refine g_iload C dX5_ifRuled_100 rfl ?_
            refine g_istore C dX5_ifRuled_102 (by decide) rfl (L2 := [some (rv w r0), some (.int x1), some (.int x2), some (.int x3), some (.int x4), some (.int x5), some (.int x6), some (rv w r7), some (.int x8), some (.int x4)]) rfl ?_
            refine g_iload C dX5_ifRuled_104 rfl ?_
            refine g_iload C dX5_ifRuled_106 rfl ?_
            refine g_aload_n C dX5_ifRuled_108 rfl rfl ?_
            obtain ⟨g318, h⟩ := of_gdd h
            refine gf_5_0 C fl_RX5_10 g318 dX5_ifRuled_109 ?_
            refine g_aload C dX5_ifRuled_112 rfl ?_
            refine g_iload C dX5_ifRuled_114 rfl ?_
            obtain ⟨g319, h⟩ := of_gdd h
            obtain ⟨y320, e321, h⟩ := of_obb h
            refine g_callV (As := [rv w r7, .int x8]) C (ct_X4_fineAt C.wf e321) g319 lk_RX5_205 mi_X4_fineAt (by decide) (cs_i (cs_i cs_0)) (by decide) dX5_ifRuled_116 rfl ?_
            show Go w f 119 [some (rv w r0), some (.int x1), some (.int x2), some (.int x3), some (.int x4), some (.int x5), some (.int x6), some (rv w r7), some (.int x8), some (.int x4)] [.int y320, .int x4, .int x5] M
            refine g_isub C dX5_ifRuled_119 ?_
            refine g_iadd C dX5_ifRuled_120 ?_
            obtain ⟨y322, e323, h⟩ := of_bvv h
            refine g_topi e323 ?_
            refine g_istore C dX5_ifRuled_121 (by decide) rfl (L2 := [some (rv w r0), some (.int x1), some (.int x2), some (.int x3), some (.int x4), some (.int y322), some (.int x6), some (rv w r7), some (.int x8), some (.int x4)]) rfl ?_
            obtain ⟨y324, e325, h⟩ := of_bvv h
            refine g_iinc (v := y324) C dX5_ifRuled_123 rfl e325.symm (by decide) (rv_cat _ _) (L2 := [some (rv w r0), some (.int x1), some (.int x2), some (.int x3), some (.int x4), some (.int y322), some (.int x6), some (rv w r7), some (.int y324), some (.int x4)]) rfl ?_
            refine g_goto 49 C dX5_ifRuled_126 (by decide) ?_
            refine g_mask (bs := [true, true, true, true, true, true, true, true, true, false]) (L2 := [some (rv w r0), some (.int x1), some (.int x2), some (.int x3), some (.int x4), some (.int y322), some (.int x6), some (rv w r7), some (.int y324), none]) rfl ?_
            exact ih r0 x1 x2 x3 x4 y322 x6 r7 y324 h
          · replace h := of_ift h c317
            refine g_iconst (v := 0) C dX5_ifRuled_96 rfl ?_
            refine g_goto 102 C dX5_ifRuled_97 (by decide) ?_
            refine g_istore C dX5_ifRuled_102 (by decide) rfl (L2 := [some (rv w r0), some (.int x1), some (.int x2), some (.int x3), some (.int x4), some (.int x5), some (.int x6), some (rv w r7), some (.int x8), some (.int (0 : Int32))]) rfl ?_
            refine g_iload C dX5_ifRuled_104 rfl ?_
            refine g_iload C dX5_ifRuled_106 rfl ?_
            refine g_aload_n C dX5_ifRuled_108 rfl rfl ?_
            obtain ⟨g326, h⟩ := of_gdd h
            refine gf_5_0 C fl_RX5_10 g326 dX5_ifRuled_109 ?_
            refine g_aload C dX5_ifRuled_112 rfl ?_
            refine g_iload C dX5_ifRuled_114 rfl ?_
            obtain ⟨g327, h⟩ := of_gdd h
            obtain ⟨y328, e329, h⟩ := of_obb h
            refine g_callV (As := [rv w r7, .int x8]) C (ct_X4_fineAt C.wf e329) g327 lk_RX5_205 mi_X4_fineAt (by decide) (cs_i (cs_i cs_0)) (by decide) dX5_ifRuled_116 rfl ?_
            show Go w f 119 [some (rv w r0), some (.int x1), some (.int x2), some (.int x3), some (.int x4), some (.int x5), some (.int x6), some (rv w r7), some (.int x8), some (.int (0 : Int32))] [.int y328, .int (0 : Int32), .int x5] M
            refine g_isub C dX5_ifRuled_119 ?_
            refine g_iadd C dX5_ifRuled_120 ?_
            obtain ⟨y330, e331, h⟩ := of_bvv h
            refine g_topi e331 ?_
            refine g_istore C dX5_ifRuled_121 (by decide) rfl (L2 := [some (rv w r0), some (.int x1), some (.int x2), some (.int x3), some (.int x4), some (.int y330), some (.int x6), some (rv w r7), some (.int x8), some (.int (0 : Int32))]) rfl ?_
            obtain ⟨y332, e333, h⟩ := of_bvv h
            refine g_iinc (v := y332) C dX5_ifRuled_123 rfl e333.symm (by decide) (rv_cat _ _) (L2 := [some (rv w r0), some (.int x1), some (.int x2), some (.int x3), some (.int x4), some (.int y330), some (.int x6), some (rv w r7), some (.int y332), some (.int (0 : Int32))]) rfl ?_
            refine g_goto 49 C dX5_ifRuled_126 (by decide) ?_
            refine g_mask (bs := [true, true, true, true, true, true, true, true, true, false]) (L2 := [some (rv w r0), some (.int x1), some (.int x2), some (.int x3), some (.int x4), some (.int y330), some (.int x6), some (rv w r7), some (.int y332), none]) rfl ?_
            exact ih r0 x1 x2 x3 x4 y330 x6 r7 y332 h
def f_X5_ifRuled_18 (M : Mem) : Nat → Nat → Int32 → Int32 → Int32 → Int32 → Int32 → Int32 → Option Int32
  | 0, _, _, _, _, _, _, _ => none
  | n + 1, r0, x1, x2, x3, x4, x5, x6 => gdd (kd r0 = 6) <| gdd (kd (fld r0 0) = 5) <| if (gI M (fld r0 0) 4) ≤ x6 then (some ((1000 : Int32) + x5)) else (obb (f_X4_editionAt (fld r0 0) x6 M) fun y204 => if y204 = 0 then (bvv (x6 + (1 : Int32)) fun y207 => (f_X5_ifRuled_18 M n) r0 x1 x2 x3 x4 x5 y207) else (f_X5_ifRuled_49 M (f_X5_ifRuled_18 M n) FU r0 x1 x2 x3 x4 x5 x6 y204 (0 : Int32)))
set_option maxRecDepth 100000 in
set_option maxHeartbeats 4000000 in
theorem t_X5_ifRuled_18 {w : Om} {f : Fr} {M : Mem} {r : Int32} (C : Cx w f RX5 cX5_ifRuled 10 4) (hR : Rt w f cX5_ifRuled (some .int) (some (.int r)) M)   : ∀ (n : Nat) (r0 : Nat) (x1 : Int32) (x2 : Int32) (x3 : Int32) (x4 : Int32) (x5 : Int32) (x6 : Int32), f_X5_ifRuled_18 M n r0 x1 x2 x3 x4 x5 x6 = some r → Go w f 18 [some (rv w r0), some (.int x1), some (.int x2), some (.int x3), some (.int x4), some (.int x5), some (.int x6), none, none, none] [] M := by
  intro n
  induction n with
  | zero =>
    intro r0 x1 x2 x3 x4 x5 x6 h
    cases h
  | succ n ih =>
    intro r0 x1 x2 x3 x4 x5 x6 h
    rw [f_X5_ifRuled_18] at h
    refine g_iload C dX5_ifRuled_18 rfl ?_
    refine g_aload_n C dX5_ifRuled_20 rfl rfl ?_
    obtain ⟨g201, h⟩ := of_gdd h
    refine gf_5_0 C fl_RX5_10 g201 dX5_ifRuled_21 ?_
    obtain ⟨g202, h⟩ := of_gdd h
    refine gf_4_4 C fl_RX5_112 g202 dX5_ifRuled_24 ?_
    refine g_icmp_ge 135 C dX5_ifRuled_27 (by decide) (fun c203 => ?_) (fun c203 => ?_)
    · replace h := of_ift h c203
      refine g_sipush (v := 1000) C dX5_ifRuled_135 rfl ?_
      refine g_iload C dX5_ifRuled_138 rfl ?_
      refine g_iadd C dX5_ifRuled_140 ?_
      cases h
      exact hR 141 _ ⟨.int, rfl, rfl⟩ dX5_ifRuled_141
    · replace h := of_iff h c203
      refine g_aload_n C dX5_ifRuled_30 rfl rfl ?_
      refine gf_5_0 C fl_RX5_10 g201 dX5_ifRuled_31 ?_
      refine g_iload C dX5_ifRuled_34 rfl ?_
      obtain ⟨y204, e205, h⟩ := of_obb h
      refine g_callV (As := [.int x6]) C (ct_X4_editionAt C.wf e205) g202 lk_RX5_121 mi_X4_editionAt (by decide) cs_0 (by decide) dX5_ifRuled_36 rfl ?_
      show Go w f 39 [some (rv w r0), some (.int x1), some (.int x2), some (.int x3), some (.int x4), some (.int x5), some (.int x6), none, none, none] [rv w y204] M
      refine g_astore C dX5_ifRuled_39 (by decide) rfl (L2 := [some (rv w r0), some (.int x1), some (.int x2), some (.int x3), some (.int x4), some (.int x5), some (.int x6), some (rv w y204), none, none]) rfl ?_
      refine g_aload C dX5_ifRuled_41 rfl ?_
      refine g_ifnull 129 C dX5_ifRuled_43 (by decide) (fun c206 => ?_) (fun c206 => ?_)
      · replace h := of_ift h c206
        obtain ⟨y207, e208, h⟩ := of_bvv h
        refine g_iinc (v := y207) C dX5_ifRuled_129 rfl e208.symm (by decide) rfl (L2 := [some (rv w r0), some (.int x1), some (.int x2), some (.int x3), some (.int x4), some (.int x5), some (.int y207), some (rv w y204), none, none]) rfl ?_
        refine g_goto 18 C dX5_ifRuled_132 (by decide) ?_
        refine g_mask (bs := [true, true, true, true, true, true, true, false, false, false]) (L2 := [some (rv w r0), some (.int x1), some (.int x2), some (.int x3), some (.int x4), some (.int x5), some (.int y207), none, none, none]) rfl ?_
        exact ih r0 x1 x2 x3 x4 x5 y207 h
      · replace h := of_iff h c206
        refine g_iconst (v := 0) C dX5_ifRuled_46 rfl ?_
        refine g_istore C dX5_ifRuled_47 (by decide) (rv_cat _ _) (L2 := [some (rv w r0), some (.int x1), some (.int x2), some (.int x3), some (.int x4), some (.int x5), some (.int x6), some (rv w y204), some (.int (0 : Int32)), none]) rfl ?_
        exact t_X5_ifRuled_49 C hR (fun r0' x1' x2' x3' x4' x5' x6' h => ih r0' x1' x2' x3' x4' x5' x6' h) _ r0 x1 x2 x3 x4 x5 x6 y204 (0 : Int32) h
def f_X5_ifRuled (r0 : Nat) (x1 : Int32) (x2 : Int32) (x3 : Int32) (x4 : Int32) (M : Mem) : Option Int32 := if (f_X5_isAboutKinds x1 x2 x4) = 0 then (some (-1 : Int32)) else (f_X5_ifRuled_18 M FU r0 x1 x2 x3 x4 (0 : Int32) (0 : Int32))
set_option maxRecDepth 100000 in
set_option maxHeartbeats 4000000 in
theorem ct_X5_ifRuled {l : Launch} {w : Om} (hw : Wf w) {r0 : Nat} {x1 : Int32} {x2 : Int32} {x3 : Int32} {x4 : Int32}  {M : Mem} {r : Int32} (h : f_X5_ifRuled r0 x1 x2 x3 x4 M = some r) : Ct l w yX5_ifRuled cX5_ifRuled 10 (some .int) 4 [rv w r0, .int x1, .int x2, .int x3, .int x4] M (some (.int r)) M := by
  refine ct_of hw (by decide) (cat_s (rv_cat _ _) (cat_s rfl (cat_s rfl (cat_s rfl (cat_s rfl cat_0))))) (Nat.le_of_ble_eq_true rfl) (fun f _ C hR => ?_)
  show Go w f 0 [some (rv w r0), some (.int x1), some (.int x2), some (.int x3), some (.int x4), none, none, none, none, none] [] M
  unfold f_X5_ifRuled at h
  refine g_iload_n C dX5_ifRuled_0 rfl rfl ?_
  refine g_iload_n C dX5_ifRuled_1 rfl rfl ?_
  refine g_iload C dX5_ifRuled_2 rfl ?_
  refine g_callS (As := [.int x1, .int x2, .int x4]) C (ct_X5_isAboutKinds C.wf rfl) lk_RX5_70 mi_X5_isAboutKinds (by decide) cs_0 (by decide) dX5_ifRuled_4 rfl ?_
  show Go w f 7 [some (rv w r0), some (.int x1), some (.int x2), some (.int x3), some (.int x4), none, none, none, none, none] [.int (f_X5_isAboutKinds x1 x2 x4)] M
  refine g_if_ne 12 C dX5_ifRuled_7 (by decide) (fun c1 => ?_) (fun c1 => ?_)
  · replace h := of_iff h c1
    refine g_iconst (v := 0) C dX5_ifRuled_12 rfl ?_
    refine g_istore C dX5_ifRuled_13 (by decide) rfl (L2 := [some (rv w r0), some (.int x1), some (.int x2), some (.int x3), some (.int x4), some (.int (0 : Int32)), none, none, none, none]) rfl ?_
    refine g_iconst (v := 0) C dX5_ifRuled_15 rfl ?_
    refine g_istore C dX5_ifRuled_16 (by decide) rfl (L2 := [some (rv w r0), some (.int x1), some (.int x2), some (.int x3), some (.int x4), some (.int (0 : Int32)), some (.int (0 : Int32)), none, none, none]) rfl ?_
    exact t_X5_ifRuled_18 C hR _ r0 x1 x2 x3 x4 (0 : Int32) (0 : Int32) h
  · replace h := of_ift h c1
    refine g_iconst (v := -1) C dX5_ifRuled_10 rfl ?_
    cases h
    exact hR 11 _ ⟨.int, rfl, rfl⟩ dX5_ifRuled_11
def f_X5_clear (r0 : Nat) (M : Mem) : Option (Int32 × Mem) := gdd (kd r0 = 6) <| gdd (kd (fld r0 3) = 2) <| bvv (gI M (fld r0 3) 1) fun y3 => bvv (sI M (fld r0 3) 1 (0 : Int32)) fun M5 => some (y3, M5)
set_option maxRecDepth 100000 in
set_option maxHeartbeats 4000000 in
theorem ct_X5_clear {l : Launch} {w : Om} (hw : Wf w) {r0 : Nat} {M : Mem} {r : Int32} {M2 : Mem} (h : f_X5_clear r0 M = some (r, M2)) : Ct l w yX5_clear cX5_clear 2 (some .int) 0 [rv w r0] M (some (.int r)) M2 := by
  refine ct_of hw (by decide) (cat_s (rv_cat _ _) cat_0) (Nat.le_of_ble_eq_true rfl) (fun f _ C hR => ?_)
  show Go w f 0 [some (rv w r0), none] [] M
  unfold f_X5_clear at h
  refine g_aload_n C dX5_clear_0 rfl rfl ?_
  obtain ⟨g1, h⟩ := of_gdd h
  refine gf_5_3 C fl_RX5_26 g1 dX5_clear_1 ?_
  obtain ⟨g2, h⟩ := of_gdd h
  refine gf_1_1 C fl_RX5_118 g2 dX5_clear_4 ?_
  obtain ⟨y3, e4, h⟩ := of_bvv h
  refine g_topi e4 ?_
  refine g_istore_n C dX5_clear_7 rfl (by decide) (rv_cat _ _) (L2 := [some (rv w r0), some (.int y3)]) rfl ?_
  refine g_aload_n C dX5_clear_8 rfl rfl ?_
  refine gf_5_3 C fl_RX5_26 g1 dX5_clear_9 ?_
  refine g_iconst (v := 0) C dX5_clear_12 rfl ?_
  refine pf_1_1 C fl_RX5_118 g2 dX5_clear_13 ?_
  obtain ⟨M5, e6, h⟩ := of_bvv h
  refine g_mem e6 ?_
  refine g_iload_n C dX5_clear_16 rfl rfl ?_
  cases h
  exact hR 17 _ ⟨.int, rfl, rfl⟩ dX5_clear_17
def f_X5_append (r0 : Nat) (x1 : Int32) (M : Mem) : Option (Int32 × Mem) := if (f_X5_isWithin x1 (33 : Int32) (126 : Int32)) = 0 then (some ((-1 : Int32), M)) else (gdd (kd r0 = 6) <| gdd (kd (fld r0 3) = 2) <| if (gI M (fld r0 3) 1) < (60 : Int32) then (obb (f_X5_put (fld (fld r0 3) 0) (gI M (fld r0 3) 1) x1 M) fun M5 => bvv (sI M5 (fld r0 3) 1 ((gI M5 (fld r0 3) 1) + (1 : Int32))) fun M7 => some (gI M7 (fld r0 3) 1, M7)) else (some ((-3 : Int32), M)))
set_option maxRecDepth 100000 in
set_option maxHeartbeats 4000000 in
theorem ct_X5_append {l : Launch} {w : Om} (hw : Wf w) {r0 : Nat} {x1 : Int32} {M : Mem} {r : Int32} {M2 : Mem} (h : f_X5_append r0 x1 M = some (r, M2)) : Ct l w yX5_append cX5_append 2 (some .int) 1 [rv w r0, .int x1] M (some (.int r)) M2 := by
  refine ct_of hw (by decide) (cat_s (rv_cat _ _) (cat_s rfl cat_0)) (Nat.le_of_ble_eq_true rfl) (fun f _ C hR => ?_)
  show Go w f 0 [some (rv w r0), some (.int x1)] [] M
  unfold f_X5_append at h
  refine g_iload_n C dX5_append_0 rfl rfl ?_
  refine g_bipush (v := 33) C dX5_append_1 rfl ?_
  refine g_bipush (v := 126) C dX5_append_3 rfl ?_
  refine g_callS (As := [.int x1, .int (33 : Int32), .int (126 : Int32)]) C (ct_X5_isWithin C.wf rfl) lk_RX5_48 mi_X5_isWithin (by decide) cs_0 (by decide) dX5_append_5 rfl ?_
  show Go w f 8 [some (rv w r0), some (.int x1)] [.int (f_X5_isWithin x1 (33 : Int32) (126 : Int32))] M
  refine g_if_ne 13 C dX5_append_8 (by decide) (fun c1 => ?_) (fun c1 => ?_)
  · replace h := of_iff h c1
    refine g_aload_n C dX5_append_13 rfl rfl ?_
    obtain ⟨g2, h⟩ := of_gdd h
    refine gf_5_3 C fl_RX5_26 g2 dX5_append_14 ?_
    obtain ⟨g3, h⟩ := of_gdd h
    refine gf_1_1 C fl_RX5_118 g3 dX5_append_17 ?_
    refine g_bipush (v := 60) C dX5_append_20 rfl ?_
    refine g_icmp_lt 28 C dX5_append_22 (by decide) (fun c4 => ?_) (fun c4 => ?_)
    · replace h := of_ift h c4
      refine g_aload_n C dX5_append_28 rfl rfl ?_
      refine gf_5_3 C fl_RX5_26 g2 dX5_append_29 ?_
      refine gf_1_0 C fl_RX5_142 g3 dX5_append_32 ?_
      refine g_aload_n C dX5_append_35 rfl rfl ?_
      refine gf_5_3 C fl_RX5_26 g2 dX5_append_36 ?_
      refine gf_1_1 C fl_RX5_118 g3 dX5_append_39 ?_
      refine g_iload_n C dX5_append_42 rfl rfl ?_
      obtain ⟨M5, e6, h⟩ := of_obb h
      refine g_callS (As := [rv w (fld (fld r0 3) 0), .int (gI M (fld r0 3) 1), .int x1]) C (ct_X5_put C.wf e6) lk_RX5_63 mi_X5_put (by decide) cs_0 (by decide) dX5_append_43 rfl ?_
      show Go w f 46 [some (rv w r0), some (.int x1)] [] M5
      refine g_aload_n C dX5_append_46 rfl rfl ?_
      refine gf_5_3 C fl_RX5_26 g2 dX5_append_47 ?_
      refine g_dup C (rv_cat _ _) dX5_append_50 ?_
      refine gf_1_1 C fl_RX5_118 g3 dX5_append_51 ?_
      refine g_iconst (v := 1) C dX5_append_54 rfl ?_
      refine g_iadd C dX5_append_55 ?_
      refine pf_1_1 C fl_RX5_118 g3 dX5_append_56 ?_
      obtain ⟨M7, e8, h⟩ := of_bvv h
      refine g_mem e8 ?_
      refine g_aload_n C dX5_append_59 rfl rfl ?_
      refine gf_5_3 C fl_RX5_26 g2 dX5_append_60 ?_
      refine gf_1_1 C fl_RX5_118 g3 dX5_append_63 ?_
      cases h
      exact hR 66 _ ⟨.int, rfl, rfl⟩ dX5_append_66
    · replace h := of_iff h c4
      refine g_bipush (v := -3) C dX5_append_25 rfl ?_
      cases h
      exact hR 27 _ ⟨.int, rfl, rfl⟩ dX5_append_27
  · replace h := of_ift h c1
    refine g_iconst (v := -1) C dX5_append_11 rfl ?_
    cases h
    exact hR 12 _ ⟨.int, rfl, rfl⟩ dX5_append_12
def f_X1_signAt (r0 : Nat) (x1 : Int32) (M : Mem) : Option Int32 := gdd (kd r0 = 2) <| if (gI M r0 1) ≤ x1 then (some (0 : Int32)) else (obb (f_X5_at (fld r0 0) x1 M) fun y3 => some y3)
set_option maxRecDepth 100000 in
set_option maxHeartbeats 4000000 in
theorem ct_X1_signAt {l : Launch} {w : Om} (hw : Wf w) {r0 : Nat} {x1 : Int32}  {M : Mem} {r : Int32} (h : f_X1_signAt r0 x1 M = some r) : Ct l w yX1_signAt cX1_signAt 2 (some .int) 1 [rv w r0, .int x1] M (some (.int r)) M := by
  refine ct_of hw (by decide) (cat_s (rv_cat _ _) (cat_s rfl cat_0)) (Nat.le_of_ble_eq_true rfl) (fun f _ C hR => ?_)
  show Go w f 0 [some (rv w r0), some (.int x1)] [] M
  unfold f_X1_signAt at h
  refine g_iload_n C dX1_signAt_0 rfl rfl ?_
  refine g_aload_n C dX1_signAt_1 rfl rfl ?_
  obtain ⟨g1, h⟩ := of_gdd h
  refine gf_1_1 C fl_RX1_15 g1 dX1_signAt_2 ?_
  refine g_icmp_ge 19 C dX1_signAt_5 (by decide) (fun c2 => ?_) (fun c2 => ?_)
  · replace h := of_ift h c2
    refine g_iconst (v := 0) C dX1_signAt_19 rfl ?_
    cases h
    exact hR 20 _ ⟨.int, rfl, rfl⟩ dX1_signAt_20
  · replace h := of_iff h c2
    refine g_aload_n C dX1_signAt_8 rfl rfl ?_
    refine gf_1_0 C fl_RX1_9 g1 dX1_signAt_9 ?_
    refine g_iload_n C dX1_signAt_12 rfl rfl ?_
    obtain ⟨y3, e4, h⟩ := of_obb h
    refine g_callSN (As := [rv w (fld r0 0), .int x1]) C (ct_X5_at C.wf e4) ln_RX1_19 mi_X5_at (by decide) cs_0 (by decide) dX1_signAt_13 rfl ?_
    show Go w f 16 [some (rv w r0), some (.int x1)] [.int y3] M
    refine g_goto 20 C dX1_signAt_16 (by decide) ?_
    cases h
    exact hR 20 _ ⟨.int, rfl, rfl⟩ dX1_signAt_20
def f_X1_editionFault_6 (M : Mem) : Nat → Nat → Int32 → Int32 → Int32 → Option Int32
  | 0, _, _, _, _ => none
  | n + 1, r0, x1, x2, x3 => gdd (kd r0 = 2) <| if (gI M r0 1) ≤ x3 then (if x2 = 0 then (some (-1 : Int32)) else (some (gI M r0 1))) else (obb (f_X1_signAt r0 x3 M) fun y204 => if (f_X5_isWithin y204 (97 : Int32) (102 : Int32)) = 0 then (if y204 = (44 : Int32) then (if x2 = 0 then (if x1 < (12 : Int32) then (if y204 = (44 : Int32) then (bvv (x1 + (0 : Int32)) fun y225 => bvv (x3 + (1 : Int32)) fun y227 => (f_X1_editionFault_6 M n) r0 y225 (1 : Int32) y227) else (bvv (x1 + (1 : Int32)) fun y221 => bvv (x3 + (1 : Int32)) fun y223 => (f_X1_editionFault_6 M n) r0 y221 (0 : Int32) y223)) else (some x3)) else (some x3)) else (some x3)) else (if x1 < (12 : Int32) then (if y204 = (44 : Int32) then (bvv (x1 + (0 : Int32)) fun y213 => bvv (x3 + (1 : Int32)) fun y215 => (f_X1_editionFault_6 M n) r0 y213 (1 : Int32) y215) else (bvv (x1 + (1 : Int32)) fun y209 => bvv (x3 + (1 : Int32)) fun y211 => (f_X1_editionFault_6 M n) r0 y209 (0 : Int32) y211)) else (some x3)))
set_option maxRecDepth 100000 in
set_option maxHeartbeats 4000000 in
theorem t_X1_editionFault_6 {w : Om} {f : Fr} {M : Mem} {r : Int32} (C : Cx w f RX1 cX1_editionFault 6 2) (hR : Rt w f cX1_editionFault (some .int) (some (.int r)) M)   : ∀ (n : Nat) (r0 : Nat) (x1 : Int32) (x2 : Int32) (x3 : Int32), f_X1_editionFault_6 M n r0 x1 x2 x3 = some r → Go w f 6 [some (rv w r0), some (.int x1), some (.int x2), some (.int x3), none, none] [] M := by
  intro n
  induction n with
  | zero =>
    intro r0 x1 x2 x3 h
    cases h
  | succ n ih =>
    intro r0 x1 x2 x3 h
    rw [f_X1_editionFault_6] at h
    refine g_iload_n C dX1_editionFault_6 rfl rfl ?_
    refine g_aload_n C dX1_editionFault_7 rfl rfl ?_
    obtain ⟨g201, h⟩ := of_gdd h
    refine gf_1_1 C fl_RX1_15 g201 dX1_editionFault_8 ?_
    refine g_icmp_ge 95 C dX1_editionFault_11 (by decide) (fun c202 => ?_) (fun c202 => ?_)
    · replace h := of_ift h c202
      refine g_iload_n C dX1_editionFault_95 rfl rfl ?_
      refine g_if_eq 106 C dX1_editionFault_96 (by decide) (fun c203 => ?_) (fun c203 => ?_)
      · replace h := of_ift h c203
        refine g_iconst (v := -1) C dX1_editionFault_106 rfl ?_
        cases h
        exact hR 107 _ ⟨.int, rfl, rfl⟩ dX1_editionFault_107
      · replace h := of_iff h c203
        refine g_aload_n C dX1_editionFault_99 rfl rfl ?_
        refine gf_1_1 C fl_RX1_15 g201 dX1_editionFault_100 ?_
        refine g_goto 107 C dX1_editionFault_103 (by decide) ?_
        cases h
        exact hR 107 _ ⟨.int, rfl, rfl⟩ dX1_editionFault_107
    · replace h := of_iff h c202
      refine g_aload_n C dX1_editionFault_14 rfl rfl ?_
      refine g_iload_n C dX1_editionFault_15 rfl rfl ?_
      obtain ⟨y204, e205, h⟩ := of_obb h
      refine g_callV (As := [.int x3]) C (ct_X1_signAt C.wf e205) g201 lk_RX1_23 mi_X1_signAt (by decide) cs_0 (by decide) dX1_editionFault_16 rfl ?_
      show Go w f 19 [some (rv w r0), some (.int x1), some (.int x2), some (.int x3), none, none] [.int y204] M
      refine g_istore C dX1_editionFault_19 (by decide) rfl (L2 := [some (rv w r0), some (.int x1), some (.int x2), some (.int x3), some (.int y204), none]) rfl ?_
      refine g_iload C dX1_editionFault_21 rfl ?_
      refine g_bipush (v := 97) C dX1_editionFault_23 rfl ?_
      refine g_bipush (v := 102) C dX1_editionFault_25 rfl ?_
      refine g_callSN (As := [.int y204, .int (97 : Int32), .int (102 : Int32)]) C (ct_X5_isWithin C.wf rfl) ln_RX1_27 mi_X5_isWithin (by decide) cs_0 (by decide) dX1_editionFault_27 rfl ?_
      show Go w f 30 [some (rv w r0), some (.int x1), some (.int x2), some (.int x3), some (.int y204), none] [.int (f_X5_isWithin y204 (97 : Int32) (102 : Int32))] M
      refine g_if_ne 44 C dX1_editionFault_30 (by decide) (fun c206 => ?_) (fun c206 => ?_)
      · replace h := of_iff h c206
        refine g_iconst (v := 1) C dX1_editionFault_44 rfl ?_
        refine g_goto 49 C dX1_editionFault_45 (by decide) ?_
        refine g_istore C dX1_editionFault_49 (by decide) rfl (L2 := [some (rv w r0), some (.int x1), some (.int x2), some (.int x3), some (.int y204), some (.int (1 : Int32))]) rfl ?_
        refine g_iload C dX1_editionFault_51 rfl ?_
        refine g_if_eq 62 C dX1_editionFault_53 (by decide) (fun c => absurd c (by decide)) (fun _ => ?_)
        refine g_iload_n C dX1_editionFault_56 rfl rfl ?_
        refine g_bipush (v := 12) C dX1_editionFault_57 rfl ?_
        refine g_icmp_lt 64 C dX1_editionFault_59 (by decide) (fun c207 => ?_) (fun c207 => ?_)
        · replace h := of_ift h c207
          refine g_iload C dX1_editionFault_64 rfl ?_
          refine g_bipush (v := 44) C dX1_editionFault_66 rfl ?_
          refine g_icmp_ne 75 C dX1_editionFault_68 (by decide) (fun c208 => ?_) (fun c208 => ?_)
          · replace h := of_iff h c208
            refine g_iconst (v := 0) C dX1_editionFault_75 rfl ?_
            refine g_istore_n C dX1_editionFault_76 rfl (by decide) rfl (L2 := [some (rv w r0), some (.int x1), some (.int (0 : Int32)), some (.int x3), some (.int y204), some (.int (1 : Int32))]) rfl ?_
            refine g_iload_n C dX1_editionFault_77 rfl rfl ?_
            refine g_iload_n C dX1_editionFault_78 rfl rfl ?_
            refine g_if_eq 86 C dX1_editionFault_79 (by decide) (fun _ => ?_) (fun c => absurd c (by decide))
            refine g_iconst (v := 1) C dX1_editionFault_86 rfl ?_
            refine g_iadd C dX1_editionFault_87 ?_
            obtain ⟨y209, e210, h⟩ := of_bvv h
            refine g_topi e210 ?_
            refine g_istore_n C dX1_editionFault_88 rfl (by decide) (rv_cat _ _) (L2 := [some (rv w r0), some (.int y209), some (.int (0 : Int32)), some (.int x3), some (.int y204), some (.int (1 : Int32))]) rfl ?_
            obtain ⟨y211, e212, h⟩ := of_bvv h
            refine g_iinc (v := y211) C dX1_editionFault_89 rfl e212.symm (by decide) rfl (L2 := [some (rv w r0), some (.int y209), some (.int (0 : Int32)), some (.int y211), some (.int y204), some (.int (1 : Int32))]) rfl ?_
            refine g_goto 6 C dX1_editionFault_92 (by decide) ?_
            refine g_mask (bs := [true, true, true, true, false, false]) (L2 := [some (rv w r0), some (.int y209), some (.int (0 : Int32)), some (.int y211), none, none]) rfl ?_
            exact ih r0 y209 (0 : Int32) y211 h
          · replace h := of_ift h c208
            refine g_iconst (v := 1) C dX1_editionFault_71 rfl ?_
            refine g_goto 76 C dX1_editionFault_72 (by decide) ?_
            refine g_istore_n C dX1_editionFault_76 rfl (by decide) rfl (L2 := [some (rv w r0), some (.int x1), some (.int (1 : Int32)), some (.int x3), some (.int y204), some (.int (1 : Int32))]) rfl ?_
            refine g_iload_n C dX1_editionFault_77 rfl rfl ?_
            refine g_iload_n C dX1_editionFault_78 rfl rfl ?_
            refine g_if_eq 86 C dX1_editionFault_79 (by decide) (fun c => absurd c (by decide)) (fun _ => ?_)
            refine g_iconst (v := 0) C dX1_editionFault_82 rfl ?_
            refine g_goto 87 C dX1_editionFault_83 (by decide) ?_
            refine g_iadd C dX1_editionFault_87 ?_
            obtain ⟨y213, e214, h⟩ := of_bvv h
            refine g_topi e214 ?_
            refine g_istore_n C dX1_editionFault_88 rfl (by decide) (rv_cat _ _) (L2 := [some (rv w r0), some (.int y213), some (.int (1 : Int32)), some (.int x3), some (.int y204), some (.int (1 : Int32))]) rfl ?_
            obtain ⟨y215, e216, h⟩ := of_bvv h
            refine g_iinc (v := y215) C dX1_editionFault_89 rfl e216.symm (by decide) rfl (L2 := [some (rv w r0), some (.int y213), some (.int (1 : Int32)), some (.int y215), some (.int y204), some (.int (1 : Int32))]) rfl ?_
            refine g_goto 6 C dX1_editionFault_92 (by decide) ?_
            refine g_mask (bs := [true, true, true, true, false, false]) (L2 := [some (rv w r0), some (.int y213), some (.int (1 : Int32)), some (.int y215), none, none]) rfl ?_
            exact ih r0 y213 (1 : Int32) y215 h
        · replace h := of_iff h c207
          refine g_iload_n C dX1_editionFault_62 rfl rfl ?_
          cases h
          exact hR 63 _ ⟨.int, rfl, rfl⟩ dX1_editionFault_63
      · replace h := of_ift h c206
        refine g_iload C dX1_editionFault_33 rfl ?_
        refine g_bipush (v := 44) C dX1_editionFault_35 rfl ?_
        refine g_icmp_ne 48 C dX1_editionFault_37 (by decide) (fun c217 => ?_) (fun c217 => ?_)
        · replace h := of_iff h c217
          refine g_iconst (v := 0) C dX1_editionFault_48 rfl ?_
          refine g_istore C dX1_editionFault_49 (by decide) rfl (L2 := [some (rv w r0), some (.int x1), some (.int x2), some (.int x3), some (.int y204), some (.int (0 : Int32))]) rfl ?_
          refine g_iload C dX1_editionFault_51 rfl ?_
          refine g_if_eq 62 C dX1_editionFault_53 (by decide) (fun _ => ?_) (fun c => absurd c (by decide))
          refine g_iload_n C dX1_editionFault_62 rfl rfl ?_
          cases h
          exact hR 63 _ ⟨.int, rfl, rfl⟩ dX1_editionFault_63
        · replace h := of_ift h c217
          refine g_iload_n C dX1_editionFault_40 rfl rfl ?_
          refine g_if_ne 48 C dX1_editionFault_41 (by decide) (fun c218 => ?_) (fun c218 => ?_)
          · replace h := of_iff h c218
            refine g_iconst (v := 0) C dX1_editionFault_48 rfl ?_
            refine g_istore C dX1_editionFault_49 (by decide) rfl (L2 := [some (rv w r0), some (.int x1), some (.int x2), some (.int x3), some (.int y204), some (.int (0 : Int32))]) rfl ?_
            refine g_iload C dX1_editionFault_51 rfl ?_
            refine g_if_eq 62 C dX1_editionFault_53 (by decide) (fun _ => ?_) (fun c => absurd c (by decide))
            refine g_iload_n C dX1_editionFault_62 rfl rfl ?_
            cases h
            exact hR 63 _ ⟨.int, rfl, rfl⟩ dX1_editionFault_63
          · replace h := of_ift h c218
            refine g_iconst (v := 1) C dX1_editionFault_44 rfl ?_
            refine g_goto 49 C dX1_editionFault_45 (by decide) ?_
            refine g_istore C dX1_editionFault_49 (by decide) rfl (L2 := [some (rv w r0), some (.int x1), some (.int x2), some (.int x3), some (.int y204), some (.int (1 : Int32))]) rfl ?_
            refine g_iload C dX1_editionFault_51 rfl ?_
            refine g_if_eq 62 C dX1_editionFault_53 (by decide) (fun c => absurd c (by decide)) (fun _ => ?_)
            refine g_iload_n C dX1_editionFault_56 rfl rfl ?_
            refine g_bipush (v := 12) C dX1_editionFault_57 rfl ?_
            refine g_icmp_lt 64 C dX1_editionFault_59 (by decide) (fun c219 => ?_) (fun c219 => ?_)
            · replace h := of_ift h c219
              refine g_iload C dX1_editionFault_64 rfl ?_
              refine g_bipush (v := 44) C dX1_editionFault_66 rfl ?_
              refine g_icmp_ne 75 C dX1_editionFault_68 (by decide) (fun c220 => ?_) (fun c220 => ?_)
              · replace h := of_iff h c220
                refine g_iconst (v := 0) C dX1_editionFault_75 rfl ?_
                refine g_istore_n C dX1_editionFault_76 rfl (by decide) rfl (L2 := [some (rv w r0), some (.int x1), some (.int (0 : Int32)), some (.int x3), some (.int y204), some (.int (1 : Int32))]) rfl ?_
                refine g_iload_n C dX1_editionFault_77 rfl rfl ?_
                refine g_iload_n C dX1_editionFault_78 rfl rfl ?_
                refine g_if_eq 86 C dX1_editionFault_79 (by decide) (fun _ => ?_) (fun c => absurd c (by decide))
                refine g_iconst (v := 1) C dX1_editionFault_86 rfl ?_
                refine g_iadd C dX1_editionFault_87 ?_
                obtain ⟨y221, e222, h⟩ := of_bvv h
                refine g_topi e222 ?_
                refine g_istore_n C dX1_editionFault_88 rfl (by decide) (rv_cat _ _) (L2 := [some (rv w r0), some (.int y221), some (.int (0 : Int32)), some (.int x3), some (.int y204), some (.int (1 : Int32))]) rfl ?_
                obtain ⟨y223, e224, h⟩ := of_bvv h
                refine g_iinc (v := y223) C dX1_editionFault_89 rfl e224.symm (by decide) rfl (L2 := [some (rv w r0), some (.int y221), some (.int (0 : Int32)), some (.int y223), some (.int y204), some (.int (1 : Int32))]) rfl ?_
                refine g_goto 6 C dX1_editionFault_92 (by decide) ?_
                refine g_mask (bs := [true, true, true, true, false, false]) (L2 := [some (rv w r0), some (.int y221), some (.int (0 : Int32)), some (.int y223), none, none]) rfl ?_
                exact ih r0 y221 (0 : Int32) y223 h
              · replace h := of_ift h c220
                refine g_iconst (v := 1) C dX1_editionFault_71 rfl ?_
                refine g_goto 76 C dX1_editionFault_72 (by decide) ?_
                refine g_istore_n C dX1_editionFault_76 rfl (by decide) rfl (L2 := [some (rv w r0), some (.int x1), some (.int (1 : Int32)), some (.int x3), some (.int y204), some (.int (1 : Int32))]) rfl ?_
                refine g_iload_n C dX1_editionFault_77 rfl rfl ?_
                refine g_iload_n C dX1_editionFault_78 rfl rfl ?_
                refine g_if_eq 86 C dX1_editionFault_79 (by decide) (fun c => absurd c (by decide)) (fun _ => ?_)
                refine g_iconst (v := 0) C dX1_editionFault_82 rfl ?_
                refine g_goto 87 C dX1_editionFault_83 (by decide) ?_
                refine g_iadd C dX1_editionFault_87 ?_
                obtain ⟨y225, e226, h⟩ := of_bvv h
                refine g_topi e226 ?_
                refine g_istore_n C dX1_editionFault_88 rfl (by decide) (rv_cat _ _) (L2 := [some (rv w r0), some (.int y225), some (.int (1 : Int32)), some (.int x3), some (.int y204), some (.int (1 : Int32))]) rfl ?_
                obtain ⟨y227, e228, h⟩ := of_bvv h
                refine g_iinc (v := y227) C dX1_editionFault_89 rfl e228.symm (by decide) rfl (L2 := [some (rv w r0), some (.int y225), some (.int (1 : Int32)), some (.int y227), some (.int y204), some (.int (1 : Int32))]) rfl ?_
                refine g_goto 6 C dX1_editionFault_92 (by decide) ?_
                refine g_mask (bs := [true, true, true, true, false, false]) (L2 := [some (rv w r0), some (.int y225), some (.int (1 : Int32)), some (.int y227), none, none]) rfl ?_
                exact ih r0 y225 (1 : Int32) y227 h
            · replace h := of_iff h c219
              refine g_iload_n C dX1_editionFault_62 rfl rfl ?_
              cases h
              exact hR 63 _ ⟨.int, rfl, rfl⟩ dX1_editionFault_63
def f_X1_editionFault (r0 : Nat) (M : Mem) : Option Int32 := f_X1_editionFault_6 M FU r0 (0 : Int32) (1 : Int32) (0 : Int32)
set_option maxRecDepth 100000 in
set_option maxHeartbeats 4000000 in
theorem ct_X1_editionFault {l : Launch} {w : Om} (hw : Wf w) {r0 : Nat}  {M : Mem} {r : Int32} (h : f_X1_editionFault r0 M = some r) : Ct l w yX1_editionFault cX1_editionFault 6 (some .int) 2 [rv w r0] M (some (.int r)) M := by
  refine ct_of hw (by decide) (cat_s (rv_cat _ _) cat_0) (Nat.le_of_ble_eq_true rfl) (fun f _ C hR => ?_)
  show Go w f 0 [some (rv w r0), none, none, none, none, none] [] M
  unfold f_X1_editionFault at h
  refine g_iconst (v := 0) C dX1_editionFault_0 rfl ?_
  refine g_istore_n C dX1_editionFault_1 rfl (by decide) (rv_cat _ _) (L2 := [some (rv w r0), some (.int (0 : Int32)), none, none, none, none]) rfl ?_
  refine g_iconst (v := 1) C dX1_editionFault_2 rfl ?_
  refine g_istore_n C dX1_editionFault_3 rfl (by decide) rfl (L2 := [some (rv w r0), some (.int (0 : Int32)), some (.int (1 : Int32)), none, none, none]) rfl ?_
  refine g_iconst (v := 0) C dX1_editionFault_4 rfl ?_
  refine g_istore_n C dX1_editionFault_5 rfl (by decide) rfl (L2 := [some (rv w r0), some (.int (0 : Int32)), some (.int (1 : Int32)), some (.int (0 : Int32)), none, none]) rfl ?_
  exact t_X1_editionFault_6 C hR _ r0 (0 : Int32) (1 : Int32) (0 : Int32) h
def f_X1_dueBehind (x0 : Int32) (x1 : Int32) : Int32 := if x0 = nI 0 then (if x1 = (43 : Int32) then ((4 : Int32)) else (if (f_X5_isWithin x1 (48 : Int32) (51 : Int32)) = 0 then ((-1 : Int32)) else ((1 : Int32)))) else if x0 = nI 1 then (if x1 = (58 : Int32) then ((2 : Int32)) else ((-1 : Int32))) else if x0 = nI 2 then (if x1 = (49 : Int32) then ((3 : Int32)) else (if (f_X5_isWithin x1 (48 : Int32) (57 : Int32)) = 0 then ((-1 : Int32)) else ((4 : Int32)))) else if x0 = nI 3 then (if x1 = (48 : Int32) then ((4 : Int32)) else (if x1 = (59 : Int32) then ((0 : Int32)) else ((-1 : Int32)))) else (if x1 = (59 : Int32) then ((0 : Int32)) else ((-1 : Int32)))
set_option maxRecDepth 100000 in
set_option maxHeartbeats 4000000 in
theorem ct_X1_dueBehind {l : Launch} {w : Om} (hw : Wf w) {x0 : Int32} {x1 : Int32}  {M : Mem} {r : Int32} (h : f_X1_dueBehind x0 x1 = r) : Ct l w yX1_dueBehind cX1_dueBehind 2 (some .int) 1 [.int x0, .int x1] M (some (.int r)) M := by
  refine ct_of hw (by decide) (cat_s rfl (cat_s rfl cat_0)) (Nat.le_of_ble_eq_true rfl) (fun f _ C hR => ?_)
  show Go w f 0 [some (.int x0), some (.int x1)] [] M
  unfold f_X1_dueBehind at h
  refine g_iload_n C dX1_dueBehind_0 rfl rfl ?_
  by_cases c1 : x0 = nI 0
  · replace h := of_ift h c1
    refine g_tsI (nI 0) (31) 32 C dX1_dueBehind_1 c1 (by decide) (by decide) rfl (by decide) ?_
    refine g_iload_n C dX1_dueBehind_32 rfl rfl ?_
    refine g_bipush (v := 43) C dX1_dueBehind_33 rfl ?_
    refine g_icmp_ne 40 C dX1_dueBehind_35 (by decide) (fun c2 => ?_) (fun c2 => ?_)
    · replace h := of_iff h c2
      refine g_iload_n C dX1_dueBehind_40 rfl rfl ?_
      refine g_bipush (v := 48) C dX1_dueBehind_41 rfl ?_
      refine g_bipush (v := 51) C dX1_dueBehind_43 rfl ?_
      refine g_callSN (As := [.int x1, .int (48 : Int32), .int (51 : Int32)]) C (ct_X5_isWithin C.wf rfl) ln_RX1_27 mi_X5_isWithin (by decide) cs_0 (by decide) dX1_dueBehind_45 rfl ?_
      show Go w f 48 [some (.int x0), some (.int x1)] [.int (f_X5_isWithin x1 (48 : Int32) (51 : Int32))] M
      refine g_if_eq 55 C dX1_dueBehind_48 (by decide) (fun c3 => ?_) (fun c3 => ?_)
      · replace h := of_ift h c3
        refine g_iconst (v := -1) C dX1_dueBehind_55 rfl ?_
        cases h
        exact hR 56 _ ⟨.int, rfl, rfl⟩ dX1_dueBehind_56
      · replace h := of_iff h c3
        refine g_iconst (v := 1) C dX1_dueBehind_51 rfl ?_
        refine g_goto 56 C dX1_dueBehind_52 (by decide) ?_
        cases h
        exact hR 56 _ ⟨.int, rfl, rfl⟩ dX1_dueBehind_56
    · replace h := of_ift h c2
      refine g_iconst (v := 4) C dX1_dueBehind_38 rfl ?_
      cases h
      exact hR 39 _ ⟨.int, rfl, rfl⟩ dX1_dueBehind_39
  replace h := of_iff h c1
  by_cases c4 : x0 = nI 1
  · replace h := of_ift h c4
    refine g_tsI (nI 1) (56) 57 C dX1_dueBehind_1 c4 (by decide) (by decide) rfl (by decide) ?_
    refine g_iload_n C dX1_dueBehind_57 rfl rfl ?_
    refine g_bipush (v := 58) C dX1_dueBehind_58 rfl ?_
    refine g_icmp_ne 67 C dX1_dueBehind_60 (by decide) (fun c5 => ?_) (fun c5 => ?_)
    · replace h := of_iff h c5
      refine g_iconst (v := -1) C dX1_dueBehind_67 rfl ?_
      cases h
      exact hR 68 _ ⟨.int, rfl, rfl⟩ dX1_dueBehind_68
    · replace h := of_ift h c5
      refine g_iconst (v := 2) C dX1_dueBehind_63 rfl ?_
      refine g_goto 68 C dX1_dueBehind_64 (by decide) ?_
      cases h
      exact hR 68 _ ⟨.int, rfl, rfl⟩ dX1_dueBehind_68
  replace h := of_iff h c4
  by_cases c6 : x0 = nI 2
  · replace h := of_ift h c6
    refine g_tsI (nI 2) (68) 69 C dX1_dueBehind_1 c6 (by decide) (by decide) rfl (by decide) ?_
    refine g_iload_n C dX1_dueBehind_69 rfl rfl ?_
    refine g_bipush (v := 49) C dX1_dueBehind_70 rfl ?_
    refine g_icmp_ne 77 C dX1_dueBehind_72 (by decide) (fun c7 => ?_) (fun c7 => ?_)
    · replace h := of_iff h c7
      refine g_iload_n C dX1_dueBehind_77 rfl rfl ?_
      refine g_bipush (v := 48) C dX1_dueBehind_78 rfl ?_
      refine g_bipush (v := 57) C dX1_dueBehind_80 rfl ?_
      refine g_callSN (As := [.int x1, .int (48 : Int32), .int (57 : Int32)]) C (ct_X5_isWithin C.wf rfl) ln_RX1_27 mi_X5_isWithin (by decide) cs_0 (by decide) dX1_dueBehind_82 rfl ?_
      show Go w f 85 [some (.int x0), some (.int x1)] [.int (f_X5_isWithin x1 (48 : Int32) (57 : Int32))] M
      refine g_if_eq 92 C dX1_dueBehind_85 (by decide) (fun c8 => ?_) (fun c8 => ?_)
      · replace h := of_ift h c8
        refine g_iconst (v := -1) C dX1_dueBehind_92 rfl ?_
        cases h
        exact hR 93 _ ⟨.int, rfl, rfl⟩ dX1_dueBehind_93
      · replace h := of_iff h c8
        refine g_iconst (v := 4) C dX1_dueBehind_88 rfl ?_
        refine g_goto 93 C dX1_dueBehind_89 (by decide) ?_
        cases h
        exact hR 93 _ ⟨.int, rfl, rfl⟩ dX1_dueBehind_93
    · replace h := of_ift h c7
      refine g_iconst (v := 3) C dX1_dueBehind_75 rfl ?_
      cases h
      exact hR 76 _ ⟨.int, rfl, rfl⟩ dX1_dueBehind_76
  replace h := of_iff h c6
  by_cases c9 : x0 = nI 3
  · replace h := of_ift h c9
    refine g_tsI (nI 3) (93) 94 C dX1_dueBehind_1 c9 (by decide) (by decide) rfl (by decide) ?_
    refine g_iload_n C dX1_dueBehind_94 rfl rfl ?_
    refine g_bipush (v := 48) C dX1_dueBehind_95 rfl ?_
    refine g_icmp_ne 102 C dX1_dueBehind_97 (by decide) (fun c10 => ?_) (fun c10 => ?_)
    · replace h := of_iff h c10
      refine g_iload_n C dX1_dueBehind_102 rfl rfl ?_
      refine g_bipush (v := 59) C dX1_dueBehind_103 rfl ?_
      refine g_icmp_ne 112 C dX1_dueBehind_105 (by decide) (fun c11 => ?_) (fun c11 => ?_)
      · replace h := of_iff h c11
        refine g_iconst (v := -1) C dX1_dueBehind_112 rfl ?_
        cases h
        exact hR 113 _ ⟨.int, rfl, rfl⟩ dX1_dueBehind_113
      · replace h := of_ift h c11
        refine g_iconst (v := 0) C dX1_dueBehind_108 rfl ?_
        refine g_goto 113 C dX1_dueBehind_109 (by decide) ?_
        cases h
        exact hR 113 _ ⟨.int, rfl, rfl⟩ dX1_dueBehind_113
    · replace h := of_ift h c10
      refine g_iconst (v := 4) C dX1_dueBehind_100 rfl ?_
      cases h
      exact hR 101 _ ⟨.int, rfl, rfl⟩ dX1_dueBehind_101
  replace h := of_iff h c9
  refine g_tsD 4 114 C dX1_dueBehind_1 (by decide) rfl rfl (p_lt (lt_s (lt_s (lt_s (lt_s lt_0 c1) c4) c6) c9)) (by decide) ?_
  refine g_iload_n C dX1_dueBehind_114 rfl rfl ?_
  refine g_bipush (v := 59) C dX1_dueBehind_115 rfl ?_
  refine g_icmp_ne 124 C dX1_dueBehind_117 (by decide) (fun c12 => ?_) (fun c12 => ?_)
  · replace h := of_iff h c12
    refine g_iconst (v := -1) C dX1_dueBehind_124 rfl ?_
    cases h
    exact hR 125 _ ⟨.int, rfl, rfl⟩ dX1_dueBehind_125
  · replace h := of_ift h c12
    refine g_iconst (v := 0) C dX1_dueBehind_120 rfl ?_
    refine g_goto 125 C dX1_dueBehind_121 (by decide) ?_
    cases h
    exact hR 125 _ ⟨.int, rfl, rfl⟩ dX1_dueBehind_125
def f_X1_suitsFault_4 (M : Mem) : Nat → Nat → Int32 → Int32 → Option Int32
  | 0, _, _, _ => none
  | n + 1, r0, x1, x2 => gdd (kd r0 = 2) <| if (gI M r0 1) ≤ x2 then (if x1 = (3 : Int32) then (some (-1 : Int32)) else (if x1 = (4 : Int32) then (some (-1 : Int32)) else (some (gI M r0 1)))) else (obb (f_X1_signAt r0 x2 M) fun y205 => bvv (f_X1_dueBehind x1 y205) fun y207 => if y207 = (-1 : Int32) then (some x2) else (bvv (x2 + (1 : Int32)) fun y210 => (f_X1_suitsFault_4 M n) r0 y207 y210))
set_option maxRecDepth 100000 in
set_option maxHeartbeats 4000000 in
theorem t_X1_suitsFault_4 {w : Om} {f : Fr} {M : Mem} {r : Int32} (C : Cx w f RX1 cX1_suitsFault 3 2) (hR : Rt w f cX1_suitsFault (some .int) (some (.int r)) M)   : ∀ (n : Nat) (r0 : Nat) (x1 : Int32) (x2 : Int32), f_X1_suitsFault_4 M n r0 x1 x2 = some r → Go w f 4 [some (rv w r0), some (.int x1), some (.int x2)] [] M := by
  intro n
  induction n with
  | zero =>
    intro r0 x1 x2 h
    cases h
  | succ n ih =>
    intro r0 x1 x2 h
    rw [f_X1_suitsFault_4] at h
    refine g_iload_n C dX1_suitsFault_4 rfl rfl ?_
    refine g_aload_n C dX1_suitsFault_5 rfl rfl ?_
    obtain ⟨g201, h⟩ := of_gdd h
    refine gf_1_1 C fl_RX1_15 g201 dX1_suitsFault_6 ?_
    refine g_icmp_ge 35 C dX1_suitsFault_9 (by decide) (fun c202 => ?_) (fun c202 => ?_)
    · replace h := of_ift h c202
      refine g_iload_n C dX1_suitsFault_35 rfl rfl ?_
      refine g_iconst (v := 3) C dX1_suitsFault_36 rfl ?_
      refine g_icmp_eq 45 C dX1_suitsFault_37 (by decide) (fun c203 => ?_) (fun c203 => ?_)
      · replace h := of_ift h c203
        refine g_iconst (v := -1) C dX1_suitsFault_45 rfl ?_
        refine g_goto 53 C dX1_suitsFault_46 (by decide) ?_
        cases h
        exact hR 53 _ ⟨.int, rfl, rfl⟩ dX1_suitsFault_53
      · replace h := of_iff h c203
        refine g_iload_n C dX1_suitsFault_40 rfl rfl ?_
        refine g_iconst (v := 4) C dX1_suitsFault_41 rfl ?_
        refine g_icmp_ne 49 C dX1_suitsFault_42 (by decide) (fun c204 => ?_) (fun c204 => ?_)
        · replace h := of_iff h c204
          refine g_aload_n C dX1_suitsFault_49 rfl rfl ?_
          refine gf_1_1 C fl_RX1_15 g201 dX1_suitsFault_50 ?_
          cases h
          exact hR 53 _ ⟨.int, rfl, rfl⟩ dX1_suitsFault_53
        · replace h := of_ift h c204
          refine g_iconst (v := -1) C dX1_suitsFault_45 rfl ?_
          refine g_goto 53 C dX1_suitsFault_46 (by decide) ?_
          cases h
          exact hR 53 _ ⟨.int, rfl, rfl⟩ dX1_suitsFault_53
    · replace h := of_iff h c202
      refine g_iload_n C dX1_suitsFault_12 rfl rfl ?_
      refine g_aload_n C dX1_suitsFault_13 rfl rfl ?_
      refine g_iload_n C dX1_suitsFault_14 rfl rfl ?_
      obtain ⟨y205, e206, h⟩ := of_obb h
      refine g_callV (As := [.int x2]) C (ct_X1_signAt C.wf e206) g201 lk_RX1_23 mi_X1_signAt (by decide) (cs_i cs_0) (by decide) dX1_suitsFault_15 rfl ?_
      show Go w f 18 [some (rv w r0), some (.int x1), some (.int x2)] [.int y205, .int x1] M
      refine g_callS (As := [.int x1, .int y205]) C (ct_X1_dueBehind C.wf rfl) lk_RX1_31 mi_X1_dueBehind (by decide) cs_0 (by decide) dX1_suitsFault_18 rfl ?_
      show Go w f 21 [some (rv w r0), some (.int x1), some (.int x2)] [.int (f_X1_dueBehind x1 y205)] M
      obtain ⟨y207, e208, h⟩ := of_bvv h
      refine g_topi e208 ?_
      refine g_istore_n C dX1_suitsFault_21 rfl (by decide) (rv_cat _ _) (L2 := [some (rv w r0), some (.int y207), some (.int x2)]) rfl ?_
      refine g_iload_n C dX1_suitsFault_22 rfl rfl ?_
      refine g_iconst (v := -1) C dX1_suitsFault_23 rfl ?_
      refine g_icmp_ne 29 C dX1_suitsFault_24 (by decide) (fun c209 => ?_) (fun c209 => ?_)
      · replace h := of_iff h c209
        obtain ⟨y210, e211, h⟩ := of_bvv h
        refine g_iinc (v := y210) C dX1_suitsFault_29 rfl e211.symm (by decide) rfl (L2 := [some (rv w r0), some (.int y207), some (.int y210)]) rfl ?_
        refine g_goto 4 C dX1_suitsFault_32 (by decide) ?_
        exact ih r0 y207 y210 h
      · replace h := of_ift h c209
        refine g_iload_n C dX1_suitsFault_27 rfl rfl ?_
        cases h
        exact hR 28 _ ⟨.int, rfl, rfl⟩ dX1_suitsFault_28
def f_X1_suitsFault (r0 : Nat) (M : Mem) : Option Int32 := f_X1_suitsFault_4 M FU r0 (0 : Int32) (0 : Int32)
set_option maxRecDepth 100000 in
set_option maxHeartbeats 4000000 in
theorem ct_X1_suitsFault {l : Launch} {w : Om} (hw : Wf w) {r0 : Nat}  {M : Mem} {r : Int32} (h : f_X1_suitsFault r0 M = some r) : Ct l w yX1_suitsFault cX1_suitsFault 3 (some .int) 2 [rv w r0] M (some (.int r)) M := by
  refine ct_of hw (by decide) (cat_s (rv_cat _ _) cat_0) (Nat.le_of_ble_eq_true rfl) (fun f _ C hR => ?_)
  show Go w f 0 [some (rv w r0), none, none] [] M
  unfold f_X1_suitsFault at h
  refine g_iconst (v := 0) C dX1_suitsFault_0 rfl ?_
  refine g_istore_n C dX1_suitsFault_1 rfl (by decide) (rv_cat _ _) (L2 := [some (rv w r0), some (.int (0 : Int32)), none]) rfl ?_
  refine g_iconst (v := 0) C dX1_suitsFault_2 rfl ?_
  refine g_istore_n C dX1_suitsFault_3 rfl (by decide) rfl (L2 := [some (rv w r0), some (.int (0 : Int32)), some (.int (0 : Int32))]) rfl ?_
  exact t_X1_suitsFault_4 C hR _ r0 (0 : Int32) (0 : Int32) h
def f_X5_fault (r0 : Nat) (x1 : Int32) (M : Mem) : Option Int32 := if (f_X5_isWithin x1 (0 : Int32) (1 : Int32)) = 0 then (some (-1 : Int32)) else (if x1 = 0 then (gdd (kd r0 = 6) <| gdd (kd (fld r0 3) = 2) <| obb (f_X1_editionFault (fld r0 3) M) fun y10 => if y10 = (-1 : Int32) then (some (-4 : Int32)) else (some y10)) else (gdd (kd r0 = 6) <| gdd (kd (fld r0 3) = 2) <| obb (f_X1_suitsFault (fld r0 3) M) fun y5 => if y5 = (-1 : Int32) then (some (-4 : Int32)) else (some y5)))
set_option maxRecDepth 100000 in
set_option maxHeartbeats 4000000 in
theorem ct_X5_fault {l : Launch} {w : Om} (hw : Wf w) {r0 : Nat} {x1 : Int32}  {M : Mem} {r : Int32} (h : f_X5_fault r0 x1 M = some r) : Ct l w yX5_fault cX5_fault 3 (some .int) 3 [rv w r0, .int x1] M (some (.int r)) M := by
  refine ct_of hw (by decide) (cat_s (rv_cat _ _) (cat_s rfl cat_0)) (Nat.le_of_ble_eq_true rfl) (fun f _ C hR => ?_)
  show Go w f 0 [some (rv w r0), some (.int x1), none] [] M
  unfold f_X5_fault at h
  refine g_iload_n C dX5_fault_0 rfl rfl ?_
  refine g_iconst (v := 0) C dX5_fault_1 rfl ?_
  refine g_iconst (v := 1) C dX5_fault_2 rfl ?_
  refine g_callS (As := [.int x1, .int (0 : Int32), .int (1 : Int32)]) C (ct_X5_isWithin C.wf rfl) lk_RX5_48 mi_X5_isWithin (by decide) cs_0 (by decide) dX5_fault_3 rfl ?_
  show Go w f 6 [some (rv w r0), some (.int x1), none] [.int (f_X5_isWithin x1 (0 : Int32) (1 : Int32))] M
  refine g_if_ne 11 C dX5_fault_6 (by decide) (fun c1 => ?_) (fun c1 => ?_)
  · replace h := of_iff h c1
    refine g_iload_n C dX5_fault_11 rfl rfl ?_
    refine g_if_ne 25 C dX5_fault_12 (by decide) (fun c2 => ?_) (fun c2 => ?_)
    · replace h := of_iff h c2
      refine g_aload_n C dX5_fault_25 rfl rfl ?_
      obtain ⟨g3, h⟩ := of_gdd h
      refine gf_5_3 C fl_RX5_26 g3 dX5_fault_26 ?_
      obtain ⟨g4, h⟩ := of_gdd h
      obtain ⟨y5, e6, h⟩ := of_obb h
      refine g_callV (As := []) C (ct_X1_suitsFault C.wf e6) g4 lk_RX5_145 mi_X1_suitsFault (by decide) cs_0 (by decide) dX5_fault_29 rfl ?_
      show Go w f 32 [some (rv w r0), some (.int x1), none] [.int y5] M
      refine g_istore_n C dX5_fault_32 rfl (by decide) rfl (L2 := [some (rv w r0), some (.int x1), some (.int y5)]) rfl ?_
      refine g_iload_n C dX5_fault_33 rfl rfl ?_
      refine g_iconst (v := -1) C dX5_fault_34 rfl ?_
      refine g_icmp_ne 43 C dX5_fault_35 (by decide) (fun c7 => ?_) (fun c7 => ?_)
      · replace h := of_iff h c7
        refine g_iload_n C dX5_fault_43 rfl rfl ?_
        cases h
        exact hR 44 _ ⟨.int, rfl, rfl⟩ dX5_fault_44
      · replace h := of_ift h c7
        refine g_bipush (v := -4) C dX5_fault_38 rfl ?_
        refine g_goto 44 C dX5_fault_40 (by decide) ?_
        cases h
        exact hR 44 _ ⟨.int, rfl, rfl⟩ dX5_fault_44
    · replace h := of_ift h c2
      refine g_aload_n C dX5_fault_15 rfl rfl ?_
      obtain ⟨g8, h⟩ := of_gdd h
      refine gf_5_3 C fl_RX5_26 g8 dX5_fault_16 ?_
      obtain ⟨g9, h⟩ := of_gdd h
      obtain ⟨y10, e11, h⟩ := of_obb h
      refine g_callV (As := []) C (ct_X1_editionFault C.wf e11) g9 lk_RX5_98 mi_X1_editionFault (by decide) cs_0 (by decide) dX5_fault_19 rfl ?_
      show Go w f 22 [some (rv w r0), some (.int x1), none] [.int y10] M
      refine g_goto 32 C dX5_fault_22 (by decide) ?_
      refine g_istore_n C dX5_fault_32 rfl (by decide) rfl (L2 := [some (rv w r0), some (.int x1), some (.int y10)]) rfl ?_
      refine g_iload_n C dX5_fault_33 rfl rfl ?_
      refine g_iconst (v := -1) C dX5_fault_34 rfl ?_
      refine g_icmp_ne 43 C dX5_fault_35 (by decide) (fun c12 => ?_) (fun c12 => ?_)
      · replace h := of_iff h c12
        refine g_iload_n C dX5_fault_43 rfl rfl ?_
        cases h
        exact hR 44 _ ⟨.int, rfl, rfl⟩ dX5_fault_44
      · replace h := of_ift h c12
        refine g_bipush (v := -4) C dX5_fault_38 rfl ?_
        refine g_goto 44 C dX5_fault_40 (by decide) ?_
        cases h
        exact hR 44 _ ⟨.int, rfl, rfl⟩ dX5_fault_44
  · replace h := of_ift h c1
    refine g_iconst (v := -1) C dX5_fault_9 rfl ?_
    cases h
    exact hR 10 _ ⟨.int, rfl, rfl⟩ dX5_fault_10
def f_X1_writeTo_12 : Nat → Nat → Nat → Int32 → Mem → Option Mem
  | 0, _, _, _, _ => none
  | n + 1, r0, r1, x2, M => gdd (kd r0 = 2) <| if (gI M r0 1) ≤ x2 then (some M) else (obb (f_X1_signAt r0 x2 M) fun y203 => if y203 = (44 : Int32) then (gdd (kd r1 = 1) <| bvv (sI M r1 2 ((gI M r1 2) ||| ((1 : Int32) <<< (((gI M r1 1) - (1 : Int32)) &&& 31)))) fun M214 => bvv (x2 + (1 : Int32)) fun y216 => (f_X1_writeTo_12 n) r0 r1 y216 M214) else (gdd (kd r1 = 1) <| obb (f_X5_put (fld r1 0) (gI M r1 1) (y203 - (97 : Int32)) M) fun M207 => bvv (sI M207 r1 1 ((gI M207 r1 1) + (1 : Int32))) fun M209 => bvv (x2 + (1 : Int32)) fun y211 => (f_X1_writeTo_12 n) r0 r1 y211 M209))
set_option maxRecDepth 100000 in
set_option maxHeartbeats 4000000 in
theorem t_X1_writeTo_12 {w : Om} {f : Fr} {M2 : Mem} (C : Cx w f RX1 cX1_writeTo 4 2) (hR : Rt w f cX1_writeTo none none M2)   : ∀ (n : Nat) (r0 : Nat) (r1 : Nat) (x2 : Int32) (M : Mem), f_X1_writeTo_12 n r0 r1 x2 M = some M2 → Go w f 12 [some (rv w r0), some (rv w r1), some (.int x2), none] [] M := by
  intro n
  induction n with
  | zero =>
    intro r0 r1 x2 M h
    cases h
  | succ n ih =>
    intro r0 r1 x2 M h
    rw [f_X1_writeTo_12] at h
    refine g_iload_n C dX1_writeTo_12 rfl rfl ?_
    refine g_aload_n C dX1_writeTo_13 rfl rfl ?_
    obtain ⟨g201, h⟩ := of_gdd h
    refine gf_1_1 C fl_RX1_15 g201 dX1_writeTo_14 ?_
    refine g_icmp_ge 83 C dX1_writeTo_17 (by decide) (fun c202 => ?_) (fun c202 => ?_)
    · replace h := of_ift h c202
      cases h
      exact hR 83 _ rfl dX1_writeTo_83
    · replace h := of_iff h c202
      refine g_aload_n C dX1_writeTo_20 rfl rfl ?_
      refine g_iload_n C dX1_writeTo_21 rfl rfl ?_
      obtain ⟨y203, e204, h⟩ := of_obb h
      refine g_callV (As := [.int x2]) C (ct_X1_signAt C.wf e204) g201 lk_RX1_23 mi_X1_signAt (by decide) cs_0 (by decide) dX1_writeTo_22 rfl ?_
      show Go w f 25 [some (rv w r0), some (rv w r1), some (.int x2), none] [.int y203] M
      refine g_istore_n C dX1_writeTo_25 rfl (by decide) rfl (L2 := [some (rv w r0), some (rv w r1), some (.int x2), some (.int y203)]) rfl ?_
      refine g_iload_n C dX1_writeTo_26 rfl rfl ?_
      refine g_bipush (v := 44) C dX1_writeTo_27 rfl ?_
      refine g_icmp_ne 52 C dX1_writeTo_29 (by decide) (fun c205 => ?_) (fun c205 => ?_)
      · replace h := of_iff h c205
        refine g_aload_n C dX1_writeTo_52 rfl rfl ?_
        obtain ⟨g206, h⟩ := of_gdd h
        refine gf_0_0 C fl_RX1_43 g206 dX1_writeTo_53 ?_
        refine g_aload_n C dX1_writeTo_56 rfl rfl ?_
        refine gf_0_1 C fl_RX1_35 g206 dX1_writeTo_57 ?_
        refine g_iload_n C dX1_writeTo_60 rfl rfl ?_
        refine g_bipush (v := 97) C dX1_writeTo_61 rfl ?_
        refine g_isub C dX1_writeTo_63 ?_
        obtain ⟨M207, e208, h⟩ := of_obb h
        refine g_callSN (As := [rv w (fld r1 0), .int (gI M r1 1), .int (y203 - (97 : Int32))]) C (ct_X5_put C.wf e208) ln_RX1_46 mi_X5_put (by decide) cs_0 (by decide) dX1_writeTo_64 rfl ?_
        show Go w f 67 [some (rv w r0), some (rv w r1), some (.int x2), some (.int y203)] [] M207
        refine g_aload_n C dX1_writeTo_67 rfl rfl ?_
        refine g_dup C (rv_cat _ _) dX1_writeTo_68 ?_
        refine gf_0_1 C fl_RX1_35 g206 dX1_writeTo_69 ?_
        refine g_iconst (v := 1) C dX1_writeTo_72 rfl ?_
        refine g_iadd C dX1_writeTo_73 ?_
        refine pf_0_1 C fl_RX1_35 g206 dX1_writeTo_74 ?_
        obtain ⟨M209, e210, h⟩ := of_bvv h
        refine g_mem e210 ?_
        obtain ⟨y211, e212, h⟩ := of_bvv h
        refine g_iinc (v := y211) C dX1_writeTo_77 rfl e212.symm (by decide) (rv_cat _ _) (L2 := [some (rv w r0), some (rv w r1), some (.int y211), some (.int y203)]) rfl ?_
        refine g_goto 12 C dX1_writeTo_80 (by decide) ?_
        refine g_mask (bs := [true, true, true, false]) (L2 := [some (rv w r0), some (rv w r1), some (.int y211), none]) rfl ?_
        exact ih r0 r1 y211 M209 h
      · replace h := of_ift h c205
        refine g_aload_n C dX1_writeTo_32 rfl rfl ?_
        refine g_dup C (rv_cat _ _) dX1_writeTo_33 ?_
        obtain ⟨g213, h⟩ := of_gdd h
        refine gf_0_2 C fl_RX1_40 g213 dX1_writeTo_34 ?_
        refine g_iconst (v := 1) C dX1_writeTo_37 rfl ?_
        refine g_aload_n C dX1_writeTo_38 rfl rfl ?_
        refine gf_0_1 C fl_RX1_35 g213 dX1_writeTo_39 ?_
        refine g_iconst (v := 1) C dX1_writeTo_42 rfl ?_
        refine g_isub C dX1_writeTo_43 ?_
        refine g_ishl C dX1_writeTo_44 ?_
        refine g_ior C dX1_writeTo_45 ?_
        refine pf_0_2 C fl_RX1_40 g213 dX1_writeTo_46 ?_
        obtain ⟨M214, e215, h⟩ := of_bvv h
        refine g_mem e215 ?_
        refine g_goto 77 C dX1_writeTo_49 (by decide) ?_
        obtain ⟨y216, e217, h⟩ := of_bvv h
        refine g_iinc (v := y216) C dX1_writeTo_77 rfl e217.symm (by decide) (rv_cat _ _) (L2 := [some (rv w r0), some (rv w r1), some (.int y216), some (.int y203)]) rfl ?_
        refine g_goto 12 C dX1_writeTo_80 (by decide) ?_
        refine g_mask (bs := [true, true, true, false]) (L2 := [some (rv w r0), some (rv w r1), some (.int y216), none]) rfl ?_
        exact ih r0 r1 y216 M214 h
def f_X1_writeTo (r0 : Nat) (r1 : Nat) (M : Mem) : Option Mem := gdd (kd r1 = 1) <| bvv (sI M r1 1 (0 : Int32)) fun M2 => bvv (sI M2 r1 2 (0 : Int32)) fun M4 => f_X1_writeTo_12 FU r0 r1 (0 : Int32) M4
set_option maxRecDepth 100000 in
set_option maxHeartbeats 4000000 in
theorem ct_X1_writeTo {l : Launch} {w : Om} (hw : Wf w) {r0 : Nat} {r1 : Nat} {M : Mem} {M2 : Mem} (h : f_X1_writeTo r0 r1 M = some M2) : Ct l w yX1_writeTo cX1_writeTo 4 none 2 [rv w r0, rv w r1] M none M2 := by
  refine ct_of hw (by decide) (cat_s (rv_cat _ _) (cat_s (rv_cat _ _) cat_0)) (Nat.le_of_ble_eq_true rfl) (fun f _ C hR => ?_)
  show Go w f 0 [some (rv w r0), some (rv w r1), none, none] [] M
  unfold f_X1_writeTo at h
  refine g_aload_n C dX1_writeTo_0 rfl rfl ?_
  refine g_iconst (v := 0) C dX1_writeTo_1 rfl ?_
  obtain ⟨g1, h⟩ := of_gdd h
  refine pf_0_1 C fl_RX1_35 g1 dX1_writeTo_2 ?_
  obtain ⟨M2, e3, h⟩ := of_bvv h
  refine g_mem e3 ?_
  refine g_aload_n C dX1_writeTo_5 rfl rfl ?_
  refine g_iconst (v := 0) C dX1_writeTo_6 rfl ?_
  refine pf_0_2 C fl_RX1_40 g1 dX1_writeTo_7 ?_
  obtain ⟨M4, e5, h⟩ := of_bvv h
  refine g_mem e5 ?_
  refine g_iconst (v := 0) C dX1_writeTo_10 rfl ?_
  refine g_istore_n C dX1_writeTo_11 rfl (by decide) (rv_cat _ _) (L2 := [some (rv w r0), some (rv w r1), some (.int (0 : Int32)), none]) rfl ?_
  exact t_X1_writeTo_12 C hR _ r0 r1 (0 : Int32) M4 h
def f_X4_addEdition (r0 : Nat) (r1 : Nat) (M : Mem) : Option Mem := gdd (kd r0 = 5) <| bvv (sI M r0 4 ((gI M r0 4) + (1 : Int32))) fun M2 => obb (f_X4_copyEdition r0 r1 ((gI M2 r0 4) - (1 : Int32)) M2) fun M4 => some M4
set_option maxRecDepth 100000 in
set_option maxHeartbeats 4000000 in
theorem ct_X4_addEdition {l : Launch} {w : Om} (hw : Wf w) {r0 : Nat} {r1 : Nat} {M : Mem} {M2 : Mem} (h : f_X4_addEdition r0 r1 M = some M2) : Ct l w yX4_addEdition cX4_addEdition 2 none 3 [rv w r0, rv w r1] M none M2 := by
  refine ct_of hw (by decide) (cat_s (rv_cat _ _) (cat_s (rv_cat _ _) cat_0)) (Nat.le_of_ble_eq_true rfl) (fun f _ C hR => ?_)
  show Go w f 0 [some (rv w r0), some (rv w r1)] [] M
  unfold f_X4_addEdition at h
  refine g_aload_n C dX4_addEdition_0 rfl rfl ?_
  refine g_dup C (rv_cat _ _) dX4_addEdition_1 ?_
  obtain ⟨g1, h⟩ := of_gdd h
  refine gf_4_4 C fl_RX4_40 g1 dX4_addEdition_2 ?_
  refine g_iconst (v := 1) C dX4_addEdition_5 rfl ?_
  refine g_iadd C dX4_addEdition_6 ?_
  refine pf_4_4 C fl_RX4_40 g1 dX4_addEdition_7 ?_
  obtain ⟨M2, e3, h⟩ := of_bvv h
  refine g_mem e3 ?_
  refine g_aload_n C dX4_addEdition_10 rfl rfl ?_
  refine g_aload_n C dX4_addEdition_11 rfl rfl ?_
  refine g_aload_n C dX4_addEdition_12 rfl rfl ?_
  refine gf_4_4 C fl_RX4_40 g1 dX4_addEdition_13 ?_
  refine g_iconst (v := 1) C dX4_addEdition_16 rfl ?_
  refine g_isub C dX4_addEdition_17 ?_
  obtain ⟨M4, e5, h⟩ := of_obb h
  refine g_callV (As := [rv w r1, .int ((gI M2 r0 4) - (1 : Int32))]) C (ct_X4_copyEdition C.wf e5) g1 lk_RX4_51 mi_X4_copyEdition (by decide) cs_0 (by decide) dX4_addEdition_18 rfl ?_
  show Go w f 21 [some (rv w r0), some (rv w r1)] [] M4
  cases h
  exact hR 21 _ rfl dX4_addEdition_21
def f_X5_print (r0 : Nat) (M : Mem) : Option (Int32 × Mem) := gdd (kd r0 = 6) <| gdd (kd (fld r0 3) = 2) <| obb (f_X1_editionFault (fld r0 3) M) fun y3 => if y3 = (-1 : Int32) then (obb (f_X1_writeTo (fld r0 3) (fld r0 4) M) fun M6 => gdd (kd (fld r0 4) = 1) <| gdd (kd (fld r0 0) = 5) <| obb (f_X4_hasEditionLike (fld r0 0) (fld r0 4) (gI M6 (fld r0 4) 2) M6) fun y10 => if y10 = 0 then (if (gI M6 (fld r0 0) 4) < (4 : Int32) then (obb (f_X5_keepState r0 M6) fun M14 => obb (f_X4_addEdition (fld r0 0) (fld r0 4) M14) fun M16 => bvv (sI M16 (fld r0 3) 1 (0 : Int32)) fun M18 => some ((gI M18 (fld r0 0) 4) - (1 : Int32), M18)) else (some ((-3 : Int32), M6))) else (some ((-2 : Int32), M6))) else (some ((-2 : Int32), M))
set_option maxRecDepth 100000 in
set_option maxHeartbeats 4000000 in
theorem ct_X5_print {l : Launch} {w : Om} (hw : Wf w) {r0 : Nat} {M : Mem} {r : Int32} {M2 : Mem} (h : f_X5_print r0 M = some (r, M2)) : Ct l w yX5_print cX5_print 1 (some .int) 5 [rv w r0] M (some (.int r)) M2 := by
  refine ct_of hw (by decide) (cat_s (rv_cat _ _) cat_0) (Nat.le_of_ble_eq_true rfl) (fun f _ C hR => ?_)
  show Go w f 0 [some (rv w r0)] [] M
  unfold f_X5_print at h
  refine g_aload_n C dX5_print_0 rfl rfl ?_
  obtain ⟨g1, h⟩ := of_gdd h
  refine gf_5_3 C fl_RX5_26 g1 dX5_print_1 ?_
  obtain ⟨g2, h⟩ := of_gdd h
  obtain ⟨y3, e4, h⟩ := of_obb h
  refine g_callV (As := []) C (ct_X1_editionFault C.wf e4) g2 lk_RX5_98 mi_X1_editionFault (by decide) cs_0 (by decide) dX5_print_4 rfl ?_
  show Go w f 7 [some (rv w r0)] [.int y3] M
  refine g_iconst (v := -1) C dX5_print_7 rfl ?_
  refine g_icmp_eq 14 C dX5_print_8 (by decide) (fun c5 => ?_) (fun c5 => ?_)
  · replace h := of_ift h c5
    refine g_aload_n C dX5_print_14 rfl rfl ?_
    refine gf_5_3 C fl_RX5_26 g1 dX5_print_15 ?_
    refine g_aload_n C dX5_print_18 rfl rfl ?_
    refine gf_5_4 C fl_RX5_33 g1 dX5_print_19 ?_
    obtain ⟨M6, e7, h⟩ := of_obb h
    refine g_callV (As := [rv w (fld r0 4)]) C (ct_X1_writeTo C.wf e7) g2 lk_RX5_101 mi_X1_writeTo (by decide) cs_0 (by decide) dX5_print_22 rfl ?_
    show Go w f 25 [some (rv w r0)] [] M6
    refine g_aload_n C dX5_print_25 rfl rfl ?_
    refine gf_5_0 C fl_RX5_10 g1 dX5_print_26 ?_
    refine g_aload_n C dX5_print_29 rfl rfl ?_
    refine gf_5_4 C fl_RX5_33 g1 dX5_print_30 ?_
    refine g_aload_n C dX5_print_33 rfl rfl ?_
    refine gf_5_4 C fl_RX5_33 g1 dX5_print_34 ?_
    obtain ⟨g8, h⟩ := of_gdd h
    refine gf_0_2 C fl_RX5_105 g8 dX5_print_37 ?_
    obtain ⟨g9, h⟩ := of_gdd h
    obtain ⟨y10, e11, h⟩ := of_obb h
    refine g_callV (As := [rv w (fld r0 4), .int (gI M6 (fld r0 4) 2)]) C (ct_X4_hasEditionLike C.wf e11) g9 lk_RX5_108 mi_X4_hasEditionLike (by decide) cs_0 (by decide) dX5_print_40 rfl ?_
    show Go w f 43 [some (rv w r0)] [.int y10] M6
    refine g_if_eq 49 C dX5_print_43 (by decide) (fun c12 => ?_) (fun c12 => ?_)
    · replace h := of_ift h c12
      refine g_aload_n C dX5_print_49 rfl rfl ?_
      refine gf_5_0 C fl_RX5_10 g1 dX5_print_50 ?_
      refine gf_4_4 C fl_RX5_112 g9 dX5_print_53 ?_
      refine g_iconst (v := 4) C dX5_print_56 rfl ?_
      refine g_icmp_lt 63 C dX5_print_57 (by decide) (fun c13 => ?_) (fun c13 => ?_)
      · replace h := of_ift h c13
        refine g_aload_n C dX5_print_63 rfl rfl ?_
        obtain ⟨M14, e15, h⟩ := of_obb h
        refine g_callV (As := []) C (ct_X5_keepState C.wf e15) g1 lk_RX5_52 mi_X5_keepState (by decide) cs_0 (by decide) dX5_print_64 rfl ?_
        show Go w f 67 [some (rv w r0)] [] M14
        refine g_aload_n C dX5_print_67 rfl rfl ?_
        refine gf_5_0 C fl_RX5_10 g1 dX5_print_68 ?_
        refine g_aload_n C dX5_print_71 rfl rfl ?_
        refine gf_5_4 C fl_RX5_33 g1 dX5_print_72 ?_
        obtain ⟨M16, e17, h⟩ := of_obb h
        refine g_callV (As := [rv w (fld r0 4)]) C (ct_X4_addEdition C.wf e17) g9 lk_RX5_115 mi_X4_addEdition (by decide) cs_0 (by decide) dX5_print_75 rfl ?_
        show Go w f 78 [some (rv w r0)] [] M16
        refine g_aload_n C dX5_print_78 rfl rfl ?_
        refine gf_5_3 C fl_RX5_26 g1 dX5_print_79 ?_
        refine g_iconst (v := 0) C dX5_print_82 rfl ?_
        refine pf_1_1 C fl_RX5_118 g2 dX5_print_83 ?_
        obtain ⟨M18, e19, h⟩ := of_bvv h
        refine g_mem e19 ?_
        refine g_aload_n C dX5_print_86 rfl rfl ?_
        refine gf_5_0 C fl_RX5_10 g1 dX5_print_87 ?_
        refine gf_4_4 C fl_RX5_112 g9 dX5_print_90 ?_
        refine g_iconst (v := 1) C dX5_print_93 rfl ?_
        refine g_isub C dX5_print_94 ?_
        cases h
        exact hR 95 _ ⟨.int, rfl, rfl⟩ dX5_print_95
      · replace h := of_iff h c13
        refine g_bipush (v := -3) C dX5_print_60 rfl ?_
        cases h
        exact hR 62 _ ⟨.int, rfl, rfl⟩ dX5_print_62
    · replace h := of_iff h c12
      refine g_bipush (v := -2) C dX5_print_46 rfl ?_
      cases h
      exact hR 48 _ ⟨.int, rfl, rfl⟩ dX5_print_48
  · replace h := of_iff h c5
    refine g_bipush (v := -2) C dX5_print_11 rfl ?_
    cases h
    exact hR 13 _ ⟨.int, rfl, rfl⟩ dX5_print_13
def f_X4_findForce_2 : Nat → Nat → Int32 → Mem → Option Mem
  | 0, _, _, _ => none
  | n + 1, r0, x1, M => gdd (kd r0 = 5) <| if (gI M r0 5) ≤ x1 then (some M) else (obb (f_X4_rulingAt r0 x1 M) fun y203 => if y203 = 0 then (bvv (x1 + (1 : Int32)) fun y206 => (f_X4_findForce_2 n) r0 y206 M) else (gdd (kd y203 = 3) <| obb (f_X4_rulingAt r0 (gI M y203 4) M) fun y209 => if (gI M y203 5) = 0 then (if y209 = 0 then (bvv (sI M y203 6 (1 : Int32)) fun M217 => bvv (x1 + (1 : Int32)) fun y219 => (f_X4_findForce_2 n) r0 y219 M217) else (gdd (kd y209 = 3) <| if (gI M y209 6) = 0 then (bvv (sI M y203 6 (0 : Int32)) fun M223 => bvv (x1 + (1 : Int32)) fun y225 => (f_X4_findForce_2 n) r0 y225 M223) else (bvv (sI M y203 6 (1 : Int32)) fun M227 => bvv (x1 + (1 : Int32)) fun y229 => (f_X4_findForce_2 n) r0 y229 M227))) else (bvv (sI M y203 6 (0 : Int32)) fun M212 => bvv (x1 + (1 : Int32)) fun y214 => (f_X4_findForce_2 n) r0 y214 M212)))
set_option maxRecDepth 100000 in
set_option maxHeartbeats 4000000 in
theorem t_X4_findForce_2 {w : Om} {f : Fr} {M2 : Mem} (C : Cx w f RX4 cX4_findForce 4 1) (hR : Rt w f cX4_findForce none none M2)   : ∀ (n : Nat) (r0 : Nat) (x1 : Int32) (M : Mem), f_X4_findForce_2 n r0 x1 M = some M2 → Go w f 2 [some (rv w r0), some (.int x1), none, none] [] M := by
  intro n
  induction n with
  | zero =>
    intro r0 x1 M h
    cases h
  | succ n ih =>
    intro r0 x1 M h
    rw [f_X4_findForce_2] at h
    refine g_iload_n C dX4_findForce_2 rfl rfl ?_
    refine g_aload_n C dX4_findForce_3 rfl rfl ?_
    obtain ⟨g201, h⟩ := of_gdd h
    refine gf_4_5 C fl_RX4_44 g201 dX4_findForce_4 ?_
    refine g_icmp_ge 62 C dX4_findForce_7 (by decide) (fun c202 => ?_) (fun c202 => ?_)
    · replace h := of_ift h c202
      cases h
      exact hR 62 _ rfl dX4_findForce_62
    · replace h := of_iff h c202
      refine g_aload_n C dX4_findForce_10 rfl rfl ?_
      refine g_iload_n C dX4_findForce_11 rfl rfl ?_
      obtain ⟨y203, e204, h⟩ := of_obb h
      refine g_callV (As := [.int x1]) C (ct_X4_rulingAt C.wf e204) g201 lk_RX4_55 mi_X4_rulingAt (by decide) cs_0 (by decide) dX4_findForce_12 rfl ?_
      show Go w f 15 [some (rv w r0), some (.int x1), none, none] [rv w y203] M
      refine g_astore_n C dX4_findForce_15 rfl (by decide) rfl (L2 := [some (rv w r0), some (.int x1), some (rv w y203), none]) rfl ?_
      refine g_aload_n C dX4_findForce_16 rfl rfl ?_
      refine g_ifnull 56 C dX4_findForce_17 (by decide) (fun c205 => ?_) (fun c205 => ?_)
      · replace h := of_ift h c205
        obtain ⟨y206, e207, h⟩ := of_bvv h
        refine g_iinc (v := y206) C dX4_findForce_56 rfl e207.symm (by decide) (rv_cat _ _) (L2 := [some (rv w r0), some (.int y206), some (rv w y203), none]) rfl ?_
        refine g_goto 2 C dX4_findForce_59 (by decide) ?_
        refine g_mask (bs := [true, true, false, false]) (L2 := [some (rv w r0), some (.int y206), none, none]) rfl ?_
        exact ih r0 y206 M h
      · replace h := of_iff h c205
        refine g_aload_n C dX4_findForce_20 rfl rfl ?_
        refine g_aload_n C dX4_findForce_21 rfl rfl ?_
        obtain ⟨g208, h⟩ := of_gdd h
        refine gf_2_4 C fl_RX4_110 g208 dX4_findForce_22 ?_
        obtain ⟨y209, e210, h⟩ := of_obb h
        refine g_callV (As := [.int (gI M y203 4)]) C (ct_X4_rulingAt C.wf e210) g201 lk_RX4_55 mi_X4_rulingAt (by decide) cs_0 (by decide) dX4_findForce_25 rfl ?_
        show Go w f 28 [some (rv w r0), some (.int x1), some (rv w y203), none] [rv w y209] M
        refine g_astore_n C dX4_findForce_28 rfl (by decide) (rv_cat _ _) (L2 := [some (rv w r0), some (.int x1), some (rv w y203), some (rv w y209)]) rfl ?_
        refine g_aload_n C dX4_findForce_29 rfl rfl ?_
        refine g_aload_n C dX4_findForce_30 rfl rfl ?_
        refine gf_2_5 C fl_RX4_113 g208 dX4_findForce_31 ?_
        refine g_if_ne 52 C dX4_findForce_34 (by decide) (fun c211 => ?_) (fun c211 => ?_)
        · replace h := of_iff h c211
          refine g_iconst (v := 0) C dX4_findForce_52 rfl ?_
          refine pf_2_6 C fl_RX4_119 g208 (isb_0) dX4_findForce_53 ?_
          obtain ⟨M212, e213, h⟩ := of_bvv h
          refine g_mem e213 ?_
          obtain ⟨y214, e215, h⟩ := of_bvv h
          refine g_iinc (v := y214) C dX4_findForce_56 rfl e215.symm (by decide) (rv_cat _ _) (L2 := [some (rv w r0), some (.int y214), some (rv w y203), some (rv w y209)]) rfl ?_
          refine g_goto 2 C dX4_findForce_59 (by decide) ?_
          refine g_mask (bs := [true, true, false, false]) (L2 := [some (rv w r0), some (.int y214), none, none]) rfl ?_
          exact ih r0 y214 M212 h
        · replace h := of_ift h c211
          refine g_aload_n C dX4_findForce_37 rfl rfl ?_
          refine g_ifnull 48 C dX4_findForce_38 (by decide) (fun c216 => ?_) (fun c216 => ?_)
          · replace h := of_ift h c216
            refine g_iconst (v := 1) C dX4_findForce_48 rfl ?_
            refine g_goto 53 C dX4_findForce_49 (by decide) ?_
            refine pf_2_6 C fl_RX4_119 g208 (isb_1) dX4_findForce_53 ?_
            obtain ⟨M217, e218, h⟩ := of_bvv h
            refine g_mem e218 ?_
            obtain ⟨y219, e220, h⟩ := of_bvv h
            refine g_iinc (v := y219) C dX4_findForce_56 rfl e220.symm (by decide) (rv_cat _ _) (L2 := [some (rv w r0), some (.int y219), some (rv w y203), some (rv w y209)]) rfl ?_
            refine g_goto 2 C dX4_findForce_59 (by decide) ?_
            refine g_mask (bs := [true, true, false, false]) (L2 := [some (rv w r0), some (.int y219), none, none]) rfl ?_
            exact ih r0 y219 M217 h
          · replace h := of_iff h c216
            refine g_aload_n C dX4_findForce_41 rfl rfl ?_
            obtain ⟨g221, h⟩ := of_gdd h
            refine gf_2_6 C fl_RX4_119 g221 dX4_findForce_42 ?_
            refine g_if_eq 52 C dX4_findForce_45 (by decide) (fun c222 => ?_) (fun c222 => ?_)
            · replace h := of_ift h c222
              refine g_iconst (v := 0) C dX4_findForce_52 rfl ?_
              refine pf_2_6 C fl_RX4_119 g208 (isb_0) dX4_findForce_53 ?_
              obtain ⟨M223, e224, h⟩ := of_bvv h
              refine g_mem e224 ?_
              obtain ⟨y225, e226, h⟩ := of_bvv h
              refine g_iinc (v := y225) C dX4_findForce_56 rfl e226.symm (by decide) (rv_cat _ _) (L2 := [some (rv w r0), some (.int y225), some (rv w y203), some (rv w y209)]) rfl ?_
              refine g_goto 2 C dX4_findForce_59 (by decide) ?_
              refine g_mask (bs := [true, true, false, false]) (L2 := [some (rv w r0), some (.int y225), none, none]) rfl ?_
              exact ih r0 y225 M223 h
            · replace h := of_iff h c222
              refine g_iconst (v := 1) C dX4_findForce_48 rfl ?_
              refine g_goto 53 C dX4_findForce_49 (by decide) ?_
              refine pf_2_6 C fl_RX4_119 g208 (isb_1) dX4_findForce_53 ?_
              obtain ⟨M227, e228, h⟩ := of_bvv h
              refine g_mem e228 ?_
              obtain ⟨y229, e230, h⟩ := of_bvv h
              refine g_iinc (v := y229) C dX4_findForce_56 rfl e230.symm (by decide) (rv_cat _ _) (L2 := [some (rv w r0), some (.int y229), some (rv w y203), some (rv w y209)]) rfl ?_
              refine g_goto 2 C dX4_findForce_59 (by decide) ?_
              refine g_mask (bs := [true, true, false, false]) (L2 := [some (rv w r0), some (.int y229), none, none]) rfl ?_
              exact ih r0 y229 M227 h
def f_X4_findForce (r0 : Nat) (M : Mem) : Option Mem := f_X4_findForce_2 FU r0 (0 : Int32) M
set_option maxRecDepth 100000 in
set_option maxHeartbeats 4000000 in
theorem ct_X4_findForce {l : Launch} {w : Om} (hw : Wf w) {r0 : Nat} {M : Mem} {M2 : Mem} (h : f_X4_findForce r0 M = some M2) : Ct l w yX4_findForce cX4_findForce 4 none 1 [rv w r0] M none M2 := by
  refine ct_of hw (by decide) (cat_s (rv_cat _ _) cat_0) (Nat.le_of_ble_eq_true rfl) (fun f _ C hR => ?_)
  show Go w f 0 [some (rv w r0), none, none, none] [] M
  unfold f_X4_findForce at h
  refine g_iconst (v := 0) C dX4_findForce_0 rfl ?_
  refine g_istore_n C dX4_findForce_1 rfl (by decide) (rv_cat _ _) (L2 := [some (rv w r0), some (.int (0 : Int32)), none, none]) rfl ?_
  exact t_X4_findForce_2 C hR _ r0 (0 : Int32) M h
def f_X4_addRuling (r0 : Nat) (x1 : Int32) (x2 : Int32) (x3 : Int32) (x4 : Int32) (x5 : Int32) (M : Mem) : Option Mem := gdd (kd r0 = 5) <| bvv (sI M r0 5 ((gI M r0 5) + (1 : Int32))) fun M2 => obb (f_X4_rulingAt r0 ((gI M2 r0 5) - (1 : Int32)) M2) fun y4 => if y4 = 0 then (obb (f_X4_findForce r0 M2) fun M7 => some M7) else (gdd (kd y4 = 3) <| bvv (sI M2 y4 0 x1) fun M10 => bvv (sI M10 y4 1 x2) fun M12 => gdd (isb x3 = true) <| bvv (sI M12 y4 2 x3) fun M15 => bvv (sI M15 y4 3 x4) fun M17 => bvv (sI M17 y4 4 x5) fun M19 => bvv (sI M19 y4 5 (0 : Int32)) fun M21 => obb (f_X4_findForce r0 M21) fun M23 => some M23)
set_option maxRecDepth 100000 in
set_option maxHeartbeats 4000000 in
theorem ct_X4_addRuling {l : Launch} {w : Om} (hw : Wf w) {r0 : Nat} {x1 : Int32} {x2 : Int32} {x3 : Int32} {x4 : Int32} {x5 : Int32} {M : Mem} {M2 : Mem} (h : f_X4_addRuling r0 x1 x2 x3 x4 x5 M = some M2) : Ct l w yX4_addRuling cX4_addRuling 7 none 2 [rv w r0, .int x1, .int x2, .int x3, .int x4, .int x5] M none M2 := by
  refine ct_of hw (by decide) (cat_s (rv_cat _ _) (cat_s rfl (cat_s rfl (cat_s rfl (cat_s rfl (cat_s rfl cat_0)))))) (Nat.le_of_ble_eq_true rfl) (fun f _ C hR => ?_)
  show Go w f 0 [some (rv w r0), some (.int x1), some (.int x2), some (.int x3), some (.int x4), some (.int x5), none] [] M
  unfold f_X4_addRuling at h
  refine g_aload_n C dX4_addRuling_0 rfl rfl ?_
  refine g_dup C (rv_cat _ _) dX4_addRuling_1 ?_
  obtain ⟨g1, h⟩ := of_gdd h
  refine gf_4_5 C fl_RX4_44 g1 dX4_addRuling_2 ?_
  refine g_iconst (v := 1) C dX4_addRuling_5 rfl ?_
  refine g_iadd C dX4_addRuling_6 ?_
  refine pf_4_5 C fl_RX4_44 g1 dX4_addRuling_7 ?_
  obtain ⟨M2, e3, h⟩ := of_bvv h
  refine g_mem e3 ?_
  refine g_aload_n C dX4_addRuling_10 rfl rfl ?_
  refine g_aload_n C dX4_addRuling_11 rfl rfl ?_
  refine gf_4_5 C fl_RX4_44 g1 dX4_addRuling_12 ?_
  refine g_iconst (v := 1) C dX4_addRuling_15 rfl ?_
  refine g_isub C dX4_addRuling_16 ?_
  obtain ⟨y4, e5, h⟩ := of_obb h
  refine g_callV (As := [.int ((gI M2 r0 5) - (1 : Int32))]) C (ct_X4_rulingAt C.wf e5) g1 lk_RX4_55 mi_X4_rulingAt (by decide) cs_0 (by decide) dX4_addRuling_17 rfl ?_
  show Go w f 20 [some (rv w r0), some (.int x1), some (.int x2), some (.int x3), some (.int x4), some (.int x5), none] [rv w y4] M2
  refine g_astore C dX4_addRuling_20 (by decide) rfl (L2 := [some (rv w r0), some (.int x1), some (.int x2), some (.int x3), some (.int x4), some (.int x5), some (rv w y4)]) rfl ?_
  refine g_aload C dX4_addRuling_22 rfl ?_
  refine g_ifnull 65 C dX4_addRuling_24 (by decide) (fun c6 => ?_) (fun c6 => ?_)
  · replace h := of_ift h c6
    refine g_aload_n C dX4_addRuling_65 rfl rfl ?_
    obtain ⟨M7, e8, h⟩ := of_obb h
    refine g_callV (As := []) C (ct_X4_findForce C.wf e8) g1 lk_RX4_116 mi_X4_findForce (by decide) cs_0 (by decide) dX4_addRuling_66 rfl ?_
    show Go w f 69 [some (rv w r0), some (.int x1), some (.int x2), some (.int x3), some (.int x4), some (.int x5), some (rv w y4)] [] M7
    cases h
    exact hR 69 _ rfl dX4_addRuling_69
  · replace h := of_iff h c6
    refine g_aload C dX4_addRuling_27 rfl ?_
    refine g_iload_n C dX4_addRuling_29 rfl rfl ?_
    obtain ⟨g9, h⟩ := of_gdd h
    refine pf_2_0 C fl_RX4_97 g9 dX4_addRuling_30 ?_
    obtain ⟨M10, e11, h⟩ := of_bvv h
    refine g_mem e11 ?_
    refine g_aload C dX4_addRuling_33 rfl ?_
    refine g_iload_n C dX4_addRuling_35 rfl rfl ?_
    refine pf_2_1 C fl_RX4_100 g9 dX4_addRuling_36 ?_
    obtain ⟨M12, e13, h⟩ := of_bvv h
    refine g_mem e13 ?_
    refine g_aload C dX4_addRuling_39 rfl ?_
    refine g_iload_n C dX4_addRuling_41 rfl rfl ?_
    obtain ⟨g14, h⟩ := of_gdd h
    refine pf_2_2 C fl_RX4_103 g9 g14 dX4_addRuling_42 ?_
    obtain ⟨M15, e16, h⟩ := of_bvv h
    refine g_mem e16 ?_
    refine g_aload C dX4_addRuling_45 rfl ?_
    refine g_iload C dX4_addRuling_47 rfl ?_
    refine pf_2_3 C fl_RX4_107 g9 dX4_addRuling_49 ?_
    obtain ⟨M17, e18, h⟩ := of_bvv h
    refine g_mem e18 ?_
    refine g_aload C dX4_addRuling_52 rfl ?_
    refine g_iload C dX4_addRuling_54 rfl ?_
    refine pf_2_4 C fl_RX4_110 g9 dX4_addRuling_56 ?_
    obtain ⟨M19, e20, h⟩ := of_bvv h
    refine g_mem e20 ?_
    refine g_aload C dX4_addRuling_59 rfl ?_
    refine g_iconst (v := 0) C dX4_addRuling_61 rfl ?_
    refine pf_2_5 C fl_RX4_113 g9 (isb_0) dX4_addRuling_62 ?_
    obtain ⟨M21, e22, h⟩ := of_bvv h
    refine g_mem e22 ?_
    refine g_aload_n C dX4_addRuling_65 rfl rfl ?_
    obtain ⟨M23, e24, h⟩ := of_obb h
    refine g_callV (As := []) C (ct_X4_findForce C.wf e24) g1 lk_RX4_116 mi_X4_findForce (by decide) cs_0 (by decide) dX4_addRuling_66 rfl ?_
    show Go w f 69 [some (rv w r0), some (.int x1), some (.int x2), some (.int x3), some (.int x4), some (.int x5), some (rv w y4)] [] M23
    cases h
    exact hR 69 _ rfl dX4_addRuling_69
def f_X5_rule (r0 : Nat) (x1 : Int32) (x2 : Int32) (x3 : Int32) (x4 : Int32) (x5 : Int32) (M : Mem) : Option (Int32 × Mem) := if (f_X5_isAboutKinds x1 x2 x4) = 0 then (some ((-1 : Int32), M)) else (gdd (kd r0 = 6) <| gdd (kd (fld r0 0) = 5) <| if (f_X5_isWithin x5 (-1 : Int32) ((gI M (fld r0 0) 5) - (1 : Int32))) = 0 then (some ((-1 : Int32), M)) else (if (gI M (fld r0 0) 5) < (10 : Int32) then (obb (f_X5_keepState r0 M) fun M6 => obb (f_X4_addRuling (fld r0 0) x1 x2 x3 x4 x5 M6) fun M8 => some ((gI M8 (fld r0 0) 5) - (1 : Int32), M8)) else (some ((-3 : Int32), M))))
set_option maxRecDepth 100000 in
set_option maxHeartbeats 4000000 in
theorem ct_X5_rule {l : Launch} {w : Om} (hw : Wf w) {r0 : Nat} {x1 : Int32} {x2 : Int32} {x3 : Int32} {x4 : Int32} {x5 : Int32} {M : Mem} {r : Int32} {M2 : Mem} (h : f_X5_rule r0 x1 x2 x3 x4 x5 M = some (r, M2)) : Ct l w yX5_rule cX5_rule 6 (some .int) 5 [rv w r0, .int x1, .int x2, .int x3, .int x4, .int x5] M (some (.int r)) M2 := by
  refine ct_of hw (by decide) (cat_s (rv_cat _ _) (cat_s rfl (cat_s rfl (cat_s rfl (cat_s rfl (cat_s rfl cat_0)))))) (Nat.le_of_ble_eq_true rfl) (fun f _ C hR => ?_)
  show Go w f 0 [some (rv w r0), some (.int x1), some (.int x2), some (.int x3), some (.int x4), some (.int x5)] [] M
  unfold f_X5_rule at h
  refine g_iload_n C dX5_rule_0 rfl rfl ?_
  refine g_iload_n C dX5_rule_1 rfl rfl ?_
  refine g_iload C dX5_rule_2 rfl ?_
  refine g_callS (As := [.int x1, .int x2, .int x4]) C (ct_X5_isAboutKinds C.wf rfl) lk_RX5_70 mi_X5_isAboutKinds (by decide) cs_0 (by decide) dX5_rule_4 rfl ?_
  show Go w f 7 [some (rv w r0), some (.int x1), some (.int x2), some (.int x3), some (.int x4), some (.int x5)] [.int (f_X5_isAboutKinds x1 x2 x4)] M
  refine g_if_eq 28 C dX5_rule_7 (by decide) (fun c1 => ?_) (fun c1 => ?_)
  · replace h := of_ift h c1
    refine g_iconst (v := -1) C dX5_rule_28 rfl ?_
    cases h
    exact hR 29 _ ⟨.int, rfl, rfl⟩ dX5_rule_29
  · replace h := of_iff h c1
    refine g_iload C dX5_rule_10 rfl ?_
    refine g_iconst (v := -1) C dX5_rule_12 rfl ?_
    refine g_aload_n C dX5_rule_13 rfl rfl ?_
    obtain ⟨g2, h⟩ := of_gdd h
    refine gf_5_0 C fl_RX5_10 g2 dX5_rule_14 ?_
    obtain ⟨g3, h⟩ := of_gdd h
    refine gf_4_5 C fl_RX5_73 g3 dX5_rule_17 ?_
    refine g_iconst (v := 1) C dX5_rule_20 rfl ?_
    refine g_isub C dX5_rule_21 ?_
    refine g_callS (As := [.int x5, .int (-1 : Int32), .int ((gI M (fld r0 0) 5) - (1 : Int32))]) C (ct_X5_isWithin C.wf rfl) lk_RX5_48 mi_X5_isWithin (by decide) cs_0 (by decide) dX5_rule_22 rfl ?_
    show Go w f 25 [some (rv w r0), some (.int x1), some (.int x2), some (.int x3), some (.int x4), some (.int x5)] [.int (f_X5_isWithin x5 (-1 : Int32) ((gI M (fld r0 0) 5) - (1 : Int32)))] M
    refine g_if_ne 30 C dX5_rule_25 (by decide) (fun c4 => ?_) (fun c4 => ?_)
    · replace h := of_iff h c4
      refine g_aload_n C dX5_rule_30 rfl rfl ?_
      refine gf_5_0 C fl_RX5_10 g2 dX5_rule_31 ?_
      refine gf_4_5 C fl_RX5_73 g3 dX5_rule_34 ?_
      refine g_bipush (v := 10) C dX5_rule_37 rfl ?_
      refine g_icmp_lt 45 C dX5_rule_39 (by decide) (fun c5 => ?_) (fun c5 => ?_)
      · replace h := of_ift h c5
        refine g_aload_n C dX5_rule_45 rfl rfl ?_
        obtain ⟨M6, e7, h⟩ := of_obb h
        refine g_callV (As := []) C (ct_X5_keepState C.wf e7) g2 lk_RX5_52 mi_X5_keepState (by decide) cs_0 (by decide) dX5_rule_46 rfl ?_
        show Go w f 49 [some (rv w r0), some (.int x1), some (.int x2), some (.int x3), some (.int x4), some (.int x5)] [] M6
        refine g_aload_n C dX5_rule_49 rfl rfl ?_
        refine gf_5_0 C fl_RX5_10 g2 dX5_rule_50 ?_
        refine g_iload_n C dX5_rule_53 rfl rfl ?_
        refine g_iload_n C dX5_rule_54 rfl rfl ?_
        refine g_iload_n C dX5_rule_55 rfl rfl ?_
        refine g_iload C dX5_rule_56 rfl ?_
        refine g_iload C dX5_rule_58 rfl ?_
        obtain ⟨M8, e9, h⟩ := of_obb h
        refine g_callV (As := [.int x1, .int x2, .int x3, .int x4, .int x5]) C (ct_X4_addRuling C.wf e9) g3 lk_RX5_77 mi_X4_addRuling (by decide) cs_0 (by decide) dX5_rule_60 rfl ?_
        show Go w f 63 [some (rv w r0), some (.int x1), some (.int x2), some (.int x3), some (.int x4), some (.int x5)] [] M8
        refine g_aload_n C dX5_rule_63 rfl rfl ?_
        refine gf_5_0 C fl_RX5_10 g2 dX5_rule_64 ?_
        refine gf_4_5 C fl_RX5_73 g3 dX5_rule_67 ?_
        refine g_iconst (v := 1) C dX5_rule_70 rfl ?_
        refine g_isub C dX5_rule_71 ?_
        cases h
        exact hR 72 _ ⟨.int, rfl, rfl⟩ dX5_rule_72
      · replace h := of_iff h c5
        refine g_bipush (v := -3) C dX5_rule_42 rfl ?_
        cases h
        exact hR 44 _ ⟨.int, rfl, rfl⟩ dX5_rule_44
    · replace h := of_ift h c4
      refine g_iconst (v := -1) C dX5_rule_28 rfl ?_
      cases h
      exact hR 29 _ ⟨.int, rfl, rfl⟩ dX5_rule_29
def f_X5_overrule (r0 : Nat) (x1 : Int32) (M : Mem) : Option (Int32 × Mem) := gdd (kd r0 = 6) <| gdd (kd (fld r0 0) = 5) <| obb (f_X4_rulingAt (fld r0 0) x1 M) fun y3 => if y3 = 0 then (some ((-1 : Int32), M)) else (gdd (kd y3 = 3) <| if (gI M y3 5) = 0 then (obb (f_X5_keepState r0 M) fun M8 => obb (f_X4_rulingsInForce (fld r0 0) M8) fun y10 => bvv (sI M8 y3 5 (1 : Int32)) fun M12 => obb (f_X4_findForce (fld r0 0) M12) fun M14 => obb (f_X4_rulingsInForce (fld r0 0) M14) fun y16 => some (y10 - y16, M14)) else (some ((-2 : Int32), M)))
set_option maxRecDepth 100000 in
set_option maxHeartbeats 4000000 in
theorem ct_X5_overrule {l : Launch} {w : Om} (hw : Wf w) {r0 : Nat} {x1 : Int32} {M : Mem} {r : Int32} {M2 : Mem} (h : f_X5_overrule r0 x1 M = some (r, M2)) : Ct l w yX5_overrule cX5_overrule 4 (some .int) 5 [rv w r0, .int x1] M (some (.int r)) M2 := by
  refine ct_of hw (by decide) (cat_s (rv_cat _ _) (cat_s rfl cat_0)) (Nat.le_of_ble_eq_true rfl) (fun f _ C hR => ?_)
  show Go w f 0 [some (rv w r0), some (.int x1), none, none] [] M
  unfold f_X5_overrule at h
  refine g_aload_n C dX5_overrule_0 rfl rfl ?_
  obtain ⟨g1, h⟩ := of_gdd h
  refine gf_5_0 C fl_RX5_10 g1 dX5_overrule_1 ?_
  refine g_iload_n C dX5_overrule_4 rfl rfl ?_
  obtain ⟨g2, h⟩ := of_gdd h
  obtain ⟨y3, e4, h⟩ := of_obb h
  refine g_callV (As := [.int x1]) C (ct_X4_rulingAt C.wf e4) g2 lk_RX5_81 mi_X4_rulingAt (by decide) cs_0 (by decide) dX5_overrule_5 rfl ?_
  show Go w f 8 [some (rv w r0), some (.int x1), none, none] [rv w y3] M
  refine g_astore_n C dX5_overrule_8 rfl (by decide) rfl (L2 := [some (rv w r0), some (.int x1), some (rv w y3), none]) rfl ?_
  refine g_aload_n C dX5_overrule_9 rfl rfl ?_
  refine g_ifnonnull 15 C dX5_overrule_10 (by decide) (fun c5 => ?_) (fun c5 => ?_)
  · replace h := of_iff h c5
    refine g_aload_n C dX5_overrule_15 rfl rfl ?_
    obtain ⟨g6, h⟩ := of_gdd h
    refine gf_2_5 C fl_RX5_85 g6 dX5_overrule_16 ?_
    refine g_if_eq 25 C dX5_overrule_19 (by decide) (fun c7 => ?_) (fun c7 => ?_)
    · replace h := of_ift h c7
      refine g_aload_n C dX5_overrule_25 rfl rfl ?_
      obtain ⟨M8, e9, h⟩ := of_obb h
      refine g_callV (As := []) C (ct_X5_keepState C.wf e9) g1 lk_RX5_52 mi_X5_keepState (by decide) cs_0 (by decide) dX5_overrule_26 rfl ?_
      show Go w f 29 [some (rv w r0), some (.int x1), some (rv w y3), none] [] M8
      refine g_aload_n C dX5_overrule_29 rfl rfl ?_
      refine gf_5_0 C fl_RX5_10 g1 dX5_overrule_30 ?_
      obtain ⟨y10, e11, h⟩ := of_obb h
      refine g_callV (As := []) C (ct_X4_rulingsInForce C.wf e11) g2 lk_RX5_91 mi_X4_rulingsInForce (by decide) cs_0 (by decide) dX5_overrule_33 rfl ?_
      show Go w f 36 [some (rv w r0), some (.int x1), some (rv w y3), none] [.int y10] M8
      refine g_istore_n C dX5_overrule_36 rfl (by decide) (rv_cat _ _) (L2 := [some (rv w r0), some (.int x1), some (rv w y3), some (.int y10)]) rfl ?_
      refine g_aload_n C dX5_overrule_37 rfl rfl ?_
      refine g_iconst (v := 1) C dX5_overrule_38 rfl ?_
      refine pf_2_5 C fl_RX5_85 g6 (isb_1) dX5_overrule_39 ?_
      obtain ⟨M12, e13, h⟩ := of_bvv h
      refine g_mem e13 ?_
      refine g_aload_n C dX5_overrule_42 rfl rfl ?_
      refine gf_5_0 C fl_RX5_10 g1 dX5_overrule_43 ?_
      obtain ⟨M14, e15, h⟩ := of_obb h
      refine g_callV (As := []) C (ct_X4_findForce C.wf e15) g2 lk_RX5_95 mi_X4_findForce (by decide) cs_0 (by decide) dX5_overrule_46 rfl ?_
      show Go w f 49 [some (rv w r0), some (.int x1), some (rv w y3), some (.int y10)] [] M14
      refine g_iload_n C dX5_overrule_49 rfl rfl ?_
      refine g_aload_n C dX5_overrule_50 rfl rfl ?_
      refine gf_5_0 C fl_RX5_10 g1 dX5_overrule_51 ?_
      obtain ⟨y16, e17, h⟩ := of_obb h
      refine g_callV (As := []) C (ct_X4_rulingsInForce C.wf e17) g2 lk_RX5_91 mi_X4_rulingsInForce (by decide) (cs_i cs_0) (by decide) dX5_overrule_54 rfl ?_
      show Go w f 57 [some (rv w r0), some (.int x1), some (rv w y3), some (.int y10)] [.int y16, .int y10] M14
      refine g_isub C dX5_overrule_57 ?_
      cases h
      exact hR 58 _ ⟨.int, rfl, rfl⟩ dX5_overrule_58
    · replace h := of_iff h c7
      refine g_bipush (v := -2) C dX5_overrule_22 rfl ?_
      cases h
      exact hR 24 _ ⟨.int, rfl, rfl⟩ dX5_overrule_24
  · replace h := of_ift h c5
    refine g_iconst (v := -1) C dX5_overrule_13 rfl ?_
    cases h
    exact hR 14 _ ⟨.int, rfl, rfl⟩ dX5_overrule_14
def f_X5_decide (r0 : Nat) (r1 : Nat) (x2 : Int32) (M : Mem) : Option (Int32 × Mem) := gdd (kd r0 = 6) <| gdd (kd (fld r0 5) = 4) <| obb (f_X3_read (fld r0 5) (fld r0 0) r1 M) fun M3 => obb (f_X5_reasonAgainst r0 r1 x2 M3) fun y5 => if y5 = 0 then (gdd (kd r1 = 1) <| obb (f_X0_movedCommas r1 x2 M3) fun y9 => obb (f_X3_cost (fld r0 5) (gI M3 r1 2) M3) fun y11 => obb (f_X3_cost (fld r0 5) y9 M3) fun y13 => bvv (y11 - y13) fun y15 => bvv (sI M3 r1 2 y9) fun M17 => bvv (sI M17 r1 4 ((gI M17 r1 4) + (1 : Int32))) fun M19 => gdd (kd (fld r0 0) = 5) <| bvv (sI M19 (fld r0 0) 7 ((gI M19 (fld r0 0) 7) + (1 : Int32))) fun M22 => some ((10 : Int32) + y15, M22)) else (gdd (kd (fld r0 0) = 5) <| bvv (sI M3 (fld r0 0) 8 ((gI M3 (fld r0 0) 8) + (1 : Int32))) fun M25 => some (y5, M25))
set_option maxRecDepth 100000 in
set_option maxHeartbeats 4000000 in
theorem ct_X5_decide {l : Launch} {w : Om} (hw : Wf w) {r0 : Nat} {r1 : Nat} {x2 : Int32} {M : Mem} {r : Int32} {M2 : Mem} (h : f_X5_decide r0 r1 x2 M = some (r, M2)) : Ct l w yX5_decide cX5_decide 6 (some .int) 5 [rv w r0, rv w r1, .int x2] M (some (.int r)) M2 := by
  refine ct_of hw (by decide) (cat_s (rv_cat _ _) (cat_s (rv_cat _ _) (cat_s rfl cat_0))) (Nat.le_of_ble_eq_true rfl) (fun f _ C hR => ?_)
  show Go w f 0 [some (rv w r0), some (rv w r1), some (.int x2), none, none, none] [] M
  unfold f_X5_decide at h
  refine g_aload_n C dX5_decide_0 rfl rfl ?_
  obtain ⟨g1, h⟩ := of_gdd h
  refine gf_5_5 C fl_RX5_40 g1 dX5_decide_1 ?_
  refine g_aload_n C dX5_decide_4 rfl rfl ?_
  refine gf_5_0 C fl_RX5_10 g1 dX5_decide_5 ?_
  refine g_aload_n C dX5_decide_8 rfl rfl ?_
  obtain ⟨g2, h⟩ := of_gdd h
  obtain ⟨M3, e4, h⟩ := of_obb h
  refine g_callV (As := [rv w (fld r0 0), rv w r1]) C (ct_X3_read C.wf e4) g2 lk_RX5_170 mi_X3_read (by decide) cs_0 (by decide) dX5_decide_9 rfl ?_
  show Go w f 12 [some (rv w r0), some (rv w r1), some (.int x2), none, none, none] [] M3
  refine g_aload_n C dX5_decide_12 rfl rfl ?_
  refine g_aload_n C dX5_decide_13 rfl rfl ?_
  refine g_iload_n C dX5_decide_14 rfl rfl ?_
  obtain ⟨y5, e6, h⟩ := of_obb h
  refine g_callV (As := [rv w r1, .int x2]) C (ct_X5_reasonAgainst C.wf e6) g1 lk_RX5_238 mi_X5_reasonAgainst (by decide) cs_0 (by decide) dX5_decide_15 rfl ?_
  show Go w f 18 [some (rv w r0), some (rv w r1), some (.int x2), none, none, none] [.int y5] M3
  refine g_istore_n C dX5_decide_18 rfl (by decide) rfl (L2 := [some (rv w r0), some (rv w r1), some (.int x2), some (.int y5), none, none]) rfl ?_
  refine g_iload_n C dX5_decide_19 rfl rfl ?_
  refine g_if_eq 38 C dX5_decide_20 (by decide) (fun c7 => ?_) (fun c7 => ?_)
  · replace h := of_ift h c7
    refine g_aload_n C dX5_decide_38 rfl rfl ?_
    refine g_iload_n C dX5_decide_39 rfl rfl ?_
    obtain ⟨g8, h⟩ := of_gdd h
    obtain ⟨y9, e10, h⟩ := of_obb h
    refine g_callV (As := [.int x2]) C (ct_X0_movedCommas C.wf e10) g8 lk_RX5_208 mi_X0_movedCommas (by decide) cs_0 (by decide) dX5_decide_40 rfl ?_
    show Go w f 43 [some (rv w r0), some (rv w r1), some (.int x2), some (.int y5), none, none] [.int y9] M3
    refine g_istore C dX5_decide_43 (by decide) rfl (L2 := [some (rv w r0), some (rv w r1), some (.int x2), some (.int y5), some (.int y9), none]) rfl ?_
    refine g_aload_n C dX5_decide_45 rfl rfl ?_
    refine gf_5_5 C fl_RX5_40 g1 dX5_decide_46 ?_
    refine g_aload_n C dX5_decide_49 rfl rfl ?_
    refine gf_0_2 C fl_RX5_105 g8 dX5_decide_50 ?_
    obtain ⟨y11, e12, h⟩ := of_obb h
    refine g_callV (As := [.int (gI M3 r1 2)]) C (ct_X3_cost C.wf e12) g2 lk_RX5_189 mi_X3_cost (by decide) cs_0 (by decide) dX5_decide_53 rfl ?_
    show Go w f 56 [some (rv w r0), some (rv w r1), some (.int x2), some (.int y5), some (.int y9), none] [.int y11] M3
    refine g_aload_n C dX5_decide_56 rfl rfl ?_
    refine gf_5_5 C fl_RX5_40 g1 dX5_decide_57 ?_
    refine g_iload C dX5_decide_60 rfl ?_
    obtain ⟨y13, e14, h⟩ := of_obb h
    refine g_callV (As := [.int y9]) C (ct_X3_cost C.wf e14) g2 lk_RX5_189 mi_X3_cost (by decide) (cs_i cs_0) (by decide) dX5_decide_62 rfl ?_
    show Go w f 65 [some (rv w r0), some (rv w r1), some (.int x2), some (.int y5), some (.int y9), none] [.int y13, .int y11] M3
    refine g_isub C dX5_decide_65 ?_
    obtain ⟨y15, e16, h⟩ := of_bvv h
    refine g_topi e16 ?_
    refine g_istore C dX5_decide_66 (by decide) rfl (L2 := [some (rv w r0), some (rv w r1), some (.int x2), some (.int y5), some (.int y9), some (.int y15)]) rfl ?_
    refine g_aload_n C dX5_decide_68 rfl rfl ?_
    refine g_iload C dX5_decide_69 rfl ?_
    refine pf_0_2 C fl_RX5_105 g8 dX5_decide_71 ?_
    obtain ⟨M17, e18, h⟩ := of_bvv h
    refine g_mem e18 ?_
    refine g_aload_n C dX5_decide_74 rfl rfl ?_
    refine g_dup C (rv_cat _ _) dX5_decide_75 ?_
    refine gf_0_4 C fl_RX5_196 g8 dX5_decide_76 ?_
    refine g_iconst (v := 1) C dX5_decide_79 rfl ?_
    refine g_iadd C dX5_decide_80 ?_
    refine pf_0_4 C fl_RX5_196 g8 dX5_decide_81 ?_
    obtain ⟨M19, e20, h⟩ := of_bvv h
    refine g_mem e20 ?_
    refine g_aload_n C dX5_decide_84 rfl rfl ?_
    refine gf_5_0 C fl_RX5_10 g1 dX5_decide_85 ?_
    refine g_dup C (rv_cat _ _) dX5_decide_88 ?_
    obtain ⟨g21, h⟩ := of_gdd h
    refine gf_4_7 C fl_RX5_264 g21 dX5_decide_89 ?_
    refine g_iconst (v := 1) C dX5_decide_92 rfl ?_
    refine g_iadd C dX5_decide_93 ?_
    refine pf_4_7 C fl_RX5_264 g21 dX5_decide_94 ?_
    obtain ⟨M22, e23, h⟩ := of_bvv h
    refine g_mem e23 ?_
    refine g_bipush (v := 10) C dX5_decide_97 rfl ?_
    refine g_iload C dX5_decide_99 rfl ?_
    refine g_iadd C dX5_decide_101 ?_
    cases h
    exact hR 102 _ ⟨.int, rfl, rfl⟩ dX5_decide_102
  · replace h := of_iff h c7
    refine g_aload_n C dX5_decide_23 rfl rfl ?_
    refine gf_5_0 C fl_RX5_10 g1 dX5_decide_24 ?_
    refine g_dup C (rv_cat _ _) dX5_decide_27 ?_
    obtain ⟨g24, h⟩ := of_gdd h
    refine gf_4_8 C fl_RX5_265 g24 dX5_decide_28 ?_
    refine g_iconst (v := 1) C dX5_decide_31 rfl ?_
    refine g_iadd C dX5_decide_32 ?_
    refine pf_4_8 C fl_RX5_265 g24 dX5_decide_33 ?_
    obtain ⟨M25, e26, h⟩ := of_bvv h
    refine g_mem e26 ?_
    refine g_iload_n C dX5_decide_36 rfl rfl ?_
    cases h
    exact hR 37 _ ⟨.int, rfl, rfl⟩ dX5_decide_37
def f_X5_sue (r0 : Nat) (x1 : Int32) (x2 : Int32) (M : Mem) : Option (Int32 × Mem) := gdd (kd r0 = 6) <| gdd (kd (fld r0 0) = 5) <| obb (f_X4_editionAt (fld r0 0) x1 M) fun y3 => if y3 = 0 then (some ((-1 : Int32), M)) else (gdd (kd y3 = 1) <| obb (f_X0_hasGap y3 x2 M) fun y7 => if y7 = 0 then (some ((-1 : Int32), M)) else (obb (f_X5_keepState r0 M) fun M10 => opp (f_X5_decide r0 y3 x2 M10) fun y14 M12 => some (y14, M12)))
set_option maxRecDepth 100000 in
set_option maxHeartbeats 4000000 in
theorem ct_X5_sue {l : Launch} {w : Om} (hw : Wf w) {r0 : Nat} {x1 : Int32} {x2 : Int32} {M : Mem} {r : Int32} {M2 : Mem} (h : f_X5_sue r0 x1 x2 M = some (r, M2)) : Ct l w yX5_sue cX5_sue 4 (some .int) 6 [rv w r0, .int x1, .int x2] M (some (.int r)) M2 := by
  refine ct_of hw (by decide) (cat_s (rv_cat _ _) (cat_s rfl (cat_s rfl cat_0))) (Nat.le_of_ble_eq_true rfl) (fun f _ C hR => ?_)
  show Go w f 0 [some (rv w r0), some (.int x1), some (.int x2), none] [] M
  unfold f_X5_sue at h
  refine g_aload_n C dX5_sue_0 rfl rfl ?_
  obtain ⟨g1, h⟩ := of_gdd h
  refine gf_5_0 C fl_RX5_10 g1 dX5_sue_1 ?_
  refine g_iload_n C dX5_sue_4 rfl rfl ?_
  obtain ⟨g2, h⟩ := of_gdd h
  obtain ⟨y3, e4, h⟩ := of_obb h
  refine g_callV (As := [.int x1]) C (ct_X4_editionAt C.wf e4) g2 lk_RX5_121 mi_X4_editionAt (by decide) cs_0 (by decide) dX5_sue_5 rfl ?_
  show Go w f 8 [some (rv w r0), some (.int x1), some (.int x2), none] [rv w y3] M
  refine g_astore_n C dX5_sue_8 rfl (by decide) rfl (L2 := [some (rv w r0), some (.int x1), some (.int x2), some (rv w y3)]) rfl ?_
  refine g_aload_n C dX5_sue_9 rfl rfl ?_
  refine g_ifnull 21 C dX5_sue_10 (by decide) (fun c5 => ?_) (fun c5 => ?_)
  · replace h := of_ift h c5
    refine g_iconst (v := -1) C dX5_sue_21 rfl ?_
    cases h
    exact hR 22 _ ⟨.int, rfl, rfl⟩ dX5_sue_22
  · replace h := of_iff h c5
    refine g_aload_n C dX5_sue_13 rfl rfl ?_
    refine g_iload_n C dX5_sue_14 rfl rfl ?_
    obtain ⟨g6, h⟩ := of_gdd h
    obtain ⟨y7, e8, h⟩ := of_obb h
    refine g_callV (As := [.int x2]) C (ct_X0_hasGap C.wf e8) g6 lk_RX5_129 mi_X0_hasGap (by decide) cs_0 (by decide) dX5_sue_15 rfl ?_
    show Go w f 18 [some (rv w r0), some (.int x1), some (.int x2), some (rv w y3)] [.int y7] M
    refine g_if_ne 23 C dX5_sue_18 (by decide) (fun c9 => ?_) (fun c9 => ?_)
    · replace h := of_iff h c9
      refine g_aload_n C dX5_sue_23 rfl rfl ?_
      obtain ⟨M10, e11, h⟩ := of_obb h
      refine g_callV (As := []) C (ct_X5_keepState C.wf e11) g1 lk_RX5_52 mi_X5_keepState (by decide) cs_0 (by decide) dX5_sue_24 rfl ?_
      show Go w f 27 [some (rv w r0), some (.int x1), some (.int x2), some (rv w y3)] [] M10
      refine g_aload_n C dX5_sue_27 rfl rfl ?_
      refine g_aload_n C dX5_sue_28 rfl rfl ?_
      refine g_iload_n C dX5_sue_29 rfl rfl ?_
      obtain ⟨y14, M12, e13, h⟩ := of_opp h
      refine g_callV (As := [rv w y3, .int x2]) C (ct_X5_decide C.wf e13) g1 lk_RX5_132 mi_X5_decide (by decide) cs_0 (by decide) dX5_sue_30 rfl ?_
      show Go w f 33 [some (rv w r0), some (.int x1), some (.int x2), some (rv w y3)] [.int y14] M12
      cases h
      exact hR 33 _ ⟨.int, rfl, rfl⟩ dX5_sue_33
    · replace h := of_ift h c9
      refine g_iconst (v := -1) C dX5_sue_21 rfl ?_
      cases h
      exact hR 22 _ ⟨.int, rfl, rfl⟩ dX5_sue_22
def f_X5_stay (r0 : Nat) (x1 : Int32) (x2 : Int32) (M : Mem) : Option (Int32 × Mem) := gdd (kd r0 = 6) <| gdd (kd (fld r0 0) = 5) <| obb (f_X4_editionAt (fld r0 0) x1 M) fun y3 => if y3 = 0 then (some ((-1 : Int32), M)) else (if (f_X5_isWithin x2 (0 : Int32) (30 : Int32)) = 0 then (some ((-1 : Int32), M)) else (obb (f_X5_keepState r0 M) fun M7 => gdd (kd y3 = 1) <| bvv (gI M7 y3 3) fun y10 => bvv (sI M7 y3 3 ((gI M7 (fld r0 0) 6) + x2)) fun M12 => some (y10, M12)))
set_option maxRecDepth 100000 in
set_option maxHeartbeats 4000000 in
theorem ct_X5_stay {l : Launch} {w : Om} (hw : Wf w) {r0 : Nat} {x1 : Int32} {x2 : Int32} {M : Mem} {r : Int32} {M2 : Mem} (h : f_X5_stay r0 x1 x2 M = some (r, M2)) : Ct l w yX5_stay cX5_stay 5 (some .int) 5 [rv w r0, .int x1, .int x2] M (some (.int r)) M2 := by
  refine ct_of hw (by decide) (cat_s (rv_cat _ _) (cat_s rfl (cat_s rfl cat_0))) (Nat.le_of_ble_eq_true rfl) (fun f _ C hR => ?_)
  show Go w f 0 [some (rv w r0), some (.int x1), some (.int x2), none, none] [] M
  unfold f_X5_stay at h
  refine g_aload_n C dX5_stay_0 rfl rfl ?_
  obtain ⟨g1, h⟩ := of_gdd h
  refine gf_5_0 C fl_RX5_10 g1 dX5_stay_1 ?_
  refine g_iload_n C dX5_stay_4 rfl rfl ?_
  obtain ⟨g2, h⟩ := of_gdd h
  obtain ⟨y3, e4, h⟩ := of_obb h
  refine g_callV (As := [.int x1]) C (ct_X4_editionAt C.wf e4) g2 lk_RX5_121 mi_X4_editionAt (by decide) cs_0 (by decide) dX5_stay_5 rfl ?_
  show Go w f 8 [some (rv w r0), some (.int x1), some (.int x2), none, none] [rv w y3] M
  refine g_astore_n C dX5_stay_8 rfl (by decide) rfl (L2 := [some (rv w r0), some (.int x1), some (.int x2), some (rv w y3), none]) rfl ?_
  refine g_aload_n C dX5_stay_9 rfl rfl ?_
  refine g_ifnull 23 C dX5_stay_10 (by decide) (fun c5 => ?_) (fun c5 => ?_)
  · replace h := of_ift h c5
    refine g_iconst (v := -1) C dX5_stay_23 rfl ?_
    cases h
    exact hR 24 _ ⟨.int, rfl, rfl⟩ dX5_stay_24
  · replace h := of_iff h c5
    refine g_iload_n C dX5_stay_13 rfl rfl ?_
    refine g_iconst (v := 0) C dX5_stay_14 rfl ?_
    refine g_bipush (v := 30) C dX5_stay_15 rfl ?_
    refine g_callS (As := [.int x2, .int (0 : Int32), .int (30 : Int32)]) C (ct_X5_isWithin C.wf rfl) lk_RX5_48 mi_X5_isWithin (by decide) cs_0 (by decide) dX5_stay_17 rfl ?_
    show Go w f 20 [some (rv w r0), some (.int x1), some (.int x2), some (rv w y3), none] [.int (f_X5_isWithin x2 (0 : Int32) (30 : Int32))] M
    refine g_if_ne 25 C dX5_stay_20 (by decide) (fun c6 => ?_) (fun c6 => ?_)
    · replace h := of_iff h c6
      refine g_aload_n C dX5_stay_25 rfl rfl ?_
      obtain ⟨M7, e8, h⟩ := of_obb h
      refine g_callV (As := []) C (ct_X5_keepState C.wf e8) g1 lk_RX5_52 mi_X5_keepState (by decide) cs_0 (by decide) dX5_stay_26 rfl ?_
      show Go w f 29 [some (rv w r0), some (.int x1), some (.int x2), some (rv w y3), none] [] M7
      refine g_aload_n C dX5_stay_29 rfl rfl ?_
      obtain ⟨g9, h⟩ := of_gdd h
      refine gf_0_3 C fl_RX5_136 g9 dX5_stay_30 ?_
      obtain ⟨y10, e11, h⟩ := of_bvv h
      refine g_topi e11 ?_
      refine g_istore C dX5_stay_33 (by decide) (rv_cat _ _) (L2 := [some (rv w r0), some (.int x1), some (.int x2), some (rv w y3), some (.int y10)]) rfl ?_
      refine g_aload_n C dX5_stay_35 rfl rfl ?_
      refine g_aload_n C dX5_stay_36 rfl rfl ?_
      refine gf_5_0 C fl_RX5_10 g1 dX5_stay_37 ?_
      refine gf_4_6 C fl_RX5_139 g2 dX5_stay_40 ?_
      refine g_iload_n C dX5_stay_43 rfl rfl ?_
      refine g_iadd C dX5_stay_44 ?_
      refine pf_0_3 C fl_RX5_136 g9 dX5_stay_45 ?_
      obtain ⟨M12, e13, h⟩ := of_bvv h
      refine g_mem e13 ?_
      refine g_iload C dX5_stay_48 rfl ?_
      cases h
      exact hR 50 _ ⟨.int, rfl, rfl⟩ dX5_stay_50
    · replace h := of_ift h c6
      refine g_iconst (v := -1) C dX5_stay_23 rfl ?_
      cases h
      exact hR 24 _ ⟨.int, rfl, rfl⟩ dX5_stay_24
def f_X4_removeEdition_4 : Nat → Nat → Int32 → Mem → Option Mem
  | 0, _, _, _ => none
  | n + 1, r0, x2, M => gdd (kd r0 = 5) <| if (gI M r0 4) ≤ x2 then (bvv (sI M r0 4 ((gI M r0 4) - (1 : Int32))) fun M203 => some M203) else (obb (f_X4_editionAt r0 x2 M) fun y205 => obb (f_X4_copyEdition r0 y205 (x2 - (1 : Int32)) M) fun M207 => bvv (x2 + (1 : Int32)) fun y209 => (f_X4_removeEdition_4 n) r0 y209 M207)
set_option maxRecDepth 100000 in
set_option maxHeartbeats 4000000 in
theorem t_X4_removeEdition_4 {w : Om} {f : Fr} {M2 : Mem} (C : Cx w f RX4 cX4_removeEdition 3 3) (hR : Rt w f cX4_removeEdition none none M2)   : ∀ (n : Nat) (r0 : Nat) (x2 : Int32) (M : Mem), f_X4_removeEdition_4 n r0 x2 M = some M2 → Go w f 4 [some (rv w r0), none, some (.int x2)] [] M := by
  intro n
  induction n with
  | zero =>
    intro r0 x2 M h
    cases h
  | succ n ih =>
    intro r0 x2 M h
    rw [f_X4_removeEdition_4] at h
    refine g_iload_n C dX4_removeEdition_4 rfl rfl ?_
    refine g_aload_n C dX4_removeEdition_5 rfl rfl ?_
    obtain ⟨g201, h⟩ := of_gdd h
    refine gf_4_4 C fl_RX4_40 g201 dX4_removeEdition_6 ?_
    refine g_icmp_ge 30 C dX4_removeEdition_9 (by decide) (fun c202 => ?_) (fun c202 => ?_)
    · replace h := of_ift h c202
      refine g_aload_n C dX4_removeEdition_30 rfl rfl ?_
      refine g_dup C (rv_cat _ _) dX4_removeEdition_31 ?_
      refine gf_4_4 C fl_RX4_40 g201 dX4_removeEdition_32 ?_
      refine g_iconst (v := 1) C dX4_removeEdition_35 rfl ?_
      refine g_isub C dX4_removeEdition_36 ?_
      refine pf_4_4 C fl_RX4_40 g201 dX4_removeEdition_37 ?_
      obtain ⟨M203, e204, h⟩ := of_bvv h
      refine g_mem e204 ?_
      cases h
      exact hR 40 _ rfl dX4_removeEdition_40
    · replace h := of_iff h c202
      refine g_aload_n C dX4_removeEdition_12 rfl rfl ?_
      refine g_aload_n C dX4_removeEdition_13 rfl rfl ?_
      refine g_iload_n C dX4_removeEdition_14 rfl rfl ?_
      obtain ⟨y205, e206, h⟩ := of_obb h
      refine g_callV (As := [.int x2]) C (ct_X4_editionAt C.wf e206) g201 lk_RX4_47 mi_X4_editionAt (by decide) (cs_r cs_0) (by decide) dX4_removeEdition_15 rfl ?_
      show Go w f 18 [some (rv w r0), none, some (.int x2)] [rv w y205, rv w r0] M
      refine g_iload_n C dX4_removeEdition_18 rfl rfl ?_
      refine g_iconst (v := 1) C dX4_removeEdition_19 rfl ?_
      refine g_isub C dX4_removeEdition_20 ?_
      obtain ⟨M207, e208, h⟩ := of_obb h
      refine g_callV (As := [rv w y205, .int (x2 - (1 : Int32))]) C (ct_X4_copyEdition C.wf e208) g201 lk_RX4_51 mi_X4_copyEdition (by decide) cs_0 (by decide) dX4_removeEdition_21 rfl ?_
      show Go w f 24 [some (rv w r0), none, some (.int x2)] [] M207
      obtain ⟨y209, e210, h⟩ := of_bvv h
      refine g_iinc (v := y209) C dX4_removeEdition_24 rfl e210.symm (by decide) trivial (L2 := [some (rv w r0), none, some (.int y209)]) rfl ?_
      refine g_goto 4 C dX4_removeEdition_27 (by decide) ?_
      exact ih r0 y209 M207 h
def f_X4_removeEdition (r0 : Nat) (x1 : Int32) (M : Mem) : Option Mem := bvv (x1 + (1 : Int32)) fun y1 => f_X4_removeEdition_4 FU r0 y1 M
set_option maxRecDepth 100000 in
set_option maxHeartbeats 4000000 in
theorem ct_X4_removeEdition {l : Launch} {w : Om} (hw : Wf w) {r0 : Nat} {x1 : Int32} {M : Mem} {M2 : Mem} (h : f_X4_removeEdition r0 x1 M = some M2) : Ct l w yX4_removeEdition cX4_removeEdition 3 none 3 [rv w r0, .int x1] M none M2 := by
  refine ct_of hw (by decide) (cat_s (rv_cat _ _) (cat_s rfl cat_0)) (Nat.le_of_ble_eq_true rfl) (fun f _ C hR => ?_)
  show Go w f 0 [some (rv w r0), some (.int x1), none] [] M
  unfold f_X4_removeEdition at h
  refine g_iload_n C dX4_removeEdition_0 rfl rfl ?_
  refine g_iconst (v := 1) C dX4_removeEdition_1 rfl ?_
  refine g_iadd C dX4_removeEdition_2 ?_
  obtain ⟨y1, e2, h⟩ := of_bvv h
  refine g_topi e2 ?_
  refine g_istore_n C dX4_removeEdition_3 rfl (by decide) rfl (L2 := [some (rv w r0), some (.int x1), some (.int y1)]) rfl ?_
  refine g_mask (bs := [true, false, true]) (L2 := [some (rv w r0), none, some (.int y1)]) rfl ?_
  exact t_X4_removeEdition_4 C hR _ r0 y1 M h
def f_X5_drop (r0 : Nat) (x1 : Int32) (M : Mem) : Option (Int32 × Mem) := gdd (kd r0 = 6) <| gdd (kd (fld r0 0) = 5) <| obb (f_X4_editionAt (fld r0 0) x1 M) fun y3 => if y3 = 0 then (some ((-1 : Int32), M)) else (obb (f_X5_keepState r0 M) fun M6 => obb (f_X4_removeEdition (fld r0 0) x1 M6) fun M8 => some (gI M8 (fld r0 0) 4, M8))
set_option maxRecDepth 100000 in
set_option maxHeartbeats 4000000 in
theorem ct_X5_drop {l : Launch} {w : Om} (hw : Wf w) {r0 : Nat} {x1 : Int32} {M : Mem} {r : Int32} {M2 : Mem} (h : f_X5_drop r0 x1 M = some (r, M2)) : Ct l w yX5_drop cX5_drop 2 (some .int) 5 [rv w r0, .int x1] M (some (.int r)) M2 := by
  refine ct_of hw (by decide) (cat_s (rv_cat _ _) (cat_s rfl cat_0)) (Nat.le_of_ble_eq_true rfl) (fun f _ C hR => ?_)
  show Go w f 0 [some (rv w r0), some (.int x1)] [] M
  unfold f_X5_drop at h
  refine g_aload_n C dX5_drop_0 rfl rfl ?_
  obtain ⟨g1, h⟩ := of_gdd h
  refine gf_5_0 C fl_RX5_10 g1 dX5_drop_1 ?_
  refine g_iload_n C dX5_drop_4 rfl rfl ?_
  obtain ⟨g2, h⟩ := of_gdd h
  obtain ⟨y3, e4, h⟩ := of_obb h
  refine g_callV (As := [.int x1]) C (ct_X4_editionAt C.wf e4) g2 lk_RX5_121 mi_X4_editionAt (by decide) cs_0 (by decide) dX5_drop_5 rfl ?_
  show Go w f 8 [some (rv w r0), some (.int x1)] [rv w y3] M
  refine g_ifnonnull 13 C dX5_drop_8 (by decide) (fun c5 => ?_) (fun c5 => ?_)
  · replace h := of_iff h c5
    refine g_aload_n C dX5_drop_13 rfl rfl ?_
    obtain ⟨M6, e7, h⟩ := of_obb h
    refine g_callV (As := []) C (ct_X5_keepState C.wf e7) g1 lk_RX5_52 mi_X5_keepState (by decide) cs_0 (by decide) dX5_drop_14 rfl ?_
    show Go w f 17 [some (rv w r0), some (.int x1)] [] M6
    refine g_aload_n C dX5_drop_17 rfl rfl ?_
    refine gf_5_0 C fl_RX5_10 g1 dX5_drop_18 ?_
    refine g_iload_n C dX5_drop_21 rfl rfl ?_
    obtain ⟨M8, e9, h⟩ := of_obb h
    refine g_callV (As := [.int x1]) C (ct_X4_removeEdition C.wf e9) g2 lk_RX5_125 mi_X4_removeEdition (by decide) cs_0 (by decide) dX5_drop_22 rfl ?_
    show Go w f 25 [some (rv w r0), some (.int x1)] [] M8
    refine g_aload_n C dX5_drop_25 rfl rfl ?_
    refine gf_5_0 C fl_RX5_10 g1 dX5_drop_26 ?_
    refine gf_4_4 C fl_RX5_112 g2 dX5_drop_29 ?_
    cases h
    exact hR 32 _ ⟨.int, rfl, rfl⟩ dX5_drop_32
  · replace h := of_ift h c5
    refine g_iconst (v := -1) C dX5_drop_11 rfl ?_
    cases h
    exact hR 12 _ ⟨.int, rfl, rfl⟩ dX5_drop_12
def f_X5_weight (r0 : Nat) (x1 : Int32) (x2 : Int32) (M : Mem) : Option (Int32 × Mem) := if (f_X5_isKind x1) = 0 then (some ((-1 : Int32), M)) else (if (f_X5_isWithin x2 (1 : Int32) (9 : Int32)) = 0 then (some ((-1 : Int32), M)) else (gdd (kd r0 = 6) <| obb (f_X5_keepState r0 M) fun M4 => gdd (kd (fld r0 0) = 5) <| obb (f_X5_at (fld (fld r0 0) 0) x1 M4) fun y7 => obb (f_X5_put (fld (fld r0 0) 0) x1 x2 M4) fun M9 => some (y7, M9)))
set_option maxRecDepth 100000 in
set_option maxHeartbeats 4000000 in
theorem ct_X5_weight {l : Launch} {w : Om} (hw : Wf w) {r0 : Nat} {x1 : Int32} {x2 : Int32} {M : Mem} {r : Int32} {M2 : Mem} (h : f_X5_weight r0 x1 x2 M = some (r, M2)) : Ct l w yX5_weight cX5_weight 4 (some .int) 5 [rv w r0, .int x1, .int x2] M (some (.int r)) M2 := by
  refine ct_of hw (by decide) (cat_s (rv_cat _ _) (cat_s rfl (cat_s rfl cat_0))) (Nat.le_of_ble_eq_true rfl) (fun f _ C hR => ?_)
  show Go w f 0 [some (rv w r0), some (.int x1), some (.int x2), none] [] M
  unfold f_X5_weight at h
  refine g_iload_n C dX5_weight_0 rfl rfl ?_
  refine g_callS (As := [.int x1]) C (ct_X5_isKind C.wf rfl) lk_RX5_44 mi_X5_isKind (by decide) cs_0 (by decide) dX5_weight_1 rfl ?_
  show Go w f 4 [some (rv w r0), some (.int x1), some (.int x2), none] [.int (f_X5_isKind x1)] M
  refine g_if_eq 17 C dX5_weight_4 (by decide) (fun c1 => ?_) (fun c1 => ?_)
  · replace h := of_ift h c1
    refine g_iconst (v := -1) C dX5_weight_17 rfl ?_
    cases h
    exact hR 18 _ ⟨.int, rfl, rfl⟩ dX5_weight_18
  · replace h := of_iff h c1
    refine g_iload_n C dX5_weight_7 rfl rfl ?_
    refine g_iconst (v := 1) C dX5_weight_8 rfl ?_
    refine g_bipush (v := 9) C dX5_weight_9 rfl ?_
    refine g_callS (As := [.int x2, .int (1 : Int32), .int (9 : Int32)]) C (ct_X5_isWithin C.wf rfl) lk_RX5_48 mi_X5_isWithin (by decide) cs_0 (by decide) dX5_weight_11 rfl ?_
    show Go w f 14 [some (rv w r0), some (.int x1), some (.int x2), none] [.int (f_X5_isWithin x2 (1 : Int32) (9 : Int32))] M
    refine g_if_ne 19 C dX5_weight_14 (by decide) (fun c2 => ?_) (fun c2 => ?_)
    · replace h := of_iff h c2
      refine g_aload_n C dX5_weight_19 rfl rfl ?_
      obtain ⟨g3, h⟩ := of_gdd h
      obtain ⟨M4, e5, h⟩ := of_obb h
      refine g_callV (As := []) C (ct_X5_keepState C.wf e5) g3 lk_RX5_52 mi_X5_keepState (by decide) cs_0 (by decide) dX5_weight_20 rfl ?_
      show Go w f 23 [some (rv w r0), some (.int x1), some (.int x2), none] [] M4
      refine g_aload_n C dX5_weight_23 rfl rfl ?_
      refine gf_5_0 C fl_RX5_10 g3 dX5_weight_24 ?_
      obtain ⟨g6, h⟩ := of_gdd h
      refine gf_4_0 C fl_RX5_55 g6 dX5_weight_27 ?_
      refine g_iload_n C dX5_weight_30 rfl rfl ?_
      obtain ⟨y7, e8, h⟩ := of_obb h
      refine g_callS (As := [rv w (fld (fld r0 0) 0), .int x1]) C (ct_X5_at C.wf e8) lk_RX5_59 mi_X5_at (by decide) cs_0 (by decide) dX5_weight_31 rfl ?_
      show Go w f 34 [some (rv w r0), some (.int x1), some (.int x2), none] [.int y7] M4
      refine g_istore_n C dX5_weight_34 rfl (by decide) rfl (L2 := [some (rv w r0), some (.int x1), some (.int x2), some (.int y7)]) rfl ?_
      refine g_aload_n C dX5_weight_35 rfl rfl ?_
      refine gf_5_0 C fl_RX5_10 g3 dX5_weight_36 ?_
      refine gf_4_0 C fl_RX5_55 g6 dX5_weight_39 ?_
      refine g_iload_n C dX5_weight_42 rfl rfl ?_
      refine g_iload_n C dX5_weight_43 rfl rfl ?_
      obtain ⟨M9, e10, h⟩ := of_obb h
      refine g_callS (As := [rv w (fld (fld r0 0) 0), .int x1, .int x2]) C (ct_X5_put C.wf e10) lk_RX5_63 mi_X5_put (by decide) cs_0 (by decide) dX5_weight_44 rfl ?_
      show Go w f 47 [some (rv w r0), some (.int x1), some (.int x2), some (.int y7)] [] M9
      refine g_iload_n C dX5_weight_47 rfl rfl ?_
      cases h
      exact hR 48 _ ⟨.int, rfl, rfl⟩ dX5_weight_48
    · replace h := of_ift h c2
      refine g_iconst (v := -1) C dX5_weight_17 rfl ?_
      cases h
      exact hR 18 _ ⟨.int, rfl, rfl⟩ dX5_weight_18
