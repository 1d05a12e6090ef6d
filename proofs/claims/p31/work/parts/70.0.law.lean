def f_L_lot (L : Nat) (xs : Nat → Int32) (x1 : Int32) : Option Int32 := if (nI L) ≤ x1 then (some (((572395117 : Int32) * (x1 + (4789 : Int32))) + (4561 : Int32))) else (gdd (inb x1 L = true) <| some (xs (x1).toNatClampNeg))
set_option maxRecDepth 100000 in
set_option maxHeartbeats 4000000 in
theorem ct_L_lot {l : Launch} {w : Om} (hw : Wf w) {L : Nat} {xs : Nat → Int32} {x1 : Int32}  {M : Mem} {r : Int32} (h : f_L_lot L xs x1 = some r) : CtX l w L xs yL_lot cL_lot 2 (some .int) 0 [rv w 159, .int x1] M (some (.int r)) M := by
  refine ctx_of hw (by decide) (cat_s (rv_cat _ _) (cat_s rfl cat_0)) (Nat.le_of_ble_eq_true rfl) (fun f _ C hR hX => ?_)
  show Go w f 0 [some (rv w 159), some (.int x1)] [] M
  unfold f_L_lot at h
  refine g_iload_n C dL_lot_0 rfl rfl ?_
  refine g_aload_n C dL_lot_1 rfl rfl ?_
  refine g_slen C hX dL_lot_2 ?_
  refine g_icmp_ge 12 C dL_lot_3 (by decide) (fun c1 => ?_) (fun c1 => ?_)
  · replace h := of_ift h c1
    refine g_ldc C kc_RL_7 dL_lot_12 ?_
    refine g_iload_n C dL_lot_14 rfl rfl ?_
    refine g_sipush (v := 4789) C dL_lot_15 rfl ?_
    refine g_iadd C dL_lot_18 ?_
    refine g_imul C dL_lot_19 ?_
    refine g_sipush (v := 4561) C dL_lot_20 rfl ?_
    refine g_iadd C dL_lot_23 ?_
    cases h
    exact hR 24 _ ⟨.int, rfl, rfl⟩ dL_lot_24
  · replace h := of_iff h c1
    refine g_aload_n C dL_lot_6 rfl rfl ?_
    refine g_iload_n C dL_lot_7 rfl rfl ?_
    obtain ⟨g2, h⟩ := of_gdd h
    refine g_sld C hX g2 dL_lot_8 ?_
    refine g_goto 24 C dL_lot_9 (by decide) ?_
    cases h
    exact hR 24 _ ⟨.int, rfl, rfl⟩ dL_lot_24
def f_L_low (x0 : Int32) (x1 : Int32) : Option Int32 := gdd (¬ x1 = 0) <| some ((x0 &&& (2147483647 : Int32)) - (x0 &&& (2147483647 : Int32)) / x1 * x1)
set_option maxRecDepth 100000 in
set_option maxHeartbeats 4000000 in
theorem ct_L_low {l : Launch} {w : Om} (hw : Wf w) {x0 : Int32} {x1 : Int32}  {M : Mem} {r : Int32} (h : f_L_low x0 x1 = some r) : Ct l w yL_low cL_low 2 (some .int) 0 [.int x0, .int x1] M (some (.int r)) M := by
  refine ct_of hw (by decide) (cat_s rfl (cat_s rfl cat_0)) (Nat.le_of_ble_eq_true rfl) (fun f _ C hR => ?_)
  show Go w f 0 [some (.int x0), some (.int x1)] [] M
  unfold f_L_low at h
  refine g_iload_n C dL_low_0 rfl rfl ?_
  refine g_ldc C kc_RL_8 dL_low_1 ?_
  refine g_iand C dL_low_3 ?_
  refine g_iload_n C dL_low_4 rfl rfl ?_
  obtain ⟨g1, h⟩ := of_gdd h
  refine g_irem C dL_low_5 g1 ?_
  cases h
  exact hR 6 _ ⟨.int, rfl, rfl⟩ dL_low_6
def f_L_look_137 (k125 : Nat → Int64 → Int32 → Mem → Option (Int64 × Mem)) : Nat → Nat → Int64 → Int32 → Int32 → Mem → Option (Int64 × Mem)
  | 0, _, _, _, _, _ => none
  | n + 1, r0, l1, x3, x4, M => if (8 : Int32) ≤ x4 then (bvv (x3 + (1 : Int32)) fun y502 => k125 r0 l1 y502 M) else (gdd (kd r0 = 6) <| obb (f_X5_ruling r0 x3 x4 M) fun y505 => bvv (((31 : Int64) * l1) + (Int32.toInt64 y505)) fun y507 => bvv (x4 + (1 : Int32)) fun y509 => (f_L_look_137 k125 n) r0 y507 x3 y509 M)
set_option maxRecDepth 100000 in
set_option maxHeartbeats 4000000 in
theorem t_L_look_137 {w : Om} {f : Fr} {r : Int64} {M2 : Mem} (C : Cx w f RL cL_look 5 7) (hR : Rt w f cL_look (some .long) (some (.long r)) M2) {k125 : Nat → Int64 → Int32 → Mem → Option (Int64 × Mem)} (hk125 : ∀ (r0' : Nat) (l1' : Int64) (x3' : Int32) (M' : Mem), k125 r0' l1' x3' M' = some (r, M2) → Go w f 125 [some (rv w r0'), some (.long l1'), none, some (.int x3'), none] [] M') : ∀ (n : Nat) (r0 : Nat) (l1 : Int64) (x3 : Int32) (x4 : Int32) (M : Mem), f_L_look_137 k125 n r0 l1 x3 x4 M = some (r, M2) → Go w f 137 [some (rv w r0), some (.long l1), none, some (.int x3), some (.int x4)] [] M := by
  intro n
  induction n with
  | zero =>
    intro r0 l1 x3 x4 M h
    cases h
  | succ n ih =>
    intro r0 l1 x3 x4 M h
    rw [f_L_look_137] at h
    refine g_iload C dL_look_137 rfl ?_
    refine g_bipush (v := 8) C dL_look_139 rfl ?_
    refine g_icmp_ge 165 C dL_look_141 (by decide) (fun c501 => ?_) (fun c501 => ?_)
    · replace h := of_ift h c501
      obtain ⟨y502, e503, h⟩ := of_bvv h
      refine g_iinc (v := y502) C dL_look_165 rfl e503.symm (by decide) trivial (L2 := [some (rv w r0), some (.long l1), none, some (.int y502), some (.int x4)]) rfl ?_
      refine g_goto 125 C dL_look_168 (by decide) ?_
      refine g_mask (bs := [true, true, false, true, false]) (L2 := [some (rv w r0), some (.long l1), none, some (.int y502), none]) rfl ?_
      exact hk125 r0 l1 y502 M h
    · replace h := of_iff h c501
      refine g_ldc2 C kl_RL_11 dL_look_144 ?_
      refine g_lload_n C dL_look_147 rfl rfl ?_
      refine g_lmul C dL_look_148 ?_
      refine g_aload_n C dL_look_149 rfl rfl ?_
      refine g_iload_n C dL_look_150 rfl rfl ?_
      refine g_iload C dL_look_151 rfl ?_
      obtain ⟨g504, h⟩ := of_gdd h
      obtain ⟨y505, e506, h⟩ := of_obb h
      refine g_callV (As := [.int x3, .int x4]) C (ct_X5_ruling C.wf e506) g504 lk_RL_26 mi_X5_ruling (by decide) (cs_l cs_0) (by decide) dL_look_153 rfl ?_
      show Go w f 156 [some (rv w r0), some (.long l1), none, some (.int x3), some (.int x4)] [.int y505, .long ((31 : Int64) * l1)] M
      refine g_i2l C dL_look_156 ?_
      refine g_ladd C dL_look_157 ?_
      obtain ⟨y507, e508, h⟩ := of_bvv h
      refine g_topl e508 ?_
      refine g_lstore_n C dL_look_158 rfl (by decide) (rv_cat _ _) (L2 := [some (rv w r0), some (.long y507), none, some (.int x3), some (.int x4)]) rfl ?_
      obtain ⟨y509, e510, h⟩ := of_bvv h
      refine g_iinc (v := y509) C dL_look_159 rfl e510.symm (by decide) rfl (L2 := [some (rv w r0), some (.long y507), none, some (.int x3), some (.int y509)]) rfl ?_
      refine g_goto 137 C dL_look_162 (by decide) ?_
      exact ih r0 y507 x3 y509 M h
def f_L_look_125 : Nat → Nat → Int64 → Int32 → Mem → Option (Int64 × Mem)
  | 0, _, _, _, _ => none
  | n + 1, r0, l1, x3, M => gdd (kd r0 = 6) <| opp (f_X5_count r0 (4 : Int32) M) fun y404 M402 => if y404 ≤ x3 then (some (l1, M402)) else (f_L_look_137 (f_L_look_125 n) FU r0 l1 x3 (0 : Int32) M402)
set_option maxRecDepth 100000 in
set_option maxHeartbeats 4000000 in
theorem t_L_look_125 {w : Om} {f : Fr} {r : Int64} {M2 : Mem} (C : Cx w f RL cL_look 5 7) (hR : Rt w f cL_look (some .long) (some (.long r)) M2)   : ∀ (n : Nat) (r0 : Nat) (l1 : Int64) (x3 : Int32) (M : Mem), f_L_look_125 n r0 l1 x3 M = some (r, M2) → Go w f 125 [some (rv w r0), some (.long l1), none, some (.int x3), none] [] M := by
  intro n
  induction n with
  | zero =>
    intro r0 l1 x3 M h
    cases h
  | succ n ih =>
    intro r0 l1 x3 M h
    rw [f_L_look_125] at h
    refine g_iload_n C dL_look_125 rfl rfl ?_
    refine g_aload_n C dL_look_126 rfl rfl ?_
    refine g_iconst (v := 4) C dL_look_127 rfl ?_
    obtain ⟨g401, h⟩ := of_gdd h
    obtain ⟨y404, M402, e403, h⟩ := of_opp h
    refine g_callV (As := [.int (4 : Int32)]) C (ct_X5_count C.wf e403) g401 lk_RL_13 mi_X5_count (by decide) (cs_i cs_0) (by decide) dL_look_128 rfl ?_
    show Go w f 131 [some (rv w r0), some (.long l1), none, some (.int x3), none] [.int y404, .int x3] M402
    refine g_icmp_ge 171 C dL_look_131 (by decide) (fun c405 => ?_) (fun c405 => ?_)
    · replace h := of_ift h c405
      refine g_lload_n C dL_look_171 rfl rfl ?_
      cases h
      exact hR 172 _ rfl dL_look_172
    · replace h := of_iff h c405
      refine g_iconst (v := 0) C dL_look_134 rfl ?_
      refine g_istore C dL_look_135 (by decide) rfl (L2 := [some (rv w r0), some (.long l1), none, some (.int x3), some (.int (0 : Int32))]) rfl ?_
      exact t_L_look_137 C hR (fun r0' l1' x3' M' h => ih r0' l1' x3' M' h) _ r0 l1 x3 (0 : Int32) M402 h
def f_L_look_76 (k33 : Nat → Int64 → Int32 → Mem → Option (Int64 × Mem)) : Nat → Nat → Int64 → Int32 → Int32 → Mem → Option (Int64 × Mem)
  | 0, _, _, _, _, _ => none
  | n + 1, r0, l1, x3, x4, M => gdd (kd r0 = 6) <| opp (f_X5_edition r0 x3 (0 : Int32) M) fun y704 M702 => opp (f_X5_edition r0 x3 (2 : Int32) M702) fun y707 M705 => if ((y704 + y707) - (1 : Int32)) ≤ x4 then (bvv (x3 + (1 : Int32)) fun y709 => k33 r0 l1 y709 M705) else (obb (f_X5_sign r0 x3 x4 M705) fun y711 => bvv (((31 : Int64) * l1) + (Int32.toInt64 y711)) fun y713 => bvv (x4 + (1 : Int32)) fun y715 => (f_L_look_76 k33 n) r0 y713 x3 y715 M705)
set_option maxRecDepth 100000 in
set_option maxHeartbeats 4000000 in
theorem t_L_look_76 {w : Om} {f : Fr} {r : Int64} {M2 : Mem} (C : Cx w f RL cL_look 5 7) (hR : Rt w f cL_look (some .long) (some (.long r)) M2) {k33 : Nat → Int64 → Int32 → Mem → Option (Int64 × Mem)} (hk33 : ∀ (r0' : Nat) (l1' : Int64) (x3' : Int32) (M' : Mem), k33 r0' l1' x3' M' = some (r, M2) → Go w f 33 [some (rv w r0'), some (.long l1'), none, some (.int x3'), none] [] M') : ∀ (n : Nat) (r0 : Nat) (l1 : Int64) (x3 : Int32) (x4 : Int32) (M : Mem), f_L_look_76 k33 n r0 l1 x3 x4 M = some (r, M2) → Go w f 76 [some (rv w r0), some (.long l1), none, some (.int x3), some (.int x4)] [] M := by
  intro n
  induction n with
  | zero =>
    intro r0 l1 x3 x4 M h
    cases h
  | succ n ih =>
    intro r0 l1 x3 x4 M h
    rw [f_L_look_76] at h
    refine g_iload C dL_look_76 rfl ?_
    refine g_aload_n C dL_look_78 rfl rfl ?_
    refine g_iload_n C dL_look_79 rfl rfl ?_
    refine g_iconst (v := 0) C dL_look_80 rfl ?_
    obtain ⟨g701, h⟩ := of_gdd h
    obtain ⟨y704, M702, e703, h⟩ := of_opp h
    refine g_callV (As := [.int x3, .int (0 : Int32)]) C (ct_X5_edition C.wf e703) g701 lk_RL_19 mi_X5_edition (by decide) (cs_i cs_0) (by decide) dL_look_81 rfl ?_
    show Go w f 84 [some (rv w r0), some (.long l1), none, some (.int x3), some (.int x4)] [.int y704, .int x4] M702
    refine g_aload_n C dL_look_84 rfl rfl ?_
    refine g_iload_n C dL_look_85 rfl rfl ?_
    refine g_iconst (v := 2) C dL_look_86 rfl ?_
    obtain ⟨y707, M705, e706, h⟩ := of_opp h
    refine g_callV (As := [.int x3, .int (2 : Int32)]) C (ct_X5_edition C.wf e706) g701 lk_RL_19 mi_X5_edition (by decide) (cs_i (cs_i cs_0)) (by decide) dL_look_87 rfl ?_
    show Go w f 90 [some (rv w r0), some (.long l1), none, some (.int x3), some (.int x4)] [.int y707, .int y704, .int x4] M705
    refine g_iadd C dL_look_90 ?_
    refine g_iconst (v := 1) C dL_look_91 rfl ?_
    refine g_isub C dL_look_92 ?_
    refine g_icmp_ge 117 C dL_look_93 (by decide) (fun c708 => ?_) (fun c708 => ?_)
    · replace h := of_ift h c708
      obtain ⟨y709, e710, h⟩ := of_bvv h
      refine g_iinc (v := y709) C dL_look_117 rfl e710.symm (by decide) trivial (L2 := [some (rv w r0), some (.long l1), none, some (.int y709), some (.int x4)]) rfl ?_
      refine g_goto 33 C dL_look_120 (by decide) ?_
      refine g_mask (bs := [true, true, false, true, false]) (L2 := [some (rv w r0), some (.long l1), none, some (.int y709), none]) rfl ?_
      exact hk33 r0 l1 y709 M705 h
    · replace h := of_iff h c708
      refine g_ldc2 C kl_RL_11 dL_look_96 ?_
      refine g_lload_n C dL_look_99 rfl rfl ?_
      refine g_lmul C dL_look_100 ?_
      refine g_aload_n C dL_look_101 rfl rfl ?_
      refine g_iload_n C dL_look_102 rfl rfl ?_
      refine g_iload C dL_look_103 rfl ?_
      obtain ⟨y711, e712, h⟩ := of_obb h
      refine g_callV (As := [.int x3, .int x4]) C (ct_X5_sign C.wf e712) g701 lk_RL_23 mi_X5_sign (by decide) (cs_l cs_0) (by decide) dL_look_105 rfl ?_
      show Go w f 108 [some (rv w r0), some (.long l1), none, some (.int x3), some (.int x4)] [.int y711, .long ((31 : Int64) * l1)] M705
      refine g_i2l C dL_look_108 ?_
      refine g_ladd C dL_look_109 ?_
      obtain ⟨y713, e714, h⟩ := of_bvv h
      refine g_topl e714 ?_
      refine g_lstore_n C dL_look_110 rfl (by decide) (rv_cat _ _) (L2 := [some (rv w r0), some (.long y713), none, some (.int x3), some (.int x4)]) rfl ?_
      obtain ⟨y715, e716, h⟩ := of_bvv h
      refine g_iinc (v := y715) C dL_look_111 rfl e716.symm (by decide) rfl (L2 := [some (rv w r0), some (.long y713), none, some (.int x3), some (.int y715)]) rfl ?_
      refine g_goto 76 C dL_look_114 (by decide) ?_
      exact ih r0 y713 x3 y715 M705 h
def f_L_look_45 (k33 : Nat → Int64 → Int32 → Mem → Option (Int64 × Mem)) : Nat → Nat → Int64 → Int32 → Int32 → Mem → Option (Int64 × Mem)
  | 0, _, _, _, _, _ => none
  | n + 1, r0, l1, x3, x4, M => if (10 : Int32) ≤ x4 then (f_L_look_76 k33 FU r0 l1 x3 (0 : Int32) M) else (gdd (kd r0 = 6) <| opp (f_X5_edition r0 x3 x4 M) fun y605 M603 => bvv (((31 : Int64) * l1) + (Int32.toInt64 y605)) fun y606 => bvv (x4 + (1 : Int32)) fun y608 => (f_L_look_45 k33 n) r0 y606 x3 y608 M603)
set_option maxRecDepth 100000 in
set_option maxHeartbeats 4000000 in
theorem t_L_look_45 {w : Om} {f : Fr} {r : Int64} {M2 : Mem} (C : Cx w f RL cL_look 5 7) (hR : Rt w f cL_look (some .long) (some (.long r)) M2) {k33 : Nat → Int64 → Int32 → Mem → Option (Int64 × Mem)} (hk33 : ∀ (r0' : Nat) (l1' : Int64) (x3' : Int32) (M' : Mem), k33 r0' l1' x3' M' = some (r, M2) → Go w f 33 [some (rv w r0'), some (.long l1'), none, some (.int x3'), none] [] M') : ∀ (n : Nat) (r0 : Nat) (l1 : Int64) (x3 : Int32) (x4 : Int32) (M : Mem), f_L_look_45 k33 n r0 l1 x3 x4 M = some (r, M2) → Go w f 45 [some (rv w r0), some (.long l1), none, some (.int x3), some (.int x4)] [] M := by
  intro n
  induction n with
  | zero =>
    intro r0 l1 x3 x4 M h
    cases h
  | succ n ih =>
    intro r0 l1 x3 x4 M h
    rw [f_L_look_45] at h
    refine g_iload C dL_look_45 rfl ?_
    refine g_bipush (v := 10) C dL_look_47 rfl ?_
    refine g_icmp_ge 73 C dL_look_49 (by decide) (fun c601 => ?_) (fun c601 => ?_)
    · replace h := of_ift h c601
      refine g_iconst (v := 0) C dL_look_73 rfl ?_
      refine g_istore C dL_look_74 (by decide) rfl (L2 := [some (rv w r0), some (.long l1), none, some (.int x3), some (.int (0 : Int32))]) rfl ?_
      exact t_L_look_76 C hR (fun r0' l1' x3' M' h => hk33 r0' l1' x3' M' h) _ r0 l1 x3 (0 : Int32) M h
    · replace h := of_iff h c601
      refine g_ldc2 C kl_RL_11 dL_look_52 ?_
      refine g_lload_n C dL_look_55 rfl rfl ?_
      refine g_lmul C dL_look_56 ?_
      refine g_aload_n C dL_look_57 rfl rfl ?_
      refine g_iload_n C dL_look_58 rfl rfl ?_
      refine g_iload C dL_look_59 rfl ?_
      obtain ⟨g602, h⟩ := of_gdd h
      obtain ⟨y605, M603, e604, h⟩ := of_opp h
      refine g_callV (As := [.int x3, .int x4]) C (ct_X5_edition C.wf e604) g602 lk_RL_19 mi_X5_edition (by decide) (cs_l cs_0) (by decide) dL_look_61 rfl ?_
      show Go w f 64 [some (rv w r0), some (.long l1), none, some (.int x3), some (.int x4)] [.int y605, .long ((31 : Int64) * l1)] M603
      refine g_i2l C dL_look_64 ?_
      refine g_ladd C dL_look_65 ?_
      obtain ⟨y606, e607, h⟩ := of_bvv h
      refine g_topl e607 ?_
      refine g_lstore_n C dL_look_66 rfl (by decide) (rv_cat _ _) (L2 := [some (rv w r0), some (.long y606), none, some (.int x3), some (.int x4)]) rfl ?_
      obtain ⟨y608, e609, h⟩ := of_bvv h
      refine g_iinc (v := y608) C dL_look_67 rfl e609.symm (by decide) rfl (L2 := [some (rv w r0), some (.long y606), none, some (.int x3), some (.int y608)]) rfl ?_
      refine g_goto 45 C dL_look_70 (by decide) ?_
      exact ih r0 y606 x3 y608 M603 h
def f_L_look_33 : Nat → Nat → Int64 → Int32 → Mem → Option (Int64 × Mem)
  | 0, _, _, _, _ => none
  | n + 1, r0, l1, x3, M => gdd (kd r0 = 6) <| opp (f_X5_count r0 (1 : Int32) M) fun y304 M302 => if y304 ≤ x3 then (f_L_look_125 FU r0 l1 (0 : Int32) M302) else (f_L_look_45 (f_L_look_33 n) FU r0 l1 x3 (0 : Int32) M302)
set_option maxRecDepth 100000 in
set_option maxHeartbeats 4000000 in
theorem t_L_look_33 {w : Om} {f : Fr} {r : Int64} {M2 : Mem} (C : Cx w f RL cL_look 5 7) (hR : Rt w f cL_look (some .long) (some (.long r)) M2)   : ∀ (n : Nat) (r0 : Nat) (l1 : Int64) (x3 : Int32) (M : Mem), f_L_look_33 n r0 l1 x3 M = some (r, M2) → Go w f 33 [some (rv w r0), some (.long l1), none, some (.int x3), none] [] M := by
  intro n
  induction n with
  | zero =>
    intro r0 l1 x3 M h
    cases h
  | succ n ih =>
    intro r0 l1 x3 M h
    rw [f_L_look_33] at h
    refine g_iload_n C dL_look_33 rfl rfl ?_
    refine g_aload_n C dL_look_34 rfl rfl ?_
    refine g_iconst (v := 1) C dL_look_35 rfl ?_
    obtain ⟨g301, h⟩ := of_gdd h
    obtain ⟨y304, M302, e303, h⟩ := of_opp h
    refine g_callV (As := [.int (1 : Int32)]) C (ct_X5_count C.wf e303) g301 lk_RL_13 mi_X5_count (by decide) (cs_i cs_0) (by decide) dL_look_36 rfl ?_
    show Go w f 39 [some (rv w r0), some (.long l1), none, some (.int x3), none] [.int y304, .int x3] M302
    refine g_icmp_ge 123 C dL_look_39 (by decide) (fun c305 => ?_) (fun c305 => ?_)
    · replace h := of_ift h c305
      refine g_iconst (v := 0) C dL_look_123 rfl ?_
      refine g_istore_n C dL_look_124 rfl (by decide) trivial (L2 := [some (rv w r0), some (.long l1), none, some (.int (0 : Int32)), none]) rfl ?_
      exact t_L_look_125 C hR _ r0 l1 (0 : Int32) M302 h
    · replace h := of_iff h c305
      refine g_iconst (v := 0) C dL_look_42 rfl ?_
      refine g_istore C dL_look_43 (by decide) rfl (L2 := [some (rv w r0), some (.long l1), none, some (.int x3), some (.int (0 : Int32))]) rfl ?_
      exact t_L_look_45 C hR (fun r0' l1' x3' M' h => ih r0' l1' x3' M' h) _ r0 l1 x3 (0 : Int32) M302 h
def f_L_look_6 : Nat → Nat → Int64 → Int32 → Mem → Option (Int64 × Mem)
  | 0, _, _, _, _ => none
  | n + 1, r0, l1, x3, M => if (13 : Int32) ≤ x3 then (f_L_look_33 FU r0 l1 (0 : Int32) M) else (gdd (kd r0 = 6) <| opp (f_X5_count r0 x3 M) fun y205 M203 => bvv (((31 : Int64) * l1) + (Int32.toInt64 y205)) fun y206 => bvv (x3 + (1 : Int32)) fun y208 => (f_L_look_6 n) r0 y206 y208 M203)
set_option maxRecDepth 100000 in
set_option maxHeartbeats 4000000 in
theorem t_L_look_6 {w : Om} {f : Fr} {r : Int64} {M2 : Mem} (C : Cx w f RL cL_look 5 7) (hR : Rt w f cL_look (some .long) (some (.long r)) M2)   : ∀ (n : Nat) (r0 : Nat) (l1 : Int64) (x3 : Int32) (M : Mem), f_L_look_6 n r0 l1 x3 M = some (r, M2) → Go w f 6 [some (rv w r0), some (.long l1), none, some (.int x3), none] [] M := by
  intro n
  induction n with
  | zero =>
    intro r0 l1 x3 M h
    cases h
  | succ n ih =>
    intro r0 l1 x3 M h
    rw [f_L_look_6] at h
    refine g_iload_n C dL_look_6 rfl rfl ?_
    refine g_bipush (v := 13) C dL_look_7 rfl ?_
    refine g_icmp_ge 31 C dL_look_9 (by decide) (fun c201 => ?_) (fun c201 => ?_)
    · replace h := of_ift h c201
      refine g_iconst (v := 0) C dL_look_31 rfl ?_
      refine g_istore_n C dL_look_32 rfl (by decide) trivial (L2 := [some (rv w r0), some (.long l1), none, some (.int (0 : Int32)), none]) rfl ?_
      exact t_L_look_33 C hR _ r0 l1 (0 : Int32) M h
    · replace h := of_iff h c201
      refine g_ldc2 C kl_RL_11 dL_look_12 ?_
      refine g_lload_n C dL_look_15 rfl rfl ?_
      refine g_lmul C dL_look_16 ?_
      refine g_aload_n C dL_look_17 rfl rfl ?_
      refine g_iload_n C dL_look_18 rfl rfl ?_
      obtain ⟨g202, h⟩ := of_gdd h
      obtain ⟨y205, M203, e204, h⟩ := of_opp h
      refine g_callV (As := [.int x3]) C (ct_X5_count C.wf e204) g202 lk_RL_13 mi_X5_count (by decide) (cs_l cs_0) (by decide) dL_look_19 rfl ?_
      show Go w f 22 [some (rv w r0), some (.long l1), none, some (.int x3), none] [.int y205, .long ((31 : Int64) * l1)] M203
      refine g_i2l C dL_look_22 ?_
      refine g_ladd C dL_look_23 ?_
      obtain ⟨y206, e207, h⟩ := of_bvv h
      refine g_topl e207 ?_
      refine g_lstore_n C dL_look_24 rfl (by decide) (rv_cat _ _) (L2 := [some (rv w r0), some (.long y206), none, some (.int x3), none]) rfl ?_
      obtain ⟨y208, e209, h⟩ := of_bvv h
      refine g_iinc (v := y208) C dL_look_25 rfl e209.symm (by decide) trivial (L2 := [some (rv w r0), some (.long y206), none, some (.int y208), none]) rfl ?_
      refine g_goto 6 C dL_look_28 (by decide) ?_
      exact ih r0 y206 y208 M203 h
def f_L_look (r0 : Nat) (M : Mem) : Option (Int64 × Mem) := bvv (467 : Int64) fun y1 => f_L_look_6 FU r0 y1 (0 : Int32) M
set_option maxRecDepth 100000 in
set_option maxHeartbeats 4000000 in
theorem ct_L_look {l : Launch} {w : Om} (hw : Wf w) {r0 : Nat} {M : Mem} {r : Int64} {M2 : Mem} (h : f_L_look r0 M = some (r, M2)) : Ct l w yL_look cL_look 5 (some .long) 7 [rv w r0] M (some (.long r)) M2 := by
  refine ct_of hw (by decide) (cat_s (rv_cat _ _) cat_0) (Nat.le_of_ble_eq_true rfl) (fun f _ C hR => ?_)
  show Go w f 0 [some (rv w r0), none, none, none, none] [] M
  unfold f_L_look at h
  refine g_ldc2 C kl_RL_9 dL_look_0 ?_
  obtain ⟨y1, e2, h⟩ := of_bvv h
  refine g_topl e2 ?_
  refine g_lstore_n C dL_look_3 rfl (by decide) (rv_cat _ _) (L2 := [some (rv w r0), some (.long y1), none, none, none]) rfl ?_
  refine g_iconst (v := 0) C dL_look_4 rfl ?_
  refine g_istore_n C dL_look_5 rfl (by decide) trivial (L2 := [some (rv w r0), some (.long y1), none, some (.int (0 : Int32)), none]) rfl ?_
  exact t_L_look_6 C hR _ r0 y1 (0 : Int32) M h
def f_L_rulings_386 (r0 : Nat) (x1 : Int32) (x2 : Int32) (x3 : Int32) (M : Mem) : Option (Int32 × Mem) := if x3 = 0 then (some ((0 : Int32), M)) else (gdd (kd r0 = 6) <| opp (f_X5_count r0 (5 : Int32) M) fun y505 M503 => if x1 = y505 then (opp (f_X5_count r0 (6 : Int32) M503) fun y509 M507 => if x2 = y509 then (some ((1 : Int32), M507)) else (some ((0 : Int32), M507))) else (some ((0 : Int32), M503)))
set_option maxRecDepth 100000 in
set_option maxHeartbeats 4000000 in
theorem t_L_rulings_386 {w : Om} {f : Fr} {r : Int32} {M2 : Mem} (C : Cx w f RL cL_rulings 9 7) (hR : Rt w f cL_rulings (some .boolean) (some (.int r)) M2)   : ∀ (r0 : Nat) (x1 : Int32) (x2 : Int32) (x3 : Int32) (M : Mem), f_L_rulings_386 r0 x1 x2 x3 M = some (r, M2) → Go w f 386 [some (rv w r0), some (.int x1), some (.int x2), some (.int x3), none, none, none, none, none] [] M := by
  intro r0 x1 x2 x3 M h
  unfold f_L_rulings_386 at h
  refine g_iload_n C dL_rulings_386 rfl rfl ?_
  refine g_if_eq 413 C dL_rulings_387 (by decide) (fun c501 => ?_) (fun c501 => ?_)
  · replace h := of_ift h c501
    refine g_iconst (v := 0) C dL_rulings_413 rfl ?_
    cases h
    exact hR 414 _ ⟨.boolean, rfl, rfl⟩ dL_rulings_414
  · replace h := of_iff h c501
    refine g_iload_n C dL_rulings_390 rfl rfl ?_
    refine g_aload_n C dL_rulings_391 rfl rfl ?_
    refine g_iconst (v := 5) C dL_rulings_392 rfl ?_
    obtain ⟨g502, h⟩ := of_gdd h
    obtain ⟨y505, M503, e504, h⟩ := of_opp h
    refine g_callV (As := [.int (5 : Int32)]) C (ct_X5_count C.wf e504) g502 lk_RL_13 mi_X5_count (by decide) (cs_i cs_0) (by decide) dL_rulings_393 rfl ?_
    show Go w f 396 [some (rv w r0), some (.int x1), some (.int x2), some (.int x3), none, none, none, none, none] [.int y505, .int x1] M503
    refine g_icmp_ne 413 C dL_rulings_396 (by decide) (fun c506 => ?_) (fun c506 => ?_)
    · replace h := of_iff h c506
      refine g_iconst (v := 0) C dL_rulings_413 rfl ?_
      cases h
      exact hR 414 _ ⟨.boolean, rfl, rfl⟩ dL_rulings_414
    · replace h := of_ift h c506
      refine g_iload_n C dL_rulings_399 rfl rfl ?_
      refine g_aload_n C dL_rulings_400 rfl rfl ?_
      refine g_bipush (v := 6) C dL_rulings_401 rfl ?_
      obtain ⟨y509, M507, e508, h⟩ := of_opp h
      refine g_callV (As := [.int (6 : Int32)]) C (ct_X5_count C.wf e508) g502 lk_RL_13 mi_X5_count (by decide) (cs_i cs_0) (by decide) dL_rulings_403 rfl ?_
      show Go w f 406 [some (rv w r0), some (.int x1), some (.int x2), some (.int x3), none, none, none, none, none] [.int y509, .int x2] M507
      refine g_icmp_ne 413 C dL_rulings_406 (by decide) (fun c510 => ?_) (fun c510 => ?_)
      · replace h := of_iff h c510
        refine g_iconst (v := 0) C dL_rulings_413 rfl ?_
        cases h
        exact hR 414 _ ⟨.boolean, rfl, rfl⟩ dL_rulings_414
      · replace h := of_ift h c510
        refine g_iconst (v := 1) C dL_rulings_409 rfl ?_
        refine g_goto 414 C dL_rulings_410 (by decide) ?_
        cases h
        exact hR 414 _ ⟨.boolean, rfl, rfl⟩ dL_rulings_414
def f_L_rulings_379 (k37 : Nat → Int32 → Int32 → Int32 → Int32 → Mem → Option (Int32 × Mem)) (r0 : Nat) (x1 : Int32) (x2 : Int32) (x4 : Int32) (xs0 : Int32) (M : Mem) : Option (Int32 × Mem) := bvv (x4 + (1 : Int32)) fun y801 => k37 r0 x1 x2 xs0 y801 M
set_option maxRecDepth 100000 in
set_option maxHeartbeats 4000000 in
theorem t_L_rulings_379 {w : Om} {f : Fr} {r : Int32} {M2 : Mem} (C : Cx w f RL cL_rulings 9 7) (hR : Rt w f cL_rulings (some .boolean) (some (.int r)) M2) {k37 : Nat → Int32 → Int32 → Int32 → Int32 → Mem → Option (Int32 × Mem)} (hk37 : ∀ (r0' : Nat) (x1' : Int32) (x2' : Int32) (x3' : Int32) (x4' : Int32) (M' : Mem), k37 r0' x1' x2' x3' x4' M' = some (r, M2) → Go w f 37 [some (rv w r0'), some (.int x1'), some (.int x2'), some (.int x3'), some (.int x4'), none, none, none, none] [] M') : ∀ (r0 : Nat) (x1 : Int32) (x2 : Int32) (x4 : Int32) (xs0 : Int32) (M : Mem), f_L_rulings_379 k37 r0 x1 x2 x4 xs0 M = some (r, M2) → Go w f 379 [some (rv w r0), some (.int x1), some (.int x2), none, some (.int x4), none, none, none, none] [.int xs0] M := by
  intro r0 x1 x2 x4 xs0 M h
  unfold f_L_rulings_379 at h
  refine g_istore_n C dL_rulings_379 rfl (by decide) rfl (L2 := [some (rv w r0), some (.int x1), some (.int x2), some (.int xs0), some (.int x4), none, none, none, none]) rfl ?_
  obtain ⟨y801, e802, h⟩ := of_bvv h
  refine g_iinc (v := y801) C dL_rulings_380 rfl e802.symm (by decide) rfl (L2 := [some (rv w r0), some (.int x1), some (.int x2), some (.int xs0), some (.int y801), none, none, none, none]) rfl ?_
  refine g_goto 37 C dL_rulings_383 (by decide) ?_
  exact hk37 r0 x1 x2 xs0 y801 M h
def f_L_rulings_378 (k37 : Nat → Int32 → Int32 → Int32 → Int32 → Mem → Option (Int32 × Mem)) (r0 : Nat) (x1 : Int32) (x2 : Int32) (x4 : Int32) (M : Mem) : Option (Int32 × Mem) := f_L_rulings_379 k37 r0 x1 x2 x4 (0 : Int32) M
set_option maxRecDepth 100000 in
set_option maxHeartbeats 4000000 in
theorem t_L_rulings_378 {w : Om} {f : Fr} {r : Int32} {M2 : Mem} (C : Cx w f RL cL_rulings 9 7) (hR : Rt w f cL_rulings (some .boolean) (some (.int r)) M2) {k37 : Nat → Int32 → Int32 → Int32 → Int32 → Mem → Option (Int32 × Mem)} (hk37 : ∀ (r0' : Nat) (x1' : Int32) (x2' : Int32) (x3' : Int32) (x4' : Int32) (M' : Mem), k37 r0' x1' x2' x3' x4' M' = some (r, M2) → Go w f 37 [some (rv w r0'), some (.int x1'), some (.int x2'), some (.int x3'), some (.int x4'), none, none, none, none] [] M') : ∀ (r0 : Nat) (x1 : Int32) (x2 : Int32) (x4 : Int32) (M : Mem), f_L_rulings_378 k37 r0 x1 x2 x4 M = some (r, M2) → Go w f 378 [some (rv w r0), some (.int x1), some (.int x2), none, some (.int x4), none, none, none, none] [] M := by
  intro r0 x1 x2 x4 M h
  unfold f_L_rulings_378 at h
  refine g_iconst (v := 0) C dL_rulings_378 rfl ?_
  exact t_L_rulings_379 C hR (fun r0' x1' x2' x3' x4' M' h => hk37 r0' x1' x2' x3' x4' M' h) r0 x1 x2 x4 (0 : Int32) M h
def f_L_rulings_374 (k37 : Nat → Int32 → Int32 → Int32 → Int32 → Mem → Option (Int32 × Mem)) (r0 : Nat) (x1 : Int32) (x2 : Int32) (x4 : Int32) (M : Mem) : Option (Int32 × Mem) := f_L_rulings_379 k37 r0 x1 x2 x4 (1 : Int32) M
set_option maxRecDepth 100000 in
set_option maxHeartbeats 4000000 in
theorem t_L_rulings_374 {w : Om} {f : Fr} {r : Int32} {M2 : Mem} (C : Cx w f RL cL_rulings 9 7) (hR : Rt w f cL_rulings (some .boolean) (some (.int r)) M2) {k37 : Nat → Int32 → Int32 → Int32 → Int32 → Mem → Option (Int32 × Mem)} (hk37 : ∀ (r0' : Nat) (x1' : Int32) (x2' : Int32) (x3' : Int32) (x4' : Int32) (M' : Mem), k37 r0' x1' x2' x3' x4' M' = some (r, M2) → Go w f 37 [some (rv w r0'), some (.int x1'), some (.int x2'), some (.int x3'), some (.int x4'), none, none, none, none] [] M') : ∀ (r0 : Nat) (x1 : Int32) (x2 : Int32) (x4 : Int32) (M : Mem), f_L_rulings_374 k37 r0 x1 x2 x4 M = some (r, M2) → Go w f 374 [some (rv w r0), some (.int x1), some (.int x2), none, some (.int x4), none, none, none, none] [] M := by
  intro r0 x1 x2 x4 M h
  unfold f_L_rulings_374 at h
  refine g_iconst (v := 1) C dL_rulings_374 rfl ?_
  refine g_goto 379 C dL_rulings_375 (by decide) ?_
  exact t_L_rulings_379 C hR (fun r0' x1' x2' x3' x4' M' h => hk37 r0' x1' x2' x3' x4' M' h) r0 x1 x2 x4 (1 : Int32) M h
def f_L_rulings_337 (k37 : Nat → Int32 → Int32 → Int32 → Int32 → Mem → Option (Int32 × Mem)) (r0 : Nat) (x1 : Int32) (x2 : Int32) (x4 : Int32) (xs0 : Int32) (xs1 : Int32) (M : Mem) : Option (Int32 × Mem) := if xs0 = xs1 then (gdd (kd r0 = 6) <| obb (f_X5_ruling r0 x4 (8 : Int32) M) fun y1103 => if y1103 < 0 then (f_L_rulings_378 k37 r0 x1 x2 x4 M) else (obb (f_X5_ruling r0 x4 (6 : Int32) M) fun y1106 => if y1106 = (1 : Int32) then (f_L_rulings_374 k37 r0 x1 x2 x4 M) else (obb (f_X5_ruling r0 x4 (8 : Int32) M) fun y1109 => if y1109 = 0 then (f_L_rulings_374 k37 r0 x1 x2 x4 M) else (f_L_rulings_378 k37 r0 x1 x2 x4 M)))) else (f_L_rulings_378 k37 r0 x1 x2 x4 M)
set_option maxRecDepth 100000 in
set_option maxHeartbeats 4000000 in
theorem t_L_rulings_337 {w : Om} {f : Fr} {r : Int32} {M2 : Mem} (C : Cx w f RL cL_rulings 9 7) (hR : Rt w f cL_rulings (some .boolean) (some (.int r)) M2) {k37 : Nat → Int32 → Int32 → Int32 → Int32 → Mem → Option (Int32 × Mem)} (hk37 : ∀ (r0' : Nat) (x1' : Int32) (x2' : Int32) (x3' : Int32) (x4' : Int32) (M' : Mem), k37 r0' x1' x2' x3' x4' M' = some (r, M2) → Go w f 37 [some (rv w r0'), some (.int x1'), some (.int x2'), some (.int x3'), some (.int x4'), none, none, none, none] [] M') : ∀ (r0 : Nat) (x1 : Int32) (x2 : Int32) (x4 : Int32) (xs0 : Int32) (xs1 : Int32) (M : Mem), f_L_rulings_337 k37 r0 x1 x2 x4 xs0 xs1 M = some (r, M2) → Go w f 337 [some (rv w r0), some (.int x1), some (.int x2), none, some (.int x4), none, none, none, none] [.int xs1, .int xs0] M := by
  intro r0 x1 x2 x4 xs0 xs1 M h
  unfold f_L_rulings_337 at h
  refine g_icmp_ne 378 C dL_rulings_337 (by decide) (fun c1101 => ?_) (fun c1101 => ?_)
  · replace h := of_iff h c1101
    exact t_L_rulings_378 C hR (fun r0' x1' x2' x3' x4' M' h => hk37 r0' x1' x2' x3' x4' M' h) r0 x1 x2 x4 M h
  · replace h := of_ift h c1101
    refine g_aload_n C dL_rulings_340 rfl rfl ?_
    refine g_iload C dL_rulings_341 rfl ?_
    refine g_bipush (v := 8) C dL_rulings_343 rfl ?_
    obtain ⟨g1102, h⟩ := of_gdd h
    obtain ⟨y1103, e1104, h⟩ := of_obb h
    refine g_callV (As := [.int x4, .int (8 : Int32)]) C (ct_X5_ruling C.wf e1104) g1102 lk_RL_26 mi_X5_ruling (by decide) cs_0 (by decide) dL_rulings_345 rfl ?_
    show Go w f 348 [some (rv w r0), some (.int x1), some (.int x2), none, some (.int x4), none, none, none, none] [.int y1103] M
    refine g_if_lt 378 C dL_rulings_348 (by decide) (fun c1105 => ?_) (fun c1105 => ?_)
    · replace h := of_ift h c1105
      exact t_L_rulings_378 C hR (fun r0' x1' x2' x3' x4' M' h => hk37 r0' x1' x2' x3' x4' M' h) r0 x1 x2 x4 M h
    · replace h := of_iff h c1105
      refine g_aload_n C dL_rulings_351 rfl rfl ?_
      refine g_iload C dL_rulings_352 rfl ?_
      refine g_bipush (v := 6) C dL_rulings_354 rfl ?_
      obtain ⟨y1106, e1107, h⟩ := of_obb h
      refine g_callV (As := [.int x4, .int (6 : Int32)]) C (ct_X5_ruling C.wf e1107) g1102 lk_RL_26 mi_X5_ruling (by decide) cs_0 (by decide) dL_rulings_356 rfl ?_
      show Go w f 359 [some (rv w r0), some (.int x1), some (.int x2), none, some (.int x4), none, none, none, none] [.int y1106] M
      refine g_iconst (v := 1) C dL_rulings_359 rfl ?_
      refine g_icmp_eq 374 C dL_rulings_360 (by decide) (fun c1108 => ?_) (fun c1108 => ?_)
      · replace h := of_ift h c1108
        exact t_L_rulings_374 C hR (fun r0' x1' x2' x3' x4' M' h => hk37 r0' x1' x2' x3' x4' M' h) r0 x1 x2 x4 M h
      · replace h := of_iff h c1108
        refine g_aload_n C dL_rulings_363 rfl rfl ?_
        refine g_iload C dL_rulings_364 rfl ?_
        refine g_bipush (v := 8) C dL_rulings_366 rfl ?_
        obtain ⟨y1109, e1110, h⟩ := of_obb h
        refine g_callV (As := [.int x4, .int (8 : Int32)]) C (ct_X5_ruling C.wf e1110) g1102 lk_RL_26 mi_X5_ruling (by decide) cs_0 (by decide) dL_rulings_368 rfl ?_
        show Go w f 371 [some (rv w r0), some (.int x1), some (.int x2), none, some (.int x4), none, none, none, none] [.int y1109] M
        refine g_if_ne 378 C dL_rulings_371 (by decide) (fun c1111 => ?_) (fun c1111 => ?_)
        · replace h := of_iff h c1111
          exact t_L_rulings_378 C hR (fun r0' x1' x2' x3' x4' M' h => hk37 r0' x1' x2' x3' x4' M' h) r0 x1 x2 x4 M h
        · replace h := of_ift h c1111
          exact t_L_rulings_374 C hR (fun r0' x1' x2' x3' x4' M' h => hk37 r0' x1' x2' x3' x4' M' h) r0 x1 x2 x4 M h
def f_L_rulings_336 (k37 : Nat → Int32 → Int32 → Int32 → Int32 → Mem → Option (Int32 × Mem)) (r0 : Nat) (x1 : Int32) (x2 : Int32) (x4 : Int32) (xs0 : Int32) (M : Mem) : Option (Int32 × Mem) := f_L_rulings_337 k37 r0 x1 x2 x4 xs0 (0 : Int32) M
set_option maxRecDepth 100000 in
set_option maxHeartbeats 4000000 in
theorem t_L_rulings_336 {w : Om} {f : Fr} {r : Int32} {M2 : Mem} (C : Cx w f RL cL_rulings 9 7) (hR : Rt w f cL_rulings (some .boolean) (some (.int r)) M2) {k37 : Nat → Int32 → Int32 → Int32 → Int32 → Mem → Option (Int32 × Mem)} (hk37 : ∀ (r0' : Nat) (x1' : Int32) (x2' : Int32) (x3' : Int32) (x4' : Int32) (M' : Mem), k37 r0' x1' x2' x3' x4' M' = some (r, M2) → Go w f 37 [some (rv w r0'), some (.int x1'), some (.int x2'), some (.int x3'), some (.int x4'), none, none, none, none] [] M') : ∀ (r0 : Nat) (x1 : Int32) (x2 : Int32) (x4 : Int32) (xs0 : Int32) (M : Mem), f_L_rulings_336 k37 r0 x1 x2 x4 xs0 M = some (r, M2) → Go w f 336 [some (rv w r0), some (.int x1), some (.int x2), none, some (.int x4), none, none, none, none] [.int xs0] M := by
  intro r0 x1 x2 x4 xs0 M h
  unfold f_L_rulings_336 at h
  refine g_iconst (v := 0) C dL_rulings_336 rfl ?_
  exact t_L_rulings_337 C hR (fun r0' x1' x2' x3' x4' M' h => hk37 r0' x1' x2' x3' x4' M' h) r0 x1 x2 x4 xs0 (0 : Int32) M h
def f_L_rulings_295 (k37 : Nat → Int32 → Int32 → Int32 → Int32 → Mem → Option (Int32 × Mem)) (r0 : Nat) (x1 : Int32) (x2 : Int32) (x4 : Int32) (x6 : Int32) (x7 : Int32) (M : Mem) : Option (Int32 × Mem) := gdd (kd r0 = 6) <| obb (f_X5_ruling r0 x4 (7 : Int32) M) fun y902 => if y902 = x6 then (obb (f_X5_ruling r0 x4 (6 : Int32) M) fun y905 => obb (f_X5_ruling r0 x4 (5 : Int32) M) fun y907 => if y907 = (1 : Int32) then (if x7 = 0 then (f_L_rulings_337 k37 r0 x1 x2 x4 y905 (1 : Int32) M) else (f_L_rulings_336 k37 r0 x1 x2 x4 y905 M)) else (f_L_rulings_336 k37 r0 x1 x2 x4 y905 M)) else (f_L_rulings_378 k37 r0 x1 x2 x4 M)
set_option maxRecDepth 100000 in
set_option maxHeartbeats 4000000 in
theorem t_L_rulings_295 {w : Om} {f : Fr} {r : Int32} {M2 : Mem} (C : Cx w f RL cL_rulings 9 7) (hR : Rt w f cL_rulings (some .boolean) (some (.int r)) M2) {k37 : Nat → Int32 → Int32 → Int32 → Int32 → Mem → Option (Int32 × Mem)} (hk37 : ∀ (r0' : Nat) (x1' : Int32) (x2' : Int32) (x3' : Int32) (x4' : Int32) (M' : Mem), k37 r0' x1' x2' x3' x4' M' = some (r, M2) → Go w f 37 [some (rv w r0'), some (.int x1'), some (.int x2'), some (.int x3'), some (.int x4'), none, none, none, none] [] M') : ∀ (r0 : Nat) (x1 : Int32) (x2 : Int32) (x4 : Int32) (x6 : Int32) (x7 : Int32) (M : Mem), f_L_rulings_295 k37 r0 x1 x2 x4 x6 x7 M = some (r, M2) → Go w f 295 [some (rv w r0), some (.int x1), some (.int x2), none, some (.int x4), none, some (.int x6), some (.int x7), none] [] M := by
  intro r0 x1 x2 x4 x6 x7 M h
  unfold f_L_rulings_295 at h
  refine g_aload_n C dL_rulings_295 rfl rfl ?_
  refine g_iload C dL_rulings_296 rfl ?_
  refine g_bipush (v := 7) C dL_rulings_298 rfl ?_
  obtain ⟨g901, h⟩ := of_gdd h
  obtain ⟨y902, e903, h⟩ := of_obb h
  refine g_callV (As := [.int x4, .int (7 : Int32)]) C (ct_X5_ruling C.wf e903) g901 lk_RL_26 mi_X5_ruling (by decide) cs_0 (by decide) dL_rulings_300 rfl ?_
  show Go w f 303 [some (rv w r0), some (.int x1), some (.int x2), none, some (.int x4), none, some (.int x6), some (.int x7), none] [.int y902] M
  refine g_iload C dL_rulings_303 rfl ?_
  refine g_icmp_ne 378 C dL_rulings_305 (by decide) (fun c904 => ?_) (fun c904 => ?_)
  · replace h := of_iff h c904
    refine g_mask (bs := [true, true, true, false, true, false, false, false, false]) (L2 := [some (rv w r0), some (.int x1), some (.int x2), none, some (.int x4), none, none, none, none]) rfl ?_
    exact t_L_rulings_378 C hR (fun r0' x1' x2' x3' x4' M' h => hk37 r0' x1' x2' x3' x4' M' h) r0 x1 x2 x4 M h
  · replace h := of_ift h c904
    refine g_aload_n C dL_rulings_308 rfl rfl ?_
    refine g_iload C dL_rulings_309 rfl ?_
    refine g_bipush (v := 6) C dL_rulings_311 rfl ?_
    obtain ⟨y905, e906, h⟩ := of_obb h
    refine g_callV (As := [.int x4, .int (6 : Int32)]) C (ct_X5_ruling C.wf e906) g901 lk_RL_26 mi_X5_ruling (by decide) cs_0 (by decide) dL_rulings_313 rfl ?_
    show Go w f 316 [some (rv w r0), some (.int x1), some (.int x2), none, some (.int x4), none, some (.int x6), some (.int x7), none] [.int y905] M
    refine g_aload_n C dL_rulings_316 rfl rfl ?_
    refine g_iload C dL_rulings_317 rfl ?_
    refine g_iconst (v := 5) C dL_rulings_319 rfl ?_
    obtain ⟨y907, e908, h⟩ := of_obb h
    refine g_callV (As := [.int x4, .int (5 : Int32)]) C (ct_X5_ruling C.wf e908) g901 lk_RL_26 mi_X5_ruling (by decide) (cs_i cs_0) (by decide) dL_rulings_320 rfl ?_
    show Go w f 323 [some (rv w r0), some (.int x1), some (.int x2), none, some (.int x4), none, some (.int x6), some (.int x7), none] [.int y907, .int y905] M
    refine g_iconst (v := 1) C dL_rulings_323 rfl ?_
    refine g_icmp_ne 336 C dL_rulings_324 (by decide) (fun c909 => ?_) (fun c909 => ?_)
    · replace h := of_iff h c909
      refine g_mask (bs := [true, true, true, false, true, false, false, false, false]) (L2 := [some (rv w r0), some (.int x1), some (.int x2), none, some (.int x4), none, none, none, none]) rfl ?_
      exact t_L_rulings_336 C hR (fun r0' x1' x2' x3' x4' M' h => hk37 r0' x1' x2' x3' x4' M' h) r0 x1 x2 x4 y905 M h
    · replace h := of_ift h c909
      refine g_iload C dL_rulings_327 rfl ?_
      refine g_if_ne 336 C dL_rulings_329 (by decide) (fun c910 => ?_) (fun c910 => ?_)
      · replace h := of_iff h c910
        refine g_mask (bs := [true, true, true, false, true, false, false, false, false]) (L2 := [some (rv w r0), some (.int x1), some (.int x2), none, some (.int x4), none, none, none, none]) rfl ?_
        exact t_L_rulings_336 C hR (fun r0' x1' x2' x3' x4' M' h => hk37 r0' x1' x2' x3' x4' M' h) r0 x1 x2 x4 y905 M h
      · replace h := of_ift h c910
        refine g_iconst (v := 1) C dL_rulings_332 rfl ?_
        refine g_goto 337 C dL_rulings_333 (by decide) ?_
        refine g_mask (bs := [true, true, true, false, true, false, false, false, false]) (L2 := [some (rv w r0), some (.int x1), some (.int x2), none, some (.int x4), none, none, none, none]) rfl ?_
        exact t_L_rulings_337 C hR (fun r0' x1' x2' x3' x4' M' h => hk37 r0' x1' x2' x3' x4' M' h) r0 x1 x2 x4 y905 (1 : Int32) M h
def f_L_rulings_163 (k37 : Nat → Int32 → Int32 → Int32 → Int32 → Mem → Option (Int32 × Mem)) (k69 : Nat → Int32 → Int32 → Int32 → Int32 → Int32 → Int32 → Int32 → Mem → Option (Int32 × Mem)) (r0 : Nat) (x1 : Int32) (x2 : Int32) (x4 : Int32) (x5 : Int32) (x6 : Int32) (x8 : Int32) (xs0 : Int32) (M : Mem) : Option (Int32 × Mem) := bvv (x8 + (1 : Int32)) fun y1501 => k69 r0 x1 x2 x4 x5 x6 xs0 y1501 M
set_option maxRecDepth 100000 in
set_option maxHeartbeats 4000000 in
theorem t_L_rulings_163 {w : Om} {f : Fr} {r : Int32} {M2 : Mem} (C : Cx w f RL cL_rulings 9 7) (hR : Rt w f cL_rulings (some .boolean) (some (.int r)) M2) {k37 : Nat → Int32 → Int32 → Int32 → Int32 → Mem → Option (Int32 × Mem)} {k69 : Nat → Int32 → Int32 → Int32 → Int32 → Int32 → Int32 → Int32 → Mem → Option (Int32 × Mem)} (hk37 : ∀ (r0' : Nat) (x1' : Int32) (x2' : Int32) (x3' : Int32) (x4' : Int32) (M' : Mem), k37 r0' x1' x2' x3' x4' M' = some (r, M2) → Go w f 37 [some (rv w r0'), some (.int x1'), some (.int x2'), some (.int x3'), some (.int x4'), none, none, none, none] [] M') (hk69 : ∀ (r0' : Nat) (x1' : Int32) (x2' : Int32) (x4' : Int32) (x5' : Int32) (x6' : Int32) (x7' : Int32) (x8' : Int32) (M' : Mem), k69 r0' x1' x2' x4' x5' x6' x7' x8' M' = some (r, M2) → Go w f 69 [some (rv w r0'), some (.int x1'), some (.int x2'), none, some (.int x4'), some (.int x5'), some (.int x6'), some (.int x7'), some (.int x8')] [] M') : ∀ (r0 : Nat) (x1 : Int32) (x2 : Int32) (x4 : Int32) (x5 : Int32) (x6 : Int32) (x8 : Int32) (xs0 : Int32) (M : Mem), f_L_rulings_163 k37 k69 r0 x1 x2 x4 x5 x6 x8 xs0 M = some (r, M2) → Go w f 163 [some (rv w r0), some (.int x1), some (.int x2), none, some (.int x4), some (.int x5), some (.int x6), none, some (.int x8)] [.int xs0] M := by
  intro r0 x1 x2 x4 x5 x6 x8 xs0 M h
  unfold f_L_rulings_163 at h
  refine g_istore C dL_rulings_163 (by decide) rfl (L2 := [some (rv w r0), some (.int x1), some (.int x2), none, some (.int x4), some (.int x5), some (.int x6), some (.int xs0), some (.int x8)]) rfl ?_
  obtain ⟨y1501, e1502, h⟩ := of_bvv h
  refine g_iinc (v := y1501) C dL_rulings_165 rfl e1502.symm (by decide) rfl (L2 := [some (rv w r0), some (.int x1), some (.int x2), none, some (.int x4), some (.int x5), some (.int x6), some (.int xs0), some (.int y1501)]) rfl ?_
  refine g_goto 69 C dL_rulings_168 (by decide) ?_
  exact hk69 r0 x1 x2 x4 x5 x6 xs0 y1501 M h
def f_L_rulings_158 (k37 : Nat → Int32 → Int32 → Int32 → Int32 → Mem → Option (Int32 × Mem)) (k69 : Nat → Int32 → Int32 → Int32 → Int32 → Int32 → Int32 → Int32 → Mem → Option (Int32 × Mem)) (r0 : Nat) (x1 : Int32) (x2 : Int32) (x4 : Int32) (x5 : Int32) (x6 : Int32) (x8 : Int32) (M : Mem) : Option (Int32 × Mem) := f_L_rulings_163 k37 k69 r0 x1 x2 x4 x5 x6 x8 (1 : Int32) M
set_option maxRecDepth 100000 in
set_option maxHeartbeats 4000000 in
theorem t_L_rulings_158 {w : Om} {f : Fr} {r : Int32} {M2 : Mem} (C : Cx w f RL cL_rulings 9 7) (hR : Rt w f cL_rulings (some .boolean) (some (.int r)) M2) {k37 : Nat → Int32 → Int32 → Int32 → Int32 → Mem → Option (Int32 × Mem)} {k69 : Nat → Int32 → Int32 → Int32 → Int32 → Int32 → Int32 → Int32 → Mem → Option (Int32 × Mem)} (hk37 : ∀ (r0' : Nat) (x1' : Int32) (x2' : Int32) (x3' : Int32) (x4' : Int32) (M' : Mem), k37 r0' x1' x2' x3' x4' M' = some (r, M2) → Go w f 37 [some (rv w r0'), some (.int x1'), some (.int x2'), some (.int x3'), some (.int x4'), none, none, none, none] [] M') (hk69 : ∀ (r0' : Nat) (x1' : Int32) (x2' : Int32) (x4' : Int32) (x5' : Int32) (x6' : Int32) (x7' : Int32) (x8' : Int32) (M' : Mem), k69 r0' x1' x2' x4' x5' x6' x7' x8' M' = some (r, M2) → Go w f 69 [some (rv w r0'), some (.int x1'), some (.int x2'), none, some (.int x4'), some (.int x5'), some (.int x6'), some (.int x7'), some (.int x8')] [] M') : ∀ (r0 : Nat) (x1 : Int32) (x2 : Int32) (x4 : Int32) (x5 : Int32) (x6 : Int32) (x8 : Int32) (M : Mem), f_L_rulings_158 k37 k69 r0 x1 x2 x4 x5 x6 x8 M = some (r, M2) → Go w f 158 [some (rv w r0), some (.int x1), some (.int x2), none, some (.int x4), some (.int x5), some (.int x6), none, some (.int x8)] [] M := by
  intro r0 x1 x2 x4 x5 x6 x8 M h
  unfold f_L_rulings_158 at h
  refine g_iconst (v := 1) C dL_rulings_158 rfl ?_
  refine g_goto 163 C dL_rulings_159 (by decide) ?_
  exact t_L_rulings_163 C hR (fun r0' x1' x2' x3' x4' M' h => hk37 r0' x1' x2' x3' x4' M' h) (fun r0' x1' x2' x4' x5' x6' x7' x8' M' h => hk69 r0' x1' x2' x4' x5' x6' x7' x8' M' h) r0 x1 x2 x4 x5 x6 x8 (1 : Int32) M h
def f_L_rulings_162 (k37 : Nat → Int32 → Int32 → Int32 → Int32 → Mem → Option (Int32 × Mem)) (k69 : Nat → Int32 → Int32 → Int32 → Int32 → Int32 → Int32 → Int32 → Mem → Option (Int32 × Mem)) (r0 : Nat) (x1 : Int32) (x2 : Int32) (x4 : Int32) (x5 : Int32) (x6 : Int32) (x8 : Int32) (M : Mem) : Option (Int32 × Mem) := f_L_rulings_163 k37 k69 r0 x1 x2 x4 x5 x6 x8 (0 : Int32) M
set_option maxRecDepth 100000 in
set_option maxHeartbeats 4000000 in
theorem t_L_rulings_162 {w : Om} {f : Fr} {r : Int32} {M2 : Mem} (C : Cx w f RL cL_rulings 9 7) (hR : Rt w f cL_rulings (some .boolean) (some (.int r)) M2) {k37 : Nat → Int32 → Int32 → Int32 → Int32 → Mem → Option (Int32 × Mem)} {k69 : Nat → Int32 → Int32 → Int32 → Int32 → Int32 → Int32 → Int32 → Mem → Option (Int32 × Mem)} (hk37 : ∀ (r0' : Nat) (x1' : Int32) (x2' : Int32) (x3' : Int32) (x4' : Int32) (M' : Mem), k37 r0' x1' x2' x3' x4' M' = some (r, M2) → Go w f 37 [some (rv w r0'), some (.int x1'), some (.int x2'), some (.int x3'), some (.int x4'), none, none, none, none] [] M') (hk69 : ∀ (r0' : Nat) (x1' : Int32) (x2' : Int32) (x4' : Int32) (x5' : Int32) (x6' : Int32) (x7' : Int32) (x8' : Int32) (M' : Mem), k69 r0' x1' x2' x4' x5' x6' x7' x8' M' = some (r, M2) → Go w f 69 [some (rv w r0'), some (.int x1'), some (.int x2'), none, some (.int x4'), some (.int x5'), some (.int x6'), some (.int x7'), some (.int x8')] [] M') : ∀ (r0 : Nat) (x1 : Int32) (x2 : Int32) (x4 : Int32) (x5 : Int32) (x6 : Int32) (x8 : Int32) (M : Mem), f_L_rulings_162 k37 k69 r0 x1 x2 x4 x5 x6 x8 M = some (r, M2) → Go w f 162 [some (rv w r0), some (.int x1), some (.int x2), none, some (.int x4), some (.int x5), some (.int x6), none, some (.int x8)] [] M := by
  intro r0 x1 x2 x4 x5 x6 x8 M h
  unfold f_L_rulings_162 at h
  refine g_iconst (v := 0) C dL_rulings_162 rfl ?_
  exact t_L_rulings_163 C hR (fun r0' x1' x2' x3' x4' M' h => hk37 r0' x1' x2' x3' x4' M' h) (fun r0' x1' x2' x4' x5' x6' x7' x8' M' h => hk69 r0' x1' x2' x4' x5' x6' x7' x8' M' h) r0 x1 x2 x4 x5 x6 x8 (0 : Int32) M h
def f_L_rulings_98 (k37 : Nat → Int32 → Int32 → Int32 → Int32 → Mem → Option (Int32 × Mem)) (k69 : Nat → Int32 → Int32 → Int32 → Int32 → Int32 → Int32 → Int32 → Mem → Option (Int32 × Mem)) (r0 : Nat) (x1 : Int32) (x2 : Int32) (x4 : Int32) (x5 : Int32) (x7 : Int32) (x8 : Int32) (xs0 : Int32) (xs1 : Int32) (M : Mem) : Option (Int32 × Mem) := bvv (xs0 + xs1) fun y1301 => if x7 = 0 then (if x8 ≤ x4 then (f_L_rulings_162 k37 k69 r0 x1 x2 x4 x5 y1301 x8 M) else (gdd (kd r0 = 6) <| obb (f_X5_ruling r0 x8 (0 : Int32) M) fun y1306 => obb (f_X5_ruling r0 x4 (0 : Int32) M) fun y1308 => if y1306 = y1308 then (obb (f_X5_ruling r0 x8 (1 : Int32) M) fun y1311 => obb (f_X5_ruling r0 x4 (1 : Int32) M) fun y1313 => if y1311 = y1313 then (obb (f_X5_ruling r0 x8 (5 : Int32) M) fun y1316 => if y1316 = (1 : Int32) then (f_L_rulings_158 k37 k69 r0 x1 x2 x4 x5 y1301 x8 M) else (f_L_rulings_162 k37 k69 r0 x1 x2 x4 x5 y1301 x8 M)) else (f_L_rulings_162 k37 k69 r0 x1 x2 x4 x5 y1301 x8 M)) else (f_L_rulings_162 k37 k69 r0 x1 x2 x4 x5 y1301 x8 M))) else (f_L_rulings_158 k37 k69 r0 x1 x2 x4 x5 y1301 x8 M)
set_option maxRecDepth 100000 in
set_option maxHeartbeats 4000000 in
theorem t_L_rulings_98 {w : Om} {f : Fr} {r : Int32} {M2 : Mem} (C : Cx w f RL cL_rulings 9 7) (hR : Rt w f cL_rulings (some .boolean) (some (.int r)) M2) {k37 : Nat → Int32 → Int32 → Int32 → Int32 → Mem → Option (Int32 × Mem)} {k69 : Nat → Int32 → Int32 → Int32 → Int32 → Int32 → Int32 → Int32 → Mem → Option (Int32 × Mem)} (hk37 : ∀ (r0' : Nat) (x1' : Int32) (x2' : Int32) (x3' : Int32) (x4' : Int32) (M' : Mem), k37 r0' x1' x2' x3' x4' M' = some (r, M2) → Go w f 37 [some (rv w r0'), some (.int x1'), some (.int x2'), some (.int x3'), some (.int x4'), none, none, none, none] [] M') (hk69 : ∀ (r0' : Nat) (x1' : Int32) (x2' : Int32) (x4' : Int32) (x5' : Int32) (x6' : Int32) (x7' : Int32) (x8' : Int32) (M' : Mem), k69 r0' x1' x2' x4' x5' x6' x7' x8' M' = some (r, M2) → Go w f 69 [some (rv w r0'), some (.int x1'), some (.int x2'), none, some (.int x4'), some (.int x5'), some (.int x6'), some (.int x7'), some (.int x8')] [] M') : ∀ (r0 : Nat) (x1 : Int32) (x2 : Int32) (x4 : Int32) (x5 : Int32) (x7 : Int32) (x8 : Int32) (xs0 : Int32) (xs1 : Int32) (M : Mem), f_L_rulings_98 k37 k69 r0 x1 x2 x4 x5 x7 x8 xs0 xs1 M = some (r, M2) → Go w f 98 [some (rv w r0), some (.int x1), some (.int x2), none, some (.int x4), some (.int x5), none, some (.int x7), some (.int x8)] [.int xs1, .int xs0] M := by
  intro r0 x1 x2 x4 x5 x7 x8 xs0 xs1 M h
  unfold f_L_rulings_98 at h
  refine g_iadd C dL_rulings_98 ?_
  obtain ⟨y1301, e1302, h⟩ := of_bvv h
  refine g_topi e1302 ?_
  refine g_istore C dL_rulings_99 (by decide) rfl (L2 := [some (rv w r0), some (.int x1), some (.int x2), none, some (.int x4), some (.int x5), some (.int y1301), some (.int x7), some (.int x8)]) rfl ?_
  refine g_iload C dL_rulings_101 rfl ?_
  refine g_if_ne 158 C dL_rulings_103 (by decide) (fun c1303 => ?_) (fun c1303 => ?_)
  · replace h := of_iff h c1303
    refine g_mask (bs := [true, true, true, false, true, true, true, false, true]) (L2 := [some (rv w r0), some (.int x1), some (.int x2), none, some (.int x4), some (.int x5), some (.int y1301), none, some (.int x8)]) rfl ?_
    exact t_L_rulings_158 C hR (fun r0' x1' x2' x3' x4' M' h => hk37 r0' x1' x2' x3' x4' M' h) (fun r0' x1' x2' x4' x5' x6' x7' x8' M' h => hk69 r0' x1' x2' x4' x5' x6' x7' x8' M' h) r0 x1 x2 x4 x5 y1301 x8 M h
  · replace h := of_ift h c1303
    refine g_iload C dL_rulings_106 rfl ?_
    refine g_iload C dL_rulings_108 rfl ?_
    refine g_icmp_le 162 C dL_rulings_110 (by decide) (fun c1304 => ?_) (fun c1304 => ?_)
    · replace h := of_ift h c1304
      refine g_mask (bs := [true, true, true, false, true, true, true, false, true]) (L2 := [some (rv w r0), some (.int x1), some (.int x2), none, some (.int x4), some (.int x5), some (.int y1301), none, some (.int x8)]) rfl ?_
      exact t_L_rulings_162 C hR (fun r0' x1' x2' x3' x4' M' h => hk37 r0' x1' x2' x3' x4' M' h) (fun r0' x1' x2' x4' x5' x6' x7' x8' M' h => hk69 r0' x1' x2' x4' x5' x6' x7' x8' M' h) r0 x1 x2 x4 x5 y1301 x8 M h
    · replace h := of_iff h c1304
      refine g_aload_n C dL_rulings_113 rfl rfl ?_
      refine g_iload C dL_rulings_114 rfl ?_
      refine g_iconst (v := 0) C dL_rulings_116 rfl ?_
      obtain ⟨g1305, h⟩ := of_gdd h
      obtain ⟨y1306, e1307, h⟩ := of_obb h
      refine g_callV (As := [.int x8, .int (0 : Int32)]) C (ct_X5_ruling C.wf e1307) g1305 lk_RL_26 mi_X5_ruling (by decide) cs_0 (by decide) dL_rulings_117 rfl ?_
      show Go w f 120 [some (rv w r0), some (.int x1), some (.int x2), none, some (.int x4), some (.int x5), some (.int y1301), some (.int x7), some (.int x8)] [.int y1306] M
      refine g_aload_n C dL_rulings_120 rfl rfl ?_
      refine g_iload C dL_rulings_121 rfl ?_
      refine g_iconst (v := 0) C dL_rulings_123 rfl ?_
      obtain ⟨y1308, e1309, h⟩ := of_obb h
      refine g_callV (As := [.int x4, .int (0 : Int32)]) C (ct_X5_ruling C.wf e1309) g1305 lk_RL_26 mi_X5_ruling (by decide) (cs_i cs_0) (by decide) dL_rulings_124 rfl ?_
      show Go w f 127 [some (rv w r0), some (.int x1), some (.int x2), none, some (.int x4), some (.int x5), some (.int y1301), some (.int x7), some (.int x8)] [.int y1308, .int y1306] M
      refine g_icmp_ne 162 C dL_rulings_127 (by decide) (fun c1310 => ?_) (fun c1310 => ?_)
      · replace h := of_iff h c1310
        refine g_mask (bs := [true, true, true, false, true, true, true, false, true]) (L2 := [some (rv w r0), some (.int x1), some (.int x2), none, some (.int x4), some (.int x5), some (.int y1301), none, some (.int x8)]) rfl ?_
        exact t_L_rulings_162 C hR (fun r0' x1' x2' x3' x4' M' h => hk37 r0' x1' x2' x3' x4' M' h) (fun r0' x1' x2' x4' x5' x6' x7' x8' M' h => hk69 r0' x1' x2' x4' x5' x6' x7' x8' M' h) r0 x1 x2 x4 x5 y1301 x8 M h
      · replace h := of_ift h c1310
        refine g_aload_n C dL_rulings_130 rfl rfl ?_
        refine g_iload C dL_rulings_131 rfl ?_
        refine g_iconst (v := 1) C dL_rulings_133 rfl ?_
        obtain ⟨y1311, e1312, h⟩ := of_obb h
        refine g_callV (As := [.int x8, .int (1 : Int32)]) C (ct_X5_ruling C.wf e1312) g1305 lk_RL_26 mi_X5_ruling (by decide) cs_0 (by decide) dL_rulings_134 rfl ?_
        show Go w f 137 [some (rv w r0), some (.int x1), some (.int x2), none, some (.int x4), some (.int x5), some (.int y1301), some (.int x7), some (.int x8)] [.int y1311] M
        refine g_aload_n C dL_rulings_137 rfl rfl ?_
        refine g_iload C dL_rulings_138 rfl ?_
        refine g_iconst (v := 1) C dL_rulings_140 rfl ?_
        obtain ⟨y1313, e1314, h⟩ := of_obb h
        refine g_callV (As := [.int x4, .int (1 : Int32)]) C (ct_X5_ruling C.wf e1314) g1305 lk_RL_26 mi_X5_ruling (by decide) (cs_i cs_0) (by decide) dL_rulings_141 rfl ?_
        show Go w f 144 [some (rv w r0), some (.int x1), some (.int x2), none, some (.int x4), some (.int x5), some (.int y1301), some (.int x7), some (.int x8)] [.int y1313, .int y1311] M
        refine g_icmp_ne 162 C dL_rulings_144 (by decide) (fun c1315 => ?_) (fun c1315 => ?_)
        · replace h := of_iff h c1315
          refine g_mask (bs := [true, true, true, false, true, true, true, false, true]) (L2 := [some (rv w r0), some (.int x1), some (.int x2), none, some (.int x4), some (.int x5), some (.int y1301), none, some (.int x8)]) rfl ?_
          exact t_L_rulings_162 C hR (fun r0' x1' x2' x3' x4' M' h => hk37 r0' x1' x2' x3' x4' M' h) (fun r0' x1' x2' x4' x5' x6' x7' x8' M' h => hk69 r0' x1' x2' x4' x5' x6' x7' x8' M' h) r0 x1 x2 x4 x5 y1301 x8 M h
        · replace h := of_ift h c1315
          refine g_aload_n C dL_rulings_147 rfl rfl ?_
          refine g_iload C dL_rulings_148 rfl ?_
          refine g_iconst (v := 5) C dL_rulings_150 rfl ?_
          obtain ⟨y1316, e1317, h⟩ := of_obb h
          refine g_callV (As := [.int x8, .int (5 : Int32)]) C (ct_X5_ruling C.wf e1317) g1305 lk_RL_26 mi_X5_ruling (by decide) cs_0 (by decide) dL_rulings_151 rfl ?_
          show Go w f 154 [some (rv w r0), some (.int x1), some (.int x2), none, some (.int x4), some (.int x5), some (.int y1301), some (.int x7), some (.int x8)] [.int y1316] M
          refine g_iconst (v := 1) C dL_rulings_154 rfl ?_
          refine g_icmp_ne 162 C dL_rulings_155 (by decide) (fun c1318 => ?_) (fun c1318 => ?_)
          · replace h := of_iff h c1318
            refine g_mask (bs := [true, true, true, false, true, true, true, false, true]) (L2 := [some (rv w r0), some (.int x1), some (.int x2), none, some (.int x4), some (.int x5), some (.int y1301), none, some (.int x8)]) rfl ?_
            exact t_L_rulings_162 C hR (fun r0' x1' x2' x3' x4' M' h => hk37 r0' x1' x2' x3' x4' M' h) (fun r0' x1' x2' x4' x5' x6' x7' x8' M' h => hk69 r0' x1' x2' x4' x5' x6' x7' x8' M' h) r0 x1 x2 x4 x5 y1301 x8 M h
          · replace h := of_ift h c1318
            refine g_mask (bs := [true, true, true, false, true, true, true, false, true]) (L2 := [some (rv w r0), some (.int x1), some (.int x2), none, some (.int x4), some (.int x5), some (.int y1301), none, some (.int x8)]) rfl ?_
            exact t_L_rulings_158 C hR (fun r0' x1' x2' x3' x4' M' h => hk37 r0' x1' x2' x3' x4' M' h) (fun r0' x1' x2' x4' x5' x6' x7' x8' M' h => hk69 r0' x1' x2' x4' x5' x6' x7' x8' M' h) r0 x1 x2 x4 x5 y1301 x8 M h
def f_L_rulings_69 (k37 : Nat → Int32 → Int32 → Int32 → Int32 → Mem → Option (Int32 × Mem)) : Nat → Nat → Int32 → Int32 → Int32 → Int32 → Int32 → Int32 → Int32 → Mem → Option (Int32 × Mem)
  | 0, _, _, _, _, _, _, _, _, _ => none
  | n + 1, r0, x1, x2, x4, x5, x6, x7, x8, M => gdd (kd r0 = 6) <| opp (f_X5_count r0 (4 : Int32) M) fun y604 M602 => if y604 ≤ x8 then (obb (f_X5_ruling r0 x4 (5 : Int32) M602) fun y606 => bvv (x1 + y606) fun y608 => obb (f_X5_ruling r0 x4 (6 : Int32) M602) fun y610 => bvv (x2 + y610) fun y612 => obb (f_X5_ruling r0 x4 (0 : Int32) M602) fun y614 => if y614 < 0 then (f_L_rulings_378 k37 r0 y608 y612 x4 M602) else (obb (f_X5_ruling r0 x4 (0 : Int32) M602) fun y617 => if (6 : Int32) ≤ y617 then (f_L_rulings_378 k37 r0 y608 y612 x4 M602) else (obb (f_X5_ruling r0 x4 (1 : Int32) M602) fun y620 => if y620 < 0 then (f_L_rulings_378 k37 r0 y608 y612 x4 M602) else (obb (f_X5_ruling r0 x4 (1 : Int32) M602) fun y623 => if (6 : Int32) ≤ y623 then (f_L_rulings_378 k37 r0 y608 y612 x4 M602) else (obb (f_X5_ruling r0 x4 (3 : Int32) M602) fun y626 => if y626 < (1 : Int32) then (f_L_rulings_378 k37 r0 y608 y612 x4 M602) else (obb (f_X5_ruling r0 x4 (3 : Int32) M602) fun y629 => if (20 : Int32) < y629 then (f_L_rulings_378 k37 r0 y608 y612 x4 M602) else (if x5 = (-4 : Int32) then (f_L_rulings_295 k37 r0 y608 y612 x4 x6 x7 M602) else (if x5 < 0 then (f_L_rulings_378 k37 r0 y608 y612 x4 M602) else (if x4 ≤ x5 then (f_L_rulings_378 k37 r0 y608 y612 x4 M602) else (obb (f_X5_ruling r0 x4 (5 : Int32) M602) fun y635 => obb (f_X5_ruling r0 x5 (5 : Int32) M602) fun y637 => if y637 < y635 then (f_L_rulings_378 k37 r0 y608 y612 x4 M602) else (f_L_rulings_295 k37 r0 y608 y612 x4 x6 x7 M602))))))))))) else (obb (f_X5_ruling r0 x8 (4 : Int32) M602) fun y640 => if y640 = x4 then (f_L_rulings_98 k37 (f_L_rulings_69 k37 n) r0 x1 x2 x4 x5 x7 x8 x6 (1 : Int32) M602) else (f_L_rulings_98 k37 (f_L_rulings_69 k37 n) r0 x1 x2 x4 x5 x7 x8 x6 (0 : Int32) M602))
set_option maxRecDepth 100000 in
set_option maxHeartbeats 4000000 in
theorem t_L_rulings_69 {w : Om} {f : Fr} {r : Int32} {M2 : Mem} (C : Cx w f RL cL_rulings 9 7) (hR : Rt w f cL_rulings (some .boolean) (some (.int r)) M2) {k37 : Nat → Int32 → Int32 → Int32 → Int32 → Mem → Option (Int32 × Mem)} (hk37 : ∀ (r0' : Nat) (x1' : Int32) (x2' : Int32) (x3' : Int32) (x4' : Int32) (M' : Mem), k37 r0' x1' x2' x3' x4' M' = some (r, M2) → Go w f 37 [some (rv w r0'), some (.int x1'), some (.int x2'), some (.int x3'), some (.int x4'), none, none, none, none] [] M') : ∀ (n : Nat) (r0 : Nat) (x1 : Int32) (x2 : Int32) (x4 : Int32) (x5 : Int32) (x6 : Int32) (x7 : Int32) (x8 : Int32) (M : Mem), f_L_rulings_69 k37 n r0 x1 x2 x4 x5 x6 x7 x8 M = some (r, M2) → Go w f 69 [some (rv w r0), some (.int x1), some (.int x2), none, some (.int x4), some (.int x5), some (.int x6), some (.int x7), some (.int x8)] [] M := by
  intro n
  induction n with
  | zero =>
    intro r0 x1 x2 x4 x5 x6 x7 x8 M h
    cases h
  | succ n ih =>
    intro r0 x1 x2 x4 x5 x6 x7 x8 M h
    rw [f_L_rulings_69] at h
    refine g_iload C dL_rulings_69 rfl ?_
    refine g_aload_n C dL_rulings_71 rfl rfl ?_
    refine g_iconst (v := 4) C dL_rulings_72 rfl ?_
    obtain ⟨g601, h⟩ := of_gdd h
    obtain ⟨y604, M602, e603, h⟩ := of_opp h
    refine g_callV (As := [.int (4 : Int32)]) C (ct_X5_count C.wf e603) g601 lk_RL_13 mi_X5_count (by decide) (cs_i cs_0) (by decide) dL_rulings_73 rfl ?_
    show Go w f 76 [some (rv w r0), some (.int x1), some (.int x2), none, some (.int x4), some (.int x5), some (.int x6), some (.int x7), some (.int x8)] [.int y604, .int x8] M602
    refine g_icmp_ge 171 C dL_rulings_76 (by decide) (fun c605 => ?_) (fun c605 => ?_)
    · replace h := of_ift h c605
      refine g_iload_n C dL_rulings_171 rfl rfl ?_
      refine g_aload_n C dL_rulings_172 rfl rfl ?_
      refine g_iload C dL_rulings_173 rfl ?_
      refine g_iconst (v := 5) C dL_rulings_175 rfl ?_
      obtain ⟨y606, e607, h⟩ := of_obb h
      refine g_callV (As := [.int x4, .int (5 : Int32)]) C (ct_X5_ruling C.wf e607) g601 lk_RL_26 mi_X5_ruling (by decide) (cs_i cs_0) (by decide) dL_rulings_176 rfl ?_
      show Go w f 179 [some (rv w r0), some (.int x1), some (.int x2), none, some (.int x4), some (.int x5), some (.int x6), some (.int x7), some (.int x8)] [.int y606, .int x1] M602
      refine g_iadd C dL_rulings_179 ?_
      obtain ⟨y608, e609, h⟩ := of_bvv h
      refine g_topi e609 ?_
      refine g_istore_n C dL_rulings_180 rfl (by decide) (rv_cat _ _) (L2 := [some (rv w r0), some (.int y608), some (.int x2), none, some (.int x4), some (.int x5), some (.int x6), some (.int x7), some (.int x8)]) rfl ?_
      refine g_iload_n C dL_rulings_181 rfl rfl ?_
      refine g_aload_n C dL_rulings_182 rfl rfl ?_
      refine g_iload C dL_rulings_183 rfl ?_
      refine g_bipush (v := 6) C dL_rulings_185 rfl ?_
      obtain ⟨y610, e611, h⟩ := of_obb h
      refine g_callV (As := [.int x4, .int (6 : Int32)]) C (ct_X5_ruling C.wf e611) g601 lk_RL_26 mi_X5_ruling (by decide) (cs_i cs_0) (by decide) dL_rulings_187 rfl ?_
      show Go w f 190 [some (rv w r0), some (.int y608), some (.int x2), none, some (.int x4), some (.int x5), some (.int x6), some (.int x7), some (.int x8)] [.int y610, .int x2] M602
      refine g_iadd C dL_rulings_190 ?_
      obtain ⟨y612, e613, h⟩ := of_bvv h
      refine g_topi e613 ?_
      refine g_istore_n C dL_rulings_191 rfl (by decide) rfl (L2 := [some (rv w r0), some (.int y608), some (.int y612), none, some (.int x4), some (.int x5), some (.int x6), some (.int x7), some (.int x8)]) rfl ?_
      refine g_aload_n C dL_rulings_192 rfl rfl ?_
      refine g_iload C dL_rulings_193 rfl ?_
      refine g_iconst (v := 0) C dL_rulings_195 rfl ?_
      obtain ⟨y614, e615, h⟩ := of_obb h
      refine g_callV (As := [.int x4, .int (0 : Int32)]) C (ct_X5_ruling C.wf e615) g601 lk_RL_26 mi_X5_ruling (by decide) cs_0 (by decide) dL_rulings_196 rfl ?_
      show Go w f 199 [some (rv w r0), some (.int y608), some (.int y612), none, some (.int x4), some (.int x5), some (.int x6), some (.int x7), some (.int x8)] [.int y614] M602
      refine g_if_lt 378 C dL_rulings_199 (by decide) (fun c616 => ?_) (fun c616 => ?_)
      · replace h := of_ift h c616
        refine g_mask (bs := [true, true, true, false, true, false, false, false, false]) (L2 := [some (rv w r0), some (.int y608), some (.int y612), none, some (.int x4), none, none, none, none]) rfl ?_
        exact t_L_rulings_378 C hR (fun r0' x1' x2' x3' x4' M' h => hk37 r0' x1' x2' x3' x4' M' h) r0 y608 y612 x4 M602 h
      · replace h := of_iff h c616
        refine g_aload_n C dL_rulings_202 rfl rfl ?_
        refine g_iload C dL_rulings_203 rfl ?_
        refine g_iconst (v := 0) C dL_rulings_205 rfl ?_
        obtain ⟨y617, e618, h⟩ := of_obb h
        refine g_callV (As := [.int x4, .int (0 : Int32)]) C (ct_X5_ruling C.wf e618) g601 lk_RL_26 mi_X5_ruling (by decide) cs_0 (by decide) dL_rulings_206 rfl ?_
        show Go w f 209 [some (rv w r0), some (.int y608), some (.int y612), none, some (.int x4), some (.int x5), some (.int x6), some (.int x7), some (.int x8)] [.int y617] M602
        refine g_bipush (v := 6) C dL_rulings_209 rfl ?_
        refine g_icmp_ge 378 C dL_rulings_211 (by decide) (fun c619 => ?_) (fun c619 => ?_)
        · replace h := of_ift h c619
          refine g_mask (bs := [true, true, true, false, true, false, false, false, false]) (L2 := [some (rv w r0), some (.int y608), some (.int y612), none, some (.int x4), none, none, none, none]) rfl ?_
          exact t_L_rulings_378 C hR (fun r0' x1' x2' x3' x4' M' h => hk37 r0' x1' x2' x3' x4' M' h) r0 y608 y612 x4 M602 h
        · replace h := of_iff h c619
          refine g_aload_n C dL_rulings_214 rfl rfl ?_
          refine g_iload C dL_rulings_215 rfl ?_
          refine g_iconst (v := 1) C dL_rulings_217 rfl ?_
          obtain ⟨y620, e621, h⟩ := of_obb h
          refine g_callV (As := [.int x4, .int (1 : Int32)]) C (ct_X5_ruling C.wf e621) g601 lk_RL_26 mi_X5_ruling (by decide) cs_0 (by decide) dL_rulings_218 rfl ?_
          show Go w f 221 [some (rv w r0), some (.int y608), some (.int y612), none, some (.int x4), some (.int x5), some (.int x6), some (.int x7), some (.int x8)] [.int y620] M602
          refine g_if_lt 378 C dL_rulings_221 (by decide) (fun c622 => ?_) (fun c622 => ?_)
          · replace h := of_ift h c622
            refine g_mask (bs := [true, true, true, false, true, false, false, false, false]) (L2 := [some (rv w r0), some (.int y608), some (.int y612), none, some (.int x4), none, none, none, none]) rfl ?_
            exact t_L_rulings_378 C hR (fun r0' x1' x2' x3' x4' M' h => hk37 r0' x1' x2' x3' x4' M' h) r0 y608 y612 x4 M602 h
          · replace h := of_iff h c622
            refine g_aload_n C dL_rulings_224 rfl rfl ?_
            refine g_iload C dL_rulings_225 rfl ?_
            refine g_iconst (v := 1) C dL_rulings_227 rfl ?_
            obtain ⟨y623, e624, h⟩ := of_obb h
            refine g_callV (As := [.int x4, .int (1 : Int32)]) C (ct_X5_ruling C.wf e624) g601 lk_RL_26 mi_X5_ruling (by decide) cs_0 (by decide) dL_rulings_228 rfl ?_
            show Go w f 231 [some (rv w r0), some (.int y608), some (.int y612), none, some (.int x4), some (.int x5), some (.int x6), some (.int x7), some (.int x8)] [.int y623] M602
            refine g_bipush (v := 6) C dL_rulings_231 rfl ?_
            refine g_icmp_ge 378 C dL_rulings_233 (by decide) (fun c625 => ?_) (fun c625 => ?_)
            · replace h := of_ift h c625
              refine g_mask (bs := [true, true, true, false, true, false, false, false, false]) (L2 := [some (rv w r0), some (.int y608), some (.int y612), none, some (.int x4), none, none, none, none]) rfl ?_
              exact t_L_rulings_378 C hR (fun r0' x1' x2' x3' x4' M' h => hk37 r0' x1' x2' x3' x4' M' h) r0 y608 y612 x4 M602 h
            · replace h := of_iff h c625
              refine g_aload_n C dL_rulings_236 rfl rfl ?_
              refine g_iload C dL_rulings_237 rfl ?_
              refine g_iconst (v := 3) C dL_rulings_239 rfl ?_
              obtain ⟨y626, e627, h⟩ := of_obb h
              refine g_callV (As := [.int x4, .int (3 : Int32)]) C (ct_X5_ruling C.wf e627) g601 lk_RL_26 mi_X5_ruling (by decide) cs_0 (by decide) dL_rulings_240 rfl ?_
              show Go w f 243 [some (rv w r0), some (.int y608), some (.int y612), none, some (.int x4), some (.int x5), some (.int x6), some (.int x7), some (.int x8)] [.int y626] M602
              refine g_iconst (v := 1) C dL_rulings_243 rfl ?_
              refine g_icmp_lt 378 C dL_rulings_244 (by decide) (fun c628 => ?_) (fun c628 => ?_)
              · replace h := of_ift h c628
                refine g_mask (bs := [true, true, true, false, true, false, false, false, false]) (L2 := [some (rv w r0), some (.int y608), some (.int y612), none, some (.int x4), none, none, none, none]) rfl ?_
                exact t_L_rulings_378 C hR (fun r0' x1' x2' x3' x4' M' h => hk37 r0' x1' x2' x3' x4' M' h) r0 y608 y612 x4 M602 h
              · replace h := of_iff h c628
                refine g_aload_n C dL_rulings_247 rfl rfl ?_
                refine g_iload C dL_rulings_248 rfl ?_
                refine g_iconst (v := 3) C dL_rulings_250 rfl ?_
                obtain ⟨y629, e630, h⟩ := of_obb h
                refine g_callV (As := [.int x4, .int (3 : Int32)]) C (ct_X5_ruling C.wf e630) g601 lk_RL_26 mi_X5_ruling (by decide) cs_0 (by decide) dL_rulings_251 rfl ?_
                show Go w f 254 [some (rv w r0), some (.int y608), some (.int y612), none, some (.int x4), some (.int x5), some (.int x6), some (.int x7), some (.int x8)] [.int y629] M602
                refine g_bipush (v := 20) C dL_rulings_254 rfl ?_
                refine g_icmp_gt 378 C dL_rulings_256 (by decide) (fun c631 => ?_) (fun c631 => ?_)
                · replace h := of_ift h c631
                  refine g_mask (bs := [true, true, true, false, true, false, false, false, false]) (L2 := [some (rv w r0), some (.int y608), some (.int y612), none, some (.int x4), none, none, none, none]) rfl ?_
                  exact t_L_rulings_378 C hR (fun r0' x1' x2' x3' x4' M' h => hk37 r0' x1' x2' x3' x4' M' h) r0 y608 y612 x4 M602 h
                · replace h := of_iff h c631
                  refine g_iload C dL_rulings_259 rfl ?_
                  refine g_bipush (v := -4) C dL_rulings_261 rfl ?_
                  refine g_icmp_eq 295 C dL_rulings_263 (by decide) (fun c632 => ?_) (fun c632 => ?_)
                  · replace h := of_ift h c632
                    refine g_mask (bs := [true, true, true, false, true, false, true, true, false]) (L2 := [some (rv w r0), some (.int y608), some (.int y612), none, some (.int x4), none, some (.int x6), some (.int x7), none]) rfl ?_
                    exact t_L_rulings_295 C hR (fun r0' x1' x2' x3' x4' M' h => hk37 r0' x1' x2' x3' x4' M' h) r0 y608 y612 x4 x6 x7 M602 h
                  · replace h := of_iff h c632
                    refine g_iload C dL_rulings_266 rfl ?_
                    refine g_if_lt 378 C dL_rulings_268 (by decide) (fun c633 => ?_) (fun c633 => ?_)
                    · replace h := of_ift h c633
                      refine g_mask (bs := [true, true, true, false, true, false, false, false, false]) (L2 := [some (rv w r0), some (.int y608), some (.int y612), none, some (.int x4), none, none, none, none]) rfl ?_
                      exact t_L_rulings_378 C hR (fun r0' x1' x2' x3' x4' M' h => hk37 r0' x1' x2' x3' x4' M' h) r0 y608 y612 x4 M602 h
                    · replace h := of_iff h c633
                      refine g_iload C dL_rulings_271 rfl ?_
                      refine g_iload C dL_rulings_273 rfl ?_
                      refine g_icmp_ge 378 C dL_rulings_275 (by decide) (fun c634 => ?_) (fun c634 => ?_)
                      · replace h := of_ift h c634
                        refine g_mask (bs := [true, true, true, false, true, false, false, false, false]) (L2 := [some (rv w r0), some (.int y608), some (.int y612), none, some (.int x4), none, none, none, none]) rfl ?_
                        exact t_L_rulings_378 C hR (fun r0' x1' x2' x3' x4' M' h => hk37 r0' x1' x2' x3' x4' M' h) r0 y608 y612 x4 M602 h
                      · replace h := of_iff h c634
                        refine g_aload_n C dL_rulings_278 rfl rfl ?_
                        refine g_iload C dL_rulings_279 rfl ?_
                        refine g_iconst (v := 5) C dL_rulings_281 rfl ?_
                        obtain ⟨y635, e636, h⟩ := of_obb h
                        refine g_callV (As := [.int x4, .int (5 : Int32)]) C (ct_X5_ruling C.wf e636) g601 lk_RL_26 mi_X5_ruling (by decide) cs_0 (by decide) dL_rulings_282 rfl ?_
                        show Go w f 285 [some (rv w r0), some (.int y608), some (.int y612), none, some (.int x4), some (.int x5), some (.int x6), some (.int x7), some (.int x8)] [.int y635] M602
                        refine g_aload_n C dL_rulings_285 rfl rfl ?_
                        refine g_iload C dL_rulings_286 rfl ?_
                        refine g_iconst (v := 5) C dL_rulings_288 rfl ?_
                        obtain ⟨y637, e638, h⟩ := of_obb h
                        refine g_callV (As := [.int x5, .int (5 : Int32)]) C (ct_X5_ruling C.wf e638) g601 lk_RL_26 mi_X5_ruling (by decide) (cs_i cs_0) (by decide) dL_rulings_289 rfl ?_
                        show Go w f 292 [some (rv w r0), some (.int y608), some (.int y612), none, some (.int x4), some (.int x5), some (.int x6), some (.int x7), some (.int x8)] [.int y637, .int y635] M602
                        refine g_icmp_gt 378 C dL_rulings_292 (by decide) (fun c639 => ?_) (fun c639 => ?_)
                        · replace h := of_ift h c639
                          refine g_mask (bs := [true, true, true, false, true, false, false, false, false]) (L2 := [some (rv w r0), some (.int y608), some (.int y612), none, some (.int x4), none, none, none, none]) rfl ?_
                          exact t_L_rulings_378 C hR (fun r0' x1' x2' x3' x4' M' h => hk37 r0' x1' x2' x3' x4' M' h) r0 y608 y612 x4 M602 h
                        · replace h := of_iff h c639
                          refine g_mask (bs := [true, true, true, false, true, false, true, true, false]) (L2 := [some (rv w r0), some (.int y608), some (.int y612), none, some (.int x4), none, some (.int x6), some (.int x7), none]) rfl ?_
                          exact t_L_rulings_295 C hR (fun r0' x1' x2' x3' x4' M' h => hk37 r0' x1' x2' x3' x4' M' h) r0 y608 y612 x4 x6 x7 M602 h
    · replace h := of_iff h c605
      refine g_iload C dL_rulings_79 rfl ?_
      refine g_aload_n C dL_rulings_81 rfl rfl ?_
      refine g_iload C dL_rulings_82 rfl ?_
      refine g_iconst (v := 4) C dL_rulings_84 rfl ?_
      obtain ⟨y640, e641, h⟩ := of_obb h
      refine g_callV (As := [.int x8, .int (4 : Int32)]) C (ct_X5_ruling C.wf e641) g601 lk_RL_26 mi_X5_ruling (by decide) (cs_i cs_0) (by decide) dL_rulings_85 rfl ?_
      show Go w f 88 [some (rv w r0), some (.int x1), some (.int x2), none, some (.int x4), some (.int x5), some (.int x6), some (.int x7), some (.int x8)] [.int y640, .int x6] M602
      refine g_iload C dL_rulings_88 rfl ?_
      refine g_icmp_ne 97 C dL_rulings_90 (by decide) (fun c642 => ?_) (fun c642 => ?_)
      · replace h := of_iff h c642
        refine g_iconst (v := 0) C dL_rulings_97 rfl ?_
        refine g_mask (bs := [true, true, true, false, true, true, false, true, true]) (L2 := [some (rv w r0), some (.int x1), some (.int x2), none, some (.int x4), some (.int x5), none, some (.int x7), some (.int x8)]) rfl ?_
        exact t_L_rulings_98 C hR (fun r0' x1' x2' x3' x4' M' h => hk37 r0' x1' x2' x3' x4' M' h) (fun r0' x1' x2' x4' x5' x6' x7' x8' M' h => ih r0' x1' x2' x4' x5' x6' x7' x8' M' h) r0 x1 x2 x4 x5 x7 x8 x6 (0 : Int32) M602 h
      · replace h := of_ift h c642
        refine g_iconst (v := 1) C dL_rulings_93 rfl ?_
        refine g_goto 98 C dL_rulings_94 (by decide) ?_
        refine g_mask (bs := [true, true, true, false, true, true, false, true, true]) (L2 := [some (rv w r0), some (.int x1), some (.int x2), none, some (.int x4), some (.int x5), none, some (.int x7), some (.int x8)]) rfl ?_
        exact t_L_rulings_98 C hR (fun r0' x1' x2' x3' x4' M' h => hk37 r0' x1' x2' x3' x4' M' h) (fun r0' x1' x2' x4' x5' x6' x7' x8' M' h => ih r0' x1' x2' x4' x5' x6' x7' x8' M' h) r0 x1 x2 x4 x5 x7 x8 x6 (1 : Int32) M602 h
def f_L_rulings_37 : Nat → Nat → Int32 → Int32 → Int32 → Int32 → Mem → Option (Int32 × Mem)
  | 0, _, _, _, _, _, _ => none
  | n + 1, r0, x1, x2, x3, x4, M => gdd (kd r0 = 6) <| opp (f_X5_count r0 (4 : Int32) M) fun y404 M402 => if y404 ≤ x4 then (f_L_rulings_386 r0 x1 x2 x3 M402) else (if x3 = 0 then (f_L_rulings_386 r0 x1 x2 x3 M402) else (obb (f_X5_ruling r0 x4 (4 : Int32) M402) fun y407 => f_L_rulings_69 (f_L_rulings_37 n) FU r0 x1 x2 x4 y407 (0 : Int32) (0 : Int32) (0 : Int32) M402))
set_option maxRecDepth 100000 in
set_option maxHeartbeats 4000000 in
theorem t_L_rulings_37 {w : Om} {f : Fr} {r : Int32} {M2 : Mem} (C : Cx w f RL cL_rulings 9 7) (hR : Rt w f cL_rulings (some .boolean) (some (.int r)) M2)   : ∀ (n : Nat) (r0 : Nat) (x1 : Int32) (x2 : Int32) (x3 : Int32) (x4 : Int32) (M : Mem), f_L_rulings_37 n r0 x1 x2 x3 x4 M = some (r, M2) → Go w f 37 [some (rv w r0), some (.int x1), some (.int x2), some (.int x3), some (.int x4), none, none, none, none] [] M := by
  intro n
  induction n with
  | zero =>
    intro r0 x1 x2 x3 x4 M h
    cases h
  | succ n ih =>
    intro r0 x1 x2 x3 x4 M h
    rw [f_L_rulings_37] at h
    refine g_iload C dL_rulings_37 rfl ?_
    refine g_aload_n C dL_rulings_39 rfl rfl ?_
    refine g_iconst (v := 4) C dL_rulings_40 rfl ?_
    obtain ⟨g401, h⟩ := of_gdd h
    obtain ⟨y404, M402, e403, h⟩ := of_opp h
    refine g_callV (As := [.int (4 : Int32)]) C (ct_X5_count C.wf e403) g401 lk_RL_13 mi_X5_count (by decide) (cs_i cs_0) (by decide) dL_rulings_41 rfl ?_
    show Go w f 44 [some (rv w r0), some (.int x1), some (.int x2), some (.int x3), some (.int x4), none, none, none, none] [.int y404, .int x4] M402
    refine g_icmp_ge 386 C dL_rulings_44 (by decide) (fun c405 => ?_) (fun c405 => ?_)
    · replace h := of_ift h c405
      refine g_mask (bs := [true, true, true, true, false, false, false, false, false]) (L2 := [some (rv w r0), some (.int x1), some (.int x2), some (.int x3), none, none, none, none, none]) rfl ?_
      exact t_L_rulings_386 C hR r0 x1 x2 x3 M402 h
    · replace h := of_iff h c405
      refine g_iload_n C dL_rulings_47 rfl rfl ?_
      refine g_if_eq 386 C dL_rulings_48 (by decide) (fun c406 => ?_) (fun c406 => ?_)
      · replace h := of_ift h c406
        refine g_mask (bs := [true, true, true, true, false, false, false, false, false]) (L2 := [some (rv w r0), some (.int x1), some (.int x2), some (.int x3), none, none, none, none, none]) rfl ?_
        exact t_L_rulings_386 C hR r0 x1 x2 x3 M402 h
      · replace h := of_iff h c406
        refine g_aload_n C dL_rulings_51 rfl rfl ?_
        refine g_iload C dL_rulings_52 rfl ?_
        refine g_iconst (v := 4) C dL_rulings_54 rfl ?_
        obtain ⟨y407, e408, h⟩ := of_obb h
        refine g_callV (As := [.int x4, .int (4 : Int32)]) C (ct_X5_ruling C.wf e408) g401 lk_RL_26 mi_X5_ruling (by decide) cs_0 (by decide) dL_rulings_55 rfl ?_
        show Go w f 58 [some (rv w r0), some (.int x1), some (.int x2), some (.int x3), some (.int x4), none, none, none, none] [.int y407] M402
        refine g_istore C dL_rulings_58 (by decide) rfl (L2 := [some (rv w r0), some (.int x1), some (.int x2), some (.int x3), some (.int x4), some (.int y407), none, none, none]) rfl ?_
        refine g_iconst (v := 0) C dL_rulings_60 rfl ?_
        refine g_istore C dL_rulings_61 (by decide) rfl (L2 := [some (rv w r0), some (.int x1), some (.int x2), some (.int x3), some (.int x4), some (.int y407), some (.int (0 : Int32)), none, none]) rfl ?_
        refine g_iconst (v := 0) C dL_rulings_63 rfl ?_
        refine g_istore C dL_rulings_64 (by decide) rfl (L2 := [some (rv w r0), some (.int x1), some (.int x2), some (.int x3), some (.int x4), some (.int y407), some (.int (0 : Int32)), some (.int (0 : Int32)), none]) rfl ?_
        refine g_iconst (v := 0) C dL_rulings_66 rfl ?_
        refine g_istore C dL_rulings_67 (by decide) rfl (L2 := [some (rv w r0), some (.int x1), some (.int x2), some (.int x3), some (.int x4), some (.int y407), some (.int (0 : Int32)), some (.int (0 : Int32)), some (.int (0 : Int32))]) rfl ?_
        refine g_mask (bs := [true, true, true, false, true, true, true, true, true]) (L2 := [some (rv w r0), some (.int x1), some (.int x2), none, some (.int x4), some (.int y407), some (.int (0 : Int32)), some (.int (0 : Int32)), some (.int (0 : Int32))]) rfl ?_
        exact t_L_rulings_69 C hR (fun r0' x1' x2' x3' x4' M' h => ih r0' x1' x2' x3' x4' M' h) _ r0 x1 x2 x4 y407 (0 : Int32) (0 : Int32) (0 : Int32) M402 h
def f_L_rulings_33 (r0 : Nat) (x1 : Int32) (x2 : Int32) (xs0 : Int32) (M : Mem) : Option (Int32 × Mem) := f_L_rulings_37 FU r0 x1 x2 xs0 (0 : Int32) M
set_option maxRecDepth 100000 in
set_option maxHeartbeats 4000000 in
theorem t_L_rulings_33 {w : Om} {f : Fr} {r : Int32} {M2 : Mem} (C : Cx w f RL cL_rulings 9 7) (hR : Rt w f cL_rulings (some .boolean) (some (.int r)) M2)   : ∀ (r0 : Nat) (x1 : Int32) (x2 : Int32) (xs0 : Int32) (M : Mem), f_L_rulings_33 r0 x1 x2 xs0 M = some (r, M2) → Go w f 33 [some (rv w r0), some (.int x1), some (.int x2), none, none, none, none, none, none] [.int xs0] M := by
  intro r0 x1 x2 xs0 M h
  unfold f_L_rulings_33 at h
  refine g_istore_n C dL_rulings_33 rfl (by decide) rfl (L2 := [some (rv w r0), some (.int x1), some (.int x2), some (.int xs0), none, none, none, none, none]) rfl ?_
  refine g_iconst (v := 0) C dL_rulings_34 rfl ?_
  refine g_istore C dL_rulings_35 (by decide) rfl (L2 := [some (rv w r0), some (.int x1), some (.int x2), some (.int xs0), some (.int (0 : Int32)), none, none, none, none]) rfl ?_
  exact t_L_rulings_37 C hR _ r0 x1 x2 xs0 (0 : Int32) M h
def f_L_rulings_32 (r0 : Nat) (x1 : Int32) (x2 : Int32) (M : Mem) : Option (Int32 × Mem) := f_L_rulings_33 r0 x1 x2 (0 : Int32) M
set_option maxRecDepth 100000 in
set_option maxHeartbeats 4000000 in
theorem t_L_rulings_32 {w : Om} {f : Fr} {r : Int32} {M2 : Mem} (C : Cx w f RL cL_rulings 9 7) (hR : Rt w f cL_rulings (some .boolean) (some (.int r)) M2)   : ∀ (r0 : Nat) (x1 : Int32) (x2 : Int32) (M : Mem), f_L_rulings_32 r0 x1 x2 M = some (r, M2) → Go w f 32 [some (rv w r0), some (.int x1), some (.int x2), none, none, none, none, none, none] [] M := by
  intro r0 x1 x2 M h
  unfold f_L_rulings_32 at h
  refine g_iconst (v := 0) C dL_rulings_32 rfl ?_
  exact t_L_rulings_33 C hR r0 x1 x2 (0 : Int32) M h
def f_L_rulings (r0 : Nat) (M : Mem) : Option (Int32 × Mem) := gdd (kd r0 = 6) <| opp (f_X5_count r0 (4 : Int32) M) fun y4 M2 => obb (f_X5_ruling r0 y4 (0 : Int32) M2) fun y5 => if y5 = (-1 : Int32) then (opp (f_X5_count r0 (4 : Int32) M2) fun y10 M8 => if (10 : Int32) < y10 then (f_L_rulings_32 r0 (0 : Int32) (0 : Int32) M8) else (f_L_rulings_33 r0 (0 : Int32) (0 : Int32) (1 : Int32) M8)) else (f_L_rulings_32 r0 (0 : Int32) (0 : Int32) M2)
set_option maxRecDepth 100000 in
set_option maxHeartbeats 4000000 in
theorem ct_L_rulings {l : Launch} {w : Om} (hw : Wf w) {r0 : Nat} {M : Mem} {r : Int32} {M2 : Mem} (h : f_L_rulings r0 M = some (r, M2)) : Ct l w yL_rulings cL_rulings 9 (some .boolean) 7 [rv w r0] M (some (.int r)) M2 := by
  refine ct_of hw (by decide) (cat_s (rv_cat _ _) cat_0) (Nat.le_of_ble_eq_true rfl) (fun f _ C hR => ?_)
  show Go w f 0 [some (rv w r0), none, none, none, none, none, none, none, none] [] M
  unfold f_L_rulings at h
  refine g_iconst (v := 0) C dL_rulings_0 rfl ?_
  refine g_istore_n C dL_rulings_1 rfl (by decide) (rv_cat _ _) (L2 := [some (rv w r0), some (.int (0 : Int32)), none, none, none, none, none, none, none]) rfl ?_
  refine g_iconst (v := 0) C dL_rulings_2 rfl ?_
  refine g_istore_n C dL_rulings_3 rfl (by decide) rfl (L2 := [some (rv w r0), some (.int (0 : Int32)), some (.int (0 : Int32)), none, none, none, none, none, none]) rfl ?_
  refine g_aload_n C dL_rulings_4 rfl rfl ?_
  refine g_aload_n C dL_rulings_5 rfl rfl ?_
  refine g_iconst (v := 4) C dL_rulings_6 rfl ?_
  obtain ⟨g1, h⟩ := of_gdd h
  obtain ⟨y4, M2, e3, h⟩ := of_opp h
  refine g_callV (As := [.int (4 : Int32)]) C (ct_X5_count C.wf e3) g1 lk_RL_13 mi_X5_count (by decide) (cs_r cs_0) (by decide) dL_rulings_7 rfl ?_
  show Go w f 10 [some (rv w r0), some (.int (0 : Int32)), some (.int (0 : Int32)), none, none, none, none, none, none] [.int y4, rv w r0] M2
  refine g_iconst (v := 0) C dL_rulings_10 rfl ?_
  obtain ⟨y5, e6, h⟩ := of_obb h
  refine g_callV (As := [.int y4, .int (0 : Int32)]) C (ct_X5_ruling C.wf e6) g1 lk_RL_26 mi_X5_ruling (by decide) cs_0 (by decide) dL_rulings_11 rfl ?_
  show Go w f 14 [some (rv w r0), some (.int (0 : Int32)), some (.int (0 : Int32)), none, none, none, none, none, none] [.int y5] M2
  refine g_iconst (v := -1) C dL_rulings_14 rfl ?_
  refine g_icmp_ne 32 C dL_rulings_15 (by decide) (fun c7 => ?_) (fun c7 => ?_)
  · replace h := of_iff h c7
    exact t_L_rulings_32 C hR r0 (0 : Int32) (0 : Int32) M2 h
  · replace h := of_ift h c7
    refine g_aload_n C dL_rulings_18 rfl rfl ?_
    refine g_iconst (v := 4) C dL_rulings_19 rfl ?_
    obtain ⟨y10, M8, e9, h⟩ := of_opp h
    refine g_callV (As := [.int (4 : Int32)]) C (ct_X5_count C.wf e9) g1 lk_RL_13 mi_X5_count (by decide) cs_0 (by decide) dL_rulings_20 rfl ?_
    show Go w f 23 [some (rv w r0), some (.int (0 : Int32)), some (.int (0 : Int32)), none, none, none, none, none, none] [.int y10] M8
    refine g_bipush (v := 10) C dL_rulings_23 rfl ?_
    refine g_icmp_gt 32 C dL_rulings_25 (by decide) (fun c11 => ?_) (fun c11 => ?_)
    · replace h := of_ift h c11
      exact t_L_rulings_32 C hR r0 (0 : Int32) (0 : Int32) M8 h
    · replace h := of_iff h c11
      refine g_iconst (v := 1) C dL_rulings_28 rfl ?_
      refine g_goto 33 C dL_rulings_29 (by decide) ?_
      exact t_L_rulings_33 C hR r0 (0 : Int32) (0 : Int32) (1 : Int32) M8 h
def f_L_ones_4 : Nat → Int32 → Int32 → Int32 → Option Int32
  | 0, _, _, _ => none
  | n + 1, x0, x1, x2 => if (12 : Int32) ≤ x2 then (some x1) else (bvv (x1 + ((x0 >>> (x2 &&& 31)) &&& (1 : Int32))) fun y202 => bvv (x2 + (1 : Int32)) fun y204 => (f_L_ones_4 n) x0 y202 y204)
set_option maxRecDepth 100000 in
set_option maxHeartbeats 4000000 in
theorem t_L_ones_4 {w : Om} {f : Fr} {M : Mem} {r : Int32} (C : Cx w f RL cL_ones 3 0) (hR : Rt w f cL_ones (some .int) (some (.int r)) M)   : ∀ (n : Nat) (x0 : Int32) (x1 : Int32) (x2 : Int32), f_L_ones_4 n x0 x1 x2 = some r → Go w f 4 [some (.int x0), some (.int x1), some (.int x2)] [] M := by
  intro n
  induction n with
  | zero =>
    intro x0 x1 x2 h
    cases h
  | succ n ih =>
    intro x0 x1 x2 h
    rw [f_L_ones_4] at h
    refine g_iload_n C dL_ones_4 rfl rfl ?_
    refine g_bipush (v := 12) C dL_ones_5 rfl ?_
    refine g_icmp_ge 24 C dL_ones_7 (by decide) (fun c201 => ?_) (fun c201 => ?_)
    · replace h := of_ift h c201
      refine g_iload_n C dL_ones_24 rfl rfl ?_
      cases h
      exact hR 25 _ ⟨.int, rfl, rfl⟩ dL_ones_25
    · replace h := of_iff h c201
      refine g_iload_n C dL_ones_10 rfl rfl ?_
      refine g_iload_n C dL_ones_11 rfl rfl ?_
      refine g_iload_n C dL_ones_12 rfl rfl ?_
      refine g_ishr C dL_ones_13 ?_
      refine g_iconst (v := 1) C dL_ones_14 rfl ?_
      refine g_iand C dL_ones_15 ?_
      refine g_iadd C dL_ones_16 ?_
      obtain ⟨y202, e203, h⟩ := of_bvv h
      refine g_topi e203 ?_
      refine g_istore_n C dL_ones_17 rfl (by decide) rfl (L2 := [some (.int x0), some (.int y202), some (.int x2)]) rfl ?_
      obtain ⟨y204, e205, h⟩ := of_bvv h
      refine g_iinc (v := y204) C dL_ones_18 rfl e205.symm (by decide) rfl (L2 := [some (.int x0), some (.int y202), some (.int y204)]) rfl ?_
      refine g_goto 4 C dL_ones_21 (by decide) ?_
      exact ih x0 y202 y204 h
def f_L_ones (x0 : Int32) : Option Int32 := f_L_ones_4 FU x0 (0 : Int32) (0 : Int32)
set_option maxRecDepth 100000 in
set_option maxHeartbeats 4000000 in
theorem ct_L_ones {l : Launch} {w : Om} (hw : Wf w) {x0 : Int32}  {M : Mem} {r : Int32} (h : f_L_ones x0 = some r) : Ct l w yL_ones cL_ones 3 (some .int) 0 [.int x0] M (some (.int r)) M := by
  refine ct_of hw (by decide) (cat_s rfl cat_0) (Nat.le_of_ble_eq_true rfl) (fun f _ C hR => ?_)
  show Go w f 0 [some (.int x0), none, none] [] M
  unfold f_L_ones at h
  refine g_iconst (v := 0) C dL_ones_0 rfl ?_
  refine g_istore_n C dL_ones_1 rfl (by decide) rfl (L2 := [some (.int x0), some (.int (0 : Int32)), none]) rfl ?_
  refine g_iconst (v := 0) C dL_ones_2 rfl ?_
  refine g_istore_n C dL_ones_3 rfl (by decide) rfl (L2 := [some (.int x0), some (.int (0 : Int32)), some (.int (0 : Int32))]) rfl ?_
  exact t_L_ones_4 C hR _ x0 (0 : Int32) (0 : Int32) h
def f_L_kind (r0 : Nat) (x1 : Int32) (x2 : Int32) (M : Mem) : Option (Int32 × Mem) := gdd (kd r0 = 6) <| opp (f_X5_edition r0 x1 (1 : Int32) M) fun y4 M2 => obb (f_L_ones (y4 &&& (((1 : Int32) <<< (x2 &&& 31)) - (1 : Int32)))) fun y5 => obb (f_X5_sign r0 x1 (x2 + y5) M2) fun y7 => some (y7 - (97 : Int32), M2)
set_option maxRecDepth 100000 in
set_option maxHeartbeats 4000000 in
theorem ct_L_kind {l : Launch} {w : Om} (hw : Wf w) {r0 : Nat} {x1 : Int32} {x2 : Int32} {M : Mem} {r : Int32} {M2 : Mem} (h : f_L_kind r0 x1 x2 M = some (r, M2)) : Ct l w yL_kind cL_kind 4 (some .int) 5 [rv w r0, .int x1, .int x2] M (some (.int r)) M2 := by
  refine ct_of hw (by decide) (cat_s (rv_cat _ _) (cat_s rfl (cat_s rfl cat_0))) (Nat.le_of_ble_eq_true rfl) (fun f _ C hR => ?_)
  show Go w f 0 [some (rv w r0), some (.int x1), some (.int x2), none] [] M
  unfold f_L_kind at h
  refine g_aload_n C dL_kind_0 rfl rfl ?_
  refine g_iload_n C dL_kind_1 rfl rfl ?_
  refine g_iconst (v := 1) C dL_kind_2 rfl ?_
  obtain ⟨g1, h⟩ := of_gdd h
  obtain ⟨y4, M2, e3, h⟩ := of_opp h
  refine g_callV (As := [.int x1, .int (1 : Int32)]) C (ct_X5_edition C.wf e3) g1 lk_RL_19 mi_X5_edition (by decide) cs_0 (by decide) dL_kind_3 rfl ?_
  show Go w f 6 [some (rv w r0), some (.int x1), some (.int x2), none] [.int y4] M2
  refine g_istore_n C dL_kind_6 rfl (by decide) rfl (L2 := [some (rv w r0), some (.int x1), some (.int x2), some (.int y4)]) rfl ?_
  refine g_aload_n C dL_kind_7 rfl rfl ?_
  refine g_iload_n C dL_kind_8 rfl rfl ?_
  refine g_iload_n C dL_kind_9 rfl rfl ?_
  refine g_iload_n C dL_kind_10 rfl rfl ?_
  refine g_iconst (v := 1) C dL_kind_11 rfl ?_
  refine g_iload_n C dL_kind_12 rfl rfl ?_
  refine g_ishl C dL_kind_13 ?_
  refine g_iconst (v := 1) C dL_kind_14 rfl ?_
  refine g_isub C dL_kind_15 ?_
  refine g_iand C dL_kind_16 ?_
  obtain ⟨y5, e6, h⟩ := of_obb h
  refine g_callS (As := [.int (y4 &&& (((1 : Int32) <<< (x2 &&& 31)) - (1 : Int32)))]) C (ct_L_ones C.wf e6) lk_RL_29 mi_L_ones (by decide) (cs_i (cs_i (cs_r cs_0))) (by decide) dL_kind_17 rfl ?_
  show Go w f 20 [some (rv w r0), some (.int x1), some (.int x2), some (.int y4)] [.int y5, .int x2, .int x1, rv w r0] M2
  refine g_iadd C dL_kind_20 ?_
  obtain ⟨y7, e8, h⟩ := of_obb h
  refine g_callV (As := [.int x1, .int (x2 + y5)]) C (ct_X5_sign C.wf e8) g1 lk_RL_23 mi_X5_sign (by decide) cs_0 (by decide) dL_kind_21 rfl ?_
  show Go w f 24 [some (rv w r0), some (.int x1), some (.int x2), some (.int y4)] [.int y7] M2
  refine g_bipush (v := 97) C dL_kind_24 rfl ?_
  refine g_isub C dL_kind_26 ?_
  cases h
  exact hR 27 _ ⟨.int, rfl, rfl⟩ dL_kind_27
def f_L_holds_876 (ds0 : UInt64) (ds1 : UInt64) (M : Mem) : Option (Int32 × Mem) := if (Op.cmpValue (FP.dcmp ds0 ds1) .l) = 0 then (some ((1 : Int32), M)) else (some ((0 : Int32), M))
set_option maxRecDepth 100000 in
set_option maxHeartbeats 4000000 in
theorem t_L_holds_876 {w : Om} {f : Fr} {r : Int32} {M2 : Mem} (C : Cx w f RL cL_holds 17 23) (hR : Rt w f cL_holds (some .boolean) (some (.int r)) M2)   : ∀ (ds0 : UInt64) (ds1 : UInt64) (M : Mem), f_L_holds_876 ds0 ds1 M = some (r, M2) → Go w f 876 [none, none, none, none, none, none, none, none, none, none, none, none, none, none, none, none, none] [.double ds1, .double ds0] M := by
  intro ds0 ds1 M h
  unfold f_L_holds_876 at h
  refine g_dcmp C dL_holds_876 ?_
  refine g_if_ne 884 C dL_holds_877 (by decide) (fun c801 => ?_) (fun c801 => ?_)
  · replace h := of_iff h c801
    refine g_iconst (v := 0) C dL_holds_884 rfl ?_
    cases h
    exact hR 885 _ ⟨.boolean, rfl, rfl⟩ dL_holds_885
  · replace h := of_ift h c801
    refine g_iconst (v := 1) C dL_holds_880 rfl ?_
    refine g_goto 885 C dL_holds_881 (by decide) ?_
    cases h
    exact hR 885 _ ⟨.boolean, rfl, rfl⟩ dL_holds_885
def f_L_holds_854 (r0 : Nat) (x1 : Int32) (x2 : Int32) (x3 : Int32) (xs0 : Int32) (xs1 : Int32) (M : Mem) : Option (Int32 × Mem) := if xs0 = xs1 then (gdd (kd r0 = 6) <| obb (f_X5_length r0 M) fun y703 => if x1 = 0 then (f_L_holds_876 y703 FP.dconst0 M) else (gdd (nN (FP.ddiv (FP.i2d x2) (FP.i2d (x3 + x1))) = true) <| f_L_holds_876 y703 (FP.ddiv (FP.i2d x2) (FP.i2d (x3 + x1))) M)) else (some ((0 : Int32), M))
set_option maxRecDepth 100000 in
set_option maxHeartbeats 4000000 in
theorem t_L_holds_854 {w : Om} {f : Fr} {r : Int32} {M2 : Mem} (C : Cx w f RL cL_holds 17 23) (hR : Rt w f cL_holds (some .boolean) (some (.int r)) M2)   : ∀ (r0 : Nat) (x1 : Int32) (x2 : Int32) (x3 : Int32) (xs0 : Int32) (xs1 : Int32) (M : Mem), f_L_holds_854 r0 x1 x2 x3 xs0 xs1 M = some (r, M2) → Go w f 854 [some (rv w r0), some (.int x1), some (.int x2), some (.int x3), none, none, none, none, none, none, none, none, none, none, none, none, none] [.int xs1, .int xs0] M := by
  intro r0 x1 x2 x3 xs0 xs1 M h
  unfold f_L_holds_854 at h
  refine g_icmp_ne 884 C dL_holds_854 (by decide) (fun c701 => ?_) (fun c701 => ?_)
  · replace h := of_iff h c701
    refine g_iconst (v := 0) C dL_holds_884 rfl ?_
    cases h
    exact hR 885 _ ⟨.boolean, rfl, rfl⟩ dL_holds_885
  · replace h := of_ift h c701
    refine g_aload_n C dL_holds_857 rfl rfl ?_
    obtain ⟨g702, h⟩ := of_gdd h
    obtain ⟨y703, e704, h⟩ := of_obb h
    refine g_callV (As := []) C (ct_X5_length C.wf e704) g702 lk_RL_52 mi_X5_length (by decide) cs_0 (by decide) dL_holds_858 rfl ?_
    show Go w f 861 [some (rv w r0), some (.int x1), some (.int x2), some (.int x3), none, none, none, none, none, none, none, none, none, none, none, none, none] [.double y703] M
    refine g_iload_n C dL_holds_861 rfl rfl ?_
    refine g_if_ne 869 C dL_holds_862 (by decide) (fun c705 => ?_) (fun c705 => ?_)
    · replace h := of_iff h c705
      refine g_iload_n C dL_holds_869 rfl rfl ?_
      refine g_i2d C dL_holds_870 ?_
      refine g_iload_n C dL_holds_871 rfl rfl ?_
      refine g_iload_n C dL_holds_872 rfl rfl ?_
      refine g_iadd C dL_holds_873 ?_
      refine g_i2d C dL_holds_874 ?_
      obtain ⟨g706, h⟩ := of_gdd h
      refine g_ddiv C dL_holds_875 (nN_use g706) ?_
      refine g_mask (bs := [false, false, false, false, false, false, false, false, false, false, false, false, false, false, false, false, false]) (L2 := [none, none, none, none, none, none, none, none, none, none, none, none, none, none, none, none, none]) rfl ?_
      exact t_L_holds_876 C hR y703 (FP.ddiv (FP.i2d x2) (FP.i2d (x3 + x1))) M h
    · replace h := of_ift h c705
      refine g_dconst0 C dL_holds_865 ?_
      refine g_goto 876 C dL_holds_866 (by decide) ?_
      refine g_mask (bs := [false, false, false, false, false, false, false, false, false, false, false, false, false, false, false, false, false]) (L2 := [none, none, none, none, none, none, none, none, none, none, none, none, none, none, none, none, none]) rfl ?_
      exact t_L_holds_876 C hR y703 FP.dconst0 M h
def f_L_holds_845 (r0 : Nat) (x1 : Int32) (x2 : Int32) (x3 : Int32) (xs0 : Int32) (M : Mem) : Option (Int32 × Mem) := if x1 = 0 then (f_L_holds_854 r0 x1 x2 x3 xs0 (1 : Int32) M) else (f_L_holds_854 r0 x1 x2 x3 xs0 (0 : Int32) M)
set_option maxRecDepth 100000 in
set_option maxHeartbeats 4000000 in
theorem t_L_holds_845 {w : Om} {f : Fr} {r : Int32} {M2 : Mem} (C : Cx w f RL cL_holds 17 23) (hR : Rt w f cL_holds (some .boolean) (some (.int r)) M2)   : ∀ (r0 : Nat) (x1 : Int32) (x2 : Int32) (x3 : Int32) (xs0 : Int32) (M : Mem), f_L_holds_845 r0 x1 x2 x3 xs0 M = some (r, M2) → Go w f 845 [some (rv w r0), some (.int x1), some (.int x2), some (.int x3), none, none, none, none, none, none, none, none, none, none, none, none, none] [.int xs0] M := by
  intro r0 x1 x2 x3 xs0 M h
  unfold f_L_holds_845 at h
  refine g_iload_n C dL_holds_845 rfl rfl ?_
  refine g_if_ne 853 C dL_holds_846 (by decide) (fun c601 => ?_) (fun c601 => ?_)
  · replace h := of_iff h c601
    refine g_iconst (v := 0) C dL_holds_853 rfl ?_
    exact t_L_holds_854 C hR r0 x1 x2 x3 xs0 (0 : Int32) M h
  · replace h := of_ift h c601
    refine g_iconst (v := 1) C dL_holds_849 rfl ?_
    refine g_goto 854 C dL_holds_850 (by decide) ?_
    exact t_L_holds_854 C hR r0 x1 x2 x3 xs0 (1 : Int32) M h
def f_L_holds_794 (r0 : Nat) (x1 : Int32) (x2 : Int32) (x3 : Int32) (x4 : Int32) (x5 : Int32) (x6 : Int32) (M : Mem) : Option (Int32 × Mem) := if x6 = 0 then (some ((0 : Int32), M)) else (gdd (kd r0 = 6) <| opp (f_X5_count r0 (3 : Int32) M) fun y505 M503 => if x4 = y505 then (opp (f_X5_count r0 (2 : Int32) M503) fun y509 M507 => if x5 = y509 then (opp (f_X5_count r0 (9 : Int32) M507) fun y513 M511 => if x3 = y513 then (opp (f_X5_count r0 (12 : Int32) M511) fun y517 M515 => if y517 = (-4 : Int32) then (f_L_holds_845 r0 x1 x2 x3 (1 : Int32) M515) else (f_L_holds_845 r0 x1 x2 x3 (0 : Int32) M515)) else (some ((0 : Int32), M511))) else (some ((0 : Int32), M507))) else (some ((0 : Int32), M503)))
set_option maxRecDepth 100000 in
set_option maxHeartbeats 4000000 in
theorem t_L_holds_794 {w : Om} {f : Fr} {r : Int32} {M2 : Mem} (C : Cx w f RL cL_holds 17 23) (hR : Rt w f cL_holds (some .boolean) (some (.int r)) M2)   : ∀ (r0 : Nat) (x1 : Int32) (x2 : Int32) (x3 : Int32) (x4 : Int32) (x5 : Int32) (x6 : Int32) (M : Mem), f_L_holds_794 r0 x1 x2 x3 x4 x5 x6 M = some (r, M2) → Go w f 794 [some (rv w r0), some (.int x1), some (.int x2), some (.int x3), some (.int x4), some (.int x5), some (.int x6), none, none, none, none, none, none, none, none, none, none] [] M := by
  intro r0 x1 x2 x3 x4 x5 x6 M h
  unfold f_L_holds_794 at h
  refine g_iload C dL_holds_794 rfl ?_
  refine g_if_eq 884 C dL_holds_796 (by decide) (fun c501 => ?_) (fun c501 => ?_)
  · replace h := of_ift h c501
    refine g_iconst (v := 0) C dL_holds_884 rfl ?_
    cases h
    exact hR 885 _ ⟨.boolean, rfl, rfl⟩ dL_holds_885
  · replace h := of_iff h c501
    refine g_iload C dL_holds_799 rfl ?_
    refine g_aload_n C dL_holds_801 rfl rfl ?_
    refine g_iconst (v := 3) C dL_holds_802 rfl ?_
    obtain ⟨g502, h⟩ := of_gdd h
    obtain ⟨y505, M503, e504, h⟩ := of_opp h
    refine g_callV (As := [.int (3 : Int32)]) C (ct_X5_count C.wf e504) g502 lk_RL_13 mi_X5_count (by decide) (cs_i cs_0) (by decide) dL_holds_803 rfl ?_
    show Go w f 806 [some (rv w r0), some (.int x1), some (.int x2), some (.int x3), some (.int x4), some (.int x5), some (.int x6), none, none, none, none, none, none, none, none, none, none] [.int y505, .int x4] M503
    refine g_icmp_ne 884 C dL_holds_806 (by decide) (fun c506 => ?_) (fun c506 => ?_)
    · replace h := of_iff h c506
      refine g_iconst (v := 0) C dL_holds_884 rfl ?_
      cases h
      exact hR 885 _ ⟨.boolean, rfl, rfl⟩ dL_holds_885
    · replace h := of_ift h c506
      refine g_iload C dL_holds_809 rfl ?_
      refine g_aload_n C dL_holds_811 rfl rfl ?_
      refine g_iconst (v := 2) C dL_holds_812 rfl ?_
      obtain ⟨y509, M507, e508, h⟩ := of_opp h
      refine g_callV (As := [.int (2 : Int32)]) C (ct_X5_count C.wf e508) g502 lk_RL_13 mi_X5_count (by decide) (cs_i cs_0) (by decide) dL_holds_813 rfl ?_
      show Go w f 816 [some (rv w r0), some (.int x1), some (.int x2), some (.int x3), some (.int x4), some (.int x5), some (.int x6), none, none, none, none, none, none, none, none, none, none] [.int y509, .int x5] M507
      refine g_icmp_ne 884 C dL_holds_816 (by decide) (fun c510 => ?_) (fun c510 => ?_)
      · replace h := of_iff h c510
        refine g_iconst (v := 0) C dL_holds_884 rfl ?_
        cases h
        exact hR 885 _ ⟨.boolean, rfl, rfl⟩ dL_holds_885
      · replace h := of_ift h c510
        refine g_iload_n C dL_holds_819 rfl rfl ?_
        refine g_aload_n C dL_holds_820 rfl rfl ?_
        refine g_bipush (v := 9) C dL_holds_821 rfl ?_
        obtain ⟨y513, M511, e512, h⟩ := of_opp h
        refine g_callV (As := [.int (9 : Int32)]) C (ct_X5_count C.wf e512) g502 lk_RL_13 mi_X5_count (by decide) (cs_i cs_0) (by decide) dL_holds_823 rfl ?_
        show Go w f 826 [some (rv w r0), some (.int x1), some (.int x2), some (.int x3), some (.int x4), some (.int x5), some (.int x6), none, none, none, none, none, none, none, none, none, none] [.int y513, .int x3] M511
        refine g_icmp_ne 884 C dL_holds_826 (by decide) (fun c514 => ?_) (fun c514 => ?_)
        · replace h := of_iff h c514
          refine g_iconst (v := 0) C dL_holds_884 rfl ?_
          cases h
          exact hR 885 _ ⟨.boolean, rfl, rfl⟩ dL_holds_885
        · replace h := of_ift h c514
          refine g_aload_n C dL_holds_829 rfl rfl ?_
          refine g_bipush (v := 12) C dL_holds_830 rfl ?_
          obtain ⟨y517, M515, e516, h⟩ := of_opp h
          refine g_callV (As := [.int (12 : Int32)]) C (ct_X5_count C.wf e516) g502 lk_RL_13 mi_X5_count (by decide) cs_0 (by decide) dL_holds_832 rfl ?_
          show Go w f 835 [some (rv w r0), some (.int x1), some (.int x2), some (.int x3), some (.int x4), some (.int x5), some (.int x6), none, none, none, none, none, none, none, none, none, none] [.int y517] M515
          refine g_bipush (v := -4) C dL_holds_835 rfl ?_
          refine g_icmp_ne 844 C dL_holds_837 (by decide) (fun c518 => ?_) (fun c518 => ?_)
          · replace h := of_iff h c518
            refine g_iconst (v := 0) C dL_holds_844 rfl ?_
            refine g_mask (bs := [true, true, true, true, false, false, false, false, false, false, false, false, false, false, false, false, false]) (L2 := [some (rv w r0), some (.int x1), some (.int x2), some (.int x3), none, none, none, none, none, none, none, none, none, none, none, none, none]) rfl ?_
            exact t_L_holds_845 C hR r0 x1 x2 x3 (0 : Int32) M515 h
          · replace h := of_ift h c518
            refine g_iconst (v := 1) C dL_holds_840 rfl ?_
            refine g_goto 845 C dL_holds_841 (by decide) ?_
            refine g_mask (bs := [true, true, true, true, false, false, false, false, false, false, false, false, false, false, false, false, false]) (L2 := [some (rv w r0), some (.int x1), some (.int x2), some (.int x3), none, none, none, none, none, none, none, none, none, none, none, none, none]) rfl ?_
            exact t_L_holds_845 C hR r0 x1 x2 x3 (1 : Int32) M515 h
def f_L_holds_780 (k95 : Nat → Int32 → Int32 → Int32 → Int32 → Int32 → Int32 → Int32 → Mem → Option (Int32 × Mem)) (k674 : Nat → Int32 → Int32 → Int32 → Int32 → Int32 → Int32 → Int32 → Int32 → Int32 → Int32 → Mem → Option (Int32 × Mem)) (r0 : Nat) (x1 : Int32) (x2 : Int32) (x3 : Int32) (x4 : Int32) (x5 : Int32) (x7 : Int32) (x8 : Int32) (x9 : Int32) (x11 : Int32) (xs0 : Int32) (M : Mem) : Option (Int32 × Mem) := bvv (x11 + (1 : Int32)) fun y1901 => k674 r0 x1 x2 x3 x4 x5 xs0 x7 x8 x9 y1901 M
set_option maxRecDepth 100000 in
set_option maxHeartbeats 4000000 in
theorem t_L_holds_780 {w : Om} {f : Fr} {r : Int32} {M2 : Mem} (C : Cx w f RL cL_holds 17 23) (hR : Rt w f cL_holds (some .boolean) (some (.int r)) M2) {k95 : Nat → Int32 → Int32 → Int32 → Int32 → Int32 → Int32 → Int32 → Mem → Option (Int32 × Mem)} {k674 : Nat → Int32 → Int32 → Int32 → Int32 → Int32 → Int32 → Int32 → Int32 → Int32 → Int32 → Mem → Option (Int32 × Mem)} (hk95 : ∀ (r0' : Nat) (x1' : Int32) (x2' : Int32) (x3' : Int32) (x4' : Int32) (x5' : Int32) (x6' : Int32) (x7' : Int32) (M' : Mem), k95 r0' x1' x2' x3' x4' x5' x6' x7' M' = some (r, M2) → Go w f 95 [some (rv w r0'), some (.int x1'), some (.int x2'), some (.int x3'), some (.int x4'), some (.int x5'), some (.int x6'), some (.int x7'), none, none, none, none, none, none, none, none, none] [] M') (hk674 : ∀ (r0' : Nat) (x1' : Int32) (x2' : Int32) (x3' : Int32) (x4' : Int32) (x5' : Int32) (x6' : Int32) (x7' : Int32) (x8' : Int32) (x9' : Int32) (x11' : Int32) (M' : Mem), k674 r0' x1' x2' x3' x4' x5' x6' x7' x8' x9' x11' M' = some (r, M2) → Go w f 674 [some (rv w r0'), some (.int x1'), some (.int x2'), some (.int x3'), some (.int x4'), some (.int x5'), some (.int x6'), some (.int x7'), some (.int x8'), some (.int x9'), none, some (.int x11'), none, none, none, none, none] [] M') : ∀ (r0 : Nat) (x1 : Int32) (x2 : Int32) (x3 : Int32) (x4 : Int32) (x5 : Int32) (x7 : Int32) (x8 : Int32) (x9 : Int32) (x11 : Int32) (xs0 : Int32) (M : Mem), f_L_holds_780 k95 k674 r0 x1 x2 x3 x4 x5 x7 x8 x9 x11 xs0 M = some (r, M2) → Go w f 780 [some (rv w r0), some (.int x1), some (.int x2), some (.int x3), some (.int x4), some (.int x5), none, some (.int x7), some (.int x8), some (.int x9), none, some (.int x11), none, none, none, none, none] [.int xs0] M := by
  intro r0 x1 x2 x3 x4 x5 x7 x8 x9 x11 xs0 M h
  unfold f_L_holds_780 at h
  refine g_istore C dL_holds_780 (by decide) rfl (L2 := [some (rv w r0), some (.int x1), some (.int x2), some (.int x3), some (.int x4), some (.int x5), some (.int xs0), some (.int x7), some (.int x8), some (.int x9), none, some (.int x11), none, none, none, none, none]) rfl ?_
  obtain ⟨y1901, e1902, h⟩ := of_bvv h
  refine g_iinc (v := y1901) C dL_holds_782 rfl e1902.symm (by decide) trivial (L2 := [some (rv w r0), some (.int x1), some (.int x2), some (.int x3), some (.int x4), some (.int x5), some (.int xs0), some (.int x7), some (.int x8), some (.int x9), none, some (.int y1901), none, none, none, none, none]) rfl ?_
  refine g_goto 674 C dL_holds_785 (by decide) ?_
  exact hk674 r0 x1 x2 x3 x4 x5 xs0 x7 x8 x9 y1901 M h
def f_L_holds_779 (k95 : Nat → Int32 → Int32 → Int32 → Int32 → Int32 → Int32 → Int32 → Mem → Option (Int32 × Mem)) (k674 : Nat → Int32 → Int32 → Int32 → Int32 → Int32 → Int32 → Int32 → Int32 → Int32 → Int32 → Mem → Option (Int32 × Mem)) (r0 : Nat) (x1 : Int32) (x2 : Int32) (x3 : Int32) (x4 : Int32) (x5 : Int32) (x7 : Int32) (x8 : Int32) (x9 : Int32) (x11 : Int32) (M : Mem) : Option (Int32 × Mem) := f_L_holds_780 k95 k674 r0 x1 x2 x3 x4 x5 x7 x8 x9 x11 (0 : Int32) M
set_option maxRecDepth 100000 in
set_option maxHeartbeats 4000000 in
theorem t_L_holds_779 {w : Om} {f : Fr} {r : Int32} {M2 : Mem} (C : Cx w f RL cL_holds 17 23) (hR : Rt w f cL_holds (some .boolean) (some (.int r)) M2) {k95 : Nat → Int32 → Int32 → Int32 → Int32 → Int32 → Int32 → Int32 → Mem → Option (Int32 × Mem)} {k674 : Nat → Int32 → Int32 → Int32 → Int32 → Int32 → Int32 → Int32 → Int32 → Int32 → Int32 → Mem → Option (Int32 × Mem)} (hk95 : ∀ (r0' : Nat) (x1' : Int32) (x2' : Int32) (x3' : Int32) (x4' : Int32) (x5' : Int32) (x6' : Int32) (x7' : Int32) (M' : Mem), k95 r0' x1' x2' x3' x4' x5' x6' x7' M' = some (r, M2) → Go w f 95 [some (rv w r0'), some (.int x1'), some (.int x2'), some (.int x3'), some (.int x4'), some (.int x5'), some (.int x6'), some (.int x7'), none, none, none, none, none, none, none, none, none] [] M') (hk674 : ∀ (r0' : Nat) (x1' : Int32) (x2' : Int32) (x3' : Int32) (x4' : Int32) (x5' : Int32) (x6' : Int32) (x7' : Int32) (x8' : Int32) (x9' : Int32) (x11' : Int32) (M' : Mem), k674 r0' x1' x2' x3' x4' x5' x6' x7' x8' x9' x11' M' = some (r, M2) → Go w f 674 [some (rv w r0'), some (.int x1'), some (.int x2'), some (.int x3'), some (.int x4'), some (.int x5'), some (.int x6'), some (.int x7'), some (.int x8'), some (.int x9'), none, some (.int x11'), none, none, none, none, none] [] M') : ∀ (r0 : Nat) (x1 : Int32) (x2 : Int32) (x3 : Int32) (x4 : Int32) (x5 : Int32) (x7 : Int32) (x8 : Int32) (x9 : Int32) (x11 : Int32) (M : Mem), f_L_holds_779 k95 k674 r0 x1 x2 x3 x4 x5 x7 x8 x9 x11 M = some (r, M2) → Go w f 779 [some (rv w r0), some (.int x1), some (.int x2), some (.int x3), some (.int x4), some (.int x5), none, some (.int x7), some (.int x8), some (.int x9), none, some (.int x11), none, none, none, none, none] [] M := by
  intro r0 x1 x2 x3 x4 x5 x7 x8 x9 x11 M h
  unfold f_L_holds_779 at h
  refine g_iconst (v := 0) C dL_holds_779 rfl ?_
  exact t_L_holds_780 C hR (fun r0' x1' x2' x3' x4' x5' x6' x7' M' h => hk95 r0' x1' x2' x3' x4' x5' x6' x7' M' h) (fun r0' x1' x2' x3' x4' x5' x6' x7' x8' x9' x11' M' h => hk674 r0' x1' x2' x3' x4' x5' x6' x7' x8' x9' x11' M' h) r0 x1 x2 x3 x4 x5 x7 x8 x9 x11 (0 : Int32) M h
def f_L_holds_765 (k95 : Nat → Int32 → Int32 → Int32 → Int32 → Int32 → Int32 → Int32 → Mem → Option (Int32 × Mem)) (k674 : Nat → Int32 → Int32 → Int32 → Int32 → Int32 → Int32 → Int32 → Int32 → Int32 → Int32 → Mem → Option (Int32 × Mem)) (r0 : Nat) (x1 : Int32) (x2 : Int32) (x3 : Int32) (x4 : Int32) (x5 : Int32) (x6 : Int32) (x7 : Int32) (x8 : Int32) (x9 : Int32) (x11 : Int32) (x12 : Int32) (M : Mem) : Option (Int32 × Mem) := if x6 = 0 then (f_L_holds_779 k95 k674 r0 x1 x2 x3 x4 x5 x7 x8 x9 x11 M) else (if x12 = 0 then (f_L_holds_780 k95 k674 r0 x1 x2 x3 x4 x5 x7 x8 x9 x11 (1 : Int32) M) else (f_L_holds_779 k95 k674 r0 x1 x2 x3 x4 x5 x7 x8 x9 x11 M))
set_option maxRecDepth 100000 in
set_option maxHeartbeats 4000000 in
theorem t_L_holds_765 {w : Om} {f : Fr} {r : Int32} {M2 : Mem} (C : Cx w f RL cL_holds 17 23) (hR : Rt w f cL_holds (some .boolean) (some (.int r)) M2) {k95 : Nat → Int32 → Int32 → Int32 → Int32 → Int32 → Int32 → Int32 → Mem → Option (Int32 × Mem)} {k674 : Nat → Int32 → Int32 → Int32 → Int32 → Int32 → Int32 → Int32 → Int32 → Int32 → Int32 → Mem → Option (Int32 × Mem)} (hk95 : ∀ (r0' : Nat) (x1' : Int32) (x2' : Int32) (x3' : Int32) (x4' : Int32) (x5' : Int32) (x6' : Int32) (x7' : Int32) (M' : Mem), k95 r0' x1' x2' x3' x4' x5' x6' x7' M' = some (r, M2) → Go w f 95 [some (rv w r0'), some (.int x1'), some (.int x2'), some (.int x3'), some (.int x4'), some (.int x5'), some (.int x6'), some (.int x7'), none, none, none, none, none, none, none, none, none] [] M') (hk674 : ∀ (r0' : Nat) (x1' : Int32) (x2' : Int32) (x3' : Int32) (x4' : Int32) (x5' : Int32) (x6' : Int32) (x7' : Int32) (x8' : Int32) (x9' : Int32) (x11' : Int32) (M' : Mem), k674 r0' x1' x2' x3' x4' x5' x6' x7' x8' x9' x11' M' = some (r, M2) → Go w f 674 [some (rv w r0'), some (.int x1'), some (.int x2'), some (.int x3'), some (.int x4'), some (.int x5'), some (.int x6'), some (.int x7'), some (.int x8'), some (.int x9'), none, some (.int x11'), none, none, none, none, none] [] M') : ∀ (r0 : Nat) (x1 : Int32) (x2 : Int32) (x3 : Int32) (x4 : Int32) (x5 : Int32) (x6 : Int32) (x7 : Int32) (x8 : Int32) (x9 : Int32) (x11 : Int32) (x12 : Int32) (M : Mem), f_L_holds_765 k95 k674 r0 x1 x2 x3 x4 x5 x6 x7 x8 x9 x11 x12 M = some (r, M2) → Go w f 765 [some (rv w r0), some (.int x1), some (.int x2), some (.int x3), some (.int x4), some (.int x5), some (.int x6), some (.int x7), some (.int x8), some (.int x9), none, some (.int x11), some (.int x12), none, none, none, none] [] M := by
  intro r0 x1 x2 x3 x4 x5 x6 x7 x8 x9 x11 x12 M h
  unfold f_L_holds_765 at h
  refine g_iload C dL_holds_765 rfl ?_
  refine g_if_eq 779 C dL_holds_767 (by decide) (fun c1701 => ?_) (fun c1701 => ?_)
  · replace h := of_ift h c1701
    refine g_mask (bs := [true, true, true, true, true, true, false, true, true, true, false, true, false, false, false, false, false]) (L2 := [some (rv w r0), some (.int x1), some (.int x2), some (.int x3), some (.int x4), some (.int x5), none, some (.int x7), some (.int x8), some (.int x9), none, some (.int x11), none, none, none, none, none]) rfl ?_
    exact t_L_holds_779 C hR (fun r0' x1' x2' x3' x4' x5' x6' x7' M' h => hk95 r0' x1' x2' x3' x4' x5' x6' x7' M' h) (fun r0' x1' x2' x3' x4' x5' x6' x7' x8' x9' x11' M' h => hk674 r0' x1' x2' x3' x4' x5' x6' x7' x8' x9' x11' M' h) r0 x1 x2 x3 x4 x5 x7 x8 x9 x11 M h
  · replace h := of_iff h c1701
    refine g_iload C dL_holds_770 rfl ?_
    refine g_if_ne 779 C dL_holds_772 (by decide) (fun c1702 => ?_) (fun c1702 => ?_)
    · replace h := of_iff h c1702
      refine g_mask (bs := [true, true, true, true, true, true, false, true, true, true, false, true, false, false, false, false, false]) (L2 := [some (rv w r0), some (.int x1), some (.int x2), some (.int x3), some (.int x4), some (.int x5), none, some (.int x7), some (.int x8), some (.int x9), none, some (.int x11), none, none, none, none, none]) rfl ?_
      exact t_L_holds_779 C hR (fun r0' x1' x2' x3' x4' x5' x6' x7' M' h => hk95 r0' x1' x2' x3' x4' x5' x6' x7' M' h) (fun r0' x1' x2' x3' x4' x5' x6' x7' x8' x9' x11' M' h => hk674 r0' x1' x2' x3' x4' x5' x6' x7' x8' x9' x11' M' h) r0 x1 x2 x3 x4 x5 x7 x8 x9 x11 M h
    · replace h := of_ift h c1702
      refine g_iconst (v := 1) C dL_holds_775 rfl ?_
      refine g_goto 780 C dL_holds_776 (by decide) ?_
      refine g_mask (bs := [true, true, true, true, true, true, false, true, true, true, false, true, false, false, false, false, false]) (L2 := [some (rv w r0), some (.int x1), some (.int x2), some (.int x3), some (.int x4), some (.int x5), none, some (.int x7), some (.int x8), some (.int x9), none, some (.int x11), none, none, none, none, none]) rfl ?_
      exact t_L_holds_780 C hR (fun r0' x1' x2' x3' x4' x5' x6' x7' M' h => hk95 r0' x1' x2' x3' x4' x5' x6' x7' M' h) (fun r0' x1' x2' x3' x4' x5' x6' x7' x8' x9' x11' M' h => hk674 r0' x1' x2' x3' x4' x5' x6' x7' x8' x9' x11' M' h) r0 x1 x2 x3 x4 x5 x7 x8 x9 x11 (1 : Int32) M h
def f_L_holds_757 (k95 : Nat → Int32 → Int32 → Int32 → Int32 → Int32 → Int32 → Int32 → Mem → Option (Int32 × Mem)) (k674 : Nat → Int32 → Int32 → Int32 → Int32 → Int32 → Int32 → Int32 → Int32 → Int32 → Int32 → Mem → Option (Int32 × Mem)) (k715 : Nat → Int32 → Int32 → Int32 → Int32 → Int32 → Int32 → Int32 → Int32 → Int32 → Int32 → Int32 → Int32 → Mem → Option (Int32 × Mem)) (r0 : Nat) (x1 : Int32) (x2 : Int32) (x3 : Int32) (x4 : Int32) (x5 : Int32) (x6 : Int32) (x7 : Int32) (x8 : Int32) (x9 : Int32) (x11 : Int32) (x13 : Int32) (xs0 : Int32) (M : Mem) : Option (Int32 × Mem) := bvv (x13 + (1 : Int32)) fun y2001 => k715 r0 x1 x2 x3 x4 x5 x6 x7 x8 x9 x11 xs0 y2001 M
set_option maxRecDepth 100000 in
set_option maxHeartbeats 4000000 in
theorem t_L_holds_757 {w : Om} {f : Fr} {r : Int32} {M2 : Mem} (C : Cx w f RL cL_holds 17 23) (hR : Rt w f cL_holds (some .boolean) (some (.int r)) M2) {k95 : Nat → Int32 → Int32 → Int32 → Int32 → Int32 → Int32 → Int32 → Mem → Option (Int32 × Mem)} {k674 : Nat → Int32 → Int32 → Int32 → Int32 → Int32 → Int32 → Int32 → Int32 → Int32 → Int32 → Mem → Option (Int32 × Mem)} {k715 : Nat → Int32 → Int32 → Int32 → Int32 → Int32 → Int32 → Int32 → Int32 → Int32 → Int32 → Int32 → Int32 → Mem → Option (Int32 × Mem)} (hk95 : ∀ (r0' : Nat) (x1' : Int32) (x2' : Int32) (x3' : Int32) (x4' : Int32) (x5' : Int32) (x6' : Int32) (x7' : Int32) (M' : Mem), k95 r0' x1' x2' x3' x4' x5' x6' x7' M' = some (r, M2) → Go w f 95 [some (rv w r0'), some (.int x1'), some (.int x2'), some (.int x3'), some (.int x4'), some (.int x5'), some (.int x6'), some (.int x7'), none, none, none, none, none, none, none, none, none] [] M') (hk674 : ∀ (r0' : Nat) (x1' : Int32) (x2' : Int32) (x3' : Int32) (x4' : Int32) (x5' : Int32) (x6' : Int32) (x7' : Int32) (x8' : Int32) (x9' : Int32) (x11' : Int32) (M' : Mem), k674 r0' x1' x2' x3' x4' x5' x6' x7' x8' x9' x11' M' = some (r, M2) → Go w f 674 [some (rv w r0'), some (.int x1'), some (.int x2'), some (.int x3'), some (.int x4'), some (.int x5'), some (.int x6'), some (.int x7'), some (.int x8'), some (.int x9'), none, some (.int x11'), none, none, none, none, none] [] M') (hk715 : ∀ (r0' : Nat) (x1' : Int32) (x2' : Int32) (x3' : Int32) (x4' : Int32) (x5' : Int32) (x6' : Int32) (x7' : Int32) (x8' : Int32) (x9' : Int32) (x11' : Int32) (x12' : Int32) (x13' : Int32) (M' : Mem), k715 r0' x1' x2' x3' x4' x5' x6' x7' x8' x9' x11' x12' x13' M' = some (r, M2) → Go w f 715 [some (rv w r0'), some (.int x1'), some (.int x2'), some (.int x3'), some (.int x4'), some (.int x5'), some (.int x6'), some (.int x7'), some (.int x8'), some (.int x9'), none, some (.int x11'), some (.int x12'), some (.int x13'), none, none, none] [] M') : ∀ (r0 : Nat) (x1 : Int32) (x2 : Int32) (x3 : Int32) (x4 : Int32) (x5 : Int32) (x6 : Int32) (x7 : Int32) (x8 : Int32) (x9 : Int32) (x11 : Int32) (x13 : Int32) (xs0 : Int32) (M : Mem), f_L_holds_757 k95 k674 k715 r0 x1 x2 x3 x4 x5 x6 x7 x8 x9 x11 x13 xs0 M = some (r, M2) → Go w f 757 [some (rv w r0), some (.int x1), some (.int x2), some (.int x3), some (.int x4), some (.int x5), some (.int x6), some (.int x7), some (.int x8), some (.int x9), none, some (.int x11), none, some (.int x13), none, none, none] [.int xs0] M := by
  intro r0 x1 x2 x3 x4 x5 x6 x7 x8 x9 x11 x13 xs0 M h
  unfold f_L_holds_757 at h
  refine g_istore C dL_holds_757 (by decide) rfl (L2 := [some (rv w r0), some (.int x1), some (.int x2), some (.int x3), some (.int x4), some (.int x5), some (.int x6), some (.int x7), some (.int x8), some (.int x9), none, some (.int x11), some (.int xs0), some (.int x13), none, none, none]) rfl ?_
  obtain ⟨y2001, e2002, h⟩ := of_bvv h
  refine g_iinc (v := y2001) C dL_holds_759 rfl e2002.symm (by decide) rfl (L2 := [some (rv w r0), some (.int x1), some (.int x2), some (.int x3), some (.int x4), some (.int x5), some (.int x6), some (.int x7), some (.int x8), some (.int x9), none, some (.int x11), some (.int xs0), some (.int y2001), none, none, none]) rfl ?_
  refine g_goto 715 C dL_holds_762 (by decide) ?_
  exact hk715 r0 x1 x2 x3 x4 x5 x6 x7 x8 x9 x11 xs0 y2001 M h
def f_L_holds_715 (k95 : Nat → Int32 → Int32 → Int32 → Int32 → Int32 → Int32 → Int32 → Mem → Option (Int32 × Mem)) (k674 : Nat → Int32 → Int32 → Int32 → Int32 → Int32 → Int32 → Int32 → Int32 → Int32 → Int32 → Mem → Option (Int32 × Mem)) : Nat → Nat → Int32 → Int32 → Int32 → Int32 → Int32 → Int32 → Int32 → Int32 → Int32 → Int32 → Int32 → Int32 → Mem → Option (Int32 × Mem)
  | 0, _, _, _, _, _, _, _, _, _, _, _, _, _, _ => none
  | n + 1, r0, x1, x2, x3, x4, x5, x6, x7, x8, x9, x11, x12, x13, M => obb (f_L_ones x9) fun y1601 => if (x8 + y1601) ≤ x13 then (f_L_holds_765 k95 k674 r0 x1 x2 x3 x4 x5 x6 x7 x8 x9 x11 x12 M) else (if x12 = 0 then (f_L_holds_765 k95 k674 r0 x1 x2 x3 x4 x5 x6 x7 x8 x9 x11 x12 M) else (gdd (kd r0 = 6) <| obb (f_X5_sign r0 x11 x13 M) fun y1606 => obb (f_X5_sign r0 x7 x13 M) fun y1608 => if y1606 = y1608 then (f_L_holds_757 k95 k674 (f_L_holds_715 k95 k674 n) r0 x1 x2 x3 x4 x5 x6 x7 x8 x9 x11 x13 (1 : Int32) M) else (f_L_holds_757 k95 k674 (f_L_holds_715 k95 k674 n) r0 x1 x2 x3 x4 x5 x6 x7 x8 x9 x11 x13 (0 : Int32) M)))
set_option maxRecDepth 100000 in
set_option maxHeartbeats 4000000 in
theorem t_L_holds_715 {w : Om} {f : Fr} {r : Int32} {M2 : Mem} (C : Cx w f RL cL_holds 17 23) (hR : Rt w f cL_holds (some .boolean) (some (.int r)) M2) {k95 : Nat → Int32 → Int32 → Int32 → Int32 → Int32 → Int32 → Int32 → Mem → Option (Int32 × Mem)} {k674 : Nat → Int32 → Int32 → Int32 → Int32 → Int32 → Int32 → Int32 → Int32 → Int32 → Int32 → Mem → Option (Int32 × Mem)} (hk95 : ∀ (r0' : Nat) (x1' : Int32) (x2' : Int32) (x3' : Int32) (x4' : Int32) (x5' : Int32) (x6' : Int32) (x7' : Int32) (M' : Mem), k95 r0' x1' x2' x3' x4' x5' x6' x7' M' = some (r, M2) → Go w f 95 [some (rv w r0'), some (.int x1'), some (.int x2'), some (.int x3'), some (.int x4'), some (.int x5'), some (.int x6'), some (.int x7'), none, none, none, none, none, none, none, none, none] [] M') (hk674 : ∀ (r0' : Nat) (x1' : Int32) (x2' : Int32) (x3' : Int32) (x4' : Int32) (x5' : Int32) (x6' : Int32) (x7' : Int32) (x8' : Int32) (x9' : Int32) (x11' : Int32) (M' : Mem), k674 r0' x1' x2' x3' x4' x5' x6' x7' x8' x9' x11' M' = some (r, M2) → Go w f 674 [some (rv w r0'), some (.int x1'), some (.int x2'), some (.int x3'), some (.int x4'), some (.int x5'), some (.int x6'), some (.int x7'), some (.int x8'), some (.int x9'), none, some (.int x11'), none, none, none, none, none] [] M') : ∀ (n : Nat) (r0 : Nat) (x1 : Int32) (x2 : Int32) (x3 : Int32) (x4 : Int32) (x5 : Int32) (x6 : Int32) (x7 : Int32) (x8 : Int32) (x9 : Int32) (x11 : Int32) (x12 : Int32) (x13 : Int32) (M : Mem), f_L_holds_715 k95 k674 n r0 x1 x2 x3 x4 x5 x6 x7 x8 x9 x11 x12 x13 M = some (r, M2) → Go w f 715 [some (rv w r0), some (.int x1), some (.int x2), some (.int x3), some (.int x4), some (.int x5), some (.int x6), some (.int x7), some (.int x8), some (.int x9), none, some (.int x11), some (.int x12), some (.int x13), none, none, none] [] M := by
  intro n
  induction n with
  | zero =>
    intro r0 x1 x2 x3 x4 x5 x6 x7 x8 x9 x11 x12 x13 M h
    cases h
  | succ n ih =>
    intro r0 x1 x2 x3 x4 x5 x6 x7 x8 x9 x11 x12 x13 M h
    rw [f_L_holds_715] at h
    refine g_iload C dL_holds_715 rfl ?_
    refine g_iload C dL_holds_717 rfl ?_
    refine g_iload C dL_holds_719 rfl ?_
    obtain ⟨y1601, e1602, h⟩ := of_obb h
    refine g_callS (As := [.int x9]) C (ct_L_ones C.wf e1602) lk_RL_29 mi_L_ones (by decide) (cs_i (cs_i cs_0)) (by decide) dL_holds_721 rfl ?_
    show Go w f 724 [some (rv w r0), some (.int x1), some (.int x2), some (.int x3), some (.int x4), some (.int x5), some (.int x6), some (.int x7), some (.int x8), some (.int x9), none, some (.int x11), some (.int x12), some (.int x13), none, none, none] [.int y1601, .int x8, .int x13] M
    refine g_iadd C dL_holds_724 ?_
    refine g_icmp_ge 765 C dL_holds_725 (by decide) (fun c1603 => ?_) (fun c1603 => ?_)
    · replace h := of_ift h c1603
      refine g_mask (bs := [true, true, true, true, true, true, true, true, true, true, false, true, true, false, false, false, false]) (L2 := [some (rv w r0), some (.int x1), some (.int x2), some (.int x3), some (.int x4), some (.int x5), some (.int x6), some (.int x7), some (.int x8), some (.int x9), none, some (.int x11), some (.int x12), none, none, none, none]) rfl ?_
      exact t_L_holds_765 C hR (fun r0' x1' x2' x3' x4' x5' x6' x7' M' h => hk95 r0' x1' x2' x3' x4' x5' x6' x7' M' h) (fun r0' x1' x2' x3' x4' x5' x6' x7' x8' x9' x11' M' h => hk674 r0' x1' x2' x3' x4' x5' x6' x7' x8' x9' x11' M' h) r0 x1 x2 x3 x4 x5 x6 x7 x8 x9 x11 x12 M h
    · replace h := of_iff h c1603
      refine g_iload C dL_holds_728 rfl ?_
      refine g_if_eq 765 C dL_holds_730 (by decide) (fun c1604 => ?_) (fun c1604 => ?_)
      · replace h := of_ift h c1604
        refine g_mask (bs := [true, true, true, true, true, true, true, true, true, true, false, true, true, false, false, false, false]) (L2 := [some (rv w r0), some (.int x1), some (.int x2), some (.int x3), some (.int x4), some (.int x5), some (.int x6), some (.int x7), some (.int x8), some (.int x9), none, some (.int x11), some (.int x12), none, none, none, none]) rfl ?_
        exact t_L_holds_765 C hR (fun r0' x1' x2' x3' x4' x5' x6' x7' M' h => hk95 r0' x1' x2' x3' x4' x5' x6' x7' M' h) (fun r0' x1' x2' x3' x4' x5' x6' x7' x8' x9' x11' M' h => hk674 r0' x1' x2' x3' x4' x5' x6' x7' x8' x9' x11' M' h) r0 x1 x2 x3 x4 x5 x6 x7 x8 x9 x11 x12 M h
      · replace h := of_iff h c1604
        refine g_aload_n C dL_holds_733 rfl rfl ?_
        refine g_iload C dL_holds_734 rfl ?_
        refine g_iload C dL_holds_736 rfl ?_
        obtain ⟨g1605, h⟩ := of_gdd h
        obtain ⟨y1606, e1607, h⟩ := of_obb h
        refine g_callV (As := [.int x11, .int x13]) C (ct_X5_sign C.wf e1607) g1605 lk_RL_23 mi_X5_sign (by decide) cs_0 (by decide) dL_holds_738 rfl ?_
        show Go w f 741 [some (rv w r0), some (.int x1), some (.int x2), some (.int x3), some (.int x4), some (.int x5), some (.int x6), some (.int x7), some (.int x8), some (.int x9), none, some (.int x11), some (.int x12), some (.int x13), none, none, none] [.int y1606] M
        refine g_aload_n C dL_holds_741 rfl rfl ?_
        refine g_iload C dL_holds_742 rfl ?_
        refine g_iload C dL_holds_744 rfl ?_
        obtain ⟨y1608, e1609, h⟩ := of_obb h
        refine g_callV (As := [.int x7, .int x13]) C (ct_X5_sign C.wf e1609) g1605 lk_RL_23 mi_X5_sign (by decide) (cs_i cs_0) (by decide) dL_holds_746 rfl ?_
        show Go w f 749 [some (rv w r0), some (.int x1), some (.int x2), some (.int x3), some (.int x4), some (.int x5), some (.int x6), some (.int x7), some (.int x8), some (.int x9), none, some (.int x11), some (.int x12), some (.int x13), none, none, none] [.int y1608, .int y1606] M
        refine g_icmp_ne 756 C dL_holds_749 (by decide) (fun c1610 => ?_) (fun c1610 => ?_)
        · replace h := of_iff h c1610
          refine g_iconst (v := 0) C dL_holds_756 rfl ?_
          refine g_mask (bs := [true, true, true, true, true, true, true, true, true, true, false, true, false, true, false, false, false]) (L2 := [some (rv w r0), some (.int x1), some (.int x2), some (.int x3), some (.int x4), some (.int x5), some (.int x6), some (.int x7), some (.int x8), some (.int x9), none, some (.int x11), none, some (.int x13), none, none, none]) rfl ?_
          exact t_L_holds_757 C hR (fun r0' x1' x2' x3' x4' x5' x6' x7' M' h => hk95 r0' x1' x2' x3' x4' x5' x6' x7' M' h) (fun r0' x1' x2' x3' x4' x5' x6' x7' x8' x9' x11' M' h => hk674 r0' x1' x2' x3' x4' x5' x6' x7' x8' x9' x11' M' h) (fun r0' x1' x2' x3' x4' x5' x6' x7' x8' x9' x11' x12' x13' M' h => ih r0' x1' x2' x3' x4' x5' x6' x7' x8' x9' x11' x12' x13' M' h) r0 x1 x2 x3 x4 x5 x6 x7 x8 x9 x11 x13 (0 : Int32) M h
        · replace h := of_ift h c1610
          refine g_iconst (v := 1) C dL_holds_752 rfl ?_
          refine g_goto 757 C dL_holds_753 (by decide) ?_
          refine g_mask (bs := [true, true, true, true, true, true, true, true, true, true, false, true, false, true, false, false, false]) (L2 := [some (rv w r0), some (.int x1), some (.int x2), some (.int x3), some (.int x4), some (.int x5), some (.int x6), some (.int x7), some (.int x8), some (.int x9), none, some (.int x11), none, some (.int x13), none, none, none]) rfl ?_
          exact t_L_holds_757 C hR (fun r0' x1' x2' x3' x4' x5' x6' x7' M' h => hk95 r0' x1' x2' x3' x4' x5' x6' x7' M' h) (fun r0' x1' x2' x3' x4' x5' x6' x7' x8' x9' x11' M' h => hk674 r0' x1' x2' x3' x4' x5' x6' x7' x8' x9' x11' M' h) (fun r0' x1' x2' x3' x4' x5' x6' x7' x8' x9' x11' x12' x13' M' h => ih r0' x1' x2' x3' x4' x5' x6' x7' x8' x9' x11' x12' x13' M' h) r0 x1 x2 x3 x4 x5 x6 x7 x8 x9 x11 x13 (1 : Int32) M h
def f_L_holds_710 (k95 : Nat → Int32 → Int32 → Int32 → Int32 → Int32 → Int32 → Int32 → Mem → Option (Int32 × Mem)) (k674 : Nat → Int32 → Int32 → Int32 → Int32 → Int32 → Int32 → Int32 → Int32 → Int32 → Int32 → Mem → Option (Int32 × Mem)) (r0 : Nat) (x1 : Int32) (x2 : Int32) (x3 : Int32) (x4 : Int32) (x5 : Int32) (x6 : Int32) (x7 : Int32) (x8 : Int32) (x9 : Int32) (x11 : Int32) (xs0 : Int32) (M : Mem) : Option (Int32 × Mem) := f_L_holds_715 k95 k674 FU r0 x1 x2 x3 x4 x5 x6 x7 x8 x9 x11 xs0 (0 : Int32) M
set_option maxRecDepth 100000 in
set_option maxHeartbeats 4000000 in
theorem t_L_holds_710 {w : Om} {f : Fr} {r : Int32} {M2 : Mem} (C : Cx w f RL cL_holds 17 23) (hR : Rt w f cL_holds (some .boolean) (some (.int r)) M2) {k95 : Nat → Int32 → Int32 → Int32 → Int32 → Int32 → Int32 → Int32 → Mem → Option (Int32 × Mem)} {k674 : Nat → Int32 → Int32 → Int32 → Int32 → Int32 → Int32 → Int32 → Int32 → Int32 → Int32 → Mem → Option (Int32 × Mem)} (hk95 : ∀ (r0' : Nat) (x1' : Int32) (x2' : Int32) (x3' : Int32) (x4' : Int32) (x5' : Int32) (x6' : Int32) (x7' : Int32) (M' : Mem), k95 r0' x1' x2' x3' x4' x5' x6' x7' M' = some (r, M2) → Go w f 95 [some (rv w r0'), some (.int x1'), some (.int x2'), some (.int x3'), some (.int x4'), some (.int x5'), some (.int x6'), some (.int x7'), none, none, none, none, none, none, none, none, none] [] M') (hk674 : ∀ (r0' : Nat) (x1' : Int32) (x2' : Int32) (x3' : Int32) (x4' : Int32) (x5' : Int32) (x6' : Int32) (x7' : Int32) (x8' : Int32) (x9' : Int32) (x11' : Int32) (M' : Mem), k674 r0' x1' x2' x3' x4' x5' x6' x7' x8' x9' x11' M' = some (r, M2) → Go w f 674 [some (rv w r0'), some (.int x1'), some (.int x2'), some (.int x3'), some (.int x4'), some (.int x5'), some (.int x6'), some (.int x7'), some (.int x8'), some (.int x9'), none, some (.int x11'), none, none, none, none, none] [] M') : ∀ (r0 : Nat) (x1 : Int32) (x2 : Int32) (x3 : Int32) (x4 : Int32) (x5 : Int32) (x6 : Int32) (x7 : Int32) (x8 : Int32) (x9 : Int32) (x11 : Int32) (xs0 : Int32) (M : Mem), f_L_holds_710 k95 k674 r0 x1 x2 x3 x4 x5 x6 x7 x8 x9 x11 xs0 M = some (r, M2) → Go w f 710 [some (rv w r0), some (.int x1), some (.int x2), some (.int x3), some (.int x4), some (.int x5), some (.int x6), some (.int x7), some (.int x8), some (.int x9), none, some (.int x11), none, none, none, none, none] [.int xs0] M := by
  intro r0 x1 x2 x3 x4 x5 x6 x7 x8 x9 x11 xs0 M h
  unfold f_L_holds_710 at h
  refine g_istore C dL_holds_710 (by decide) rfl (L2 := [some (rv w r0), some (.int x1), some (.int x2), some (.int x3), some (.int x4), some (.int x5), some (.int x6), some (.int x7), some (.int x8), some (.int x9), none, some (.int x11), some (.int xs0), none, none, none, none]) rfl ?_
  refine g_iconst (v := 0) C dL_holds_712 rfl ?_
  refine g_istore C dL_holds_713 (by decide) rfl (L2 := [some (rv w r0), some (.int x1), some (.int x2), some (.int x3), some (.int x4), some (.int x5), some (.int x6), some (.int x7), some (.int x8), some (.int x9), none, some (.int x11), some (.int xs0), some (.int (0 : Int32)), none, none, none]) rfl ?_
  exact t_L_holds_715 C hR (fun r0' x1' x2' x3' x4' x5' x6' x7' M' h => hk95 r0' x1' x2' x3' x4' x5' x6' x7' M' h) (fun r0' x1' x2' x3' x4' x5' x6' x7' x8' x9' x11' M' h => hk674 r0' x1' x2' x3' x4' x5' x6' x7' x8' x9' x11' M' h) _ r0 x1 x2 x3 x4 x5 x6 x7 x8 x9 x11 xs0 (0 : Int32) M h
def f_L_holds_709 (k95 : Nat → Int32 → Int32 → Int32 → Int32 → Int32 → Int32 → Int32 → Mem → Option (Int32 × Mem)) (k674 : Nat → Int32 → Int32 → Int32 → Int32 → Int32 → Int32 → Int32 → Int32 → Int32 → Int32 → Mem → Option (Int32 × Mem)) (r0 : Nat) (x1 : Int32) (x2 : Int32) (x3 : Int32) (x4 : Int32) (x5 : Int32) (x6 : Int32) (x7 : Int32) (x8 : Int32) (x9 : Int32) (x11 : Int32) (M : Mem) : Option (Int32 × Mem) := f_L_holds_710 k95 k674 r0 x1 x2 x3 x4 x5 x6 x7 x8 x9 x11 (0 : Int32) M
set_option maxRecDepth 100000 in
set_option maxHeartbeats 4000000 in
theorem t_L_holds_709 {w : Om} {f : Fr} {r : Int32} {M2 : Mem} (C : Cx w f RL cL_holds 17 23) (hR : Rt w f cL_holds (some .boolean) (some (.int r)) M2) {k95 : Nat → Int32 → Int32 → Int32 → Int32 → Int32 → Int32 → Int32 → Mem → Option (Int32 × Mem)} {k674 : Nat → Int32 → Int32 → Int32 → Int32 → Int32 → Int32 → Int32 → Int32 → Int32 → Int32 → Mem → Option (Int32 × Mem)} (hk95 : ∀ (r0' : Nat) (x1' : Int32) (x2' : Int32) (x3' : Int32) (x4' : Int32) (x5' : Int32) (x6' : Int32) (x7' : Int32) (M' : Mem), k95 r0' x1' x2' x3' x4' x5' x6' x7' M' = some (r, M2) → Go w f 95 [some (rv w r0'), some (.int x1'), some (.int x2'), some (.int x3'), some (.int x4'), some (.int x5'), some (.int x6'), some (.int x7'), none, none, none, none, none, none, none, none, none] [] M') (hk674 : ∀ (r0' : Nat) (x1' : Int32) (x2' : Int32) (x3' : Int32) (x4' : Int32) (x5' : Int32) (x6' : Int32) (x7' : Int32) (x8' : Int32) (x9' : Int32) (x11' : Int32) (M' : Mem), k674 r0' x1' x2' x3' x4' x5' x6' x7' x8' x9' x11' M' = some (r, M2) → Go w f 674 [some (rv w r0'), some (.int x1'), some (.int x2'), some (.int x3'), some (.int x4'), some (.int x5'), some (.int x6'), some (.int x7'), some (.int x8'), some (.int x9'), none, some (.int x11'), none, none, none, none, none] [] M') : ∀ (r0 : Nat) (x1 : Int32) (x2 : Int32) (x3 : Int32) (x4 : Int32) (x5 : Int32) (x6 : Int32) (x7 : Int32) (x8 : Int32) (x9 : Int32) (x11 : Int32) (M : Mem), f_L_holds_709 k95 k674 r0 x1 x2 x3 x4 x5 x6 x7 x8 x9 x11 M = some (r, M2) → Go w f 709 [some (rv w r0), some (.int x1), some (.int x2), some (.int x3), some (.int x4), some (.int x5), some (.int x6), some (.int x7), some (.int x8), some (.int x9), none, some (.int x11), none, none, none, none, none] [] M := by
  intro r0 x1 x2 x3 x4 x5 x6 x7 x8 x9 x11 M h
  unfold f_L_holds_709 at h
  refine g_iconst (v := 0) C dL_holds_709 rfl ?_
  exact t_L_holds_710 C hR (fun r0' x1' x2' x3' x4' x5' x6' x7' M' h => hk95 r0' x1' x2' x3' x4' x5' x6' x7' M' h) (fun r0' x1' x2' x3' x4' x5' x6' x7' x8' x9' x11' M' h => hk674 r0' x1' x2' x3' x4' x5' x6' x7' x8' x9' x11' M' h) r0 x1 x2 x3 x4 x5 x6 x7 x8 x9 x11 (0 : Int32) M h
def f_L_holds_674 (k95 : Nat → Int32 → Int32 → Int32 → Int32 → Int32 → Int32 → Int32 → Mem → Option (Int32 × Mem)) : Nat → Nat → Int32 → Int32 → Int32 → Int32 → Int32 → Int32 → Int32 → Int32 → Int32 → Int32 → Mem → Option (Int32 × Mem)
  | 0, _, _, _, _, _, _, _, _, _, _, _, _ => none
  | n + 1, r0, x1, x2, x3, x4, x5, x6, x7, x8, x9, x11, M => if x7 ≤ x11 then (bvv (x7 + (1 : Int32)) fun y1302 => k95 r0 x1 x2 x3 x4 x5 x6 y1302 M) else (gdd (kd r0 = 6) <| opp (f_X5_edition r0 x11 (0 : Int32) M) fun y1307 M1305 => if y1307 = x8 then (opp (f_X5_edition r0 x11 (1 : Int32) M1305) fun y1311 M1309 => if y1311 = x9 then (f_L_holds_710 k95 (f_L_holds_674 k95 n) r0 x1 x2 x3 x4 x5 x6 x7 x8 x9 x11 (1 : Int32) M1309) else (f_L_holds_709 k95 (f_L_holds_674 k95 n) r0 x1 x2 x3 x4 x5 x6 x7 x8 x9 x11 M1309)) else (f_L_holds_709 k95 (f_L_holds_674 k95 n) r0 x1 x2 x3 x4 x5 x6 x7 x8 x9 x11 M1305))
set_option maxRecDepth 100000 in
set_option maxHeartbeats 4000000 in
theorem t_L_holds_674 {w : Om} {f : Fr} {r : Int32} {M2 : Mem} (C : Cx w f RL cL_holds 17 23) (hR : Rt w f cL_holds (some .boolean) (some (.int r)) M2) {k95 : Nat → Int32 → Int32 → Int32 → Int32 → Int32 → Int32 → Int32 → Mem → Option (Int32 × Mem)} (hk95 : ∀ (r0' : Nat) (x1' : Int32) (x2' : Int32) (x3' : Int32) (x4' : Int32) (x5' : Int32) (x6' : Int32) (x7' : Int32) (M' : Mem), k95 r0' x1' x2' x3' x4' x5' x6' x7' M' = some (r, M2) → Go w f 95 [some (rv w r0'), some (.int x1'), some (.int x2'), some (.int x3'), some (.int x4'), some (.int x5'), some (.int x6'), some (.int x7'), none, none, none, none, none, none, none, none, none] [] M') : ∀ (n : Nat) (r0 : Nat) (x1 : Int32) (x2 : Int32) (x3 : Int32) (x4 : Int32) (x5 : Int32) (x6 : Int32) (x7 : Int32) (x8 : Int32) (x9 : Int32) (x11 : Int32) (M : Mem), f_L_holds_674 k95 n r0 x1 x2 x3 x4 x5 x6 x7 x8 x9 x11 M = some (r, M2) → Go w f 674 [some (rv w r0), some (.int x1), some (.int x2), some (.int x3), some (.int x4), some (.int x5), some (.int x6), some (.int x7), some (.int x8), some (.int x9), none, some (.int x11), none, none, none, none, none] [] M := by
  intro n
  induction n with
  | zero =>
    intro r0 x1 x2 x3 x4 x5 x6 x7 x8 x9 x11 M h
    cases h
  | succ n ih =>
    intro r0 x1 x2 x3 x4 x5 x6 x7 x8 x9 x11 M h
    rw [f_L_holds_674] at h
    refine g_iload C dL_holds_674 rfl ?_
    refine g_iload C dL_holds_676 rfl ?_
    refine g_icmp_ge 788 C dL_holds_678 (by decide) (fun c1301 => ?_) (fun c1301 => ?_)
    · replace h := of_ift h c1301
      obtain ⟨y1302, e1303, h⟩ := of_bvv h
      refine g_iinc (v := y1302) C dL_holds_788 rfl e1303.symm (by decide) rfl (L2 := [some (rv w r0), some (.int x1), some (.int x2), some (.int x3), some (.int x4), some (.int x5), some (.int x6), some (.int y1302), some (.int x8), some (.int x9), none, some (.int x11), none, none, none, none, none]) rfl ?_
      refine g_goto 95 C dL_holds_791 (by decide) ?_
      refine g_mask (bs := [true, true, true, true, true, true, true, true, false, false, false, false, false, false, false, false, false]) (L2 := [some (rv w r0), some (.int x1), some (.int x2), some (.int x3), some (.int x4), some (.int x5), some (.int x6), some (.int y1302), none, none, none, none, none, none, none, none, none]) rfl ?_
      exact hk95 r0 x1 x2 x3 x4 x5 x6 y1302 M h
    · replace h := of_iff h c1301
      refine g_aload_n C dL_holds_681 rfl rfl ?_
      refine g_iload C dL_holds_682 rfl ?_
      refine g_iconst (v := 0) C dL_holds_684 rfl ?_
      obtain ⟨g1304, h⟩ := of_gdd h
      obtain ⟨y1307, M1305, e1306, h⟩ := of_opp h
      refine g_callV (As := [.int x11, .int (0 : Int32)]) C (ct_X5_edition C.wf e1306) g1304 lk_RL_19 mi_X5_edition (by decide) cs_0 (by decide) dL_holds_685 rfl ?_
      show Go w f 688 [some (rv w r0), some (.int x1), some (.int x2), some (.int x3), some (.int x4), some (.int x5), some (.int x6), some (.int x7), some (.int x8), some (.int x9), none, some (.int x11), none, none, none, none, none] [.int y1307] M1305
      refine g_iload C dL_holds_688 rfl ?_
      refine g_icmp_ne 709 C dL_holds_690 (by decide) (fun c1308 => ?_) (fun c1308 => ?_)
      · replace h := of_iff h c1308
        exact t_L_holds_709 C hR (fun r0' x1' x2' x3' x4' x5' x6' x7' M' h => hk95 r0' x1' x2' x3' x4' x5' x6' x7' M' h) (fun r0' x1' x2' x3' x4' x5' x6' x7' x8' x9' x11' M' h => ih r0' x1' x2' x3' x4' x5' x6' x7' x8' x9' x11' M' h) r0 x1 x2 x3 x4 x5 x6 x7 x8 x9 x11 M1305 h
      · replace h := of_ift h c1308
        refine g_aload_n C dL_holds_693 rfl rfl ?_
        refine g_iload C dL_holds_694 rfl ?_
        refine g_iconst (v := 1) C dL_holds_696 rfl ?_
        obtain ⟨y1311, M1309, e1310, h⟩ := of_opp h
        refine g_callV (As := [.int x11, .int (1 : Int32)]) C (ct_X5_edition C.wf e1310) g1304 lk_RL_19 mi_X5_edition (by decide) cs_0 (by decide) dL_holds_697 rfl ?_
        show Go w f 700 [some (rv w r0), some (.int x1), some (.int x2), some (.int x3), some (.int x4), some (.int x5), some (.int x6), some (.int x7), some (.int x8), some (.int x9), none, some (.int x11), none, none, none, none, none] [.int y1311] M1309
        refine g_iload C dL_holds_700 rfl ?_
        refine g_icmp_ne 709 C dL_holds_702 (by decide) (fun c1312 => ?_) (fun c1312 => ?_)
        · replace h := of_iff h c1312
          exact t_L_holds_709 C hR (fun r0' x1' x2' x3' x4' x5' x6' x7' M' h => hk95 r0' x1' x2' x3' x4' x5' x6' x7' M' h) (fun r0' x1' x2' x3' x4' x5' x6' x7' x8' x9' x11' M' h => ih r0' x1' x2' x3' x4' x5' x6' x7' x8' x9' x11' M' h) r0 x1 x2 x3 x4 x5 x6 x7 x8 x9 x11 M1309 h
        · replace h := of_ift h c1312
          refine g_iconst (v := 1) C dL_holds_705 rfl ?_
          refine g_goto 710 C dL_holds_706 (by decide) ?_
          exact t_L_holds_710 C hR (fun r0' x1' x2' x3' x4' x5' x6' x7' M' h => hk95 r0' x1' x2' x3' x4' x5' x6' x7' M' h) (fun r0' x1' x2' x3' x4' x5' x6' x7' x8' x9' x11' M' h => ih r0' x1' x2' x3' x4' x5' x6' x7' x8' x9' x11' M' h) r0 x1 x2 x3 x4 x5 x6 x7 x8 x9 x11 (1 : Int32) M1309 h
def f_L_holds_669 (k95 : Nat → Int32 → Int32 → Int32 → Int32 → Int32 → Int32 → Int32 → Mem → Option (Int32 × Mem)) (r0 : Nat) (x1 : Int32) (x2 : Int32) (x3 : Int32) (x4 : Int32) (x5 : Int32) (x7 : Int32) (x8 : Int32) (x9 : Int32) (xs0 : Int32) (M : Mem) : Option (Int32 × Mem) := f_L_holds_674 k95 FU r0 x1 x2 x3 x4 x5 xs0 x7 x8 x9 (0 : Int32) M
set_option maxRecDepth 100000 in
set_option maxHeartbeats 4000000 in
theorem t_L_holds_669 {w : Om} {f : Fr} {r : Int32} {M2 : Mem} (C : Cx w f RL cL_holds 17 23) (hR : Rt w f cL_holds (some .boolean) (some (.int r)) M2) {k95 : Nat → Int32 → Int32 → Int32 → Int32 → Int32 → Int32 → Int32 → Mem → Option (Int32 × Mem)} (hk95 : ∀ (r0' : Nat) (x1' : Int32) (x2' : Int32) (x3' : Int32) (x4' : Int32) (x5' : Int32) (x6' : Int32) (x7' : Int32) (M' : Mem), k95 r0' x1' x2' x3' x4' x5' x6' x7' M' = some (r, M2) → Go w f 95 [some (rv w r0'), some (.int x1'), some (.int x2'), some (.int x3'), some (.int x4'), some (.int x5'), some (.int x6'), some (.int x7'), none, none, none, none, none, none, none, none, none] [] M') : ∀ (r0 : Nat) (x1 : Int32) (x2 : Int32) (x3 : Int32) (x4 : Int32) (x5 : Int32) (x7 : Int32) (x8 : Int32) (x9 : Int32) (xs0 : Int32) (M : Mem), f_L_holds_669 k95 r0 x1 x2 x3 x4 x5 x7 x8 x9 xs0 M = some (r, M2) → Go w f 669 [some (rv w r0), some (.int x1), some (.int x2), some (.int x3), some (.int x4), some (.int x5), none, some (.int x7), some (.int x8), some (.int x9), none, none, none, none, none, none, none] [.int xs0] M := by
  intro r0 x1 x2 x3 x4 x5 x7 x8 x9 xs0 M h
  unfold f_L_holds_669 at h
  refine g_istore C dL_holds_669 (by decide) rfl (L2 := [some (rv w r0), some (.int x1), some (.int x2), some (.int x3), some (.int x4), some (.int x5), some (.int xs0), some (.int x7), some (.int x8), some (.int x9), none, none, none, none, none, none, none]) rfl ?_
  refine g_iconst (v := 0) C dL_holds_671 rfl ?_
  refine g_istore C dL_holds_672 (by decide) trivial (L2 := [some (rv w r0), some (.int x1), some (.int x2), some (.int x3), some (.int x4), some (.int x5), some (.int xs0), some (.int x7), some (.int x8), some (.int x9), none, some (.int (0 : Int32)), none, none, none, none, none]) rfl ?_
  exact t_L_holds_674 C hR (fun r0' x1' x2' x3' x4' x5' x6' x7' M' h => hk95 r0' x1' x2' x3' x4' x5' x6' x7' M' h) _ r0 x1 x2 x3 x4 x5 xs0 x7 x8 x9 (0 : Int32) M h
def f_L_holds_668 (k95 : Nat → Int32 → Int32 → Int32 → Int32 → Int32 → Int32 → Int32 → Mem → Option (Int32 × Mem)) (r0 : Nat) (x1 : Int32) (x2 : Int32) (x3 : Int32) (x4 : Int32) (x5 : Int32) (x7 : Int32) (x8 : Int32) (x9 : Int32) (M : Mem) : Option (Int32 × Mem) := f_L_holds_669 k95 r0 x1 x2 x3 x4 x5 x7 x8 x9 (0 : Int32) M
set_option maxRecDepth 100000 in
set_option maxHeartbeats 4000000 in
theorem t_L_holds_668 {w : Om} {f : Fr} {r : Int32} {M2 : Mem} (C : Cx w f RL cL_holds 17 23) (hR : Rt w f cL_holds (some .boolean) (some (.int r)) M2) {k95 : Nat → Int32 → Int32 → Int32 → Int32 → Int32 → Int32 → Int32 → Mem → Option (Int32 × Mem)} (hk95 : ∀ (r0' : Nat) (x1' : Int32) (x2' : Int32) (x3' : Int32) (x4' : Int32) (x5' : Int32) (x6' : Int32) (x7' : Int32) (M' : Mem), k95 r0' x1' x2' x3' x4' x5' x6' x7' M' = some (r, M2) → Go w f 95 [some (rv w r0'), some (.int x1'), some (.int x2'), some (.int x3'), some (.int x4'), some (.int x5'), some (.int x6'), some (.int x7'), none, none, none, none, none, none, none, none, none] [] M') : ∀ (r0 : Nat) (x1 : Int32) (x2 : Int32) (x3 : Int32) (x4 : Int32) (x5 : Int32) (x7 : Int32) (x8 : Int32) (x9 : Int32) (M : Mem), f_L_holds_668 k95 r0 x1 x2 x3 x4 x5 x7 x8 x9 M = some (r, M2) → Go w f 668 [some (rv w r0), some (.int x1), some (.int x2), some (.int x3), some (.int x4), some (.int x5), none, some (.int x7), some (.int x8), some (.int x9), none, none, none, none, none, none, none] [] M := by
  intro r0 x1 x2 x3 x4 x5 x7 x8 x9 M h
  unfold f_L_holds_668 at h
  refine g_iconst (v := 0) C dL_holds_668 rfl ?_
  exact t_L_holds_669 C hR (fun r0' x1' x2' x3' x4' x5' x6' x7' M' h => hk95 r0' x1' x2' x3' x4' x5' x6' x7' M' h) r0 x1 x2 x3 x4 x5 x7 x8 x9 (0 : Int32) M h
def f_L_holds_539 (k95 : Nat → Int32 → Int32 → Int32 → Int32 → Int32 → Int32 → Int32 → Mem → Option (Int32 × Mem)) (r0 : Nat) (x1 : Int32) (x2 : Int32) (x3 : Int32) (x4 : Int32) (x5 : Int32) (x7 : Int32) (x8 : Int32) (x9 : Int32) (xs0 : Int32) (xs1 : Int32) (M : Mem) : Option (Int32 × Mem) := if xs0 = xs1 then (gdd (kd r0 = 6) <| opp (f_X5_gap r0 x7 (x8 - (1 : Int32)) (0 : Int32) M) fun y2105 M2103 => if y2105 = (-1 : Int32) then (obb (f_L_ones x9) fun y2107 => obb (f_X5_sign r0 x7 (x8 + y2107) M2103) fun y2109 => if y2109 = (-4 : Int32) then (opp (f_X5_best r0 x7 (1 : Int32) (0 : Int32) M2103) fun y2114 M2112 => opp (f_X5_edition r0 x7 (6 : Int32) M2112) fun y2117 M2115 => if y2117 < y2114 then (f_L_holds_668 k95 r0 x1 x2 x3 x4 x5 x7 x8 x9 M2115) else (opp (f_X5_best r0 x7 (0 : Int32) (0 : Int32) M2115) fun y2121 M2119 => opp (f_X5_best r0 x7 (0 : Int32) (1 : Int32) M2119) fun y2124 M2122 => if y2121 = y2124 then (opp (f_X5_best r0 x7 (2 : Int32) (0 : Int32) M2122) fun y2128 M2126 => opp (f_X5_best r0 x7 (0 : Int32) (0 : Int32) M2126) fun y2131 M2129 => obb (f_L_ones y2131) fun y2132 => if y2128 = y2132 then (opp (f_X5_ways r0 x7 (0 : Int32) M2129) fun y2137 M2135 => opp (f_X5_ways r0 x7 (1 : Int32) M2135) fun y2140 M2138 => if y2137 = y2140 then (opp (f_X5_ways r0 x7 (0 : Int32) M2138) fun y2144 M2142 => if y2144 < (1 : Int32) then (f_L_holds_668 k95 r0 x1 x2 x3 x4 x5 x7 x8 x9 M2142) else (f_L_holds_669 k95 r0 x1 x2 x3 x4 x5 x7 x8 x9 (1 : Int32) M2142)) else (f_L_holds_668 k95 r0 x1 x2 x3 x4 x5 x7 x8 x9 M2138)) else (f_L_holds_668 k95 r0 x1 x2 x3 x4 x5 x7 x8 x9 M2129)) else (f_L_holds_668 k95 r0 x1 x2 x3 x4 x5 x7 x8 x9 M2122))) else (f_L_holds_668 k95 r0 x1 x2 x3 x4 x5 x7 x8 x9 M2103)) else (f_L_holds_668 k95 r0 x1 x2 x3 x4 x5 x7 x8 x9 M2103)) else (f_L_holds_668 k95 r0 x1 x2 x3 x4 x5 x7 x8 x9 M)
set_option maxRecDepth 100000 in
set_option maxHeartbeats 4000000 in
theorem t_L_holds_539 {w : Om} {f : Fr} {r : Int32} {M2 : Mem} (C : Cx w f RL cL_holds 17 23) (hR : Rt w f cL_holds (some .boolean) (some (.int r)) M2) {k95 : Nat → Int32 → Int32 → Int32 → Int32 → Int32 → Int32 → Int32 → Mem → Option (Int32 × Mem)} (hk95 : ∀ (r0' : Nat) (x1' : Int32) (x2' : Int32) (x3' : Int32) (x4' : Int32) (x5' : Int32) (x6' : Int32) (x7' : Int32) (M' : Mem), k95 r0' x1' x2' x3' x4' x5' x6' x7' M' = some (r, M2) → Go w f 95 [some (rv w r0'), some (.int x1'), some (.int x2'), some (.int x3'), some (.int x4'), some (.int x5'), some (.int x6'), some (.int x7'), none, none, none, none, none, none, none, none, none] [] M') : ∀ (r0 : Nat) (x1 : Int32) (x2 : Int32) (x3 : Int32) (x4 : Int32) (x5 : Int32) (x7 : Int32) (x8 : Int32) (x9 : Int32) (xs0 : Int32) (xs1 : Int32) (M : Mem), f_L_holds_539 k95 r0 x1 x2 x3 x4 x5 x7 x8 x9 xs0 xs1 M = some (r, M2) → Go w f 539 [some (rv w r0), some (.int x1), some (.int x2), some (.int x3), some (.int x4), some (.int x5), none, some (.int x7), some (.int x8), some (.int x9), none, none, none, none, none, none, none] [.int xs1, .int xs0] M := by
  intro r0 x1 x2 x3 x4 x5 x7 x8 x9 xs0 xs1 M h
  unfold f_L_holds_539 at h
  refine g_icmp_ne 668 C dL_holds_539 (by decide) (fun c2101 => ?_) (fun c2101 => ?_)
  · replace h := of_iff h c2101
    exact t_L_holds_668 C hR (fun r0' x1' x2' x3' x4' x5' x6' x7' M' h => hk95 r0' x1' x2' x3' x4' x5' x6' x7' M' h) r0 x1 x2 x3 x4 x5 x7 x8 x9 M h
  · replace h := of_ift h c2101
    refine g_aload_n C dL_holds_542 rfl rfl ?_
    refine g_iload C dL_holds_543 rfl ?_
    refine g_iload C dL_holds_545 rfl ?_
    refine g_iconst (v := 1) C dL_holds_547 rfl ?_
    refine g_isub C dL_holds_548 ?_
    refine g_iconst (v := 0) C dL_holds_549 rfl ?_
    obtain ⟨g2102, h⟩ := of_gdd h
    obtain ⟨y2105, M2103, e2104, h⟩ := of_opp h
    refine g_callV (As := [.int x7, .int (x8 - (1 : Int32)), .int (0 : Int32)]) C (ct_X5_gap C.wf e2104) g2102 lk_RL_42 mi_X5_gap (by decide) cs_0 (by decide) dL_holds_550 rfl ?_
    show Go w f 553 [some (rv w r0), some (.int x1), some (.int x2), some (.int x3), some (.int x4), some (.int x5), none, some (.int x7), some (.int x8), some (.int x9), none, none, none, none, none, none, none] [.int y2105] M2103
    refine g_iconst (v := -1) C dL_holds_553 rfl ?_
    refine g_icmp_ne 668 C dL_holds_554 (by decide) (fun c2106 => ?_) (fun c2106 => ?_)
    · replace h := of_iff h c2106
      exact t_L_holds_668 C hR (fun r0' x1' x2' x3' x4' x5' x6' x7' M' h => hk95 r0' x1' x2' x3' x4' x5' x6' x7' M' h) r0 x1 x2 x3 x4 x5 x7 x8 x9 M2103 h
    · replace h := of_ift h c2106
      refine g_aload_n C dL_holds_557 rfl rfl ?_
      refine g_iload C dL_holds_558 rfl ?_
      refine g_iload C dL_holds_560 rfl ?_
      refine g_iload C dL_holds_562 rfl ?_
      obtain ⟨y2107, e2108, h⟩ := of_obb h
      refine g_callS (As := [.int x9]) C (ct_L_ones C.wf e2108) lk_RL_29 mi_L_ones (by decide) (cs_i (cs_i (cs_r cs_0))) (by decide) dL_holds_564 rfl ?_
      show Go w f 567 [some (rv w r0), some (.int x1), some (.int x2), some (.int x3), some (.int x4), some (.int x5), none, some (.int x7), some (.int x8), some (.int x9), none, none, none, none, none, none, none] [.int y2107, .int x8, .int x7, rv w r0] M2103
      refine g_iadd C dL_holds_567 ?_
      obtain ⟨y2109, e2110, h⟩ := of_obb h
      refine g_callV (As := [.int x7, .int (x8 + y2107)]) C (ct_X5_sign C.wf e2110) g2102 lk_RL_23 mi_X5_sign (by decide) cs_0 (by decide) dL_holds_568 rfl ?_
      show Go w f 571 [some (rv w r0), some (.int x1), some (.int x2), some (.int x3), some (.int x4), some (.int x5), none, some (.int x7), some (.int x8), some (.int x9), none, none, none, none, none, none, none] [.int y2109] M2103
      refine g_bipush (v := -4) C dL_holds_571 rfl ?_
      refine g_icmp_ne 668 C dL_holds_573 (by decide) (fun c2111 => ?_) (fun c2111 => ?_)
      · replace h := of_iff h c2111
        exact t_L_holds_668 C hR (fun r0' x1' x2' x3' x4' x5' x6' x7' M' h => hk95 r0' x1' x2' x3' x4' x5' x6' x7' M' h) r0 x1 x2 x3 x4 x5 x7 x8 x9 M2103 h
      · replace h := of_ift h c2111
        refine g_aload_n C dL_holds_576 rfl rfl ?_
        refine g_iload C dL_holds_577 rfl ?_
        refine g_iconst (v := 1) C dL_holds_579 rfl ?_
        refine g_iconst (v := 0) C dL_holds_580 rfl ?_
        obtain ⟨y2114, M2112, e2113, h⟩ := of_opp h
        refine g_callV (As := [.int x7, .int (1 : Int32), .int (0 : Int32)]) C (ct_X5_best C.wf e2113) g2102 lk_RL_46 mi_X5_best (by decide) cs_0 (by decide) dL_holds_581 rfl ?_
        show Go w f 584 [some (rv w r0), some (.int x1), some (.int x2), some (.int x3), some (.int x4), some (.int x5), none, some (.int x7), some (.int x8), some (.int x9), none, none, none, none, none, none, none] [.int y2114] M2112
        refine g_aload_n C dL_holds_584 rfl rfl ?_
        refine g_iload C dL_holds_585 rfl ?_
        refine g_bipush (v := 6) C dL_holds_587 rfl ?_
        obtain ⟨y2117, M2115, e2116, h⟩ := of_opp h
        refine g_callV (As := [.int x7, .int (6 : Int32)]) C (ct_X5_edition C.wf e2116) g2102 lk_RL_19 mi_X5_edition (by decide) (cs_i cs_0) (by decide) dL_holds_589 rfl ?_
        show Go w f 592 [some (rv w r0), some (.int x1), some (.int x2), some (.int x3), some (.int x4), some (.int x5), none, some (.int x7), some (.int x8), some (.int x9), none, none, none, none, none, none, none] [.int y2117, .int y2114] M2115
        refine g_icmp_gt 668 C dL_holds_592 (by decide) (fun c2118 => ?_) (fun c2118 => ?_)
        · replace h := of_ift h c2118
          exact t_L_holds_668 C hR (fun r0' x1' x2' x3' x4' x5' x6' x7' M' h => hk95 r0' x1' x2' x3' x4' x5' x6' x7' M' h) r0 x1 x2 x3 x4 x5 x7 x8 x9 M2115 h
        · replace h := of_iff h c2118
          refine g_aload_n C dL_holds_595 rfl rfl ?_
          refine g_iload C dL_holds_596 rfl ?_
          refine g_iconst (v := 0) C dL_holds_598 rfl ?_
          refine g_iconst (v := 0) C dL_holds_599 rfl ?_
          obtain ⟨y2121, M2119, e2120, h⟩ := of_opp h
          refine g_callV (As := [.int x7, .int (0 : Int32), .int (0 : Int32)]) C (ct_X5_best C.wf e2120) g2102 lk_RL_46 mi_X5_best (by decide) cs_0 (by decide) dL_holds_600 rfl ?_
          show Go w f 603 [some (rv w r0), some (.int x1), some (.int x2), some (.int x3), some (.int x4), some (.int x5), none, some (.int x7), some (.int x8), some (.int x9), none, none, none, none, none, none, none] [.int y2121] M2119
          refine g_aload_n C dL_holds_603 rfl rfl ?_
          refine g_iload C dL_holds_604 rfl ?_
          refine g_iconst (v := 0) C dL_holds_606 rfl ?_
          refine g_iconst (v := 1) C dL_holds_607 rfl ?_
          obtain ⟨y2124, M2122, e2123, h⟩ := of_opp h
          refine g_callV (As := [.int x7, .int (0 : Int32), .int (1 : Int32)]) C (ct_X5_best C.wf e2123) g2102 lk_RL_46 mi_X5_best (by decide) (cs_i cs_0) (by decide) dL_holds_608 rfl ?_
          show Go w f 611 [some (rv w r0), some (.int x1), some (.int x2), some (.int x3), some (.int x4), some (.int x5), none, some (.int x7), some (.int x8), some (.int x9), none, none, none, none, none, none, none] [.int y2124, .int y2121] M2122
          refine g_icmp_ne 668 C dL_holds_611 (by decide) (fun c2125 => ?_) (fun c2125 => ?_)
          · replace h := of_iff h c2125
            exact t_L_holds_668 C hR (fun r0' x1' x2' x3' x4' x5' x6' x7' M' h => hk95 r0' x1' x2' x3' x4' x5' x6' x7' M' h) r0 x1 x2 x3 x4 x5 x7 x8 x9 M2122 h
          · replace h := of_ift h c2125
            refine g_aload_n C dL_holds_614 rfl rfl ?_
            refine g_iload C dL_holds_615 rfl ?_
            refine g_iconst (v := 2) C dL_holds_617 rfl ?_
            refine g_iconst (v := 0) C dL_holds_618 rfl ?_
            obtain ⟨y2128, M2126, e2127, h⟩ := of_opp h
            refine g_callV (As := [.int x7, .int (2 : Int32), .int (0 : Int32)]) C (ct_X5_best C.wf e2127) g2102 lk_RL_46 mi_X5_best (by decide) cs_0 (by decide) dL_holds_619 rfl ?_
            show Go w f 622 [some (rv w r0), some (.int x1), some (.int x2), some (.int x3), some (.int x4), some (.int x5), none, some (.int x7), some (.int x8), some (.int x9), none, none, none, none, none, none, none] [.int y2128] M2126
            refine g_aload_n C dL_holds_622 rfl rfl ?_
            refine g_iload C dL_holds_623 rfl ?_
            refine g_iconst (v := 0) C dL_holds_625 rfl ?_
            refine g_iconst (v := 0) C dL_holds_626 rfl ?_
            obtain ⟨y2131, M2129, e2130, h⟩ := of_opp h
            refine g_callV (As := [.int x7, .int (0 : Int32), .int (0 : Int32)]) C (ct_X5_best C.wf e2130) g2102 lk_RL_46 mi_X5_best (by decide) (cs_i cs_0) (by decide) dL_holds_627 rfl ?_
            show Go w f 630 [some (rv w r0), some (.int x1), some (.int x2), some (.int x3), some (.int x4), some (.int x5), none, some (.int x7), some (.int x8), some (.int x9), none, none, none, none, none, none, none] [.int y2131, .int y2128] M2129
            obtain ⟨y2132, e2133, h⟩ := of_obb h
            refine g_callS (As := [.int y2131]) C (ct_L_ones C.wf e2133) lk_RL_29 mi_L_ones (by decide) (cs_i cs_0) (by decide) dL_holds_630 rfl ?_
            show Go w f 633 [some (rv w r0), some (.int x1), some (.int x2), some (.int x3), some (.int x4), some (.int x5), none, some (.int x7), some (.int x8), some (.int x9), none, none, none, none, none, none, none] [.int y2132, .int y2128] M2129
            refine g_icmp_ne 668 C dL_holds_633 (by decide) (fun c2134 => ?_) (fun c2134 => ?_)
            · replace h := of_iff h c2134
              exact t_L_holds_668 C hR (fun r0' x1' x2' x3' x4' x5' x6' x7' M' h => hk95 r0' x1' x2' x3' x4' x5' x6' x7' M' h) r0 x1 x2 x3 x4 x5 x7 x8 x9 M2129 h
            · replace h := of_ift h c2134
              refine g_aload_n C dL_holds_636 rfl rfl ?_
              refine g_iload C dL_holds_637 rfl ?_
              refine g_iconst (v := 0) C dL_holds_639 rfl ?_
              obtain ⟨y2137, M2135, e2136, h⟩ := of_opp h
              refine g_callV (As := [.int x7, .int (0 : Int32)]) C (ct_X5_ways C.wf e2136) g2102 lk_RL_49 mi_X5_ways (by decide) cs_0 (by decide) dL_holds_640 rfl ?_
              show Go w f 643 [some (rv w r0), some (.int x1), some (.int x2), some (.int x3), some (.int x4), some (.int x5), none, some (.int x7), some (.int x8), some (.int x9), none, none, none, none, none, none, none] [.int y2137] M2135
              refine g_aload_n C dL_holds_643 rfl rfl ?_
              refine g_iload C dL_holds_644 rfl ?_
              refine g_iconst (v := 1) C dL_holds_646 rfl ?_
              obtain ⟨y2140, M2138, e2139, h⟩ := of_opp h
              refine g_callV (As := [.int x7, .int (1 : Int32)]) C (ct_X5_ways C.wf e2139) g2102 lk_RL_49 mi_X5_ways (by decide) (cs_i cs_0) (by decide) dL_holds_647 rfl ?_
              show Go w f 650 [some (rv w r0), some (.int x1), some (.int x2), some (.int x3), some (.int x4), some (.int x5), none, some (.int x7), some (.int x8), some (.int x9), none, none, none, none, none, none, none] [.int y2140, .int y2137] M2138
              refine g_icmp_ne 668 C dL_holds_650 (by decide) (fun c2141 => ?_) (fun c2141 => ?_)
              · replace h := of_iff h c2141
                exact t_L_holds_668 C hR (fun r0' x1' x2' x3' x4' x5' x6' x7' M' h => hk95 r0' x1' x2' x3' x4' x5' x6' x7' M' h) r0 x1 x2 x3 x4 x5 x7 x8 x9 M2138 h
              · replace h := of_ift h c2141
                refine g_aload_n C dL_holds_653 rfl rfl ?_
                refine g_iload C dL_holds_654 rfl ?_
                refine g_iconst (v := 0) C dL_holds_656 rfl ?_
                obtain ⟨y2144, M2142, e2143, h⟩ := of_opp h
                refine g_callV (As := [.int x7, .int (0 : Int32)]) C (ct_X5_ways C.wf e2143) g2102 lk_RL_49 mi_X5_ways (by decide) cs_0 (by decide) dL_holds_657 rfl ?_
                show Go w f 660 [some (rv w r0), some (.int x1), some (.int x2), some (.int x3), some (.int x4), some (.int x5), none, some (.int x7), some (.int x8), some (.int x9), none, none, none, none, none, none, none] [.int y2144] M2142
                refine g_iconst (v := 1) C dL_holds_660 rfl ?_
                refine g_icmp_lt 668 C dL_holds_661 (by decide) (fun c2145 => ?_) (fun c2145 => ?_)
                · replace h := of_ift h c2145
                  exact t_L_holds_668 C hR (fun r0' x1' x2' x3' x4' x5' x6' x7' M' h => hk95 r0' x1' x2' x3' x4' x5' x6' x7' M' h) r0 x1 x2 x3 x4 x5 x7 x8 x9 M2142 h
                · replace h := of_iff h c2145
                  refine g_iconst (v := 1) C dL_holds_664 rfl ?_
                  refine g_goto 669 C dL_holds_665 (by decide) ?_
                  exact t_L_holds_669 C hR (fun r0' x1' x2' x3' x4' x5' x6' x7' M' h => hk95 r0' x1' x2' x3' x4' x5' x6' x7' M' h) r0 x1 x2 x3 x4 x5 x7 x8 x9 (1 : Int32) M2142 h
def f_L_holds_399 (k95 : Nat → Int32 → Int32 → Int32 → Int32 → Int32 → Int32 → Int32 → Mem → Option (Int32 × Mem)) (r0 : Nat) (x1 : Int32) (x2 : Int32) (x3 : Int32) (x4 : Int32) (x5 : Int32) (x6 : Int32) (x7 : Int32) (x8 : Int32) (x9 : Int32) (x10 : Int32) (M : Mem) : Option (Int32 × Mem) := if x6 = 0 then (f_L_holds_668 k95 r0 x1 x2 x3 x4 x5 x7 x8 x9 M) else (if x8 < (1 : Int32) then (f_L_holds_668 k95 r0 x1 x2 x3 x4 x5 x7 x8 x9 M) else (if (12 : Int32) < x8 then (f_L_holds_668 k95 r0 x1 x2 x3 x4 x5 x7 x8 x9 M) else (if x9 < 0 then (f_L_holds_668 k95 r0 x1 x2 x3 x4 x5 x7 x8 x9 M) else (if ((1 : Int32) <<< ((x8 - (1 : Int32)) &&& 31)) ≤ x9 then (f_L_holds_668 k95 r0 x1 x2 x3 x4 x5 x7 x8 x9 M) else (gdd (kd r0 = 6) <| opp (f_X5_edition r0 x7 (2 : Int32) M) fun y1009 M1007 => obb (f_L_ones x9) fun y1010 => if y1009 = (y1010 + (1 : Int32)) then (opp (f_X5_edition r0 x7 (3 : Int32) M1007) fun y1015 M1013 => if y1015 < x8 then (f_L_holds_668 k95 r0 x1 x2 x3 x4 x5 x7 x8 x9 M1013) else (opp (f_X5_edition r0 x7 (3 : Int32) M1013) fun y1019 M1017 => if ((9 : Int32) * x8) < y1019 then (f_L_holds_668 k95 r0 x1 x2 x3 x4 x5 x7 x8 x9 M1017) else (opp (f_X5_edition r0 x7 (5 : Int32) M1017) fun y1023 M1021 => if y1023 = x10 then (opp (f_X5_edition r0 x7 (6 : Int32) M1021) fun y1027 M1025 => opp (f_X5_edition r0 x7 (4 : Int32) M1025) fun y1030 M1028 => if y1027 = (y1030 + x10) then (opp (f_X5_edition r0 x7 (7 : Int32) M1028) fun y1034 M1032 => opp (f_X5_count r0 (0 : Int32) M1032) fun y1037 M1035 => opp (f_X5_edition r0 x7 (8 : Int32) M1035) fun y1040 M1038 => if y1040 ≤ y1037 then (f_L_holds_539 k95 r0 x1 x2 x3 x4 x5 x7 x8 x9 y1034 (0 : Int32) M1038) else (f_L_holds_539 k95 r0 x1 x2 x3 x4 x5 x7 x8 x9 y1034 (1 : Int32) M1038)) else (f_L_holds_668 k95 r0 x1 x2 x3 x4 x5 x7 x8 x9 M1028)) else (f_L_holds_668 k95 r0 x1 x2 x3 x4 x5 x7 x8 x9 M1021)))) else (f_L_holds_668 k95 r0 x1 x2 x3 x4 x5 x7 x8 x9 M1007))))))
set_option maxRecDepth 100000 in
set_option maxHeartbeats 4000000 in
theorem t_L_holds_399 {w : Om} {f : Fr} {r : Int32} {M2 : Mem} (C : Cx w f RL cL_holds 17 23) (hR : Rt w f cL_holds (some .boolean) (some (.int r)) M2) {k95 : Nat → Int32 → Int32 → Int32 → Int32 → Int32 → Int32 → Int32 → Mem → Option (Int32 × Mem)} (hk95 : ∀ (r0' : Nat) (x1' : Int32) (x2' : Int32) (x3' : Int32) (x4' : Int32) (x5' : Int32) (x6' : Int32) (x7' : Int32) (M' : Mem), k95 r0' x1' x2' x3' x4' x5' x6' x7' M' = some (r, M2) → Go w f 95 [some (rv w r0'), some (.int x1'), some (.int x2'), some (.int x3'), some (.int x4'), some (.int x5'), some (.int x6'), some (.int x7'), none, none, none, none, none, none, none, none, none] [] M') : ∀ (r0 : Nat) (x1 : Int32) (x2 : Int32) (x3 : Int32) (x4 : Int32) (x5 : Int32) (x6 : Int32) (x7 : Int32) (x8 : Int32) (x9 : Int32) (x10 : Int32) (M : Mem), f_L_holds_399 k95 r0 x1 x2 x3 x4 x5 x6 x7 x8 x9 x10 M = some (r, M2) → Go w f 399 [some (rv w r0), some (.int x1), some (.int x2), some (.int x3), some (.int x4), some (.int x5), some (.int x6), some (.int x7), some (.int x8), some (.int x9), some (.int x10), none, none, none, none, none, none] [] M := by
  intro r0 x1 x2 x3 x4 x5 x6 x7 x8 x9 x10 M h
  unfold f_L_holds_399 at h
  refine g_iload C dL_holds_399 rfl ?_
  refine g_if_eq 668 C dL_holds_401 (by decide) (fun c1001 => ?_) (fun c1001 => ?_)
  · replace h := of_ift h c1001
    refine g_mask (bs := [true, true, true, true, true, true, false, true, true, true, false, false, false, false, false, false, false]) (L2 := [some (rv w r0), some (.int x1), some (.int x2), some (.int x3), some (.int x4), some (.int x5), none, some (.int x7), some (.int x8), some (.int x9), none, none, none, none, none, none, none]) rfl ?_
    exact t_L_holds_668 C hR (fun r0' x1' x2' x3' x4' x5' x6' x7' M' h => hk95 r0' x1' x2' x3' x4' x5' x6' x7' M' h) r0 x1 x2 x3 x4 x5 x7 x8 x9 M h
  · replace h := of_iff h c1001
    refine g_iload C dL_holds_404 rfl ?_
    refine g_iconst (v := 1) C dL_holds_406 rfl ?_
    refine g_icmp_lt 668 C dL_holds_407 (by decide) (fun c1002 => ?_) (fun c1002 => ?_)
    · replace h := of_ift h c1002
      refine g_mask (bs := [true, true, true, true, true, true, false, true, true, true, false, false, false, false, false, false, false]) (L2 := [some (rv w r0), some (.int x1), some (.int x2), some (.int x3), some (.int x4), some (.int x5), none, some (.int x7), some (.int x8), some (.int x9), none, none, none, none, none, none, none]) rfl ?_
      exact t_L_holds_668 C hR (fun r0' x1' x2' x3' x4' x5' x6' x7' M' h => hk95 r0' x1' x2' x3' x4' x5' x6' x7' M' h) r0 x1 x2 x3 x4 x5 x7 x8 x9 M h
    · replace h := of_iff h c1002
      refine g_iload C dL_holds_410 rfl ?_
      refine g_bipush (v := 12) C dL_holds_412 rfl ?_
      refine g_icmp_gt 668 C dL_holds_414 (by decide) (fun c1003 => ?_) (fun c1003 => ?_)
      · replace h := of_ift h c1003
        refine g_mask (bs := [true, true, true, true, true, true, false, true, true, true, false, false, false, false, false, false, false]) (L2 := [some (rv w r0), some (.int x1), some (.int x2), some (.int x3), some (.int x4), some (.int x5), none, some (.int x7), some (.int x8), some (.int x9), none, none, none, none, none, none, none]) rfl ?_
        exact t_L_holds_668 C hR (fun r0' x1' x2' x3' x4' x5' x6' x7' M' h => hk95 r0' x1' x2' x3' x4' x5' x6' x7' M' h) r0 x1 x2 x3 x4 x5 x7 x8 x9 M h
      · replace h := of_iff h c1003
        refine g_iload C dL_holds_417 rfl ?_
        refine g_if_lt 668 C dL_holds_419 (by decide) (fun c1004 => ?_) (fun c1004 => ?_)
        · replace h := of_ift h c1004
          refine g_mask (bs := [true, true, true, true, true, true, false, true, true, true, false, false, false, false, false, false, false]) (L2 := [some (rv w r0), some (.int x1), some (.int x2), some (.int x3), some (.int x4), some (.int x5), none, some (.int x7), some (.int x8), some (.int x9), none, none, none, none, none, none, none]) rfl ?_
          exact t_L_holds_668 C hR (fun r0' x1' x2' x3' x4' x5' x6' x7' M' h => hk95 r0' x1' x2' x3' x4' x5' x6' x7' M' h) r0 x1 x2 x3 x4 x5 x7 x8 x9 M h
        · replace h := of_iff h c1004
          refine g_iload C dL_holds_422 rfl ?_
          refine g_iconst (v := 1) C dL_holds_424 rfl ?_
          refine g_iload C dL_holds_425 rfl ?_
          refine g_iconst (v := 1) C dL_holds_427 rfl ?_
          refine g_isub C dL_holds_428 ?_
          refine g_ishl C dL_holds_429 ?_
          refine g_icmp_ge 668 C dL_holds_430 (by decide) (fun c1005 => ?_) (fun c1005 => ?_)
          · replace h := of_ift h c1005
            refine g_mask (bs := [true, true, true, true, true, true, false, true, true, true, false, false, false, false, false, false, false]) (L2 := [some (rv w r0), some (.int x1), some (.int x2), some (.int x3), some (.int x4), some (.int x5), none, some (.int x7), some (.int x8), some (.int x9), none, none, none, none, none, none, none]) rfl ?_
            exact t_L_holds_668 C hR (fun r0' x1' x2' x3' x4' x5' x6' x7' M' h => hk95 r0' x1' x2' x3' x4' x5' x6' x7' M' h) r0 x1 x2 x3 x4 x5 x7 x8 x9 M h
          · replace h := of_iff h c1005
            refine g_aload_n C dL_holds_433 rfl rfl ?_
            refine g_iload C dL_holds_434 rfl ?_
            refine g_iconst (v := 2) C dL_holds_436 rfl ?_
            obtain ⟨g1006, h⟩ := of_gdd h
            obtain ⟨y1009, M1007, e1008, h⟩ := of_opp h
            refine g_callV (As := [.int x7, .int (2 : Int32)]) C (ct_X5_edition C.wf e1008) g1006 lk_RL_19 mi_X5_edition (by decide) cs_0 (by decide) dL_holds_437 rfl ?_
            show Go w f 440 [some (rv w r0), some (.int x1), some (.int x2), some (.int x3), some (.int x4), some (.int x5), some (.int x6), some (.int x7), some (.int x8), some (.int x9), some (.int x10), none, none, none, none, none, none] [.int y1009] M1007
            refine g_iload C dL_holds_440 rfl ?_
            obtain ⟨y1010, e1011, h⟩ := of_obb h
            refine g_callS (As := [.int x9]) C (ct_L_ones C.wf e1011) lk_RL_29 mi_L_ones (by decide) (cs_i cs_0) (by decide) dL_holds_442 rfl ?_
            show Go w f 445 [some (rv w r0), some (.int x1), some (.int x2), some (.int x3), some (.int x4), some (.int x5), some (.int x6), some (.int x7), some (.int x8), some (.int x9), some (.int x10), none, none, none, none, none, none] [.int y1010, .int y1009] M1007
            refine g_iconst (v := 1) C dL_holds_445 rfl ?_
            refine g_iadd C dL_holds_446 ?_
            refine g_icmp_ne 668 C dL_holds_447 (by decide) (fun c1012 => ?_) (fun c1012 => ?_)
            · replace h := of_iff h c1012
              refine g_mask (bs := [true, true, true, true, true, true, false, true, true, true, false, false, false, false, false, false, false]) (L2 := [some (rv w r0), some (.int x1), some (.int x2), some (.int x3), some (.int x4), some (.int x5), none, some (.int x7), some (.int x8), some (.int x9), none, none, none, none, none, none, none]) rfl ?_
              exact t_L_holds_668 C hR (fun r0' x1' x2' x3' x4' x5' x6' x7' M' h => hk95 r0' x1' x2' x3' x4' x5' x6' x7' M' h) r0 x1 x2 x3 x4 x5 x7 x8 x9 M1007 h
            · replace h := of_ift h c1012
              refine g_aload_n C dL_holds_450 rfl rfl ?_
              refine g_iload C dL_holds_451 rfl ?_
              refine g_iconst (v := 3) C dL_holds_453 rfl ?_
              obtain ⟨y1015, M1013, e1014, h⟩ := of_opp h
              refine g_callV (As := [.int x7, .int (3 : Int32)]) C (ct_X5_edition C.wf e1014) g1006 lk_RL_19 mi_X5_edition (by decide) cs_0 (by decide) dL_holds_454 rfl ?_
              show Go w f 457 [some (rv w r0), some (.int x1), some (.int x2), some (.int x3), some (.int x4), some (.int x5), some (.int x6), some (.int x7), some (.int x8), some (.int x9), some (.int x10), none, none, none, none, none, none] [.int y1015] M1013
              refine g_iload C dL_holds_457 rfl ?_
              refine g_icmp_lt 668 C dL_holds_459 (by decide) (fun c1016 => ?_) (fun c1016 => ?_)
              · replace h := of_ift h c1016
                refine g_mask (bs := [true, true, true, true, true, true, false, true, true, true, false, false, false, false, false, false, false]) (L2 := [some (rv w r0), some (.int x1), some (.int x2), some (.int x3), some (.int x4), some (.int x5), none, some (.int x7), some (.int x8), some (.int x9), none, none, none, none, none, none, none]) rfl ?_
                exact t_L_holds_668 C hR (fun r0' x1' x2' x3' x4' x5' x6' x7' M' h => hk95 r0' x1' x2' x3' x4' x5' x6' x7' M' h) r0 x1 x2 x3 x4 x5 x7 x8 x9 M1013 h
              · replace h := of_iff h c1016
                refine g_aload_n C dL_holds_462 rfl rfl ?_
                refine g_iload C dL_holds_463 rfl ?_
                refine g_iconst (v := 3) C dL_holds_465 rfl ?_
                obtain ⟨y1019, M1017, e1018, h⟩ := of_opp h
                refine g_callV (As := [.int x7, .int (3 : Int32)]) C (ct_X5_edition C.wf e1018) g1006 lk_RL_19 mi_X5_edition (by decide) cs_0 (by decide) dL_holds_466 rfl ?_
                show Go w f 469 [some (rv w r0), some (.int x1), some (.int x2), some (.int x3), some (.int x4), some (.int x5), some (.int x6), some (.int x7), some (.int x8), some (.int x9), some (.int x10), none, none, none, none, none, none] [.int y1019] M1017
                refine g_bipush (v := 9) C dL_holds_469 rfl ?_
                refine g_iload C dL_holds_471 rfl ?_
                refine g_imul C dL_holds_473 ?_
                refine g_icmp_gt 668 C dL_holds_474 (by decide) (fun c1020 => ?_) (fun c1020 => ?_)
                · replace h := of_ift h c1020
                  refine g_mask (bs := [true, true, true, true, true, true, false, true, true, true, false, false, false, false, false, false, false]) (L2 := [some (rv w r0), some (.int x1), some (.int x2), some (.int x3), some (.int x4), some (.int x5), none, some (.int x7), some (.int x8), some (.int x9), none, none, none, none, none, none, none]) rfl ?_
                  exact t_L_holds_668 C hR (fun r0' x1' x2' x3' x4' x5' x6' x7' M' h => hk95 r0' x1' x2' x3' x4' x5' x6' x7' M' h) r0 x1 x2 x3 x4 x5 x7 x8 x9 M1017 h
                · replace h := of_iff h c1020
                  refine g_aload_n C dL_holds_477 rfl rfl ?_
                  refine g_iload C dL_holds_478 rfl ?_
                  refine g_iconst (v := 5) C dL_holds_480 rfl ?_
                  obtain ⟨y1023, M1021, e1022, h⟩ := of_opp h
                  refine g_callV (As := [.int x7, .int (5 : Int32)]) C (ct_X5_edition C.wf e1022) g1006 lk_RL_19 mi_X5_edition (by decide) cs_0 (by decide) dL_holds_481 rfl ?_
                  show Go w f 484 [some (rv w r0), some (.int x1), some (.int x2), some (.int x3), some (.int x4), some (.int x5), some (.int x6), some (.int x7), some (.int x8), some (.int x9), some (.int x10), none, none, none, none, none, none] [.int y1023] M1021
                  refine g_iload C dL_holds_484 rfl ?_
                  refine g_icmp_ne 668 C dL_holds_486 (by decide) (fun c1024 => ?_) (fun c1024 => ?_)
                  · replace h := of_iff h c1024
                    refine g_mask (bs := [true, true, true, true, true, true, false, true, true, true, false, false, false, false, false, false, false]) (L2 := [some (rv w r0), some (.int x1), some (.int x2), some (.int x3), some (.int x4), some (.int x5), none, some (.int x7), some (.int x8), some (.int x9), none, none, none, none, none, none, none]) rfl ?_
                    exact t_L_holds_668 C hR (fun r0' x1' x2' x3' x4' x5' x6' x7' M' h => hk95 r0' x1' x2' x3' x4' x5' x6' x7' M' h) r0 x1 x2 x3 x4 x5 x7 x8 x9 M1021 h
                  · replace h := of_ift h c1024
                    refine g_aload_n C dL_holds_489 rfl rfl ?_
                    refine g_iload C dL_holds_490 rfl ?_
                    refine g_bipush (v := 6) C dL_holds_492 rfl ?_
                    obtain ⟨y1027, M1025, e1026, h⟩ := of_opp h
                    refine g_callV (As := [.int x7, .int (6 : Int32)]) C (ct_X5_edition C.wf e1026) g1006 lk_RL_19 mi_X5_edition (by decide) cs_0 (by decide) dL_holds_494 rfl ?_
                    show Go w f 497 [some (rv w r0), some (.int x1), some (.int x2), some (.int x3), some (.int x4), some (.int x5), some (.int x6), some (.int x7), some (.int x8), some (.int x9), some (.int x10), none, none, none, none, none, none] [.int y1027] M1025
                    refine g_aload_n C dL_holds_497 rfl rfl ?_
                    refine g_iload C dL_holds_498 rfl ?_
                    refine g_iconst (v := 4) C dL_holds_500 rfl ?_
                    obtain ⟨y1030, M1028, e1029, h⟩ := of_opp h
                    refine g_callV (As := [.int x7, .int (4 : Int32)]) C (ct_X5_edition C.wf e1029) g1006 lk_RL_19 mi_X5_edition (by decide) (cs_i cs_0) (by decide) dL_holds_501 rfl ?_
                    show Go w f 504 [some (rv w r0), some (.int x1), some (.int x2), some (.int x3), some (.int x4), some (.int x5), some (.int x6), some (.int x7), some (.int x8), some (.int x9), some (.int x10), none, none, none, none, none, none] [.int y1030, .int y1027] M1028
                    refine g_iload C dL_holds_504 rfl ?_
                    refine g_iadd C dL_holds_506 ?_
                    refine g_icmp_ne 668 C dL_holds_507 (by decide) (fun c1031 => ?_) (fun c1031 => ?_)
                    · replace h := of_iff h c1031
                      refine g_mask (bs := [true, true, true, true, true, true, false, true, true, true, false, false, false, false, false, false, false]) (L2 := [some (rv w r0), some (.int x1), some (.int x2), some (.int x3), some (.int x4), some (.int x5), none, some (.int x7), some (.int x8), some (.int x9), none, none, none, none, none, none, none]) rfl ?_
                      exact t_L_holds_668 C hR (fun r0' x1' x2' x3' x4' x5' x6' x7' M' h => hk95 r0' x1' x2' x3' x4' x5' x6' x7' M' h) r0 x1 x2 x3 x4 x5 x7 x8 x9 M1028 h
                    · replace h := of_ift h c1031
                      refine g_aload_n C dL_holds_510 rfl rfl ?_
                      refine g_iload C dL_holds_511 rfl ?_
                      refine g_bipush (v := 7) C dL_holds_513 rfl ?_
                      obtain ⟨y1034, M1032, e1033, h⟩ := of_opp h
                      refine g_callV (As := [.int x7, .int (7 : Int32)]) C (ct_X5_edition C.wf e1033) g1006 lk_RL_19 mi_X5_edition (by decide) cs_0 (by decide) dL_holds_515 rfl ?_
                      show Go w f 518 [some (rv w r0), some (.int x1), some (.int x2), some (.int x3), some (.int x4), some (.int x5), some (.int x6), some (.int x7), some (.int x8), some (.int x9), some (.int x10), none, none, none, none, none, none] [.int y1034] M1032
                      refine g_aload_n C dL_holds_518 rfl rfl ?_
                      refine g_iconst (v := 0) C dL_holds_519 rfl ?_
                      obtain ⟨y1037, M1035, e1036, h⟩ := of_opp h
                      refine g_callV (As := [.int (0 : Int32)]) C (ct_X5_count C.wf e1036) g1006 lk_RL_13 mi_X5_count (by decide) (cs_i cs_0) (by decide) dL_holds_520 rfl ?_
                      show Go w f 523 [some (rv w r0), some (.int x1), some (.int x2), some (.int x3), some (.int x4), some (.int x5), some (.int x6), some (.int x7), some (.int x8), some (.int x9), some (.int x10), none, none, none, none, none, none] [.int y1037, .int y1034] M1035
                      refine g_aload_n C dL_holds_523 rfl rfl ?_
                      refine g_iload C dL_holds_524 rfl ?_
                      refine g_bipush (v := 8) C dL_holds_526 rfl ?_
                      obtain ⟨y1040, M1038, e1039, h⟩ := of_opp h
                      refine g_callV (As := [.int x7, .int (8 : Int32)]) C (ct_X5_edition C.wf e1039) g1006 lk_RL_19 mi_X5_edition (by decide) (cs_i (cs_i cs_0)) (by decide) dL_holds_528 rfl ?_
                      show Go w f 531 [some (rv w r0), some (.int x1), some (.int x2), some (.int x3), some (.int x4), some (.int x5), some (.int x6), some (.int x7), some (.int x8), some (.int x9), some (.int x10), none, none, none, none, none, none] [.int y1040, .int y1037, .int y1034] M1038
                      refine g_icmp_ge 538 C dL_holds_531 (by decide) (fun c1041 => ?_) (fun c1041 => ?_)
                      · replace h := of_ift h c1041
                        refine g_iconst (v := 0) C dL_holds_538 rfl ?_
                        refine g_mask (bs := [true, true, true, true, true, true, false, true, true, true, false, false, false, false, false, false, false]) (L2 := [some (rv w r0), some (.int x1), some (.int x2), some (.int x3), some (.int x4), some (.int x5), none, some (.int x7), some (.int x8), some (.int x9), none, none, none, none, none, none, none]) rfl ?_
                        exact t_L_holds_539 C hR (fun r0' x1' x2' x3' x4' x5' x6' x7' M' h => hk95 r0' x1' x2' x3' x4' x5' x6' x7' M' h) r0 x1 x2 x3 x4 x5 x7 x8 x9 y1034 (0 : Int32) M1038 h
                      · replace h := of_iff h c1041
                        refine g_iconst (v := 1) C dL_holds_534 rfl ?_
                        refine g_goto 539 C dL_holds_535 (by decide) ?_
                        refine g_mask (bs := [true, true, true, true, true, true, false, true, true, true, false, false, false, false, false, false, false]) (L2 := [some (rv w r0), some (.int x1), some (.int x2), some (.int x3), some (.int x4), some (.int x5), none, some (.int x7), some (.int x8), some (.int x9), none, none, none, none, none, none, none]) rfl ?_
                        exact t_L_holds_539 C hR (fun r0' x1' x2' x3' x4' x5' x6' x7' M' h => hk95 r0' x1' x2' x3' x4' x5' x6' x7' M' h) r0 x1 x2 x3 x4 x5 x7 x8 x9 y1034 (1 : Int32) M1038 h
def f_L_holds_391 (k95 : Nat → Int32 → Int32 → Int32 → Int32 → Int32 → Int32 → Int32 → Mem → Option (Int32 × Mem)) (k169 : Nat → Int32 → Int32 → Int32 → Int32 → Int32 → Int32 → Int32 → Int32 → Int32 → Int32 → Int32 → Mem → Option (Int32 × Mem)) (r0 : Nat) (x1 : Int32) (x2 : Int32) (x3 : Int32) (x4 : Int32) (x5 : Int32) (x7 : Int32) (x8 : Int32) (x9 : Int32) (x10 : Int32) (x11 : Int32) (xs0 : Int32) (M : Mem) : Option (Int32 × Mem) := bvv (x11 + (1 : Int32)) fun y2601 => k169 r0 x1 x2 x3 x4 x5 xs0 x7 x8 x9 x10 y2601 M
set_option maxRecDepth 100000 in
set_option maxHeartbeats 4000000 in
theorem t_L_holds_391 {w : Om} {f : Fr} {r : Int32} {M2 : Mem} (C : Cx w f RL cL_holds 17 23) (hR : Rt w f cL_holds (some .boolean) (some (.int r)) M2) {k95 : Nat → Int32 → Int32 → Int32 → Int32 → Int32 → Int32 → Int32 → Mem → Option (Int32 × Mem)} {k169 : Nat → Int32 → Int32 → Int32 → Int32 → Int32 → Int32 → Int32 → Int32 → Int32 → Int32 → Int32 → Mem → Option (Int32 × Mem)} (hk95 : ∀ (r0' : Nat) (x1' : Int32) (x2' : Int32) (x3' : Int32) (x4' : Int32) (x5' : Int32) (x6' : Int32) (x7' : Int32) (M' : Mem), k95 r0' x1' x2' x3' x4' x5' x6' x7' M' = some (r, M2) → Go w f 95 [some (rv w r0'), some (.int x1'), some (.int x2'), some (.int x3'), some (.int x4'), some (.int x5'), some (.int x6'), some (.int x7'), none, none, none, none, none, none, none, none, none] [] M') (hk169 : ∀ (r0' : Nat) (x1' : Int32) (x2' : Int32) (x3' : Int32) (x4' : Int32) (x5' : Int32) (x6' : Int32) (x7' : Int32) (x8' : Int32) (x9' : Int32) (x10' : Int32) (x11' : Int32) (M' : Mem), k169 r0' x1' x2' x3' x4' x5' x6' x7' x8' x9' x10' x11' M' = some (r, M2) → Go w f 169 [some (rv w r0'), some (.int x1'), some (.int x2'), some (.int x3'), some (.int x4'), some (.int x5'), some (.int x6'), some (.int x7'), some (.int x8'), some (.int x9'), some (.int x10'), some (.int x11'), none, none, none, none, none] [] M') : ∀ (r0 : Nat) (x1 : Int32) (x2 : Int32) (x3 : Int32) (x4 : Int32) (x5 : Int32) (x7 : Int32) (x8 : Int32) (x9 : Int32) (x10 : Int32) (x11 : Int32) (xs0 : Int32) (M : Mem), f_L_holds_391 k95 k169 r0 x1 x2 x3 x4 x5 x7 x8 x9 x10 x11 xs0 M = some (r, M2) → Go w f 391 [some (rv w r0), some (.int x1), some (.int x2), some (.int x3), some (.int x4), some (.int x5), none, some (.int x7), some (.int x8), some (.int x9), some (.int x10), some (.int x11), none, none, none, none, none] [.int xs0] M := by
  intro r0 x1 x2 x3 x4 x5 x7 x8 x9 x10 x11 xs0 M h
  unfold f_L_holds_391 at h
  refine g_istore C dL_holds_391 (by decide) rfl (L2 := [some (rv w r0), some (.int x1), some (.int x2), some (.int x3), some (.int x4), some (.int x5), some (.int xs0), some (.int x7), some (.int x8), some (.int x9), some (.int x10), some (.int x11), none, none, none, none, none]) rfl ?_
  obtain ⟨y2601, e2602, h⟩ := of_bvv h
  refine g_iinc (v := y2601) C dL_holds_393 rfl e2602.symm (by decide) rfl (L2 := [some (rv w r0), some (.int x1), some (.int x2), some (.int x3), some (.int x4), some (.int x5), some (.int xs0), some (.int x7), some (.int x8), some (.int x9), some (.int x10), some (.int y2601), none, none, none, none, none]) rfl ?_
  refine g_goto 169 C dL_holds_396 (by decide) ?_
  exact hk169 r0 x1 x2 x3 x4 x5 xs0 x7 x8 x9 x10 y2601 M h
def f_L_holds_390 (k95 : Nat → Int32 → Int32 → Int32 → Int32 → Int32 → Int32 → Int32 → Mem → Option (Int32 × Mem)) (k169 : Nat → Int32 → Int32 → Int32 → Int32 → Int32 → Int32 → Int32 → Int32 → Int32 → Int32 → Int32 → Mem → Option (Int32 × Mem)) (r0 : Nat) (x1 : Int32) (x2 : Int32) (x3 : Int32) (x4 : Int32) (x5 : Int32) (x7 : Int32) (x8 : Int32) (x9 : Int32) (x10 : Int32) (x11 : Int32) (M : Mem) : Option (Int32 × Mem) := f_L_holds_391 k95 k169 r0 x1 x2 x3 x4 x5 x7 x8 x9 x10 x11 (0 : Int32) M
set_option maxRecDepth 100000 in
set_option maxHeartbeats 4000000 in
theorem t_L_holds_390 {w : Om} {f : Fr} {r : Int32} {M2 : Mem} (C : Cx w f RL cL_holds 17 23) (hR : Rt w f cL_holds (some .boolean) (some (.int r)) M2) {k95 : Nat → Int32 → Int32 → Int32 → Int32 → Int32 → Int32 → Int32 → Mem → Option (Int32 × Mem)} {k169 : Nat → Int32 → Int32 → Int32 → Int32 → Int32 → Int32 → Int32 → Int32 → Int32 → Int32 → Int32 → Mem → Option (Int32 × Mem)} (hk95 : ∀ (r0' : Nat) (x1' : Int32) (x2' : Int32) (x3' : Int32) (x4' : Int32) (x5' : Int32) (x6' : Int32) (x7' : Int32) (M' : Mem), k95 r0' x1' x2' x3' x4' x5' x6' x7' M' = some (r, M2) → Go w f 95 [some (rv w r0'), some (.int x1'), some (.int x2'), some (.int x3'), some (.int x4'), some (.int x5'), some (.int x6'), some (.int x7'), none, none, none, none, none, none, none, none, none] [] M') (hk169 : ∀ (r0' : Nat) (x1' : Int32) (x2' : Int32) (x3' : Int32) (x4' : Int32) (x5' : Int32) (x6' : Int32) (x7' : Int32) (x8' : Int32) (x9' : Int32) (x10' : Int32) (x11' : Int32) (M' : Mem), k169 r0' x1' x2' x3' x4' x5' x6' x7' x8' x9' x10' x11' M' = some (r, M2) → Go w f 169 [some (rv w r0'), some (.int x1'), some (.int x2'), some (.int x3'), some (.int x4'), some (.int x5'), some (.int x6'), some (.int x7'), some (.int x8'), some (.int x9'), some (.int x10'), some (.int x11'), none, none, none, none, none] [] M') : ∀ (r0 : Nat) (x1 : Int32) (x2 : Int32) (x3 : Int32) (x4 : Int32) (x5 : Int32) (x7 : Int32) (x8 : Int32) (x9 : Int32) (x10 : Int32) (x11 : Int32) (M : Mem), f_L_holds_390 k95 k169 r0 x1 x2 x3 x4 x5 x7 x8 x9 x10 x11 M = some (r, M2) → Go w f 390 [some (rv w r0), some (.int x1), some (.int x2), some (.int x3), some (.int x4), some (.int x5), none, some (.int x7), some (.int x8), some (.int x9), some (.int x10), some (.int x11), none, none, none, none, none] [] M := by
  intro r0 x1 x2 x3 x4 x5 x7 x8 x9 x10 x11 M h
  unfold f_L_holds_390 at h
  refine g_iconst (v := 0) C dL_holds_390 rfl ?_
  exact t_L_holds_391 C hR (fun r0' x1' x2' x3' x4' x5' x6' x7' M' h => hk95 r0' x1' x2' x3' x4' x5' x6' x7' M' h) (fun r0' x1' x2' x3' x4' x5' x6' x7' x8' x9' x10' x11' M' h => hk169 r0' x1' x2' x3' x4' x5' x6' x7' x8' x9' x10' x11' M' h) r0 x1 x2 x3 x4 x5 x7 x8 x9 x10 x11 (0 : Int32) M h
def f_L_holds_311 (k95 : Nat → Int32 → Int32 → Int32 → Int32 → Int32 → Int32 → Int32 → Mem → Option (Int32 × Mem)) (k169 : Nat → Int32 → Int32 → Int32 → Int32 → Int32 → Int32 → Int32 → Int32 → Int32 → Int32 → Int32 → Mem → Option (Int32 × Mem)) (r0 : Nat) (x1 : Int32) (x2 : Int32) (x3 : Int32) (x4 : Int32) (x5 : Int32) (x7 : Int32) (x8 : Int32) (x9 : Int32) (x10 : Int32) (x11 : Int32) (x12 : Int32) (x14 : Int32) (x15 : Int32) (xs0 : Int32) (M : Mem) : Option (Int32 × Mem) := bvv (x10 + xs0) fun y2401 => gdd (kd r0 = 6) <| opp (f_X5_gap r0 x7 x11 (0 : Int32) M) fun y2406 M2404 => if y2406 = x15 then (opp (f_X5_gap r0 x7 x11 (1 : Int32) M2404) fun y2410 M2408 => if y2410 = x14 then (opp (f_X5_gap r0 x7 x11 (2 : Int32) M2408) fun y2414 M2412 => if y2414 = xs0 then (opp (f_X5_gap r0 x7 x11 (3 : Int32) M2412) fun y2418 M2416 => if y2418 < 0 then (f_L_holds_390 k95 k169 r0 x1 x2 x3 x4 x5 x7 x8 x9 y2401 x11 M2416) else (if x12 < 0 then (f_L_holds_390 k95 k169 r0 x1 x2 x3 x4 x5 x7 x8 x9 y2401 x11 M2416) else (if (6 : Int32) ≤ x12 then (f_L_holds_390 k95 k169 r0 x1 x2 x3 x4 x5 x7 x8 x9 y2401 x11 M2416) else (f_L_holds_391 k95 k169 r0 x1 x2 x3 x4 x5 x7 x8 x9 y2401 x11 (1 : Int32) M2416)))) else (f_L_holds_390 k95 k169 r0 x1 x2 x3 x4 x5 x7 x8 x9 y2401 x11 M2412)) else (f_L_holds_390 k95 k169 r0 x1 x2 x3 x4 x5 x7 x8 x9 y2401 x11 M2408)) else (f_L_holds_390 k95 k169 r0 x1 x2 x3 x4 x5 x7 x8 x9 y2401 x11 M2404)
set_option maxRecDepth 100000 in
set_option maxHeartbeats 4000000 in
theorem t_L_holds_311 {w : Om} {f : Fr} {r : Int32} {M2 : Mem} (C : Cx w f RL cL_holds 17 23) (hR : Rt w f cL_holds (some .boolean) (some (.int r)) M2) {k95 : Nat → Int32 → Int32 → Int32 → Int32 → Int32 → Int32 → Int32 → Mem → Option (Int32 × Mem)} {k169 : Nat → Int32 → Int32 → Int32 → Int32 → Int32 → Int32 → Int32 → Int32 → Int32 → Int32 → Int32 → Mem → Option (Int32 × Mem)} (hk95 : ∀ (r0' : Nat) (x1' : Int32) (x2' : Int32) (x3' : Int32) (x4' : Int32) (x5' : Int32) (x6' : Int32) (x7' : Int32) (M' : Mem), k95 r0' x1' x2' x3' x4' x5' x6' x7' M' = some (r, M2) → Go w f 95 [some (rv w r0'), some (.int x1'), some (.int x2'), some (.int x3'), some (.int x4'), some (.int x5'), some (.int x6'), some (.int x7'), none, none, none, none, none, none, none, none, none] [] M') (hk169 : ∀ (r0' : Nat) (x1' : Int32) (x2' : Int32) (x3' : Int32) (x4' : Int32) (x5' : Int32) (x6' : Int32) (x7' : Int32) (x8' : Int32) (x9' : Int32) (x10' : Int32) (x11' : Int32) (M' : Mem), k169 r0' x1' x2' x3' x4' x5' x6' x7' x8' x9' x10' x11' M' = some (r, M2) → Go w f 169 [some (rv w r0'), some (.int x1'), some (.int x2'), some (.int x3'), some (.int x4'), some (.int x5'), some (.int x6'), some (.int x7'), some (.int x8'), some (.int x9'), some (.int x10'), some (.int x11'), none, none, none, none, none] [] M') : ∀ (r0 : Nat) (x1 : Int32) (x2 : Int32) (x3 : Int32) (x4 : Int32) (x5 : Int32) (x7 : Int32) (x8 : Int32) (x9 : Int32) (x10 : Int32) (x11 : Int32) (x12 : Int32) (x14 : Int32) (x15 : Int32) (xs0 : Int32) (M : Mem), f_L_holds_311 k95 k169 r0 x1 x2 x3 x4 x5 x7 x8 x9 x10 x11 x12 x14 x15 xs0 M = some (r, M2) → Go w f 311 [some (rv w r0), some (.int x1), some (.int x2), some (.int x3), some (.int x4), some (.int x5), none, some (.int x7), some (.int x8), some (.int x9), some (.int x10), some (.int x11), some (.int x12), none, some (.int x14), some (.int x15), none] [.int xs0] M := by
  intro r0 x1 x2 x3 x4 x5 x7 x8 x9 x10 x11 x12 x14 x15 xs0 M h
  unfold f_L_holds_311 at h
  refine g_istore C dL_holds_311 (by decide) rfl (L2 := [some (rv w r0), some (.int x1), some (.int x2), some (.int x3), some (.int x4), some (.int x5), none, some (.int x7), some (.int x8), some (.int x9), some (.int x10), some (.int x11), some (.int x12), none, some (.int x14), some (.int x15), some (.int xs0)]) rfl ?_
  refine g_iload C dL_holds_313 rfl ?_
  refine g_iload C dL_holds_315 rfl ?_
  refine g_iadd C dL_holds_317 ?_
  obtain ⟨y2401, e2402, h⟩ := of_bvv h
  refine g_topi e2402 ?_
  refine g_istore C dL_holds_318 (by decide) rfl (L2 := [some (rv w r0), some (.int x1), some (.int x2), some (.int x3), some (.int x4), some (.int x5), none, some (.int x7), some (.int x8), some (.int x9), some (.int y2401), some (.int x11), some (.int x12), none, some (.int x14), some (.int x15), some (.int xs0)]) rfl ?_
  refine g_aload_n C dL_holds_320 rfl rfl ?_
  refine g_iload C dL_holds_321 rfl ?_
  refine g_iload C dL_holds_323 rfl ?_
  refine g_iconst (v := 0) C dL_holds_325 rfl ?_
  obtain ⟨g2403, h⟩ := of_gdd h
  obtain ⟨y2406, M2404, e2405, h⟩ := of_opp h
  refine g_callV (As := [.int x7, .int x11, .int (0 : Int32)]) C (ct_X5_gap C.wf e2405) g2403 lk_RL_42 mi_X5_gap (by decide) cs_0 (by decide) dL_holds_326 rfl ?_
  show Go w f 329 [some (rv w r0), some (.int x1), some (.int x2), some (.int x3), some (.int x4), some (.int x5), none, some (.int x7), some (.int x8), some (.int x9), some (.int y2401), some (.int x11), some (.int x12), none, some (.int x14), some (.int x15), some (.int xs0)] [.int y2406] M2404
  refine g_iload C dL_holds_329 rfl ?_
  refine g_icmp_ne 390 C dL_holds_331 (by decide) (fun c2407 => ?_) (fun c2407 => ?_)
  · replace h := of_iff h c2407
    refine g_mask (bs := [true, true, true, true, true, true, false, true, true, true, true, true, false, false, false, false, false]) (L2 := [some (rv w r0), some (.int x1), some (.int x2), some (.int x3), some (.int x4), some (.int x5), none, some (.int x7), some (.int x8), some (.int x9), some (.int y2401), some (.int x11), none, none, none, none, none]) rfl ?_
    exact t_L_holds_390 C hR (fun r0' x1' x2' x3' x4' x5' x6' x7' M' h => hk95 r0' x1' x2' x3' x4' x5' x6' x7' M' h) (fun r0' x1' x2' x3' x4' x5' x6' x7' x8' x9' x10' x11' M' h => hk169 r0' x1' x2' x3' x4' x5' x6' x7' x8' x9' x10' x11' M' h) r0 x1 x2 x3 x4 x5 x7 x8 x9 y2401 x11 M2404 h
  · replace h := of_ift h c2407
    refine g_aload_n C dL_holds_334 rfl rfl ?_
    refine g_iload C dL_holds_335 rfl ?_
    refine g_iload C dL_holds_337 rfl ?_
    refine g_iconst (v := 1) C dL_holds_339 rfl ?_
    obtain ⟨y2410, M2408, e2409, h⟩ := of_opp h
    refine g_callV (As := [.int x7, .int x11, .int (1 : Int32)]) C (ct_X5_gap C.wf e2409) g2403 lk_RL_42 mi_X5_gap (by decide) cs_0 (by decide) dL_holds_340 rfl ?_
    show Go w f 343 [some (rv w r0), some (.int x1), some (.int x2), some (.int x3), some (.int x4), some (.int x5), none, some (.int x7), some (.int x8), some (.int x9), some (.int y2401), some (.int x11), some (.int x12), none, some (.int x14), some (.int x15), some (.int xs0)] [.int y2410] M2408
    refine g_iload C dL_holds_343 rfl ?_
    refine g_icmp_ne 390 C dL_holds_345 (by decide) (fun c2411 => ?_) (fun c2411 => ?_)
    · replace h := of_iff h c2411
      refine g_mask (bs := [true, true, true, true, true, true, false, true, true, true, true, true, false, false, false, false, false]) (L2 := [some (rv w r0), some (.int x1), some (.int x2), some (.int x3), some (.int x4), some (.int x5), none, some (.int x7), some (.int x8), some (.int x9), some (.int y2401), some (.int x11), none, none, none, none, none]) rfl ?_
      exact t_L_holds_390 C hR (fun r0' x1' x2' x3' x4' x5' x6' x7' M' h => hk95 r0' x1' x2' x3' x4' x5' x6' x7' M' h) (fun r0' x1' x2' x3' x4' x5' x6' x7' x8' x9' x10' x11' M' h => hk169 r0' x1' x2' x3' x4' x5' x6' x7' x8' x9' x10' x11' M' h) r0 x1 x2 x3 x4 x5 x7 x8 x9 y2401 x11 M2408 h
    · replace h := of_ift h c2411
      refine g_aload_n C dL_holds_348 rfl rfl ?_
      refine g_iload C dL_holds_349 rfl ?_
      refine g_iload C dL_holds_351 rfl ?_
      refine g_iconst (v := 2) C dL_holds_353 rfl ?_
      obtain ⟨y2414, M2412, e2413, h⟩ := of_opp h
      refine g_callV (As := [.int x7, .int x11, .int (2 : Int32)]) C (ct_X5_gap C.wf e2413) g2403 lk_RL_42 mi_X5_gap (by decide) cs_0 (by decide) dL_holds_354 rfl ?_
      show Go w f 357 [some (rv w r0), some (.int x1), some (.int x2), some (.int x3), some (.int x4), some (.int x5), none, some (.int x7), some (.int x8), some (.int x9), some (.int y2401), some (.int x11), some (.int x12), none, some (.int x14), some (.int x15), some (.int xs0)] [.int y2414] M2412
      refine g_iload C dL_holds_357 rfl ?_
      refine g_icmp_ne 390 C dL_holds_359 (by decide) (fun c2415 => ?_) (fun c2415 => ?_)
      · replace h := of_iff h c2415
        refine g_mask (bs := [true, true, true, true, true, true, false, true, true, true, true, true, false, false, false, false, false]) (L2 := [some (rv w r0), some (.int x1), some (.int x2), some (.int x3), some (.int x4), some (.int x5), none, some (.int x7), some (.int x8), some (.int x9), some (.int y2401), some (.int x11), none, none, none, none, none]) rfl ?_
        exact t_L_holds_390 C hR (fun r0' x1' x2' x3' x4' x5' x6' x7' M' h => hk95 r0' x1' x2' x3' x4' x5' x6' x7' M' h) (fun r0' x1' x2' x3' x4' x5' x6' x7' x8' x9' x10' x11' M' h => hk169 r0' x1' x2' x3' x4' x5' x6' x7' x8' x9' x10' x11' M' h) r0 x1 x2 x3 x4 x5 x7 x8 x9 y2401 x11 M2412 h
      · replace h := of_ift h c2415
        refine g_aload_n C dL_holds_362 rfl rfl ?_
        refine g_iload C dL_holds_363 rfl ?_
        refine g_iload C dL_holds_365 rfl ?_
        refine g_iconst (v := 3) C dL_holds_367 rfl ?_
        obtain ⟨y2418, M2416, e2417, h⟩ := of_opp h
        refine g_callV (As := [.int x7, .int x11, .int (3 : Int32)]) C (ct_X5_gap C.wf e2417) g2403 lk_RL_42 mi_X5_gap (by decide) cs_0 (by decide) dL_holds_368 rfl ?_
        show Go w f 371 [some (rv w r0), some (.int x1), some (.int x2), some (.int x3), some (.int x4), some (.int x5), none, some (.int x7), some (.int x8), some (.int x9), some (.int y2401), some (.int x11), some (.int x12), none, some (.int x14), some (.int x15), some (.int xs0)] [.int y2418] M2416
        refine g_if_lt 390 C dL_holds_371 (by decide) (fun c2419 => ?_) (fun c2419 => ?_)
        · replace h := of_ift h c2419
          refine g_mask (bs := [true, true, true, true, true, true, false, true, true, true, true, true, false, false, false, false, false]) (L2 := [some (rv w r0), some (.int x1), some (.int x2), some (.int x3), some (.int x4), some (.int x5), none, some (.int x7), some (.int x8), some (.int x9), some (.int y2401), some (.int x11), none, none, none, none, none]) rfl ?_
          exact t_L_holds_390 C hR (fun r0' x1' x2' x3' x4' x5' x6' x7' M' h => hk95 r0' x1' x2' x3' x4' x5' x6' x7' M' h) (fun r0' x1' x2' x3' x4' x5' x6' x7' x8' x9' x10' x11' M' h => hk169 r0' x1' x2' x3' x4' x5' x6' x7' x8' x9' x10' x11' M' h) r0 x1 x2 x3 x4 x5 x7 x8 x9 y2401 x11 M2416 h
        · replace h := of_iff h c2419
          refine g_iload C dL_holds_374 rfl ?_
          refine g_if_lt 390 C dL_holds_376 (by decide) (fun c2420 => ?_) (fun c2420 => ?_)
          · replace h := of_ift h c2420
            refine g_mask (bs := [true, true, true, true, true, true, false, true, true, true, true, true, false, false, false, false, false]) (L2 := [some (rv w r0), some (.int x1), some (.int x2), some (.int x3), some (.int x4), some (.int x5), none, some (.int x7), some (.int x8), some (.int x9), some (.int y2401), some (.int x11), none, none, none, none, none]) rfl ?_
            exact t_L_holds_390 C hR (fun r0' x1' x2' x3' x4' x5' x6' x7' M' h => hk95 r0' x1' x2' x3' x4' x5' x6' x7' M' h) (fun r0' x1' x2' x3' x4' x5' x6' x7' x8' x9' x10' x11' M' h => hk169 r0' x1' x2' x3' x4' x5' x6' x7' x8' x9' x10' x11' M' h) r0 x1 x2 x3 x4 x5 x7 x8 x9 y2401 x11 M2416 h
          · replace h := of_iff h c2420
            refine g_iload C dL_holds_379 rfl ?_
            refine g_bipush (v := 6) C dL_holds_381 rfl ?_
            refine g_icmp_ge 390 C dL_holds_383 (by decide) (fun c2421 => ?_) (fun c2421 => ?_)
            · replace h := of_ift h c2421
              refine g_mask (bs := [true, true, true, true, true, true, false, true, true, true, true, true, false, false, false, false, false]) (L2 := [some (rv w r0), some (.int x1), some (.int x2), some (.int x3), some (.int x4), some (.int x5), none, some (.int x7), some (.int x8), some (.int x9), some (.int y2401), some (.int x11), none, none, none, none, none]) rfl ?_
              exact t_L_holds_390 C hR (fun r0' x1' x2' x3' x4' x5' x6' x7' M' h => hk95 r0' x1' x2' x3' x4' x5' x6' x7' M' h) (fun r0' x1' x2' x3' x4' x5' x6' x7' x8' x9' x10' x11' M' h => hk169 r0' x1' x2' x3' x4' x5' x6' x7' x8' x9' x10' x11' M' h) r0 x1 x2 x3 x4 x5 x7 x8 x9 y2401 x11 M2416 h
            · replace h := of_iff h c2421
              refine g_iconst (v := 1) C dL_holds_386 rfl ?_
              refine g_goto 391 C dL_holds_387 (by decide) ?_
              refine g_mask (bs := [true, true, true, true, true, true, false, true, true, true, true, true, false, false, false, false, false]) (L2 := [some (rv w r0), some (.int x1), some (.int x2), some (.int x3), some (.int x4), some (.int x5), none, some (.int x7), some (.int x8), some (.int x9), some (.int y2401), some (.int x11), none, none, none, none, none]) rfl ?_
              exact t_L_holds_391 C hR (fun r0' x1' x2' x3' x4' x5' x6' x7' M' h => hk95 r0' x1' x2' x3' x4' x5' x6' x7' M' h) (fun r0' x1' x2' x3' x4' x5' x6' x7' x8' x9' x10' x11' M' h => hk169 r0' x1' x2' x3' x4' x5' x6' x7' x8' x9' x10' x11' M' h) r0 x1 x2 x3 x4 x5 x7 x8 x9 y2401 x11 (1 : Int32) M2416 h
def f_L_holds_300 (k95 : Nat → Int32 → Int32 → Int32 → Int32 → Int32 → Int32 → Int32 → Mem → Option (Int32 × Mem)) (k169 : Nat → Int32 → Int32 → Int32 → Int32 → Int32 → Int32 → Int32 → Int32 → Int32 → Int32 → Int32 → Mem → Option (Int32 × Mem)) (r0 : Nat) (x1 : Int32) (x2 : Int32) (x3 : Int32) (x4 : Int32) (x5 : Int32) (x7 : Int32) (x8 : Int32) (x9 : Int32) (x10 : Int32) (x11 : Int32) (x12 : Int32) (x14 : Int32) (x15 : Int32) (M : Mem) : Option (Int32 × Mem) := f_L_holds_311 k95 k169 r0 x1 x2 x3 x4 x5 x7 x8 x9 x10 x11 x12 x14 x15 (0 : Int32) M
set_option maxRecDepth 100000 in
set_option maxHeartbeats 4000000 in
theorem t_L_holds_300 {w : Om} {f : Fr} {r : Int32} {M2 : Mem} (C : Cx w f RL cL_holds 17 23) (hR : Rt w f cL_holds (some .boolean) (some (.int r)) M2) {k95 : Nat → Int32 → Int32 → Int32 → Int32 → Int32 → Int32 → Int32 → Mem → Option (Int32 × Mem)} {k169 : Nat → Int32 → Int32 → Int32 → Int32 → Int32 → Int32 → Int32 → Int32 → Int32 → Int32 → Int32 → Mem → Option (Int32 × Mem)} (hk95 : ∀ (r0' : Nat) (x1' : Int32) (x2' : Int32) (x3' : Int32) (x4' : Int32) (x5' : Int32) (x6' : Int32) (x7' : Int32) (M' : Mem), k95 r0' x1' x2' x3' x4' x5' x6' x7' M' = some (r, M2) → Go w f 95 [some (rv w r0'), some (.int x1'), some (.int x2'), some (.int x3'), some (.int x4'), some (.int x5'), some (.int x6'), some (.int x7'), none, none, none, none, none, none, none, none, none] [] M') (hk169 : ∀ (r0' : Nat) (x1' : Int32) (x2' : Int32) (x3' : Int32) (x4' : Int32) (x5' : Int32) (x6' : Int32) (x7' : Int32) (x8' : Int32) (x9' : Int32) (x10' : Int32) (x11' : Int32) (M' : Mem), k169 r0' x1' x2' x3' x4' x5' x6' x7' x8' x9' x10' x11' M' = some (r, M2) → Go w f 169 [some (rv w r0'), some (.int x1'), some (.int x2'), some (.int x3'), some (.int x4'), some (.int x5'), some (.int x6'), some (.int x7'), some (.int x8'), some (.int x9'), some (.int x10'), some (.int x11'), none, none, none, none, none] [] M') : ∀ (r0 : Nat) (x1 : Int32) (x2 : Int32) (x3 : Int32) (x4 : Int32) (x5 : Int32) (x7 : Int32) (x8 : Int32) (x9 : Int32) (x10 : Int32) (x11 : Int32) (x12 : Int32) (x14 : Int32) (x15 : Int32) (M : Mem), f_L_holds_300 k95 k169 r0 x1 x2 x3 x4 x5 x7 x8 x9 x10 x11 x12 x14 x15 M = some (r, M2) → Go w f 300 [some (rv w r0), some (.int x1), some (.int x2), some (.int x3), some (.int x4), some (.int x5), none, some (.int x7), some (.int x8), some (.int x9), some (.int x10), some (.int x11), some (.int x12), none, some (.int x14), some (.int x15), none] [] M := by
  intro r0 x1 x2 x3 x4 x5 x7 x8 x9 x10 x11 x12 x14 x15 M h
  unfold f_L_holds_300 at h
  refine g_iconst (v := 0) C dL_holds_300 rfl ?_
  refine g_goto 311 C dL_holds_301 (by decide) ?_
  exact t_L_holds_311 C hR (fun r0' x1' x2' x3' x4' x5' x6' x7' M' h => hk95 r0' x1' x2' x3' x4' x5' x6' x7' M' h) (fun r0' x1' x2' x3' x4' x5' x6' x7' x8' x9' x10' x11' M' h => hk169 r0' x1' x2' x3' x4' x5' x6' x7' x8' x9' x10' x11' M' h) r0 x1 x2 x3 x4 x5 x7 x8 x9 x10 x11 x12 x14 x15 (0 : Int32) M h
def f_L_holds_264 (k95 : Nat → Int32 → Int32 → Int32 → Int32 → Int32 → Int32 → Int32 → Mem → Option (Int32 × Mem)) (k169 : Nat → Int32 → Int32 → Int32 → Int32 → Int32 → Int32 → Int32 → Int32 → Int32 → Int32 → Int32 → Mem → Option (Int32 × Mem)) (k212 : Nat → Int32 → Int32 → Int32 → Int32 → Int32 → Int32 → Int32 → Int32 → Int32 → Int32 → Int32 → Int32 → Int32 → Int32 → Mem → Option (Int32 × Mem)) (r0 : Nat) (x1 : Int32) (x2 : Int32) (x3 : Int32) (x4 : Int32) (x5 : Int32) (x7 : Int32) (x8 : Int32) (x9 : Int32) (x10 : Int32) (x11 : Int32) (x12 : Int32) (x13 : Int32) (x15 : Int32) (xs0 : Int32) (M : Mem) : Option (Int32 × Mem) := bvv (x15 + (1 : Int32)) fun y2801 => k212 r0 x1 x2 x3 x4 x5 x7 x8 x9 x10 x11 x12 x13 xs0 y2801 M
set_option maxRecDepth 100000 in
set_option maxHeartbeats 4000000 in
theorem t_L_holds_264 {w : Om} {f : Fr} {r : Int32} {M2 : Mem} (C : Cx w f RL cL_holds 17 23) (hR : Rt w f cL_holds (some .boolean) (some (.int r)) M2) {k95 : Nat → Int32 → Int32 → Int32 → Int32 → Int32 → Int32 → Int32 → Mem → Option (Int32 × Mem)} {k169 : Nat → Int32 → Int32 → Int32 → Int32 → Int32 → Int32 → Int32 → Int32 → Int32 → Int32 → Int32 → Mem → Option (Int32 × Mem)} {k212 : Nat → Int32 → Int32 → Int32 → Int32 → Int32 → Int32 → Int32 → Int32 → Int32 → Int32 → Int32 → Int32 → Int32 → Int32 → Mem → Option (Int32 × Mem)} (hk95 : ∀ (r0' : Nat) (x1' : Int32) (x2' : Int32) (x3' : Int32) (x4' : Int32) (x5' : Int32) (x6' : Int32) (x7' : Int32) (M' : Mem), k95 r0' x1' x2' x3' x4' x5' x6' x7' M' = some (r, M2) → Go w f 95 [some (rv w r0'), some (.int x1'), some (.int x2'), some (.int x3'), some (.int x4'), some (.int x5'), some (.int x6'), some (.int x7'), none, none, none, none, none, none, none, none, none] [] M') (hk169 : ∀ (r0' : Nat) (x1' : Int32) (x2' : Int32) (x3' : Int32) (x4' : Int32) (x5' : Int32) (x6' : Int32) (x7' : Int32) (x8' : Int32) (x9' : Int32) (x10' : Int32) (x11' : Int32) (M' : Mem), k169 r0' x1' x2' x3' x4' x5' x6' x7' x8' x9' x10' x11' M' = some (r, M2) → Go w f 169 [some (rv w r0'), some (.int x1'), some (.int x2'), some (.int x3'), some (.int x4'), some (.int x5'), some (.int x6'), some (.int x7'), some (.int x8'), some (.int x9'), some (.int x10'), some (.int x11'), none, none, none, none, none] [] M') (hk212 : ∀ (r0' : Nat) (x1' : Int32) (x2' : Int32) (x3' : Int32) (x4' : Int32) (x5' : Int32) (x7' : Int32) (x8' : Int32) (x9' : Int32) (x10' : Int32) (x11' : Int32) (x12' : Int32) (x13' : Int32) (x14' : Int32) (x15' : Int32) (M' : Mem), k212 r0' x1' x2' x3' x4' x5' x7' x8' x9' x10' x11' x12' x13' x14' x15' M' = some (r, M2) → Go w f 212 [some (rv w r0'), some (.int x1'), some (.int x2'), some (.int x3'), some (.int x4'), some (.int x5'), none, some (.int x7'), some (.int x8'), some (.int x9'), some (.int x10'), some (.int x11'), some (.int x12'), some (.int x13'), some (.int x14'), some (.int x15'), none] [] M') : ∀ (r0 : Nat) (x1 : Int32) (x2 : Int32) (x3 : Int32) (x4 : Int32) (x5 : Int32) (x7 : Int32) (x8 : Int32) (x9 : Int32) (x10 : Int32) (x11 : Int32) (x12 : Int32) (x13 : Int32) (x15 : Int32) (xs0 : Int32) (M : Mem), f_L_holds_264 k95 k169 k212 r0 x1 x2 x3 x4 x5 x7 x8 x9 x10 x11 x12 x13 x15 xs0 M = some (r, M2) → Go w f 264 [some (rv w r0), some (.int x1), some (.int x2), some (.int x3), some (.int x4), some (.int x5), none, some (.int x7), some (.int x8), some (.int x9), some (.int x10), some (.int x11), some (.int x12), some (.int x13), none, some (.int x15), none] [.int xs0] M := by
  intro r0 x1 x2 x3 x4 x5 x7 x8 x9 x10 x11 x12 x13 x15 xs0 M h
  unfold f_L_holds_264 at h
  refine g_istore C dL_holds_264 (by decide) rfl (L2 := [some (rv w r0), some (.int x1), some (.int x2), some (.int x3), some (.int x4), some (.int x5), none, some (.int x7), some (.int x8), some (.int x9), some (.int x10), some (.int x11), some (.int x12), some (.int x13), some (.int xs0), some (.int x15), none]) rfl ?_
  obtain ⟨y2801, e2802, h⟩ := of_bvv h
  refine g_iinc (v := y2801) C dL_holds_266 rfl e2802.symm (by decide) rfl (L2 := [some (rv w r0), some (.int x1), some (.int x2), some (.int x3), some (.int x4), some (.int x5), none, some (.int x7), some (.int x8), some (.int x9), some (.int x10), some (.int x11), some (.int x12), some (.int x13), some (.int xs0), some (.int y2801), none]) rfl ?_
  refine g_goto 212 C dL_holds_269 (by decide) ?_
  exact hk212 r0 x1 x2 x3 x4 x5 x7 x8 x9 x10 x11 x12 x13 xs0 y2801 M h
def f_L_holds_262 (k95 : Nat → Int32 → Int32 → Int32 → Int32 → Int32 → Int32 → Int32 → Mem → Option (Int32 × Mem)) (k169 : Nat → Int32 → Int32 → Int32 → Int32 → Int32 → Int32 → Int32 → Int32 → Int32 → Int32 → Int32 → Mem → Option (Int32 × Mem)) (k212 : Nat → Int32 → Int32 → Int32 → Int32 → Int32 → Int32 → Int32 → Int32 → Int32 → Int32 → Int32 → Int32 → Int32 → Int32 → Mem → Option (Int32 × Mem)) (r0 : Nat) (x1 : Int32) (x2 : Int32) (x3 : Int32) (x4 : Int32) (x5 : Int32) (x7 : Int32) (x8 : Int32) (x9 : Int32) (x10 : Int32) (x11 : Int32) (x12 : Int32) (x13 : Int32) (x14 : Int32) (x15 : Int32) (M : Mem) : Option (Int32 × Mem) := f_L_holds_264 k95 k169 k212 r0 x1 x2 x3 x4 x5 x7 x8 x9 x10 x11 x12 x13 x15 x14 M
set_option maxRecDepth 100000 in
set_option maxHeartbeats 4000000 in
theorem t_L_holds_262 {w : Om} {f : Fr} {r : Int32} {M2 : Mem} (C : Cx w f RL cL_holds 17 23) (hR : Rt w f cL_holds (some .boolean) (some (.int r)) M2) {k95 : Nat → Int32 → Int32 → Int32 → Int32 → Int32 → Int32 → Int32 → Mem → Option (Int32 × Mem)} {k169 : Nat → Int32 → Int32 → Int32 → Int32 → Int32 → Int32 → Int32 → Int32 → Int32 → Int32 → Int32 → Mem → Option (Int32 × Mem)} {k212 : Nat → Int32 → Int32 → Int32 → Int32 → Int32 → Int32 → Int32 → Int32 → Int32 → Int32 → Int32 → Int32 → Int32 → Int32 → Mem → Option (Int32 × Mem)} (hk95 : ∀ (r0' : Nat) (x1' : Int32) (x2' : Int32) (x3' : Int32) (x4' : Int32) (x5' : Int32) (x6' : Int32) (x7' : Int32) (M' : Mem), k95 r0' x1' x2' x3' x4' x5' x6' x7' M' = some (r, M2) → Go w f 95 [some (rv w r0'), some (.int x1'), some (.int x2'), some (.int x3'), some (.int x4'), some (.int x5'), some (.int x6'), some (.int x7'), none, none, none, none, none, none, none, none, none] [] M') (hk169 : ∀ (r0' : Nat) (x1' : Int32) (x2' : Int32) (x3' : Int32) (x4' : Int32) (x5' : Int32) (x6' : Int32) (x7' : Int32) (x8' : Int32) (x9' : Int32) (x10' : Int32) (x11' : Int32) (M' : Mem), k169 r0' x1' x2' x3' x4' x5' x6' x7' x8' x9' x10' x11' M' = some (r, M2) → Go w f 169 [some (rv w r0'), some (.int x1'), some (.int x2'), some (.int x3'), some (.int x4'), some (.int x5'), some (.int x6'), some (.int x7'), some (.int x8'), some (.int x9'), some (.int x10'), some (.int x11'), none, none, none, none, none] [] M') (hk212 : ∀ (r0' : Nat) (x1' : Int32) (x2' : Int32) (x3' : Int32) (x4' : Int32) (x5' : Int32) (x7' : Int32) (x8' : Int32) (x9' : Int32) (x10' : Int32) (x11' : Int32) (x12' : Int32) (x13' : Int32) (x14' : Int32) (x15' : Int32) (M' : Mem), k212 r0' x1' x2' x3' x4' x5' x7' x8' x9' x10' x11' x12' x13' x14' x15' M' = some (r, M2) → Go w f 212 [some (rv w r0'), some (.int x1'), some (.int x2'), some (.int x3'), some (.int x4'), some (.int x5'), none, some (.int x7'), some (.int x8'), some (.int x9'), some (.int x10'), some (.int x11'), some (.int x12'), some (.int x13'), some (.int x14'), some (.int x15'), none] [] M') : ∀ (r0 : Nat) (x1 : Int32) (x2 : Int32) (x3 : Int32) (x4 : Int32) (x5 : Int32) (x7 : Int32) (x8 : Int32) (x9 : Int32) (x10 : Int32) (x11 : Int32) (x12 : Int32) (x13 : Int32) (x14 : Int32) (x15 : Int32) (M : Mem), f_L_holds_262 k95 k169 k212 r0 x1 x2 x3 x4 x5 x7 x8 x9 x10 x11 x12 x13 x14 x15 M = some (r, M2) → Go w f 262 [some (rv w r0), some (.int x1), some (.int x2), some (.int x3), some (.int x4), some (.int x5), none, some (.int x7), some (.int x8), some (.int x9), some (.int x10), some (.int x11), some (.int x12), some (.int x13), some (.int x14), some (.int x15), none] [] M := by
  intro r0 x1 x2 x3 x4 x5 x7 x8 x9 x10 x11 x12 x13 x14 x15 M h
  unfold f_L_holds_262 at h
  refine g_iload C dL_holds_262 rfl ?_
  refine g_mask (bs := [true, true, true, true, true, true, false, true, true, true, true, true, true, true, false, true, false]) (L2 := [some (rv w r0), some (.int x1), some (.int x2), some (.int x3), some (.int x4), some (.int x5), none, some (.int x7), some (.int x8), some (.int x9), some (.int x10), some (.int x11), some (.int x12), some (.int x13), none, some (.int x15), none]) rfl ?_
  exact t_L_holds_264 C hR (fun r0' x1' x2' x3' x4' x5' x6' x7' M' h => hk95 r0' x1' x2' x3' x4' x5' x6' x7' M' h) (fun r0' x1' x2' x3' x4' x5' x6' x7' x8' x9' x10' x11' M' h => hk169 r0' x1' x2' x3' x4' x5' x6' x7' x8' x9' x10' x11' M' h) (fun r0' x1' x2' x3' x4' x5' x7' x8' x9' x10' x11' x12' x13' x14' x15' M' h => hk212 r0' x1' x2' x3' x4' x5' x7' x8' x9' x10' x11' x12' x13' x14' x15' M' h) r0 x1 x2 x3 x4 x5 x7 x8 x9 x10 x11 x12 x13 x15 x14 M h
def f_L_holds_212 (k95 : Nat → Int32 → Int32 → Int32 → Int32 → Int32 → Int32 → Int32 → Mem → Option (Int32 × Mem)) (k169 : Nat → Int32 → Int32 → Int32 → Int32 → Int32 → Int32 → Int32 → Int32 → Int32 → Int32 → Int32 → Mem → Option (Int32 × Mem)) : Nat → Nat → Int32 → Int32 → Int32 → Int32 → Int32 → Int32 → Int32 → Int32 → Int32 → Int32 → Int32 → Int32 → Int32 → Int32 → Mem → Option (Int32 × Mem)
  | 0, _, _, _, _, _, _, _, _, _, _, _, _, _, _, _, _ => none
  | n + 1, r0, x1, x2, x3, x4, x5, x7, x8, x9, x10, x11, x12, x13, x14, x15, M => gdd (kd r0 = 6) <| opp (f_X5_count r0 (4 : Int32) M) fun y2204 M2202 => if y2204 ≤ x15 then (bvv ((x9 >>> (x11 &&& 31)) &&& (1 : Int32)) fun y2206 => if x14 = (-4 : Int32) then (f_L_holds_300 k95 k169 r0 x1 x2 x3 x4 x5 x7 x8 x9 x10 x11 x12 x14 y2206 M2202) else (obb (f_X5_ruling r0 x14 (2 : Int32) M2202) fun y2209 => if y2209 = y2206 then (f_L_holds_300 k95 k169 r0 x1 x2 x3 x4 x5 x7 x8 x9 x10 x11 x12 x14 y2206 M2202) else (obb (f_X5_ruling r0 x14 (3 : Int32) M2202) fun y2212 => f_L_holds_311 k95 k169 r0 x1 x2 x3 x4 x5 x7 x8 x9 x10 x11 x12 x14 y2206 y2212 M2202))) else (obb (f_X5_ruling r0 x15 (5 : Int32) M2202) fun y2214 => if y2214 = (1 : Int32) then (obb (f_X5_ruling r0 x15 (0 : Int32) M2202) fun y2217 => if y2217 = x12 then (obb (f_X5_ruling r0 x15 (1 : Int32) M2202) fun y2220 => if y2220 = x13 then (f_L_holds_264 k95 k169 (f_L_holds_212 k95 k169 n) r0 x1 x2 x3 x4 x5 x7 x8 x9 x10 x11 x12 x13 x15 x15 M2202) else (f_L_holds_262 k95 k169 (f_L_holds_212 k95 k169 n) r0 x1 x2 x3 x4 x5 x7 x8 x9 x10 x11 x12 x13 x14 x15 M2202)) else (f_L_holds_262 k95 k169 (f_L_holds_212 k95 k169 n) r0 x1 x2 x3 x4 x5 x7 x8 x9 x10 x11 x12 x13 x14 x15 M2202)) else (f_L_holds_262 k95 k169 (f_L_holds_212 k95 k169 n) r0 x1 x2 x3 x4 x5 x7 x8 x9 x10 x11 x12 x13 x14 x15 M2202))
set_option maxRecDepth 100000 in
set_option maxHeartbeats 4000000 in
theorem t_L_holds_212 {w : Om} {f : Fr} {r : Int32} {M2 : Mem} (C : Cx w f RL cL_holds 17 23) (hR : Rt w f cL_holds (some .boolean) (some (.int r)) M2) {k95 : Nat → Int32 → Int32 → Int32 → Int32 → Int32 → Int32 → Int32 → Mem → Option (Int32 × Mem)} {k169 : Nat → Int32 → Int32 → Int32 → Int32 → Int32 → Int32 → Int32 → Int32 → Int32 → Int32 → Int32 → Mem → Option (Int32 × Mem)} (hk95 : ∀ (r0' : Nat) (x1' : Int32) (x2' : Int32) (x3' : Int32) (x4' : Int32) (x5' : Int32) (x6' : Int32) (x7' : Int32) (M' : Mem), k95 r0' x1' x2' x3' x4' x5' x6' x7' M' = some (r, M2) → Go w f 95 [some (rv w r0'), some (.int x1'), some (.int x2'), some (.int x3'), some (.int x4'), some (.int x5'), some (.int x6'), some (.int x7'), none, none, none, none, none, none, none, none, none] [] M') (hk169 : ∀ (r0' : Nat) (x1' : Int32) (x2' : Int32) (x3' : Int32) (x4' : Int32) (x5' : Int32) (x6' : Int32) (x7' : Int32) (x8' : Int32) (x9' : Int32) (x10' : Int32) (x11' : Int32) (M' : Mem), k169 r0' x1' x2' x3' x4' x5' x6' x7' x8' x9' x10' x11' M' = some (r, M2) → Go w f 169 [some (rv w r0'), some (.int x1'), some (.int x2'), some (.int x3'), some (.int x4'), some (.int x5'), some (.int x6'), some (.int x7'), some (.int x8'), some (.int x9'), some (.int x10'), some (.int x11'), none, none, none, none, none] [] M') : ∀ (n : Nat) (r0 : Nat) (x1 : Int32) (x2 : Int32) (x3 : Int32) (x4 : Int32) (x5 : Int32) (x7 : Int32) (x8 : Int32) (x9 : Int32) (x10 : Int32) (x11 : Int32) (x12 : Int32) (x13 : Int32) (x14 : Int32) (x15 : Int32) (M : Mem), f_L_holds_212 k95 k169 n r0 x1 x2 x3 x4 x5 x7 x8 x9 x10 x11 x12 x13 x14 x15 M = some (r, M2) → Go w f 212 [some (rv w r0), some (.int x1), some (.int x2), some (.int x3), some (.int x4), some (.int x5), none, some (.int x7), some (.int x8), some (.int x9), some (.int x10), some (.int x11), some (.int x12), some (.int x13), some (.int x14), some (.int x15), none] [] M := by
  intro n
  induction n with
  | zero =>
    intro r0 x1 x2 x3 x4 x5 x7 x8 x9 x10 x11 x12 x13 x14 x15 M h
    cases h
  | succ n ih =>
    intro r0 x1 x2 x3 x4 x5 x7 x8 x9 x10 x11 x12 x13 x14 x15 M h
    rw [f_L_holds_212] at h
    refine g_iload C dL_holds_212 rfl ?_
    refine g_aload_n C dL_holds_214 rfl rfl ?_
    refine g_iconst (v := 4) C dL_holds_215 rfl ?_
    obtain ⟨g2201, h⟩ := of_gdd h
    obtain ⟨y2204, M2202, e2203, h⟩ := of_opp h
    refine g_callV (As := [.int (4 : Int32)]) C (ct_X5_count C.wf e2203) g2201 lk_RL_13 mi_X5_count (by decide) (cs_i cs_0) (by decide) dL_holds_216 rfl ?_
    show Go w f 219 [some (rv w r0), some (.int x1), some (.int x2), some (.int x3), some (.int x4), some (.int x5), none, some (.int x7), some (.int x8), some (.int x9), some (.int x10), some (.int x11), some (.int x12), some (.int x13), some (.int x14), some (.int x15), none] [.int y2204, .int x15] M2202
    refine g_icmp_ge 272 C dL_holds_219 (by decide) (fun c2205 => ?_) (fun c2205 => ?_)
    · replace h := of_ift h c2205
      refine g_iload C dL_holds_272 rfl ?_
      refine g_iload C dL_holds_274 rfl ?_
      refine g_ishr C dL_holds_276 ?_
      refine g_iconst (v := 1) C dL_holds_277 rfl ?_
      refine g_iand C dL_holds_278 ?_
      obtain ⟨y2206, e2207, h⟩ := of_bvv h
      refine g_topi e2207 ?_
      refine g_istore C dL_holds_279 (by decide) rfl (L2 := [some (rv w r0), some (.int x1), some (.int x2), some (.int x3), some (.int x4), some (.int x5), none, some (.int x7), some (.int x8), some (.int x9), some (.int x10), some (.int x11), some (.int x12), some (.int x13), some (.int x14), some (.int y2206), none]) rfl ?_
      refine g_iload C dL_holds_281 rfl ?_
      refine g_bipush (v := -4) C dL_holds_283 rfl ?_
      refine g_icmp_eq 300 C dL_holds_285 (by decide) (fun c2208 => ?_) (fun c2208 => ?_)
      · replace h := of_ift h c2208
        refine g_mask (bs := [true, true, true, true, true, true, false, true, true, true, true, true, true, false, true, true, false]) (L2 := [some (rv w r0), some (.int x1), some (.int x2), some (.int x3), some (.int x4), some (.int x5), none, some (.int x7), some (.int x8), some (.int x9), some (.int x10), some (.int x11), some (.int x12), none, some (.int x14), some (.int y2206), none]) rfl ?_
        exact t_L_holds_300 C hR (fun r0' x1' x2' x3' x4' x5' x6' x7' M' h => hk95 r0' x1' x2' x3' x4' x5' x6' x7' M' h) (fun r0' x1' x2' x3' x4' x5' x6' x7' x8' x9' x10' x11' M' h => hk169 r0' x1' x2' x3' x4' x5' x6' x7' x8' x9' x10' x11' M' h) r0 x1 x2 x3 x4 x5 x7 x8 x9 x10 x11 x12 x14 y2206 M2202 h
      · replace h := of_iff h c2208
        refine g_aload_n C dL_holds_288 rfl rfl ?_
        refine g_iload C dL_holds_289 rfl ?_
        refine g_iconst (v := 2) C dL_holds_291 rfl ?_
        obtain ⟨y2209, e2210, h⟩ := of_obb h
        refine g_callV (As := [.int x14, .int (2 : Int32)]) C (ct_X5_ruling C.wf e2210) g2201 lk_RL_26 mi_X5_ruling (by decide) cs_0 (by decide) dL_holds_292 rfl ?_
        show Go w f 295 [some (rv w r0), some (.int x1), some (.int x2), some (.int x3), some (.int x4), some (.int x5), none, some (.int x7), some (.int x8), some (.int x9), some (.int x10), some (.int x11), some (.int x12), some (.int x13), some (.int x14), some (.int y2206), none] [.int y2209] M2202
        refine g_iload C dL_holds_295 rfl ?_
        refine g_icmp_ne 304 C dL_holds_297 (by decide) (fun c2211 => ?_) (fun c2211 => ?_)
        · replace h := of_iff h c2211
          refine g_aload_n C dL_holds_304 rfl rfl ?_
          refine g_iload C dL_holds_305 rfl ?_
          refine g_iconst (v := 3) C dL_holds_307 rfl ?_
          obtain ⟨y2212, e2213, h⟩ := of_obb h
          refine g_callV (As := [.int x14, .int (3 : Int32)]) C (ct_X5_ruling C.wf e2213) g2201 lk_RL_26 mi_X5_ruling (by decide) cs_0 (by decide) dL_holds_308 rfl ?_
          show Go w f 311 [some (rv w r0), some (.int x1), some (.int x2), some (.int x3), some (.int x4), some (.int x5), none, some (.int x7), some (.int x8), some (.int x9), some (.int x10), some (.int x11), some (.int x12), some (.int x13), some (.int x14), some (.int y2206), none] [.int y2212] M2202
          refine g_mask (bs := [true, true, true, true, true, true, false, true, true, true, true, true, true, false, true, true, false]) (L2 := [some (rv w r0), some (.int x1), some (.int x2), some (.int x3), some (.int x4), some (.int x5), none, some (.int x7), some (.int x8), some (.int x9), some (.int x10), some (.int x11), some (.int x12), none, some (.int x14), some (.int y2206), none]) rfl ?_
          exact t_L_holds_311 C hR (fun r0' x1' x2' x3' x4' x5' x6' x7' M' h => hk95 r0' x1' x2' x3' x4' x5' x6' x7' M' h) (fun r0' x1' x2' x3' x4' x5' x6' x7' x8' x9' x10' x11' M' h => hk169 r0' x1' x2' x3' x4' x5' x6' x7' x8' x9' x10' x11' M' h) r0 x1 x2 x3 x4 x5 x7 x8 x9 x10 x11 x12 x14 y2206 y2212 M2202 h
        · replace h := of_ift h c2211
          refine g_mask (bs := [true, true, true, true, true, true, false, true, true, true, true, true, true, false, true, true, false]) (L2 := [some (rv w r0), some (.int x1), some (.int x2), some (.int x3), some (.int x4), some (.int x5), none, some (.int x7), some (.int x8), some (.int x9), some (.int x10), some (.int x11), some (.int x12), none, some (.int x14), some (.int y2206), none]) rfl ?_
          exact t_L_holds_300 C hR (fun r0' x1' x2' x3' x4' x5' x6' x7' M' h => hk95 r0' x1' x2' x3' x4' x5' x6' x7' M' h) (fun r0' x1' x2' x3' x4' x5' x6' x7' x8' x9' x10' x11' M' h => hk169 r0' x1' x2' x3' x4' x5' x6' x7' x8' x9' x10' x11' M' h) r0 x1 x2 x3 x4 x5 x7 x8 x9 x10 x11 x12 x14 y2206 M2202 h
    · replace h := of_iff h c2205
      refine g_aload_n C dL_holds_222 rfl rfl ?_
      refine g_iload C dL_holds_223 rfl ?_
      refine g_iconst (v := 5) C dL_holds_225 rfl ?_
      obtain ⟨y2214, e2215, h⟩ := of_obb h
      refine g_callV (As := [.int x15, .int (5 : Int32)]) C (ct_X5_ruling C.wf e2215) g2201 lk_RL_26 mi_X5_ruling (by decide) cs_0 (by decide) dL_holds_226 rfl ?_
      show Go w f 229 [some (rv w r0), some (.int x1), some (.int x2), some (.int x3), some (.int x4), some (.int x5), none, some (.int x7), some (.int x8), some (.int x9), some (.int x10), some (.int x11), some (.int x12), some (.int x13), some (.int x14), some (.int x15), none] [.int y2214] M2202
      refine g_iconst (v := 1) C dL_holds_229 rfl ?_
      refine g_icmp_ne 262 C dL_holds_230 (by decide) (fun c2216 => ?_) (fun c2216 => ?_)
      · replace h := of_iff h c2216
        exact t_L_holds_262 C hR (fun r0' x1' x2' x3' x4' x5' x6' x7' M' h => hk95 r0' x1' x2' x3' x4' x5' x6' x7' M' h) (fun r0' x1' x2' x3' x4' x5' x6' x7' x8' x9' x10' x11' M' h => hk169 r0' x1' x2' x3' x4' x5' x6' x7' x8' x9' x10' x11' M' h) (fun r0' x1' x2' x3' x4' x5' x7' x8' x9' x10' x11' x12' x13' x14' x15' M' h => ih r0' x1' x2' x3' x4' x5' x7' x8' x9' x10' x11' x12' x13' x14' x15' M' h) r0 x1 x2 x3 x4 x5 x7 x8 x9 x10 x11 x12 x13 x14 x15 M2202 h
      · replace h := of_ift h c2216
        refine g_aload_n C dL_holds_233 rfl rfl ?_
        refine g_iload C dL_holds_234 rfl ?_
        refine g_iconst (v := 0) C dL_holds_236 rfl ?_
        obtain ⟨y2217, e2218, h⟩ := of_obb h
        refine g_callV (As := [.int x15, .int (0 : Int32)]) C (ct_X5_ruling C.wf e2218) g2201 lk_RL_26 mi_X5_ruling (by decide) cs_0 (by decide) dL_holds_237 rfl ?_
        show Go w f 240 [some (rv w r0), some (.int x1), some (.int x2), some (.int x3), some (.int x4), some (.int x5), none, some (.int x7), some (.int x8), some (.int x9), some (.int x10), some (.int x11), some (.int x12), some (.int x13), some (.int x14), some (.int x15), none] [.int y2217] M2202
        refine g_iload C dL_holds_240 rfl ?_
        refine g_icmp_ne 262 C dL_holds_242 (by decide) (fun c2219 => ?_) (fun c2219 => ?_)
        · replace h := of_iff h c2219
          exact t_L_holds_262 C hR (fun r0' x1' x2' x3' x4' x5' x6' x7' M' h => hk95 r0' x1' x2' x3' x4' x5' x6' x7' M' h) (fun r0' x1' x2' x3' x4' x5' x6' x7' x8' x9' x10' x11' M' h => hk169 r0' x1' x2' x3' x4' x5' x6' x7' x8' x9' x10' x11' M' h) (fun r0' x1' x2' x3' x4' x5' x7' x8' x9' x10' x11' x12' x13' x14' x15' M' h => ih r0' x1' x2' x3' x4' x5' x7' x8' x9' x10' x11' x12' x13' x14' x15' M' h) r0 x1 x2 x3 x4 x5 x7 x8 x9 x10 x11 x12 x13 x14 x15 M2202 h
        · replace h := of_ift h c2219
          refine g_aload_n C dL_holds_245 rfl rfl ?_
          refine g_iload C dL_holds_246 rfl ?_
          refine g_iconst (v := 1) C dL_holds_248 rfl ?_
          obtain ⟨y2220, e2221, h⟩ := of_obb h
          refine g_callV (As := [.int x15, .int (1 : Int32)]) C (ct_X5_ruling C.wf e2221) g2201 lk_RL_26 mi_X5_ruling (by decide) cs_0 (by decide) dL_holds_249 rfl ?_
          show Go w f 252 [some (rv w r0), some (.int x1), some (.int x2), some (.int x3), some (.int x4), some (.int x5), none, some (.int x7), some (.int x8), some (.int x9), some (.int x10), some (.int x11), some (.int x12), some (.int x13), some (.int x14), some (.int x15), none] [.int y2220] M2202
          refine g_iload C dL_holds_252 rfl ?_
          refine g_icmp_ne 262 C dL_holds_254 (by decide) (fun c2222 => ?_) (fun c2222 => ?_)
          · replace h := of_iff h c2222
            exact t_L_holds_262 C hR (fun r0' x1' x2' x3' x4' x5' x6' x7' M' h => hk95 r0' x1' x2' x3' x4' x5' x6' x7' M' h) (fun r0' x1' x2' x3' x4' x5' x6' x7' x8' x9' x10' x11' M' h => hk169 r0' x1' x2' x3' x4' x5' x6' x7' x8' x9' x10' x11' M' h) (fun r0' x1' x2' x3' x4' x5' x7' x8' x9' x10' x11' x12' x13' x14' x15' M' h => ih r0' x1' x2' x3' x4' x5' x7' x8' x9' x10' x11' x12' x13' x14' x15' M' h) r0 x1 x2 x3 x4 x5 x7 x8 x9 x10 x11 x12 x13 x14 x15 M2202 h
          · replace h := of_ift h c2222
            refine g_iload C dL_holds_257 rfl ?_
            refine g_goto 264 C dL_holds_259 (by decide) ?_
            refine g_mask (bs := [true, true, true, true, true, true, false, true, true, true, true, true, true, true, false, true, false]) (L2 := [some (rv w r0), some (.int x1), some (.int x2), some (.int x3), some (.int x4), some (.int x5), none, some (.int x7), some (.int x8), some (.int x9), some (.int x10), some (.int x11), some (.int x12), some (.int x13), none, some (.int x15), none]) rfl ?_
            exact t_L_holds_264 C hR (fun r0' x1' x2' x3' x4' x5' x6' x7' M' h => hk95 r0' x1' x2' x3' x4' x5' x6' x7' M' h) (fun r0' x1' x2' x3' x4' x5' x6' x7' x8' x9' x10' x11' M' h => hk169 r0' x1' x2' x3' x4' x5' x6' x7' x8' x9' x10' x11' M' h) (fun r0' x1' x2' x3' x4' x5' x7' x8' x9' x10' x11' x12' x13' x14' x15' M' h => ih r0' x1' x2' x3' x4' x5' x7' x8' x9' x10' x11' x12' x13' x14' x15' M' h) r0 x1 x2 x3 x4 x5 x7 x8 x9 x10 x11 x12 x13 x15 x15 M2202 h
def f_L_holds_169 (k95 : Nat → Int32 → Int32 → Int32 → Int32 → Int32 → Int32 → Int32 → Mem → Option (Int32 × Mem)) : Nat → Nat → Int32 → Int32 → Int32 → Int32 → Int32 → Int32 → Int32 → Int32 → Int32 → Int32 → Int32 → Mem → Option (Int32 × Mem)
  | 0, _, _, _, _, _, _, _, _, _, _, _, _, _ => none
  | n + 1, r0, x1, x2, x3, x4, x5, x6, x7, x8, x9, x10, x11, M => if (x8 - (1 : Int32)) ≤ x11 then (f_L_holds_399 k95 r0 x1 x2 x3 x4 x5 x6 x7 x8 x9 x10 M) else (if x6 = 0 then (f_L_holds_399 k95 r0 x1 x2 x3 x4 x5 x6 x7 x8 x9 x10 M) else (opp (f_L_kind r0 x7 x11 M) fun y905 M903 => opp (f_L_kind r0 x7 (x11 + (1 : Int32)) M903) fun y908 M906 => f_L_holds_212 k95 (f_L_holds_169 k95 n) FU r0 x1 x2 x3 x4 x5 x7 x8 x9 x10 x11 y905 y908 (-4 : Int32) (0 : Int32) M906))
set_option maxRecDepth 100000 in
set_option maxHeartbeats 4000000 in
theorem t_L_holds_169 {w : Om} {f : Fr} {r : Int32} {M2 : Mem} (C : Cx w f RL cL_holds 17 23) (hR : Rt w f cL_holds (some .boolean) (some (.int r)) M2) {k95 : Nat → Int32 → Int32 → Int32 → Int32 → Int32 → Int32 → Int32 → Mem → Option (Int32 × Mem)} (hk95 : ∀ (r0' : Nat) (x1' : Int32) (x2' : Int32) (x3' : Int32) (x4' : Int32) (x5' : Int32) (x6' : Int32) (x7' : Int32) (M' : Mem), k95 r0' x1' x2' x3' x4' x5' x6' x7' M' = some (r, M2) → Go w f 95 [some (rv w r0'), some (.int x1'), some (.int x2'), some (.int x3'), some (.int x4'), some (.int x5'), some (.int x6'), some (.int x7'), none, none, none, none, none, none, none, none, none] [] M') : ∀ (n : Nat) (r0 : Nat) (x1 : Int32) (x2 : Int32) (x3 : Int32) (x4 : Int32) (x5 : Int32) (x6 : Int32) (x7 : Int32) (x8 : Int32) (x9 : Int32) (x10 : Int32) (x11 : Int32) (M : Mem), f_L_holds_169 k95 n r0 x1 x2 x3 x4 x5 x6 x7 x8 x9 x10 x11 M = some (r, M2) → Go w f 169 [some (rv w r0), some (.int x1), some (.int x2), some (.int x3), some (.int x4), some (.int x5), some (.int x6), some (.int x7), some (.int x8), some (.int x9), some (.int x10), some (.int x11), none, none, none, none, none] [] M := by
  intro n
  induction n with
  | zero =>
    intro r0 x1 x2 x3 x4 x5 x6 x7 x8 x9 x10 x11 M h
    cases h
  | succ n ih =>
    intro r0 x1 x2 x3 x4 x5 x6 x7 x8 x9 x10 x11 M h
    rw [f_L_holds_169] at h
    refine g_iload C dL_holds_169 rfl ?_
    refine g_iload C dL_holds_171 rfl ?_
    refine g_iconst (v := 1) C dL_holds_173 rfl ?_
    refine g_isub C dL_holds_174 ?_
    refine g_icmp_ge 399 C dL_holds_175 (by decide) (fun c901 => ?_) (fun c901 => ?_)
    · replace h := of_ift h c901
      refine g_mask (bs := [true, true, true, true, true, true, true, true, true, true, true, false, false, false, false, false, false]) (L2 := [some (rv w r0), some (.int x1), some (.int x2), some (.int x3), some (.int x4), some (.int x5), some (.int x6), some (.int x7), some (.int x8), some (.int x9), some (.int x10), none, none, none, none, none, none]) rfl ?_
      exact t_L_holds_399 C hR (fun r0' x1' x2' x3' x4' x5' x6' x7' M' h => hk95 r0' x1' x2' x3' x4' x5' x6' x7' M' h) r0 x1 x2 x3 x4 x5 x6 x7 x8 x9 x10 M h
    · replace h := of_iff h c901
      refine g_iload C dL_holds_178 rfl ?_
      refine g_if_eq 399 C dL_holds_180 (by decide) (fun c902 => ?_) (fun c902 => ?_)
      · replace h := of_ift h c902
        refine g_mask (bs := [true, true, true, true, true, true, true, true, true, true, true, false, false, false, false, false, false]) (L2 := [some (rv w r0), some (.int x1), some (.int x2), some (.int x3), some (.int x4), some (.int x5), some (.int x6), some (.int x7), some (.int x8), some (.int x9), some (.int x10), none, none, none, none, none, none]) rfl ?_
        exact t_L_holds_399 C hR (fun r0' x1' x2' x3' x4' x5' x6' x7' M' h => hk95 r0' x1' x2' x3' x4' x5' x6' x7' M' h) r0 x1 x2 x3 x4 x5 x6 x7 x8 x9 x10 M h
      · replace h := of_iff h c902
        refine g_aload_n C dL_holds_183 rfl rfl ?_
        refine g_iload C dL_holds_184 rfl ?_
        refine g_iload C dL_holds_186 rfl ?_
        obtain ⟨y905, M903, e904, h⟩ := of_opp h
        refine g_callS (As := [rv w r0, .int x7, .int x11]) C (ct_L_kind C.wf e904) lk_RL_38 mi_L_kind (by decide) cs_0 (by decide) dL_holds_188 rfl ?_
        show Go w f 191 [some (rv w r0), some (.int x1), some (.int x2), some (.int x3), some (.int x4), some (.int x5), some (.int x6), some (.int x7), some (.int x8), some (.int x9), some (.int x10), some (.int x11), none, none, none, none, none] [.int y905] M903
        refine g_istore C dL_holds_191 (by decide) rfl (L2 := [some (rv w r0), some (.int x1), some (.int x2), some (.int x3), some (.int x4), some (.int x5), some (.int x6), some (.int x7), some (.int x8), some (.int x9), some (.int x10), some (.int x11), some (.int y905), none, none, none, none]) rfl ?_
        refine g_aload_n C dL_holds_193 rfl rfl ?_
        refine g_iload C dL_holds_194 rfl ?_
        refine g_iload C dL_holds_196 rfl ?_
        refine g_iconst (v := 1) C dL_holds_198 rfl ?_
        refine g_iadd C dL_holds_199 ?_
        obtain ⟨y908, M906, e907, h⟩ := of_opp h
        refine g_callS (As := [rv w r0, .int x7, .int (x11 + (1 : Int32))]) C (ct_L_kind C.wf e907) lk_RL_38 mi_L_kind (by decide) cs_0 (by decide) dL_holds_200 rfl ?_
        show Go w f 203 [some (rv w r0), some (.int x1), some (.int x2), some (.int x3), some (.int x4), some (.int x5), some (.int x6), some (.int x7), some (.int x8), some (.int x9), some (.int x10), some (.int x11), some (.int y905), none, none, none, none] [.int y908] M906
        refine g_istore C dL_holds_203 (by decide) rfl (L2 := [some (rv w r0), some (.int x1), some (.int x2), some (.int x3), some (.int x4), some (.int x5), some (.int x6), some (.int x7), some (.int x8), some (.int x9), some (.int x10), some (.int x11), some (.int y905), some (.int y908), none, none, none]) rfl ?_
        refine g_bipush (v := -4) C dL_holds_205 rfl ?_
        refine g_istore C dL_holds_207 (by decide) rfl (L2 := [some (rv w r0), some (.int x1), some (.int x2), some (.int x3), some (.int x4), some (.int x5), some (.int x6), some (.int x7), some (.int x8), some (.int x9), some (.int x10), some (.int x11), some (.int y905), some (.int y908), some (.int (-4 : Int32)), none, none]) rfl ?_
        refine g_iconst (v := 0) C dL_holds_209 rfl ?_
        refine g_istore C dL_holds_210 (by decide) rfl (L2 := [some (rv w r0), some (.int x1), some (.int x2), some (.int x3), some (.int x4), some (.int x5), some (.int x6), some (.int x7), some (.int x8), some (.int x9), some (.int x10), some (.int x11), some (.int y905), some (.int y908), some (.int (-4 : Int32)), some (.int (0 : Int32)), none]) rfl ?_
        refine g_mask (bs := [true, true, true, true, true, true, false, true, true, true, true, true, true, true, true, true, false]) (L2 := [some (rv w r0), some (.int x1), some (.int x2), some (.int x3), some (.int x4), some (.int x5), none, some (.int x7), some (.int x8), some (.int x9), some (.int x10), some (.int x11), some (.int y905), some (.int y908), some (.int (-4 : Int32)), some (.int (0 : Int32)), none]) rfl ?_
        exact t_L_holds_212 C hR (fun r0' x1' x2' x3' x4' x5' x6' x7' M' h => hk95 r0' x1' x2' x3' x4' x5' x6' x7' M' h) (fun r0' x1' x2' x3' x4' x5' x6' x7' x8' x9' x10' x11' M' h => ih r0' x1' x2' x3' x4' x5' x6' x7' x8' x9' x10' x11' M' h) _ r0 x1 x2 x3 x4 x5 x7 x8 x9 x10 x11 y905 y908 (-4 : Int32) (0 : Int32) M906 h
def f_L_holds_95 : Nat → Nat → Int32 → Int32 → Int32 → Int32 → Int32 → Int32 → Int32 → Mem → Option (Int32 × Mem)
  | 0, _, _, _, _, _, _, _, _, _ => none
  | n + 1, r0, x1, x2, x3, x4, x5, x6, x7, M => if x1 ≤ x7 then (f_L_holds_794 r0 x1 x2 x3 x4 x5 x6 M) else (if x6 = 0 then (f_L_holds_794 r0 x1 x2 x3 x4 x5 x6 M) else (gdd (kd r0 = 6) <| opp (f_X5_edition r0 x7 (0 : Int32) M) fun y406 M404 => opp (f_X5_edition r0 x7 (1 : Int32) M404) fun y409 M407 => bvv (x2 + y406) fun y410 => obb (f_L_ones y409) fun y412 => bvv (x3 + y412) fun y414 => opp (f_X5_edition r0 x7 (6 : Int32) M407) fun y418 M416 => bvv (x4 + y418) fun y419 => opp (f_X5_edition r0 x7 (7 : Int32) M416) fun y423 M421 => bvv (x5 + y423) fun y424 => f_L_holds_169 (f_L_holds_95 n) FU r0 x1 y410 y414 y419 y424 x6 x7 y406 y409 (0 : Int32) (0 : Int32) M421))
set_option maxRecDepth 100000 in
set_option maxHeartbeats 4000000 in
theorem t_L_holds_95 {w : Om} {f : Fr} {r : Int32} {M2 : Mem} (C : Cx w f RL cL_holds 17 23) (hR : Rt w f cL_holds (some .boolean) (some (.int r)) M2)   : ∀ (n : Nat) (r0 : Nat) (x1 : Int32) (x2 : Int32) (x3 : Int32) (x4 : Int32) (x5 : Int32) (x6 : Int32) (x7 : Int32) (M : Mem), f_L_holds_95 n r0 x1 x2 x3 x4 x5 x6 x7 M = some (r, M2) → Go w f 95 [some (rv w r0), some (.int x1), some (.int x2), some (.int x3), some (.int x4), some (.int x5), some (.int x6), some (.int x7), none, none, none, none, none, none, none, none, none] [] M := by
  intro n
  induction n with
  | zero =>
    intro r0 x1 x2 x3 x4 x5 x6 x7 M h
    cases h
  | succ n ih =>
    intro r0 x1 x2 x3 x4 x5 x6 x7 M h
    rw [f_L_holds_95] at h
    refine g_iload C dL_holds_95 rfl ?_
    refine g_iload_n C dL_holds_97 rfl rfl ?_
    refine g_icmp_ge 794 C dL_holds_98 (by decide) (fun c401 => ?_) (fun c401 => ?_)
    · replace h := of_ift h c401
      refine g_mask (bs := [true, true, true, true, true, true, true, false, false, false, false, false, false, false, false, false, false]) (L2 := [some (rv w r0), some (.int x1), some (.int x2), some (.int x3), some (.int x4), some (.int x5), some (.int x6), none, none, none, none, none, none, none, none, none, none]) rfl ?_
      exact t_L_holds_794 C hR r0 x1 x2 x3 x4 x5 x6 M h
    · replace h := of_iff h c401
      refine g_iload C dL_holds_101 rfl ?_
      refine g_if_eq 794 C dL_holds_103 (by decide) (fun c402 => ?_) (fun c402 => ?_)
      · replace h := of_ift h c402
        refine g_mask (bs := [true, true, true, true, true, true, true, false, false, false, false, false, false, false, false, false, false]) (L2 := [some (rv w r0), some (.int x1), some (.int x2), some (.int x3), some (.int x4), some (.int x5), some (.int x6), none, none, none, none, none, none, none, none, none, none]) rfl ?_
        exact t_L_holds_794 C hR r0 x1 x2 x3 x4 x5 x6 M h
      · replace h := of_iff h c402
        refine g_aload_n C dL_holds_106 rfl rfl ?_
        refine g_iload C dL_holds_107 rfl ?_
        refine g_iconst (v := 0) C dL_holds_109 rfl ?_
        obtain ⟨g403, h⟩ := of_gdd h
        obtain ⟨y406, M404, e405, h⟩ := of_opp h
        refine g_callV (As := [.int x7, .int (0 : Int32)]) C (ct_X5_edition C.wf e405) g403 lk_RL_19 mi_X5_edition (by decide) cs_0 (by decide) dL_holds_110 rfl ?_
        show Go w f 113 [some (rv w r0), some (.int x1), some (.int x2), some (.int x3), some (.int x4), some (.int x5), some (.int x6), some (.int x7), none, none, none, none, none, none, none, none, none] [.int y406] M404
        refine g_istore C dL_holds_113 (by decide) rfl (L2 := [some (rv w r0), some (.int x1), some (.int x2), some (.int x3), some (.int x4), some (.int x5), some (.int x6), some (.int x7), some (.int y406), none, none, none, none, none, none, none, none]) rfl ?_
        refine g_aload_n C dL_holds_115 rfl rfl ?_
        refine g_iload C dL_holds_116 rfl ?_
        refine g_iconst (v := 1) C dL_holds_118 rfl ?_
        obtain ⟨y409, M407, e408, h⟩ := of_opp h
        refine g_callV (As := [.int x7, .int (1 : Int32)]) C (ct_X5_edition C.wf e408) g403 lk_RL_19 mi_X5_edition (by decide) cs_0 (by decide) dL_holds_119 rfl ?_
        show Go w f 122 [some (rv w r0), some (.int x1), some (.int x2), some (.int x3), some (.int x4), some (.int x5), some (.int x6), some (.int x7), some (.int y406), none, none, none, none, none, none, none, none] [.int y409] M407
        refine g_istore C dL_holds_122 (by decide) rfl (L2 := [some (rv w r0), some (.int x1), some (.int x2), some (.int x3), some (.int x4), some (.int x5), some (.int x6), some (.int x7), some (.int y406), some (.int y409), none, none, none, none, none, none, none]) rfl ?_
        refine g_iconst (v := 0) C dL_holds_124 rfl ?_
        refine g_istore C dL_holds_125 (by decide) rfl (L2 := [some (rv w r0), some (.int x1), some (.int x2), some (.int x3), some (.int x4), some (.int x5), some (.int x6), some (.int x7), some (.int y406), some (.int y409), some (.int (0 : Int32)), none, none, none, none, none, none]) rfl ?_
        refine g_iload_n C dL_holds_127 rfl rfl ?_
        refine g_iload C dL_holds_128 rfl ?_
        refine g_iadd C dL_holds_130 ?_
        obtain ⟨y410, e411, h⟩ := of_bvv h
        refine g_topi e411 ?_
        refine g_istore_n C dL_holds_131 rfl (by decide) rfl (L2 := [some (rv w r0), some (.int x1), some (.int y410), some (.int x3), some (.int x4), some (.int x5), some (.int x6), some (.int x7), some (.int y406), some (.int y409), some (.int (0 : Int32)), none, none, none, none, none, none]) rfl ?_
        refine g_iload_n C dL_holds_132 rfl rfl ?_
        refine g_iload C dL_holds_133 rfl ?_
        obtain ⟨y412, e413, h⟩ := of_obb h
        refine g_callS (As := [.int y409]) C (ct_L_ones C.wf e413) lk_RL_29 mi_L_ones (by decide) (cs_i cs_0) (by decide) dL_holds_135 rfl ?_
        show Go w f 138 [some (rv w r0), some (.int x1), some (.int y410), some (.int x3), some (.int x4), some (.int x5), some (.int x6), some (.int x7), some (.int y406), some (.int y409), some (.int (0 : Int32)), none, none, none, none, none, none] [.int y412, .int x3] M407
        refine g_iadd C dL_holds_138 ?_
        obtain ⟨y414, e415, h⟩ := of_bvv h
        refine g_topi e415 ?_
        refine g_istore_n C dL_holds_139 rfl (by decide) rfl (L2 := [some (rv w r0), some (.int x1), some (.int y410), some (.int y414), some (.int x4), some (.int x5), some (.int x6), some (.int x7), some (.int y406), some (.int y409), some (.int (0 : Int32)), none, none, none, none, none, none]) rfl ?_
        refine g_iload C dL_holds_140 rfl ?_
        refine g_aload_n C dL_holds_142 rfl rfl ?_
        refine g_iload C dL_holds_143 rfl ?_
        refine g_bipush (v := 6) C dL_holds_145 rfl ?_
        obtain ⟨y418, M416, e417, h⟩ := of_opp h
        refine g_callV (As := [.int x7, .int (6 : Int32)]) C (ct_X5_edition C.wf e417) g403 lk_RL_19 mi_X5_edition (by decide) (cs_i cs_0) (by decide) dL_holds_147 rfl ?_
        show Go w f 150 [some (rv w r0), some (.int x1), some (.int y410), some (.int y414), some (.int x4), some (.int x5), some (.int x6), some (.int x7), some (.int y406), some (.int y409), some (.int (0 : Int32)), none, none, none, none, none, none] [.int y418, .int x4] M416
        refine g_iadd C dL_holds_150 ?_
        obtain ⟨y419, e420, h⟩ := of_bvv h
        refine g_topi e420 ?_
        refine g_istore C dL_holds_151 (by decide) rfl (L2 := [some (rv w r0), some (.int x1), some (.int y410), some (.int y414), some (.int y419), some (.int x5), some (.int x6), some (.int x7), some (.int y406), some (.int y409), some (.int (0 : Int32)), none, none, none, none, none, none]) rfl ?_
        refine g_iload C dL_holds_153 rfl ?_
        refine g_aload_n C dL_holds_155 rfl rfl ?_
        refine g_iload C dL_holds_156 rfl ?_
        refine g_bipush (v := 7) C dL_holds_158 rfl ?_
        obtain ⟨y423, M421, e422, h⟩ := of_opp h
        refine g_callV (As := [.int x7, .int (7 : Int32)]) C (ct_X5_edition C.wf e422) g403 lk_RL_19 mi_X5_edition (by decide) (cs_i cs_0) (by decide) dL_holds_160 rfl ?_
        show Go w f 163 [some (rv w r0), some (.int x1), some (.int y410), some (.int y414), some (.int y419), some (.int x5), some (.int x6), some (.int x7), some (.int y406), some (.int y409), some (.int (0 : Int32)), none, none, none, none, none, none] [.int y423, .int x5] M421
        refine g_iadd C dL_holds_163 ?_
        obtain ⟨y424, e425, h⟩ := of_bvv h
        refine g_topi e425 ?_
        refine g_istore C dL_holds_164 (by decide) rfl (L2 := [some (rv w r0), some (.int x1), some (.int y410), some (.int y414), some (.int y419), some (.int y424), some (.int x6), some (.int x7), some (.int y406), some (.int y409), some (.int (0 : Int32)), none, none, none, none, none, none]) rfl ?_
        refine g_iconst (v := 0) C dL_holds_166 rfl ?_
        refine g_istore C dL_holds_167 (by decide) rfl (L2 := [some (rv w r0), some (.int x1), some (.int y410), some (.int y414), some (.int y419), some (.int y424), some (.int x6), some (.int x7), some (.int y406), some (.int y409), some (.int (0 : Int32)), some (.int (0 : Int32)), none, none, none, none, none]) rfl ?_
        exact t_L_holds_169 C hR (fun r0' x1' x2' x3' x4' x5' x6' x7' M' h => ih r0' x1' x2' x3' x4' x5' x6' x7' M' h) _ r0 x1 y410 y414 y419 y424 x6 x7 y406 y409 (0 : Int32) (0 : Int32) M421 h
def f_L_holds_90 (r0 : Nat) (x1 : Int32) (x2 : Int32) (x3 : Int32) (x4 : Int32) (x5 : Int32) (xs0 : Int32) (M : Mem) : Option (Int32 × Mem) := f_L_holds_95 FU r0 x1 x2 x3 x4 x5 xs0 (0 : Int32) M
set_option maxRecDepth 100000 in
set_option maxHeartbeats 4000000 in
theorem t_L_holds_90 {w : Om} {f : Fr} {r : Int32} {M2 : Mem} (C : Cx w f RL cL_holds 17 23) (hR : Rt w f cL_holds (some .boolean) (some (.int r)) M2)   : ∀ (r0 : Nat) (x1 : Int32) (x2 : Int32) (x3 : Int32) (x4 : Int32) (x5 : Int32) (xs0 : Int32) (M : Mem), f_L_holds_90 r0 x1 x2 x3 x4 x5 xs0 M = some (r, M2) → Go w f 90 [some (rv w r0), some (.int x1), some (.int x2), some (.int x3), some (.int x4), some (.int x5), none, none, none, none, none, none, none, none, none, none, none] [.int xs0] M := by
  intro r0 x1 x2 x3 x4 x5 xs0 M h
  unfold f_L_holds_90 at h
  refine g_istore C dL_holds_90 (by decide) rfl (L2 := [some (rv w r0), some (.int x1), some (.int x2), some (.int x3), some (.int x4), some (.int x5), some (.int xs0), none, none, none, none, none, none, none, none, none, none]) rfl ?_
  refine g_iconst (v := 0) C dL_holds_92 rfl ?_
  refine g_istore C dL_holds_93 (by decide) rfl (L2 := [some (rv w r0), some (.int x1), some (.int x2), some (.int x3), some (.int x4), some (.int x5), some (.int xs0), some (.int (0 : Int32)), none, none, none, none, none, none, none, none, none]) rfl ?_
  exact t_L_holds_95 C hR _ r0 x1 x2 x3 x4 x5 xs0 (0 : Int32) M h
def f_L_holds_89 (r0 : Nat) (x1 : Int32) (x2 : Int32) (x3 : Int32) (x4 : Int32) (x5 : Int32) (M : Mem) : Option (Int32 × Mem) := f_L_holds_90 r0 x1 x2 x3 x4 x5 (0 : Int32) M
set_option maxRecDepth 100000 in
set_option maxHeartbeats 4000000 in
theorem t_L_holds_89 {w : Om} {f : Fr} {r : Int32} {M2 : Mem} (C : Cx w f RL cL_holds 17 23) (hR : Rt w f cL_holds (some .boolean) (some (.int r)) M2)   : ∀ (r0 : Nat) (x1 : Int32) (x2 : Int32) (x3 : Int32) (x4 : Int32) (x5 : Int32) (M : Mem), f_L_holds_89 r0 x1 x2 x3 x4 x5 M = some (r, M2) → Go w f 89 [some (rv w r0), some (.int x1), some (.int x2), some (.int x3), some (.int x4), some (.int x5), none, none, none, none, none, none, none, none, none, none, none] [] M := by
  intro r0 x1 x2 x3 x4 x5 M h
  unfold f_L_holds_89 at h
  refine g_iconst (v := 0) C dL_holds_89 rfl ?_
  exact t_L_holds_90 C hR r0 x1 x2 x3 x4 x5 (0 : Int32) M h
def f_L_holds (r0 : Nat) (M : Mem) : Option (Int32 × Mem) := gdd (kd r0 = 6) <| opp (f_X5_count r0 (1 : Int32) M) fun y4 M2 => opp (f_L_rulings r0 M2) fun y7 M5 => if y7 = 0 then (f_L_holds_89 r0 y4 (0 : Int32) (0 : Int32) (0 : Int32) (0 : Int32) M5) else (if y4 < 0 then (f_L_holds_89 r0 y4 (0 : Int32) (0 : Int32) (0 : Int32) (0 : Int32) M5) else (if (4 : Int32) < y4 then (f_L_holds_89 r0 y4 (0 : Int32) (0 : Int32) (0 : Int32) (0 : Int32) M5) else (opp (f_X5_edition r0 y4 (0 : Int32) M5) fun y13 M11 => if y13 = (-1 : Int32) then (opp (f_X5_count r0 (10 : Int32) M11) fun y17 M15 => if y17 < (1 : Int32) then (f_L_holds_89 r0 y4 (0 : Int32) (0 : Int32) (0 : Int32) (0 : Int32) M15) else (opp (f_X5_count r0 (10 : Int32) M15) fun y21 M19 => if (30 : Int32) < y21 then (f_L_holds_89 r0 y4 (0 : Int32) (0 : Int32) (0 : Int32) (0 : Int32) M19) else (opp (f_X5_count r0 (11 : Int32) M19) fun y25 M23 => if y25 < (9 : Int32) then (f_L_holds_89 r0 y4 (0 : Int32) (0 : Int32) (0 : Int32) (0 : Int32) M23) else (opp (f_X5_count r0 (11 : Int32) M23) fun y29 M27 => if (60 : Int32) < y29 then (f_L_holds_89 r0 y4 (0 : Int32) (0 : Int32) (0 : Int32) (0 : Int32) M27) else (f_L_holds_90 r0 y4 (0 : Int32) (0 : Int32) (0 : Int32) (0 : Int32) (1 : Int32) M27))))) else (f_L_holds_89 r0 y4 (0 : Int32) (0 : Int32) (0 : Int32) (0 : Int32) M11))))
set_option maxRecDepth 100000 in
set_option maxHeartbeats 4000000 in
theorem ct_L_holds {l : Launch} {w : Om} (hw : Wf w) {r0 : Nat} {M : Mem} {r : Int32} {M2 : Mem} (h : f_L_holds r0 M = some (r, M2)) : Ct l w yL_holds cL_holds 17 (some .boolean) 23 [rv w r0] M (some (.int r)) M2 := by
  refine ct_of hw (by decide) (cat_s (rv_cat _ _) cat_0) (Nat.le_of_ble_eq_true rfl) (fun f _ C hR => ?_)
  show Go w f 0 [some (rv w r0), none, none, none, none, none, none, none, none, none, none, none, none, none, none, none, none] [] M
  unfold f_L_holds at h
  refine g_aload_n C dL_holds_0 rfl rfl ?_
  refine g_iconst (v := 1) C dL_holds_1 rfl ?_
  obtain ⟨g1, h⟩ := of_gdd h
  obtain ⟨y4, M2, e3, h⟩ := of_opp h
  refine g_callV (As := [.int (1 : Int32)]) C (ct_X5_count C.wf e3) g1 lk_RL_13 mi_X5_count (by decide) cs_0 (by decide) dL_holds_2 rfl ?_
  show Go w f 5 [some (rv w r0), none, none, none, none, none, none, none, none, none, none, none, none, none, none, none, none] [.int y4] M2
  refine g_istore_n C dL_holds_5 rfl (by decide) (rv_cat _ _) (L2 := [some (rv w r0), some (.int y4), none, none, none, none, none, none, none, none, none, none, none, none, none, none, none]) rfl ?_
  refine g_iconst (v := 0) C dL_holds_6 rfl ?_
  refine g_istore_n C dL_holds_7 rfl (by decide) rfl (L2 := [some (rv w r0), some (.int y4), some (.int (0 : Int32)), none, none, none, none, none, none, none, none, none, none, none, none, none, none]) rfl ?_
  refine g_iconst (v := 0) C dL_holds_8 rfl ?_
  refine g_istore_n C dL_holds_9 rfl (by decide) rfl (L2 := [some (rv w r0), some (.int y4), some (.int (0 : Int32)), some (.int (0 : Int32)), none, none, none, none, none, none, none, none, none, none, none, none, none]) rfl ?_
  refine g_iconst (v := 0) C dL_holds_10 rfl ?_
  refine g_istore C dL_holds_11 (by decide) rfl (L2 := [some (rv w r0), some (.int y4), some (.int (0 : Int32)), some (.int (0 : Int32)), some (.int (0 : Int32)), none, none, none, none, none, none, none, none, none, none, none, none]) rfl ?_
  refine g_iconst (v := 0) C dL_holds_13 rfl ?_
  refine g_istore C dL_holds_14 (by decide) rfl (L2 := [some (rv w r0), some (.int y4), some (.int (0 : Int32)), some (.int (0 : Int32)), some (.int (0 : Int32)), some (.int (0 : Int32)), none, none, none, none, none, none, none, none, none, none, none]) rfl ?_
  refine g_aload_n C dL_holds_16 rfl rfl ?_
  obtain ⟨y7, M5, e6, h⟩ := of_opp h
  refine g_callS (As := [rv w r0]) C (ct_L_rulings C.wf e6) lk_RL_34 mi_L_rulings (by decide) cs_0 (by decide) dL_holds_17 rfl ?_
  show Go w f 20 [some (rv w r0), some (.int y4), some (.int (0 : Int32)), some (.int (0 : Int32)), some (.int (0 : Int32)), some (.int (0 : Int32)), none, none, none, none, none, none, none, none, none, none, none] [.int y7] M5
  refine g_if_eq 89 C dL_holds_20 (by decide) (fun c8 => ?_) (fun c8 => ?_)
  · replace h := of_ift h c8
    exact t_L_holds_89 C hR r0 y4 (0 : Int32) (0 : Int32) (0 : Int32) (0 : Int32) M5 h
  · replace h := of_iff h c8
    refine g_iload_n C dL_holds_23 rfl rfl ?_
    refine g_if_lt 89 C dL_holds_24 (by decide) (fun c9 => ?_) (fun c9 => ?_)
    · replace h := of_ift h c9
      exact t_L_holds_89 C hR r0 y4 (0 : Int32) (0 : Int32) (0 : Int32) (0 : Int32) M5 h
    · replace h := of_iff h c9
      refine g_iload_n C dL_holds_27 rfl rfl ?_
      refine g_iconst (v := 4) C dL_holds_28 rfl ?_
      refine g_icmp_gt 89 C dL_holds_29 (by decide) (fun c10 => ?_) (fun c10 => ?_)
      · replace h := of_ift h c10
        exact t_L_holds_89 C hR r0 y4 (0 : Int32) (0 : Int32) (0 : Int32) (0 : Int32) M5 h
      · replace h := of_iff h c10
        refine g_aload_n C dL_holds_32 rfl rfl ?_
        refine g_iload_n C dL_holds_33 rfl rfl ?_
        refine g_iconst (v := 0) C dL_holds_34 rfl ?_
        obtain ⟨y13, M11, e12, h⟩ := of_opp h
        refine g_callV (As := [.int y4, .int (0 : Int32)]) C (ct_X5_edition C.wf e12) g1 lk_RL_19 mi_X5_edition (by decide) cs_0 (by decide) dL_holds_35 rfl ?_
        show Go w f 38 [some (rv w r0), some (.int y4), some (.int (0 : Int32)), some (.int (0 : Int32)), some (.int (0 : Int32)), some (.int (0 : Int32)), none, none, none, none, none, none, none, none, none, none, none] [.int y13] M11
        refine g_iconst (v := -1) C dL_holds_38 rfl ?_
        refine g_icmp_ne 89 C dL_holds_39 (by decide) (fun c14 => ?_) (fun c14 => ?_)
        · replace h := of_iff h c14
          exact t_L_holds_89 C hR r0 y4 (0 : Int32) (0 : Int32) (0 : Int32) (0 : Int32) M11 h
        · replace h := of_ift h c14
          refine g_aload_n C dL_holds_42 rfl rfl ?_
          refine g_bipush (v := 10) C dL_holds_43 rfl ?_
          obtain ⟨y17, M15, e16, h⟩ := of_opp h
          refine g_callV (As := [.int (10 : Int32)]) C (ct_X5_count C.wf e16) g1 lk_RL_13 mi_X5_count (by decide) cs_0 (by decide) dL_holds_45 rfl ?_
          show Go w f 48 [some (rv w r0), some (.int y4), some (.int (0 : Int32)), some (.int (0 : Int32)), some (.int (0 : Int32)), some (.int (0 : Int32)), none, none, none, none, none, none, none, none, none, none, none] [.int y17] M15
          refine g_iconst (v := 1) C dL_holds_48 rfl ?_
          refine g_icmp_lt 89 C dL_holds_49 (by decide) (fun c18 => ?_) (fun c18 => ?_)
          · replace h := of_ift h c18
            exact t_L_holds_89 C hR r0 y4 (0 : Int32) (0 : Int32) (0 : Int32) (0 : Int32) M15 h
          · replace h := of_iff h c18
            refine g_aload_n C dL_holds_52 rfl rfl ?_
            refine g_bipush (v := 10) C dL_holds_53 rfl ?_
            obtain ⟨y21, M19, e20, h⟩ := of_opp h
            refine g_callV (As := [.int (10 : Int32)]) C (ct_X5_count C.wf e20) g1 lk_RL_13 mi_X5_count (by decide) cs_0 (by decide) dL_holds_55 rfl ?_
            show Go w f 58 [some (rv w r0), some (.int y4), some (.int (0 : Int32)), some (.int (0 : Int32)), some (.int (0 : Int32)), some (.int (0 : Int32)), none, none, none, none, none, none, none, none, none, none, none] [.int y21] M19
            refine g_bipush (v := 30) C dL_holds_58 rfl ?_
            refine g_icmp_gt 89 C dL_holds_60 (by decide) (fun c22 => ?_) (fun c22 => ?_)
            · replace h := of_ift h c22
              exact t_L_holds_89 C hR r0 y4 (0 : Int32) (0 : Int32) (0 : Int32) (0 : Int32) M19 h
            · replace h := of_iff h c22
              refine g_aload_n C dL_holds_63 rfl rfl ?_
              refine g_bipush (v := 11) C dL_holds_64 rfl ?_
              obtain ⟨y25, M23, e24, h⟩ := of_opp h
              refine g_callV (As := [.int (11 : Int32)]) C (ct_X5_count C.wf e24) g1 lk_RL_13 mi_X5_count (by decide) cs_0 (by decide) dL_holds_66 rfl ?_
              show Go w f 69 [some (rv w r0), some (.int y4), some (.int (0 : Int32)), some (.int (0 : Int32)), some (.int (0 : Int32)), some (.int (0 : Int32)), none, none, none, none, none, none, none, none, none, none, none] [.int y25] M23
              refine g_bipush (v := 9) C dL_holds_69 rfl ?_
              refine g_icmp_lt 89 C dL_holds_71 (by decide) (fun c26 => ?_) (fun c26 => ?_)
              · replace h := of_ift h c26
                exact t_L_holds_89 C hR r0 y4 (0 : Int32) (0 : Int32) (0 : Int32) (0 : Int32) M23 h
              · replace h := of_iff h c26
                refine g_aload_n C dL_holds_74 rfl rfl ?_
                refine g_bipush (v := 11) C dL_holds_75 rfl ?_
                obtain ⟨y29, M27, e28, h⟩ := of_opp h
                refine g_callV (As := [.int (11 : Int32)]) C (ct_X5_count C.wf e28) g1 lk_RL_13 mi_X5_count (by decide) cs_0 (by decide) dL_holds_77 rfl ?_
                show Go w f 80 [some (rv w r0), some (.int y4), some (.int (0 : Int32)), some (.int (0 : Int32)), some (.int (0 : Int32)), some (.int (0 : Int32)), none, none, none, none, none, none, none, none, none, none, none] [.int y29] M27
                refine g_bipush (v := 60) C dL_holds_80 rfl ?_
                refine g_icmp_gt 89 C dL_holds_82 (by decide) (fun c30 => ?_) (fun c30 => ?_)
                · replace h := of_ift h c30
                  exact t_L_holds_89 C hR r0 y4 (0 : Int32) (0 : Int32) (0 : Int32) (0 : Int32) M27 h
                · replace h := of_iff h c30
                  refine g_iconst (v := 1) C dL_holds_85 rfl ?_
                  refine g_goto 90 C dL_holds_86 (by decide) ?_
                  exact t_L_holds_90 C hR r0 y4 (0 : Int32) (0 : Int32) (0 : Int32) (0 : Int32) (1 : Int32) M27 h
