def f_X6_takesSuit (r0 : Nat) (M : Mem) : Option Mem := gdd (kd r0 = 7) <| obb (f_X6_here r0 M) fun y2 => if y2 = (43 : Int32) then (bvv (sI M r0 13 (1 : Int32)) fun M53 => if (gI M53 r0 13) = 0 then (obb (f_X6_here r0 M53) fun y56 => bvv (sI M53 r0 11 (y56 - (48 : Int32))) fun M58 => obb (f_X6_takes r0 (f_X6_in (gI M58 r0 11) (0 : Int32) (3 : Int32)) M58) fun M60 => obb (f_X6_here r0 M60) fun y62 => if y62 = (58 : Int32) then (obb (f_X6_takes r0 (1 : Int32) M60) fun M82 => obb (f_X6_here r0 M82) fun y84 => bvv (sI M82 r0 12 (y84 - (48 : Int32))) fun M86 => obb (f_X6_takes r0 (f_X6_in (gI M86 r0 12) (0 : Int32) (9 : Int32)) M86) fun M88 => if (gI M88 r0 8) = 0 then (some M88) else (if (gI M88 r0 12) = (1 : Int32) then (obb (f_X6_here r0 M88) fun y92 => if y92 = (48 : Int32) then (bvv (sI M88 r0 7 ((gI M88 r0 7) + (1 : Int32))) fun M95 => bvv (sI M95 r0 12 (10 : Int32)) fun M97 => some M97) else (some M88)) else (some M88))) else (obb (f_X6_takes r0 (0 : Int32) M60) fun M65 => obb (f_X6_here r0 M65) fun y67 => bvv (sI M65 r0 12 (y67 - (48 : Int32))) fun M69 => obb (f_X6_takes r0 (f_X6_in (gI M69 r0 12) (0 : Int32) (9 : Int32)) M69) fun M71 => if (gI M71 r0 8) = 0 then (some M71) else (if (gI M71 r0 12) = (1 : Int32) then (obb (f_X6_here r0 M71) fun y75 => if y75 = (48 : Int32) then (bvv (sI M71 r0 7 ((gI M71 r0 7) + (1 : Int32))) fun M78 => bvv (sI M78 r0 12 (10 : Int32)) fun M80 => some M80) else (some M71)) else (some M71)))) else (bvv (sI M53 r0 7 ((gI M53 r0 7) + (1 : Int32))) fun M99 => some M99)) else (bvv (sI M r0 13 (0 : Int32)) fun M5 => if (gI M5 r0 13) = 0 then (obb (f_X6_here r0 M5) fun y8 => bvv (sI M5 r0 11 (y8 - (48 : Int32))) fun M10 => obb (f_X6_takes r0 (f_X6_in (gI M10 r0 11) (0 : Int32) (3 : Int32)) M10) fun M12 => obb (f_X6_here r0 M12) fun y14 => if y14 = (58 : Int32) then (obb (f_X6_takes r0 (1 : Int32) M12) fun M34 => obb (f_X6_here r0 M34) fun y36 => bvv (sI M34 r0 12 (y36 - (48 : Int32))) fun M38 => obb (f_X6_takes r0 (f_X6_in (gI M38 r0 12) (0 : Int32) (9 : Int32)) M38) fun M40 => if (gI M40 r0 8) = 0 then (some M40) else (if (gI M40 r0 12) = (1 : Int32) then (obb (f_X6_here r0 M40) fun y44 => if y44 = (48 : Int32) then (bvv (sI M40 r0 7 ((gI M40 r0 7) + (1 : Int32))) fun M47 => bvv (sI M47 r0 12 (10 : Int32)) fun M49 => some M49) else (some M40)) else (some M40))) else (obb (f_X6_takes r0 (0 : Int32) M12) fun M17 => obb (f_X6_here r0 M17) fun y19 => bvv (sI M17 r0 12 (y19 - (48 : Int32))) fun M21 => obb (f_X6_takes r0 (f_X6_in (gI M21 r0 12) (0 : Int32) (9 : Int32)) M21) fun M23 => if (gI M23 r0 8) = 0 then (some M23) else (if (gI M23 r0 12) = (1 : Int32) then (obb (f_X6_here r0 M23) fun y27 => if y27 = (48 : Int32) then (bvv (sI M23 r0 7 ((gI M23 r0 7) + (1 : Int32))) fun M30 => bvv (sI M30 r0 12 (10 : Int32)) fun M32 => some M32) else (some M23)) else (some M23)))) else (bvv (sI M5 r0 7 ((gI M5 r0 7) + (1 : Int32))) fun M51 => some M51))
set_option maxRecDepth 100000 in
set_option maxHeartbeats 4000000 in
theorem ct_X6_takesSuit {l : Launch} {w : Om} (hw : Wf w) {r0 : Nat} {M : Mem} {M2 : Mem} (h : f_X6_takesSuit r0 M = some M2) : Ct l w yX6_takesSuit cX6_takesSuit 1 none 1 [rv w r0] M none M2 := by
  refine ct_of hw (by decide) (cat_s (rv_cat _ _) cat_0) (Nat.le_of_ble_eq_true rfl) (fun f _ C hR => ?_)
  show Go w f 0 [some (rv w r0)] [] M
  unfold f_X6_takesSuit at h
  refine g_aload_n C dX6_takesSuit_0 rfl rfl ?_
  refine g_aload_n C dX6_takesSuit_1 rfl rfl ?_
  obtain ⟨g1, h⟩ := of_gdd h
  obtain ⟨y2, e3, h⟩ := of_obb h
  refine g_callV (As := []) C (ct_X6_here C.wf e3) g1 lk_RX6_151 mi_X6_here (by decide) (cs_r cs_0) (by decide) dX6_takesSuit_2 rfl ?_
  show Go w f 5 [some (rv w r0)] [.int y2, rv w r0] M
  refine g_bipush (v := 43) C dX6_takesSuit_5 rfl ?_
  refine g_icmp_ne 14 C dX6_takesSuit_7 (by decide) (fun c4 => ?_) (fun c4 => ?_)
  · replace h := of_iff h c4
    refine g_iconst (v := 0) C dX6_takesSuit_14 rfl ?_
    refine pf_6_13 C fl_RX6_158 g1 (isb_0) dX6_takesSuit_15 ?_
    obtain ⟨M5, e6, h⟩ := of_bvv h
    refine g_mem e6 ?_
    refine g_aload_n C dX6_takesSuit_18 rfl rfl ?_
    refine gf_6_13 C fl_RX6_158 g1 dX6_takesSuit_19 ?_
    refine g_if_eq 36 C dX6_takesSuit_22 (by decide) (fun c7 => ?_) (fun c7 => ?_)
    · replace h := of_ift h c7
      refine g_aload_n C dX6_takesSuit_36 rfl rfl ?_
      refine g_aload_n C dX6_takesSuit_37 rfl rfl ?_
      obtain ⟨y8, e9, h⟩ := of_obb h
      refine g_callV (As := []) C (ct_X6_here C.wf e9) g1 lk_RX6_151 mi_X6_here (by decide) (cs_r cs_0) (by decide) dX6_takesSuit_38 rfl ?_
      show Go w f 41 [some (rv w r0)] [.int y8, rv w r0] M5
      refine g_bipush (v := 48) C dX6_takesSuit_41 rfl ?_
      refine g_isub C dX6_takesSuit_43 ?_
      refine pf_6_11 C fl_RX6_161 g1 dX6_takesSuit_44 ?_
      obtain ⟨M10, e11, h⟩ := of_bvv h
      refine g_mem e11 ?_
      refine g_aload_n C dX6_takesSuit_47 rfl rfl ?_
      refine g_aload_n C dX6_takesSuit_48 rfl rfl ?_
      refine gf_6_11 C fl_RX6_161 g1 dX6_takesSuit_49 ?_
      refine g_iconst (v := 0) C dX6_takesSuit_52 rfl ?_
      refine g_iconst (v := 3) C dX6_takesSuit_53 rfl ?_
      refine g_callS (As := [.int (gI M10 r0 11), .int (0 : Int32), .int (3 : Int32)]) C (ct_X6_in C.wf rfl) lk_RX6_42 mi_X6_in (by decide) (cs_r cs_0) (by decide) dX6_takesSuit_54 rfl ?_
      show Go w f 57 [some (rv w r0)] [.int (f_X6_in (gI M10 r0 11) (0 : Int32) (3 : Int32)), rv w r0] M10
      obtain ⟨M12, e13, h⟩ := of_obb h
      refine g_callV (As := [.int (f_X6_in (gI M10 r0 11) (0 : Int32) (3 : Int32))]) C (ct_X6_takes C.wf e13) g1 lk_RX6_154 mi_X6_takes (by decide) cs_0 (by decide) dX6_takesSuit_57 rfl ?_
      show Go w f 60 [some (rv w r0)] [] M12
      refine g_aload_n C dX6_takesSuit_60 rfl rfl ?_
      refine g_aload_n C dX6_takesSuit_61 rfl rfl ?_
      obtain ⟨y14, e15, h⟩ := of_obb h
      refine g_callV (As := []) C (ct_X6_here C.wf e15) g1 lk_RX6_151 mi_X6_here (by decide) (cs_r cs_0) (by decide) dX6_takesSuit_62 rfl ?_
      show Go w f 65 [some (rv w r0)] [.int y14, rv w r0] M12
      refine g_bipush (v := 58) C dX6_takesSuit_65 rfl ?_
      refine g_icmp_ne 74 C dX6_takesSuit_67 (by decide) (fun c16 => ?_) (fun c16 => ?_)
      · replace h := of_iff h c16
        refine g_iconst (v := 0) C dX6_takesSuit_74 rfl ?_
        obtain ⟨M17, e18, h⟩ := of_obb h
        refine g_callV (As := [.int (0 : Int32)]) C (ct_X6_takes C.wf e18) g1 lk_RX6_154 mi_X6_takes (by decide) cs_0 (by decide) dX6_takesSuit_75 rfl ?_
        show Go w f 78 [some (rv w r0)] [] M17
        refine g_aload_n C dX6_takesSuit_78 rfl rfl ?_
        refine g_aload_n C dX6_takesSuit_79 rfl rfl ?_
        obtain ⟨y19, e20, h⟩ := of_obb h
        refine g_callV (As := []) C (ct_X6_here C.wf e20) g1 lk_RX6_151 mi_X6_here (by decide) (cs_r cs_0) (by decide) dX6_takesSuit_80 rfl ?_
        show Go w f 83 [some (rv w r0)] [.int y19, rv w r0] M17
        refine g_bipush (v := 48) C dX6_takesSuit_83 rfl ?_
        refine g_isub C dX6_takesSuit_85 ?_
        refine pf_6_12 C fl_RX6_164 g1 dX6_takesSuit_86 ?_
        obtain ⟨M21, e22, h⟩ := of_bvv h
        refine g_mem e22 ?_
        refine g_aload_n C dX6_takesSuit_89 rfl rfl ?_
        refine g_aload_n C dX6_takesSuit_90 rfl rfl ?_
        refine gf_6_12 C fl_RX6_164 g1 dX6_takesSuit_91 ?_
        refine g_iconst (v := 0) C dX6_takesSuit_94 rfl ?_
        refine g_bipush (v := 9) C dX6_takesSuit_95 rfl ?_
        refine g_callS (As := [.int (gI M21 r0 12), .int (0 : Int32), .int (9 : Int32)]) C (ct_X6_in C.wf rfl) lk_RX6_42 mi_X6_in (by decide) (cs_r cs_0) (by decide) dX6_takesSuit_97 rfl ?_
        show Go w f 100 [some (rv w r0)] [.int (f_X6_in (gI M21 r0 12) (0 : Int32) (9 : Int32)), rv w r0] M21
        obtain ⟨M23, e24, h⟩ := of_obb h
        refine g_callV (As := [.int (f_X6_in (gI M21 r0 12) (0 : Int32) (9 : Int32))]) C (ct_X6_takes C.wf e24) g1 lk_RX6_154 mi_X6_takes (by decide) cs_0 (by decide) dX6_takesSuit_100 rfl ?_
        show Go w f 103 [some (rv w r0)] [] M23
        refine g_aload_n C dX6_takesSuit_103 rfl rfl ?_
        refine gf_6_8 C fl_RX6_141 g1 dX6_takesSuit_104 ?_
        refine g_if_eq 143 C dX6_takesSuit_107 (by decide) (fun c25 => ?_) (fun c25 => ?_)
        · replace h := of_ift h c25
          cases h
          exact hR 143 _ rfl dX6_takesSuit_143
        · replace h := of_iff h c25
          refine g_aload_n C dX6_takesSuit_110 rfl rfl ?_
          refine gf_6_12 C fl_RX6_164 g1 dX6_takesSuit_111 ?_
          refine g_iconst (v := 1) C dX6_takesSuit_114 rfl ?_
          refine g_icmp_ne 143 C dX6_takesSuit_115 (by decide) (fun c26 => ?_) (fun c26 => ?_)
          · replace h := of_iff h c26
            cases h
            exact hR 143 _ rfl dX6_takesSuit_143
          · replace h := of_ift h c26
            refine g_aload_n C dX6_takesSuit_118 rfl rfl ?_
            obtain ⟨y27, e28, h⟩ := of_obb h
            refine g_callV (As := []) C (ct_X6_here C.wf e28) g1 lk_RX6_151 mi_X6_here (by decide) cs_0 (by decide) dX6_takesSuit_119 rfl ?_
            show Go w f 122 [some (rv w r0)] [.int y27] M23
            refine g_bipush (v := 48) C dX6_takesSuit_122 rfl ?_
            refine g_icmp_ne 143 C dX6_takesSuit_124 (by decide) (fun c29 => ?_) (fun c29 => ?_)
            · replace h := of_iff h c29
              cases h
              exact hR 143 _ rfl dX6_takesSuit_143
            · replace h := of_ift h c29
              refine g_aload_n C dX6_takesSuit_127 rfl rfl ?_
              refine g_dup C (rv_cat _ _) dX6_takesSuit_128 ?_
              refine gf_6_7 C fl_RX6_138 g1 dX6_takesSuit_129 ?_
              refine g_iconst (v := 1) C dX6_takesSuit_132 rfl ?_
              refine g_iadd C dX6_takesSuit_133 ?_
              refine pf_6_7 C fl_RX6_138 g1 dX6_takesSuit_134 ?_
              obtain ⟨M30, e31, h⟩ := of_bvv h
              refine g_mem e31 ?_
              refine g_aload_n C dX6_takesSuit_137 rfl rfl ?_
              refine g_bipush (v := 10) C dX6_takesSuit_138 rfl ?_
              refine pf_6_12 C fl_RX6_164 g1 dX6_takesSuit_140 ?_
              obtain ⟨M32, e33, h⟩ := of_bvv h
              refine g_mem e33 ?_
              cases h
              exact hR 143 _ rfl dX6_takesSuit_143
      · replace h := of_ift h c16
        refine g_iconst (v := 1) C dX6_takesSuit_70 rfl ?_
        refine g_goto 75 C dX6_takesSuit_71 (by decide) ?_
        obtain ⟨M34, e35, h⟩ := of_obb h
        refine g_callV (As := [.int (1 : Int32)]) C (ct_X6_takes C.wf e35) g1 lk_RX6_154 mi_X6_takes (by decide) cs_0 (by decide) dX6_takesSuit_75 rfl ?_
        show Go w f 78 [some (rv w r0)] [] M34
        refine g_aload_n C dX6_takesSuit_78 rfl rfl ?_
        refine g_aload_n C dX6_takesSuit_79 rfl rfl ?_
        obtain ⟨y36, e37, h⟩ := of_obb h
        refine g_callV (As := []) C (ct_X6_here C.wf e37) g1 lk_RX6_151 mi_X6_here (by decide) (cs_r cs_0) (by decide) dX6_takesSuit_80 rfl ?_
        show Go w f 83 [some (rv w r0)] [.int y36, rv w r0] M34
        refine g_bipush (v := 48) C dX6_takesSuit_83 rfl ?_
        refine g_isub C dX6_takesSuit_85 ?_
        refine pf_6_12 C fl_RX6_164 g1 dX6_takesSuit_86 ?_
        obtain ⟨M38, e39, h⟩ := of_bvv h
        refine g_mem e39 ?_
        refine g_aload_n C dX6_takesSuit_89 rfl rfl ?_
        refine g_aload_n C dX6_takesSuit_90 rfl rfl ?_
        refine gf_6_12 C fl_RX6_164 g1 dX6_takesSuit_91 ?_
        refine g_iconst (v := 0) C dX6_takesSuit_94 rfl ?_
        refine g_bipush (v := 9) C dX6_takesSuit_95 rfl ?_
        refine g_callS (As := [.int (gI M38 r0 12), .int (0 : Int32), .int (9 : Int32)]) C (ct_X6_in C.wf rfl) lk_RX6_42 mi_X6_in (by decide) (cs_r cs_0) (by decide) dX6_takesSuit_97 rfl ?_
        show Go w f 100 [some (rv w r0)] [.int (f_X6_in (gI M38 r0 12) (0 : Int32) (9 : Int32)), rv w r0] M38
        obtain ⟨M40, e41, h⟩ := of_obb h
        refine g_callV (As := [.int (f_X6_in (gI M38 r0 12) (0 : Int32) (9 : Int32))]) C (ct_X6_takes C.wf e41) g1 lk_RX6_154 mi_X6_takes (by decide) cs_0 (by decide) dX6_takesSuit_100 rfl ?_
        show Go w f 103 [some (rv w r0)] [] M40
        refine g_aload_n C dX6_takesSuit_103 rfl rfl ?_
        refine gf_6_8 C fl_RX6_141 g1 dX6_takesSuit_104 ?_
        refine g_if_eq 143 C dX6_takesSuit_107 (by decide) (fun c42 => ?_) (fun c42 => ?_)
        · replace h := of_ift h c42
          cases h
          exact hR 143 _ rfl dX6_takesSuit_143
        · replace h := of_iff h c42
          refine g_aload_n C dX6_takesSuit_110 rfl rfl ?_
          refine gf_6_12 C fl_RX6_164 g1 dX6_takesSuit_111 ?_
          refine g_iconst (v := 1) C dX6_takesSuit_114 rfl ?_
          refine g_icmp_ne 143 C dX6_takesSuit_115 (by decide) (fun c43 => ?_) (fun c43 => ?_)
          · replace h := of_iff h c43
            cases h
            exact hR 143 _ rfl dX6_takesSuit_143
          · replace h := of_ift h c43
            refine g_aload_n C dX6_takesSuit_118 rfl rfl ?_
            obtain ⟨y44, e45, h⟩ := of_obb h
            refine g_callV (As := []) C (ct_X6_here C.wf e45) g1 lk_RX6_151 mi_X6_here (by decide) cs_0 (by decide) dX6_takesSuit_119 rfl ?_
            show Go w f 122 [some (rv w r0)] [.int y44] M40
            refine g_bipush (v := 48) C dX6_takesSuit_122 rfl ?_
            refine g_icmp_ne 143 C dX6_takesSuit_124 (by decide) (fun c46 => ?_) (fun c46 => ?_)
            · replace h := of_iff h c46
              cases h
              exact hR 143 _ rfl dX6_takesSuit_143
            · replace h := of_ift h c46
              refine g_aload_n C dX6_takesSuit_127 rfl rfl ?_
              refine g_dup C (rv_cat _ _) dX6_takesSuit_128 ?_
              refine gf_6_7 C fl_RX6_138 g1 dX6_takesSuit_129 ?_
              refine g_iconst (v := 1) C dX6_takesSuit_132 rfl ?_
              refine g_iadd C dX6_takesSuit_133 ?_
              refine pf_6_7 C fl_RX6_138 g1 dX6_takesSuit_134 ?_
              obtain ⟨M47, e48, h⟩ := of_bvv h
              refine g_mem e48 ?_
              refine g_aload_n C dX6_takesSuit_137 rfl rfl ?_
              refine g_bipush (v := 10) C dX6_takesSuit_138 rfl ?_
              refine pf_6_12 C fl_RX6_164 g1 dX6_takesSuit_140 ?_
              obtain ⟨M49, e50, h⟩ := of_bvv h
              refine g_mem e50 ?_
              cases h
              exact hR 143 _ rfl dX6_takesSuit_143
    · replace h := of_iff h c7
      refine g_aload_n C dX6_takesSuit_25 rfl rfl ?_
      refine g_dup C (rv_cat _ _) dX6_takesSuit_26 ?_
      refine gf_6_7 C fl_RX6_138 g1 dX6_takesSuit_27 ?_
      refine g_iconst (v := 1) C dX6_takesSuit_30 rfl ?_
      refine g_iadd C dX6_takesSuit_31 ?_
      refine pf_6_7 C fl_RX6_138 g1 dX6_takesSuit_32 ?_
      obtain ⟨M51, e52, h⟩ := of_bvv h
      refine g_mem e52 ?_
      cases h
      exact hR 35 _ rfl dX6_takesSuit_35
  · replace h := of_ift h c4
    refine g_iconst (v := 1) C dX6_takesSuit_10 rfl ?_
    refine g_goto 15 C dX6_takesSuit_11 (by decide) ?_
    refine pf_6_13 C fl_RX6_158 g1 (isb_1) dX6_takesSuit_15 ?_
    obtain ⟨M53, e54, h⟩ := of_bvv h
    refine g_mem e54 ?_
    refine g_aload_n C dX6_takesSuit_18 rfl rfl ?_
    refine gf_6_13 C fl_RX6_158 g1 dX6_takesSuit_19 ?_
    refine g_if_eq 36 C dX6_takesSuit_22 (by decide) (fun c55 => ?_) (fun c55 => ?_)
    · replace h := of_ift h c55
      refine g_aload_n C dX6_takesSuit_36 rfl rfl ?_
      refine g_aload_n C dX6_takesSuit_37 rfl rfl ?_
      obtain ⟨y56, e57, h⟩ := of_obb h
      refine g_callV (As := []) C (ct_X6_here C.wf e57) g1 lk_RX6_151 mi_X6_here (by decide) (cs_r cs_0) (by decide) dX6_takesSuit_38 rfl ?_
      show Go w f 41 [some (rv w r0)] [.int y56, rv w r0] M53
      refine g_bipush (v := 48) C dX6_takesSuit_41 rfl ?_
      refine g_isub C dX6_takesSuit_43 ?_
      refine pf_6_11 C fl_RX6_161 g1 dX6_takesSuit_44 ?_
      obtain ⟨M58, e59, h⟩ := of_bvv h
      refine g_mem e59 ?_
      refine g_aload_n C dX6_takesSuit_47 rfl rfl ?_
      refine g_aload_n C dX6_takesSuit_48 rfl rfl ?_
      refine gf_6_11 C fl_RX6_161 g1 dX6_takesSuit_49 ?_
      refine g_iconst (v := 0) C dX6_takesSuit_52 rfl ?_
      refine g_iconst (v := 3) C dX6_takesSuit_53 rfl ?_
      refine g_callS (As := [.int (gI M58 r0 11), .int (0 : Int32), .int (3 : Int32)]) C (ct_X6_in C.wf rfl) lk_RX6_42 mi_X6_in (by decide) (cs_r cs_0) (by decide) dX6_takesSuit_54 rfl ?_
      show Go w f 57 [some (rv w r0)] [.int (f_X6_in (gI M58 r0 11) (0 : Int32) (3 : Int32)), rv w r0] M58
      obtain ⟨M60, e61, h⟩ := of_obb h
      refine g_callV (As := [.int (f_X6_in (gI M58 r0 11) (0 : Int32) (3 : Int32))]) C (ct_X6_takes C.wf e61) g1 lk_RX6_154 mi_X6_takes (by decide) cs_0 (by decide) dX6_takesSuit_57 rfl ?_
      show Go w f 60 [some (rv w r0)] [] M60
      refine g_aload_n C dX6_takesSuit_60 rfl rfl ?_
      refine g_aload_n C dX6_takesSuit_61 rfl rfl ?_
      obtain ⟨y62, e63, h⟩ := of_obb h
      refine g_callV (As := []) C (ct_X6_here C.wf e63) g1 lk_RX6_151 mi_X6_here (by decide) (cs_r cs_0) (by decide) dX6_takesSuit_62 rfl ?_
      show Go w f 65 [some (rv w r0)] [.int y62, rv w r0] M60
      refine g_bipush (v := 58) C dX6_takesSuit_65 rfl ?_
      refine g_icmp_ne 74 C dX6_takesSuit_67 (by decide) (fun c64 => ?_) (fun c64 => ?_)
      · replace h := of_iff h c64
        refine g_iconst (v := 0) C dX6_takesSuit_74 rfl ?_
        obtain ⟨M65, e66, h⟩ := of_obb h
        refine g_callV (As := [.int (0 : Int32)]) C (ct_X6_takes C.wf e66) g1 lk_RX6_154 mi_X6_takes (by decide) cs_0 (by decide) dX6_takesSuit_75 rfl ?_
        show Go w f 78 [some (rv w r0)] [] M65
        refine g_aload_n C dX6_takesSuit_78 rfl rfl ?_
        refine g_aload_n C dX6_takesSuit_79 rfl rfl ?_
        obtain ⟨y67, e68, h⟩ := of_obb h
        refine g_callV (As := []) C (ct_X6_here C.wf e68) g1 lk_RX6_151 mi_X6_here (by decide) (cs_r cs_0) (by decide) dX6_takesSuit_80 rfl ?_
        show Go w f 83 [some (rv w r0)] [.int y67, rv w r0] M65
        refine g_bipush (v := 48) C dX6_takesSuit_83 rfl ?_
        refine g_isub C dX6_takesSuit_85 ?_
        refine pf_6_12 C fl_RX6_164 g1 dX6_takesSuit_86 ?_
        obtain ⟨M69, e70, h⟩ := of_bvv h
        refine g_mem e70 ?_
        refine g_aload_n C dX6_takesSuit_89 rfl rfl ?_
        refine g_aload_n C dX6_takesSuit_90 rfl rfl ?_
        refine gf_6_12 C fl_RX6_164 g1 dX6_takesSuit_91 ?_
        refine g_iconst (v := 0) C dX6_takesSuit_94 rfl ?_
        refine g_bipush (v := 9) C dX6_takesSuit_95 rfl ?_
        refine g_callS (As := [.int (gI M69 r0 12), .int (0 : Int32), .int (9 : Int32)]) C (ct_X6_in C.wf rfl) lk_RX6_42 mi_X6_in (by decide) (cs_r cs_0) (by decide) dX6_takesSuit_97 rfl ?_
        show Go w f 100 [some (rv w r0)] [.int (f_X6_in (gI M69 r0 12) (0 : Int32) (9 : Int32)), rv w r0] M69
        obtain ⟨M71, e72, h⟩ := of_obb h
        refine g_callV (As := [.int (f_X6_in (gI M69 r0 12) (0 : Int32) (9 : Int32))]) C (ct_X6_takes C.wf e72) g1 lk_RX6_154 mi_X6_takes (by decide) cs_0 (by decide) dX6_takesSuit_100 rfl ?_
        show Go w f 103 [some (rv w r0)] [] M71
        refine g_aload_n C dX6_takesSuit_103 rfl rfl ?_
        refine gf_6_8 C fl_RX6_141 g1 dX6_takesSuit_104 ?_
        refine g_if_eq 143 C dX6_takesSuit_107 (by decide) (fun c73 => ?_) (fun c73 => ?_)
        · replace h := of_ift h c73
          cases h
          exact hR 143 _ rfl dX6_takesSuit_143
        · replace h := of_iff h c73
          refine g_aload_n C dX6_takesSuit_110 rfl rfl ?_
          refine gf_6_12 C fl_RX6_164 g1 dX6_takesSuit_111 ?_
          refine g_iconst (v := 1) C dX6_takesSuit_114 rfl ?_
          refine g_icmp_ne 143 C dX6_takesSuit_115 (by decide) (fun c74 => ?_) (fun c74 => ?_)
          · replace h := of_iff h c74
            cases h
            exact hR 143 _ rfl dX6_takesSuit_143
          · replace h := of_ift h c74
            refine g_aload_n C dX6_takesSuit_118 rfl rfl ?_
            obtain ⟨y75, e76, h⟩ := of_obb h
            refine g_callV (As := []) C (ct_X6_here C.wf e76) g1 lk_RX6_151 mi_X6_here (by decide) cs_0 (by decide) dX6_takesSuit_119 rfl ?_
            show Go w f 122 [some (rv w r0)] [.int y75] M71
            refine g_bipush (v := 48) C dX6_takesSuit_122 rfl ?_
            refine g_icmp_ne 143 C dX6_takesSuit_124 (by decide) (fun c77 => ?_) (fun c77 => ?_)
            · replace h := of_iff h c77
              cases h
              exact hR 143 _ rfl dX6_takesSuit_143
            · replace h := of_ift h c77
              refine g_aload_n C dX6_takesSuit_127 rfl rfl ?_
              refine g_dup C (rv_cat _ _) dX6_takesSuit_128 ?_
              refine gf_6_7 C fl_RX6_138 g1 dX6_takesSuit_129 ?_
              refine g_iconst (v := 1) C dX6_takesSuit_132 rfl ?_
              refine g_iadd C dX6_takesSuit_133 ?_
              refine pf_6_7 C fl_RX6_138 g1 dX6_takesSuit_134 ?_
              obtain ⟨M78, e79, h⟩ := of_bvv h
              refine g_mem e79 ?_
              refine g_aload_n C dX6_takesSuit_137 rfl rfl ?_
              refine g_bipush (v := 10) C dX6_takesSuit_138 rfl ?_
              refine pf_6_12 C fl_RX6_164 g1 dX6_takesSuit_140 ?_
              obtain ⟨M80, e81, h⟩ := of_bvv h
              refine g_mem e81 ?_
              cases h
              exact hR 143 _ rfl dX6_takesSuit_143
      · replace h := of_ift h c64
        refine g_iconst (v := 1) C dX6_takesSuit_70 rfl ?_
        refine g_goto 75 C dX6_takesSuit_71 (by decide) ?_
        obtain ⟨M82, e83, h⟩ := of_obb h
        refine g_callV (As := [.int (1 : Int32)]) C (ct_X6_takes C.wf e83) g1 lk_RX6_154 mi_X6_takes (by decide) cs_0 (by decide) dX6_takesSuit_75 rfl ?_
        show Go w f 78 [some (rv w r0)] [] M82
        refine g_aload_n C dX6_takesSuit_78 rfl rfl ?_
        refine g_aload_n C dX6_takesSuit_79 rfl rfl ?_
        obtain ⟨y84, e85, h⟩ := of_obb h
        refine g_callV (As := []) C (ct_X6_here C.wf e85) g1 lk_RX6_151 mi_X6_here (by decide) (cs_r cs_0) (by decide) dX6_takesSuit_80 rfl ?_
        show Go w f 83 [some (rv w r0)] [.int y84, rv w r0] M82
        refine g_bipush (v := 48) C dX6_takesSuit_83 rfl ?_
        refine g_isub C dX6_takesSuit_85 ?_
        refine pf_6_12 C fl_RX6_164 g1 dX6_takesSuit_86 ?_
        obtain ⟨M86, e87, h⟩ := of_bvv h
        refine g_mem e87 ?_
        refine g_aload_n C dX6_takesSuit_89 rfl rfl ?_
        refine g_aload_n C dX6_takesSuit_90 rfl rfl ?_
        refine gf_6_12 C fl_RX6_164 g1 dX6_takesSuit_91 ?_
        refine g_iconst (v := 0) C dX6_takesSuit_94 rfl ?_
        refine g_bipush (v := 9) C dX6_takesSuit_95 rfl ?_
        refine g_callS (As := [.int (gI M86 r0 12), .int (0 : Int32), .int (9 : Int32)]) C (ct_X6_in C.wf rfl) lk_RX6_42 mi_X6_in (by decide) (cs_r cs_0) (by decide) dX6_takesSuit_97 rfl ?_
        show Go w f 100 [some (rv w r0)] [.int (f_X6_in (gI M86 r0 12) (0 : Int32) (9 : Int32)), rv w r0] M86
        obtain ⟨M88, e89, h⟩ := of_obb h
        refine g_callV (As := [.int (f_X6_in (gI M86 r0 12) (0 : Int32) (9 : Int32))]) C (ct_X6_takes C.wf e89) g1 lk_RX6_154 mi_X6_takes (by decide) cs_0 (by decide) dX6_takesSuit_100 rfl ?_
        show Go w f 103 [some (rv w r0)] [] M88
        refine g_aload_n C dX6_takesSuit_103 rfl rfl ?_
        refine gf_6_8 C fl_RX6_141 g1 dX6_takesSuit_104 ?_
        refine g_if_eq 143 C dX6_takesSuit_107 (by decide) (fun c90 => ?_) (fun c90 => ?_)
        · replace h := of_ift h c90
          cases h
          exact hR 143 _ rfl dX6_takesSuit_143
        · replace h := of_iff h c90
          refine g_aload_n C dX6_takesSuit_110 rfl rfl ?_
          refine gf_6_12 C fl_RX6_164 g1 dX6_takesSuit_111 ?_
          refine g_iconst (v := 1) C dX6_takesSuit_114 rfl ?_
          refine g_icmp_ne 143 C dX6_takesSuit_115 (by decide) (fun c91 => ?_) (fun c91 => ?_)
          · replace h := of_iff h c91
            cases h
            exact hR 143 _ rfl dX6_takesSuit_143
          · replace h := of_ift h c91
            refine g_aload_n C dX6_takesSuit_118 rfl rfl ?_
            obtain ⟨y92, e93, h⟩ := of_obb h
            refine g_callV (As := []) C (ct_X6_here C.wf e93) g1 lk_RX6_151 mi_X6_here (by decide) cs_0 (by decide) dX6_takesSuit_119 rfl ?_
            show Go w f 122 [some (rv w r0)] [.int y92] M88
            refine g_bipush (v := 48) C dX6_takesSuit_122 rfl ?_
            refine g_icmp_ne 143 C dX6_takesSuit_124 (by decide) (fun c94 => ?_) (fun c94 => ?_)
            · replace h := of_iff h c94
              cases h
              exact hR 143 _ rfl dX6_takesSuit_143
            · replace h := of_ift h c94
              refine g_aload_n C dX6_takesSuit_127 rfl rfl ?_
              refine g_dup C (rv_cat _ _) dX6_takesSuit_128 ?_
              refine gf_6_7 C fl_RX6_138 g1 dX6_takesSuit_129 ?_
              refine g_iconst (v := 1) C dX6_takesSuit_132 rfl ?_
              refine g_iadd C dX6_takesSuit_133 ?_
              refine pf_6_7 C fl_RX6_138 g1 dX6_takesSuit_134 ?_
              obtain ⟨M95, e96, h⟩ := of_bvv h
              refine g_mem e96 ?_
              refine g_aload_n C dX6_takesSuit_137 rfl rfl ?_
              refine g_bipush (v := 10) C dX6_takesSuit_138 rfl ?_
              refine pf_6_12 C fl_RX6_164 g1 dX6_takesSuit_140 ?_
              obtain ⟨M97, e98, h⟩ := of_bvv h
              refine g_mem e98 ?_
              cases h
              exact hR 143 _ rfl dX6_takesSuit_143
    · replace h := of_iff h c55
      refine g_aload_n C dX6_takesSuit_25 rfl rfl ?_
      refine g_dup C (rv_cat _ _) dX6_takesSuit_26 ?_
      refine gf_6_7 C fl_RX6_138 g1 dX6_takesSuit_27 ?_
      refine g_iconst (v := 1) C dX6_takesSuit_30 rfl ?_
      refine g_iadd C dX6_takesSuit_31 ?_
      refine pf_6_7 C fl_RX6_138 g1 dX6_takesSuit_32 ?_
      obtain ⟨M99, e100, h⟩ := of_bvv h
      refine g_mem e100 ?_
      cases h
      exact hR 35 _ rfl dX6_takesSuit_35
def f_X6_areSuits_14 : Nat → Nat → Mem → Option (Int32 × Mem)
  | 0, _, _ => none
  | n + 1, r0, M => gdd (kd r0 = 7) <| if (gI M r0 8) = 0 then (gdd (isb (gI M r0 8) = true) <| some (gI M r0 8, M)) else (if (gI M r0 6) ≤ (gI M r0 7) then (gdd (isb (gI M r0 8) = true) <| some (gI M r0 8, M)) else (obb (f_X6_here r0 M) fun y206 => if y206 = (59 : Int32) then (obb (f_X6_takes r0 (1 : Int32) M) fun M214 => if (gI M214 r0 8) = 0 then ((f_X6_areSuits_14 n) r0 M214) else (obb (f_X6_takesSuit r0 M214) fun M217 => (f_X6_areSuits_14 n) r0 M217)) else (obb (f_X6_takes r0 (0 : Int32) M) fun M209 => if (gI M209 r0 8) = 0 then ((f_X6_areSuits_14 n) r0 M209) else (obb (f_X6_takesSuit r0 M209) fun M212 => (f_X6_areSuits_14 n) r0 M212))))
set_option maxRecDepth 100000 in
set_option maxHeartbeats 4000000 in
theorem t_X6_areSuits_14 {w : Om} {f : Fr} {r : Int32} {M2 : Mem} (C : Cx w f RX6 cX6_areSuits 1 2) (hR : Rt w f cX6_areSuits (some .boolean) (some (.int r)) M2)   : ∀ (n : Nat) (r0 : Nat) (M : Mem), f_X6_areSuits_14 n r0 M = some (r, M2) → Go w f 14 [some (rv w r0)] [] M := by
  intro n
  induction n with
  | zero =>
    intro r0 M h
    cases h
  | succ n ih =>
    intro r0 M h
    rw [f_X6_areSuits_14] at h
    refine g_aload_n C dX6_areSuits_14 rfl rfl ?_
    obtain ⟨g201, h⟩ := of_gdd h
    refine gf_6_8 C fl_RX6_141 g201 dX6_areSuits_15 ?_
    refine g_if_eq 64 C dX6_areSuits_18 (by decide) (fun c202 => ?_) (fun c202 => ?_)
    · replace h := of_ift h c202
      refine g_aload_n C dX6_areSuits_64 rfl rfl ?_
      refine gf_6_8 C fl_RX6_141 g201 dX6_areSuits_65 ?_
      obtain ⟨g203, h⟩ := of_gdd h
      cases h
      exact hR 68 _ ⟨.boolean, rfl, nb_use g203⟩ dX6_areSuits_68
    · replace h := of_iff h c202
      refine g_aload_n C dX6_areSuits_21 rfl rfl ?_
      refine gf_6_7 C fl_RX6_138 g201 dX6_areSuits_22 ?_
      refine g_aload_n C dX6_areSuits_25 rfl rfl ?_
      refine gf_6_6 C fl_RX6_135 g201 dX6_areSuits_26 ?_
      refine g_icmp_ge 64 C dX6_areSuits_29 (by decide) (fun c204 => ?_) (fun c204 => ?_)
      · replace h := of_ift h c204
        refine g_aload_n C dX6_areSuits_64 rfl rfl ?_
        refine gf_6_8 C fl_RX6_141 g201 dX6_areSuits_65 ?_
        obtain ⟨g205, h⟩ := of_gdd h
        cases h
        exact hR 68 _ ⟨.boolean, rfl, nb_use g205⟩ dX6_areSuits_68
      · replace h := of_iff h c204
        refine g_aload_n C dX6_areSuits_32 rfl rfl ?_
        refine g_aload_n C dX6_areSuits_33 rfl rfl ?_
        obtain ⟨y206, e207, h⟩ := of_obb h
        refine g_callV (As := []) C (ct_X6_here C.wf e207) g201 lk_RX6_151 mi_X6_here (by decide) (cs_r cs_0) (by decide) dX6_areSuits_34 rfl ?_
        show Go w f 37 [some (rv w r0)] [.int y206, rv w r0] M
        refine g_bipush (v := 59) C dX6_areSuits_37 rfl ?_
        refine g_icmp_ne 46 C dX6_areSuits_39 (by decide) (fun c208 => ?_) (fun c208 => ?_)
        · replace h := of_iff h c208
          refine g_iconst (v := 0) C dX6_areSuits_46 rfl ?_
          obtain ⟨M209, e210, h⟩ := of_obb h
          refine g_callV (As := [.int (0 : Int32)]) C (ct_X6_takes C.wf e210) g201 lk_RX6_154 mi_X6_takes (by decide) cs_0 (by decide) dX6_areSuits_47 rfl ?_
          show Go w f 50 [some (rv w r0)] [] M209
          refine g_aload_n C dX6_areSuits_50 rfl rfl ?_
          refine gf_6_8 C fl_RX6_141 g201 dX6_areSuits_51 ?_
          refine g_if_eq 14 C dX6_areSuits_54 (by decide) (fun c211 => ?_) (fun c211 => ?_)
          · replace h := of_ift h c211
            exact ih r0 M209 h
          · replace h := of_iff h c211
            refine g_aload_n C dX6_areSuits_57 rfl rfl ?_
            obtain ⟨M212, e213, h⟩ := of_obb h
            refine g_callV (As := []) C (ct_X6_takesSuit C.wf e213) g201 lk_RX6_167 mi_X6_takesSuit (by decide) cs_0 (by decide) dX6_areSuits_58 rfl ?_
            show Go w f 61 [some (rv w r0)] [] M212
            refine g_goto 14 C dX6_areSuits_61 (by decide) ?_
            exact ih r0 M212 h
        · replace h := of_ift h c208
          refine g_iconst (v := 1) C dX6_areSuits_42 rfl ?_
          refine g_goto 47 C dX6_areSuits_43 (by decide) ?_
          obtain ⟨M214, e215, h⟩ := of_obb h
          refine g_callV (As := [.int (1 : Int32)]) C (ct_X6_takes C.wf e215) g201 lk_RX6_154 mi_X6_takes (by decide) cs_0 (by decide) dX6_areSuits_47 rfl ?_
          show Go w f 50 [some (rv w r0)] [] M214
          refine g_aload_n C dX6_areSuits_50 rfl rfl ?_
          refine gf_6_8 C fl_RX6_141 g201 dX6_areSuits_51 ?_
          refine g_if_eq 14 C dX6_areSuits_54 (by decide) (fun c216 => ?_) (fun c216 => ?_)
          · replace h := of_ift h c216
            exact ih r0 M214 h
          · replace h := of_iff h c216
            refine g_aload_n C dX6_areSuits_57 rfl rfl ?_
            obtain ⟨M217, e218, h⟩ := of_obb h
            refine g_callV (As := []) C (ct_X6_takesSuit C.wf e218) g201 lk_RX6_167 mi_X6_takesSuit (by decide) cs_0 (by decide) dX6_areSuits_58 rfl ?_
            show Go w f 61 [some (rv w r0)] [] M217
            refine g_goto 14 C dX6_areSuits_61 (by decide) ?_
            exact ih r0 M217 h
def f_X6_areSuits (r0 : Nat) (M : Mem) : Option (Int32 × Mem) := gdd (kd r0 = 7) <| bvv (sI M r0 7 (0 : Int32)) fun M2 => bvv (sI M2 r0 8 (1 : Int32)) fun M4 => obb (f_X6_takesSuit r0 M4) fun M6 => f_X6_areSuits_14 FU r0 M6
set_option maxRecDepth 100000 in
set_option maxHeartbeats 4000000 in
theorem ct_X6_areSuits {l : Launch} {w : Om} (hw : Wf w) {r0 : Nat} {M : Mem} {r : Int32} {M2 : Mem} (h : f_X6_areSuits r0 M = some (r, M2)) : Ct l w yX6_areSuits cX6_areSuits 1 (some .boolean) 2 [rv w r0] M (some (.int r)) M2 := by
  refine ct_of hw (by decide) (cat_s (rv_cat _ _) cat_0) (Nat.le_of_ble_eq_true rfl) (fun f _ C hR => ?_)
  show Go w f 0 [some (rv w r0)] [] M
  unfold f_X6_areSuits at h
  refine g_aload_n C dX6_areSuits_0 rfl rfl ?_
  refine g_iconst (v := 0) C dX6_areSuits_1 rfl ?_
  obtain ⟨g1, h⟩ := of_gdd h
  refine pf_6_7 C fl_RX6_138 g1 dX6_areSuits_2 ?_
  obtain ⟨M2, e3, h⟩ := of_bvv h
  refine g_mem e3 ?_
  refine g_aload_n C dX6_areSuits_5 rfl rfl ?_
  refine g_iconst (v := 1) C dX6_areSuits_6 rfl ?_
  refine pf_6_8 C fl_RX6_141 g1 (isb_1) dX6_areSuits_7 ?_
  obtain ⟨M4, e5, h⟩ := of_bvv h
  refine g_mem e5 ?_
  refine g_aload_n C dX6_areSuits_10 rfl rfl ?_
  obtain ⟨M6, e7, h⟩ := of_obb h
  refine g_callV (As := []) C (ct_X6_takesSuit C.wf e7) g1 lk_RX6_167 mi_X6_takesSuit (by decide) cs_0 (by decide) dX6_areSuits_11 rfl ?_
  show Go w f 14 [some (rv w r0)] [] M6
  exact t_X6_areSuits_14 C hR _ r0 M6 h
def f_X6_fault (r0 : Nat) (x1 : Int32) (M : Mem) : Option (Int32 × Mem) := if (f_X6_in x1 (0 : Int32) (1 : Int32)) = 0 then (some ((-1 : Int32), M)) else (if x1 = 0 then (gdd (kd r0 = 7) <| opp (f_X6_isWords r0 M) fun y11 M9 => if y11 = 0 then (some (gI M9 r0 7, M9)) else (some ((-4 : Int32), M9))) else (gdd (kd r0 = 7) <| opp (f_X6_areSuits r0 M) fun y6 M4 => if y6 = 0 then (some (gI M4 r0 7, M4)) else (some ((-4 : Int32), M4))))
set_option maxRecDepth 100000 in
set_option maxHeartbeats 4000000 in
theorem ct_X6_fault {l : Launch} {w : Om} (hw : Wf w) {r0 : Nat} {x1 : Int32} {M : Mem} {r : Int32} {M2 : Mem} (h : f_X6_fault r0 x1 M = some (r, M2)) : Ct l w yX6_fault cX6_fault 2 (some .int) 3 [rv w r0, .int x1] M (some (.int r)) M2 := by
  refine ct_of hw (by decide) (cat_s (rv_cat _ _) (cat_s rfl cat_0)) (Nat.le_of_ble_eq_true rfl) (fun f _ C hR => ?_)
  show Go w f 0 [some (rv w r0), some (.int x1)] [] M
  unfold f_X6_fault at h
  refine g_iload_n C dX6_fault_0 rfl rfl ?_
  refine g_iconst (v := 0) C dX6_fault_1 rfl ?_
  refine g_iconst (v := 1) C dX6_fault_2 rfl ?_
  refine g_callS (As := [.int x1, .int (0 : Int32), .int (1 : Int32)]) C (ct_X6_in C.wf rfl) lk_RX6_42 mi_X6_in (by decide) cs_0 (by decide) dX6_fault_3 rfl ?_
  show Go w f 6 [some (rv w r0), some (.int x1)] [.int (f_X6_in x1 (0 : Int32) (1 : Int32))] M
  refine g_if_ne 11 C dX6_fault_6 (by decide) (fun c1 => ?_) (fun c1 => ?_)
  · replace h := of_iff h c1
    refine g_iload_n C dX6_fault_11 rfl rfl ?_
    refine g_if_ne 25 C dX6_fault_12 (by decide) (fun c2 => ?_) (fun c2 => ?_)
    · replace h := of_iff h c2
      refine g_aload_n C dX6_fault_25 rfl rfl ?_
      obtain ⟨g3, h⟩ := of_gdd h
      obtain ⟨y6, M4, e5, h⟩ := of_opp h
      refine g_callV (As := []) C (ct_X6_areSuits C.wf e5) g3 lk_RX6_174 mi_X6_areSuits (by decide) cs_0 (by decide) dX6_fault_26 rfl ?_
      show Go w f 29 [some (rv w r0), some (.int x1)] [.int y6] M4
      refine g_if_eq 37 C dX6_fault_29 (by decide) (fun c7 => ?_) (fun c7 => ?_)
      · replace h := of_ift h c7
        refine g_aload_n C dX6_fault_37 rfl rfl ?_
        refine gf_6_7 C fl_RX6_138 g3 dX6_fault_38 ?_
        cases h
        exact hR 41 _ ⟨.int, rfl, rfl⟩ dX6_fault_41
      · replace h := of_iff h c7
        refine g_bipush (v := -4) C dX6_fault_32 rfl ?_
        refine g_goto 41 C dX6_fault_34 (by decide) ?_
        cases h
        exact hR 41 _ ⟨.int, rfl, rfl⟩ dX6_fault_41
    · replace h := of_ift h c2
      refine g_aload_n C dX6_fault_15 rfl rfl ?_
      obtain ⟨g8, h⟩ := of_gdd h
      obtain ⟨y11, M9, e10, h⟩ := of_opp h
      refine g_callV (As := []) C (ct_X6_isWords C.wf e10) g8 lk_RX6_170 mi_X6_isWords (by decide) cs_0 (by decide) dX6_fault_16 rfl ?_
      show Go w f 19 [some (rv w r0), some (.int x1)] [.int y11] M9
      refine g_if_eq 37 C dX6_fault_19 (by decide) (fun c12 => ?_) (fun c12 => ?_)
      · replace h := of_ift h c12
        refine g_aload_n C dX6_fault_37 rfl rfl ?_
        refine gf_6_7 C fl_RX6_138 g8 dX6_fault_38 ?_
        cases h
        exact hR 41 _ ⟨.int, rfl, rfl⟩ dX6_fault_41
      · replace h := of_iff h c12
        refine g_goto 32 C dX6_fault_22 (by decide) ?_
        refine g_bipush (v := -4) C dX6_fault_32 rfl ?_
        refine g_goto 41 C dX6_fault_34 (by decide) ?_
        cases h
        exact hR 41 _ ⟨.int, rfl, rfl⟩ dX6_fault_41
  · replace h := of_ift h c1
    refine g_iconst (v := -1) C dX6_fault_9 rfl ?_
    cases h
    exact hR 10 _ ⟨.int, rfl, rfl⟩ dX6_fault_10
def f_X6_isPrinted_52 (M : Mem) (k4 : Nat → Int32 → Int32 → Option Int32) : Nat → Nat → Int32 → Int32 → Int32 → Int32 → Int32 → Option Int32
  | 0, _, _, _, _, _, _ => none
  | n + 1, r0, x1, x2, x3, x4, x5 => gdd (kd r0 = 7) <| if (gI M r0 6) ≤ x5 then (if x1 = 0 then (if x3 = 0 then (bvv (x2 + (1 : Int32)) fun y307 => k4 r0 (0 : Int32) y307) else (bvv (x2 + (1 : Int32)) fun y309 => k4 r0 (1 : Int32) y309)) else (bvv (x2 + (1 : Int32)) fun y304 => k4 r0 (1 : Int32) y304)) else (if x3 = 0 then (gdd (kd (fld r0 5) = 8) <| gdd (inb x5 (ln (fld r0 5)) = true) <| if (gI M (fld r0 5) (x5).toNatClampNeg) = (44 : Int32) then (bvv (x4 + (0 : Int32)) fun y319 => bvv (x5 + (1 : Int32)) fun y321 => (f_X6_isPrinted_52 M k4 n) r0 x1 x2 (0 : Int32) y319 y321) else (bvv (x4 + (1 : Int32)) fun y315 => bvv (x5 + (1 : Int32)) fun y317 => (f_X6_isPrinted_52 M k4 n) r0 x1 x2 (0 : Int32) y315 y317)) else (gdd (kd (fld r0 5) = 8) <| gdd (inb x5 (ln (fld r0 5)) = true) <| if (gI M (fld r0 5) (x5).toNatClampNeg) = (44 : Int32) then (if (gI M (fld r0 5) (x5).toNatClampNeg) = (44 : Int32) then (bvv (x4 + (0 : Int32)) fun y331 => bvv (x5 + (1 : Int32)) fun y333 => (f_X6_isPrinted_52 M k4 n) r0 x1 x2 (1 : Int32) y331 y333) else (bvv (x4 + (1 : Int32)) fun y327 => bvv (x5 + (1 : Int32)) fun y329 => (f_X6_isPrinted_52 M k4 n) r0 x1 x2 (1 : Int32) y327 y329)) else (obb (f_X6_wordOf r0 x2 x4 M) fun y335 => if y335 = ((gI M (fld r0 5) (x5).toNatClampNeg) - (97 : Int32)) then (if (gI M (fld r0 5) (x5).toNatClampNeg) = (44 : Int32) then (bvv (x4 + (0 : Int32)) fun y352 => bvv (x5 + (1 : Int32)) fun y354 => (f_X6_isPrinted_52 M k4 n) r0 x1 x2 (1 : Int32) y352 y354) else (bvv (x4 + (1 : Int32)) fun y348 => bvv (x5 + (1 : Int32)) fun y350 => (f_X6_isPrinted_52 M k4 n) r0 x1 x2 (1 : Int32) y348 y350)) else (if (gI M (fld r0 5) (x5).toNatClampNeg) = (44 : Int32) then (bvv (x4 + (0 : Int32)) fun y343 => bvv (x5 + (1 : Int32)) fun y345 => (f_X6_isPrinted_52 M k4 n) r0 x1 x2 (0 : Int32) y343 y345) else (bvv (x4 + (1 : Int32)) fun y339 => bvv (x5 + (1 : Int32)) fun y341 => (f_X6_isPrinted_52 M k4 n) r0 x1 x2 (0 : Int32) y339 y341)))))
set_option maxRecDepth 100000 in
set_option maxHeartbeats 4000000 in
theorem t_X6_isPrinted_52 {w : Om} {f : Fr} {M : Mem} {r : Int32} (C : Cx w f RX6 cX6_isPrinted 6 2) (hR : Rt w f cX6_isPrinted (some .boolean) (some (.int r)) M) {k4 : Nat → Int32 → Int32 → Option Int32} (hk4 : ∀ (r0' : Nat) (x1' : Int32) (x2' : Int32), k4 r0' x1' x2' = some r → Go w f 4 [some (rv w r0'), some (.int x1'), some (.int x2'), none, none, none] [] M) : ∀ (n : Nat) (r0 : Nat) (x1 : Int32) (x2 : Int32) (x3 : Int32) (x4 : Int32) (x5 : Int32), f_X6_isPrinted_52 M k4 n r0 x1 x2 x3 x4 x5 = some r → Go w f 52 [some (rv w r0), some (.int x1), some (.int x2), some (.int x3), some (.int x4), some (.int x5)] [] M := by
  intro n
  induction n with
  | zero =>
    intro r0 x1 x2 x3 x4 x5 h
    cases h
  | succ n ih =>
    intro r0 x1 x2 x3 x4 x5 h
    rw [f_X6_isPrinted_52] at h
    refine g_iload C dX6_isPrinted_52 rfl ?_
    refine g_aload_n C dX6_isPrinted_54 rfl rfl ?_
    obtain ⟨g301, h⟩ := of_gdd h
    refine gf_6_6 C fl_RX6_135 g301 dX6_isPrinted_55 ?_
    refine g_icmp_ge 131 C dX6_isPrinted_58 (by decide) (fun c302 => ?_) (fun c302 => ?_)
    · replace h := of_ift h c302
      refine g_iload_n C dX6_isPrinted_131 rfl rfl ?_
      refine g_if_ne 139 C dX6_isPrinted_132 (by decide) (fun c303 => ?_) (fun c303 => ?_)
      · replace h := of_iff h c303
        refine g_iconst (v := 1) C dX6_isPrinted_139 rfl ?_
        refine g_goto 144 C dX6_isPrinted_140 (by decide) ?_
        refine g_istore_n C dX6_isPrinted_144 rfl (by decide) (rv_cat _ _) (L2 := [some (rv w r0), some (.int (1 : Int32)), some (.int x2), some (.int x3), some (.int x4), some (.int x5)]) rfl ?_
        obtain ⟨y304, e305, h⟩ := of_bvv h
        refine g_iinc (v := y304) C dX6_isPrinted_145 rfl e305.symm (by decide) rfl (L2 := [some (rv w r0), some (.int (1 : Int32)), some (.int y304), some (.int x3), some (.int x4), some (.int x5)]) rfl ?_
        refine g_goto 4 C dX6_isPrinted_148 (by decide) ?_
        refine g_mask (bs := [true, true, true, false, false, false]) (L2 := [some (rv w r0), some (.int (1 : Int32)), some (.int y304), none, none, none]) rfl ?_
        exact hk4 r0 (1 : Int32) y304 h
      · replace h := of_ift h c303
        refine g_iload_n C dX6_isPrinted_135 rfl rfl ?_
        refine g_if_eq 143 C dX6_isPrinted_136 (by decide) (fun c306 => ?_) (fun c306 => ?_)
        · replace h := of_ift h c306
          refine g_iconst (v := 0) C dX6_isPrinted_143 rfl ?_
          refine g_istore_n C dX6_isPrinted_144 rfl (by decide) (rv_cat _ _) (L2 := [some (rv w r0), some (.int (0 : Int32)), some (.int x2), some (.int x3), some (.int x4), some (.int x5)]) rfl ?_
          obtain ⟨y307, e308, h⟩ := of_bvv h
          refine g_iinc (v := y307) C dX6_isPrinted_145 rfl e308.symm (by decide) rfl (L2 := [some (rv w r0), some (.int (0 : Int32)), some (.int y307), some (.int x3), some (.int x4), some (.int x5)]) rfl ?_
          refine g_goto 4 C dX6_isPrinted_148 (by decide) ?_
          refine g_mask (bs := [true, true, true, false, false, false]) (L2 := [some (rv w r0), some (.int (0 : Int32)), some (.int y307), none, none, none]) rfl ?_
          exact hk4 r0 (0 : Int32) y307 h
        · replace h := of_iff h c306
          refine g_iconst (v := 1) C dX6_isPrinted_139 rfl ?_
          refine g_goto 144 C dX6_isPrinted_140 (by decide) ?_
          refine g_istore_n C dX6_isPrinted_144 rfl (by decide) (rv_cat _ _) (L2 := [some (rv w r0), some (.int (1 : Int32)), some (.int x2), some (.int x3), some (.int x4), some (.int x5)]) rfl ?_
          obtain ⟨y309, e310, h⟩ := of_bvv h
          refine g_iinc (v := y309) C dX6_isPrinted_145 rfl e310.symm (by decide) rfl (L2 := [some (rv w r0), some (.int (1 : Int32)), some (.int y309), some (.int x3), some (.int x4), some (.int x5)]) rfl ?_
          refine g_goto 4 C dX6_isPrinted_148 (by decide) ?_
          refine g_mask (bs := [true, true, true, false, false, false]) (L2 := [some (rv w r0), some (.int (1 : Int32)), some (.int y309), none, none, none]) rfl ?_
          exact hk4 r0 (1 : Int32) y309 h
    · replace h := of_iff h c302
      refine g_iload_n C dX6_isPrinted_61 rfl rfl ?_
      refine g_if_eq 101 C dX6_isPrinted_62 (by decide) (fun c311 => ?_) (fun c311 => ?_)
      · replace h := of_ift h c311
        refine g_iconst (v := 0) C dX6_isPrinted_101 rfl ?_
        refine g_istore_n C dX6_isPrinted_102 rfl (by decide) rfl (L2 := [some (rv w r0), some (.int x1), some (.int x2), some (.int (0 : Int32)), some (.int x4), some (.int x5)]) rfl ?_
        refine g_iload C dX6_isPrinted_103 rfl ?_
        refine g_aload_n C dX6_isPrinted_105 rfl rfl ?_
        refine gf_6_5 C fl_RX6_19 g301 dX6_isPrinted_106 ?_
        refine g_iload C dX6_isPrinted_109 rfl ?_
        obtain ⟨g312, h⟩ := of_gdd h
        obtain ⟨g313, h⟩ := of_gdd h
        refine g_iald C g312 g313 dX6_isPrinted_111 ?_
        refine g_bipush (v := 44) C dX6_isPrinted_112 rfl ?_
        refine g_icmp_ne 121 C dX6_isPrinted_114 (by decide) (fun c314 => ?_) (fun c314 => ?_)
        · replace h := of_iff h c314
          refine g_iconst (v := 1) C dX6_isPrinted_121 rfl ?_
          refine g_iadd C dX6_isPrinted_122 ?_
          obtain ⟨y315, e316, h⟩ := of_bvv h
          refine g_topi e316 ?_
          refine g_istore C dX6_isPrinted_123 (by decide) rfl (L2 := [some (rv w r0), some (.int x1), some (.int x2), some (.int (0 : Int32)), some (.int y315), some (.int x5)]) rfl ?_
          obtain ⟨y317, e318, h⟩ := of_bvv h
          refine g_iinc (v := y317) C dX6_isPrinted_125 rfl e318.symm (by decide) rfl (L2 := [some (rv w r0), some (.int x1), some (.int x2), some (.int (0 : Int32)), some (.int y315), some (.int y317)]) rfl ?_
          refine g_goto 52 C dX6_isPrinted_128 (by decide) ?_
          exact ih r0 x1 x2 (0 : Int32) y315 y317 h
        · replace h := of_ift h c314
          refine g_iconst (v := 0) C dX6_isPrinted_117 rfl ?_
          refine g_goto 122 C dX6_isPrinted_118 (by decide) ?_
          refine g_iadd C dX6_isPrinted_122 ?_
          obtain ⟨y319, e320, h⟩ := of_bvv h
          refine g_topi e320 ?_
          refine g_istore C dX6_isPrinted_123 (by decide) rfl (L2 := [some (rv w r0), some (.int x1), some (.int x2), some (.int (0 : Int32)), some (.int y319), some (.int x5)]) rfl ?_
          obtain ⟨y321, e322, h⟩ := of_bvv h
          refine g_iinc (v := y321) C dX6_isPrinted_125 rfl e322.symm (by decide) rfl (L2 := [some (rv w r0), some (.int x1), some (.int x2), some (.int (0 : Int32)), some (.int y319), some (.int y321)]) rfl ?_
          refine g_goto 52 C dX6_isPrinted_128 (by decide) ?_
          exact ih r0 x1 x2 (0 : Int32) y319 y321 h
      · replace h := of_iff h c311
        refine g_aload_n C dX6_isPrinted_65 rfl rfl ?_
        refine gf_6_5 C fl_RX6_19 g301 dX6_isPrinted_66 ?_
        refine g_iload C dX6_isPrinted_69 rfl ?_
        obtain ⟨g323, h⟩ := of_gdd h
        obtain ⟨g324, h⟩ := of_gdd h
        refine g_iald C g323 g324 dX6_isPrinted_71 ?_
        refine g_bipush (v := 44) C dX6_isPrinted_72 rfl ?_
        refine g_icmp_eq 97 C dX6_isPrinted_74 (by decide) (fun c325 => ?_) (fun c325 => ?_)
        · replace h := of_ift h c325
          refine g_iconst (v := 1) C dX6_isPrinted_97 rfl ?_
          refine g_goto 102 C dX6_isPrinted_98 (by decide) ?_
          refine g_istore_n C dX6_isPrinted_102 rfl (by decide) rfl (L2 := [some (rv w r0), some (.int x1), some (.int x2), some (.int (1 : Int32)), some (.int x4), some (.int x5)]) rfl ?_
          refine g_iload C dX6_isPrinted_103 rfl ?_
          refine g_aload_n C dX6_isPrinted_105 rfl rfl ?_
          refine gf_6_5 C fl_RX6_19 g301 dX6_isPrinted_106 ?_
          refine g_iload C dX6_isPrinted_109 rfl ?_
          refine g_iald C g323 g324 dX6_isPrinted_111 ?_
          refine g_bipush (v := 44) C dX6_isPrinted_112 rfl ?_
          refine g_icmp_ne 121 C dX6_isPrinted_114 (by decide) (fun c326 => ?_) (fun c326 => ?_)
          · replace h := of_iff h c326
            refine g_iconst (v := 1) C dX6_isPrinted_121 rfl ?_
            refine g_iadd C dX6_isPrinted_122 ?_
            obtain ⟨y327, e328, h⟩ := of_bvv h
            refine g_topi e328 ?_
            refine g_istore C dX6_isPrinted_123 (by decide) rfl (L2 := [some (rv w r0), some (.int x1), some (.int x2), some (.int (1 : Int32)), some (.int y327), some (.int x5)]) rfl ?_
            obtain ⟨y329, e330, h⟩ := of_bvv h
            refine g_iinc (v := y329) C dX6_isPrinted_125 rfl e330.symm (by decide) rfl (L2 := [some (rv w r0), some (.int x1), some (.int x2), some (.int (1 : Int32)), some (.int y327), some (.int y329)]) rfl ?_
            refine g_goto 52 C dX6_isPrinted_128 (by decide) ?_
            exact ih r0 x1 x2 (1 : Int32) y327 y329 h
          · replace h := of_ift h c326
            refine g_iconst (v := 0) C dX6_isPrinted_117 rfl ?_
            refine g_goto 122 C dX6_isPrinted_118 (by decide) ?_
            refine g_iadd C dX6_isPrinted_122 ?_
            obtain ⟨y331, e332, h⟩ := of_bvv h
            refine g_topi e332 ?_
            refine g_istore C dX6_isPrinted_123 (by decide) rfl (L2 := [some (rv w r0), some (.int x1), some (.int x2), some (.int (1 : Int32)), some (.int y331), some (.int x5)]) rfl ?_
            obtain ⟨y333, e334, h⟩ := of_bvv h
            refine g_iinc (v := y333) C dX6_isPrinted_125 rfl e334.symm (by decide) rfl (L2 := [some (rv w r0), some (.int x1), some (.int x2), some (.int (1 : Int32)), some (.int y331), some (.int y333)]) rfl ?_
            refine g_goto 52 C dX6_isPrinted_128 (by decide) ?_
            exact ih r0 x1 x2 (1 : Int32) y331 y333 h
        · replace h := of_iff h c325
          refine g_aload_n C dX6_isPrinted_77 rfl rfl ?_
          refine g_iload_n C dX6_isPrinted_78 rfl rfl ?_
          refine g_iload C dX6_isPrinted_79 rfl ?_
          obtain ⟨y335, e336, h⟩ := of_obb h
          refine g_callV (As := [.int x2, .int x4]) C (ct_X6_wordOf C.wf e336) g301 lk_RX6_63 mi_X6_wordOf (by decide) cs_0 (by decide) dX6_isPrinted_81 rfl ?_
          show Go w f 84 [some (rv w r0), some (.int x1), some (.int x2), some (.int x3), some (.int x4), some (.int x5)] [.int y335] M
          refine g_aload_n C dX6_isPrinted_84 rfl rfl ?_
          refine gf_6_5 C fl_RX6_19 g301 dX6_isPrinted_85 ?_
          refine g_iload C dX6_isPrinted_88 rfl ?_
          refine g_iald C g323 g324 dX6_isPrinted_90 ?_
          refine g_bipush (v := 97) C dX6_isPrinted_91 rfl ?_
          refine g_isub C dX6_isPrinted_93 ?_
          refine g_icmp_ne 101 C dX6_isPrinted_94 (by decide) (fun c337 => ?_) (fun c337 => ?_)
          · replace h := of_iff h c337
            refine g_iconst (v := 0) C dX6_isPrinted_101 rfl ?_
            refine g_istore_n C dX6_isPrinted_102 rfl (by decide) rfl (L2 := [some (rv w r0), some (.int x1), some (.int x2), some (.int (0 : Int32)), some (.int x4), some (.int x5)]) rfl ?_
            refine g_iload C dX6_isPrinted_103 rfl ?_
            refine g_aload_n C dX6_isPrinted_105 rfl rfl ?_
            refine gf_6_5 C fl_RX6_19 g301 dX6_isPrinted_106 ?_
            refine g_iload C dX6_isPrinted_109 rfl ?_
            refine g_iald C g323 g324 dX6_isPrinted_111 ?_
            refine g_bipush (v := 44) C dX6_isPrinted_112 rfl ?_
            refine g_icmp_ne 121 C dX6_isPrinted_114 (by decide) (fun c338 => ?_) (fun c338 => ?_)
            · replace h := of_iff h c338
              refine g_iconst (v := 1) C dX6_isPrinted_121 rfl ?_
              refine g_iadd C dX6_isPrinted_122 ?_
              obtain ⟨y339, e340, h⟩ := of_bvv h
              refine g_topi e340 ?_
              refine g_istore C dX6_isPrinted_123 (by decide) rfl (L2 := [some (rv w r0), some (.int x1), some (.int x2), some (.int (0 : Int32)), some (.int y339), some (.int x5)]) rfl ?_
              obtain ⟨y341, e342, h⟩ := of_bvv h
              refine g_iinc (v := y341) C dX6_isPrinted_125 rfl e342.symm (by decide) rfl (L2 := [some (rv w r0), some (.int x1), some (.int x2), some (.int (0 : Int32)), some (.int y339), some (.int y341)]) rfl ?_
              refine g_goto 52 C dX6_isPrinted_128 (by decide) ?_
              exact ih r0 x1 x2 (0 : Int32) y339 y341 h
            · replace h := of_ift h c338
              refine g_iconst (v := 0) C dX6_isPrinted_117 rfl ?_
              refine g_goto 122 C dX6_isPrinted_118 (by decide) ?_
              refine g_iadd C dX6_isPrinted_122 ?_
              obtain ⟨y343, e344, h⟩ := of_bvv h
              refine g_topi e344 ?_
              refine g_istore C dX6_isPrinted_123 (by decide) rfl (L2 := [some (rv w r0), some (.int x1), some (.int x2), some (.int (0 : Int32)), some (.int y343), some (.int x5)]) rfl ?_
              obtain ⟨y345, e346, h⟩ := of_bvv h
              refine g_iinc (v := y345) C dX6_isPrinted_125 rfl e346.symm (by decide) rfl (L2 := [some (rv w r0), some (.int x1), some (.int x2), some (.int (0 : Int32)), some (.int y343), some (.int y345)]) rfl ?_
              refine g_goto 52 C dX6_isPrinted_128 (by decide) ?_
              exact ih r0 x1 x2 (0 : Int32) y343 y345 h
          · replace h := of_ift h c337
            refine g_iconst (v := 1) C dX6_isPrinted_97 rfl ?_
            refine g_goto 102 C dX6_isPrinted_98 (by decide) ?_
            refine g_istore_n C dX6_isPrinted_102 rfl (by decide) rfl (L2 := [some (rv w r0), some (.int x1), some (.int x2), some (.int (1 : Int32)), some (.int x4), some (.int x5)]) rfl ?_
            refine g_iload C dX6_isPrinted_103 rfl ?_
            refine g_aload_n C dX6_isPrinted_105 rfl rfl ?_
            refine gf_6_5 C fl_RX6_19 g301 dX6_isPrinted_106 ?_
            refine g_iload C dX6_isPrinted_109 rfl ?_
            refine g_iald C g323 g324 dX6_isPrinted_111 ?_
            refine g_bipush (v := 44) C dX6_isPrinted_112 rfl ?_
            refine g_icmp_ne 121 C dX6_isPrinted_114 (by decide) (fun c347 => ?_) (fun c347 => ?_)
            · replace h := of_iff h c347
              refine g_iconst (v := 1) C dX6_isPrinted_121 rfl ?_
              refine g_iadd C dX6_isPrinted_122 ?_
              obtain ⟨y348, e349, h⟩ := of_bvv h
              refine g_topi e349 ?_
              refine g_istore C dX6_isPrinted_123 (by decide) rfl (L2 := [some (rv w r0), some (.int x1), some (.int x2), some (.int (1 : Int32)), some (.int y348), some (.int x5)]) rfl ?_
              obtain ⟨y350, e351, h⟩ := of_bvv h
              refine g_iinc (v := y350) C dX6_isPrinted_125 rfl e351.symm (by decide) rfl (L2 := [some (rv w r0), some (.int x1), some (.int x2), some (.int (1 : Int32)), some (.int y348), some (.int y350)]) rfl ?_
              refine g_goto 52 C dX6_isPrinted_128 (by decide) ?_
              exact ih r0 x1 x2 (1 : Int32) y348 y350 h
            · replace h := of_ift h c347
              refine g_iconst (v := 0) C dX6_isPrinted_117 rfl ?_
              refine g_goto 122 C dX6_isPrinted_118 (by decide) ?_
              refine g_iadd C dX6_isPrinted_122 ?_
              obtain ⟨y352, e353, h⟩ := of_bvv h
              refine g_topi e353 ?_
              refine g_istore C dX6_isPrinted_123 (by decide) rfl (L2 := [some (rv w r0), some (.int x1), some (.int x2), some (.int (1 : Int32)), some (.int y352), some (.int x5)]) rfl ?_
              obtain ⟨y354, e355, h⟩ := of_bvv h
              refine g_iinc (v := y354) C dX6_isPrinted_125 rfl e355.symm (by decide) rfl (L2 := [some (rv w r0), some (.int x1), some (.int x2), some (.int (1 : Int32)), some (.int y352), some (.int y354)]) rfl ?_
              refine g_goto 52 C dX6_isPrinted_128 (by decide) ?_
              exact ih r0 x1 x2 (1 : Int32) y352 y354 h
def f_X6_isPrinted_4 (M : Mem) : Nat → Nat → Int32 → Int32 → Option Int32
  | 0, _, _, _ => none
  | n + 1, r0, x1, x2 => gdd (kd r0 = 7) <| gdd (kd (fld r0 0) = 8) <| gdd (inb (3 : Int32) (ln (fld r0 0)) = true) <| if (gI M (fld r0 0) ((3 : Int32)).toNatClampNeg) ≤ x2 then (gdd (isb x1 = true) <| some x1) else (obb (f_X6_of r0 x2 (0 : Int32) M) fun y206 => if y206 = (gI M r0 9) then (obb (f_X6_of r0 x2 (1 : Int32) M) fun y209 => if y209 = (gI M r0 10) then (f_X6_isPrinted_52 M (f_X6_isPrinted_4 M n) FU r0 x1 x2 (1 : Int32) (0 : Int32) (0 : Int32)) else (f_X6_isPrinted_52 M (f_X6_isPrinted_4 M n) FU r0 x1 x2 (0 : Int32) (0 : Int32) (0 : Int32))) else (f_X6_isPrinted_52 M (f_X6_isPrinted_4 M n) FU r0 x1 x2 (0 : Int32) (0 : Int32) (0 : Int32)))
set_option maxRecDepth 100000 in
set_option maxHeartbeats 4000000 in
theorem t_X6_isPrinted_4 {w : Om} {f : Fr} {M : Mem} {r : Int32} (C : Cx w f RX6 cX6_isPrinted 6 2) (hR : Rt w f cX6_isPrinted (some .boolean) (some (.int r)) M)   : ∀ (n : Nat) (r0 : Nat) (x1 : Int32) (x2 : Int32), f_X6_isPrinted_4 M n r0 x1 x2 = some r → Go w f 4 [some (rv w r0), some (.int x1), some (.int x2), none, none, none] [] M := by
  intro n
  induction n with
  | zero =>
    intro r0 x1 x2 h
    cases h
  | succ n ih =>
    intro r0 x1 x2 h
    rw [f_X6_isPrinted_4] at h
    refine g_iload_n C dX6_isPrinted_4 rfl rfl ?_
    refine g_aload_n C dX6_isPrinted_5 rfl rfl ?_
    obtain ⟨g201, h⟩ := of_gdd h
    refine gf_6_0 C fl_RX6_7 g201 dX6_isPrinted_6 ?_
    refine g_iconst (v := 3) C dX6_isPrinted_9 rfl ?_
    obtain ⟨g202, h⟩ := of_gdd h
    obtain ⟨g203, h⟩ := of_gdd h
    refine g_iald C g202 g203 dX6_isPrinted_10 ?_
    refine g_icmp_ge 151 C dX6_isPrinted_11 (by decide) (fun c204 => ?_) (fun c204 => ?_)
    · replace h := of_ift h c204
      refine g_iload_n C dX6_isPrinted_151 rfl rfl ?_
      obtain ⟨g205, h⟩ := of_gdd h
      cases h
      exact hR 152 _ ⟨.boolean, rfl, nb_use g205⟩ dX6_isPrinted_152
    · replace h := of_iff h c204
      refine g_aload_n C dX6_isPrinted_14 rfl rfl ?_
      refine g_iload_n C dX6_isPrinted_15 rfl rfl ?_
      refine g_iconst (v := 0) C dX6_isPrinted_16 rfl ?_
      obtain ⟨y206, e207, h⟩ := of_obb h
      refine g_callV (As := [.int x2, .int (0 : Int32)]) C (ct_X6_of C.wf e207) g201 lk_RX6_60 mi_X6_of (by decide) cs_0 (by decide) dX6_isPrinted_17 rfl ?_
      show Go w f 20 [some (rv w r0), some (.int x1), some (.int x2), none, none, none] [.int y206] M
      refine g_aload_n C dX6_isPrinted_20 rfl rfl ?_
      refine gf_6_9 C fl_RX6_145 g201 dX6_isPrinted_21 ?_
      refine g_icmp_ne 44 C dX6_isPrinted_24 (by decide) (fun c208 => ?_) (fun c208 => ?_)
      · replace h := of_iff h c208
        refine g_iconst (v := 0) C dX6_isPrinted_44 rfl ?_
        refine g_istore_n C dX6_isPrinted_45 rfl (by decide) rfl (L2 := [some (rv w r0), some (.int x1), some (.int x2), some (.int (0 : Int32)), none, none]) rfl ?_
        refine g_iconst (v := 0) C dX6_isPrinted_46 rfl ?_
        refine g_istore C dX6_isPrinted_47 (by decide) rfl (L2 := [some (rv w r0), some (.int x1), some (.int x2), some (.int (0 : Int32)), some (.int (0 : Int32)), none]) rfl ?_
        refine g_iconst (v := 0) C dX6_isPrinted_49 rfl ?_
        refine g_istore C dX6_isPrinted_50 (by decide) rfl (L2 := [some (rv w r0), some (.int x1), some (.int x2), some (.int (0 : Int32)), some (.int (0 : Int32)), some (.int (0 : Int32))]) rfl ?_
        exact t_X6_isPrinted_52 C hR (fun r0' x1' x2' h => ih r0' x1' x2' h) _ r0 x1 x2 (0 : Int32) (0 : Int32) (0 : Int32) h
      · replace h := of_ift h c208
        refine g_aload_n C dX6_isPrinted_27 rfl rfl ?_
        refine g_iload_n C dX6_isPrinted_28 rfl rfl ?_
        refine g_iconst (v := 1) C dX6_isPrinted_29 rfl ?_
        obtain ⟨y209, e210, h⟩ := of_obb h
        refine g_callV (As := [.int x2, .int (1 : Int32)]) C (ct_X6_of C.wf e210) g201 lk_RX6_60 mi_X6_of (by decide) cs_0 (by decide) dX6_isPrinted_30 rfl ?_
        show Go w f 33 [some (rv w r0), some (.int x1), some (.int x2), none, none, none] [.int y209] M
        refine g_aload_n C dX6_isPrinted_33 rfl rfl ?_
        refine gf_6_10 C fl_RX6_148 g201 dX6_isPrinted_34 ?_
        refine g_icmp_ne 44 C dX6_isPrinted_37 (by decide) (fun c211 => ?_) (fun c211 => ?_)
        · replace h := of_iff h c211
          refine g_iconst (v := 0) C dX6_isPrinted_44 rfl ?_
          refine g_istore_n C dX6_isPrinted_45 rfl (by decide) rfl (L2 := [some (rv w r0), some (.int x1), some (.int x2), some (.int (0 : Int32)), none, none]) rfl ?_
          refine g_iconst (v := 0) C dX6_isPrinted_46 rfl ?_
          refine g_istore C dX6_isPrinted_47 (by decide) rfl (L2 := [some (rv w r0), some (.int x1), some (.int x2), some (.int (0 : Int32)), some (.int (0 : Int32)), none]) rfl ?_
          refine g_iconst (v := 0) C dX6_isPrinted_49 rfl ?_
          refine g_istore C dX6_isPrinted_50 (by decide) rfl (L2 := [some (rv w r0), some (.int x1), some (.int x2), some (.int (0 : Int32)), some (.int (0 : Int32)), some (.int (0 : Int32))]) rfl ?_
          exact t_X6_isPrinted_52 C hR (fun r0' x1' x2' h => ih r0' x1' x2' h) _ r0 x1 x2 (0 : Int32) (0 : Int32) (0 : Int32) h
        · replace h := of_ift h c211
          refine g_iconst (v := 1) C dX6_isPrinted_40 rfl ?_
          refine g_goto 45 C dX6_isPrinted_41 (by decide) ?_
          refine g_istore_n C dX6_isPrinted_45 rfl (by decide) rfl (L2 := [some (rv w r0), some (.int x1), some (.int x2), some (.int (1 : Int32)), none, none]) rfl ?_
          refine g_iconst (v := 0) C dX6_isPrinted_46 rfl ?_
          refine g_istore C dX6_isPrinted_47 (by decide) rfl (L2 := [some (rv w r0), some (.int x1), some (.int x2), some (.int (1 : Int32)), some (.int (0 : Int32)), none]) rfl ?_
          refine g_iconst (v := 0) C dX6_isPrinted_49 rfl ?_
          refine g_istore C dX6_isPrinted_50 (by decide) rfl (L2 := [some (rv w r0), some (.int x1), some (.int x2), some (.int (1 : Int32)), some (.int (0 : Int32)), some (.int (0 : Int32))]) rfl ?_
          exact t_X6_isPrinted_52 C hR (fun r0' x1' x2' h => ih r0' x1' x2' h) _ r0 x1 x2 (1 : Int32) (0 : Int32) (0 : Int32) h
def f_X6_isPrinted (r0 : Nat) (M : Mem) : Option Int32 := f_X6_isPrinted_4 M FU r0 (0 : Int32) (0 : Int32)
set_option maxRecDepth 100000 in
set_option maxHeartbeats 4000000 in
theorem ct_X6_isPrinted {l : Launch} {w : Om} (hw : Wf w) {r0 : Nat}  {M : Mem} {r : Int32} (h : f_X6_isPrinted r0 M = some r) : Ct l w yX6_isPrinted cX6_isPrinted 6 (some .boolean) 2 [rv w r0] M (some (.int r)) M := by
  refine ct_of hw (by decide) (cat_s (rv_cat _ _) cat_0) (Nat.le_of_ble_eq_true rfl) (fun f _ C hR => ?_)
  show Go w f 0 [some (rv w r0), none, none, none, none, none] [] M
  unfold f_X6_isPrinted at h
  refine g_iconst (v := 0) C dX6_isPrinted_0 rfl ?_
  refine g_istore_n C dX6_isPrinted_1 rfl (by decide) (rv_cat _ _) (L2 := [some (rv w r0), some (.int (0 : Int32)), none, none, none, none]) rfl ?_
  refine g_iconst (v := 0) C dX6_isPrinted_2 rfl ?_
  refine g_istore_n C dX6_isPrinted_3 rfl (by decide) rfl (L2 := [some (rv w r0), some (.int (0 : Int32)), some (.int (0 : Int32)), none, none, none]) rfl ?_
  exact t_X6_isPrinted_4 C hR _ r0 (0 : Int32) (0 : Int32) h
def f_X6_laysEdition_46 : Nat → Nat → Int32 → Int32 → Int32 → Mem → Option (Int32 × Mem)
  | 0, _, _, _, _, _ => none
  | n + 1, r0, x1, x3, x4, M => gdd (kd r0 = 7) <| if (gI M r0 6) ≤ x4 then (obb (f_X6_lays r0 x1 (0 : Int32) (gI M r0 9) M) fun M303 => obb (f_X6_lays r0 x1 (1 : Int32) (gI M303 r0 10) M303) fun M305 => some (x1, M305)) else (gdd (kd (fld r0 5) = 8) <| gdd (inb x4 (ln (fld r0 5)) = true) <| if (gI M (fld r0 5) (x4).toNatClampNeg) = (44 : Int32) then (bvv (x4 + (1 : Int32)) fun y310 => (f_X6_laysEdition_46 n) r0 x1 x3 y310 M) else (obb (f_X6_lays r0 x1 ((4 : Int32) + x3) ((gI M (fld r0 5) (x4).toNatClampNeg) - (97 : Int32)) M) fun M312 => bvv (x3 + (1 : Int32)) fun y314 => bvv (x4 + (1 : Int32)) fun y316 => (f_X6_laysEdition_46 n) r0 x1 y314 y316 M312))
set_option maxRecDepth 100000 in
set_option maxHeartbeats 4000000 in
theorem t_X6_laysEdition_46 {w : Om} {f : Fr} {r : Int32} {M2 : Mem} (C : Cx w f RX6 cX6_laysEdition 5 1) (hR : Rt w f cX6_laysEdition (some .int) (some (.int r)) M2)   : ∀ (n : Nat) (r0 : Nat) (x1 : Int32) (x3 : Int32) (x4 : Int32) (M : Mem), f_X6_laysEdition_46 n r0 x1 x3 x4 M = some (r, M2) → Go w f 46 [some (rv w r0), some (.int x1), none, some (.int x3), some (.int x4)] [] M := by
  intro n
  induction n with
  | zero =>
    intro r0 x1 x3 x4 M h
    cases h
  | succ n ih =>
    intro r0 x1 x3 x4 M h
    rw [f_X6_laysEdition_46] at h
    refine g_iload C dX6_laysEdition_46 rfl ?_
    refine g_aload_n C dX6_laysEdition_48 rfl rfl ?_
    obtain ⟨g301, h⟩ := of_gdd h
    refine gf_6_6 C fl_RX6_135 g301 dX6_laysEdition_49 ?_
    refine g_icmp_ge 94 C dX6_laysEdition_52 (by decide) (fun c302 => ?_) (fun c302 => ?_)
    · replace h := of_ift h c302
      refine g_aload_n C dX6_laysEdition_94 rfl rfl ?_
      refine g_iload_n C dX6_laysEdition_95 rfl rfl ?_
      refine g_iconst (v := 0) C dX6_laysEdition_96 rfl ?_
      refine g_aload_n C dX6_laysEdition_97 rfl rfl ?_
      refine gf_6_9 C fl_RX6_145 g301 dX6_laysEdition_98 ?_
      obtain ⟨M303, e304, h⟩ := of_obb h
      refine g_callV (As := [.int x1, .int (0 : Int32), .int (gI M r0 9)]) C (ct_X6_lays C.wf e304) g301 lk_RX6_105 mi_X6_lays (by decide) cs_0 (by decide) dX6_laysEdition_101 rfl ?_
      show Go w f 104 [some (rv w r0), some (.int x1), none, some (.int x3), some (.int x4)] [] M303
      refine g_aload_n C dX6_laysEdition_104 rfl rfl ?_
      refine g_iload_n C dX6_laysEdition_105 rfl rfl ?_
      refine g_iconst (v := 1) C dX6_laysEdition_106 rfl ?_
      refine g_aload_n C dX6_laysEdition_107 rfl rfl ?_
      refine gf_6_10 C fl_RX6_148 g301 dX6_laysEdition_108 ?_
      obtain ⟨M305, e306, h⟩ := of_obb h
      refine g_callV (As := [.int x1, .int (1 : Int32), .int (gI M303 r0 10)]) C (ct_X6_lays C.wf e306) g301 lk_RX6_105 mi_X6_lays (by decide) cs_0 (by decide) dX6_laysEdition_111 rfl ?_
      show Go w f 114 [some (rv w r0), some (.int x1), none, some (.int x3), some (.int x4)] [] M305
      refine g_iload_n C dX6_laysEdition_114 rfl rfl ?_
      cases h
      exact hR 115 _ ⟨.int, rfl, rfl⟩ dX6_laysEdition_115
    · replace h := of_iff h c302
      refine g_aload_n C dX6_laysEdition_55 rfl rfl ?_
      refine gf_6_5 C fl_RX6_19 g301 dX6_laysEdition_56 ?_
      refine g_iload C dX6_laysEdition_59 rfl ?_
      obtain ⟨g307, h⟩ := of_gdd h
      obtain ⟨g308, h⟩ := of_gdd h
      refine g_iald C g307 g308 dX6_laysEdition_61 ?_
      refine g_bipush (v := 44) C dX6_laysEdition_62 rfl ?_
      refine g_icmp_eq 88 C dX6_laysEdition_64 (by decide) (fun c309 => ?_) (fun c309 => ?_)
      · replace h := of_ift h c309
        obtain ⟨y310, e311, h⟩ := of_bvv h
        refine g_iinc (v := y310) C dX6_laysEdition_88 rfl e311.symm (by decide) rfl (L2 := [some (rv w r0), some (.int x1), none, some (.int x3), some (.int y310)]) rfl ?_
        refine g_goto 46 C dX6_laysEdition_91 (by decide) ?_
        exact ih r0 x1 x3 y310 M h
      · replace h := of_iff h c309
        refine g_aload_n C dX6_laysEdition_67 rfl rfl ?_
        refine g_iload_n C dX6_laysEdition_68 rfl rfl ?_
        refine g_iconst (v := 4) C dX6_laysEdition_69 rfl ?_
        refine g_iload_n C dX6_laysEdition_70 rfl rfl ?_
        refine g_iadd C dX6_laysEdition_71 ?_
        refine g_aload_n C dX6_laysEdition_72 rfl rfl ?_
        refine gf_6_5 C fl_RX6_19 g301 dX6_laysEdition_73 ?_
        refine g_iload C dX6_laysEdition_76 rfl ?_
        refine g_iald C g307 g308 dX6_laysEdition_78 ?_
        refine g_bipush (v := 97) C dX6_laysEdition_79 rfl ?_
        refine g_isub C dX6_laysEdition_81 ?_
        obtain ⟨M312, e313, h⟩ := of_obb h
        refine g_callV (As := [.int x1, .int ((4 : Int32) + x3), .int ((gI M (fld r0 5) (x4).toNatClampNeg) - (97 : Int32))]) C (ct_X6_lays C.wf e313) g301 lk_RX6_105 mi_X6_lays (by decide) cs_0 (by decide) dX6_laysEdition_82 rfl ?_
        show Go w f 85 [some (rv w r0), some (.int x1), none, some (.int x3), some (.int x4)] [] M312
        obtain ⟨y314, e315, h⟩ := of_bvv h
        refine g_iinc (v := y314) C dX6_laysEdition_85 rfl e315.symm (by decide) trivial (L2 := [some (rv w r0), some (.int x1), none, some (.int y314), some (.int x4)]) rfl ?_
        obtain ⟨y316, e317, h⟩ := of_bvv h
        refine g_iinc (v := y316) C dX6_laysEdition_88 rfl e317.symm (by decide) rfl (L2 := [some (rv w r0), some (.int x1), none, some (.int y314), some (.int y316)]) rfl ?_
        refine g_goto 46 C dX6_laysEdition_91 (by decide) ?_
        exact ih r0 x1 y314 y316 M312 h
def f_X6_laysEdition_20 : Nat → Nat → Int32 → Int32 → Int32 → Int32 → Mem → Option (Int32 × Mem)
  | 0, _, _, _, _, _, _ => none
  | n + 1, r0, x1, x2, x3, x4, M => if (16 : Int32) ≤ x4 then (f_X6_laysEdition_46 FU r0 x1 x3 (0 : Int32) M) else (gdd (kd r0 = 7) <| gdd (kd (fld r0 0) = 8) <| gdd (inb (x2 + x4) (ln (fld r0 0)) = true) <| bvv (sI M (fld r0 0) (x2 + x4).toNatClampNeg (0 : Int32)) fun M205 => bvv (x4 + (1 : Int32)) fun y207 => (f_X6_laysEdition_20 n) r0 x1 x2 x3 y207 M205)
set_option maxRecDepth 100000 in
set_option maxHeartbeats 4000000 in
theorem t_X6_laysEdition_20 {w : Om} {f : Fr} {r : Int32} {M2 : Mem} (C : Cx w f RX6 cX6_laysEdition 5 1) (hR : Rt w f cX6_laysEdition (some .int) (some (.int r)) M2)   : ∀ (n : Nat) (r0 : Nat) (x1 : Int32) (x2 : Int32) (x3 : Int32) (x4 : Int32) (M : Mem), f_X6_laysEdition_20 n r0 x1 x2 x3 x4 M = some (r, M2) → Go w f 20 [some (rv w r0), some (.int x1), some (.int x2), some (.int x3), some (.int x4)] [] M := by
  intro n
  induction n with
  | zero =>
    intro r0 x1 x2 x3 x4 M h
    cases h
  | succ n ih =>
    intro r0 x1 x2 x3 x4 M h
    rw [f_X6_laysEdition_20] at h
    refine g_iload C dX6_laysEdition_20 rfl ?_
    refine g_bipush (v := 16) C dX6_laysEdition_22 rfl ?_
    refine g_icmp_ge 43 C dX6_laysEdition_24 (by decide) (fun c201 => ?_) (fun c201 => ?_)
    · replace h := of_ift h c201
      refine g_iconst (v := 0) C dX6_laysEdition_43 rfl ?_
      refine g_istore C dX6_laysEdition_44 (by decide) rfl (L2 := [some (rv w r0), some (.int x1), some (.int x2), some (.int x3), some (.int (0 : Int32))]) rfl ?_
      refine g_mask (bs := [true, true, false, true, true]) (L2 := [some (rv w r0), some (.int x1), none, some (.int x3), some (.int (0 : Int32))]) rfl ?_
      exact t_X6_laysEdition_46 C hR _ r0 x1 x3 (0 : Int32) M h
    · replace h := of_iff h c201
      refine g_aload_n C dX6_laysEdition_27 rfl rfl ?_
      obtain ⟨g202, h⟩ := of_gdd h
      refine gf_6_0 C fl_RX6_7 g202 dX6_laysEdition_28 ?_
      refine g_iload_n C dX6_laysEdition_31 rfl rfl ?_
      refine g_iload C dX6_laysEdition_32 rfl ?_
      refine g_iadd C dX6_laysEdition_34 ?_
      refine g_iconst (v := 0) C dX6_laysEdition_35 rfl ?_
      obtain ⟨g203, h⟩ := of_gdd h
      obtain ⟨g204, h⟩ := of_gdd h
      refine g_iast C g203 g204 dX6_laysEdition_36 ?_
      obtain ⟨M205, e206, h⟩ := of_bvv h
      refine g_mem e206 ?_
      obtain ⟨y207, e208, h⟩ := of_bvv h
      refine g_iinc (v := y207) C dX6_laysEdition_37 rfl e208.symm (by decide) rfl (L2 := [some (rv w r0), some (.int x1), some (.int x2), some (.int x3), some (.int y207)]) rfl ?_
      refine g_goto 20 C dX6_laysEdition_40 (by decide) ?_
      exact ih r0 x1 x2 x3 y207 M205 h
def f_X6_laysEdition (r0 : Nat) (M : Mem) : Option (Int32 × Mem) := gdd (kd r0 = 7) <| gdd (kd (fld r0 0) = 8) <| gdd (inb (3 : Int32) (ln (fld r0 0)) = true) <| bvv (gI M (fld r0 0) ((3 : Int32)).toNatClampNeg) fun y4 => bvv ((73 : Int32) + ((16 : Int32) * y4)) fun y6 => f_X6_laysEdition_20 FU r0 y4 y6 (0 : Int32) (0 : Int32) M
set_option maxRecDepth 100000 in
set_option maxHeartbeats 4000000 in
theorem ct_X6_laysEdition {l : Launch} {w : Om} (hw : Wf w) {r0 : Nat} {M : Mem} {r : Int32} {M2 : Mem} (h : f_X6_laysEdition r0 M = some (r, M2)) : Ct l w yX6_laysEdition cX6_laysEdition 5 (some .int) 1 [rv w r0] M (some (.int r)) M2 := by
  refine ct_of hw (by decide) (cat_s (rv_cat _ _) cat_0) (Nat.le_of_ble_eq_true rfl) (fun f _ C hR => ?_)
  show Go w f 0 [some (rv w r0), none, none, none, none] [] M
  unfold f_X6_laysEdition at h
  refine g_aload_n C dX6_laysEdition_0 rfl rfl ?_
  obtain ⟨g1, h⟩ := of_gdd h
  refine gf_6_0 C fl_RX6_7 g1 dX6_laysEdition_1 ?_
  refine g_iconst (v := 3) C dX6_laysEdition_4 rfl ?_
  obtain ⟨g2, h⟩ := of_gdd h
  obtain ⟨g3, h⟩ := of_gdd h
  refine g_iald C g2 g3 dX6_laysEdition_5 ?_
  obtain ⟨y4, e5, h⟩ := of_bvv h
  refine g_topi e5 ?_
  refine g_istore_n C dX6_laysEdition_6 rfl (by decide) (rv_cat _ _) (L2 := [some (rv w r0), some (.int y4), none, none, none]) rfl ?_
  refine g_bipush (v := 73) C dX6_laysEdition_7 rfl ?_
  refine g_bipush (v := 16) C dX6_laysEdition_9 rfl ?_
  refine g_iload_n C dX6_laysEdition_11 rfl rfl ?_
  refine g_imul C dX6_laysEdition_12 ?_
  refine g_iadd C dX6_laysEdition_13 ?_
  obtain ⟨y6, e7, h⟩ := of_bvv h
  refine g_topi e7 ?_
  refine g_istore_n C dX6_laysEdition_14 rfl (by decide) rfl (L2 := [some (rv w r0), some (.int y4), some (.int y6), none, none]) rfl ?_
  refine g_iconst (v := 0) C dX6_laysEdition_15 rfl ?_
  refine g_istore_n C dX6_laysEdition_16 rfl (by decide) rfl (L2 := [some (rv w r0), some (.int y4), some (.int y6), some (.int (0 : Int32)), none]) rfl ?_
  refine g_iconst (v := 0) C dX6_laysEdition_17 rfl ?_
  refine g_istore C dX6_laysEdition_18 (by decide) rfl (L2 := [some (rv w r0), some (.int y4), some (.int y6), some (.int (0 : Int32)), some (.int (0 : Int32))]) rfl ?_
  exact t_X6_laysEdition_20 C hR _ r0 y4 y6 (0 : Int32) (0 : Int32) M h
def f_X6_print (r0 : Nat) (M : Mem) : Option (Int32 × Mem) := gdd (kd r0 = 7) <| opp (f_X6_isWords r0 M) fun y4 M2 => if y4 = 0 then (some ((-2 : Int32), M2)) else (obb (f_X6_isPrinted r0 M2) fun y6 => if y6 = 0 then (gdd (kd (fld r0 0) = 8) <| gdd (inb (3 : Int32) (ln (fld r0 0)) = true) <| if (gI M2 (fld r0 0) ((3 : Int32)).toNatClampNeg) = (4 : Int32) then (some ((-3 : Int32), M2)) else (obb (f_X6_records r0 M2) fun M12 => opp (f_X6_laysEdition r0 M12) fun y16 M14 => bvv (sI M14 (fld r0 0) ((3 : Int32)).toNatClampNeg ((gI M14 (fld r0 0) ((3 : Int32)).toNatClampNeg) + (1 : Int32))) fun M17 => bvv (sI M17 r0 6 (0 : Int32)) fun M19 => some (y16, M19))) else (some ((-2 : Int32), M2)))
set_option maxRecDepth 100000 in
set_option maxHeartbeats 4000000 in
theorem ct_X6_print {l : Launch} {w : Om} (hw : Wf w) {r0 : Nat} {M : Mem} {r : Int32} {M2 : Mem} (h : f_X6_print r0 M = some (r, M2)) : Ct l w yX6_print cX6_print 2 (some .int) 3 [rv w r0] M (some (.int r)) M2 := by
  refine ct_of hw (by decide) (cat_s (rv_cat _ _) cat_0) (Nat.le_of_ble_eq_true rfl) (fun f _ C hR => ?_)
  show Go w f 0 [some (rv w r0), none] [] M
  unfold f_X6_print at h
  refine g_aload_n C dX6_print_0 rfl rfl ?_
  obtain ⟨g1, h⟩ := of_gdd h
  obtain ⟨y4, M2, e3, h⟩ := of_opp h
  refine g_callV (As := []) C (ct_X6_isWords C.wf e3) g1 lk_RX6_170 mi_X6_isWords (by decide) cs_0 (by decide) dX6_print_1 rfl ?_
  show Go w f 4 [some (rv w r0), none] [.int y4] M2
  refine g_if_eq 14 C dX6_print_4 (by decide) (fun c5 => ?_) (fun c5 => ?_)
  · replace h := of_ift h c5
    refine g_bipush (v := -2) C dX6_print_14 rfl ?_
    cases h
    exact hR 16 _ ⟨.int, rfl, rfl⟩ dX6_print_16
  · replace h := of_iff h c5
    refine g_aload_n C dX6_print_7 rfl rfl ?_
    obtain ⟨y6, e7, h⟩ := of_obb h
    refine g_callV (As := []) C (ct_X6_isPrinted C.wf e7) g1 lk_RX6_177 mi_X6_isPrinted (by decide) cs_0 (by decide) dX6_print_8 rfl ?_
    show Go w f 11 [some (rv w r0), none] [.int y6] M2
    refine g_if_eq 17 C dX6_print_11 (by decide) (fun c8 => ?_) (fun c8 => ?_)
    · replace h := of_ift h c8
      refine g_aload_n C dX6_print_17 rfl rfl ?_
      refine gf_6_0 C fl_RX6_7 g1 dX6_print_18 ?_
      refine g_iconst (v := 3) C dX6_print_21 rfl ?_
      obtain ⟨g9, h⟩ := of_gdd h
      obtain ⟨g10, h⟩ := of_gdd h
      refine g_iald C g9 g10 dX6_print_22 ?_
      refine g_iconst (v := 4) C dX6_print_23 rfl ?_
      refine g_icmp_ne 30 C dX6_print_24 (by decide) (fun c11 => ?_) (fun c11 => ?_)
      · replace h := of_iff h c11
        refine g_aload_n C dX6_print_30 rfl rfl ?_
        obtain ⟨M12, e13, h⟩ := of_obb h
        refine g_callV (As := []) C (ct_X6_records C.wf e13) g1 lk_RX6_112 mi_X6_records (by decide) cs_0 (by decide) dX6_print_31 rfl ?_
        show Go w f 34 [some (rv w r0), none] [] M12
        refine g_aload_n C dX6_print_34 rfl rfl ?_
        obtain ⟨y16, M14, e15, h⟩ := of_opp h
        refine g_callV (As := []) C (ct_X6_laysEdition C.wf e15) g1 lk_RX6_180 mi_X6_laysEdition (by decide) cs_0 (by decide) dX6_print_35 rfl ?_
        show Go w f 38 [some (rv w r0), none] [.int y16] M14
        refine g_istore_n C dX6_print_38 rfl (by decide) (rv_cat _ _) (L2 := [some (rv w r0), some (.int y16)]) rfl ?_
        refine g_aload_n C dX6_print_39 rfl rfl ?_
        refine gf_6_0 C fl_RX6_7 g1 dX6_print_40 ?_
        refine g_iconst (v := 3) C dX6_print_43 rfl ?_
        refine g_dup2 C rfl (rv_cat _ _) dX6_print_44 ?_
        refine g_iald C g9 g10 dX6_print_45 ?_
        refine g_iconst (v := 1) C dX6_print_46 rfl ?_
        refine g_iadd C dX6_print_47 ?_
        refine g_iast C g9 g10 dX6_print_48 ?_
        obtain ⟨M17, e18, h⟩ := of_bvv h
        refine g_mem e18 ?_
        refine g_aload_n C dX6_print_49 rfl rfl ?_
        refine g_iconst (v := 0) C dX6_print_50 rfl ?_
        refine pf_6_6 C fl_RX6_135 g1 dX6_print_51 ?_
        obtain ⟨M19, e20, h⟩ := of_bvv h
        refine g_mem e20 ?_
        refine g_iload_n C dX6_print_54 rfl rfl ?_
        cases h
        exact hR 55 _ ⟨.int, rfl, rfl⟩ dX6_print_55
      · replace h := of_ift h c11
        refine g_bipush (v := -3) C dX6_print_27 rfl ?_
        cases h
        exact hR 29 _ ⟨.int, rfl, rfl⟩ dX6_print_29
    · replace h := of_iff h c8
      refine g_bipush (v := -2) C dX6_print_14 rfl ?_
      cases h
      exact hR 16 _ ⟨.int, rfl, rfl⟩ dX6_print_16
def f_X6_doesSuit (r0 : Nat) (M : Mem) : Option (Int32 × Mem) := gdd (kd r0 = 7) <| if (gI M r0 13) = 0 then (obb (f_X6_isGap r0 (gI M r0 11) (gI M r0 12) M) fun y3 => if y3 = 0 then (some ((-1 : Int32), M)) else (opp (f_X6_goSue r0 (gI M r0 11) (gI M r0 12) M) fun y8 M6 => some (y8, M6))) else (gdd (kd (fld r0 0) = 8) <| gdd (inb (0 : Int32) (ln (fld r0 0)) = true) <| bvv (sI M (fld r0 0) ((0 : Int32)).toNatClampNeg ((gI M (fld r0 0) ((0 : Int32)).toNatClampNeg) + (1 : Int32))) fun M11 => some ((10 : Int32), M11))
set_option maxRecDepth 100000 in
set_option maxHeartbeats 4000000 in
theorem ct_X6_doesSuit {l : Launch} {w : Om} (hw : Wf w) {r0 : Nat} {M : Mem} {r : Int32} {M2 : Mem} (h : f_X6_doesSuit r0 M = some (r, M2)) : Ct l w yX6_doesSuit cX6_doesSuit 1 (some .int) 10 [rv w r0] M (some (.int r)) M2 := by
  refine ct_of hw (by decide) (cat_s (rv_cat _ _) cat_0) (Nat.le_of_ble_eq_true rfl) (fun f _ C hR => ?_)
  show Go w f 0 [some (rv w r0)] [] M
  unfold f_X6_doesSuit at h
  refine g_aload_n C dX6_doesSuit_0 rfl rfl ?_
  obtain ⟨g1, h⟩ := of_gdd h
  refine gf_6_13 C fl_RX6_158 g1 dX6_doesSuit_1 ?_
  refine g_if_eq 20 C dX6_doesSuit_4 (by decide) (fun c2 => ?_) (fun c2 => ?_)
  · replace h := of_ift h c2
    refine g_aload_n C dX6_doesSuit_20 rfl rfl ?_
    refine g_aload_n C dX6_doesSuit_21 rfl rfl ?_
    refine gf_6_11 C fl_RX6_161 g1 dX6_doesSuit_22 ?_
    refine g_aload_n C dX6_doesSuit_25 rfl rfl ?_
    refine gf_6_12 C fl_RX6_164 g1 dX6_doesSuit_26 ?_
    obtain ⟨y3, e4, h⟩ := of_obb h
    refine g_callV (As := [.int (gI M r0 11), .int (gI M r0 12)]) C (ct_X6_isGap C.wf e4) g1 lk_RX6_129 mi_X6_isGap (by decide) cs_0 (by decide) dX6_doesSuit_29 rfl ?_
    show Go w f 32 [some (rv w r0)] [.int y3] M
    refine g_if_eq 50 C dX6_doesSuit_32 (by decide) (fun c5 => ?_) (fun c5 => ?_)
    · replace h := of_ift h c5
      refine g_iconst (v := -1) C dX6_doesSuit_50 rfl ?_
      cases h
      exact hR 51 _ ⟨.int, rfl, rfl⟩ dX6_doesSuit_51
    · replace h := of_iff h c5
      refine g_aload_n C dX6_doesSuit_35 rfl rfl ?_
      refine g_aload_n C dX6_doesSuit_36 rfl rfl ?_
      refine gf_6_11 C fl_RX6_161 g1 dX6_doesSuit_37 ?_
      refine g_aload_n C dX6_doesSuit_40 rfl rfl ?_
      refine gf_6_12 C fl_RX6_164 g1 dX6_doesSuit_41 ?_
      obtain ⟨y8, M6, e7, h⟩ := of_opp h
      refine g_callV (As := [.int (gI M r0 11), .int (gI M r0 12)]) C (ct_X6_goSue C.wf e7) g1 lk_RX6_132 mi_X6_goSue (by decide) cs_0 (by decide) dX6_doesSuit_44 rfl ?_
      show Go w f 47 [some (rv w r0)] [.int y8] M6
      refine g_goto 51 C dX6_doesSuit_47 (by decide) ?_
      cases h
      exact hR 51 _ ⟨.int, rfl, rfl⟩ dX6_doesSuit_51
  · replace h := of_iff h c2
    refine g_aload_n C dX6_doesSuit_7 rfl rfl ?_
    refine gf_6_0 C fl_RX6_7 g1 dX6_doesSuit_8 ?_
    refine g_iconst (v := 0) C dX6_doesSuit_11 rfl ?_
    refine g_dup2 C rfl (rv_cat _ _) dX6_doesSuit_12 ?_
    obtain ⟨g9, h⟩ := of_gdd h
    obtain ⟨g10, h⟩ := of_gdd h
    refine g_iald C g9 g10 dX6_doesSuit_13 ?_
    refine g_iconst (v := 1) C dX6_doesSuit_14 rfl ?_
    refine g_iadd C dX6_doesSuit_15 ?_
    refine g_iast C g9 g10 dX6_doesSuit_16 ?_
    obtain ⟨M11, e12, h⟩ := of_bvv h
    refine g_mem e12 ?_
    refine g_bipush (v := 10) C dX6_doesSuit_17 rfl ?_
    cases h
    exact hR 19 _ ⟨.int, rfl, rfl⟩ dX6_doesSuit_19
def f_X6_plead_26 : Nat → Nat → Int32 → Mem → Option (Int32 × Mem)
  | 0, _, _, _ => none
  | n + 1, r0, x1, M => gdd (kd r0 = 7) <| if (gI M r0 14) = 0 then (if (gI M r0 6) ≤ (gI M r0 7) then (bvv (sI M r0 6 (0 : Int32)) fun M206 => some (x1, M206)) else (bvv (gI M r0 7) fun y208 => obb (f_X6_takesSuit r0 M) fun M210 => bvv (sI M210 r0 7 ((gI M210 r0 7) + (1 : Int32))) fun M212 => opp (f_X6_doesSuit r0 M212) fun y216 M214 => if (10 : Int32) ≤ y216 then (bvv (x1 + (1 : Int32)) fun y218 => (f_X6_plead_26 n) r0 y218 M214) else (bvv (sI M214 r0 14 (1 : Int32)) fun M220 => gdd (kd (fld r0 15) = 8) <| gdd (inb (0 : Int32) (ln (fld r0 15)) = true) <| bvv (sI M220 (fld r0 15) ((0 : Int32)).toNatClampNeg y216) fun M224 => gdd (inb (1 : Int32) (ln (fld r0 15)) = true) <| bvv (sI M224 (fld r0 15) ((1 : Int32)).toNatClampNeg x1) fun M227 => gdd (inb (2 : Int32) (ln (fld r0 15)) = true) <| bvv (sI M227 (fld r0 15) ((2 : Int32)).toNatClampNeg y208) fun M230 => (f_X6_plead_26 n) r0 x1 M230))) else (bvv (sI M r0 6 (0 : Int32)) fun M203 => some (x1, M203))
set_option maxRecDepth 100000 in
set_option maxHeartbeats 4000000 in
theorem t_X6_plead_26 {w : Om} {f : Fr} {r : Int32} {M2 : Mem} (C : Cx w f RX6 cX6_plead 4 11) (hR : Rt w f cX6_plead (some .int) (some (.int r)) M2)   : ∀ (n : Nat) (r0 : Nat) (x1 : Int32) (M : Mem), f_X6_plead_26 n r0 x1 M = some (r, M2) → Go w f 26 [some (rv w r0), some (.int x1), none, none] [] M := by
  intro n
  induction n with
  | zero =>
    intro r0 x1 M h
    cases h
  | succ n ih =>
    intro r0 x1 M h
    rw [f_X6_plead_26] at h
    refine g_aload_n C dX6_plead_26 rfl rfl ?_
    obtain ⟨g201, h⟩ := of_gdd h
    refine gf_6_14 C fl_RX6_183 g201 dX6_plead_27 ?_
    refine g_if_ne 109 C dX6_plead_30 (by decide) (fun c202 => ?_) (fun c202 => ?_)
    · replace h := of_iff h c202
      refine g_aload_n C dX6_plead_109 rfl rfl ?_
      refine g_iconst (v := 0) C dX6_plead_110 rfl ?_
      refine pf_6_6 C fl_RX6_135 g201 dX6_plead_111 ?_
      obtain ⟨M203, e204, h⟩ := of_bvv h
      refine g_mem e204 ?_
      refine g_iload_n C dX6_plead_114 rfl rfl ?_
      cases h
      exact hR 115 _ ⟨.int, rfl, rfl⟩ dX6_plead_115
    · replace h := of_ift h c202
      refine g_aload_n C dX6_plead_33 rfl rfl ?_
      refine gf_6_7 C fl_RX6_138 g201 dX6_plead_34 ?_
      refine g_aload_n C dX6_plead_37 rfl rfl ?_
      refine gf_6_6 C fl_RX6_135 g201 dX6_plead_38 ?_
      refine g_icmp_ge 109 C dX6_plead_41 (by decide) (fun c205 => ?_) (fun c205 => ?_)
      · replace h := of_ift h c205
        refine g_aload_n C dX6_plead_109 rfl rfl ?_
        refine g_iconst (v := 0) C dX6_plead_110 rfl ?_
        refine pf_6_6 C fl_RX6_135 g201 dX6_plead_111 ?_
        obtain ⟨M206, e207, h⟩ := of_bvv h
        refine g_mem e207 ?_
        refine g_iload_n C dX6_plead_114 rfl rfl ?_
        cases h
        exact hR 115 _ ⟨.int, rfl, rfl⟩ dX6_plead_115
      · replace h := of_iff h c205
        refine g_aload_n C dX6_plead_44 rfl rfl ?_
        refine gf_6_7 C fl_RX6_138 g201 dX6_plead_45 ?_
        obtain ⟨y208, e209, h⟩ := of_bvv h
        refine g_topi e209 ?_
        refine g_istore_n C dX6_plead_48 rfl (by decide) rfl (L2 := [some (rv w r0), some (.int x1), some (.int y208), none]) rfl ?_
        refine g_aload_n C dX6_plead_49 rfl rfl ?_
        obtain ⟨M210, e211, h⟩ := of_obb h
        refine g_callV (As := []) C (ct_X6_takesSuit C.wf e211) g201 lk_RX6_167 mi_X6_takesSuit (by decide) cs_0 (by decide) dX6_plead_50 rfl ?_
        show Go w f 53 [some (rv w r0), some (.int x1), some (.int y208), none] [] M210
        refine g_aload_n C dX6_plead_53 rfl rfl ?_
        refine g_dup C (rv_cat _ _) dX6_plead_54 ?_
        refine gf_6_7 C fl_RX6_138 g201 dX6_plead_55 ?_
        refine g_iconst (v := 1) C dX6_plead_58 rfl ?_
        refine g_iadd C dX6_plead_59 ?_
        refine pf_6_7 C fl_RX6_138 g201 dX6_plead_60 ?_
        obtain ⟨M212, e213, h⟩ := of_bvv h
        refine g_mem e213 ?_
        refine g_aload_n C dX6_plead_63 rfl rfl ?_
        obtain ⟨y216, M214, e215, h⟩ := of_opp h
        refine g_callV (As := []) C (ct_X6_doesSuit C.wf e215) g201 lk_RX6_186 mi_X6_doesSuit (by decide) cs_0 (by decide) dX6_plead_64 rfl ?_
        show Go w f 67 [some (rv w r0), some (.int x1), some (.int y208), none] [.int y216] M214
        refine g_istore_n C dX6_plead_67 rfl (by decide) rfl (L2 := [some (rv w r0), some (.int x1), some (.int y208), some (.int y216)]) rfl ?_
        refine g_iload_n C dX6_plead_68 rfl rfl ?_
        refine g_bipush (v := 10) C dX6_plead_69 rfl ?_
        refine g_icmp_ge 103 C dX6_plead_71 (by decide) (fun c217 => ?_) (fun c217 => ?_)
        · replace h := of_ift h c217
          obtain ⟨y218, e219, h⟩ := of_bvv h
          refine g_iinc (v := y218) C dX6_plead_103 rfl e219.symm (by decide) (rv_cat _ _) (L2 := [some (rv w r0), some (.int y218), some (.int y208), some (.int y216)]) rfl ?_
          refine g_goto 26 C dX6_plead_106 (by decide) ?_
          refine g_mask (bs := [true, true, false, false]) (L2 := [some (rv w r0), some (.int y218), none, none]) rfl ?_
          exact ih r0 y218 M214 h
        · replace h := of_iff h c217
          refine g_aload_n C dX6_plead_74 rfl rfl ?_
          refine g_iconst (v := 1) C dX6_plead_75 rfl ?_
          refine pf_6_14 C fl_RX6_183 g201 (isb_1) dX6_plead_76 ?_
          obtain ⟨M220, e221, h⟩ := of_bvv h
          refine g_mem e221 ?_
          refine g_aload_n C dX6_plead_79 rfl rfl ?_
          refine gf_6_15 C fl_RX6_22 g201 dX6_plead_80 ?_
          refine g_iconst (v := 0) C dX6_plead_83 rfl ?_
          refine g_iload_n C dX6_plead_84 rfl rfl ?_
          obtain ⟨g222, h⟩ := of_gdd h
          obtain ⟨g223, h⟩ := of_gdd h
          refine g_iast C g222 g223 dX6_plead_85 ?_
          obtain ⟨M224, e225, h⟩ := of_bvv h
          refine g_mem e225 ?_
          refine g_aload_n C dX6_plead_86 rfl rfl ?_
          refine gf_6_15 C fl_RX6_22 g201 dX6_plead_87 ?_
          refine g_iconst (v := 1) C dX6_plead_90 rfl ?_
          refine g_iload_n C dX6_plead_91 rfl rfl ?_
          obtain ⟨g226, h⟩ := of_gdd h
          refine g_iast C g222 g226 dX6_plead_92 ?_
          obtain ⟨M227, e228, h⟩ := of_bvv h
          refine g_mem e228 ?_
          refine g_aload_n C dX6_plead_93 rfl rfl ?_
          refine gf_6_15 C fl_RX6_22 g201 dX6_plead_94 ?_
          refine g_iconst (v := 2) C dX6_plead_97 rfl ?_
          refine g_iload_n C dX6_plead_98 rfl rfl ?_
          obtain ⟨g229, h⟩ := of_gdd h
          refine g_iast C g222 g229 dX6_plead_99 ?_
          obtain ⟨M230, e231, h⟩ := of_bvv h
          refine g_mem e231 ?_
          refine g_goto 106 C dX6_plead_100 (by decide) ?_
          refine g_goto 26 C dX6_plead_106 (by decide) ?_
          refine g_mask (bs := [true, true, false, false]) (L2 := [some (rv w r0), some (.int x1), none, none]) rfl ?_
          exact ih r0 x1 M230 h
def f_X6_plead (r0 : Nat) (M : Mem) : Option (Int32 × Mem) := gdd (kd r0 = 7) <| opp (f_X6_areSuits r0 M) fun y4 M2 => if y4 = 0 then (some ((-2 : Int32), M2)) else (obb (f_X6_records r0 M2) fun M6 => bvv (sI M6 r0 7 (0 : Int32)) fun M8 => bvv (sI M8 r0 14 (0 : Int32)) fun M10 => f_X6_plead_26 FU r0 (0 : Int32) M10)
set_option maxRecDepth 100000 in
set_option maxHeartbeats 4000000 in
theorem ct_X6_plead {l : Launch} {w : Om} (hw : Wf w) {r0 : Nat} {M : Mem} {r : Int32} {M2 : Mem} (h : f_X6_plead r0 M = some (r, M2)) : Ct l w yX6_plead cX6_plead 4 (some .int) 11 [rv w r0] M (some (.int r)) M2 := by
  refine ct_of hw (by decide) (cat_s (rv_cat _ _) cat_0) (Nat.le_of_ble_eq_true rfl) (fun f _ C hR => ?_)
  show Go w f 0 [some (rv w r0), none, none, none] [] M
  unfold f_X6_plead at h
  refine g_aload_n C dX6_plead_0 rfl rfl ?_
  obtain ⟨g1, h⟩ := of_gdd h
  obtain ⟨y4, M2, e3, h⟩ := of_opp h
  refine g_callV (As := []) C (ct_X6_areSuits C.wf e3) g1 lk_RX6_174 mi_X6_areSuits (by decide) cs_0 (by decide) dX6_plead_1 rfl ?_
  show Go w f 4 [some (rv w r0), none, none, none] [.int y4] M2
  refine g_if_ne 10 C dX6_plead_4 (by decide) (fun c5 => ?_) (fun c5 => ?_)
  · replace h := of_iff h c5
    refine g_aload_n C dX6_plead_10 rfl rfl ?_
    obtain ⟨M6, e7, h⟩ := of_obb h
    refine g_callV (As := []) C (ct_X6_records C.wf e7) g1 lk_RX6_112 mi_X6_records (by decide) cs_0 (by decide) dX6_plead_11 rfl ?_
    show Go w f 14 [some (rv w r0), none, none, none] [] M6
    refine g_aload_n C dX6_plead_14 rfl rfl ?_
    refine g_iconst (v := 0) C dX6_plead_15 rfl ?_
    refine pf_6_7 C fl_RX6_138 g1 dX6_plead_16 ?_
    obtain ⟨M8, e9, h⟩ := of_bvv h
    refine g_mem e9 ?_
    refine g_aload_n C dX6_plead_19 rfl rfl ?_
    refine g_iconst (v := 0) C dX6_plead_20 rfl ?_
    refine pf_6_14 C fl_RX6_183 g1 (isb_0) dX6_plead_21 ?_
    obtain ⟨M10, e11, h⟩ := of_bvv h
    refine g_mem e11 ?_
    refine g_iconst (v := 0) C dX6_plead_24 rfl ?_
    refine g_istore_n C dX6_plead_25 rfl (by decide) (rv_cat _ _) (L2 := [some (rv w r0), some (.int (0 : Int32)), none, none]) rfl ?_
    exact t_X6_plead_26 C hR _ r0 (0 : Int32) M10 h
  · replace h := of_ift h c5
    refine g_bipush (v := -2) C dX6_plead_7 rfl ?_
    cases h
    exact hR 9 _ ⟨.int, rfl, rfl⟩ dX6_plead_9
def f_X6_why (r0 : Nat) (x1 : Int32) (M : Mem) : Option Int32 := if (f_X6_in x1 (0 : Int32) (2 : Int32)) = 0 then (some (-1 : Int32)) else (gdd (kd r0 = 7) <| if (gI M r0 14) = 0 then (some (-4 : Int32)) else (gdd (kd (fld r0 15) = 8) <| gdd (inb x1 (ln (fld r0 15)) = true) <| some (gI M (fld r0 15) (x1).toNatClampNeg)))
set_option maxRecDepth 100000 in
set_option maxHeartbeats 4000000 in
theorem ct_X6_why {l : Launch} {w : Om} (hw : Wf w) {r0 : Nat} {x1 : Int32}  {M : Mem} {r : Int32} (h : f_X6_why r0 x1 M = some r) : Ct l w yX6_why cX6_why 2 (some .int) 1 [rv w r0, .int x1] M (some (.int r)) M := by
  refine ct_of hw (by decide) (cat_s (rv_cat _ _) (cat_s rfl cat_0)) (Nat.le_of_ble_eq_true rfl) (fun f _ C hR => ?_)
  show Go w f 0 [some (rv w r0), some (.int x1)] [] M
  unfold f_X6_why at h
  refine g_iload_n C dX6_why_0 rfl rfl ?_
  refine g_iconst (v := 0) C dX6_why_1 rfl ?_
  refine g_iconst (v := 2) C dX6_why_2 rfl ?_
  refine g_callS (As := [.int x1, .int (0 : Int32), .int (2 : Int32)]) C (ct_X6_in C.wf rfl) lk_RX6_42 mi_X6_in (by decide) cs_0 (by decide) dX6_why_3 rfl ?_
  show Go w f 6 [some (rv w r0), some (.int x1)] [.int (f_X6_in x1 (0 : Int32) (2 : Int32))] M
  refine g_if_ne 11 C dX6_why_6 (by decide) (fun c1 => ?_) (fun c1 => ?_)
  · replace h := of_iff h c1
    refine g_aload_n C dX6_why_11 rfl rfl ?_
    obtain ⟨g2, h⟩ := of_gdd h
    refine gf_6_14 C fl_RX6_183 g2 dX6_why_12 ?_
    refine g_if_eq 27 C dX6_why_15 (by decide) (fun c3 => ?_) (fun c3 => ?_)
    · replace h := of_ift h c3
      refine g_bipush (v := -4) C dX6_why_27 rfl ?_
      cases h
      exact hR 29 _ ⟨.int, rfl, rfl⟩ dX6_why_29
    · replace h := of_iff h c3
      refine g_aload_n C dX6_why_18 rfl rfl ?_
      refine gf_6_15 C fl_RX6_22 g2 dX6_why_19 ?_
      refine g_iload_n C dX6_why_22 rfl rfl ?_
      obtain ⟨g4, h⟩ := of_gdd h
      obtain ⟨g5, h⟩ := of_gdd h
      refine g_iald C g4 g5 dX6_why_23 ?_
      refine g_goto 29 C dX6_why_24 (by decide) ?_
      cases h
      exact hR 29 _ ⟨.int, rfl, rfl⟩ dX6_why_29
  · replace h := of_ift h c1
    refine g_iconst (v := -1) C dX6_why_9 rfl ?_
    cases h
    exact hR 10 _ ⟨.int, rfl, rfl⟩ dX6_why_10
def f_X6_sign_23 (M : Mem) : Nat → Nat → Int32 → Int32 → Int32 → Int32 → Int32 → Option Int32
  | 0, _, _, _, _, _, _ => none
  | n + 1, r0, x1, x2, x3, x4, x5 => gdd (kd r0 = 7) <| obb (f_X6_of r0 x1 (0 : Int32) M) fun y202 => if y202 ≤ x5 then (some x3) else (if x4 = x2 then (obb (f_X6_wordOf r0 x1 x5 M) fun y222 => bvv ((97 : Int32) + y222) fun y224 => bvv (x4 + (1 : Int32)) fun y226 => obb (f_X6_of r0 x1 (1 : Int32) M) fun y228 => if ((y228 >>> (x5 &&& 31)) &&& (1 : Int32)) = (1 : Int32) then (if y226 = x2 then (bvv (y226 + (1 : Int32)) fun y238 => bvv (x5 + (1 : Int32)) fun y240 => (f_X6_sign_23 M n) r0 x1 x2 (44 : Int32) y238 y240) else (bvv (y226 + (1 : Int32)) fun y234 => bvv (x5 + (1 : Int32)) fun y236 => (f_X6_sign_23 M n) r0 x1 x2 y224 y234 y236)) else (bvv (x5 + (1 : Int32)) fun y231 => (f_X6_sign_23 M n) r0 x1 x2 y224 y226 y231)) else (bvv (x4 + (1 : Int32)) fun y206 => obb (f_X6_of r0 x1 (1 : Int32) M) fun y208 => if ((y208 >>> (x5 &&& 31)) &&& (1 : Int32)) = (1 : Int32) then (if y206 = x2 then (bvv (y206 + (1 : Int32)) fun y218 => bvv (x5 + (1 : Int32)) fun y220 => (f_X6_sign_23 M n) r0 x1 x2 (44 : Int32) y218 y220) else (bvv (y206 + (1 : Int32)) fun y214 => bvv (x5 + (1 : Int32)) fun y216 => (f_X6_sign_23 M n) r0 x1 x2 x3 y214 y216)) else (bvv (x5 + (1 : Int32)) fun y211 => (f_X6_sign_23 M n) r0 x1 x2 x3 y206 y211)))
set_option maxRecDepth 100000 in
set_option maxHeartbeats 4000000 in
theorem t_X6_sign_23 {w : Om} {f : Fr} {M : Mem} {r : Int32} (C : Cx w f RX6 cX6_sign 6 2) (hR : Rt w f cX6_sign (some .int) (some (.int r)) M)   : ∀ (n : Nat) (r0 : Nat) (x1 : Int32) (x2 : Int32) (x3 : Int32) (x4 : Int32) (x5 : Int32), f_X6_sign_23 M n r0 x1 x2 x3 x4 x5 = some r → Go w f 23 [some (rv w r0), some (.int x1), some (.int x2), some (.int x3), some (.int x4), some (.int x5)] [] M := by
  intro n
  induction n with
  | zero =>
    intro r0 x1 x2 x3 x4 x5 h
    cases h
  | succ n ih =>
    intro r0 x1 x2 x3 x4 x5 h
    rw [f_X6_sign_23] at h
    refine g_iload C dX6_sign_23 rfl ?_
    refine g_aload_n C dX6_sign_25 rfl rfl ?_
    refine g_iload_n C dX6_sign_26 rfl rfl ?_
    refine g_iconst (v := 0) C dX6_sign_27 rfl ?_
    obtain ⟨g201, h⟩ := of_gdd h
    obtain ⟨y202, e203, h⟩ := of_obb h
    refine g_callV (As := [.int x1, .int (0 : Int32)]) C (ct_X6_of C.wf e203) g201 lk_RX6_60 mi_X6_of (by decide) (cs_i cs_0) (by decide) dX6_sign_28 rfl ?_
    show Go w f 31 [some (rv w r0), some (.int x1), some (.int x2), some (.int x3), some (.int x4), some (.int x5)] [.int y202, .int x5] M
    refine g_icmp_ge 95 C dX6_sign_31 (by decide) (fun c204 => ?_) (fun c204 => ?_)
    · replace h := of_ift h c204
      refine g_iload_n C dX6_sign_95 rfl rfl ?_
      cases h
      exact hR 96 _ ⟨.int, rfl, rfl⟩ dX6_sign_96
    · replace h := of_iff h c204
      refine g_iload C dX6_sign_34 rfl ?_
      refine g_iload_n C dX6_sign_36 rfl rfl ?_
      refine g_icmp_ne 53 C dX6_sign_37 (by decide) (fun c205 => ?_) (fun c205 => ?_)
      · replace h := of_iff h c205
        refine g_iload_n C dX6_sign_53 rfl rfl ?_
        refine g_istore_n C dX6_sign_54 rfl (by decide) rfl (L2 := [some (rv w r0), some (.int x1), some (.int x2), some (.int x3), some (.int x4), some (.int x5)]) rfl ?_
        obtain ⟨y206, e207, h⟩ := of_bvv h
        refine g_iinc (v := y206) C dX6_sign_55 rfl e207.symm (by decide) rfl (L2 := [some (rv w r0), some (.int x1), some (.int x2), some (.int x3), some (.int y206), some (.int x5)]) rfl ?_
        refine g_aload_n C dX6_sign_58 rfl rfl ?_
        refine g_iload_n C dX6_sign_59 rfl rfl ?_
        refine g_iconst (v := 1) C dX6_sign_60 rfl ?_
        obtain ⟨y208, e209, h⟩ := of_obb h
        refine g_callV (As := [.int x1, .int (1 : Int32)]) C (ct_X6_of C.wf e209) g201 lk_RX6_60 mi_X6_of (by decide) cs_0 (by decide) dX6_sign_61 rfl ?_
        show Go w f 64 [some (rv w r0), some (.int x1), some (.int x2), some (.int x3), some (.int y206), some (.int x5)] [.int y208] M
        refine g_iload C dX6_sign_64 rfl ?_
        refine g_ishr C dX6_sign_66 ?_
        refine g_iconst (v := 1) C dX6_sign_67 rfl ?_
        refine g_iand C dX6_sign_68 ?_
        refine g_iconst (v := 1) C dX6_sign_69 rfl ?_
        refine g_icmp_ne 89 C dX6_sign_70 (by decide) (fun c210 => ?_) (fun c210 => ?_)
        · replace h := of_iff h c210
          obtain ⟨y211, e212, h⟩ := of_bvv h
          refine g_iinc (v := y211) C dX6_sign_89 rfl e212.symm (by decide) rfl (L2 := [some (rv w r0), some (.int x1), some (.int x2), some (.int x3), some (.int y206), some (.int y211)]) rfl ?_
          refine g_goto 23 C dX6_sign_92 (by decide) ?_
          exact ih r0 x1 x2 x3 y206 y211 h
        · replace h := of_ift h c210
          refine g_iload C dX6_sign_73 rfl ?_
          refine g_iload_n C dX6_sign_75 rfl rfl ?_
          refine g_icmp_ne 84 C dX6_sign_76 (by decide) (fun c213 => ?_) (fun c213 => ?_)
          · replace h := of_iff h c213
            refine g_iload_n C dX6_sign_84 rfl rfl ?_
            refine g_istore_n C dX6_sign_85 rfl (by decide) rfl (L2 := [some (rv w r0), some (.int x1), some (.int x2), some (.int x3), some (.int y206), some (.int x5)]) rfl ?_
            obtain ⟨y214, e215, h⟩ := of_bvv h
            refine g_iinc (v := y214) C dX6_sign_86 rfl e215.symm (by decide) rfl (L2 := [some (rv w r0), some (.int x1), some (.int x2), some (.int x3), some (.int y214), some (.int x5)]) rfl ?_
            obtain ⟨y216, e217, h⟩ := of_bvv h
            refine g_iinc (v := y216) C dX6_sign_89 rfl e217.symm (by decide) rfl (L2 := [some (rv w r0), some (.int x1), some (.int x2), some (.int x3), some (.int y214), some (.int y216)]) rfl ?_
            refine g_goto 23 C dX6_sign_92 (by decide) ?_
            exact ih r0 x1 x2 x3 y214 y216 h
          · replace h := of_ift h c213
            refine g_bipush (v := 44) C dX6_sign_79 rfl ?_
            refine g_goto 85 C dX6_sign_81 (by decide) ?_
            refine g_istore_n C dX6_sign_85 rfl (by decide) rfl (L2 := [some (rv w r0), some (.int x1), some (.int x2), some (.int (44 : Int32)), some (.int y206), some (.int x5)]) rfl ?_
            obtain ⟨y218, e219, h⟩ := of_bvv h
            refine g_iinc (v := y218) C dX6_sign_86 rfl e219.symm (by decide) rfl (L2 := [some (rv w r0), some (.int x1), some (.int x2), some (.int (44 : Int32)), some (.int y218), some (.int x5)]) rfl ?_
            obtain ⟨y220, e221, h⟩ := of_bvv h
            refine g_iinc (v := y220) C dX6_sign_89 rfl e221.symm (by decide) rfl (L2 := [some (rv w r0), some (.int x1), some (.int x2), some (.int (44 : Int32)), some (.int y218), some (.int y220)]) rfl ?_
            refine g_goto 23 C dX6_sign_92 (by decide) ?_
            exact ih r0 x1 x2 (44 : Int32) y218 y220 h
      · replace h := of_ift h c205
        refine g_bipush (v := 97) C dX6_sign_40 rfl ?_
        refine g_aload_n C dX6_sign_42 rfl rfl ?_
        refine g_iload_n C dX6_sign_43 rfl rfl ?_
        refine g_iload C dX6_sign_44 rfl ?_
        obtain ⟨y222, e223, h⟩ := of_obb h
        refine g_callV (As := [.int x1, .int x5]) C (ct_X6_wordOf C.wf e223) g201 lk_RX6_63 mi_X6_wordOf (by decide) (cs_i cs_0) (by decide) dX6_sign_46 rfl ?_
        show Go w f 49 [some (rv w r0), some (.int x1), some (.int x2), some (.int x3), some (.int x4), some (.int x5)] [.int y222, .int (97 : Int32)] M
        refine g_iadd C dX6_sign_49 ?_
        refine g_goto 54 C dX6_sign_50 (by decide) ?_
        obtain ⟨y224, e225, h⟩ := of_bvv h
        refine g_topi e225 ?_
        refine g_istore_n C dX6_sign_54 rfl (by decide) rfl (L2 := [some (rv w r0), some (.int x1), some (.int x2), some (.int y224), some (.int x4), some (.int x5)]) rfl ?_
        obtain ⟨y226, e227, h⟩ := of_bvv h
        refine g_iinc (v := y226) C dX6_sign_55 rfl e227.symm (by decide) rfl (L2 := [some (rv w r0), some (.int x1), some (.int x2), some (.int y224), some (.int y226), some (.int x5)]) rfl ?_
        refine g_aload_n C dX6_sign_58 rfl rfl ?_
        refine g_iload_n C dX6_sign_59 rfl rfl ?_
        refine g_iconst (v := 1) C dX6_sign_60 rfl ?_
        obtain ⟨y228, e229, h⟩ := of_obb h
        refine g_callV (As := [.int x1, .int (1 : Int32)]) C (ct_X6_of C.wf e229) g201 lk_RX6_60 mi_X6_of (by decide) cs_0 (by decide) dX6_sign_61 rfl ?_
        show Go w f 64 [some (rv w r0), some (.int x1), some (.int x2), some (.int y224), some (.int y226), some (.int x5)] [.int y228] M
        refine g_iload C dX6_sign_64 rfl ?_
        refine g_ishr C dX6_sign_66 ?_
        refine g_iconst (v := 1) C dX6_sign_67 rfl ?_
        refine g_iand C dX6_sign_68 ?_
        refine g_iconst (v := 1) C dX6_sign_69 rfl ?_
        refine g_icmp_ne 89 C dX6_sign_70 (by decide) (fun c230 => ?_) (fun c230 => ?_)
        · replace h := of_iff h c230
          obtain ⟨y231, e232, h⟩ := of_bvv h
          refine g_iinc (v := y231) C dX6_sign_89 rfl e232.symm (by decide) rfl (L2 := [some (rv w r0), some (.int x1), some (.int x2), some (.int y224), some (.int y226), some (.int y231)]) rfl ?_
          refine g_goto 23 C dX6_sign_92 (by decide) ?_
          exact ih r0 x1 x2 y224 y226 y231 h
        · replace h := of_ift h c230
          refine g_iload C dX6_sign_73 rfl ?_
          refine g_iload_n C dX6_sign_75 rfl rfl ?_
          refine g_icmp_ne 84 C dX6_sign_76 (by decide) (fun c233 => ?_) (fun c233 => ?_)
          · replace h := of_iff h c233
            refine g_iload_n C dX6_sign_84 rfl rfl ?_
            refine g_istore_n C dX6_sign_85 rfl (by decide) rfl (L2 := [some (rv w r0), some (.int x1), some (.int x2), some (.int y224), some (.int y226), some (.int x5)]) rfl ?_
            obtain ⟨y234, e235, h⟩ := of_bvv h
            refine g_iinc (v := y234) C dX6_sign_86 rfl e235.symm (by decide) rfl (L2 := [some (rv w r0), some (.int x1), some (.int x2), some (.int y224), some (.int y234), some (.int x5)]) rfl ?_
            obtain ⟨y236, e237, h⟩ := of_bvv h
            refine g_iinc (v := y236) C dX6_sign_89 rfl e237.symm (by decide) rfl (L2 := [some (rv w r0), some (.int x1), some (.int x2), some (.int y224), some (.int y234), some (.int y236)]) rfl ?_
            refine g_goto 23 C dX6_sign_92 (by decide) ?_
            exact ih r0 x1 x2 y224 y234 y236 h
          · replace h := of_ift h c233
            refine g_bipush (v := 44) C dX6_sign_79 rfl ?_
            refine g_goto 85 C dX6_sign_81 (by decide) ?_
            refine g_istore_n C dX6_sign_85 rfl (by decide) rfl (L2 := [some (rv w r0), some (.int x1), some (.int x2), some (.int (44 : Int32)), some (.int y226), some (.int x5)]) rfl ?_
            obtain ⟨y238, e239, h⟩ := of_bvv h
            refine g_iinc (v := y238) C dX6_sign_86 rfl e239.symm (by decide) rfl (L2 := [some (rv w r0), some (.int x1), some (.int x2), some (.int (44 : Int32)), some (.int y238), some (.int x5)]) rfl ?_
            obtain ⟨y240, e241, h⟩ := of_bvv h
            refine g_iinc (v := y240) C dX6_sign_89 rfl e241.symm (by decide) rfl (L2 := [some (rv w r0), some (.int x1), some (.int x2), some (.int (44 : Int32)), some (.int y238), some (.int y240)]) rfl ?_
            refine g_goto 23 C dX6_sign_92 (by decide) ?_
            exact ih r0 x1 x2 (44 : Int32) y238 y240 h
def f_X6_sign (r0 : Nat) (x1 : Int32) (x2 : Int32) (M : Mem) : Option Int32 := gdd (kd r0 = 7) <| obb (f_X6_isEdition r0 x1 M) fun y2 => if y2 = 0 then (some (-1 : Int32)) else (if 0 ≤ x2 then (f_X6_sign_23 M FU r0 x1 x2 (-4 : Int32) (0 : Int32) (0 : Int32)) else (some (-1 : Int32)))
set_option maxRecDepth 100000 in
set_option maxHeartbeats 4000000 in
theorem ct_X6_sign {l : Launch} {w : Om} (hw : Wf w) {r0 : Nat} {x1 : Int32} {x2 : Int32}  {M : Mem} {r : Int32} (h : f_X6_sign r0 x1 x2 M = some r) : Ct l w yX6_sign cX6_sign 6 (some .int) 2 [rv w r0, .int x1, .int x2] M (some (.int r)) M := by
  refine ct_of hw (by decide) (cat_s (rv_cat _ _) (cat_s rfl (cat_s rfl cat_0))) (Nat.le_of_ble_eq_true rfl) (fun f _ C hR => ?_)
  show Go w f 0 [some (rv w r0), some (.int x1), some (.int x2), none, none, none] [] M
  unfold f_X6_sign at h
  refine g_aload_n C dX6_sign_0 rfl rfl ?_
  refine g_iload_n C dX6_sign_1 rfl rfl ?_
  obtain ⟨g1, h⟩ := of_gdd h
  obtain ⟨y2, e3, h⟩ := of_obb h
  refine g_callV (As := [.int x1]) C (ct_X6_isEdition C.wf e3) g1 lk_RX6_57 mi_X6_isEdition (by decide) cs_0 (by decide) dX6_sign_2 rfl ?_
  show Go w f 5 [some (rv w r0), some (.int x1), some (.int x2), none, none, none] [.int y2] M
  refine g_if_eq 12 C dX6_sign_5 (by decide) (fun c4 => ?_) (fun c4 => ?_)
  · replace h := of_ift h c4
    refine g_iconst (v := -1) C dX6_sign_12 rfl ?_
    cases h
    exact hR 13 _ ⟨.int, rfl, rfl⟩ dX6_sign_13
  · replace h := of_iff h c4
    refine g_iload_n C dX6_sign_8 rfl rfl ?_
    refine g_if_ge 14 C dX6_sign_9 (by decide) (fun c5 => ?_) (fun c5 => ?_)
    · replace h := of_ift h c5
      refine g_bipush (v := -4) C dX6_sign_14 rfl ?_
      refine g_istore_n C dX6_sign_16 rfl (by decide) rfl (L2 := [some (rv w r0), some (.int x1), some (.int x2), some (.int (-4 : Int32)), none, none]) rfl ?_
      refine g_iconst (v := 0) C dX6_sign_17 rfl ?_
      refine g_istore C dX6_sign_18 (by decide) rfl (L2 := [some (rv w r0), some (.int x1), some (.int x2), some (.int (-4 : Int32)), some (.int (0 : Int32)), none]) rfl ?_
      refine g_iconst (v := 0) C dX6_sign_20 rfl ?_
      refine g_istore C dX6_sign_21 (by decide) rfl (L2 := [some (rv w r0), some (.int x1), some (.int x2), some (.int (-4 : Int32)), some (.int (0 : Int32)), some (.int (0 : Int32))]) rfl ?_
      exact t_X6_sign_23 C hR _ r0 x1 x2 (-4 : Int32) (0 : Int32) (0 : Int32) h
    · replace h := of_iff h c5
      refine g_iconst (v := -1) C dX6_sign_12 rfl ?_
      cases h
      exact hR 13 _ ⟨.int, rfl, rfl⟩ dX6_sign_13
def f_X6_ones_4 : Nat → Int32 → Int32 → Int32 → Option Int32
  | 0, _, _, _ => none
  | n + 1, x0, x1, x2 => if (12 : Int32) ≤ x2 then (some x1) else (bvv (x1 + ((x0 >>> (x2 &&& 31)) &&& (1 : Int32))) fun y202 => bvv (x2 + (1 : Int32)) fun y204 => (f_X6_ones_4 n) x0 y202 y204)
set_option maxRecDepth 100000 in
set_option maxHeartbeats 4000000 in
theorem t_X6_ones_4 {w : Om} {f : Fr} {M : Mem} {r : Int32} (C : Cx w f RX6 cX6_ones 3 0) (hR : Rt w f cX6_ones (some .int) (some (.int r)) M)   : ∀ (n : Nat) (x0 : Int32) (x1 : Int32) (x2 : Int32), f_X6_ones_4 n x0 x1 x2 = some r → Go w f 4 [some (.int x0), some (.int x1), some (.int x2)] [] M := by
  intro n
  induction n with
  | zero =>
    intro x0 x1 x2 h
    cases h
  | succ n ih =>
    intro x0 x1 x2 h
    rw [f_X6_ones_4] at h
    refine g_iload_n C dX6_ones_4 rfl rfl ?_
    refine g_bipush (v := 12) C dX6_ones_5 rfl ?_
    refine g_icmp_ge 24 C dX6_ones_7 (by decide) (fun c201 => ?_) (fun c201 => ?_)
    · replace h := of_ift h c201
      refine g_iload_n C dX6_ones_24 rfl rfl ?_
      cases h
      exact hR 25 _ ⟨.int, rfl, rfl⟩ dX6_ones_25
    · replace h := of_iff h c201
      refine g_iload_n C dX6_ones_10 rfl rfl ?_
      refine g_iload_n C dX6_ones_11 rfl rfl ?_
      refine g_iload_n C dX6_ones_12 rfl rfl ?_
      refine g_ishr C dX6_ones_13 ?_
      refine g_iconst (v := 1) C dX6_ones_14 rfl ?_
      refine g_iand C dX6_ones_15 ?_
      refine g_iadd C dX6_ones_16 ?_
      obtain ⟨y202, e203, h⟩ := of_bvv h
      refine g_topi e203 ?_
      refine g_istore_n C dX6_ones_17 rfl (by decide) rfl (L2 := [some (.int x0), some (.int y202), some (.int x2)]) rfl ?_
      obtain ⟨y204, e205, h⟩ := of_bvv h
      refine g_iinc (v := y204) C dX6_ones_18 rfl e205.symm (by decide) rfl (L2 := [some (.int x0), some (.int y202), some (.int y204)]) rfl ?_
      refine g_goto 4 C dX6_ones_21 (by decide) ?_
      exact ih x0 y202 y204 h
def f_X6_ones (x0 : Int32) : Option Int32 := f_X6_ones_4 FU x0 (0 : Int32) (0 : Int32)
set_option maxRecDepth 100000 in
set_option maxHeartbeats 4000000 in
theorem ct_X6_ones {l : Launch} {w : Om} (hw : Wf w) {x0 : Int32}  {M : Mem} {r : Int32} (h : f_X6_ones x0 = some r) : Ct l w yX6_ones cX6_ones 3 (some .int) 0 [.int x0] M (some (.int r)) M := by
  refine ct_of hw (by decide) (cat_s rfl cat_0) (Nat.le_of_ble_eq_true rfl) (fun f _ C hR => ?_)
  show Go w f 0 [some (.int x0), none, none] [] M
  unfold f_X6_ones at h
  refine g_iconst (v := 0) C dX6_ones_0 rfl ?_
  refine g_istore_n C dX6_ones_1 rfl (by decide) rfl (L2 := [some (.int x0), some (.int (0 : Int32)), none]) rfl ?_
  refine g_iconst (v := 0) C dX6_ones_2 rfl ?_
  refine g_istore_n C dX6_ones_3 rfl (by decide) rfl (L2 := [some (.int x0), some (.int (0 : Int32)), some (.int (0 : Int32))]) rfl ?_
  exact t_X6_ones_4 C hR _ x0 (0 : Int32) (0 : Int32) h
def f_X6_allWeight_4 (M : Mem) : Nat → Nat → Int32 → Int32 → Int32 → Option Int32
  | 0, _, _, _, _ => none
  | n + 1, r0, x1, x2, x3 => gdd (kd r0 = 7) <| obb (f_X6_of r0 x1 (0 : Int32) M) fun y202 => if y202 ≤ x3 then (some x2) else (obb (f_X6_weightOf r0 x1 x3 M) fun y205 => bvv (x2 + y205) fun y207 => bvv (x3 + (1 : Int32)) fun y209 => (f_X6_allWeight_4 M n) r0 x1 y207 y209)
set_option maxRecDepth 100000 in
set_option maxHeartbeats 4000000 in
theorem t_X6_allWeight_4 {w : Om} {f : Fr} {M : Mem} {r : Int32} (C : Cx w f RX6 cX6_allWeight 4 3) (hR : Rt w f cX6_allWeight (some .int) (some (.int r)) M)   : ∀ (n : Nat) (r0 : Nat) (x1 : Int32) (x2 : Int32) (x3 : Int32), f_X6_allWeight_4 M n r0 x1 x2 x3 = some r → Go w f 4 [some (rv w r0), some (.int x1), some (.int x2), some (.int x3)] [] M := by
  intro n
  induction n with
  | zero =>
    intro r0 x1 x2 x3 h
    cases h
  | succ n ih =>
    intro r0 x1 x2 x3 h
    rw [f_X6_allWeight_4] at h
    refine g_iload_n C dX6_allWeight_4 rfl rfl ?_
    refine g_aload_n C dX6_allWeight_5 rfl rfl ?_
    refine g_iload_n C dX6_allWeight_6 rfl rfl ?_
    refine g_iconst (v := 0) C dX6_allWeight_7 rfl ?_
    obtain ⟨g201, h⟩ := of_gdd h
    obtain ⟨y202, e203, h⟩ := of_obb h
    refine g_callV (As := [.int x1, .int (0 : Int32)]) C (ct_X6_of C.wf e203) g201 lk_RX6_60 mi_X6_of (by decide) (cs_i cs_0) (by decide) dX6_allWeight_8 rfl ?_
    show Go w f 11 [some (rv w r0), some (.int x1), some (.int x2), some (.int x3)] [.int y202, .int x3] M
    refine g_icmp_ge 29 C dX6_allWeight_11 (by decide) (fun c204 => ?_) (fun c204 => ?_)
    · replace h := of_ift h c204
      refine g_iload_n C dX6_allWeight_29 rfl rfl ?_
      cases h
      exact hR 30 _ ⟨.int, rfl, rfl⟩ dX6_allWeight_30
    · replace h := of_iff h c204
      refine g_iload_n C dX6_allWeight_14 rfl rfl ?_
      refine g_aload_n C dX6_allWeight_15 rfl rfl ?_
      refine g_iload_n C dX6_allWeight_16 rfl rfl ?_
      refine g_iload_n C dX6_allWeight_17 rfl rfl ?_
      obtain ⟨y205, e206, h⟩ := of_obb h
      refine g_callV (As := [.int x1, .int x3]) C (ct_X6_weightOf C.wf e206) g201 lk_RX6_66 mi_X6_weightOf (by decide) (cs_i cs_0) (by decide) dX6_allWeight_18 rfl ?_
      show Go w f 21 [some (rv w r0), some (.int x1), some (.int x2), some (.int x3)] [.int y205, .int x2] M
      refine g_iadd C dX6_allWeight_21 ?_
      obtain ⟨y207, e208, h⟩ := of_bvv h
      refine g_topi e208 ?_
      refine g_istore_n C dX6_allWeight_22 rfl (by decide) rfl (L2 := [some (rv w r0), some (.int x1), some (.int y207), some (.int x3)]) rfl ?_
      obtain ⟨y209, e210, h⟩ := of_bvv h
      refine g_iinc (v := y209) C dX6_allWeight_23 rfl e210.symm (by decide) rfl (L2 := [some (rv w r0), some (.int x1), some (.int y207), some (.int y209)]) rfl ?_
      refine g_goto 4 C dX6_allWeight_26 (by decide) ?_
      exact ih r0 x1 y207 y209 h
def f_X6_allWeight (r0 : Nat) (x1 : Int32) (M : Mem) : Option Int32 := f_X6_allWeight_4 M FU r0 x1 (0 : Int32) (0 : Int32)
set_option maxRecDepth 100000 in
set_option maxHeartbeats 4000000 in
theorem ct_X6_allWeight {l : Launch} {w : Om} (hw : Wf w) {r0 : Nat} {x1 : Int32}  {M : Mem} {r : Int32} (h : f_X6_allWeight r0 x1 M = some r) : Ct l w yX6_allWeight cX6_allWeight 4 (some .int) 3 [rv w r0, .int x1] M (some (.int r)) M := by
  refine ct_of hw (by decide) (cat_s (rv_cat _ _) (cat_s rfl cat_0)) (Nat.le_of_ble_eq_true rfl) (fun f _ C hR => ?_)
  show Go w f 0 [some (rv w r0), some (.int x1), none, none] [] M
  unfold f_X6_allWeight at h
  refine g_iconst (v := 0) C dX6_allWeight_0 rfl ?_
  refine g_istore_n C dX6_allWeight_1 rfl (by decide) rfl (L2 := [some (rv w r0), some (.int x1), some (.int (0 : Int32)), none]) rfl ?_
  refine g_iconst (v := 0) C dX6_allWeight_2 rfl ?_
  refine g_istore_n C dX6_allWeight_3 rfl (by decide) rfl (L2 := [some (rv w r0), some (.int x1), some (.int (0 : Int32)), some (.int (0 : Int32))]) rfl ?_
  exact t_X6_allWeight_4 C hR _ r0 x1 (0 : Int32) (0 : Int32) h
def f_X6_edition (r0 : Nat) (x1 : Int32) (x2 : Int32) (M : Mem) : Option Int32 := gdd (kd r0 = 7) <| obb (f_X6_isEdition r0 x1 M) fun y2 => if y2 = 0 then (some (-1 : Int32)) else (obb (f_X6_of r0 x1 (1 : Int32) M) fun y5 => if x2 = nI 0 then (obb (f_X6_of r0 x1 (0 : Int32) M) fun y8 => some y8) else if x2 = nI 1 then (some y5) else if x2 = nI 2 then (obb (f_X6_ones y5) fun y12 => some (y12 + (1 : Int32))) else if x2 = nI 3 then (obb (f_X6_allWeight r0 x1 M) fun y15 => some y15) else if x2 = nI 4 then (obb (f_X6_clauseCost r0 x1 y5 M) fun y18 => some y18) else if x2 = nI 5 then (obb (f_X6_finesOf r0 x1 y5 M) fun y21 => some y21) else if x2 = nI 6 then (obb (f_X6_costOf r0 x1 M) fun y24 => some y24) else if x2 = nI 7 then (obb (f_X6_isStayed r0 x1 M) fun y27 => if y27 = 0 then (some (0 : Int32)) else (some (1 : Int32))) else if x2 = nI 8 then (obb (f_X6_of r0 x1 (2 : Int32) M) fun y31 => some y31) else if x2 = nI 9 then (obb (f_X6_of r0 x1 (3 : Int32) M) fun y34 => some y34) else (some (-1 : Int32)))
set_option maxRecDepth 100000 in
set_option maxHeartbeats 4000000 in
theorem ct_X6_edition {l : Launch} {w : Om} (hw : Wf w) {r0 : Nat} {x1 : Int32} {x2 : Int32}  {M : Mem} {r : Int32} (h : f_X6_edition r0 x1 x2 M = some r) : Ct l w yX6_edition cX6_edition 4 (some .int) 8 [rv w r0, .int x1, .int x2] M (some (.int r)) M := by
  refine ct_of hw (by decide) (cat_s (rv_cat _ _) (cat_s rfl (cat_s rfl cat_0))) (Nat.le_of_ble_eq_true rfl) (fun f _ C hR => ?_)
  show Go w f 0 [some (rv w r0), some (.int x1), some (.int x2), none] [] M
  unfold f_X6_edition at h
  refine g_aload_n C dX6_edition_0 rfl rfl ?_
  refine g_iload_n C dX6_edition_1 rfl rfl ?_
  obtain ⟨g1, h⟩ := of_gdd h
  obtain ⟨y2, e3, h⟩ := of_obb h
  refine g_callV (As := [.int x1]) C (ct_X6_isEdition C.wf e3) g1 lk_RX6_57 mi_X6_isEdition (by decide) cs_0 (by decide) dX6_edition_2 rfl ?_
  show Go w f 5 [some (rv w r0), some (.int x1), some (.int x2), none] [.int y2] M
  refine g_if_ne 10 C dX6_edition_5 (by decide) (fun c4 => ?_) (fun c4 => ?_)
  · replace h := of_iff h c4
    refine g_aload_n C dX6_edition_10 rfl rfl ?_
    refine g_iload_n C dX6_edition_11 rfl rfl ?_
    refine g_iconst (v := 1) C dX6_edition_12 rfl ?_
    obtain ⟨y5, e6, h⟩ := of_obb h
    refine g_callV (As := [.int x1, .int (1 : Int32)]) C (ct_X6_of C.wf e6) g1 lk_RX6_60 mi_X6_of (by decide) cs_0 (by decide) dX6_edition_13 rfl ?_
    show Go w f 16 [some (rv w r0), some (.int x1), some (.int x2), none] [.int y5] M
    refine g_istore_n C dX6_edition_16 rfl (by decide) rfl (L2 := [some (rv w r0), some (.int x1), some (.int x2), some (.int y5)]) rfl ?_
    refine g_iload_n C dX6_edition_17 rfl rfl ?_
    by_cases c7 : x2 = nI 0
    · replace h := of_ift h c7
      refine g_tsI (nI 0) (54) 72 C dX6_edition_18 c7 (by decide) (by decide) rfl (by decide) ?_
      refine g_aload_n C dX6_edition_72 rfl rfl ?_
      refine g_iload_n C dX6_edition_73 rfl rfl ?_
      refine g_iconst (v := 0) C dX6_edition_74 rfl ?_
      obtain ⟨y8, e9, h⟩ := of_obb h
      refine g_callV (As := [.int x1, .int (0 : Int32)]) C (ct_X6_of C.wf e9) g1 lk_RX6_60 mi_X6_of (by decide) cs_0 (by decide) dX6_edition_75 rfl ?_
      show Go w f 78 [some (rv w r0), some (.int x1), some (.int x2), some (.int y5)] [.int y8] M
      cases h
      exact hR 78 _ ⟨.int, rfl, rfl⟩ dX6_edition_78
    replace h := of_iff h c7
    by_cases c10 : x2 = nI 1
    · replace h := of_ift h c10
      refine g_tsI (nI 1) (61) 79 C dX6_edition_18 c10 (by decide) (by decide) rfl (by decide) ?_
      refine g_iload_n C dX6_edition_79 rfl rfl ?_
      cases h
      exact hR 80 _ ⟨.int, rfl, rfl⟩ dX6_edition_80
    replace h := of_iff h c10
    by_cases c11 : x2 = nI 2
    · replace h := of_ift h c11
      refine g_tsI (nI 2) (63) 81 C dX6_edition_18 c11 (by decide) (by decide) rfl (by decide) ?_
      refine g_iload_n C dX6_edition_81 rfl rfl ?_
      obtain ⟨y12, e13, h⟩ := of_obb h
      refine g_callS (As := [.int y5]) C (ct_X6_ones C.wf e13) lk_RX6_189 mi_X6_ones (by decide) cs_0 (by decide) dX6_edition_82 rfl ?_
      show Go w f 85 [some (rv w r0), some (.int x1), some (.int x2), some (.int y5)] [.int y12] M
      refine g_iconst (v := 1) C dX6_edition_85 rfl ?_
      refine g_iadd C dX6_edition_86 ?_
      cases h
      exact hR 87 _ ⟨.int, rfl, rfl⟩ dX6_edition_87
    replace h := of_iff h c11
    by_cases c14 : x2 = nI 3
    · replace h := of_ift h c14
      refine g_tsI (nI 3) (70) 88 C dX6_edition_18 c14 (by decide) (by decide) rfl (by decide) ?_
      refine g_aload_n C dX6_edition_88 rfl rfl ?_
      refine g_iload_n C dX6_edition_89 rfl rfl ?_
      obtain ⟨y15, e16, h⟩ := of_obb h
      refine g_callV (As := [.int x1]) C (ct_X6_allWeight C.wf e16) g1 lk_RX6_192 mi_X6_allWeight (by decide) cs_0 (by decide) dX6_edition_90 rfl ?_
      show Go w f 93 [some (rv w r0), some (.int x1), some (.int x2), some (.int y5)] [.int y15] M
      cases h
      exact hR 93 _ ⟨.int, rfl, rfl⟩ dX6_edition_93
    replace h := of_iff h c14
    by_cases c17 : x2 = nI 4
    · replace h := of_ift h c17
      refine g_tsI (nI 4) (76) 94 C dX6_edition_18 c17 (by decide) (by decide) rfl (by decide) ?_
      refine g_aload_n C dX6_edition_94 rfl rfl ?_
      refine g_iload_n C dX6_edition_95 rfl rfl ?_
      refine g_iload_n C dX6_edition_96 rfl rfl ?_
      obtain ⟨y18, e19, h⟩ := of_obb h
      refine g_callV (As := [.int x1, .int y5]) C (ct_X6_clauseCost C.wf e19) g1 lk_RX6_80 mi_X6_clauseCost (by decide) cs_0 (by decide) dX6_edition_97 rfl ?_
      show Go w f 100 [some (rv w r0), some (.int x1), some (.int x2), some (.int y5)] [.int y18] M
      cases h
      exact hR 100 _ ⟨.int, rfl, rfl⟩ dX6_edition_100
    replace h := of_iff h c17
    by_cases c20 : x2 = nI 5
    · replace h := of_ift h c20
      refine g_tsI (nI 5) (83) 101 C dX6_edition_18 c20 (by decide) (by decide) rfl (by decide) ?_
      refine g_aload_n C dX6_edition_101 rfl rfl ?_
      refine g_iload_n C dX6_edition_102 rfl rfl ?_
      refine g_iload_n C dX6_edition_103 rfl rfl ?_
      obtain ⟨y21, e22, h⟩ := of_obb h
      refine g_callV (As := [.int x1, .int y5]) C (ct_X6_finesOf C.wf e22) g1 lk_RX6_83 mi_X6_finesOf (by decide) cs_0 (by decide) dX6_edition_104 rfl ?_
      show Go w f 107 [some (rv w r0), some (.int x1), some (.int x2), some (.int y5)] [.int y21] M
      cases h
      exact hR 107 _ ⟨.int, rfl, rfl⟩ dX6_edition_107
    replace h := of_iff h c20
    by_cases c23 : x2 = nI 6
    · replace h := of_ift h c23
      refine g_tsI (nI 6) (90) 108 C dX6_edition_18 c23 (by decide) (by decide) rfl (by decide) ?_
      refine g_aload_n C dX6_edition_108 rfl rfl ?_
      refine g_iload_n C dX6_edition_109 rfl rfl ?_
      obtain ⟨y24, e25, h⟩ := of_obb h
      refine g_callV (As := [.int x1]) C (ct_X6_costOf C.wf e25) g1 lk_RX6_89 mi_X6_costOf (by decide) cs_0 (by decide) dX6_edition_110 rfl ?_
      show Go w f 113 [some (rv w r0), some (.int x1), some (.int x2), some (.int y5)] [.int y24] M
      cases h
      exact hR 113 _ ⟨.int, rfl, rfl⟩ dX6_edition_113
    replace h := of_iff h c23
    by_cases c26 : x2 = nI 7
    · replace h := of_ift h c26
      refine g_tsI (nI 7) (96) 114 C dX6_edition_18 c26 (by decide) (by decide) rfl (by decide) ?_
      refine g_aload_n C dX6_edition_114 rfl rfl ?_
      refine g_iload_n C dX6_edition_115 rfl rfl ?_
      obtain ⟨y27, e28, h⟩ := of_obb h
      refine g_callV (As := [.int x1]) C (ct_X6_isStayed C.wf e28) g1 lk_RX6_96 mi_X6_isStayed (by decide) cs_0 (by decide) dX6_edition_116 rfl ?_
      show Go w f 119 [some (rv w r0), some (.int x1), some (.int x2), some (.int y5)] [.int y27] M
      refine g_if_eq 126 C dX6_edition_119 (by decide) (fun c29 => ?_) (fun c29 => ?_)
      · replace h := of_ift h c29
        refine g_iconst (v := 0) C dX6_edition_126 rfl ?_
        cases h
        exact hR 127 _ ⟨.int, rfl, rfl⟩ dX6_edition_127
      · replace h := of_iff h c29
        refine g_iconst (v := 1) C dX6_edition_122 rfl ?_
        refine g_goto 127 C dX6_edition_123 (by decide) ?_
        cases h
        exact hR 127 _ ⟨.int, rfl, rfl⟩ dX6_edition_127
    replace h := of_iff h c26
    by_cases c30 : x2 = nI 8
    · replace h := of_ift h c30
      refine g_tsI (nI 8) (110) 128 C dX6_edition_18 c30 (by decide) (by decide) rfl (by decide) ?_
      refine g_aload_n C dX6_edition_128 rfl rfl ?_
      refine g_iload_n C dX6_edition_129 rfl rfl ?_
      refine g_iconst (v := 2) C dX6_edition_130 rfl ?_
      obtain ⟨y31, e32, h⟩ := of_obb h
      refine g_callV (As := [.int x1, .int (2 : Int32)]) C (ct_X6_of C.wf e32) g1 lk_RX6_60 mi_X6_of (by decide) cs_0 (by decide) dX6_edition_131 rfl ?_
      show Go w f 134 [some (rv w r0), some (.int x1), some (.int x2), some (.int y5)] [.int y31] M
      cases h
      exact hR 134 _ ⟨.int, rfl, rfl⟩ dX6_edition_134
    replace h := of_iff h c30
    by_cases c33 : x2 = nI 9
    · replace h := of_ift h c33
      refine g_tsI (nI 9) (117) 135 C dX6_edition_18 c33 (by decide) (by decide) rfl (by decide) ?_
      refine g_aload_n C dX6_edition_135 rfl rfl ?_
      refine g_iload_n C dX6_edition_136 rfl rfl ?_
      refine g_iconst (v := 3) C dX6_edition_137 rfl ?_
      obtain ⟨y34, e35, h⟩ := of_obb h
      refine g_callV (As := [.int x1, .int (3 : Int32)]) C (ct_X6_of C.wf e35) g1 lk_RX6_60 mi_X6_of (by decide) cs_0 (by decide) dX6_edition_138 rfl ?_
      show Go w f 141 [some (rv w r0), some (.int x1), some (.int x2), some (.int y5)] [.int y34] M
      cases h
      exact hR 141 _ ⟨.int, rfl, rfl⟩ dX6_edition_141
    replace h := of_iff h c33
    refine g_tsD 10 142 C dX6_edition_18 (by decide) rfl rfl (p_lt (lt_s (lt_s (lt_s (lt_s (lt_s (lt_s (lt_s (lt_s (lt_s (lt_s lt_0 c7) c10) c11) c14) c17) c20) c23) c26) c30) c33)) (by decide) ?_
    refine g_iconst (v := -1) C dX6_edition_142 rfl ?_
    cases h
    exact hR 143 _ ⟨.int, rfl, rfl⟩ dX6_edition_143
  · replace h := of_ift h c4
    refine g_iconst (v := -1) C dX6_edition_8 rfl ?_
    cases h
    exact hR 9 _ ⟨.int, rfl, rfl⟩ dX6_edition_9
def f_X6_gap (r0 : Nat) (x1 : Int32) (x2 : Int32) (x3 : Int32) (M : Mem) : Option Int32 := gdd (kd r0 = 7) <| obb (f_X6_isGap r0 x1 x2 M) fun y2 => if y2 = 0 then (some (-1 : Int32)) else (obb (f_X6_of r0 x1 (1 : Int32) M) fun y5 => if x3 = nI 0 then (some ((y5 >>> (x2 &&& 31)) &&& (1 : Int32))) else if x3 = nI 1 then (obb (f_X6_rulingOf r0 x1 x2 M) fun y9 => some y9) else if x3 = nI 2 then (obb (f_X6_fineOf r0 x1 x2 y5 M) fun y12 => some y12) else if x3 = nI 3 then (obb (f_X6_costBy r0 x1 (y5 ^^^ ((1 : Int32) <<< (x2 &&& 31))) M) fun y15 => obb (f_X6_costOf r0 x1 M) fun y17 => some (((1000 : Int32) + y15) - y17)) else (some (-1 : Int32)))
set_option maxRecDepth 100000 in
set_option maxHeartbeats 4000000 in
theorem ct_X6_gap {l : Launch} {w : Om} (hw : Wf w) {r0 : Nat} {x1 : Int32} {x2 : Int32} {x3 : Int32}  {M : Mem} {r : Int32} (h : f_X6_gap r0 x1 x2 x3 M = some r) : Ct l w yX6_gap cX6_gap 5 (some .int) 8 [rv w r0, .int x1, .int x2, .int x3] M (some (.int r)) M := by
  refine ct_of hw (by decide) (cat_s (rv_cat _ _) (cat_s rfl (cat_s rfl (cat_s rfl cat_0)))) (Nat.le_of_ble_eq_true rfl) (fun f _ C hR => ?_)
  show Go w f 0 [some (rv w r0), some (.int x1), some (.int x2), some (.int x3), none] [] M
  unfold f_X6_gap at h
  refine g_aload_n C dX6_gap_0 rfl rfl ?_
  refine g_iload_n C dX6_gap_1 rfl rfl ?_
  refine g_iload_n C dX6_gap_2 rfl rfl ?_
  obtain ⟨g1, h⟩ := of_gdd h
  obtain ⟨y2, e3, h⟩ := of_obb h
  refine g_callV (As := [.int x1, .int x2]) C (ct_X6_isGap C.wf e3) g1 lk_RX6_129 mi_X6_isGap (by decide) cs_0 (by decide) dX6_gap_3 rfl ?_
  show Go w f 6 [some (rv w r0), some (.int x1), some (.int x2), some (.int x3), none] [.int y2] M
  refine g_if_ne 11 C dX6_gap_6 (by decide) (fun c4 => ?_) (fun c4 => ?_)
  · replace h := of_iff h c4
    refine g_aload_n C dX6_gap_11 rfl rfl ?_
    refine g_iload_n C dX6_gap_12 rfl rfl ?_
    refine g_iconst (v := 1) C dX6_gap_13 rfl ?_
    obtain ⟨y5, e6, h⟩ := of_obb h
    refine g_callV (As := [.int x1, .int (1 : Int32)]) C (ct_X6_of C.wf e6) g1 lk_RX6_60 mi_X6_of (by decide) cs_0 (by decide) dX6_gap_14 rfl ?_
    show Go w f 17 [some (rv w r0), some (.int x1), some (.int x2), some (.int x3), none] [.int y5] M
    refine g_istore C dX6_gap_17 (by decide) rfl (L2 := [some (rv w r0), some (.int x1), some (.int x2), some (.int x3), some (.int y5)]) rfl ?_
    refine g_iload_n C dX6_gap_19 rfl rfl ?_
    by_cases c7 : x3 = nI 0
    · replace h := of_ift h c7
      refine g_tsI (nI 0) (32) 52 C dX6_gap_20 c7 (by decide) (by decide) rfl (by decide) ?_
      refine g_iload C dX6_gap_52 rfl ?_
      refine g_iload_n C dX6_gap_54 rfl rfl ?_
      refine g_ishr C dX6_gap_55 ?_
      refine g_iconst (v := 1) C dX6_gap_56 rfl ?_
      refine g_iand C dX6_gap_57 ?_
      cases h
      exact hR 58 _ ⟨.int, rfl, rfl⟩ dX6_gap_58
    replace h := of_iff h c7
    by_cases c8 : x3 = nI 1
    · replace h := of_ift h c8
      refine g_tsI (nI 1) (39) 59 C dX6_gap_20 c8 (by decide) (by decide) rfl (by decide) ?_
      refine g_aload_n C dX6_gap_59 rfl rfl ?_
      refine g_iload_n C dX6_gap_60 rfl rfl ?_
      refine g_iload_n C dX6_gap_61 rfl rfl ?_
      obtain ⟨y9, e10, h⟩ := of_obb h
      refine g_callV (As := [.int x1, .int x2]) C (ct_X6_rulingOf C.wf e10) g1 lk_RX6_73 mi_X6_rulingOf (by decide) cs_0 (by decide) dX6_gap_62 rfl ?_
      show Go w f 65 [some (rv w r0), some (.int x1), some (.int x2), some (.int x3), some (.int y5)] [.int y9] M
      cases h
      exact hR 65 _ ⟨.int, rfl, rfl⟩ dX6_gap_65
    replace h := of_iff h c8
    by_cases c11 : x3 = nI 2
    · replace h := of_ift h c11
      refine g_tsI (nI 2) (46) 66 C dX6_gap_20 c11 (by decide) (by decide) rfl (by decide) ?_
      refine g_aload_n C dX6_gap_66 rfl rfl ?_
      refine g_iload_n C dX6_gap_67 rfl rfl ?_
      refine g_iload_n C dX6_gap_68 rfl rfl ?_
      refine g_iload C dX6_gap_69 rfl ?_
      obtain ⟨y12, e13, h⟩ := of_obb h
      refine g_callV (As := [.int x1, .int x2, .int y5]) C (ct_X6_fineOf C.wf e13) g1 lk_RX6_76 mi_X6_fineOf (by decide) cs_0 (by decide) dX6_gap_71 rfl ?_
      show Go w f 74 [some (rv w r0), some (.int x1), some (.int x2), some (.int x3), some (.int y5)] [.int y12] M
      cases h
      exact hR 74 _ ⟨.int, rfl, rfl⟩ dX6_gap_74
    replace h := of_iff h c11
    by_cases c14 : x3 = nI 3
    · replace h := of_ift h c14
      refine g_tsI (nI 3) (55) 75 C dX6_gap_20 c14 (by decide) (by decide) rfl (by decide) ?_
      refine g_sipush (v := 1000) C dX6_gap_75 rfl ?_
      refine g_aload_n C dX6_gap_78 rfl rfl ?_
      refine g_iload_n C dX6_gap_79 rfl rfl ?_
      refine g_iload C dX6_gap_80 rfl ?_
      refine g_iconst (v := 1) C dX6_gap_82 rfl ?_
      refine g_iload_n C dX6_gap_83 rfl rfl ?_
      refine g_ishl C dX6_gap_84 ?_
      refine g_ixor C dX6_gap_85 ?_
      obtain ⟨y15, e16, h⟩ := of_obb h
      refine g_callV (As := [.int x1, .int (y5 ^^^ ((1 : Int32) <<< (x2 &&& 31)))]) C (ct_X6_costBy C.wf e16) g1 lk_RX6_86 mi_X6_costBy (by decide) (cs_i cs_0) (by decide) dX6_gap_86 rfl ?_
      show Go w f 89 [some (rv w r0), some (.int x1), some (.int x2), some (.int x3), some (.int y5)] [.int y15, .int (1000 : Int32)] M
      refine g_iadd C dX6_gap_89 ?_
      refine g_aload_n C dX6_gap_90 rfl rfl ?_
      refine g_iload_n C dX6_gap_91 rfl rfl ?_
      obtain ⟨y17, e18, h⟩ := of_obb h
      refine g_callV (As := [.int x1]) C (ct_X6_costOf C.wf e18) g1 lk_RX6_89 mi_X6_costOf (by decide) (cs_i cs_0) (by decide) dX6_gap_92 rfl ?_
      show Go w f 95 [some (rv w r0), some (.int x1), some (.int x2), some (.int x3), some (.int y5)] [.int y17, .int ((1000 : Int32) + y15)] M
      refine g_isub C dX6_gap_95 ?_
      cases h
      exact hR 96 _ ⟨.int, rfl, rfl⟩ dX6_gap_96
    replace h := of_iff h c14
    refine g_tsD 4 97 C dX6_gap_20 (by decide) rfl rfl (p_lt (lt_s (lt_s (lt_s (lt_s lt_0 c7) c8) c11) c14)) (by decide) ?_
    refine g_iconst (v := -1) C dX6_gap_97 rfl ?_
    cases h
    exact hR 98 _ ⟨.int, rfl, rfl⟩ dX6_gap_98
  · replace h := of_ift h c4
    refine g_iconst (v := -1) C dX6_gap_9 rfl ?_
    cases h
    exact hR 10 _ ⟨.int, rfl, rfl⟩ dX6_gap_10
def f_X6_doesCount (r0 : Nat) (x1 : Int32) (M : Mem) : Option Int32 := gdd (kd r0 = 7) <| obb (f_X6_ofRuling r0 x1 (0 : Int32) M) fun y2 => obb (f_X6_ofRuling r0 x1 (1 : Int32) M) fun y4 => obb (f_X6_counting r0 y2 y4 M) fun y6 => if y6 = x1 then (some (1 : Int32)) else (some (0 : Int32))
set_option maxRecDepth 100000 in
set_option maxHeartbeats 4000000 in
theorem ct_X6_doesCount {l : Launch} {w : Om} (hw : Wf w) {r0 : Nat} {x1 : Int32}  {M : Mem} {r : Int32} (h : f_X6_doesCount r0 x1 M = some r) : Ct l w yX6_doesCount cX6_doesCount 2 (some .boolean) 3 [rv w r0, .int x1] M (some (.int r)) M := by
  refine ct_of hw (by decide) (cat_s (rv_cat _ _) (cat_s rfl cat_0)) (Nat.le_of_ble_eq_true rfl) (fun f _ C hR => ?_)
  show Go w f 0 [some (rv w r0), some (.int x1)] [] M
  unfold f_X6_doesCount at h
  refine g_aload_n C dX6_doesCount_0 rfl rfl ?_
  refine g_aload_n C dX6_doesCount_1 rfl rfl ?_
  refine g_iload_n C dX6_doesCount_2 rfl rfl ?_
  refine g_iconst (v := 0) C dX6_doesCount_3 rfl ?_
  obtain ⟨g1, h⟩ := of_gdd h
  obtain ⟨y2, e3, h⟩ := of_obb h
  refine g_callV (As := [.int x1, .int (0 : Int32)]) C (ct_X6_ofRuling C.wf e3) g1 lk_RX6_46 mi_X6_ofRuling (by decide) (cs_r cs_0) (by decide) dX6_doesCount_4 rfl ?_
  show Go w f 7 [some (rv w r0), some (.int x1)] [.int y2, rv w r0] M
  refine g_aload_n C dX6_doesCount_7 rfl rfl ?_
  refine g_iload_n C dX6_doesCount_8 rfl rfl ?_
  refine g_iconst (v := 1) C dX6_doesCount_9 rfl ?_
  obtain ⟨y4, e5, h⟩ := of_obb h
  refine g_callV (As := [.int x1, .int (1 : Int32)]) C (ct_X6_ofRuling C.wf e5) g1 lk_RX6_46 mi_X6_ofRuling (by decide) (cs_i (cs_r cs_0)) (by decide) dX6_doesCount_10 rfl ?_
  show Go w f 13 [some (rv w r0), some (.int x1)] [.int y4, .int y2, rv w r0] M
  obtain ⟨y6, e7, h⟩ := of_obb h
  refine g_callV (As := [.int y2, .int y4]) C (ct_X6_counting C.wf e7) g1 lk_RX6_54 mi_X6_counting (by decide) cs_0 (by decide) dX6_doesCount_13 rfl ?_
  show Go w f 16 [some (rv w r0), some (.int x1)] [.int y6] M
  refine g_iload_n C dX6_doesCount_16 rfl rfl ?_
  refine g_icmp_ne 24 C dX6_doesCount_17 (by decide) (fun c8 => ?_) (fun c8 => ?_)
  · replace h := of_iff h c8
    refine g_iconst (v := 0) C dX6_doesCount_24 rfl ?_
    cases h
    exact hR 25 _ ⟨.boolean, rfl, rfl⟩ dX6_doesCount_25
  · replace h := of_ift h c8
    refine g_iconst (v := 1) C dX6_doesCount_20 rfl ?_
    refine g_goto 25 C dX6_doesCount_21 (by decide) ?_
    cases h
    exact hR 25 _ ⟨.boolean, rfl, rfl⟩ dX6_doesCount_25
