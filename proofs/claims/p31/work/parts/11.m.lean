def f_X5_restore (r0 : Nat) (M : Mem) : Option (Int32 × Mem) := gdd (kd r0 = 6) <| if (gI M r0 6) = 0 then (some ((-2 : Int32), M)) else (obb (f_X5_keepState r0 M) fun M3 => gdd (kd (fld r0 0) = 5) <| obb (f_X4_copyFrom (fld r0 0) (fld r0 1) M3) fun M6 => some (gI M6 (fld r0 0) 4, M6))
set_option maxRecDepth 100000 in
set_option maxHeartbeats 4000000 in
theorem ct_X5_restore {l : Launch} {w : Om} (hw : Wf w) {r0 : Nat} {M : Mem} {r : Int32} {M2 : Mem} (h : f_X5_restore r0 M = some (r, M2)) : Ct l w yX5_restore cX5_restore 1 (some .int) 5 [rv w r0] M (some (.int r)) M2 := by
  refine ct_of hw (by decide) (cat_s (rv_cat _ _) cat_0) (Nat.le_of_ble_eq_true rfl) (fun f _ C hR => ?_)
  show Go w f 0 [some (rv w r0)] [] M
  unfold f_X5_restore at h
  refine g_aload_n C dX5_restore_0 rfl rfl ?_
  obtain ⟨g1, h⟩ := of_gdd h
  refine gf_5_6 C fl_RX5_291 g1 dX5_restore_1 ?_
  refine g_if_ne 10 C dX5_restore_4 (by decide) (fun c2 => ?_) (fun c2 => ?_)
  · replace h := of_iff h c2
    refine g_aload_n C dX5_restore_10 rfl rfl ?_
    obtain ⟨M3, e4, h⟩ := of_obb h
    refine g_callV (As := []) C (ct_X5_keepState C.wf e4) g1 lk_RX5_52 mi_X5_keepState (by decide) cs_0 (by decide) dX5_restore_11 rfl ?_
    show Go w f 14 [some (rv w r0)] [] M3
    refine g_aload_n C dX5_restore_14 rfl rfl ?_
    refine gf_5_0 C fl_RX5_10 g1 dX5_restore_15 ?_
    refine g_aload_n C dX5_restore_18 rfl rfl ?_
    refine gf_5_1 C fl_RX5_16 g1 dX5_restore_19 ?_
    obtain ⟨g5, h⟩ := of_gdd h
    obtain ⟨M6, e7, h⟩ := of_obb h
    refine g_callV (As := [rv w (fld r0 1)]) C (ct_X4_copyFrom C.wf e7) g5 lk_RX5_287 mi_X4_copyFrom (by decide) cs_0 (by decide) dX5_restore_22 rfl ?_
    show Go w f 25 [some (rv w r0)] [] M6
    refine g_aload_n C dX5_restore_25 rfl rfl ?_
    refine gf_5_0 C fl_RX5_10 g1 dX5_restore_26 ?_
    refine gf_4_4 C fl_RX5_112 g5 dX5_restore_29 ?_
    cases h
    exact hR 32 _ ⟨.int, rfl, rfl⟩ dX5_restore_32
  · replace h := of_ift h c2
    refine g_bipush (v := -2) C dX5_restore_7 rfl ?_
    cases h
    exact hR 9 _ ⟨.int, rfl, rfl⟩ dX5_restore_9
def f_X0_clauses (r0 : Nat) (M : Mem) : Option Int32 := gdd (kd r0 = 1) <| some ((f_J6_bitCount_0f7a4 (gI M r0 2)) + (1 : Int32))
set_option maxRecDepth 100000 in
set_option maxHeartbeats 4000000 in
theorem ct_X0_clauses {l : Launch} {w : Om} (hw : Wf w) {r0 : Nat}  {M : Mem} {r : Int32} (h : f_X0_clauses r0 M = some r) : Ct l w yX0_clauses cX0_clauses 1 (some .int) 1 [rv w r0] M (some (.int r)) M := by
  refine ct_of hw (by decide) (cat_s (rv_cat _ _) cat_0) (Nat.le_of_ble_eq_true rfl) (fun f _ C hR => ?_)
  show Go w f 0 [some (rv w r0)] [] M
  unfold f_X0_clauses at h
  refine g_aload_n C dX0_clauses_0 rfl rfl ?_
  obtain ⟨g1, h⟩ := of_gdd h
  refine gf_0_2 C fl_RX0_27 g1 dX0_clauses_1 ?_
  refine g_callS (As := [.int (gI M r0 2)]) C (ct_J6_bitCount_0f7a4 C.wf rfl) lk_RX0_36 mi_J6_bitCount_0f7a4 (by decide) cs_0 (by decide) dX0_clauses_4 rfl ?_
  show Go w f 7 [some (rv w r0)] [.int (f_J6_bitCount_0f7a4 (gI M r0 2))] M
  refine g_iconst (v := 1) C dX0_clauses_7 rfl ?_
  refine g_iadd C dX0_clauses_8 ?_
  cases h
  exact hR 9 _ ⟨.int, rfl, rfl⟩ dX0_clauses_9
def f_X3_wholeWeight_4 (M : Mem) : Nat → Nat → Int32 → Int32 → Option Int32
  | 0, _, _, _ => none
  | n + 1, r0, x1, x2 => gdd (kd r0 = 4) <| if (gI M r0 4) ≤ x2 then (some x1) else (obb (f_X5_at (fld r0 0) x2 M) fun y203 => bvv (x1 + y203) fun y205 => bvv (x2 + (1 : Int32)) fun y207 => (f_X3_wholeWeight_4 M n) r0 y205 y207)
set_option maxRecDepth 100000 in
set_option maxHeartbeats 4000000 in
theorem t_X3_wholeWeight_4 {w : Om} {f : Fr} {M : Mem} {r : Int32} (C : Cx w f RX3 cX3_wholeWeight 3 1) (hR : Rt w f cX3_wholeWeight (some .int) (some (.int r)) M)   : ∀ (n : Nat) (r0 : Nat) (x1 : Int32) (x2 : Int32), f_X3_wholeWeight_4 M n r0 x1 x2 = some r → Go w f 4 [some (rv w r0), some (.int x1), some (.int x2)] [] M := by
  intro n
  induction n with
  | zero =>
    intro r0 x1 x2 h
    cases h
  | succ n ih =>
    intro r0 x1 x2 h
    rw [f_X3_wholeWeight_4] at h
    refine g_iload_n C dX3_wholeWeight_4 rfl rfl ?_
    refine g_aload_n C dX3_wholeWeight_5 rfl rfl ?_
    obtain ⟨g201, h⟩ := of_gdd h
    refine gf_3_4 C fl_RX3_30 g201 dX3_wholeWeight_6 ?_
    refine g_icmp_ge 29 C dX3_wholeWeight_9 (by decide) (fun c202 => ?_) (fun c202 => ?_)
    · replace h := of_ift h c202
      refine g_iload_n C dX3_wholeWeight_29 rfl rfl ?_
      cases h
      exact hR 30 _ ⟨.int, rfl, rfl⟩ dX3_wholeWeight_30
    · replace h := of_iff h c202
      refine g_iload_n C dX3_wholeWeight_12 rfl rfl ?_
      refine g_aload_n C dX3_wholeWeight_13 rfl rfl ?_
      refine gf_3_0 C fl_RX3_9 g201 dX3_wholeWeight_14 ?_
      refine g_iload_n C dX3_wholeWeight_17 rfl rfl ?_
      obtain ⟨y203, e204, h⟩ := of_obb h
      refine g_callSN (As := [rv w (fld r0 0), .int x2]) C (ct_X5_at C.wf e204) ln_RX3_36 mi_X5_at (by decide) (cs_i cs_0) (by decide) dX3_wholeWeight_18 rfl ?_
      show Go w f 21 [some (rv w r0), some (.int x1), some (.int x2)] [.int y203, .int x1] M
      refine g_iadd C dX3_wholeWeight_21 ?_
      obtain ⟨y205, e206, h⟩ := of_bvv h
      refine g_topi e206 ?_
      refine g_istore_n C dX3_wholeWeight_22 rfl (by decide) (rv_cat _ _) (L2 := [some (rv w r0), some (.int y205), some (.int x2)]) rfl ?_
      obtain ⟨y207, e208, h⟩ := of_bvv h
      refine g_iinc (v := y207) C dX3_wholeWeight_23 rfl e208.symm (by decide) rfl (L2 := [some (rv w r0), some (.int y205), some (.int y207)]) rfl ?_
      refine g_goto 4 C dX3_wholeWeight_26 (by decide) ?_
      exact ih r0 y205 y207 h
def f_X3_wholeWeight (r0 : Nat) (M : Mem) : Option Int32 := f_X3_wholeWeight_4 M FU r0 (0 : Int32) (0 : Int32)
set_option maxRecDepth 100000 in
set_option maxHeartbeats 4000000 in
theorem ct_X3_wholeWeight {l : Launch} {w : Om} (hw : Wf w) {r0 : Nat}  {M : Mem} {r : Int32} (h : f_X3_wholeWeight r0 M = some r) : Ct l w yX3_wholeWeight cX3_wholeWeight 3 (some .int) 1 [rv w r0] M (some (.int r)) M := by
  refine ct_of hw (by decide) (cat_s (rv_cat _ _) cat_0) (Nat.le_of_ble_eq_true rfl) (fun f _ C hR => ?_)
  show Go w f 0 [some (rv w r0), none, none] [] M
  unfold f_X3_wholeWeight at h
  refine g_iconst (v := 0) C dX3_wholeWeight_0 rfl ?_
  refine g_istore_n C dX3_wholeWeight_1 rfl (by decide) (rv_cat _ _) (L2 := [some (rv w r0), some (.int (0 : Int32)), none]) rfl ?_
  refine g_iconst (v := 0) C dX3_wholeWeight_2 rfl ?_
  refine g_istore_n C dX3_wholeWeight_3 rfl (by decide) rfl (L2 := [some (rv w r0), some (.int (0 : Int32)), some (.int (0 : Int32))]) rfl ?_
  exact t_X3_wholeWeight_4 C hR _ r0 (0 : Int32) (0 : Int32) h
def f_X5_edition (r0 : Nat) (x1 : Int32) (x2 : Int32) (M : Mem) : Option (Int32 × Mem) := gdd (kd r0 = 6) <| gdd (kd (fld r0 0) = 5) <| obb (f_X4_editionAt (fld r0 0) x1 M) fun y3 => if y3 = 0 then (some ((-1 : Int32), M)) else (gdd (kd (fld r0 5) = 4) <| obb (f_X3_read (fld r0 5) (fld r0 0) y3 M) fun M7 => if x2 = nI 0 then (gdd (kd y3 = 1) <| some (gI M7 y3 1, M7)) else if x2 = nI 1 then (gdd (kd y3 = 1) <| some (gI M7 y3 2, M7)) else if x2 = nI 2 then (gdd (kd y3 = 1) <| obb (f_X0_clauses y3 M7) fun y15 => some (y15, M7)) else if x2 = nI 3 then (obb (f_X3_wholeWeight (fld r0 5) M7) fun y18 => some (y18, M7)) else if x2 = nI 4 then (gdd (kd y3 = 1) <| obb (f_X3_clausesCost (fld r0 5) (gI M7 y3 2) M7) fun y22 => some (y22, M7)) else if x2 = nI 5 then (gdd (kd y3 = 1) <| obb (f_X3_fines (fld r0 5) (gI M7 y3 2) M7) fun y26 => some (y26, M7)) else if x2 = nI 6 then (gdd (kd y3 = 1) <| obb (f_X3_cost (fld r0 5) (gI M7 y3 2) M7) fun y30 => some (y30, M7)) else if x2 = nI 7 then (obb (f_X4_isStayed (fld r0 0) y3 M7) fun y33 => if y33 = 0 then (some ((0 : Int32), M7)) else (some ((1 : Int32), M7))) else if x2 = nI 8 then (gdd (kd y3 = 1) <| some (gI M7 y3 3, M7)) else if x2 = nI 9 then (gdd (kd y3 = 1) <| some (gI M7 y3 4, M7)) else (some ((-1 : Int32), M7)))
set_option maxRecDepth 100000 in
set_option maxHeartbeats 4000000 in
theorem ct_X5_edition {l : Launch} {w : Om} (hw : Wf w) {r0 : Nat} {x1 : Int32} {x2 : Int32} {M : Mem} {r : Int32} {M2 : Mem} (h : f_X5_edition r0 x1 x2 M = some (r, M2)) : Ct l w yX5_edition cX5_edition 4 (some .int) 4 [rv w r0, .int x1, .int x2] M (some (.int r)) M2 := by
  refine ct_of hw (by decide) (cat_s (rv_cat _ _) (cat_s rfl (cat_s rfl cat_0))) (Nat.le_of_ble_eq_true rfl) (fun f _ C hR => ?_)
  show Go w f 0 [some (rv w r0), some (.int x1), some (.int x2), none] [] M
  unfold f_X5_edition at h
  refine g_aload_n C dX5_edition_0 rfl rfl ?_
  obtain ⟨g1, h⟩ := of_gdd h
  refine gf_5_0 C fl_RX5_10 g1 dX5_edition_1 ?_
  refine g_iload_n C dX5_edition_4 rfl rfl ?_
  obtain ⟨g2, h⟩ := of_gdd h
  obtain ⟨y3, e4, h⟩ := of_obb h
  refine g_callV (As := [.int x1]) C (ct_X4_editionAt C.wf e4) g2 lk_RX5_121 mi_X4_editionAt (by decide) cs_0 (by decide) dX5_edition_5 rfl ?_
  show Go w f 8 [some (rv w r0), some (.int x1), some (.int x2), none] [rv w y3] M
  refine g_astore_n C dX5_edition_8 rfl (by decide) rfl (L2 := [some (rv w r0), some (.int x1), some (.int x2), some (rv w y3)]) rfl ?_
  refine g_aload_n C dX5_edition_9 rfl rfl ?_
  refine g_ifnonnull 15 C dX5_edition_10 (by decide) (fun c5 => ?_) (fun c5 => ?_)
  · replace h := of_iff h c5
    refine g_aload_n C dX5_edition_15 rfl rfl ?_
    refine gf_5_5 C fl_RX5_40 g1 dX5_edition_16 ?_
    refine g_aload_n C dX5_edition_19 rfl rfl ?_
    refine gf_5_0 C fl_RX5_10 g1 dX5_edition_20 ?_
    refine g_aload_n C dX5_edition_23 rfl rfl ?_
    obtain ⟨g6, h⟩ := of_gdd h
    obtain ⟨M7, e8, h⟩ := of_obb h
    refine g_callV (As := [rv w (fld r0 0), rv w y3]) C (ct_X3_read C.wf e8) g6 lk_RX5_170 mi_X3_read (by decide) cs_0 (by decide) dX5_edition_24 rfl ?_
    show Go w f 27 [some (rv w r0), some (.int x1), some (.int x2), some (rv w y3)] [] M7
    refine g_iload_n C dX5_edition_27 rfl rfl ?_
    by_cases c9 : x2 = nI 0
    · replace h := of_ift h c9
      refine g_tsI (nI 0) (56) 84 C dX5_edition_28 c9 (by decide) (by decide) rfl (by decide) ?_
      refine g_aload_n C dX5_edition_84 rfl rfl ?_
      obtain ⟨g10, h⟩ := of_gdd h
      refine gf_0_1 C fl_RX5_174 g10 dX5_edition_85 ?_
      cases h
      exact hR 88 _ ⟨.int, rfl, rfl⟩ dX5_edition_88
    replace h := of_iff h c9
    by_cases c11 : x2 = nI 1
    · replace h := of_ift h c11
      refine g_tsI (nI 1) (61) 89 C dX5_edition_28 c11 (by decide) (by decide) rfl (by decide) ?_
      refine g_aload_n C dX5_edition_89 rfl rfl ?_
      obtain ⟨g12, h⟩ := of_gdd h
      refine gf_0_2 C fl_RX5_105 g12 dX5_edition_90 ?_
      cases h
      exact hR 93 _ ⟨.int, rfl, rfl⟩ dX5_edition_93
    replace h := of_iff h c11
    by_cases c13 : x2 = nI 2
    · replace h := of_ift h c13
      refine g_tsI (nI 2) (66) 94 C dX5_edition_28 c13 (by decide) (by decide) rfl (by decide) ?_
      refine g_aload_n C dX5_edition_94 rfl rfl ?_
      obtain ⟨g14, h⟩ := of_gdd h
      obtain ⟨y15, e16, h⟩ := of_obb h
      refine g_callV (As := []) C (ct_X0_clauses C.wf e16) g14 lk_RX5_177 mi_X0_clauses (by decide) cs_0 (by decide) dX5_edition_95 rfl ?_
      show Go w f 98 [some (rv w r0), some (.int x1), some (.int x2), some (rv w y3)] [.int y15] M7
      cases h
      exact hR 98 _ ⟨.int, rfl, rfl⟩ dX5_edition_98
    replace h := of_iff h c13
    by_cases c17 : x2 = nI 3
    · replace h := of_ift h c17
      refine g_tsI (nI 3) (71) 99 C dX5_edition_28 c17 (by decide) (by decide) rfl (by decide) ?_
      refine g_aload_n C dX5_edition_99 rfl rfl ?_
      refine gf_5_5 C fl_RX5_40 g1 dX5_edition_100 ?_
      obtain ⟨y18, e19, h⟩ := of_obb h
      refine g_callV (As := []) C (ct_X3_wholeWeight C.wf e19) g6 lk_RX5_180 mi_X3_wholeWeight (by decide) cs_0 (by decide) dX5_edition_103 rfl ?_
      show Go w f 106 [some (rv w r0), some (.int x1), some (.int x2), some (rv w y3)] [.int y18] M7
      cases h
      exact hR 106 _ ⟨.int, rfl, rfl⟩ dX5_edition_106
    replace h := of_iff h c17
    by_cases c20 : x2 = nI 4
    · replace h := of_ift h c20
      refine g_tsI (nI 4) (79) 107 C dX5_edition_28 c20 (by decide) (by decide) rfl (by decide) ?_
      refine g_aload_n C dX5_edition_107 rfl rfl ?_
      refine gf_5_5 C fl_RX5_40 g1 dX5_edition_108 ?_
      refine g_aload_n C dX5_edition_111 rfl rfl ?_
      obtain ⟨g21, h⟩ := of_gdd h
      refine gf_0_2 C fl_RX5_105 g21 dX5_edition_112 ?_
      obtain ⟨y22, e23, h⟩ := of_obb h
      refine g_callV (As := [.int (gI M7 y3 2)]) C (ct_X3_clausesCost C.wf e23) g6 lk_RX5_183 mi_X3_clausesCost (by decide) cs_0 (by decide) dX5_edition_115 rfl ?_
      show Go w f 118 [some (rv w r0), some (.int x1), some (.int x2), some (rv w y3)] [.int y22] M7
      cases h
      exact hR 118 _ ⟨.int, rfl, rfl⟩ dX5_edition_118
    replace h := of_iff h c20
    by_cases c24 : x2 = nI 5
    · replace h := of_ift h c24
      refine g_tsI (nI 5) (91) 119 C dX5_edition_28 c24 (by decide) (by decide) rfl (by decide) ?_
      refine g_aload_n C dX5_edition_119 rfl rfl ?_
      refine gf_5_5 C fl_RX5_40 g1 dX5_edition_120 ?_
      refine g_aload_n C dX5_edition_123 rfl rfl ?_
      obtain ⟨g25, h⟩ := of_gdd h
      refine gf_0_2 C fl_RX5_105 g25 dX5_edition_124 ?_
      obtain ⟨y26, e27, h⟩ := of_obb h
      refine g_callV (As := [.int (gI M7 y3 2)]) C (ct_X3_fines C.wf e27) g6 lk_RX5_186 mi_X3_fines (by decide) cs_0 (by decide) dX5_edition_127 rfl ?_
      show Go w f 130 [some (rv w r0), some (.int x1), some (.int x2), some (rv w y3)] [.int y26] M7
      cases h
      exact hR 130 _ ⟨.int, rfl, rfl⟩ dX5_edition_130
    replace h := of_iff h c24
    by_cases c28 : x2 = nI 6
    · replace h := of_ift h c28
      refine g_tsI (nI 6) (103) 131 C dX5_edition_28 c28 (by decide) (by decide) rfl (by decide) ?_
      refine g_aload_n C dX5_edition_131 rfl rfl ?_
      refine gf_5_5 C fl_RX5_40 g1 dX5_edition_132 ?_
      refine g_aload_n C dX5_edition_135 rfl rfl ?_
      obtain ⟨g29, h⟩ := of_gdd h
      refine gf_0_2 C fl_RX5_105 g29 dX5_edition_136 ?_
      obtain ⟨y30, e31, h⟩ := of_obb h
      refine g_callV (As := [.int (gI M7 y3 2)]) C (ct_X3_cost C.wf e31) g6 lk_RX5_189 mi_X3_cost (by decide) cs_0 (by decide) dX5_edition_139 rfl ?_
      show Go w f 142 [some (rv w r0), some (.int x1), some (.int x2), some (rv w y3)] [.int y30] M7
      cases h
      exact hR 142 _ ⟨.int, rfl, rfl⟩ dX5_edition_142
    replace h := of_iff h c28
    by_cases c32 : x2 = nI 7
    · replace h := of_ift h c32
      refine g_tsI (nI 7) (115) 143 C dX5_edition_28 c32 (by decide) (by decide) rfl (by decide) ?_
      refine g_aload_n C dX5_edition_143 rfl rfl ?_
      refine gf_5_0 C fl_RX5_10 g1 dX5_edition_144 ?_
      refine g_aload_n C dX5_edition_147 rfl rfl ?_
      obtain ⟨y33, e34, h⟩ := of_obb h
      refine g_callV (As := [rv w y3]) C (ct_X4_isStayed C.wf e34) g2 lk_RX5_192 mi_X4_isStayed (by decide) cs_0 (by decide) dX5_edition_148 rfl ?_
      show Go w f 151 [some (rv w r0), some (.int x1), some (.int x2), some (rv w y3)] [.int y33] M7
      refine g_if_eq 158 C dX5_edition_151 (by decide) (fun c35 => ?_) (fun c35 => ?_)
      · replace h := of_ift h c35
        refine g_iconst (v := 0) C dX5_edition_158 rfl ?_
        cases h
        exact hR 159 _ ⟨.int, rfl, rfl⟩ dX5_edition_159
      · replace h := of_iff h c35
        refine g_iconst (v := 1) C dX5_edition_154 rfl ?_
        refine g_goto 159 C dX5_edition_155 (by decide) ?_
        cases h
        exact hR 159 _ ⟨.int, rfl, rfl⟩ dX5_edition_159
    replace h := of_iff h c32
    by_cases c36 : x2 = nI 8
    · replace h := of_ift h c36
      refine g_tsI (nI 8) (132) 160 C dX5_edition_28 c36 (by decide) (by decide) rfl (by decide) ?_
      refine g_aload_n C dX5_edition_160 rfl rfl ?_
      obtain ⟨g37, h⟩ := of_gdd h
      refine gf_0_3 C fl_RX5_136 g37 dX5_edition_161 ?_
      cases h
      exact hR 164 _ ⟨.int, rfl, rfl⟩ dX5_edition_164
    replace h := of_iff h c36
    by_cases c38 : x2 = nI 9
    · replace h := of_ift h c38
      refine g_tsI (nI 9) (137) 165 C dX5_edition_28 c38 (by decide) (by decide) rfl (by decide) ?_
      refine g_aload_n C dX5_edition_165 rfl rfl ?_
      obtain ⟨g39, h⟩ := of_gdd h
      refine gf_0_4 C fl_RX5_196 g39 dX5_edition_166 ?_
      cases h
      exact hR 169 _ ⟨.int, rfl, rfl⟩ dX5_edition_169
    replace h := of_iff h c38
    refine g_tsD 10 170 C dX5_edition_28 (by decide) rfl rfl (p_lt (lt_s (lt_s (lt_s (lt_s (lt_s (lt_s (lt_s (lt_s (lt_s (lt_s lt_0 c9) c11) c13) c17) c20) c24) c28) c32) c36) c38)) (by decide) ?_
    refine g_iconst (v := -1) C dX5_edition_170 rfl ?_
    cases h
    exact hR 171 _ ⟨.int, rfl, rfl⟩ dX5_edition_171
  · replace h := of_ift h c5
    refine g_iconst (v := -1) C dX5_edition_13 rfl ?_
    cases h
    exact hR 14 _ ⟨.int, rfl, rfl⟩ dX5_edition_14
def f_X0_hasComma (r0 : Nat) (x1 : Int32) (M : Mem) : Option Int32 := gdd (kd r0 = 1) <| if (((gI M r0 2) >>> (x1 &&& 31)) &&& (1 : Int32)) = (1 : Int32) then (some (1 : Int32)) else (some (0 : Int32))
set_option maxRecDepth 100000 in
set_option maxHeartbeats 4000000 in
theorem ct_X0_hasComma {l : Launch} {w : Om} (hw : Wf w) {r0 : Nat} {x1 : Int32}  {M : Mem} {r : Int32} (h : f_X0_hasComma r0 x1 M = some r) : Ct l w yX0_hasComma cX0_hasComma 2 (some .boolean) 0 [rv w r0, .int x1] M (some (.int r)) M := by
  refine ct_of hw (by decide) (cat_s (rv_cat _ _) (cat_s rfl cat_0)) (Nat.le_of_ble_eq_true rfl) (fun f _ C hR => ?_)
  show Go w f 0 [some (rv w r0), some (.int x1)] [] M
  unfold f_X0_hasComma at h
  refine g_aload_n C dX0_hasComma_0 rfl rfl ?_
  obtain ⟨g1, h⟩ := of_gdd h
  refine gf_0_2 C fl_RX0_27 g1 dX0_hasComma_1 ?_
  refine g_iload_n C dX0_hasComma_4 rfl rfl ?_
  refine g_ishr C dX0_hasComma_5 ?_
  refine g_iconst (v := 1) C dX0_hasComma_6 rfl ?_
  refine g_iand C dX0_hasComma_7 ?_
  refine g_iconst (v := 1) C dX0_hasComma_8 rfl ?_
  refine g_icmp_ne 16 C dX0_hasComma_9 (by decide) (fun c2 => ?_) (fun c2 => ?_)
  · replace h := of_iff h c2
    refine g_iconst (v := 0) C dX0_hasComma_16 rfl ?_
    cases h
    exact hR 17 _ ⟨.boolean, rfl, rfl⟩ dX0_hasComma_17
  · replace h := of_ift h c2
    refine g_iconst (v := 1) C dX0_hasComma_12 rfl ?_
    refine g_goto 17 C dX0_hasComma_13 (by decide) ?_
    cases h
    exact hR 17 _ ⟨.boolean, rfl, rfl⟩ dX0_hasComma_17
def f_X0_textSign_4 (M : Mem) : Nat → Nat → Int32 → Int32 → Int32 → Option Int32
  | 0, _, _, _, _ => none
  | n + 1, r0, x1, x2, x3 => gdd (kd r0 = 1) <| if (gI M r0 1) ≤ x3 then (some (-4 : Int32)) else (if x2 = x1 then (obb (f_X0_kindAt r0 x3 M) fun y216 => some ((97 : Int32) + y216)) else (bvv (x2 + (1 : Int32)) fun y204 => obb (f_X0_hasComma r0 x3 M) fun y206 => if y206 = 0 then (bvv (x3 + (1 : Int32)) fun y209 => (f_X0_textSign_4 M n) r0 x1 y204 y209) else (if y204 = x1 then (some (44 : Int32)) else (bvv (y204 + (1 : Int32)) fun y212 => bvv (x3 + (1 : Int32)) fun y214 => (f_X0_textSign_4 M n) r0 x1 y212 y214))))
set_option maxRecDepth 100000 in
set_option maxHeartbeats 4000000 in
theorem t_X0_textSign_4 {w : Om} {f : Fr} {M : Mem} {r : Int32} (C : Cx w f RX0 cX0_textSign 4 1) (hR : Rt w f cX0_textSign (some .int) (some (.int r)) M)   : ∀ (n : Nat) (r0 : Nat) (x1 : Int32) (x2 : Int32) (x3 : Int32), f_X0_textSign_4 M n r0 x1 x2 x3 = some r → Go w f 4 [some (rv w r0), some (.int x1), some (.int x2), some (.int x3)] [] M := by
  intro n
  induction n with
  | zero =>
    intro r0 x1 x2 x3 h
    cases h
  | succ n ih =>
    intro r0 x1 x2 x3 h
    rw [f_X0_textSign_4] at h
    refine g_iload_n C dX0_textSign_4 rfl rfl ?_
    refine g_aload_n C dX0_textSign_5 rfl rfl ?_
    obtain ⟨g201, h⟩ := of_gdd h
    refine gf_0_1 C fl_RX0_23 g201 dX0_textSign_6 ?_
    refine g_icmp_ge 54 C dX0_textSign_9 (by decide) (fun c202 => ?_) (fun c202 => ?_)
    · replace h := of_ift h c202
      refine g_bipush (v := -4) C dX0_textSign_54 rfl ?_
      cases h
      exact hR 56 _ ⟨.int, rfl, rfl⟩ dX0_textSign_56
    · replace h := of_iff h c202
      refine g_iload_n C dX0_textSign_12 rfl rfl ?_
      refine g_iload_n C dX0_textSign_13 rfl rfl ?_
      refine g_icmp_ne 26 C dX0_textSign_14 (by decide) (fun c203 => ?_) (fun c203 => ?_)
      · replace h := of_iff h c203
        obtain ⟨y204, e205, h⟩ := of_bvv h
        refine g_iinc (v := y204) C dX0_textSign_26 rfl e205.symm (by decide) rfl (L2 := [some (rv w r0), some (.int x1), some (.int y204), some (.int x3)]) rfl ?_
        refine g_aload_n C dX0_textSign_29 rfl rfl ?_
        refine g_iload_n C dX0_textSign_30 rfl rfl ?_
        obtain ⟨y206, e207, h⟩ := of_obb h
        refine g_callV (As := [.int x3]) C (ct_X0_hasComma C.wf e207) g201 lk_RX0_45 mi_X0_hasComma (by decide) cs_0 (by decide) dX0_textSign_31 rfl ?_
        show Go w f 34 [some (rv w r0), some (.int x1), some (.int y204), some (.int x3)] [.int y206] M
        refine g_if_eq 48 C dX0_textSign_34 (by decide) (fun c208 => ?_) (fun c208 => ?_)
        · replace h := of_ift h c208
          obtain ⟨y209, e210, h⟩ := of_bvv h
          refine g_iinc (v := y209) C dX0_textSign_48 rfl e210.symm (by decide) rfl (L2 := [some (rv w r0), some (.int x1), some (.int y204), some (.int y209)]) rfl ?_
          refine g_goto 4 C dX0_textSign_51 (by decide) ?_
          exact ih r0 x1 y204 y209 h
        · replace h := of_iff h c208
          refine g_iload_n C dX0_textSign_37 rfl rfl ?_
          refine g_iload_n C dX0_textSign_38 rfl rfl ?_
          refine g_icmp_ne 45 C dX0_textSign_39 (by decide) (fun c211 => ?_) (fun c211 => ?_)
          · replace h := of_iff h c211
            obtain ⟨y212, e213, h⟩ := of_bvv h
            refine g_iinc (v := y212) C dX0_textSign_45 rfl e213.symm (by decide) rfl (L2 := [some (rv w r0), some (.int x1), some (.int y212), some (.int x3)]) rfl ?_
            obtain ⟨y214, e215, h⟩ := of_bvv h
            refine g_iinc (v := y214) C dX0_textSign_48 rfl e215.symm (by decide) rfl (L2 := [some (rv w r0), some (.int x1), some (.int y212), some (.int y214)]) rfl ?_
            refine g_goto 4 C dX0_textSign_51 (by decide) ?_
            exact ih r0 x1 y212 y214 h
          · replace h := of_ift h c211
            refine g_bipush (v := 44) C dX0_textSign_42 rfl ?_
            cases h
            exact hR 44 _ ⟨.int, rfl, rfl⟩ dX0_textSign_44
      · replace h := of_ift h c203
        refine g_bipush (v := 97) C dX0_textSign_17 rfl ?_
        refine g_aload_n C dX0_textSign_19 rfl rfl ?_
        refine g_iload_n C dX0_textSign_20 rfl rfl ?_
        obtain ⟨y216, e217, h⟩ := of_obb h
        refine g_callV (As := [.int x3]) C (ct_X0_kindAt C.wf e217) g201 lk_RX0_42 mi_X0_kindAt (by decide) (cs_i cs_0) (by decide) dX0_textSign_21 rfl ?_
        show Go w f 24 [some (rv w r0), some (.int x1), some (.int x2), some (.int x3)] [.int y216, .int (97 : Int32)] M
        refine g_iadd C dX0_textSign_24 ?_
        cases h
        exact hR 25 _ ⟨.int, rfl, rfl⟩ dX0_textSign_25
def f_X0_textSign (r0 : Nat) (x1 : Int32) (M : Mem) : Option Int32 := f_X0_textSign_4 M FU r0 x1 (0 : Int32) (0 : Int32)
set_option maxRecDepth 100000 in
set_option maxHeartbeats 4000000 in
theorem ct_X0_textSign {l : Launch} {w : Om} (hw : Wf w) {r0 : Nat} {x1 : Int32}  {M : Mem} {r : Int32} (h : f_X0_textSign r0 x1 M = some r) : Ct l w yX0_textSign cX0_textSign 4 (some .int) 1 [rv w r0, .int x1] M (some (.int r)) M := by
  refine ct_of hw (by decide) (cat_s (rv_cat _ _) (cat_s rfl cat_0)) (Nat.le_of_ble_eq_true rfl) (fun f _ C hR => ?_)
  show Go w f 0 [some (rv w r0), some (.int x1), none, none] [] M
  unfold f_X0_textSign at h
  refine g_iconst (v := 0) C dX0_textSign_0 rfl ?_
  refine g_istore_n C dX0_textSign_1 rfl (by decide) rfl (L2 := [some (rv w r0), some (.int x1), some (.int (0 : Int32)), none]) rfl ?_
  refine g_iconst (v := 0) C dX0_textSign_2 rfl ?_
  refine g_istore_n C dX0_textSign_3 rfl (by decide) rfl (L2 := [some (rv w r0), some (.int x1), some (.int (0 : Int32)), some (.int (0 : Int32))]) rfl ?_
  exact t_X0_textSign_4 C hR _ r0 x1 (0 : Int32) (0 : Int32) h
def f_X5_sign (r0 : Nat) (x1 : Int32) (x2 : Int32) (M : Mem) : Option Int32 := gdd (kd r0 = 6) <| gdd (kd (fld r0 0) = 5) <| obb (f_X4_editionAt (fld r0 0) x1 M) fun y3 => if y3 = 0 then (some (-1 : Int32)) else (if 0 ≤ x2 then (gdd (kd y3 = 1) <| obb (f_X0_textSign y3 x2 M) fun y8 => some y8) else (some (-1 : Int32)))
set_option maxRecDepth 100000 in
set_option maxHeartbeats 4000000 in
theorem ct_X5_sign {l : Launch} {w : Om} (hw : Wf w) {r0 : Nat} {x1 : Int32} {x2 : Int32}  {M : Mem} {r : Int32} (h : f_X5_sign r0 x1 x2 M = some r) : Ct l w yX5_sign cX5_sign 4 (some .int) 2 [rv w r0, .int x1, .int x2] M (some (.int r)) M := by
  refine ct_of hw (by decide) (cat_s (rv_cat _ _) (cat_s rfl (cat_s rfl cat_0))) (Nat.le_of_ble_eq_true rfl) (fun f _ C hR => ?_)
  show Go w f 0 [some (rv w r0), some (.int x1), some (.int x2), none] [] M
  unfold f_X5_sign at h
  refine g_aload_n C dX5_sign_0 rfl rfl ?_
  obtain ⟨g1, h⟩ := of_gdd h
  refine gf_5_0 C fl_RX5_10 g1 dX5_sign_1 ?_
  refine g_iload_n C dX5_sign_4 rfl rfl ?_
  obtain ⟨g2, h⟩ := of_gdd h
  obtain ⟨y3, e4, h⟩ := of_obb h
  refine g_callV (As := [.int x1]) C (ct_X4_editionAt C.wf e4) g2 lk_RX5_121 mi_X4_editionAt (by decide) cs_0 (by decide) dX5_sign_5 rfl ?_
  show Go w f 8 [some (rv w r0), some (.int x1), some (.int x2), none] [rv w y3] M
  refine g_astore_n C dX5_sign_8 rfl (by decide) rfl (L2 := [some (rv w r0), some (.int x1), some (.int x2), some (rv w y3)]) rfl ?_
  refine g_aload_n C dX5_sign_9 rfl rfl ?_
  refine g_ifnull 17 C dX5_sign_10 (by decide) (fun c5 => ?_) (fun c5 => ?_)
  · replace h := of_ift h c5
    refine g_iconst (v := -1) C dX5_sign_17 rfl ?_
    cases h
    exact hR 18 _ ⟨.int, rfl, rfl⟩ dX5_sign_18
  · replace h := of_iff h c5
    refine g_iload_n C dX5_sign_13 rfl rfl ?_
    refine g_if_ge 19 C dX5_sign_14 (by decide) (fun c6 => ?_) (fun c6 => ?_)
    · replace h := of_ift h c6
      refine g_aload_n C dX5_sign_19 rfl rfl ?_
      refine g_iload_n C dX5_sign_20 rfl rfl ?_
      obtain ⟨g7, h⟩ := of_gdd h
      obtain ⟨y8, e9, h⟩ := of_obb h
      refine g_callV (As := [.int x2]) C (ct_X0_textSign C.wf e9) g7 lk_RX5_167 mi_X0_textSign (by decide) cs_0 (by decide) dX5_sign_21 rfl ?_
      show Go w f 24 [some (rv w r0), some (.int x1), some (.int x2), some (rv w y3)] [.int y8] M
      cases h
      exact hR 24 _ ⟨.int, rfl, rfl⟩ dX5_sign_24
    · replace h := of_iff h c6
      refine g_iconst (v := -1) C dX5_sign_17 rfl ?_
      cases h
      exact hR 18 _ ⟨.int, rfl, rfl⟩ dX5_sign_18
def f_X4_citationsOf_4 (M : Mem) : Nat → Nat → Int32 → Int32 → Int32 → Option Int32
  | 0, _, _, _, _ => none
  | n + 1, r0, x1, x2, x3 => gdd (kd r0 = 5) <| if (gI M r0 5) ≤ x3 then (some x2) else (obb (f_X4_rulingAt r0 x3 M) fun y203 => if y203 = 0 then (bvv (x3 + (1 : Int32)) fun y206 => (f_X4_citationsOf_4 M n) r0 x1 x2 y206) else (gdd (kd y203 = 3) <| if (gI M y203 4) = x1 then (bvv (x2 + (1 : Int32)) fun y212 => bvv (x3 + (1 : Int32)) fun y214 => (f_X4_citationsOf_4 M n) r0 x1 y212 y214) else (bvv (x3 + (1 : Int32)) fun y210 => (f_X4_citationsOf_4 M n) r0 x1 x2 y210)))
set_option maxRecDepth 100000 in
set_option maxHeartbeats 4000000 in
theorem t_X4_citationsOf_4 {w : Om} {f : Fr} {M : Mem} {r : Int32} (C : Cx w f RX4 cX4_citationsOf 5 1) (hR : Rt w f cX4_citationsOf (some .int) (some (.int r)) M)   : ∀ (n : Nat) (r0 : Nat) (x1 : Int32) (x2 : Int32) (x3 : Int32), f_X4_citationsOf_4 M n r0 x1 x2 x3 = some r → Go w f 4 [some (rv w r0), some (.int x1), some (.int x2), some (.int x3), none] [] M := by
  intro n
  induction n with
  | zero =>
    intro r0 x1 x2 x3 h
    cases h
  | succ n ih =>
    intro r0 x1 x2 x3 h
    rw [f_X4_citationsOf_4] at h
    refine g_iload_n C dX4_citationsOf_4 rfl rfl ?_
    refine g_aload_n C dX4_citationsOf_5 rfl rfl ?_
    obtain ⟨g201, h⟩ := of_gdd h
    refine gf_4_5 C fl_RX4_44 g201 dX4_citationsOf_6 ?_
    refine g_icmp_ge 42 C dX4_citationsOf_9 (by decide) (fun c202 => ?_) (fun c202 => ?_)
    · replace h := of_ift h c202
      refine g_iload_n C dX4_citationsOf_42 rfl rfl ?_
      cases h
      exact hR 43 _ ⟨.int, rfl, rfl⟩ dX4_citationsOf_43
    · replace h := of_iff h c202
      refine g_aload_n C dX4_citationsOf_12 rfl rfl ?_
      refine g_iload_n C dX4_citationsOf_13 rfl rfl ?_
      obtain ⟨y203, e204, h⟩ := of_obb h
      refine g_callV (As := [.int x3]) C (ct_X4_rulingAt C.wf e204) g201 lk_RX4_55 mi_X4_rulingAt (by decide) cs_0 (by decide) dX4_citationsOf_14 rfl ?_
      show Go w f 17 [some (rv w r0), some (.int x1), some (.int x2), some (.int x3), none] [rv w y203] M
      refine g_astore C dX4_citationsOf_17 (by decide) rfl (L2 := [some (rv w r0), some (.int x1), some (.int x2), some (.int x3), some (rv w y203)]) rfl ?_
      refine g_aload C dX4_citationsOf_19 rfl ?_
      refine g_ifnull 36 C dX4_citationsOf_21 (by decide) (fun c205 => ?_) (fun c205 => ?_)
      · replace h := of_ift h c205
        obtain ⟨y206, e207, h⟩ := of_bvv h
        refine g_iinc (v := y206) C dX4_citationsOf_36 rfl e207.symm (by decide) rfl (L2 := [some (rv w r0), some (.int x1), some (.int x2), some (.int y206), some (rv w y203)]) rfl ?_
        refine g_goto 4 C dX4_citationsOf_39 (by decide) ?_
        refine g_mask (bs := [true, true, true, true, false]) (L2 := [some (rv w r0), some (.int x1), some (.int x2), some (.int y206), none]) rfl ?_
        exact ih r0 x1 x2 y206 h
      · replace h := of_iff h c205
        refine g_aload C dX4_citationsOf_24 rfl ?_
        obtain ⟨g208, h⟩ := of_gdd h
        refine gf_2_4 C fl_RX4_110 g208 dX4_citationsOf_26 ?_
        refine g_iload_n C dX4_citationsOf_29 rfl rfl ?_
        refine g_icmp_ne 36 C dX4_citationsOf_30 (by decide) (fun c209 => ?_) (fun c209 => ?_)
        · replace h := of_iff h c209
          obtain ⟨y210, e211, h⟩ := of_bvv h
          refine g_iinc (v := y210) C dX4_citationsOf_36 rfl e211.symm (by decide) rfl (L2 := [some (rv w r0), some (.int x1), some (.int x2), some (.int y210), some (rv w y203)]) rfl ?_
          refine g_goto 4 C dX4_citationsOf_39 (by decide) ?_
          refine g_mask (bs := [true, true, true, true, false]) (L2 := [some (rv w r0), some (.int x1), some (.int x2), some (.int y210), none]) rfl ?_
          exact ih r0 x1 x2 y210 h
        · replace h := of_ift h c209
          obtain ⟨y212, e213, h⟩ := of_bvv h
          refine g_iinc (v := y212) C dX4_citationsOf_33 rfl e213.symm (by decide) rfl (L2 := [some (rv w r0), some (.int x1), some (.int y212), some (.int x3), some (rv w y203)]) rfl ?_
          obtain ⟨y214, e215, h⟩ := of_bvv h
          refine g_iinc (v := y214) C dX4_citationsOf_36 rfl e215.symm (by decide) rfl (L2 := [some (rv w r0), some (.int x1), some (.int y212), some (.int y214), some (rv w y203)]) rfl ?_
          refine g_goto 4 C dX4_citationsOf_39 (by decide) ?_
          refine g_mask (bs := [true, true, true, true, false]) (L2 := [some (rv w r0), some (.int x1), some (.int y212), some (.int y214), none]) rfl ?_
          exact ih r0 x1 y212 y214 h
def f_X4_citationsOf (r0 : Nat) (x1 : Int32) (M : Mem) : Option Int32 := f_X4_citationsOf_4 M FU r0 x1 (0 : Int32) (0 : Int32)
set_option maxRecDepth 100000 in
set_option maxHeartbeats 4000000 in
theorem ct_X4_citationsOf {l : Launch} {w : Om} (hw : Wf w) {r0 : Nat} {x1 : Int32}  {M : Mem} {r : Int32} (h : f_X4_citationsOf r0 x1 M = some r) : Ct l w yX4_citationsOf cX4_citationsOf 5 (some .int) 1 [rv w r0, .int x1] M (some (.int r)) M := by
  refine ct_of hw (by decide) (cat_s (rv_cat _ _) (cat_s rfl cat_0)) (Nat.le_of_ble_eq_true rfl) (fun f _ C hR => ?_)
  show Go w f 0 [some (rv w r0), some (.int x1), none, none, none] [] M
  unfold f_X4_citationsOf at h
  refine g_iconst (v := 0) C dX4_citationsOf_0 rfl ?_
  refine g_istore_n C dX4_citationsOf_1 rfl (by decide) rfl (L2 := [some (rv w r0), some (.int x1), some (.int (0 : Int32)), none, none]) rfl ?_
  refine g_iconst (v := 0) C dX4_citationsOf_2 rfl ?_
  refine g_istore_n C dX4_citationsOf_3 rfl (by decide) rfl (L2 := [some (rv w r0), some (.int x1), some (.int (0 : Int32)), some (.int (0 : Int32)), none]) rfl ?_
  exact t_X4_citationsOf_4 C hR _ r0 x1 (0 : Int32) (0 : Int32) h
def f_X4_fineAt (r0 : Nat) (r1 : Nat) (x2 : Int32) (M : Mem) : Option Int32 := gdd (kd r0 = 5) <| obb (f_X4_countingAt r0 r1 x2 M) fun y2 => obb (f_X4_rulingAt r0 y2 M) fun y4 => if y4 = 0 then (some (0 : Int32)) else (gdd (kd r1 = 1) <| obb (f_X0_hasComma r1 x2 M) fun y8 => gdd (kd y4 = 3) <| obb (f_X2_fineFor y4 y8 M) fun y11 => some y11)
set_option maxRecDepth 100000 in
set_option maxHeartbeats 4000000 in
theorem ct_X4_fineAt {l : Launch} {w : Om} (hw : Wf w) {r0 : Nat} {r1 : Nat} {x2 : Int32}  {M : Mem} {r : Int32} (h : f_X4_fineAt r0 r1 x2 M = some r) : Ct l w yX4_fineAt cX4_fineAt 4 (some .int) 3 [rv w r0, rv w r1, .int x2] M (some (.int r)) M := by
  refine ct_of hw (by decide) (cat_s (rv_cat _ _) (cat_s (rv_cat _ _) (cat_s rfl cat_0))) (Nat.le_of_ble_eq_true rfl) (fun f _ C hR => ?_)
  show Go w f 0 [some (rv w r0), some (rv w r1), some (.int x2), none] [] M
  unfold f_X4_fineAt at h
  refine g_aload_n C dX4_fineAt_0 rfl rfl ?_
  refine g_aload_n C dX4_fineAt_1 rfl rfl ?_
  refine g_aload_n C dX4_fineAt_2 rfl rfl ?_
  refine g_iload_n C dX4_fineAt_3 rfl rfl ?_
  obtain ⟨g1, h⟩ := of_gdd h
  obtain ⟨y2, e3, h⟩ := of_obb h
  refine g_callV (As := [rv w r1, .int x2]) C (ct_X4_countingAt C.wf e3) g1 lk_RX4_133 mi_X4_countingAt (by decide) (cs_r cs_0) (by decide) dX4_fineAt_4 rfl ?_
  show Go w f 7 [some (rv w r0), some (rv w r1), some (.int x2), none] [.int y2, rv w r0] M
  obtain ⟨y4, e5, h⟩ := of_obb h
  refine g_callV (As := [.int y2]) C (ct_X4_rulingAt C.wf e5) g1 lk_RX4_55 mi_X4_rulingAt (by decide) cs_0 (by decide) dX4_fineAt_7 rfl ?_
  show Go w f 10 [some (rv w r0), some (rv w r1), some (.int x2), none] [rv w y4] M
  refine g_astore_n C dX4_fineAt_10 rfl (by decide) rfl (L2 := [some (rv w r0), some (rv w r1), some (.int x2), some (rv w y4)]) rfl ?_
  refine g_aload_n C dX4_fineAt_11 rfl rfl ?_
  refine g_ifnonnull 19 C dX4_fineAt_12 (by decide) (fun c6 => ?_) (fun c6 => ?_)
  · replace h := of_iff h c6
    refine g_aload_n C dX4_fineAt_19 rfl rfl ?_
    refine g_aload_n C dX4_fineAt_20 rfl rfl ?_
    refine g_iload_n C dX4_fineAt_21 rfl rfl ?_
    obtain ⟨g7, h⟩ := of_gdd h
    obtain ⟨y8, e9, h⟩ := of_obb h
    refine g_callV (As := [.int x2]) C (ct_X0_hasComma C.wf e9) g7 lk_RX4_137 mi_X0_hasComma (by decide) (cs_r cs_0) (by decide) dX4_fineAt_22 rfl ?_
    show Go w f 25 [some (rv w r0), some (rv w r1), some (.int x2), some (rv w y4)] [.int y8, rv w y4] M
    obtain ⟨g10, h⟩ := of_gdd h
    obtain ⟨y11, e12, h⟩ := of_obb h
    refine g_callV (As := [.int y8]) C (ct_X2_fineFor C.wf e12) g10 lk_RX4_140 mi_X2_fineFor (by decide) cs_0 (by decide) dX4_fineAt_25 rfl ?_
    show Go w f 28 [some (rv w r0), some (rv w r1), some (.int x2), some (rv w y4)] [.int y11] M
    cases h
    exact hR 28 _ ⟨.int, rfl, rfl⟩ dX4_fineAt_28
  · replace h := of_ift h c6
    refine g_iconst (v := 0) C dX4_fineAt_15 rfl ?_
    refine g_goto 28 C dX4_fineAt_16 (by decide) ?_
    cases h
    exact hR 28 _ ⟨.int, rfl, rfl⟩ dX4_fineAt_28
def f_X4_finesBroughtBy_27 (M : Mem) (k4 : Nat → Int32 → Int32 → Int32 → Option Int32) : Nat → Nat → Int32 → Int32 → Int32 → Nat → Int32 → Option Int32
  | 0, _, _, _, _, _, _ => none
  | n + 1, r0, x1, x2, x3, r4, x5 => gdd (kd r4 = 1) <| if ((gI M r4 1) - (1 : Int32)) ≤ x5 then (bvv (x3 + (1 : Int32)) fun y303 => k4 r0 x1 x2 y303) else (gdd (kd r0 = 5) <| obb (f_X4_countingAt r0 r4 x5 M) fun y306 => if y306 = x1 then (obb (f_X4_fineAt r0 r4 x5 M) fun y313 => bvv (x2 + y313) fun y315 => bvv (x5 + (1 : Int32)) fun y317 => (f_X4_finesBroughtBy_27 M k4 n) r0 x1 y315 x3 r4 y317) else (bvv (x2 + (0 : Int32)) fun y309 => bvv (x5 + (1 : Int32)) fun y311 => (f_X4_finesBroughtBy_27 M k4 n) r0 x1 y309 x3 r4 y311))
set_option maxRecDepth 100000 in
set_option maxHeartbeats 4000000 in
theorem t_X4_finesBroughtBy_27 {w : Om} {f : Fr} {M : Mem} {r : Int32} (C : Cx w f RX4 cX4_finesBroughtBy 6 4) (hR : Rt w f cX4_finesBroughtBy (some .int) (some (.int r)) M) {k4 : Nat → Int32 → Int32 → Int32 → Option Int32} (hk4 : ∀ (r0' : Nat) (x1' : Int32) (x2' : Int32) (x3' : Int32), k4 r0' x1' x2' x3' = some r → Go w f 4 [some (rv w r0'), some (.int x1'), some (.int x2'), some (.int x3'), none, none] [] M) : ∀ (n : Nat) (r0 : Nat) (x1 : Int32) (x2 : Int32) (x3 : Int32) (r4 : Nat) (x5 : Int32), f_X4_finesBroughtBy_27 M k4 n r0 x1 x2 x3 r4 x5 = some r → Go w f 27 [some (rv w r0), some (.int x1), some (.int x2), some (.int x3), some (rv w r4), some (.int x5)] [] M := by
  intro n
  induction n with
  | zero =>
    intro r0 x1 x2 x3 r4 x5 h
    cases h
  | succ n ih =>
    intro r0 x1 x2 x3 r4 x5 h
    rw [f_X4_finesBroughtBy_27] at h
    refine g_iload C dX4_finesBroughtBy_27 rfl ?_
    refine g_aload C dX4_finesBroughtBy_29 rfl ?_
    obtain ⟨g301, h⟩ := of_gdd h
    refine gf_0_1 C fl_RX4_94 g301 dX4_finesBroughtBy_31 ?_
    refine g_iconst (v := 1) C dX4_finesBroughtBy_34 rfl ?_
    refine g_isub C dX4_finesBroughtBy_35 ?_
    refine g_icmp_ge 72 C dX4_finesBroughtBy_36 (by decide) (fun c302 => ?_) (fun c302 => ?_)
    · replace h := of_ift h c302
      obtain ⟨y303, e304, h⟩ := of_bvv h
      refine g_iinc (v := y303) C dX4_finesBroughtBy_72 rfl e304.symm (by decide) rfl (L2 := [some (rv w r0), some (.int x1), some (.int x2), some (.int y303), some (rv w r4), some (.int x5)]) rfl ?_
      refine g_goto 4 C dX4_finesBroughtBy_75 (by decide) ?_
      refine g_mask (bs := [true, true, true, true, false, false]) (L2 := [some (rv w r0), some (.int x1), some (.int x2), some (.int y303), none, none]) rfl ?_
      exact hk4 r0 x1 x2 y303 h
    · replace h := of_iff h c302
      refine g_iload_n C dX4_finesBroughtBy_39 rfl rfl ?_
      refine g_aload_n C dX4_finesBroughtBy_40 rfl rfl ?_
      refine g_aload C dX4_finesBroughtBy_41 rfl ?_
      refine g_iload C dX4_finesBroughtBy_43 rfl ?_
      obtain ⟨g305, h⟩ := of_gdd h
      obtain ⟨y306, e307, h⟩ := of_obb h
      refine g_callV (As := [rv w r4, .int x5]) C (ct_X4_countingAt C.wf e307) g305 lk_RX4_133 mi_X4_countingAt (by decide) (cs_i cs_0) (by decide) dX4_finesBroughtBy_45 rfl ?_
      show Go w f 48 [some (rv w r0), some (.int x1), some (.int x2), some (.int x3), some (rv w r4), some (.int x5)] [.int y306, .int x2] M
      refine g_iload_n C dX4_finesBroughtBy_48 rfl rfl ?_
      refine g_icmp_ne 63 C dX4_finesBroughtBy_49 (by decide) (fun c308 => ?_) (fun c308 => ?_)
      · replace h := of_iff h c308
        refine g_iconst (v := 0) C dX4_finesBroughtBy_63 rfl ?_
        refine g_iadd C dX4_finesBroughtBy_64 ?_
        obtain ⟨y309, e310, h⟩ := of_bvv h
        refine g_topi e310 ?_
        refine g_istore_n C dX4_finesBroughtBy_65 rfl (by decide) rfl (L2 := [some (rv w r0), some (.int x1), some (.int y309), some (.int x3), some (rv w r4), some (.int x5)]) rfl ?_
        obtain ⟨y311, e312, h⟩ := of_bvv h
        refine g_iinc (v := y311) C dX4_finesBroughtBy_66 rfl e312.symm (by decide) (rv_cat _ _) (L2 := [some (rv w r0), some (.int x1), some (.int y309), some (.int x3), some (rv w r4), some (.int y311)]) rfl ?_
        refine g_goto 27 C dX4_finesBroughtBy_69 (by decide) ?_
        exact ih r0 x1 y309 x3 r4 y311 h
      · replace h := of_ift h c308
        refine g_aload_n C dX4_finesBroughtBy_52 rfl rfl ?_
        refine g_aload C dX4_finesBroughtBy_53 rfl ?_
        refine g_iload C dX4_finesBroughtBy_55 rfl ?_
        obtain ⟨y313, e314, h⟩ := of_obb h
        refine g_callV (As := [rv w r4, .int x5]) C (ct_X4_fineAt C.wf e314) g305 lk_RX4_144 mi_X4_fineAt (by decide) (cs_i cs_0) (by decide) dX4_finesBroughtBy_57 rfl ?_
        show Go w f 60 [some (rv w r0), some (.int x1), some (.int x2), some (.int x3), some (rv w r4), some (.int x5)] [.int y313, .int x2] M
        refine g_goto 64 C dX4_finesBroughtBy_60 (by decide) ?_
        refine g_iadd C dX4_finesBroughtBy_64 ?_
        obtain ⟨y315, e316, h⟩ := of_bvv h
        refine g_topi e316 ?_
        refine g_istore_n C dX4_finesBroughtBy_65 rfl (by decide) rfl (L2 := [some (rv w r0), some (.int x1), some (.int y315), some (.int x3), some (rv w r4), some (.int x5)]) rfl ?_
        obtain ⟨y317, e318, h⟩ := of_bvv h
        refine g_iinc (v := y317) C dX4_finesBroughtBy_66 rfl e318.symm (by decide) (rv_cat _ _) (L2 := [some (rv w r0), some (.int x1), some (.int y315), some (.int x3), some (rv w r4), some (.int y317)]) rfl ?_
        refine g_goto 27 C dX4_finesBroughtBy_69 (by decide) ?_
        exact ih r0 x1 y315 x3 r4 y317 h
def f_X4_finesBroughtBy_4 (M : Mem) : Nat → Nat → Int32 → Int32 → Int32 → Option Int32
  | 0, _, _, _, _ => none
  | n + 1, r0, x1, x2, x3 => gdd (kd r0 = 5) <| if (gI M r0 4) ≤ x3 then (some x2) else (obb (f_X4_editionAt r0 x3 M) fun y203 => if y203 = 0 then (bvv (x3 + (1 : Int32)) fun y206 => (f_X4_finesBroughtBy_4 M n) r0 x1 x2 y206) else (f_X4_finesBroughtBy_27 M (f_X4_finesBroughtBy_4 M n) FU r0 x1 x2 x3 y203 (0 : Int32)))
set_option maxRecDepth 100000 in
set_option maxHeartbeats 4000000 in
theorem t_X4_finesBroughtBy_4 {w : Om} {f : Fr} {M : Mem} {r : Int32} (C : Cx w f RX4 cX4_finesBroughtBy 6 4) (hR : Rt w f cX4_finesBroughtBy (some .int) (some (.int r)) M)   : ∀ (n : Nat) (r0 : Nat) (x1 : Int32) (x2 : Int32) (x3 : Int32), f_X4_finesBroughtBy_4 M n r0 x1 x2 x3 = some r → Go w f 4 [some (rv w r0), some (.int x1), some (.int x2), some (.int x3), none, none] [] M := by
  intro n
  induction n with
  | zero =>
    intro r0 x1 x2 x3 h
    cases h
  | succ n ih =>
    intro r0 x1 x2 x3 h
    rw [f_X4_finesBroughtBy_4] at h
    refine g_iload_n C dX4_finesBroughtBy_4 rfl rfl ?_
    refine g_aload_n C dX4_finesBroughtBy_5 rfl rfl ?_
    obtain ⟨g201, h⟩ := of_gdd h
    refine gf_4_4 C fl_RX4_40 g201 dX4_finesBroughtBy_6 ?_
    refine g_icmp_ge 78 C dX4_finesBroughtBy_9 (by decide) (fun c202 => ?_) (fun c202 => ?_)
    · replace h := of_ift h c202
      refine g_iload_n C dX4_finesBroughtBy_78 rfl rfl ?_
      cases h
      exact hR 79 _ ⟨.int, rfl, rfl⟩ dX4_finesBroughtBy_79
    · replace h := of_iff h c202
      refine g_aload_n C dX4_finesBroughtBy_12 rfl rfl ?_
      refine g_iload_n C dX4_finesBroughtBy_13 rfl rfl ?_
      obtain ⟨y203, e204, h⟩ := of_obb h
      refine g_callV (As := [.int x3]) C (ct_X4_editionAt C.wf e204) g201 lk_RX4_47 mi_X4_editionAt (by decide) cs_0 (by decide) dX4_finesBroughtBy_14 rfl ?_
      show Go w f 17 [some (rv w r0), some (.int x1), some (.int x2), some (.int x3), none, none] [rv w y203] M
      refine g_astore C dX4_finesBroughtBy_17 (by decide) rfl (L2 := [some (rv w r0), some (.int x1), some (.int x2), some (.int x3), some (rv w y203), none]) rfl ?_
      refine g_aload C dX4_finesBroughtBy_19 rfl ?_
      refine g_ifnull 72 C dX4_finesBroughtBy_21 (by decide) (fun c205 => ?_) (fun c205 => ?_)
      · replace h := of_ift h c205
        obtain ⟨y206, e207, h⟩ := of_bvv h
        refine g_iinc (v := y206) C dX4_finesBroughtBy_72 rfl e207.symm (by decide) rfl (L2 := [some (rv w r0), some (.int x1), some (.int x2), some (.int y206), some (rv w y203), none]) rfl ?_
        refine g_goto 4 C dX4_finesBroughtBy_75 (by decide) ?_
        refine g_mask (bs := [true, true, true, true, false, false]) (L2 := [some (rv w r0), some (.int x1), some (.int x2), some (.int y206), none, none]) rfl ?_
        exact ih r0 x1 x2 y206 h
      · replace h := of_iff h c205
        refine g_iconst (v := 0) C dX4_finesBroughtBy_24 rfl ?_
        refine g_istore C dX4_finesBroughtBy_25 (by decide) (rv_cat _ _) (L2 := [some (rv w r0), some (.int x1), some (.int x2), some (.int x3), some (rv w y203), some (.int (0 : Int32))]) rfl ?_
        exact t_X4_finesBroughtBy_27 C hR (fun r0' x1' x2' x3' h => ih r0' x1' x2' x3' h) _ r0 x1 x2 x3 y203 (0 : Int32) h
def f_X4_finesBroughtBy (r0 : Nat) (x1 : Int32) (M : Mem) : Option Int32 := f_X4_finesBroughtBy_4 M FU r0 x1 (0 : Int32) (0 : Int32)
set_option maxRecDepth 100000 in
set_option maxHeartbeats 4000000 in
theorem ct_X4_finesBroughtBy {l : Launch} {w : Om} (hw : Wf w) {r0 : Nat} {x1 : Int32}  {M : Mem} {r : Int32} (h : f_X4_finesBroughtBy r0 x1 M = some r) : Ct l w yX4_finesBroughtBy cX4_finesBroughtBy 6 (some .int) 4 [rv w r0, .int x1] M (some (.int r)) M := by
  refine ct_of hw (by decide) (cat_s (rv_cat _ _) (cat_s rfl cat_0)) (Nat.le_of_ble_eq_true rfl) (fun f _ C hR => ?_)
  show Go w f 0 [some (rv w r0), some (.int x1), none, none, none, none] [] M
  unfold f_X4_finesBroughtBy at h
  refine g_iconst (v := 0) C dX4_finesBroughtBy_0 rfl ?_
  refine g_istore_n C dX4_finesBroughtBy_1 rfl (by decide) rfl (L2 := [some (rv w r0), some (.int x1), some (.int (0 : Int32)), none, none, none]) rfl ?_
  refine g_iconst (v := 0) C dX4_finesBroughtBy_2 rfl ?_
  refine g_istore_n C dX4_finesBroughtBy_3 rfl (by decide) rfl (L2 := [some (rv w r0), some (.int x1), some (.int (0 : Int32)), some (.int (0 : Int32)), none, none]) rfl ?_
  exact t_X4_finesBroughtBy_4 C hR _ r0 x1 (0 : Int32) (0 : Int32) h
def f_X5_ruling (r0 : Nat) (x1 : Int32) (x2 : Int32) (M : Mem) : Option Int32 := gdd (kd r0 = 6) <| gdd (kd (fld r0 0) = 5) <| obb (f_X4_rulingAt (fld r0 0) x1 M) fun y3 => if y3 = 0 then (some (-1 : Int32)) else (if x2 = nI 0 then (gdd (kd y3 = 3) <| some (gI M y3 0)) else if x2 = nI 1 then (gdd (kd y3 = 3) <| some (gI M y3 1)) else if x2 = nI 2 then (gdd (kd y3 = 3) <| if (gI M y3 2) = 0 then (some (0 : Int32)) else (some (1 : Int32))) else if x2 = nI 3 then (gdd (kd y3 = 3) <| some (gI M y3 3)) else if x2 = nI 4 then (gdd (kd y3 = 3) <| if (gI M y3 4) = (-1 : Int32) then (some (-4 : Int32)) else (some (gI M y3 4))) else if x2 = nI 5 then (gdd (kd y3 = 3) <| if (gI M y3 6) = 0 then (some (0 : Int32)) else (some (1 : Int32))) else if x2 = nI 6 then (obb (f_X4_counts (fld r0 0) x1 M) fun y22 => if y22 = 0 then (some (0 : Int32)) else (some (1 : Int32))) else if x2 = nI 7 then (obb (f_X4_citationsOf (fld r0 0) x1 M) fun y26 => some y26) else if x2 = nI 8 then (obb (f_X4_finesBroughtBy (fld r0 0) x1 M) fun y29 => some y29) else (some (-1 : Int32)))
set_option maxRecDepth 100000 in
set_option maxHeartbeats 4000000 in
theorem ct_X5_ruling {l : Launch} {w : Om} (hw : Wf w) {r0 : Nat} {x1 : Int32} {x2 : Int32}  {M : Mem} {r : Int32} (h : f_X5_ruling r0 x1 x2 M = some r) : Ct l w yX5_ruling cX5_ruling 4 (some .int) 5 [rv w r0, .int x1, .int x2] M (some (.int r)) M := by
  refine ct_of hw (by decide) (cat_s (rv_cat _ _) (cat_s rfl (cat_s rfl cat_0))) (Nat.le_of_ble_eq_true rfl) (fun f _ C hR => ?_)
  show Go w f 0 [some (rv w r0), some (.int x1), some (.int x2), none] [] M
  unfold f_X5_ruling at h
  refine g_aload_n C dX5_ruling_0 rfl rfl ?_
  obtain ⟨g1, h⟩ := of_gdd h
  refine gf_5_0 C fl_RX5_10 g1 dX5_ruling_1 ?_
  refine g_iload_n C dX5_ruling_4 rfl rfl ?_
  obtain ⟨g2, h⟩ := of_gdd h
  obtain ⟨y3, e4, h⟩ := of_obb h
  refine g_callV (As := [.int x1]) C (ct_X4_rulingAt C.wf e4) g2 lk_RX5_81 mi_X4_rulingAt (by decide) cs_0 (by decide) dX5_ruling_5 rfl ?_
  show Go w f 8 [some (rv w r0), some (.int x1), some (.int x2), none] [rv w y3] M
  refine g_astore_n C dX5_ruling_8 rfl (by decide) rfl (L2 := [some (rv w r0), some (.int x1), some (.int x2), some (rv w y3)]) rfl ?_
  refine g_aload_n C dX5_ruling_9 rfl rfl ?_
  refine g_ifnonnull 15 C dX5_ruling_10 (by decide) (fun c5 => ?_) (fun c5 => ?_)
  · replace h := of_iff h c5
    refine g_iload_n C dX5_ruling_15 rfl rfl ?_
    by_cases c6 : x2 = nI 0
    · replace h := of_ift h c6
      refine g_tsI (nI 0) (52) 68 C dX5_ruling_16 c6 (by decide) (by decide) rfl (by decide) ?_
      refine g_aload_n C dX5_ruling_68 rfl rfl ?_
      obtain ⟨g7, h⟩ := of_gdd h
      refine gf_2_0 C fl_RX5_211 g7 dX5_ruling_69 ?_
      cases h
      exact hR 72 _ ⟨.int, rfl, rfl⟩ dX5_ruling_72
    replace h := of_iff h c6
    by_cases c8 : x2 = nI 1
    · replace h := of_ift h c8
      refine g_tsI (nI 1) (57) 73 C dX5_ruling_16 c8 (by decide) (by decide) rfl (by decide) ?_
      refine g_aload_n C dX5_ruling_73 rfl rfl ?_
      obtain ⟨g9, h⟩ := of_gdd h
      refine gf_2_1 C fl_RX5_214 g9 dX5_ruling_74 ?_
      cases h
      exact hR 77 _ ⟨.int, rfl, rfl⟩ dX5_ruling_77
    replace h := of_iff h c8
    by_cases c10 : x2 = nI 2
    · replace h := of_ift h c10
      refine g_tsI (nI 2) (62) 78 C dX5_ruling_16 c10 (by decide) (by decide) rfl (by decide) ?_
      refine g_aload_n C dX5_ruling_78 rfl rfl ?_
      obtain ⟨g11, h⟩ := of_gdd h
      refine gf_2_2 C fl_RX5_217 g11 dX5_ruling_79 ?_
      refine g_if_eq 89 C dX5_ruling_82 (by decide) (fun c12 => ?_) (fun c12 => ?_)
      · replace h := of_ift h c12
        refine g_iconst (v := 0) C dX5_ruling_89 rfl ?_
        cases h
        exact hR 90 _ ⟨.int, rfl, rfl⟩ dX5_ruling_90
      · replace h := of_iff h c12
        refine g_iconst (v := 1) C dX5_ruling_85 rfl ?_
        refine g_goto 90 C dX5_ruling_86 (by decide) ?_
        cases h
        exact hR 90 _ ⟨.int, rfl, rfl⟩ dX5_ruling_90
    replace h := of_iff h c10
    by_cases c13 : x2 = nI 3
    · replace h := of_ift h c13
      refine g_tsI (nI 3) (75) 91 C dX5_ruling_16 c13 (by decide) (by decide) rfl (by decide) ?_
      refine g_aload_n C dX5_ruling_91 rfl rfl ?_
      obtain ⟨g14, h⟩ := of_gdd h
      refine gf_2_3 C fl_RX5_220 g14 dX5_ruling_92 ?_
      cases h
      exact hR 95 _ ⟨.int, rfl, rfl⟩ dX5_ruling_95
    replace h := of_iff h c13
    by_cases c15 : x2 = nI 4
    · replace h := of_ift h c15
      refine g_tsI (nI 4) (80) 96 C dX5_ruling_16 c15 (by decide) (by decide) rfl (by decide) ?_
      refine g_aload_n C dX5_ruling_96 rfl rfl ?_
      obtain ⟨g16, h⟩ := of_gdd h
      refine gf_2_4 C fl_RX5_223 g16 dX5_ruling_97 ?_
      refine g_iconst (v := -1) C dX5_ruling_100 rfl ?_
      refine g_icmp_ne 109 C dX5_ruling_101 (by decide) (fun c17 => ?_) (fun c17 => ?_)
      · replace h := of_iff h c17
        refine g_aload_n C dX5_ruling_109 rfl rfl ?_
        refine gf_2_4 C fl_RX5_223 g16 dX5_ruling_110 ?_
        cases h
        exact hR 113 _ ⟨.int, rfl, rfl⟩ dX5_ruling_113
      · replace h := of_ift h c17
        refine g_bipush (v := -4) C dX5_ruling_104 rfl ?_
        refine g_goto 113 C dX5_ruling_106 (by decide) ?_
        cases h
        exact hR 113 _ ⟨.int, rfl, rfl⟩ dX5_ruling_113
    replace h := of_iff h c15
    by_cases c18 : x2 = nI 5
    · replace h := of_ift h c18
      refine g_tsI (nI 5) (98) 114 C dX5_ruling_16 c18 (by decide) (by decide) rfl (by decide) ?_
      refine g_aload_n C dX5_ruling_114 rfl rfl ?_
      obtain ⟨g19, h⟩ := of_gdd h
      refine gf_2_6 C fl_RX5_226 g19 dX5_ruling_115 ?_
      refine g_if_eq 125 C dX5_ruling_118 (by decide) (fun c20 => ?_) (fun c20 => ?_)
      · replace h := of_ift h c20
        refine g_iconst (v := 0) C dX5_ruling_125 rfl ?_
        cases h
        exact hR 126 _ ⟨.int, rfl, rfl⟩ dX5_ruling_126
      · replace h := of_iff h c20
        refine g_iconst (v := 1) C dX5_ruling_121 rfl ?_
        refine g_goto 126 C dX5_ruling_122 (by decide) ?_
        cases h
        exact hR 126 _ ⟨.int, rfl, rfl⟩ dX5_ruling_126
    replace h := of_iff h c18
    by_cases c21 : x2 = nI 6
    · replace h := of_ift h c21
      refine g_tsI (nI 6) (111) 127 C dX5_ruling_16 c21 (by decide) (by decide) rfl (by decide) ?_
      refine g_aload_n C dX5_ruling_127 rfl rfl ?_
      refine gf_5_0 C fl_RX5_10 g1 dX5_ruling_128 ?_
      refine g_iload_n C dX5_ruling_131 rfl rfl ?_
      obtain ⟨y22, e23, h⟩ := of_obb h
      refine g_callV (As := [.int x1]) C (ct_X4_counts C.wf e23) g2 lk_RX5_229 mi_X4_counts (by decide) cs_0 (by decide) dX5_ruling_132 rfl ?_
      show Go w f 135 [some (rv w r0), some (.int x1), some (.int x2), some (rv w y3)] [.int y22] M
      refine g_if_eq 142 C dX5_ruling_135 (by decide) (fun c24 => ?_) (fun c24 => ?_)
      · replace h := of_ift h c24
        refine g_iconst (v := 0) C dX5_ruling_142 rfl ?_
        cases h
        exact hR 143 _ ⟨.int, rfl, rfl⟩ dX5_ruling_143
      · replace h := of_iff h c24
        refine g_iconst (v := 1) C dX5_ruling_138 rfl ?_
        refine g_goto 143 C dX5_ruling_139 (by decide) ?_
        cases h
        exact hR 143 _ ⟨.int, rfl, rfl⟩ dX5_ruling_143
    replace h := of_iff h c21
    by_cases c25 : x2 = nI 7
    · replace h := of_ift h c25
      refine g_tsI (nI 7) (128) 144 C dX5_ruling_16 c25 (by decide) (by decide) rfl (by decide) ?_
      refine g_aload_n C dX5_ruling_144 rfl rfl ?_
      refine gf_5_0 C fl_RX5_10 g1 dX5_ruling_145 ?_
      refine g_iload_n C dX5_ruling_148 rfl rfl ?_
      obtain ⟨y26, e27, h⟩ := of_obb h
      refine g_callV (As := [.int x1]) C (ct_X4_citationsOf C.wf e27) g2 lk_RX5_232 mi_X4_citationsOf (by decide) cs_0 (by decide) dX5_ruling_149 rfl ?_
      show Go w f 152 [some (rv w r0), some (.int x1), some (.int x2), some (rv w y3)] [.int y26] M
      cases h
      exact hR 152 _ ⟨.int, rfl, rfl⟩ dX5_ruling_152
    replace h := of_iff h c25
    by_cases c28 : x2 = nI 8
    · replace h := of_ift h c28
      refine g_tsI (nI 8) (137) 153 C dX5_ruling_16 c28 (by decide) (by decide) rfl (by decide) ?_
      refine g_aload_n C dX5_ruling_153 rfl rfl ?_
      refine gf_5_0 C fl_RX5_10 g1 dX5_ruling_154 ?_
      refine g_iload_n C dX5_ruling_157 rfl rfl ?_
      obtain ⟨y29, e30, h⟩ := of_obb h
      refine g_callV (As := [.int x1]) C (ct_X4_finesBroughtBy C.wf e30) g2 lk_RX5_235 mi_X4_finesBroughtBy (by decide) cs_0 (by decide) dX5_ruling_158 rfl ?_
      show Go w f 161 [some (rv w r0), some (.int x1), some (.int x2), some (rv w y3)] [.int y29] M
      cases h
      exact hR 161 _ ⟨.int, rfl, rfl⟩ dX5_ruling_161
    replace h := of_iff h c28
    refine g_tsD 9 162 C dX5_ruling_16 (by decide) rfl rfl (p_lt (lt_s (lt_s (lt_s (lt_s (lt_s (lt_s (lt_s (lt_s (lt_s lt_0 c6) c8) c10) c13) c15) c18) c21) c25) c28)) (by decide) ?_
    refine g_iconst (v := -1) C dX5_ruling_162 rfl ?_
    cases h
    exact hR 163 _ ⟨.int, rfl, rfl⟩ dX5_ruling_163
  · replace h := of_ift h c5
    refine g_iconst (v := -1) C dX5_ruling_13 rfl ?_
    cases h
    exact hR 14 _ ⟨.int, rfl, rfl⟩ dX5_ruling_14
def f_X0_hasGap (r0 : Nat) (x1 : Int32) (M : Mem) : Option Int32 := if x1 < 0 then (some (0 : Int32)) else (gdd (kd r0 = 1) <| if ((gI M r0 1) - (1 : Int32)) ≤ x1 then (some (0 : Int32)) else (some (1 : Int32)))
set_option maxRecDepth 100000 in
set_option maxHeartbeats 4000000 in
theorem ct_X0_hasGap {l : Launch} {w : Om} (hw : Wf w) {r0 : Nat} {x1 : Int32}  {M : Mem} {r : Int32} (h : f_X0_hasGap r0 x1 M = some r) : Ct l w yX0_hasGap cX0_hasGap 2 (some .boolean) 0 [rv w r0, .int x1] M (some (.int r)) M := by
  refine ct_of hw (by decide) (cat_s (rv_cat _ _) (cat_s rfl cat_0)) (Nat.le_of_ble_eq_true rfl) (fun f _ C hR => ?_)
  show Go w f 0 [some (rv w r0), some (.int x1)] [] M
  unfold f_X0_hasGap at h
  refine g_iload_n C dX0_hasGap_0 rfl rfl ?_
  refine g_if_lt 18 C dX0_hasGap_1 (by decide) (fun c1 => ?_) (fun c1 => ?_)
  · replace h := of_ift h c1
    refine g_iconst (v := 0) C dX0_hasGap_18 rfl ?_
    cases h
    exact hR 19 _ ⟨.boolean, rfl, rfl⟩ dX0_hasGap_19
  · replace h := of_iff h c1
    refine g_iload_n C dX0_hasGap_4 rfl rfl ?_
    refine g_aload_n C dX0_hasGap_5 rfl rfl ?_
    obtain ⟨g2, h⟩ := of_gdd h
    refine gf_0_1 C fl_RX0_23 g2 dX0_hasGap_6 ?_
    refine g_iconst (v := 1) C dX0_hasGap_9 rfl ?_
    refine g_isub C dX0_hasGap_10 ?_
    refine g_icmp_ge 18 C dX0_hasGap_11 (by decide) (fun c3 => ?_) (fun c3 => ?_)
    · replace h := of_ift h c3
      refine g_iconst (v := 0) C dX0_hasGap_18 rfl ?_
      cases h
      exact hR 19 _ ⟨.boolean, rfl, rfl⟩ dX0_hasGap_19
    · replace h := of_iff h c3
      refine g_iconst (v := 1) C dX0_hasGap_14 rfl ?_
      refine g_goto 19 C dX0_hasGap_15 (by decide) ?_
      cases h
      exact hR 19 _ ⟨.boolean, rfl, rfl⟩ dX0_hasGap_19
def f_X0_movedCommas (r0 : Nat) (x1 : Int32) (M : Mem) : Option Int32 := gdd (kd r0 = 1) <| some ((gI M r0 2) ^^^ ((1 : Int32) <<< (x1 &&& 31)))
set_option maxRecDepth 100000 in
set_option maxHeartbeats 4000000 in
theorem ct_X0_movedCommas {l : Launch} {w : Om} (hw : Wf w) {r0 : Nat} {x1 : Int32}  {M : Mem} {r : Int32} (h : f_X0_movedCommas r0 x1 M = some r) : Ct l w yX0_movedCommas cX0_movedCommas 2 (some .int) 0 [rv w r0, .int x1] M (some (.int r)) M := by
  refine ct_of hw (by decide) (cat_s (rv_cat _ _) (cat_s rfl cat_0)) (Nat.le_of_ble_eq_true rfl) (fun f _ C hR => ?_)
  show Go w f 0 [some (rv w r0), some (.int x1)] [] M
  unfold f_X0_movedCommas at h
  refine g_aload_n C dX0_movedCommas_0 rfl rfl ?_
  obtain ⟨g1, h⟩ := of_gdd h
  refine gf_0_2 C fl_RX0_27 g1 dX0_movedCommas_1 ?_
  refine g_iconst (v := 1) C dX0_movedCommas_4 rfl ?_
  refine g_iload_n C dX0_movedCommas_5 rfl rfl ?_
  refine g_ishl C dX0_movedCommas_6 ?_
  refine g_ixor C dX0_movedCommas_7 ?_
  cases h
  exact hR 8 _ ⟨.int, rfl, rfl⟩ dX0_movedCommas_8
def f_X5_gap (r0 : Nat) (x1 : Int32) (x2 : Int32) (x3 : Int32) (M : Mem) : Option (Int32 × Mem) := gdd (kd r0 = 6) <| gdd (kd (fld r0 0) = 5) <| obb (f_X4_editionAt (fld r0 0) x1 M) fun y3 => if y3 = 0 then (some ((-1 : Int32), M)) else (gdd (kd y3 = 1) <| obb (f_X0_hasGap y3 x2 M) fun y7 => if y7 = 0 then (some ((-1 : Int32), M)) else (if x3 = nI 0 then (obb (f_X0_hasComma y3 x2 M) fun y11 => if y11 = 0 then (some ((0 : Int32), M)) else (some ((1 : Int32), M))) else if x3 = nI 1 then (obb (f_X4_countingAt (fld r0 0) y3 x2 M) fun y15 => some (y15, M)) else if x3 = nI 2 then (obb (f_X4_fineAt (fld r0 0) y3 x2 M) fun y18 => some (y18, M)) else if x3 = nI 3 then (gdd (kd (fld r0 5) = 4) <| obb (f_X3_read (fld r0 5) (fld r0 0) y3 M) fun M22 => obb (f_X0_movedCommas y3 x2 M22) fun y24 => obb (f_X3_cost (fld r0 5) y24 M22) fun y26 => obb (f_X3_cost (fld r0 5) (gI M22 y3 2) M22) fun y28 => some (((1000 : Int32) + y26) - y28, M22)) else (some ((-1 : Int32), M))))
set_option maxRecDepth 100000 in
set_option maxHeartbeats 4000000 in
theorem ct_X5_gap {l : Launch} {w : Om} (hw : Wf w) {r0 : Nat} {x1 : Int32} {x2 : Int32} {x3 : Int32} {M : Mem} {r : Int32} {M2 : Mem} (h : f_X5_gap r0 x1 x2 x3 M = some (r, M2)) : Ct l w yX5_gap cX5_gap 5 (some .int) 4 [rv w r0, .int x1, .int x2, .int x3] M (some (.int r)) M2 := by
  refine ct_of hw (by decide) (cat_s (rv_cat _ _) (cat_s rfl (cat_s rfl (cat_s rfl cat_0)))) (Nat.le_of_ble_eq_true rfl) (fun f _ C hR => ?_)
  show Go w f 0 [some (rv w r0), some (.int x1), some (.int x2), some (.int x3), none] [] M
  unfold f_X5_gap at h
  refine g_aload_n C dX5_gap_0 rfl rfl ?_
  obtain ⟨g1, h⟩ := of_gdd h
  refine gf_5_0 C fl_RX5_10 g1 dX5_gap_1 ?_
  refine g_iload_n C dX5_gap_4 rfl rfl ?_
  obtain ⟨g2, h⟩ := of_gdd h
  obtain ⟨y3, e4, h⟩ := of_obb h
  refine g_callV (As := [.int x1]) C (ct_X4_editionAt C.wf e4) g2 lk_RX5_121 mi_X4_editionAt (by decide) cs_0 (by decide) dX5_gap_5 rfl ?_
  show Go w f 8 [some (rv w r0), some (.int x1), some (.int x2), some (.int x3), none] [rv w y3] M
  refine g_astore C dX5_gap_8 (by decide) rfl (L2 := [some (rv w r0), some (.int x1), some (.int x2), some (.int x3), some (rv w y3)]) rfl ?_
  refine g_aload C dX5_gap_10 rfl ?_
  refine g_ifnull 24 C dX5_gap_12 (by decide) (fun c5 => ?_) (fun c5 => ?_)
  · replace h := of_ift h c5
    refine g_iconst (v := -1) C dX5_gap_24 rfl ?_
    cases h
    exact hR 25 _ ⟨.int, rfl, rfl⟩ dX5_gap_25
  · replace h := of_iff h c5
    refine g_aload C dX5_gap_15 rfl ?_
    refine g_iload_n C dX5_gap_17 rfl rfl ?_
    obtain ⟨g6, h⟩ := of_gdd h
    obtain ⟨y7, e8, h⟩ := of_obb h
    refine g_callV (As := [.int x2]) C (ct_X0_hasGap C.wf e8) g6 lk_RX5_129 mi_X0_hasGap (by decide) cs_0 (by decide) dX5_gap_18 rfl ?_
    show Go w f 21 [some (rv w r0), some (.int x1), some (.int x2), some (.int x3), some (rv w y3)] [.int y7] M
    refine g_if_ne 26 C dX5_gap_21 (by decide) (fun c9 => ?_) (fun c9 => ?_)
    · replace h := of_iff h c9
      refine g_iload_n C dX5_gap_26 rfl rfl ?_
      by_cases c10 : x3 = nI 0
      · replace h := of_ift h c10
        refine g_tsI (nI 0) (29) 56 C dX5_gap_27 c10 (by decide) (by decide) rfl (by decide) ?_
        refine g_aload C dX5_gap_56 rfl ?_
        refine g_iload_n C dX5_gap_58 rfl rfl ?_
        obtain ⟨y11, e12, h⟩ := of_obb h
        refine g_callV (As := [.int x2]) C (ct_X0_hasComma C.wf e12) g6 lk_RX5_199 mi_X0_hasComma (by decide) cs_0 (by decide) dX5_gap_59 rfl ?_
        show Go w f 62 [some (rv w r0), some (.int x1), some (.int x2), some (.int x3), some (rv w y3)] [.int y11] M
        refine g_if_eq 69 C dX5_gap_62 (by decide) (fun c13 => ?_) (fun c13 => ?_)
        · replace h := of_ift h c13
          refine g_iconst (v := 0) C dX5_gap_69 rfl ?_
          cases h
          exact hR 70 _ ⟨.int, rfl, rfl⟩ dX5_gap_70
        · replace h := of_iff h c13
          refine g_iconst (v := 1) C dX5_gap_65 rfl ?_
          refine g_goto 70 C dX5_gap_66 (by decide) ?_
          cases h
          exact hR 70 _ ⟨.int, rfl, rfl⟩ dX5_gap_70
      replace h := of_iff h c10
      by_cases c14 : x3 = nI 1
      · replace h := of_ift h c14
        refine g_tsI (nI 1) (44) 71 C dX5_gap_27 c14 (by decide) (by decide) rfl (by decide) ?_
        refine g_aload_n C dX5_gap_71 rfl rfl ?_
        refine gf_5_0 C fl_RX5_10 g1 dX5_gap_72 ?_
        refine g_aload C dX5_gap_75 rfl ?_
        refine g_iload_n C dX5_gap_77 rfl rfl ?_
        obtain ⟨y15, e16, h⟩ := of_obb h
        refine g_callV (As := [rv w y3, .int x2]) C (ct_X4_countingAt C.wf e16) g2 lk_RX5_202 mi_X4_countingAt (by decide) cs_0 (by decide) dX5_gap_78 rfl ?_
        show Go w f 81 [some (rv w r0), some (.int x1), some (.int x2), some (.int x3), some (rv w y3)] [.int y15] M
        cases h
        exact hR 81 _ ⟨.int, rfl, rfl⟩ dX5_gap_81
      replace h := of_iff h c14
      by_cases c17 : x3 = nI 2
      · replace h := of_ift h c17
        refine g_tsI (nI 2) (55) 82 C dX5_gap_27 c17 (by decide) (by decide) rfl (by decide) ?_
        refine g_aload_n C dX5_gap_82 rfl rfl ?_
        refine gf_5_0 C fl_RX5_10 g1 dX5_gap_83 ?_
        refine g_aload C dX5_gap_86 rfl ?_
        refine g_iload_n C dX5_gap_88 rfl rfl ?_
        obtain ⟨y18, e19, h⟩ := of_obb h
        refine g_callV (As := [rv w y3, .int x2]) C (ct_X4_fineAt C.wf e19) g2 lk_RX5_205 mi_X4_fineAt (by decide) cs_0 (by decide) dX5_gap_89 rfl ?_
        show Go w f 92 [some (rv w r0), some (.int x1), some (.int x2), some (.int x3), some (rv w y3)] [.int y18] M
        cases h
        exact hR 92 _ ⟨.int, rfl, rfl⟩ dX5_gap_92
      replace h := of_iff h c17
      by_cases c20 : x3 = nI 3
      · replace h := of_ift h c20
        refine g_tsI (nI 3) (66) 93 C dX5_gap_27 c20 (by decide) (by decide) rfl (by decide) ?_
        refine g_aload_n C dX5_gap_93 rfl rfl ?_
        refine gf_5_5 C fl_RX5_40 g1 dX5_gap_94 ?_
        refine g_aload_n C dX5_gap_97 rfl rfl ?_
        refine gf_5_0 C fl_RX5_10 g1 dX5_gap_98 ?_
        refine g_aload C dX5_gap_101 rfl ?_
        obtain ⟨g21, h⟩ := of_gdd h
        obtain ⟨M22, e23, h⟩ := of_obb h
        refine g_callV (As := [rv w (fld r0 0), rv w y3]) C (ct_X3_read C.wf e23) g21 lk_RX5_170 mi_X3_read (by decide) cs_0 (by decide) dX5_gap_103 rfl ?_
        show Go w f 106 [some (rv w r0), some (.int x1), some (.int x2), some (.int x3), some (rv w y3)] [] M22
        refine g_sipush (v := 1000) C dX5_gap_106 rfl ?_
        refine g_aload_n C dX5_gap_109 rfl rfl ?_
        refine gf_5_5 C fl_RX5_40 g1 dX5_gap_110 ?_
        refine g_aload C dX5_gap_113 rfl ?_
        refine g_iload_n C dX5_gap_115 rfl rfl ?_
        obtain ⟨y24, e25, h⟩ := of_obb h
        refine g_callV (As := [.int x2]) C (ct_X0_movedCommas C.wf e25) g6 lk_RX5_208 mi_X0_movedCommas (by decide) (cs_r (cs_i cs_0)) (by decide) dX5_gap_116 rfl ?_
        show Go w f 119 [some (rv w r0), some (.int x1), some (.int x2), some (.int x3), some (rv w y3)] [.int y24, rv w (fld r0 5), .int (1000 : Int32)] M22
        obtain ⟨y26, e27, h⟩ := of_obb h
        refine g_callV (As := [.int y24]) C (ct_X3_cost C.wf e27) g21 lk_RX5_189 mi_X3_cost (by decide) (cs_i cs_0) (by decide) dX5_gap_119 rfl ?_
        show Go w f 122 [some (rv w r0), some (.int x1), some (.int x2), some (.int x3), some (rv w y3)] [.int y26, .int (1000 : Int32)] M22
        refine g_iadd C dX5_gap_122 ?_
        refine g_aload_n C dX5_gap_123 rfl rfl ?_
        refine gf_5_5 C fl_RX5_40 g1 dX5_gap_124 ?_
        refine g_aload C dX5_gap_127 rfl ?_
        refine gf_0_2 C fl_RX5_105 g6 dX5_gap_129 ?_
        obtain ⟨y28, e29, h⟩ := of_obb h
        refine g_callV (As := [.int (gI M22 y3 2)]) C (ct_X3_cost C.wf e29) g21 lk_RX5_189 mi_X3_cost (by decide) (cs_i cs_0) (by decide) dX5_gap_132 rfl ?_
        show Go w f 135 [some (rv w r0), some (.int x1), some (.int x2), some (.int x3), some (rv w y3)] [.int y28, .int ((1000 : Int32) + y26)] M22
        refine g_isub C dX5_gap_135 ?_
        cases h
        exact hR 136 _ ⟨.int, rfl, rfl⟩ dX5_gap_136
      replace h := of_iff h c20
      refine g_tsD 4 137 C dX5_gap_27 (by decide) rfl rfl (p_lt (lt_s (lt_s (lt_s (lt_s lt_0 c10) c14) c17) c20)) (by decide) ?_
      refine g_iconst (v := -1) C dX5_gap_137 rfl ?_
      cases h
      exact hR 138 _ ⟨.int, rfl, rfl⟩ dX5_gap_138
    · replace h := of_ift h c9
      refine g_iconst (v := -1) C dX5_gap_24 rfl ?_
      cases h
      exact hR 25 _ ⟨.int, rfl, rfl⟩ dX5_gap_25
def f_X5_isWithin (x0 : Int32) (x1 : Int32) (x2 : Int32) : Int32 := if x0 < x1 then ((0 : Int32)) else (if x2 < x0 then ((0 : Int32)) else ((1 : Int32)))
set_option maxRecDepth 100000 in
set_option maxHeartbeats 4000000 in
theorem ct_X5_isWithin {l : Launch} {w : Om} (hw : Wf w) {x0 : Int32} {x1 : Int32} {x2 : Int32}  {M : Mem} {r : Int32} (h : f_X5_isWithin x0 x1 x2 = r) : Ct l w yX5_isWithin cX5_isWithin 3 (some .boolean) 0 [.int x0, .int x1, .int x2] M (some (.int r)) M := by
  refine ct_of hw (by decide) (cat_s rfl (cat_s rfl (cat_s rfl cat_0))) (Nat.le_of_ble_eq_true rfl) (fun f _ C hR => ?_)
  show Go w f 0 [some (.int x0), some (.int x1), some (.int x2)] [] M
  unfold f_X5_isWithin at h
  refine g_iload_n C dX5_isWithin_0 rfl rfl ?_
  refine g_iload_n C dX5_isWithin_1 rfl rfl ?_
  refine g_icmp_lt 14 C dX5_isWithin_2 (by decide) (fun c1 => ?_) (fun c1 => ?_)
  · replace h := of_ift h c1
    refine g_iconst (v := 0) C dX5_isWithin_14 rfl ?_
    cases h
    exact hR 15 _ ⟨.boolean, rfl, rfl⟩ dX5_isWithin_15
  · replace h := of_iff h c1
    refine g_iload_n C dX5_isWithin_5 rfl rfl ?_
    refine g_iload_n C dX5_isWithin_6 rfl rfl ?_
    refine g_icmp_gt 14 C dX5_isWithin_7 (by decide) (fun c2 => ?_) (fun c2 => ?_)
    · replace h := of_ift h c2
      refine g_iconst (v := 0) C dX5_isWithin_14 rfl ?_
      cases h
      exact hR 15 _ ⟨.boolean, rfl, rfl⟩ dX5_isWithin_15
    · replace h := of_iff h c2
      refine g_iconst (v := 1) C dX5_isWithin_10 rfl ?_
      refine g_goto 15 C dX5_isWithin_11 (by decide) ?_
      cases h
      exact hR 15 _ ⟨.boolean, rfl, rfl⟩ dX5_isWithin_15
theorem zb_X5_isWithin (x0 x1 x2 : Int32) : isb (f_X5_isWithin x0 x1 x2) = true := by
  unfold f_X5_isWithin
  repeat' split
  all_goals first | decide
def f_X3_rank (r0 : Nat) (x1 : Int32) (M : Mem) : Option Int32 := gdd (kd r0 = 4) <| obb (f_X3_cost r0 x1 M) fun y2 => some (((y2 * (32768 : Int32)) + ((f_J6_bitCount_0f7a4 x1) * (2048 : Int32))) + x1)
set_option maxRecDepth 100000 in
set_option maxHeartbeats 4000000 in
theorem ct_X3_rank {l : Launch} {w : Om} (hw : Wf w) {r0 : Nat} {x1 : Int32}  {M : Mem} {r : Int32} (h : f_X3_rank r0 x1 M = some r) : Ct l w yX3_rank cX3_rank 2 (some .int) 4 [rv w r0, .int x1] M (some (.int r)) M := by
  refine ct_of hw (by decide) (cat_s (rv_cat _ _) (cat_s rfl cat_0)) (Nat.le_of_ble_eq_true rfl) (fun f _ C hR => ?_)
  show Go w f 0 [some (rv w r0), some (.int x1)] [] M
  unfold f_X3_rank at h
  refine g_aload_n C dX3_rank_0 rfl rfl ?_
  refine g_iload_n C dX3_rank_1 rfl rfl ?_
  obtain ⟨g1, h⟩ := of_gdd h
  obtain ⟨y2, e3, h⟩ := of_obb h
  refine g_callV (As := [.int x1]) C (ct_X3_cost C.wf e3) g1 lk_RX3_83 mi_X3_cost (by decide) cs_0 (by decide) dX3_rank_2 rfl ?_
  show Go w f 5 [some (rv w r0), some (.int x1)] [.int y2] M
  refine g_ldc C kc_RX3_86 dX3_rank_5 ?_
  refine g_imul C dX3_rank_7 ?_
  refine g_iload_n C dX3_rank_8 rfl rfl ?_
  refine g_callS (As := [.int x1]) C (ct_J6_bitCount_0f7a4 C.wf rfl) lk_RX3_87 mi_J6_bitCount_0f7a4 (by decide) (cs_i cs_0) (by decide) dX3_rank_9 rfl ?_
  show Go w f 12 [some (rv w r0), some (.int x1)] [.int (f_J6_bitCount_0f7a4 x1), .int (y2 * (32768 : Int32))] M
  refine g_sipush (v := 2048) C dX3_rank_12 rfl ?_
  refine g_imul C dX3_rank_15 ?_
  refine g_iadd C dX3_rank_16 ?_
  refine g_iload_n C dX3_rank_17 rfl rfl ?_
  refine g_iadd C dX3_rank_18 ?_
  cases h
  exact hR 19 _ ⟨.int, rfl, rfl⟩ dX3_rank_19
def f_X3_leastRankOfAllSets_8 (M : Mem) : Nat → Nat → Int32 → Int32 → Option Int32
  | 0, _, _, _ => none
  | n + 1, r0, x1, x2 => gdd (kd r0 = 4) <| if ((1 : Int32) <<< (((gI M r0 4) - (1 : Int32)) &&& 31)) ≤ x2 then (some x1) else (obb (f_X3_rank r0 x2 M) fun y203 => bvv (if y203 < x1 then y203 else x1) fun y205 => bvv (x2 + (1 : Int32)) fun y207 => (f_X3_leastRankOfAllSets_8 M n) r0 y205 y207)
set_option maxRecDepth 100000 in
set_option maxHeartbeats 4000000 in
theorem t_X3_leastRankOfAllSets_8 {w : Om} {f : Fr} {M : Mem} {r : Int32} (C : Cx w f RX3 cX3_leastRankOfAllSets 3 5) (hR : Rt w f cX3_leastRankOfAllSets (some .int) (some (.int r)) M)   : ∀ (n : Nat) (r0 : Nat) (x1 : Int32) (x2 : Int32), f_X3_leastRankOfAllSets_8 M n r0 x1 x2 = some r → Go w f 8 [some (rv w r0), some (.int x1), some (.int x2)] [] M := by
  intro n
  induction n with
  | zero =>
    intro r0 x1 x2 h
    cases h
  | succ n ih =>
    intro r0 x1 x2 h
    rw [f_X3_leastRankOfAllSets_8] at h
    refine g_iload_n C dX3_leastRankOfAllSets_8 rfl rfl ?_
    refine g_iconst (v := 1) C dX3_leastRankOfAllSets_9 rfl ?_
    refine g_aload_n C dX3_leastRankOfAllSets_10 rfl rfl ?_
    obtain ⟨g201, h⟩ := of_gdd h
    refine gf_3_4 C fl_RX3_30 g201 dX3_leastRankOfAllSets_11 ?_
    refine g_iconst (v := 1) C dX3_leastRankOfAllSets_14 rfl ?_
    refine g_isub C dX3_leastRankOfAllSets_15 ?_
    refine g_ishl C dX3_leastRankOfAllSets_16 ?_
    refine g_icmp_ge 36 C dX3_leastRankOfAllSets_17 (by decide) (fun c202 => ?_) (fun c202 => ?_)
    · replace h := of_ift h c202
      refine g_iload_n C dX3_leastRankOfAllSets_36 rfl rfl ?_
      cases h
      exact hR 37 _ ⟨.int, rfl, rfl⟩ dX3_leastRankOfAllSets_37
    · replace h := of_iff h c202
      refine g_iload_n C dX3_leastRankOfAllSets_20 rfl rfl ?_
      refine g_aload_n C dX3_leastRankOfAllSets_21 rfl rfl ?_
      refine g_iload_n C dX3_leastRankOfAllSets_22 rfl rfl ?_
      obtain ⟨y203, e204, h⟩ := of_obb h
      refine g_callV (As := [.int x2]) C (ct_X3_rank C.wf e204) g201 lk_RX3_92 mi_X3_rank (by decide) (cs_i cs_0) (by decide) dX3_leastRankOfAllSets_23 rfl ?_
      show Go w f 26 [some (rv w r0), some (.int x1), some (.int x2)] [.int y203, .int x1] M
      refine g_mmin C lk_RX3_95 cs_0 (by decide) dX3_leastRankOfAllSets_26 ?_
      obtain ⟨y205, e206, h⟩ := of_bvv h
      refine g_topi e206 ?_
      refine g_istore_n C dX3_leastRankOfAllSets_29 rfl (by decide) (rv_cat _ _) (L2 := [some (rv w r0), some (.int y205), some (.int x2)]) rfl ?_
      obtain ⟨y207, e208, h⟩ := of_bvv h
      refine g_iinc (v := y207) C dX3_leastRankOfAllSets_30 rfl e208.symm (by decide) rfl (L2 := [some (rv w r0), some (.int y205), some (.int y207)]) rfl ?_
      refine g_goto 8 C dX3_leastRankOfAllSets_33 (by decide) ?_
      exact ih r0 y205 y207 h
def f_X3_leastRankOfAllSets (r0 : Nat) (M : Mem) : Option Int32 := gdd (kd r0 = 4) <| obb (f_X3_rank r0 (0 : Int32) M) fun y2 => f_X3_leastRankOfAllSets_8 M FU r0 y2 (1 : Int32)
set_option maxRecDepth 100000 in
set_option maxHeartbeats 4000000 in
theorem ct_X3_leastRankOfAllSets {l : Launch} {w : Om} (hw : Wf w) {r0 : Nat}  {M : Mem} {r : Int32} (h : f_X3_leastRankOfAllSets r0 M = some r) : Ct l w yX3_leastRankOfAllSets cX3_leastRankOfAllSets 3 (some .int) 5 [rv w r0] M (some (.int r)) M := by
  refine ct_of hw (by decide) (cat_s (rv_cat _ _) cat_0) (Nat.le_of_ble_eq_true rfl) (fun f _ C hR => ?_)
  show Go w f 0 [some (rv w r0), none, none] [] M
  unfold f_X3_leastRankOfAllSets at h
  refine g_aload_n C dX3_leastRankOfAllSets_0 rfl rfl ?_
  refine g_iconst (v := 0) C dX3_leastRankOfAllSets_1 rfl ?_
  obtain ⟨g1, h⟩ := of_gdd h
  obtain ⟨y2, e3, h⟩ := of_obb h
  refine g_callV (As := [.int (0 : Int32)]) C (ct_X3_rank C.wf e3) g1 lk_RX3_92 mi_X3_rank (by decide) cs_0 (by decide) dX3_leastRankOfAllSets_2 rfl ?_
  show Go w f 5 [some (rv w r0), none, none] [.int y2] M
  refine g_istore_n C dX3_leastRankOfAllSets_5 rfl (by decide) (rv_cat _ _) (L2 := [some (rv w r0), some (.int y2), none]) rfl ?_
  refine g_iconst (v := 1) C dX3_leastRankOfAllSets_6 rfl ?_
  refine g_istore_n C dX3_leastRankOfAllSets_7 rfl (by decide) rfl (L2 := [some (rv w r0), some (.int y2), some (.int (1 : Int32))]) rfl ?_
  exact t_X3_leastRankOfAllSets_8 C hR _ r0 y2 (1 : Int32) h
def f_X3_rankUpToClause (r0 : Nat) (x1 : Int32) (M : Mem) : Option Int32 := if x1 = 0 then (some (0 : Int32)) else (bvv (x1 - (1 : Int32)) fun y2 => gdd (kd r0 = 4) <| obb (f_X5_at (fld r0 3) x1 M) fun y5 => obb (f_X5_at (fld r0 1) y2 M) fun y7 => some (((y5 + (y7 * (32768 : Int32))) + (2048 : Int32)) + ((1 : Int32) <<< (y2 &&& 31))))
set_option maxRecDepth 100000 in
set_option maxHeartbeats 4000000 in
theorem ct_X3_rankUpToClause {l : Launch} {w : Om} (hw : Wf w) {r0 : Nat} {x1 : Int32}  {M : Mem} {r : Int32} (h : f_X3_rankUpToClause r0 x1 M = some r) : Ct l w yX3_rankUpToClause cX3_rankUpToClause 3 (some .int) 1 [rv w r0, .int x1] M (some (.int r)) M := by
  refine ct_of hw (by decide) (cat_s (rv_cat _ _) (cat_s rfl cat_0)) (Nat.le_of_ble_eq_true rfl) (fun f _ C hR => ?_)
  show Go w f 0 [some (rv w r0), some (.int x1), none] [] M
  unfold f_X3_rankUpToClause at h
  refine g_iload_n C dX3_rankUpToClause_0 rfl rfl ?_
  refine g_if_ne 6 C dX3_rankUpToClause_1 (by decide) (fun c1 => ?_) (fun c1 => ?_)
  · replace h := of_iff h c1
    refine g_iload_n C dX3_rankUpToClause_6 rfl rfl ?_
    refine g_iconst (v := 1) C dX3_rankUpToClause_7 rfl ?_
    refine g_isub C dX3_rankUpToClause_8 ?_
    obtain ⟨y2, e3, h⟩ := of_bvv h
    refine g_topi e3 ?_
    refine g_istore_n C dX3_rankUpToClause_9 rfl (by decide) rfl (L2 := [some (rv w r0), some (.int x1), some (.int y2)]) rfl ?_
    refine g_aload_n C dX3_rankUpToClause_10 rfl rfl ?_
    obtain ⟨g4, h⟩ := of_gdd h
    refine gf_3_3 C fl_RX3_21 g4 dX3_rankUpToClause_11 ?_
    refine g_iload_n C dX3_rankUpToClause_14 rfl rfl ?_
    obtain ⟨y5, e6, h⟩ := of_obb h
    refine g_callSN (As := [rv w (fld r0 3), .int x1]) C (ct_X5_at C.wf e6) ln_RX3_36 mi_X5_at (by decide) cs_0 (by decide) dX3_rankUpToClause_15 rfl ?_
    show Go w f 18 [some (rv w r0), some (.int x1), some (.int y2)] [.int y5] M
    refine g_aload_n C dX3_rankUpToClause_18 rfl rfl ?_
    refine gf_3_1 C fl_RX3_15 g4 dX3_rankUpToClause_19 ?_
    refine g_iload_n C dX3_rankUpToClause_22 rfl rfl ?_
    obtain ⟨y7, e8, h⟩ := of_obb h
    refine g_callSN (As := [rv w (fld r0 1), .int y2]) C (ct_X5_at C.wf e8) ln_RX3_36 mi_X5_at (by decide) (cs_i cs_0) (by decide) dX3_rankUpToClause_23 rfl ?_
    show Go w f 26 [some (rv w r0), some (.int x1), some (.int y2)] [.int y7, .int y5] M
    refine g_ldc C kc_RX3_86 dX3_rankUpToClause_26 ?_
    refine g_imul C dX3_rankUpToClause_28 ?_
    refine g_iadd C dX3_rankUpToClause_29 ?_
    refine g_sipush (v := 2048) C dX3_rankUpToClause_30 rfl ?_
    refine g_iadd C dX3_rankUpToClause_33 ?_
    refine g_iconst (v := 1) C dX3_rankUpToClause_34 rfl ?_
    refine g_iload_n C dX3_rankUpToClause_35 rfl rfl ?_
    refine g_ishl C dX3_rankUpToClause_36 ?_
    refine g_iadd C dX3_rankUpToClause_37 ?_
    cases h
    exact hR 38 _ ⟨.int, rfl, rfl⟩ dX3_rankUpToClause_38
  · replace h := of_ift h c1
    refine g_iconst (v := 0) C dX3_rankUpToClause_4 rfl ?_
    cases h
    exact hR 5 _ ⟨.int, rfl, rfl⟩ dX3_rankUpToClause_5
def f_X3_leastRankUpTo_12 (M : Mem) : Nat → Nat → Int32 → Int32 → Int32 → Int32 → Int32 → Option Int32
  | 0, _, _, _, _, _, _ => none
  | n + 1, r0, x1, x2, x3, x4, x5 => if x5 < 0 then (some x2) else (if x5 = (x1 - (1 : Int32)) then (gdd (kd r0 = 4) <| obb (f_X5_at (fld r0 0) x5 M) fun y223 => bvv (x3 + y223) fun y225 => bvv (x4 + (0 : Int32)) fun y227 => obb (f_X3_rankUpToClause r0 x5 M) fun y229 => obb (f_X3_clauseCost r0 y225 M) fun y231 => bvv (y229 + ((y231 + y227) * (32768 : Int32))) fun y233 => bvv (x5 + (-1 : Int32)) fun y235 => (f_X3_leastRankUpTo_12 M n) r0 x1 y233 y225 y227 y235) else (gdd (kd r0 = 4) <| obb (f_X5_at (fld r0 0) x5 M) fun y204 => bvv (x3 + y204) fun y206 => obb (f_X5_at (fld r0 2) x5 M) fun y208 => bvv (x4 + y208) fun y210 => obb (f_X3_rankUpToClause r0 x5 M) fun y212 => obb (f_X3_clauseCost r0 y206 M) fun y214 => bvv (y212 + ((y214 + y210) * (32768 : Int32))) fun y216 => bvv (if y216 < x2 then y216 else x2) fun y218 => bvv (x5 + (-1 : Int32)) fun y220 => (f_X3_leastRankUpTo_12 M n) r0 x1 y218 y206 y210 y220))
set_option maxRecDepth 100000 in
set_option maxHeartbeats 4000000 in
theorem t_X3_leastRankUpTo_12 {w : Om} {f : Fr} {M : Mem} {r : Int32} (C : Cx w f RX3 cX3_leastRankUpTo 8 2) (hR : Rt w f cX3_leastRankUpTo (some .int) (some (.int r)) M)   : ∀ (n : Nat) (r0 : Nat) (x1 : Int32) (x2 : Int32) (x3 : Int32) (x4 : Int32) (x5 : Int32), f_X3_leastRankUpTo_12 M n r0 x1 x2 x3 x4 x5 = some r → Go w f 12 [some (rv w r0), some (.int x1), some (.int x2), some (.int x3), some (.int x4), some (.int x5), none, none] [] M := by
  intro n
  induction n with
  | zero =>
    intro r0 x1 x2 x3 x4 x5 h
    cases h
  | succ n ih =>
    intro r0 x1 x2 x3 x4 x5 h
    rw [f_X3_leastRankUpTo_12] at h
    refine g_iload C dX3_leastRankUpTo_12 rfl ?_
    refine g_if_lt 110 C dX3_leastRankUpTo_14 (by decide) (fun c201 => ?_) (fun c201 => ?_)
    · replace h := of_ift h c201
      refine g_iload_n C dX3_leastRankUpTo_110 rfl rfl ?_
      cases h
      exact hR 111 _ ⟨.int, rfl, rfl⟩ dX3_leastRankUpTo_111
    · replace h := of_iff h c201
      refine g_iload C dX3_leastRankUpTo_17 rfl ?_
      refine g_iload_n C dX3_leastRankUpTo_19 rfl rfl ?_
      refine g_iconst (v := 1) C dX3_leastRankUpTo_20 rfl ?_
      refine g_isub C dX3_leastRankUpTo_21 ?_
      refine g_icmp_ne 29 C dX3_leastRankUpTo_22 (by decide) (fun c202 => ?_) (fun c202 => ?_)
      · replace h := of_iff h c202
        refine g_iconst (v := 0) C dX3_leastRankUpTo_29 rfl ?_
        refine g_istore C dX3_leastRankUpTo_30 (by decide) rfl (L2 := [some (rv w r0), some (.int x1), some (.int x2), some (.int x3), some (.int x4), some (.int x5), some (.int (0 : Int32)), none]) rfl ?_
        refine g_iload_n C dX3_leastRankUpTo_32 rfl rfl ?_
        refine g_aload_n C dX3_leastRankUpTo_33 rfl rfl ?_
        obtain ⟨g203, h⟩ := of_gdd h
        refine gf_3_0 C fl_RX3_9 g203 dX3_leastRankUpTo_34 ?_
        refine g_iload C dX3_leastRankUpTo_37 rfl ?_
        obtain ⟨y204, e205, h⟩ := of_obb h
        refine g_callSN (As := [rv w (fld r0 0), .int x5]) C (ct_X5_at C.wf e205) ln_RX3_36 mi_X5_at (by decide) (cs_i cs_0) (by decide) dX3_leastRankUpTo_39 rfl ?_
        show Go w f 42 [some (rv w r0), some (.int x1), some (.int x2), some (.int x3), some (.int x4), some (.int x5), some (.int (0 : Int32)), none] [.int y204, .int x3] M
        refine g_iadd C dX3_leastRankUpTo_42 ?_
        obtain ⟨y206, e207, h⟩ := of_bvv h
        refine g_topi e207 ?_
        refine g_istore_n C dX3_leastRankUpTo_43 rfl (by decide) rfl (L2 := [some (rv w r0), some (.int x1), some (.int x2), some (.int y206), some (.int x4), some (.int x5), some (.int (0 : Int32)), none]) rfl ?_
        refine g_iload C dX3_leastRankUpTo_44 rfl ?_
        refine g_iload C dX3_leastRankUpTo_46 rfl ?_
        refine g_if_eq 55 C dX3_leastRankUpTo_48 (by decide) (fun _ => ?_) (fun c => absurd c (by decide))
        refine g_aload_n C dX3_leastRankUpTo_55 rfl rfl ?_
        refine gf_3_2 C fl_RX3_18 g203 dX3_leastRankUpTo_56 ?_
        refine g_iload C dX3_leastRankUpTo_59 rfl ?_
        obtain ⟨y208, e209, h⟩ := of_obb h
        refine g_callSN (As := [rv w (fld r0 2), .int x5]) C (ct_X5_at C.wf e209) ln_RX3_36 mi_X5_at (by decide) (cs_i cs_0) (by decide) dX3_leastRankUpTo_61 rfl ?_
        show Go w f 64 [some (rv w r0), some (.int x1), some (.int x2), some (.int y206), some (.int x4), some (.int x5), some (.int (0 : Int32)), none] [.int y208, .int x4] M
        refine g_iadd C dX3_leastRankUpTo_64 ?_
        obtain ⟨y210, e211, h⟩ := of_bvv h
        refine g_topi e211 ?_
        refine g_istore C dX3_leastRankUpTo_65 (by decide) rfl (L2 := [some (rv w r0), some (.int x1), some (.int x2), some (.int y206), some (.int y210), some (.int x5), some (.int (0 : Int32)), none]) rfl ?_
        refine g_aload_n C dX3_leastRankUpTo_67 rfl rfl ?_
        refine g_iload C dX3_leastRankUpTo_68 rfl ?_
        obtain ⟨y212, e213, h⟩ := of_obb h
        refine g_callV (As := [.int x5]) C (ct_X3_rankUpToClause C.wf e213) g203 lk_RX3_102 mi_X3_rankUpToClause (by decide) cs_0 (by decide) dX3_leastRankUpTo_70 rfl ?_
        show Go w f 73 [some (rv w r0), some (.int x1), some (.int x2), some (.int y206), some (.int y210), some (.int x5), some (.int (0 : Int32)), none] [.int y212] M
        refine g_aload_n C dX3_leastRankUpTo_73 rfl rfl ?_
        refine g_iload_n C dX3_leastRankUpTo_74 rfl rfl ?_
        obtain ⟨y214, e215, h⟩ := of_obb h
        refine g_callV (As := [.int y206]) C (ct_X3_clauseCost C.wf e215) g203 lk_RX3_74 mi_X3_clauseCost (by decide) (cs_i cs_0) (by decide) dX3_leastRankUpTo_75 rfl ?_
        show Go w f 78 [some (rv w r0), some (.int x1), some (.int x2), some (.int y206), some (.int y210), some (.int x5), some (.int (0 : Int32)), none] [.int y214, .int y212] M
        refine g_iload C dX3_leastRankUpTo_78 rfl ?_
        refine g_iadd C dX3_leastRankUpTo_80 ?_
        refine g_ldc C kc_RX3_86 dX3_leastRankUpTo_81 ?_
        refine g_imul C dX3_leastRankUpTo_83 ?_
        refine g_iadd C dX3_leastRankUpTo_84 ?_
        obtain ⟨y216, e217, h⟩ := of_bvv h
        refine g_topi e217 ?_
        refine g_istore C dX3_leastRankUpTo_85 (by decide) rfl (L2 := [some (rv w r0), some (.int x1), some (.int x2), some (.int y206), some (.int y210), some (.int x5), some (.int (0 : Int32)), some (.int y216)]) rfl ?_
        refine g_iload C dX3_leastRankUpTo_87 rfl ?_
        refine g_if_eq 97 C dX3_leastRankUpTo_89 (by decide) (fun _ => ?_) (fun c => absurd c (by decide))
        refine g_iload_n C dX3_leastRankUpTo_97 rfl rfl ?_
        refine g_iload C dX3_leastRankUpTo_98 rfl ?_
        refine g_mmin C lk_RX3_95 cs_0 (by decide) dX3_leastRankUpTo_100 ?_
        obtain ⟨y218, e219, h⟩ := of_bvv h
        refine g_topi e219 ?_
        refine g_istore_n C dX3_leastRankUpTo_103 rfl (by decide) rfl (L2 := [some (rv w r0), some (.int x1), some (.int y218), some (.int y206), some (.int y210), some (.int x5), some (.int (0 : Int32)), some (.int y216)]) rfl ?_
        obtain ⟨y220, e221, h⟩ := of_bvv h
        refine g_iinc (v := y220) C dX3_leastRankUpTo_104 rfl e221.symm (by decide) rfl (L2 := [some (rv w r0), some (.int x1), some (.int y218), some (.int y206), some (.int y210), some (.int y220), some (.int (0 : Int32)), some (.int y216)]) rfl ?_
        refine g_goto 12 C dX3_leastRankUpTo_107 (by decide) ?_
        refine g_mask (bs := [true, true, true, true, true, true, false, false]) (L2 := [some (rv w r0), some (.int x1), some (.int y218), some (.int y206), some (.int y210), some (.int y220), none, none]) rfl ?_
        exact ih r0 x1 y218 y206 y210 y220 h
      · replace h := of_ift h c202
        refine g_iconst (v := 1) C dX3_leastRankUpTo_25 rfl ?_
        refine g_goto 30 C dX3_leastRankUpTo_26 (by decide) ?_
        refine g_istore C dX3_leastRankUpTo_30 (by decide) rfl (L2 := [some (rv w r0), some (.int x1), some (.int x2), some (.int x3), some (.int x4), some (.int x5), some (.int (1 : Int32)), none]) rfl ?_
        refine g_iload_n C dX3_leastRankUpTo_32 rfl rfl ?_
        refine g_aload_n C dX3_leastRankUpTo_33 rfl rfl ?_
        obtain ⟨g222, h⟩ := of_gdd h
        refine gf_3_0 C fl_RX3_9 g222 dX3_leastRankUpTo_34 ?_
        refine g_iload C dX3_leastRankUpTo_37 rfl ?_
        obtain ⟨y223, e224, h⟩ := of_obb h
        refine g_callSN (As := [rv w (fld r0 0), .int x5]) C (ct_X5_at C.wf e224) ln_RX3_36 mi_X5_at (by decide) (cs_i cs_0) (by decide) dX3_leastRankUpTo_39 rfl ?_
        show Go w f 42 [some (rv w r0), some (.int x1), some (.int x2), some (.int x3), some (.int x4), some (.int x5), some (.int (1 : Int32)), none] [.int y223, .int x3] M
        refine g_iadd C dX3_leastRankUpTo_42 ?_
        obtain ⟨y225, e226, h⟩ := of_bvv h
        refine g_topi e226 ?_
        refine g_istore_n C dX3_leastRankUpTo_43 rfl (by decide) rfl (L2 := [some (rv w r0), some (.int x1), some (.int x2), some (.int y225), some (.int x4), some (.int x5), some (.int (1 : Int32)), none]) rfl ?_
        refine g_iload C dX3_leastRankUpTo_44 rfl ?_
        refine g_iload C dX3_leastRankUpTo_46 rfl ?_
        refine g_if_eq 55 C dX3_leastRankUpTo_48 (by decide) (fun c => absurd c (by decide)) (fun _ => ?_)
        refine g_iconst (v := 0) C dX3_leastRankUpTo_51 rfl ?_
        refine g_goto 64 C dX3_leastRankUpTo_52 (by decide) ?_
        refine g_iadd C dX3_leastRankUpTo_64 ?_
        obtain ⟨y227, e228, h⟩ := of_bvv h
        refine g_topi e228 ?_
        refine g_istore C dX3_leastRankUpTo_65 (by decide) rfl (L2 := [some (rv w r0), some (.int x1), some (.int x2), some (.int y225), some (.int y227), some (.int x5), some (.int (1 : Int32)), none]) rfl ?_
        refine g_aload_n C dX3_leastRankUpTo_67 rfl rfl ?_
        refine g_iload C dX3_leastRankUpTo_68 rfl ?_
        obtain ⟨y229, e230, h⟩ := of_obb h
        refine g_callV (As := [.int x5]) C (ct_X3_rankUpToClause C.wf e230) g222 lk_RX3_102 mi_X3_rankUpToClause (by decide) cs_0 (by decide) dX3_leastRankUpTo_70 rfl ?_
        show Go w f 73 [some (rv w r0), some (.int x1), some (.int x2), some (.int y225), some (.int y227), some (.int x5), some (.int (1 : Int32)), none] [.int y229] M
        refine g_aload_n C dX3_leastRankUpTo_73 rfl rfl ?_
        refine g_iload_n C dX3_leastRankUpTo_74 rfl rfl ?_
        obtain ⟨y231, e232, h⟩ := of_obb h
        refine g_callV (As := [.int y225]) C (ct_X3_clauseCost C.wf e232) g222 lk_RX3_74 mi_X3_clauseCost (by decide) (cs_i cs_0) (by decide) dX3_leastRankUpTo_75 rfl ?_
        show Go w f 78 [some (rv w r0), some (.int x1), some (.int x2), some (.int y225), some (.int y227), some (.int x5), some (.int (1 : Int32)), none] [.int y231, .int y229] M
        refine g_iload C dX3_leastRankUpTo_78 rfl ?_
        refine g_iadd C dX3_leastRankUpTo_80 ?_
        refine g_ldc C kc_RX3_86 dX3_leastRankUpTo_81 ?_
        refine g_imul C dX3_leastRankUpTo_83 ?_
        refine g_iadd C dX3_leastRankUpTo_84 ?_
        obtain ⟨y233, e234, h⟩ := of_bvv h
        refine g_topi e234 ?_
        refine g_istore C dX3_leastRankUpTo_85 (by decide) rfl (L2 := [some (rv w r0), some (.int x1), some (.int x2), some (.int y225), some (.int y227), some (.int x5), some (.int (1 : Int32)), some (.int y233)]) rfl ?_
        refine g_iload C dX3_leastRankUpTo_87 rfl ?_
        refine g_if_eq 97 C dX3_leastRankUpTo_89 (by decide) (fun c => absurd c (by decide)) (fun _ => ?_)
        refine g_iload C dX3_leastRankUpTo_92 rfl ?_
        refine g_goto 103 C dX3_leastRankUpTo_94 (by decide) ?_
        refine g_istore_n C dX3_leastRankUpTo_103 rfl (by decide) rfl (L2 := [some (rv w r0), some (.int x1), some (.int y233), some (.int y225), some (.int y227), some (.int x5), some (.int (1 : Int32)), some (.int y233)]) rfl ?_
        obtain ⟨y235, e236, h⟩ := of_bvv h
        refine g_iinc (v := y235) C dX3_leastRankUpTo_104 rfl e236.symm (by decide) rfl (L2 := [some (rv w r0), some (.int x1), some (.int y233), some (.int y225), some (.int y227), some (.int y235), some (.int (1 : Int32)), some (.int y233)]) rfl ?_
        refine g_goto 12 C dX3_leastRankUpTo_107 (by decide) ?_
        refine g_mask (bs := [true, true, true, true, true, true, false, false]) (L2 := [some (rv w r0), some (.int x1), some (.int y233), some (.int y225), some (.int y227), some (.int y235), none, none]) rfl ?_
        exact ih r0 x1 y233 y225 y227 y235 h
def f_X3_leastRankUpTo (r0 : Nat) (x1 : Int32) (M : Mem) : Option Int32 := bvv (x1 - (1 : Int32)) fun y1 => f_X3_leastRankUpTo_12 M FU r0 x1 (0 : Int32) (0 : Int32) (0 : Int32) y1
set_option maxRecDepth 100000 in
set_option maxHeartbeats 4000000 in
theorem ct_X3_leastRankUpTo {l : Launch} {w : Om} (hw : Wf w) {r0 : Nat} {x1 : Int32}  {M : Mem} {r : Int32} (h : f_X3_leastRankUpTo r0 x1 M = some r) : Ct l w yX3_leastRankUpTo cX3_leastRankUpTo 8 (some .int) 2 [rv w r0, .int x1] M (some (.int r)) M := by
  refine ct_of hw (by decide) (cat_s (rv_cat _ _) (cat_s rfl cat_0)) (Nat.le_of_ble_eq_true rfl) (fun f _ C hR => ?_)
  show Go w f 0 [some (rv w r0), some (.int x1), none, none, none, none, none, none] [] M
  unfold f_X3_leastRankUpTo at h
  refine g_iconst (v := 0) C dX3_leastRankUpTo_0 rfl ?_
  refine g_istore_n C dX3_leastRankUpTo_1 rfl (by decide) rfl (L2 := [some (rv w r0), some (.int x1), some (.int (0 : Int32)), none, none, none, none, none]) rfl ?_
  refine g_iconst (v := 0) C dX3_leastRankUpTo_2 rfl ?_
  refine g_istore_n C dX3_leastRankUpTo_3 rfl (by decide) rfl (L2 := [some (rv w r0), some (.int x1), some (.int (0 : Int32)), some (.int (0 : Int32)), none, none, none, none]) rfl ?_
  refine g_iconst (v := 0) C dX3_leastRankUpTo_4 rfl ?_
  refine g_istore C dX3_leastRankUpTo_5 (by decide) rfl (L2 := [some (rv w r0), some (.int x1), some (.int (0 : Int32)), some (.int (0 : Int32)), some (.int (0 : Int32)), none, none, none]) rfl ?_
  refine g_iload_n C dX3_leastRankUpTo_7 rfl rfl ?_
  refine g_iconst (v := 1) C dX3_leastRankUpTo_8 rfl ?_
  refine g_isub C dX3_leastRankUpTo_9 ?_
  obtain ⟨y1, e2, h⟩ := of_bvv h
  refine g_topi e2 ?_
  refine g_istore C dX3_leastRankUpTo_10 (by decide) rfl (L2 := [some (rv w r0), some (.int x1), some (.int (0 : Int32)), some (.int (0 : Int32)), some (.int (0 : Int32)), some (.int y1), none, none]) rfl ?_
  exact t_X3_leastRankUpTo_12 C hR _ r0 x1 (0 : Int32) (0 : Int32) (0 : Int32) y1 h
def f_X3_leastRankByWords_2 : Nat → Nat → Int32 → Mem → Option (Int32 × Mem)
  | 0, _, _, _ => none
  | n + 1, r0, x1, M => gdd (kd r0 = 4) <| if (gI M r0 4) < x1 then (obb (f_X5_at (fld r0 3) (gI M r0 4) M) fun y203 => some (y203, M)) else (obb (f_X3_leastRankUpTo r0 x1 M) fun y205 => obb (f_X5_put (fld r0 3) x1 y205 M) fun M207 => bvv (x1 + (1 : Int32)) fun y209 => (f_X3_leastRankByWords_2 n) r0 y209 M207)
set_option maxRecDepth 100000 in
set_option maxHeartbeats 4000000 in
theorem t_X3_leastRankByWords_2 {w : Om} {f : Fr} {r : Int32} {M2 : Mem} (C : Cx w f RX3 cX3_leastRankByWords 2 3) (hR : Rt w f cX3_leastRankByWords (some .int) (some (.int r)) M2)   : ∀ (n : Nat) (r0 : Nat) (x1 : Int32) (M : Mem), f_X3_leastRankByWords_2 n r0 x1 M = some (r, M2) → Go w f 2 [some (rv w r0), some (.int x1)] [] M := by
  intro n
  induction n with
  | zero =>
    intro r0 x1 M h
    cases h
  | succ n ih =>
    intro r0 x1 M h
    rw [f_X3_leastRankByWords_2] at h
    refine g_iload_n C dX3_leastRankByWords_2 rfl rfl ?_
    refine g_aload_n C dX3_leastRankByWords_3 rfl rfl ?_
    obtain ⟨g201, h⟩ := of_gdd h
    refine gf_3_4 C fl_RX3_30 g201 dX3_leastRankByWords_4 ?_
    refine g_icmp_gt 29 C dX3_leastRankByWords_7 (by decide) (fun c202 => ?_) (fun c202 => ?_)
    · replace h := of_ift h c202
      refine g_aload_n C dX3_leastRankByWords_29 rfl rfl ?_
      refine gf_3_3 C fl_RX3_21 g201 dX3_leastRankByWords_30 ?_
      refine g_aload_n C dX3_leastRankByWords_33 rfl rfl ?_
      refine gf_3_4 C fl_RX3_30 g201 dX3_leastRankByWords_34 ?_
      obtain ⟨y203, e204, h⟩ := of_obb h
      refine g_callSN (As := [rv w (fld r0 3), .int (gI M r0 4)]) C (ct_X5_at C.wf e204) ln_RX3_36 mi_X5_at (by decide) cs_0 (by decide) dX3_leastRankByWords_37 rfl ?_
      show Go w f 40 [some (rv w r0), some (.int x1)] [.int y203] M
      cases h
      exact hR 40 _ ⟨.int, rfl, rfl⟩ dX3_leastRankByWords_40
    · replace h := of_iff h c202
      refine g_aload_n C dX3_leastRankByWords_10 rfl rfl ?_
      refine gf_3_3 C fl_RX3_21 g201 dX3_leastRankByWords_11 ?_
      refine g_iload_n C dX3_leastRankByWords_14 rfl rfl ?_
      refine g_aload_n C dX3_leastRankByWords_15 rfl rfl ?_
      refine g_iload_n C dX3_leastRankByWords_16 rfl rfl ?_
      obtain ⟨y205, e206, h⟩ := of_obb h
      refine g_callV (As := [.int x1]) C (ct_X3_leastRankUpTo C.wf e206) g201 lk_RX3_99 mi_X3_leastRankUpTo (by decide) (cs_i (cs_r cs_0)) (by decide) dX3_leastRankByWords_17 rfl ?_
      show Go w f 20 [some (rv w r0), some (.int x1)] [.int y205, .int x1, rv w (fld r0 3)] M
      obtain ⟨M207, e208, h⟩ := of_obb h
      refine g_callSN (As := [rv w (fld r0 3), .int x1, .int y205]) C (ct_X5_put C.wf e208) ln_RX3_51 mi_X5_put (by decide) cs_0 (by decide) dX3_leastRankByWords_20 rfl ?_
      show Go w f 23 [some (rv w r0), some (.int x1)] [] M207
      obtain ⟨y209, e210, h⟩ := of_bvv h
      refine g_iinc (v := y209) C dX3_leastRankByWords_23 rfl e210.symm (by decide) (rv_cat _ _) (L2 := [some (rv w r0), some (.int y209)]) rfl ?_
      refine g_goto 2 C dX3_leastRankByWords_26 (by decide) ?_
      exact ih r0 y209 M207 h
def f_X3_leastRankByWords (r0 : Nat) (M : Mem) : Option (Int32 × Mem) := f_X3_leastRankByWords_2 FU r0 (1 : Int32) M
set_option maxRecDepth 100000 in
set_option maxHeartbeats 4000000 in
theorem ct_X3_leastRankByWords {l : Launch} {w : Om} (hw : Wf w) {r0 : Nat} {M : Mem} {r : Int32} {M2 : Mem} (h : f_X3_leastRankByWords r0 M = some (r, M2)) : Ct l w yX3_leastRankByWords cX3_leastRankByWords 2 (some .int) 3 [rv w r0] M (some (.int r)) M2 := by
  refine ct_of hw (by decide) (cat_s (rv_cat _ _) cat_0) (Nat.le_of_ble_eq_true rfl) (fun f _ C hR => ?_)
  show Go w f 0 [some (rv w r0), none] [] M
  unfold f_X3_leastRankByWords at h
  refine g_iconst (v := 1) C dX3_leastRankByWords_0 rfl ?_
  refine g_istore_n C dX3_leastRankByWords_1 rfl (by decide) (rv_cat _ _) (L2 := [some (rv w r0), some (.int (1 : Int32))]) rfl ?_
  exact t_X3_leastRankByWords_2 C hR _ r0 (1 : Int32) M h
def f_X5_best (r0 : Nat) (x1 : Int32) (x2 : Int32) (x3 : Int32) (M : Mem) : Option (Int32 × Mem) := gdd (kd r0 = 6) <| gdd (kd (fld r0 0) = 5) <| obb (f_X4_editionAt (fld r0 0) x1 M) fun y3 => if y3 = 0 then (some ((-1 : Int32), M)) else (if (f_X5_isWithin x2 (0 : Int32) (2 : Int32)) = 0 then (some ((-1 : Int32), M)) else (if (f_X5_isWithin x3 (0 : Int32) (1 : Int32)) = 0 then (some ((-1 : Int32), M)) else (gdd (kd (fld r0 5) = 4) <| obb (f_X3_read (fld r0 5) (fld r0 0) y3 M) fun M9 => if x3 = 0 then (obb (f_X3_leastRankOfAllSets (fld r0 5) M9) fun y17 => if x2 = nI 0 then (some (y17 - y17 / (2048 : Int32) * (2048 : Int32), M9)) else if x2 = nI 1 then (some (y17 / (32768 : Int32), M9)) else (some ((y17 - y17 / (32768 : Int32) * (32768 : Int32)) / (2048 : Int32), M9))) else (opp (f_X3_leastRankByWords (fld r0 5) M9) fun y14 M12 => if x2 = nI 0 then (some (y14 - y14 / (2048 : Int32) * (2048 : Int32), M12)) else if x2 = nI 1 then (some (y14 / (32768 : Int32), M12)) else (some ((y14 - y14 / (32768 : Int32) * (32768 : Int32)) / (2048 : Int32), M12))))))
set_option maxRecDepth 100000 in
set_option maxHeartbeats 4000000 in
theorem ct_X5_best {l : Launch} {w : Om} (hw : Wf w) {r0 : Nat} {x1 : Int32} {x2 : Int32} {x3 : Int32} {M : Mem} {r : Int32} {M2 : Mem} (h : f_X5_best r0 x1 x2 x3 M = some (r, M2)) : Ct l w yX5_best cX5_best 6 (some .int) 6 [rv w r0, .int x1, .int x2, .int x3] M (some (.int r)) M2 := by
  refine ct_of hw (by decide) (cat_s (rv_cat _ _) (cat_s rfl (cat_s rfl (cat_s rfl cat_0)))) (Nat.le_of_ble_eq_true rfl) (fun f _ C hR => ?_)
  show Go w f 0 [some (rv w r0), some (.int x1), some (.int x2), some (.int x3), none, none] [] M
  unfold f_X5_best at h
  refine g_aload_n C dX5_best_0 rfl rfl ?_
  obtain ⟨g1, h⟩ := of_gdd h
  refine gf_5_0 C fl_RX5_10 g1 dX5_best_1 ?_
  refine g_iload_n C dX5_best_4 rfl rfl ?_
  obtain ⟨g2, h⟩ := of_gdd h
  obtain ⟨y3, e4, h⟩ := of_obb h
  refine g_callV (As := [.int x1]) C (ct_X4_editionAt C.wf e4) g2 lk_RX5_121 mi_X4_editionAt (by decide) cs_0 (by decide) dX5_best_5 rfl ?_
  show Go w f 8 [some (rv w r0), some (.int x1), some (.int x2), some (.int x3), none, none] [rv w y3] M
  refine g_astore C dX5_best_8 (by decide) rfl (L2 := [some (rv w r0), some (.int x1), some (.int x2), some (.int x3), some (rv w y3), none]) rfl ?_
  refine g_aload C dX5_best_10 rfl ?_
  refine g_ifnull 33 C dX5_best_12 (by decide) (fun c5 => ?_) (fun c5 => ?_)
  · replace h := of_ift h c5
    refine g_iconst (v := -1) C dX5_best_33 rfl ?_
    cases h
    exact hR 34 _ ⟨.int, rfl, rfl⟩ dX5_best_34
  · replace h := of_iff h c5
    refine g_iload_n C dX5_best_15 rfl rfl ?_
    refine g_iconst (v := 0) C dX5_best_16 rfl ?_
    refine g_iconst (v := 2) C dX5_best_17 rfl ?_
    refine g_callS (As := [.int x2, .int (0 : Int32), .int (2 : Int32)]) C (ct_X5_isWithin C.wf rfl) lk_RX5_48 mi_X5_isWithin (by decide) cs_0 (by decide) dX5_best_18 rfl ?_
    show Go w f 21 [some (rv w r0), some (.int x1), some (.int x2), some (.int x3), some (rv w y3), none] [.int (f_X5_isWithin x2 (0 : Int32) (2 : Int32))] M
    refine g_if_eq 33 C dX5_best_21 (by decide) (fun c6 => ?_) (fun c6 => ?_)
    · replace h := of_ift h c6
      refine g_iconst (v := -1) C dX5_best_33 rfl ?_
      cases h
      exact hR 34 _ ⟨.int, rfl, rfl⟩ dX5_best_34
    · replace h := of_iff h c6
      refine g_iload_n C dX5_best_24 rfl rfl ?_
      refine g_iconst (v := 0) C dX5_best_25 rfl ?_
      refine g_iconst (v := 1) C dX5_best_26 rfl ?_
      refine g_callS (As := [.int x3, .int (0 : Int32), .int (1 : Int32)]) C (ct_X5_isWithin C.wf rfl) lk_RX5_48 mi_X5_isWithin (by decide) cs_0 (by decide) dX5_best_27 rfl ?_
      show Go w f 30 [some (rv w r0), some (.int x1), some (.int x2), some (.int x3), some (rv w y3), none] [.int (f_X5_isWithin x3 (0 : Int32) (1 : Int32))] M
      refine g_if_ne 35 C dX5_best_30 (by decide) (fun c7 => ?_) (fun c7 => ?_)
      · replace h := of_iff h c7
        refine g_aload_n C dX5_best_35 rfl rfl ?_
        refine gf_5_5 C fl_RX5_40 g1 dX5_best_36 ?_
        refine g_aload_n C dX5_best_39 rfl rfl ?_
        refine gf_5_0 C fl_RX5_10 g1 dX5_best_40 ?_
        refine g_aload C dX5_best_43 rfl ?_
        obtain ⟨g8, h⟩ := of_gdd h
        obtain ⟨M9, e10, h⟩ := of_obb h
        refine g_callV (As := [rv w (fld r0 0), rv w y3]) C (ct_X3_read C.wf e10) g8 lk_RX5_170 mi_X3_read (by decide) cs_0 (by decide) dX5_best_45 rfl ?_
        show Go w f 48 [some (rv w r0), some (.int x1), some (.int x2), some (.int x3), some (rv w y3), none] [] M9
        refine g_iload_n C dX5_best_48 rfl rfl ?_
        refine g_if_ne 62 C dX5_best_49 (by decide) (fun c11 => ?_) (fun c11 => ?_)
        · replace h := of_iff h c11
          refine g_aload_n C dX5_best_62 rfl rfl ?_
          refine gf_5_5 C fl_RX5_40 g1 dX5_best_63 ?_
          obtain ⟨y14, M12, e13, h⟩ := of_opp h
          refine g_callV (As := []) C (ct_X3_leastRankByWords C.wf e13) g8 lk_RX5_244 mi_X3_leastRankByWords (by decide) cs_0 (by decide) dX5_best_66 rfl ?_
          show Go w f 69 [some (rv w r0), some (.int x1), some (.int x2), some (.int x3), some (rv w y3), none] [.int y14] M12
          refine g_istore C dX5_best_69 (by decide) (rv_cat _ _) (L2 := [some (rv w r0), some (.int x1), some (.int x2), some (.int x3), some (rv w y3), some (.int y14)]) rfl ?_
          refine g_iload_n C dX5_best_71 rfl rfl ?_
          by_cases c15 : x2 = nI 0
          · replace h := of_ift h c15
            refine g_lsw (28) 100 C dX5_best_72 (by decide) (by rw [c15]; decide) (by decide) ?_
            refine g_iload C dX5_best_100 rfl ?_
            refine g_sipush (v := 2048) C dX5_best_102 rfl ?_
            refine g_irem C dX5_best_105 (by decide) ?_
            cases h
            exact hR 106 _ ⟨.int, rfl, rfl⟩ dX5_best_106
          replace h := of_iff h c15
          by_cases c16 : x2 = nI 1
          · replace h := of_ift h c16
            refine g_lsw (35) 107 C dX5_best_72 (by decide) (by rw [c16]; decide) (by decide) ?_
            refine g_iload C dX5_best_107 rfl ?_
            refine g_ldc C kc_RX5_247 dX5_best_109 ?_
            refine g_idiv C dX5_best_111 (by decide) ?_
            cases h
            exact hR 112 _ ⟨.int, rfl, rfl⟩ dX5_best_112
          replace h := of_iff h c16
          refine g_lsw (41) 113 C dX5_best_72 (by decide) (ls_out01 c15 c16) (by decide) ?_
          refine g_iload C dX5_best_113 rfl ?_
          refine g_ldc C kc_RX5_247 dX5_best_115 ?_
          refine g_irem C dX5_best_117 (by decide) ?_
          refine g_sipush (v := 2048) C dX5_best_118 rfl ?_
          refine g_idiv C dX5_best_121 (by decide) ?_
          cases h
          exact hR 122 _ ⟨.int, rfl, rfl⟩ dX5_best_122
        · replace h := of_ift h c11
          refine g_aload_n C dX5_best_52 rfl rfl ?_
          refine gf_5_5 C fl_RX5_40 g1 dX5_best_53 ?_
          obtain ⟨y17, e18, h⟩ := of_obb h
          refine g_callV (As := []) C (ct_X3_leastRankOfAllSets C.wf e18) g8 lk_RX5_241 mi_X3_leastRankOfAllSets (by decide) cs_0 (by decide) dX5_best_56 rfl ?_
          show Go w f 59 [some (rv w r0), some (.int x1), some (.int x2), some (.int x3), some (rv w y3), none] [.int y17] M9
          refine g_goto 69 C dX5_best_59 (by decide) ?_
          refine g_istore C dX5_best_69 (by decide) (rv_cat _ _) (L2 := [some (rv w r0), some (.int x1), some (.int x2), some (.int x3), some (rv w y3), some (.int y17)]) rfl ?_
          refine g_iload_n C dX5_best_71 rfl rfl ?_
          by_cases c19 : x2 = nI 0
          · replace h := of_ift h c19
            refine g_lsw (28) 100 C dX5_best_72 (by decide) (by rw [c19]; decide) (by decide) ?_
            refine g_iload C dX5_best_100 rfl ?_
            refine g_sipush (v := 2048) C dX5_best_102 rfl ?_
            refine g_irem C dX5_best_105 (by decide) ?_
            cases h
            exact hR 106 _ ⟨.int, rfl, rfl⟩ dX5_best_106
          replace h := of_iff h c19
          by_cases c20 : x2 = nI 1
          · replace h := of_ift h c20
            refine g_lsw (35) 107 C dX5_best_72 (by decide) (by rw [c20]; decide) (by decide) ?_
            refine g_iload C dX5_best_107 rfl ?_
            refine g_ldc C kc_RX5_247 dX5_best_109 ?_
            refine g_idiv C dX5_best_111 (by decide) ?_
            cases h
            exact hR 112 _ ⟨.int, rfl, rfl⟩ dX5_best_112
          replace h := of_iff h c20
          refine g_lsw (41) 113 C dX5_best_72 (by decide) (ls_out01 c19 c20) (by decide) ?_
          refine g_iload C dX5_best_113 rfl ?_
          refine g_ldc C kc_RX5_247 dX5_best_115 ?_
          refine g_irem C dX5_best_117 (by decide) ?_
          refine g_sipush (v := 2048) C dX5_best_118 rfl ?_
          refine g_idiv C dX5_best_121 (by decide) ?_
          cases h
          exact hR 122 _ ⟨.int, rfl, rfl⟩ dX5_best_122
      · replace h := of_ift h c7
        refine g_iconst (v := -1) C dX5_best_33 rfl ?_
        cases h
        exact hR 34 _ ⟨.int, rfl, rfl⟩ dX5_best_34
def f_X3_splittingsByWords_28 (k11 : Nat → Int32 → Mem → Option (Int32 × Mem)) : Nat → Nat → Int32 → Int32 → Int32 → Int32 → Mem → Option (Int32 × Mem)
  | 0, _, _, _, _, _, _ => none
  | n + 1, r0, x1, x2, x3, x4, M => if x4 < 0 then (gdd (kd r0 = 4) <| obb (f_X5_put (fld r0 3) x1 x2 M) fun M303 => bvv (x1 + (1 : Int32)) fun y305 => k11 r0 y305 M303) else (gdd (kd r0 = 4) <| obb (f_X5_at (fld r0 0) x4 M) fun y308 => bvv (x3 + y308) fun y310 => if (gI M r0 5) < y310 then (bvv (x2 + (0 : Int32)) fun y313 => bvv (x4 + (-1 : Int32)) fun y315 => (f_X3_splittingsByWords_28 k11 n) r0 x1 y313 y310 y315 M) else (obb (f_X5_at (fld r0 3) x4 M) fun y317 => bvv (x2 + y317) fun y319 => bvv (x4 + (-1 : Int32)) fun y321 => (f_X3_splittingsByWords_28 k11 n) r0 x1 y319 y310 y321 M))
set_option maxRecDepth 100000 in
set_option maxHeartbeats 4000000 in
theorem t_X3_splittingsByWords_28 {w : Om} {f : Fr} {r : Int32} {M2 : Mem} (C : Cx w f RX3 cX3_splittingsByWords 5 1) (hR : Rt w f cX3_splittingsByWords (some .int) (some (.int r)) M2) {k11 : Nat → Int32 → Mem → Option (Int32 × Mem)} (hk11 : ∀ (r0' : Nat) (x1' : Int32) (M' : Mem), k11 r0' x1' M' = some (r, M2) → Go w f 11 [some (rv w r0'), some (.int x1'), none, none, none] [] M') : ∀ (n : Nat) (r0 : Nat) (x1 : Int32) (x2 : Int32) (x3 : Int32) (x4 : Int32) (M : Mem), f_X3_splittingsByWords_28 k11 n r0 x1 x2 x3 x4 M = some (r, M2) → Go w f 28 [some (rv w r0), some (.int x1), some (.int x2), some (.int x3), some (.int x4)] [] M := by
  intro n
  induction n with
  | zero =>
    intro r0 x1 x2 x3 x4 M h
    cases h
  | succ n ih =>
    intro r0 x1 x2 x3 x4 M h
    rw [f_X3_splittingsByWords_28] at h
    refine g_iload C dX3_splittingsByWords_28 rfl ?_
    refine g_if_lt 75 C dX3_splittingsByWords_30 (by decide) (fun c301 => ?_) (fun c301 => ?_)
    · replace h := of_ift h c301
      refine g_aload_n C dX3_splittingsByWords_75 rfl rfl ?_
      obtain ⟨g302, h⟩ := of_gdd h
      refine gf_3_3 C fl_RX3_21 g302 dX3_splittingsByWords_76 ?_
      refine g_iload_n C dX3_splittingsByWords_79 rfl rfl ?_
      refine g_iload_n C dX3_splittingsByWords_80 rfl rfl ?_
      obtain ⟨M303, e304, h⟩ := of_obb h
      refine g_callSN (As := [rv w (fld r0 3), .int x1, .int x2]) C (ct_X5_put C.wf e304) ln_RX3_51 mi_X5_put (by decide) cs_0 (by decide) dX3_splittingsByWords_81 rfl ?_
      show Go w f 84 [some (rv w r0), some (.int x1), some (.int x2), some (.int x3), some (.int x4)] [] M303
      obtain ⟨y305, e306, h⟩ := of_bvv h
      refine g_iinc (v := y305) C dX3_splittingsByWords_84 rfl e306.symm (by decide) (rv_cat _ _) (L2 := [some (rv w r0), some (.int y305), some (.int x2), some (.int x3), some (.int x4)]) rfl ?_
      refine g_goto 11 C dX3_splittingsByWords_87 (by decide) ?_
      refine g_mask (bs := [true, true, false, false, false]) (L2 := [some (rv w r0), some (.int y305), none, none, none]) rfl ?_
      exact hk11 r0 y305 M303 h
    · replace h := of_iff h c301
      refine g_iload_n C dX3_splittingsByWords_33 rfl rfl ?_
      refine g_aload_n C dX3_splittingsByWords_34 rfl rfl ?_
      obtain ⟨g307, h⟩ := of_gdd h
      refine gf_3_0 C fl_RX3_9 g307 dX3_splittingsByWords_35 ?_
      refine g_iload C dX3_splittingsByWords_38 rfl ?_
      obtain ⟨y308, e309, h⟩ := of_obb h
      refine g_callSN (As := [rv w (fld r0 0), .int x4]) C (ct_X5_at C.wf e309) ln_RX3_36 mi_X5_at (by decide) (cs_i cs_0) (by decide) dX3_splittingsByWords_40 rfl ?_
      show Go w f 43 [some (rv w r0), some (.int x1), some (.int x2), some (.int x3), some (.int x4)] [.int y308, .int x3] M
      refine g_iadd C dX3_splittingsByWords_43 ?_
      obtain ⟨y310, e311, h⟩ := of_bvv h
      refine g_topi e311 ?_
      refine g_istore_n C dX3_splittingsByWords_44 rfl (by decide) rfl (L2 := [some (rv w r0), some (.int x1), some (.int x2), some (.int y310), some (.int x4)]) rfl ?_
      refine g_iload_n C dX3_splittingsByWords_45 rfl rfl ?_
      refine g_iload_n C dX3_splittingsByWords_46 rfl rfl ?_
      refine g_aload_n C dX3_splittingsByWords_47 rfl rfl ?_
      refine gf_3_5 C fl_RX3_43 g307 dX3_splittingsByWords_48 ?_
      refine g_icmp_gt 66 C dX3_splittingsByWords_51 (by decide) (fun c312 => ?_) (fun c312 => ?_)
      · replace h := of_ift h c312
        refine g_iconst (v := 0) C dX3_splittingsByWords_66 rfl ?_
        refine g_iadd C dX3_splittingsByWords_67 ?_
        obtain ⟨y313, e314, h⟩ := of_bvv h
        refine g_topi e314 ?_
        refine g_istore_n C dX3_splittingsByWords_68 rfl (by decide) rfl (L2 := [some (rv w r0), some (.int x1), some (.int y313), some (.int y310), some (.int x4)]) rfl ?_
        obtain ⟨y315, e316, h⟩ := of_bvv h
        refine g_iinc (v := y315) C dX3_splittingsByWords_69 rfl e316.symm (by decide) rfl (L2 := [some (rv w r0), some (.int x1), some (.int y313), some (.int y310), some (.int y315)]) rfl ?_
        refine g_goto 28 C dX3_splittingsByWords_72 (by decide) ?_
        exact ih r0 x1 y313 y310 y315 M h
      · replace h := of_iff h c312
        refine g_aload_n C dX3_splittingsByWords_54 rfl rfl ?_
        refine gf_3_3 C fl_RX3_21 g307 dX3_splittingsByWords_55 ?_
        refine g_iload C dX3_splittingsByWords_58 rfl ?_
        obtain ⟨y317, e318, h⟩ := of_obb h
        refine g_callSN (As := [rv w (fld r0 3), .int x4]) C (ct_X5_at C.wf e318) ln_RX3_36 mi_X5_at (by decide) (cs_i cs_0) (by decide) dX3_splittingsByWords_60 rfl ?_
        show Go w f 63 [some (rv w r0), some (.int x1), some (.int x2), some (.int y310), some (.int x4)] [.int y317, .int x2] M
        refine g_goto 67 C dX3_splittingsByWords_63 (by decide) ?_
        refine g_iadd C dX3_splittingsByWords_67 ?_
        obtain ⟨y319, e320, h⟩ := of_bvv h
        refine g_topi e320 ?_
        refine g_istore_n C dX3_splittingsByWords_68 rfl (by decide) rfl (L2 := [some (rv w r0), some (.int x1), some (.int y319), some (.int y310), some (.int x4)]) rfl ?_
        obtain ⟨y321, e322, h⟩ := of_bvv h
        refine g_iinc (v := y321) C dX3_splittingsByWords_69 rfl e322.symm (by decide) rfl (L2 := [some (rv w r0), some (.int x1), some (.int y319), some (.int y310), some (.int y321)]) rfl ?_
        refine g_goto 28 C dX3_splittingsByWords_72 (by decide) ?_
        exact ih r0 x1 y319 y310 y321 M h
def f_X3_splittingsByWords_11 : Nat → Nat → Int32 → Mem → Option (Int32 × Mem)
  | 0, _, _, _ => none
  | n + 1, r0, x1, M => gdd (kd r0 = 4) <| if (gI M r0 4) < x1 then (obb (f_X5_at (fld r0 3) (gI M r0 4) M) fun y203 => some (y203, M)) else (bvv (x1 - (1 : Int32)) fun y205 => f_X3_splittingsByWords_28 (f_X3_splittingsByWords_11 n) FU r0 x1 (0 : Int32) (0 : Int32) y205 M)
set_option maxRecDepth 100000 in
set_option maxHeartbeats 4000000 in
theorem t_X3_splittingsByWords_11 {w : Om} {f : Fr} {r : Int32} {M2 : Mem} (C : Cx w f RX3 cX3_splittingsByWords 5 1) (hR : Rt w f cX3_splittingsByWords (some .int) (some (.int r)) M2)   : ∀ (n : Nat) (r0 : Nat) (x1 : Int32) (M : Mem), f_X3_splittingsByWords_11 n r0 x1 M = some (r, M2) → Go w f 11 [some (rv w r0), some (.int x1), none, none, none] [] M := by
  intro n
  induction n with
  | zero =>
    intro r0 x1 M h
    cases h
  | succ n ih =>
    intro r0 x1 M h
    rw [f_X3_splittingsByWords_11] at h
    refine g_iload_n C dX3_splittingsByWords_11 rfl rfl ?_
    refine g_aload_n C dX3_splittingsByWords_12 rfl rfl ?_
    obtain ⟨g201, h⟩ := of_gdd h
    refine gf_3_4 C fl_RX3_30 g201 dX3_splittingsByWords_13 ?_
    refine g_icmp_gt 90 C dX3_splittingsByWords_16 (by decide) (fun c202 => ?_) (fun c202 => ?_)
    · replace h := of_ift h c202
      refine g_aload_n C dX3_splittingsByWords_90 rfl rfl ?_
      refine gf_3_3 C fl_RX3_21 g201 dX3_splittingsByWords_91 ?_
      refine g_aload_n C dX3_splittingsByWords_94 rfl rfl ?_
      refine gf_3_4 C fl_RX3_30 g201 dX3_splittingsByWords_95 ?_
      obtain ⟨y203, e204, h⟩ := of_obb h
      refine g_callSN (As := [rv w (fld r0 3), .int (gI M r0 4)]) C (ct_X5_at C.wf e204) ln_RX3_36 mi_X5_at (by decide) cs_0 (by decide) dX3_splittingsByWords_98 rfl ?_
      show Go w f 101 [some (rv w r0), some (.int x1), none, none, none] [.int y203] M
      cases h
      exact hR 101 _ ⟨.int, rfl, rfl⟩ dX3_splittingsByWords_101
    · replace h := of_iff h c202
      refine g_iconst (v := 0) C dX3_splittingsByWords_19 rfl ?_
      refine g_istore_n C dX3_splittingsByWords_20 rfl (by decide) rfl (L2 := [some (rv w r0), some (.int x1), some (.int (0 : Int32)), none, none]) rfl ?_
      refine g_iconst (v := 0) C dX3_splittingsByWords_21 rfl ?_
      refine g_istore_n C dX3_splittingsByWords_22 rfl (by decide) rfl (L2 := [some (rv w r0), some (.int x1), some (.int (0 : Int32)), some (.int (0 : Int32)), none]) rfl ?_
      refine g_iload_n C dX3_splittingsByWords_23 rfl rfl ?_
      refine g_iconst (v := 1) C dX3_splittingsByWords_24 rfl ?_
      refine g_isub C dX3_splittingsByWords_25 ?_
      obtain ⟨y205, e206, h⟩ := of_bvv h
      refine g_topi e206 ?_
      refine g_istore C dX3_splittingsByWords_26 (by decide) rfl (L2 := [some (rv w r0), some (.int x1), some (.int (0 : Int32)), some (.int (0 : Int32)), some (.int y205)]) rfl ?_
      exact t_X3_splittingsByWords_28 C hR (fun r0' x1' M' h => ih r0' x1' M' h) _ r0 x1 (0 : Int32) (0 : Int32) y205 M h
def f_X3_splittingsByWords (r0 : Nat) (M : Mem) : Option (Int32 × Mem) := gdd (kd r0 = 4) <| obb (f_X5_put (fld r0 3) (0 : Int32) (1 : Int32) M) fun M2 => f_X3_splittingsByWords_11 FU r0 (1 : Int32) M2
set_option maxRecDepth 100000 in
set_option maxHeartbeats 4000000 in
theorem ct_X3_splittingsByWords {l : Launch} {w : Om} (hw : Wf w) {r0 : Nat} {M : Mem} {r : Int32} {M2 : Mem} (h : f_X3_splittingsByWords r0 M = some (r, M2)) : Ct l w yX3_splittingsByWords cX3_splittingsByWords 5 (some .int) 1 [rv w r0] M (some (.int r)) M2 := by
  refine ct_of hw (by decide) (cat_s (rv_cat _ _) cat_0) (Nat.le_of_ble_eq_true rfl) (fun f _ C hR => ?_)
  show Go w f 0 [some (rv w r0), none, none, none, none] [] M
  unfold f_X3_splittingsByWords at h
  refine g_aload_n C dX3_splittingsByWords_0 rfl rfl ?_
  obtain ⟨g1, h⟩ := of_gdd h
  refine gf_3_3 C fl_RX3_21 g1 dX3_splittingsByWords_1 ?_
  refine g_iconst (v := 0) C dX3_splittingsByWords_4 rfl ?_
  refine g_iconst (v := 1) C dX3_splittingsByWords_5 rfl ?_
  obtain ⟨M2, e3, h⟩ := of_obb h
  refine g_callSN (As := [rv w (fld r0 3), .int (0 : Int32), .int (1 : Int32)]) C (ct_X5_put C.wf e3) ln_RX3_51 mi_X5_put (by decide) cs_0 (by decide) dX3_splittingsByWords_6 rfl ?_
  show Go w f 9 [some (rv w r0), none, none, none, none] [] M2
  refine g_iconst (v := 1) C dX3_splittingsByWords_9 rfl ?_
  refine g_istore_n C dX3_splittingsByWords_10 rfl (by decide) (rv_cat _ _) (L2 := [some (rv w r0), some (.int (1 : Int32)), none, none, none]) rfl ?_
  exact t_X3_splittingsByWords_11 C hR _ r0 (1 : Int32) M2 h
def f_X5_splittingsFrom_26 (rc : Nat → Int32 → Int32 → Option Int32) (M : Mem) : Nat → Nat → Int32 → Int32 → Int32 → Int32 → Option Int32
  | 0, _, _, _, _, _ => none
  | n + 1, r0, x2, x3, x4, x5 => gdd (kd r0 = 4) <| if (gI M r0 4) ≤ x5 then (some x3) else (obb (f_X5_at (fld r0 0) x5 M) fun y203 => bvv (x4 + y203) fun y205 => if (gI M r0 5) < y205 then (bvv (x5 + (1 : Int32)) fun y208 => (f_X5_splittingsFrom_26 rc M n) r0 x2 x3 y205 y208) else (obb (rc r0 (x5 + (1 : Int32)) (x2 + (1 : Int32))) fun y210 => bvv (x3 + y210) fun y212 => bvv (x5 + (1 : Int32)) fun y214 => (f_X5_splittingsFrom_26 rc M n) r0 x2 y212 y205 y214))
set_option maxRecDepth 100000 in
set_option maxHeartbeats 4000000 in
theorem t_X5_splittingsFrom_26 {w : Om} {f : Fr} {M : Mem} {r : Int32} {lev : Nat} (hl1 : 1 ≤ lev) (C : Cx w f RX5 cX5_splittingsFrom 6 lev) (hR : Rt w f cX5_splittingsFrom (some .int) (some (.int r)) M) {lc : Nat} (hlc : lc + 1 ≤ lev) {rc : Nat → Int32 → Int32 → Option Int32} (hrc : ∀ r0 x1 x2 z, rc r0 x1 x2 = some z → Ct (f_l f) w yX5_splittingsFrom cX5_splittingsFrom 6 (some .int) lc [rv w r0, .int x1, .int x2] M (some (.int z)) M)   : ∀ (n : Nat) (r0 : Nat) (x2 : Int32) (x3 : Int32) (x4 : Int32) (x5 : Int32), f_X5_splittingsFrom_26 rc M n r0 x2 x3 x4 x5 = some r → Go w f 26 [some (rv w r0), none, some (.int x2), some (.int x3), some (.int x4), some (.int x5)] [] M := by
  intro n
  induction n with
  | zero =>
    intro r0 x2 x3 x4 x5 h
    cases h
  | succ n ih =>
    intro r0 x2 x3 x4 x5 h
    rw [f_X5_splittingsFrom_26] at h
    refine g_iload C dX5_splittingsFrom_26 rfl ?_
    refine g_aload_n C dX5_splittingsFrom_28 rfl rfl ?_
    obtain ⟨g201, h⟩ := of_gdd h
    refine gf_3_4 C fl_RX5_306 g201 dX5_splittingsFrom_29 ?_
    refine g_icmp_ge 78 C dX5_splittingsFrom_32 (by decide) (fun c202 => ?_) (fun c202 => ?_)
    · replace h := of_ift h c202
      refine g_iload_n C dX5_splittingsFrom_78 rfl rfl ?_
      cases h
      exact hR 79 _ ⟨.int, rfl, rfl⟩ dX5_splittingsFrom_79
    · replace h := of_iff h c202
      refine g_iload C dX5_splittingsFrom_35 rfl ?_
      refine g_aload_n C dX5_splittingsFrom_37 rfl rfl ?_
      refine gf_3_0 C fl_RX5_307 g201 dX5_splittingsFrom_38 ?_
      refine g_iload C dX5_splittingsFrom_41 rfl ?_
      obtain ⟨y203, e204, h⟩ := of_obb h
      refine g_callS (As := [rv w (fld r0 0), .int x5]) C (ct_X5_at C.wf e204) lk_RX5_59 mi_X5_at ⟨hl1, by decide⟩ (cs_i cs_0) (by decide) dX5_splittingsFrom_43 rfl ?_
      show Go w f 46 [some (rv w r0), none, some (.int x2), some (.int x3), some (.int x4), some (.int x5)] [.int y203, .int x4] M
      refine g_iadd C dX5_splittingsFrom_46 ?_
      obtain ⟨y205, e206, h⟩ := of_bvv h
      refine g_topi e206 ?_
      refine g_istore C dX5_splittingsFrom_47 (by decide) rfl (L2 := [some (rv w r0), none, some (.int x2), some (.int x3), some (.int y205), some (.int x5)]) rfl ?_
      refine g_iload C dX5_splittingsFrom_49 rfl ?_
      refine g_aload_n C dX5_splittingsFrom_51 rfl rfl ?_
      refine gf_3_5 C fl_RX5_308 g201 dX5_splittingsFrom_52 ?_
      refine g_icmp_gt 72 C dX5_splittingsFrom_55 (by decide) (fun c207 => ?_) (fun c207 => ?_)
      · replace h := of_ift h c207
        obtain ⟨y208, e209, h⟩ := of_bvv h
        refine g_iinc (v := y208) C dX5_splittingsFrom_72 rfl e209.symm (by decide) rfl (L2 := [some (rv w r0), none, some (.int x2), some (.int x3), some (.int y205), some (.int y208)]) rfl ?_
        refine g_goto 26 C dX5_splittingsFrom_75 (by decide) ?_
        exact ih r0 x2 x3 y205 y208 h
      · replace h := of_iff h c207
        refine g_iload_n C dX5_splittingsFrom_58 rfl rfl ?_
        refine g_aload_n C dX5_splittingsFrom_59 rfl rfl ?_
        refine g_iload C dX5_splittingsFrom_60 rfl ?_
        refine g_iconst (v := 1) C dX5_splittingsFrom_62 rfl ?_
        refine g_iadd C dX5_splittingsFrom_63 ?_
        refine g_iload_n C dX5_splittingsFrom_64 rfl rfl ?_
        refine g_iconst (v := 1) C dX5_splittingsFrom_65 rfl ?_
        refine g_iadd C dX5_splittingsFrom_66 ?_
        obtain ⟨y210, e211, h⟩ := of_obb h
        refine g_callS (As := [rv w r0, .int (x5 + (1 : Int32)), .int (x2 + (1 : Int32))]) C (hrc _ _ _ _ e211) lk_RX5_251 mi_X5_splittingsFrom ⟨hlc, by decide⟩ (cs_i cs_0) (by decide) dX5_splittingsFrom_67 rfl ?_
        show Go w f 70 [some (rv w r0), none, some (.int x2), some (.int x3), some (.int y205), some (.int x5)] [.int y210, .int x3] M
        refine g_iadd C dX5_splittingsFrom_70 ?_
        obtain ⟨y212, e213, h⟩ := of_bvv h
        refine g_topi e213 ?_
        refine g_istore_n C dX5_splittingsFrom_71 rfl (by decide) rfl (L2 := [some (rv w r0), none, some (.int x2), some (.int y212), some (.int y205), some (.int x5)]) rfl ?_
        obtain ⟨y214, e215, h⟩ := of_bvv h
        refine g_iinc (v := y214) C dX5_splittingsFrom_72 rfl e215.symm (by decide) rfl (L2 := [some (rv w r0), none, some (.int x2), some (.int y212), some (.int y205), some (.int y214)]) rfl ?_
        refine g_goto 26 C dX5_splittingsFrom_75 (by decide) ?_
        exact ih r0 x2 y212 y205 y214 h
def f_X5_splittingsFrom (M : Mem) : Nat → Nat → Int32 → Int32 → Option Int32
  | 0, _, _, _ => none
  | dn + 1, r0, x1, x2 => gdd (kd r0 = 4) <| if x1 < (gI M r0 4) then (if x2 < (12 : Int32) then (f_X5_splittingsFrom_26 (f_X5_splittingsFrom M dn) M FU r0 x2 (0 : Int32) (0 : Int32) x1) else (some (0 : Int32))) else (some (1 : Int32))
set_option maxRecDepth 100000 in
set_option maxHeartbeats 4000000 in
theorem ct_X5_splittingsFrom {l : Launch} {w : Om} {M : Mem} (hw : Wf w) : ∀ (dn : Nat) (r0 : Nat) (x1 x2 z : Int32), f_X5_splittingsFrom M dn r0 x1 x2 = some z → Ct l w yX5_splittingsFrom cX5_splittingsFrom 6 (some .int) (dn + 1) [rv w r0, .int x1, .int x2] M (some (.int z)) M := by
  intro dn
  induction dn with
  | zero =>
    intro r0 x1 x2 z h
    cases h
  | succ dn ihd =>
    intro r0 x1 x2 z h
    rw [f_X5_splittingsFrom] at h
    refine ct_of hw (by decide) (cat_s (rv_cat _ _) (cat_s rfl (cat_s rfl cat_0))) (Nat.le_of_ble_eq_true rfl) (fun f hfl C hR => ?_)
    show Go w f 0 [some (rv w r0), some (.int x1), some (.int x2), none, none, none] [] M
    have hrc := ihd
    rw [← hfl] at hrc
    have hlc : dn + 1 + 1 ≤ dn + 1 + 1 := Nat.le_refl _
    have hl1 : 1 ≤ dn + 1 + 1 := by omega
    refine g_iload_n C dX5_splittingsFrom_0 rfl rfl ?_
    refine g_aload_n C dX5_splittingsFrom_1 rfl rfl ?_
    obtain ⟨g1, h⟩ := of_gdd h
    refine gf_3_4 C fl_RX5_306 g1 dX5_splittingsFrom_2 ?_
    refine g_icmp_lt 10 C dX5_splittingsFrom_5 (by decide) (fun c2 => ?_) (fun c2 => ?_)
    · replace h := of_ift h c2
      refine g_iload_n C dX5_splittingsFrom_10 rfl rfl ?_
      refine g_bipush (v := 12) C dX5_splittingsFrom_11 rfl ?_
      refine g_icmp_lt 18 C dX5_splittingsFrom_13 (by decide) (fun c3 => ?_) (fun c3 => ?_)
      · replace h := of_ift h c3
        refine g_iconst (v := 0) C dX5_splittingsFrom_18 rfl ?_
        refine g_istore_n C dX5_splittingsFrom_19 rfl (by decide) rfl (L2 := [some (rv w r0), some (.int x1), some (.int x2), some (.int (0 : Int32)), none, none]) rfl ?_
        refine g_iconst (v := 0) C dX5_splittingsFrom_20 rfl ?_
        refine g_istore C dX5_splittingsFrom_21 (by decide) rfl (L2 := [some (rv w r0), some (.int x1), some (.int x2), some (.int (0 : Int32)), some (.int (0 : Int32)), none]) rfl ?_
        refine g_iload_n C dX5_splittingsFrom_23 rfl rfl ?_
        refine g_istore C dX5_splittingsFrom_24 (by decide) rfl (L2 := [some (rv w r0), some (.int x1), some (.int x2), some (.int (0 : Int32)), some (.int (0 : Int32)), some (.int x1)]) rfl ?_
        refine g_mask (bs := [true, false, true, true, true, true]) (L2 := [some (rv w r0), none, some (.int x2), some (.int (0 : Int32)), some (.int (0 : Int32)), some (.int x1)]) rfl ?_
        exact t_X5_splittingsFrom_26 hl1 C hR hlc hrc _ r0 x2 (0 : Int32) (0 : Int32) x1 h
      · replace h := of_iff h c3
        refine g_iconst (v := 0) C dX5_splittingsFrom_16 rfl ?_
        cases h
        exact hR 17 _ ⟨.int, rfl, rfl⟩ dX5_splittingsFrom_17
    · replace h := of_iff h c2
      refine g_iconst (v := 1) C dX5_splittingsFrom_8 rfl ?_
      cases h
      exact hR 9 _ ⟨.int, rfl, rfl⟩ dX5_splittingsFrom_9
def f_X5_ways (r0 : Nat) (x1 : Int32) (x2 : Int32) (M : Mem) : Option (Int32 × Mem) := gdd (kd r0 = 6) <| gdd (kd (fld r0 0) = 5) <| obb (f_X4_editionAt (fld r0 0) x1 M) fun y3 => if y3 = 0 then (some ((-1 : Int32), M)) else (if (f_X5_isWithin x2 (0 : Int32) (1 : Int32)) = 0 then (some ((-1 : Int32), M)) else (gdd (kd (fld r0 5) = 4) <| obb (f_X3_read (fld r0 5) (fld r0 0) y3 M) fun M8 => if x2 = 0 then (opp (f_X3_splittingsByWords (fld r0 5) M8) fun y15 M13 => some (y15, M13)) else (obb (f_X5_splittingsFrom M8 20 (fld r0 5) (0 : Int32) (0 : Int32)) fun y11 => some (y11, M8))))
set_option maxRecDepth 100000 in
set_option maxHeartbeats 4000000 in
theorem ct_X5_ways {l : Launch} {w : Om} (hw : Wf w) {r0 : Nat} {x1 : Int32} {x2 : Int32} {M : Mem} {r : Int32} {M2 : Mem} (h : f_X5_ways r0 x1 x2 M = some (r, M2)) : Ct l w yX5_ways cX5_ways 4 (some .int) 22 [rv w r0, .int x1, .int x2] M (some (.int r)) M2 := by
  refine ct_of hw (by decide) (cat_s (rv_cat _ _) (cat_s rfl (cat_s rfl cat_0))) (Nat.le_of_ble_eq_true rfl) (fun f _ C hR => ?_)
  show Go w f 0 [some (rv w r0), some (.int x1), some (.int x2), none] [] M
  unfold f_X5_ways at h
  refine g_aload_n C dX5_ways_0 rfl rfl ?_
  obtain ⟨g1, h⟩ := of_gdd h
  refine gf_5_0 C fl_RX5_10 g1 dX5_ways_1 ?_
  refine g_iload_n C dX5_ways_4 rfl rfl ?_
  obtain ⟨g2, h⟩ := of_gdd h
  obtain ⟨y3, e4, h⟩ := of_obb h
  refine g_callV (As := [.int x1]) C (ct_X4_editionAt C.wf e4) g2 lk_RX5_121 mi_X4_editionAt (by decide) cs_0 (by decide) dX5_ways_5 rfl ?_
  show Go w f 8 [some (rv w r0), some (.int x1), some (.int x2), none] [rv w y3] M
  refine g_astore_n C dX5_ways_8 rfl (by decide) rfl (L2 := [some (rv w r0), some (.int x1), some (.int x2), some (rv w y3)]) rfl ?_
  refine g_aload_n C dX5_ways_9 rfl rfl ?_
  refine g_ifnull 22 C dX5_ways_10 (by decide) (fun c5 => ?_) (fun c5 => ?_)
  · replace h := of_ift h c5
    refine g_iconst (v := -1) C dX5_ways_22 rfl ?_
    cases h
    exact hR 23 _ ⟨.int, rfl, rfl⟩ dX5_ways_23
  · replace h := of_iff h c5
    refine g_iload_n C dX5_ways_13 rfl rfl ?_
    refine g_iconst (v := 0) C dX5_ways_14 rfl ?_
    refine g_iconst (v := 1) C dX5_ways_15 rfl ?_
    refine g_callS (As := [.int x2, .int (0 : Int32), .int (1 : Int32)]) C (ct_X5_isWithin C.wf rfl) lk_RX5_48 mi_X5_isWithin (by decide) cs_0 (by decide) dX5_ways_16 rfl ?_
    show Go w f 19 [some (rv w r0), some (.int x1), some (.int x2), some (rv w y3)] [.int (f_X5_isWithin x2 (0 : Int32) (1 : Int32))] M
    refine g_if_ne 24 C dX5_ways_19 (by decide) (fun c6 => ?_) (fun c6 => ?_)
    · replace h := of_iff h c6
      refine g_aload_n C dX5_ways_24 rfl rfl ?_
      refine gf_5_5 C fl_RX5_40 g1 dX5_ways_25 ?_
      refine g_aload_n C dX5_ways_28 rfl rfl ?_
      refine gf_5_0 C fl_RX5_10 g1 dX5_ways_29 ?_
      refine g_aload_n C dX5_ways_32 rfl rfl ?_
      obtain ⟨g7, h⟩ := of_gdd h
      obtain ⟨M8, e9, h⟩ := of_obb h
      refine g_callV (As := [rv w (fld r0 0), rv w y3]) C (ct_X3_read C.wf e9) g7 lk_RX5_170 mi_X3_read (by decide) cs_0 (by decide) dX5_ways_33 rfl ?_
      show Go w f 36 [some (rv w r0), some (.int x1), some (.int x2), some (rv w y3)] [] M8
      refine g_iload_n C dX5_ways_36 rfl rfl ?_
      refine g_if_ne 50 C dX5_ways_37 (by decide) (fun c10 => ?_) (fun c10 => ?_)
      · replace h := of_iff h c10
        refine g_aload_n C dX5_ways_50 rfl rfl ?_
        refine gf_5_5 C fl_RX5_40 g1 dX5_ways_51 ?_
        refine g_iconst (v := 0) C dX5_ways_54 rfl ?_
        refine g_iconst (v := 0) C dX5_ways_55 rfl ?_
        obtain ⟨y11, e12, h⟩ := of_obb h
        refine g_callS (As := [rv w (fld r0 5), .int (0 : Int32), .int (0 : Int32)]) C (ct_X5_splittingsFrom C.wf 20 _ _ _ _ e12) lk_RX5_251 mi_X5_splittingsFrom (by decide) cs_0 (by decide) dX5_ways_56 rfl ?_
        show Go w f 59 [some (rv w r0), some (.int x1), some (.int x2), some (rv w y3)] [.int y11] M8
        cases h
        exact hR 59 _ ⟨.int, rfl, rfl⟩ dX5_ways_59
      · replace h := of_ift h c10
        refine g_aload_n C dX5_ways_40 rfl rfl ?_
        refine gf_5_5 C fl_RX5_40 g1 dX5_ways_41 ?_
        obtain ⟨y15, M13, e14, h⟩ := of_opp h
        refine g_callV (As := []) C (ct_X3_splittingsByWords C.wf e14) g7 lk_RX5_248 mi_X3_splittingsByWords (by decide) cs_0 (by decide) dX5_ways_44 rfl ?_
        show Go w f 47 [some (rv w r0), some (.int x1), some (.int x2), some (rv w y3)] [.int y15] M13
        refine g_goto 59 C dX5_ways_47 (by decide) ?_
        cases h
        exact hR 59 _ ⟨.int, rfl, rfl⟩ dX5_ways_59
    · replace h := of_ift h c6
      refine g_iconst (v := -1) C dX5_ways_22 rfl ?_
      cases h
      exact hR 23 _ ⟨.int, rfl, rfl⟩ dX5_ways_23
def f_X4_wordsOfAll_4 (M : Mem) : Nat → Nat → Int32 → Int32 → Option Int32
  | 0, _, _, _ => none
  | n + 1, r0, x1, x2 => gdd (kd r0 = 5) <| if (gI M r0 4) ≤ x2 then (some x1) else (obb (f_X4_editionAt r0 x2 M) fun y203 => if y203 = 0 then (bvv (x1 + (0 : Int32)) fun y211 => bvv (x2 + (1 : Int32)) fun y213 => (f_X4_wordsOfAll_4 M n) r0 y211 y213) else (gdd (kd y203 = 1) <| bvv (x1 + (gI M y203 1)) fun y207 => bvv (x2 + (1 : Int32)) fun y209 => (f_X4_wordsOfAll_4 M n) r0 y207 y209))
set_option maxRecDepth 100000 in
set_option maxHeartbeats 4000000 in
theorem t_X4_wordsOfAll_4 {w : Om} {f : Fr} {M : Mem} {r : Int32} (C : Cx w f RX4 cX4_wordsOfAll 4 1) (hR : Rt w f cX4_wordsOfAll (some .int) (some (.int r)) M)   : ∀ (n : Nat) (r0 : Nat) (x1 : Int32) (x2 : Int32), f_X4_wordsOfAll_4 M n r0 x1 x2 = some r → Go w f 4 [some (rv w r0), some (.int x1), some (.int x2), none] [] M := by
  intro n
  induction n with
  | zero =>
    intro r0 x1 x2 h
    cases h
  | succ n ih =>
    intro r0 x1 x2 h
    rw [f_X4_wordsOfAll_4] at h
    refine g_iload_n C dX4_wordsOfAll_4 rfl rfl ?_
    refine g_aload_n C dX4_wordsOfAll_5 rfl rfl ?_
    obtain ⟨g201, h⟩ := of_gdd h
    refine gf_4_4 C fl_RX4_40 g201 dX4_wordsOfAll_6 ?_
    refine g_icmp_ge 39 C dX4_wordsOfAll_9 (by decide) (fun c202 => ?_) (fun c202 => ?_)
    · replace h := of_ift h c202
      refine g_iload_n C dX4_wordsOfAll_39 rfl rfl ?_
      cases h
      exact hR 40 _ ⟨.int, rfl, rfl⟩ dX4_wordsOfAll_40
    · replace h := of_iff h c202
      refine g_aload_n C dX4_wordsOfAll_12 rfl rfl ?_
      refine g_iload_n C dX4_wordsOfAll_13 rfl rfl ?_
      obtain ⟨y203, e204, h⟩ := of_obb h
      refine g_callV (As := [.int x2]) C (ct_X4_editionAt C.wf e204) g201 lk_RX4_47 mi_X4_editionAt (by decide) cs_0 (by decide) dX4_wordsOfAll_14 rfl ?_
      show Go w f 17 [some (rv w r0), some (.int x1), some (.int x2), none] [rv w y203] M
      refine g_astore_n C dX4_wordsOfAll_17 rfl (by decide) rfl (L2 := [some (rv w r0), some (.int x1), some (.int x2), some (rv w y203)]) rfl ?_
      refine g_iload_n C dX4_wordsOfAll_18 rfl rfl ?_
      refine g_aload_n C dX4_wordsOfAll_19 rfl rfl ?_
      refine g_ifnonnull 27 C dX4_wordsOfAll_20 (by decide) (fun c205 => ?_) (fun c205 => ?_)
      · replace h := of_iff h c205
        refine g_aload_n C dX4_wordsOfAll_27 rfl rfl ?_
        obtain ⟨g206, h⟩ := of_gdd h
        refine gf_0_1 C fl_RX4_94 g206 dX4_wordsOfAll_28 ?_
        refine g_iadd C dX4_wordsOfAll_31 ?_
        obtain ⟨y207, e208, h⟩ := of_bvv h
        refine g_topi e208 ?_
        refine g_istore_n C dX4_wordsOfAll_32 rfl (by decide) (rv_cat _ _) (L2 := [some (rv w r0), some (.int y207), some (.int x2), some (rv w y203)]) rfl ?_
        obtain ⟨y209, e210, h⟩ := of_bvv h
        refine g_iinc (v := y209) C dX4_wordsOfAll_33 rfl e210.symm (by decide) rfl (L2 := [some (rv w r0), some (.int y207), some (.int y209), some (rv w y203)]) rfl ?_
        refine g_goto 4 C dX4_wordsOfAll_36 (by decide) ?_
        refine g_mask (bs := [true, true, true, false]) (L2 := [some (rv w r0), some (.int y207), some (.int y209), none]) rfl ?_
        exact ih r0 y207 y209 h
      · replace h := of_ift h c205
        refine g_iconst (v := 0) C dX4_wordsOfAll_23 rfl ?_
        refine g_goto 31 C dX4_wordsOfAll_24 (by decide) ?_
        refine g_iadd C dX4_wordsOfAll_31 ?_
        obtain ⟨y211, e212, h⟩ := of_bvv h
        refine g_topi e212 ?_
        refine g_istore_n C dX4_wordsOfAll_32 rfl (by decide) (rv_cat _ _) (L2 := [some (rv w r0), some (.int y211), some (.int x2), some (rv w y203)]) rfl ?_
        obtain ⟨y213, e214, h⟩ := of_bvv h
        refine g_iinc (v := y213) C dX4_wordsOfAll_33 rfl e214.symm (by decide) rfl (L2 := [some (rv w r0), some (.int y211), some (.int y213), some (rv w y203)]) rfl ?_
        refine g_goto 4 C dX4_wordsOfAll_36 (by decide) ?_
        refine g_mask (bs := [true, true, true, false]) (L2 := [some (rv w r0), some (.int y211), some (.int y213), none]) rfl ?_
        exact ih r0 y211 y213 h
def f_X4_wordsOfAll (r0 : Nat) (M : Mem) : Option Int32 := f_X4_wordsOfAll_4 M FU r0 (0 : Int32) (0 : Int32)
set_option maxRecDepth 100000 in
set_option maxHeartbeats 4000000 in
theorem ct_X4_wordsOfAll {l : Launch} {w : Om} (hw : Wf w) {r0 : Nat}  {M : Mem} {r : Int32} (h : f_X4_wordsOfAll r0 M = some r) : Ct l w yX4_wordsOfAll cX4_wordsOfAll 4 (some .int) 1 [rv w r0] M (some (.int r)) M := by
  refine ct_of hw (by decide) (cat_s (rv_cat _ _) cat_0) (Nat.le_of_ble_eq_true rfl) (fun f _ C hR => ?_)
  show Go w f 0 [some (rv w r0), none, none, none] [] M
  unfold f_X4_wordsOfAll at h
  refine g_iconst (v := 0) C dX4_wordsOfAll_0 rfl ?_
  refine g_istore_n C dX4_wordsOfAll_1 rfl (by decide) (rv_cat _ _) (L2 := [some (rv w r0), some (.int (0 : Int32)), none, none]) rfl ?_
  refine g_iconst (v := 0) C dX4_wordsOfAll_2 rfl ?_
  refine g_istore_n C dX4_wordsOfAll_3 rfl (by decide) rfl (L2 := [some (rv w r0), some (.int (0 : Int32)), some (.int (0 : Int32)), none]) rfl ?_
  exact t_X4_wordsOfAll_4 C hR _ r0 (0 : Int32) (0 : Int32) h
def f_X5_length (r0 : Nat) (M : Mem) : Option UInt64 := gdd (kd r0 = 6) <| gdd (kd (fld r0 0) = 5) <| obb (f_X4_wordsOfAll (fld r0 0) M) fun y3 => obb (f_X4_commasOfAll (fld r0 0) M) fun y5 => bvv (y5 + (gI M (fld r0 0) 4)) fun y7 => if 0 < y7 then (gdd (nN (FP.ddiv (FP.i2d y3) (FP.i2d y7)) = true) <| some (FP.ddiv (FP.i2d y3) (FP.i2d y7))) else (some FP.dconst0)
set_option maxRecDepth 100000 in
set_option maxHeartbeats 4000000 in
theorem ct_X5_length {l : Launch} {w : Om} (hw : Wf w) {r0 : Nat}  {M : Mem} {r : UInt64} (h : f_X5_length r0 M = some r) : Ct l w yX5_length cX5_length 3 (some .double) 2 [rv w r0] M (some (.double r)) M := by
  refine ct_of hw (by decide) (cat_s (rv_cat _ _) cat_0) (Nat.le_of_ble_eq_true rfl) (fun f _ C hR => ?_)
  show Go w f 0 [some (rv w r0), none, none] [] M
  unfold f_X5_length at h
  refine g_aload_n C dX5_length_0 rfl rfl ?_
  obtain ⟨g1, h⟩ := of_gdd h
  refine gf_5_0 C fl_RX5_10 g1 dX5_length_1 ?_
  obtain ⟨g2, h⟩ := of_gdd h
  obtain ⟨y3, e4, h⟩ := of_obb h
  refine g_callV (As := []) C (ct_X4_wordsOfAll C.wf e4) g2 lk_RX5_277 mi_X4_wordsOfAll (by decide) cs_0 (by decide) dX5_length_4 rfl ?_
  show Go w f 7 [some (rv w r0), none, none] [.int y3] M
  refine g_istore_n C dX5_length_7 rfl (by decide) (rv_cat _ _) (L2 := [some (rv w r0), some (.int y3), none]) rfl ?_
  refine g_aload_n C dX5_length_8 rfl rfl ?_
  refine gf_5_0 C fl_RX5_10 g1 dX5_length_9 ?_
  obtain ⟨y5, e6, h⟩ := of_obb h
  refine g_callV (As := []) C (ct_X4_commasOfAll C.wf e6) g2 lk_RX5_268 mi_X4_commasOfAll (by decide) cs_0 (by decide) dX5_length_12 rfl ?_
  show Go w f 15 [some (rv w r0), some (.int y3), none] [.int y5] M
  refine g_aload_n C dX5_length_15 rfl rfl ?_
  refine gf_5_0 C fl_RX5_10 g1 dX5_length_16 ?_
  refine gf_4_4 C fl_RX5_112 g2 dX5_length_19 ?_
  refine g_iadd C dX5_length_22 ?_
  obtain ⟨y7, e8, h⟩ := of_bvv h
  refine g_topi e8 ?_
  refine g_istore_n C dX5_length_23 rfl (by decide) rfl (L2 := [some (rv w r0), some (.int y3), some (.int y7)]) rfl ?_
  refine g_iload_n C dX5_length_24 rfl rfl ?_
  refine g_if_gt 30 C dX5_length_25 (by decide) (fun c9 => ?_) (fun c9 => ?_)
  · replace h := of_ift h c9
    refine g_iload_n C dX5_length_30 rfl rfl ?_
    refine g_i2d C dX5_length_31 ?_
    refine g_iload_n C dX5_length_32 rfl rfl ?_
    refine g_i2d C dX5_length_33 ?_
    obtain ⟨g10, h⟩ := of_gdd h
    refine g_ddiv C dX5_length_34 (nN_use g10) ?_
    cases h
    exact hR 35 _ rfl dX5_length_35
  · replace h := of_iff h c9
    refine g_dconst0 C dX5_length_28 ?_
    cases h
    exact hR 29 _ rfl dX5_length_29
def f_X0_hasWordsOf_15 (M : Mem) : Nat → Nat → Nat → Int32 → Option Int32
  | 0, _, _, _ => none
  | n + 1, r0, r1, x2 => gdd (kd r0 = 1) <| if (gI M r0 1) ≤ x2 then (some (1 : Int32)) else (obb (f_X0_kindAt r0 x2 M) fun y203 => gdd (kd r1 = 1) <| obb (f_X0_kindAt r1 x2 M) fun y206 => if y203 = y206 then (bvv (x2 + (1 : Int32)) fun y209 => (f_X0_hasWordsOf_15 M n) r0 r1 y209) else (some (0 : Int32)))
set_option maxRecDepth 100000 in
set_option maxHeartbeats 4000000 in
theorem t_X0_hasWordsOf_15 {w : Om} {f : Fr} {M : Mem} {r : Int32} (C : Cx w f RX0 cX0_hasWordsOf 3 1) (hR : Rt w f cX0_hasWordsOf (some .boolean) (some (.int r)) M)   : ∀ (n : Nat) (r0 : Nat) (r1 : Nat) (x2 : Int32), f_X0_hasWordsOf_15 M n r0 r1 x2 = some r → Go w f 15 [some (rv w r0), some (rv w r1), some (.int x2)] [] M := by
  intro n
  induction n with
  | zero =>
    intro r0 r1 x2 h
    cases h
  | succ n ih =>
    intro r0 r1 x2 h
    rw [f_X0_hasWordsOf_15] at h
    refine g_iload_n C dX0_hasWordsOf_15 rfl rfl ?_
    refine g_aload_n C dX0_hasWordsOf_16 rfl rfl ?_
    obtain ⟨g201, h⟩ := of_gdd h
    refine gf_0_1 C fl_RX0_23 g201 dX0_hasWordsOf_17 ?_
    refine g_icmp_ge 44 C dX0_hasWordsOf_20 (by decide) (fun c202 => ?_) (fun c202 => ?_)
    · replace h := of_ift h c202
      refine g_iconst (v := 1) C dX0_hasWordsOf_44 rfl ?_
      cases h
      exact hR 45 _ ⟨.boolean, rfl, rfl⟩ dX0_hasWordsOf_45
    · replace h := of_iff h c202
      refine g_aload_n C dX0_hasWordsOf_23 rfl rfl ?_
      refine g_iload_n C dX0_hasWordsOf_24 rfl rfl ?_
      obtain ⟨y203, e204, h⟩ := of_obb h
      refine g_callV (As := [.int x2]) C (ct_X0_kindAt C.wf e204) g201 lk_RX0_42 mi_X0_kindAt (by decide) cs_0 (by decide) dX0_hasWordsOf_25 rfl ?_
      show Go w f 28 [some (rv w r0), some (rv w r1), some (.int x2)] [.int y203] M
      refine g_aload_n C dX0_hasWordsOf_28 rfl rfl ?_
      refine g_iload_n C dX0_hasWordsOf_29 rfl rfl ?_
      obtain ⟨g205, h⟩ := of_gdd h
      obtain ⟨y206, e207, h⟩ := of_obb h
      refine g_callV (As := [.int x2]) C (ct_X0_kindAt C.wf e207) g205 lk_RX0_42 mi_X0_kindAt (by decide) (cs_i cs_0) (by decide) dX0_hasWordsOf_30 rfl ?_
      show Go w f 33 [some (rv w r0), some (rv w r1), some (.int x2)] [.int y206, .int y203] M
      refine g_icmp_eq 38 C dX0_hasWordsOf_33 (by decide) (fun c208 => ?_) (fun c208 => ?_)
      · replace h := of_ift h c208
        obtain ⟨y209, e210, h⟩ := of_bvv h
        refine g_iinc (v := y209) C dX0_hasWordsOf_38 rfl e210.symm (by decide) (rv_cat _ _) (L2 := [some (rv w r0), some (rv w r1), some (.int y209)]) rfl ?_
        refine g_goto 15 C dX0_hasWordsOf_41 (by decide) ?_
        exact ih r0 r1 y209 h
      · replace h := of_iff h c208
        refine g_iconst (v := 0) C dX0_hasWordsOf_36 rfl ?_
        cases h
        exact hR 37 _ ⟨.boolean, rfl, rfl⟩ dX0_hasWordsOf_37
def f_X0_hasWordsOf (r0 : Nat) (r1 : Nat) (M : Mem) : Option Int32 := gdd (kd r0 = 1) <| gdd (kd r1 = 1) <| if (gI M r0 1) = (gI M r1 1) then (f_X0_hasWordsOf_15 M FU r0 r1 (0 : Int32)) else (some (0 : Int32))
set_option maxRecDepth 100000 in
set_option maxHeartbeats 4000000 in
theorem ct_X0_hasWordsOf {l : Launch} {w : Om} (hw : Wf w) {r0 : Nat} {r1 : Nat}  {M : Mem} {r : Int32} (h : f_X0_hasWordsOf r0 r1 M = some r) : Ct l w yX0_hasWordsOf cX0_hasWordsOf 3 (some .boolean) 1 [rv w r0, rv w r1] M (some (.int r)) M := by
  refine ct_of hw (by decide) (cat_s (rv_cat _ _) (cat_s (rv_cat _ _) cat_0)) (Nat.le_of_ble_eq_true rfl) (fun f _ C hR => ?_)
  show Go w f 0 [some (rv w r0), some (rv w r1), none] [] M
  unfold f_X0_hasWordsOf at h
  refine g_aload_n C dX0_hasWordsOf_0 rfl rfl ?_
  obtain ⟨g1, h⟩ := of_gdd h
  refine gf_0_1 C fl_RX0_23 g1 dX0_hasWordsOf_1 ?_
  refine g_aload_n C dX0_hasWordsOf_4 rfl rfl ?_
  obtain ⟨g2, h⟩ := of_gdd h
  refine gf_0_1 C fl_RX0_23 g2 dX0_hasWordsOf_5 ?_
  refine g_icmp_eq 13 C dX0_hasWordsOf_8 (by decide) (fun c3 => ?_) (fun c3 => ?_)
  · replace h := of_ift h c3
    refine g_iconst (v := 0) C dX0_hasWordsOf_13 rfl ?_
    refine g_istore_n C dX0_hasWordsOf_14 rfl (by decide) (rv_cat _ _) (L2 := [some (rv w r0), some (rv w r1), some (.int (0 : Int32))]) rfl ?_
    exact t_X0_hasWordsOf_15 C hR _ r0 r1 (0 : Int32) h
  · replace h := of_iff h c3
    refine g_iconst (v := 0) C dX0_hasWordsOf_11 rfl ?_
    cases h
    exact hR 12 _ ⟨.boolean, rfl, rfl⟩ dX0_hasWordsOf_12
def f_X4_hasEditionLike_2 (M : Mem) : Nat → Nat → Nat → Int32 → Int32 → Option Int32
  | 0, _, _, _, _ => none
  | n + 1, r0, r1, x2, x3 => gdd (kd r0 = 5) <| if (gI M r0 4) ≤ x3 then (some (0 : Int32)) else (obb (f_X4_editionAt r0 x3 M) fun y203 => if y203 = 0 then (bvv (x3 + (1 : Int32)) fun y206 => (f_X4_hasEditionLike_2 M n) r0 r1 x2 y206) else (gdd (kd y203 = 1) <| if (gI M y203 2) = x2 then (obb (f_X0_hasWordsOf y203 r1 M) fun y212 => if y212 = 0 then (bvv (x3 + (1 : Int32)) fun y215 => (f_X4_hasEditionLike_2 M n) r0 r1 x2 y215) else (some (1 : Int32))) else (bvv (x3 + (1 : Int32)) fun y210 => (f_X4_hasEditionLike_2 M n) r0 r1 x2 y210)))
set_option maxRecDepth 100000 in
set_option maxHeartbeats 4000000 in
theorem t_X4_hasEditionLike_2 {w : Om} {f : Fr} {M : Mem} {r : Int32} (C : Cx w f RX4 cX4_hasEditionLike 5 2) (hR : Rt w f cX4_hasEditionLike (some .boolean) (some (.int r)) M)   : ∀ (n : Nat) (r0 : Nat) (r1 : Nat) (x2 : Int32) (x3 : Int32), f_X4_hasEditionLike_2 M n r0 r1 x2 x3 = some r → Go w f 2 [some (rv w r0), some (rv w r1), some (.int x2), some (.int x3), none] [] M := by
  intro n
  induction n with
  | zero =>
    intro r0 r1 x2 x3 h
    cases h
  | succ n ih =>
    intro r0 r1 x2 x3 h
    rw [f_X4_hasEditionLike_2] at h
    refine g_iload_n C dX4_hasEditionLike_2 rfl rfl ?_
    refine g_aload_n C dX4_hasEditionLike_3 rfl rfl ?_
    obtain ⟨g201, h⟩ := of_gdd h
    refine gf_4_4 C fl_RX4_40 g201 dX4_hasEditionLike_4 ?_
    refine g_icmp_ge 48 C dX4_hasEditionLike_7 (by decide) (fun c202 => ?_) (fun c202 => ?_)
    · replace h := of_ift h c202
      refine g_iconst (v := 0) C dX4_hasEditionLike_48 rfl ?_
      cases h
      exact hR 49 _ ⟨.boolean, rfl, rfl⟩ dX4_hasEditionLike_49
    · replace h := of_iff h c202
      refine g_aload_n C dX4_hasEditionLike_10 rfl rfl ?_
      refine g_iload_n C dX4_hasEditionLike_11 rfl rfl ?_
      obtain ⟨y203, e204, h⟩ := of_obb h
      refine g_callV (As := [.int x3]) C (ct_X4_editionAt C.wf e204) g201 lk_RX4_47 mi_X4_editionAt (by decide) cs_0 (by decide) dX4_hasEditionLike_12 rfl ?_
      show Go w f 15 [some (rv w r0), some (rv w r1), some (.int x2), some (.int x3), none] [rv w y203] M
      refine g_astore C dX4_hasEditionLike_15 (by decide) rfl (L2 := [some (rv w r0), some (rv w r1), some (.int x2), some (.int x3), some (rv w y203)]) rfl ?_
      refine g_aload C dX4_hasEditionLike_17 rfl ?_
      refine g_ifnull 42 C dX4_hasEditionLike_19 (by decide) (fun c205 => ?_) (fun c205 => ?_)
      · replace h := of_ift h c205
        obtain ⟨y206, e207, h⟩ := of_bvv h
        refine g_iinc (v := y206) C dX4_hasEditionLike_42 rfl e207.symm (by decide) rfl (L2 := [some (rv w r0), some (rv w r1), some (.int x2), some (.int y206), some (rv w y203)]) rfl ?_
        refine g_goto 2 C dX4_hasEditionLike_45 (by decide) ?_
        refine g_mask (bs := [true, true, true, true, false]) (L2 := [some (rv w r0), some (rv w r1), some (.int x2), some (.int y206), none]) rfl ?_
        exact ih r0 r1 x2 y206 h
      · replace h := of_iff h c205
        refine g_aload C dX4_hasEditionLike_22 rfl ?_
        obtain ⟨g208, h⟩ := of_gdd h
        refine gf_0_2 C fl_RX4_75 g208 dX4_hasEditionLike_24 ?_
        refine g_iload_n C dX4_hasEditionLike_27 rfl rfl ?_
        refine g_icmp_ne 42 C dX4_hasEditionLike_28 (by decide) (fun c209 => ?_) (fun c209 => ?_)
        · replace h := of_iff h c209
          obtain ⟨y210, e211, h⟩ := of_bvv h
          refine g_iinc (v := y210) C dX4_hasEditionLike_42 rfl e211.symm (by decide) rfl (L2 := [some (rv w r0), some (rv w r1), some (.int x2), some (.int y210), some (rv w y203)]) rfl ?_
          refine g_goto 2 C dX4_hasEditionLike_45 (by decide) ?_
          refine g_mask (bs := [true, true, true, true, false]) (L2 := [some (rv w r0), some (rv w r1), some (.int x2), some (.int y210), none]) rfl ?_
          exact ih r0 r1 x2 y210 h
        · replace h := of_ift h c209
          refine g_aload C dX4_hasEditionLike_31 rfl ?_
          refine g_aload_n C dX4_hasEditionLike_33 rfl rfl ?_
          obtain ⟨y212, e213, h⟩ := of_obb h
          refine g_callV (As := [rv w r1]) C (ct_X0_hasWordsOf C.wf e213) g208 lk_RX4_78 mi_X0_hasWordsOf (by decide) cs_0 (by decide) dX4_hasEditionLike_34 rfl ?_
          show Go w f 37 [some (rv w r0), some (rv w r1), some (.int x2), some (.int x3), some (rv w y203)] [.int y212] M
          refine g_if_eq 42 C dX4_hasEditionLike_37 (by decide) (fun c214 => ?_) (fun c214 => ?_)
          · replace h := of_ift h c214
            obtain ⟨y215, e216, h⟩ := of_bvv h
            refine g_iinc (v := y215) C dX4_hasEditionLike_42 rfl e216.symm (by decide) rfl (L2 := [some (rv w r0), some (rv w r1), some (.int x2), some (.int y215), some (rv w y203)]) rfl ?_
            refine g_goto 2 C dX4_hasEditionLike_45 (by decide) ?_
            refine g_mask (bs := [true, true, true, true, false]) (L2 := [some (rv w r0), some (rv w r1), some (.int x2), some (.int y215), none]) rfl ?_
            exact ih r0 r1 x2 y215 h
          · replace h := of_iff h c214
            refine g_iconst (v := 1) C dX4_hasEditionLike_40 rfl ?_
            cases h
            exact hR 41 _ ⟨.boolean, rfl, rfl⟩ dX4_hasEditionLike_41
def f_X4_hasEditionLike (r0 : Nat) (r1 : Nat) (x2 : Int32) (M : Mem) : Option Int32 := f_X4_hasEditionLike_2 M FU r0 r1 x2 (0 : Int32)
set_option maxRecDepth 100000 in
set_option maxHeartbeats 4000000 in
theorem ct_X4_hasEditionLike {l : Launch} {w : Om} (hw : Wf w) {r0 : Nat} {r1 : Nat} {x2 : Int32}  {M : Mem} {r : Int32} (h : f_X4_hasEditionLike r0 r1 x2 M = some r) : Ct l w yX4_hasEditionLike cX4_hasEditionLike 5 (some .boolean) 2 [rv w r0, rv w r1, .int x2] M (some (.int r)) M := by
  refine ct_of hw (by decide) (cat_s (rv_cat _ _) (cat_s (rv_cat _ _) (cat_s rfl cat_0))) (Nat.le_of_ble_eq_true rfl) (fun f _ C hR => ?_)
  show Go w f 0 [some (rv w r0), some (rv w r1), some (.int x2), none, none] [] M
  unfold f_X4_hasEditionLike at h
  refine g_iconst (v := 0) C dX4_hasEditionLike_0 rfl ?_
  refine g_istore_n C dX4_hasEditionLike_1 rfl (by decide) rfl (L2 := [some (rv w r0), some (rv w r1), some (.int x2), some (.int (0 : Int32)), none]) rfl ?_
  exact t_X4_hasEditionLike_2 C hR _ r0 r1 x2 (0 : Int32) h
def f_X5_reasonAgainst (r0 : Nat) (r1 : Nat) (x2 : Int32) (M : Mem) : Option Int32 := gdd (kd r0 = 6) <| gdd (kd (fld r0 0) = 5) <| obb (f_X4_isStayed (fld r0 0) r1 M) fun y3 => if y3 = 0 then (gdd (kd r1 = 1) <| obb (f_X0_movedCommas r1 x2 M) fun y7 => gdd (kd (fld r0 5) = 4) <| obb (f_X3_cost (fld r0 5) y7 M) fun y10 => obb (f_X3_cost (fld r0 5) (gI M r1 2) M) fun y12 => if y10 < y12 then (obb (f_X4_hasEditionLike (fld r0 0) r1 y7 M) fun y15 => if y15 = 0 then (some (0 : Int32)) else (some (3 : Int32))) else (some (2 : Int32))) else (some (1 : Int32))
set_option maxRecDepth 100000 in
set_option maxHeartbeats 4000000 in
theorem ct_X5_reasonAgainst {l : Launch} {w : Om} (hw : Wf w) {r0 : Nat} {r1 : Nat} {x2 : Int32}  {M : Mem} {r : Int32} (h : f_X5_reasonAgainst r0 r1 x2 M = some r) : Ct l w yX5_reasonAgainst cX5_reasonAgainst 4 (some .int) 4 [rv w r0, rv w r1, .int x2] M (some (.int r)) M := by
  refine ct_of hw (by decide) (cat_s (rv_cat _ _) (cat_s (rv_cat _ _) (cat_s rfl cat_0))) (Nat.le_of_ble_eq_true rfl) (fun f _ C hR => ?_)
  show Go w f 0 [some (rv w r0), some (rv w r1), some (.int x2), none] [] M
  unfold f_X5_reasonAgainst at h
  refine g_aload_n C dX5_reasonAgainst_0 rfl rfl ?_
  obtain ⟨g1, h⟩ := of_gdd h
  refine gf_5_0 C fl_RX5_10 g1 dX5_reasonAgainst_1 ?_
  refine g_aload_n C dX5_reasonAgainst_4 rfl rfl ?_
  obtain ⟨g2, h⟩ := of_gdd h
  obtain ⟨y3, e4, h⟩ := of_obb h
  refine g_callV (As := [rv w r1]) C (ct_X4_isStayed C.wf e4) g2 lk_RX5_192 mi_X4_isStayed (by decide) cs_0 (by decide) dX5_reasonAgainst_5 rfl ?_
  show Go w f 8 [some (rv w r0), some (rv w r1), some (.int x2), none] [.int y3] M
  refine g_if_eq 13 C dX5_reasonAgainst_8 (by decide) (fun c5 => ?_) (fun c5 => ?_)
  · replace h := of_ift h c5
    refine g_aload_n C dX5_reasonAgainst_13 rfl rfl ?_
    refine g_iload_n C dX5_reasonAgainst_14 rfl rfl ?_
    obtain ⟨g6, h⟩ := of_gdd h
    obtain ⟨y7, e8, h⟩ := of_obb h
    refine g_callV (As := [.int x2]) C (ct_X0_movedCommas C.wf e8) g6 lk_RX5_208 mi_X0_movedCommas (by decide) cs_0 (by decide) dX5_reasonAgainst_15 rfl ?_
    show Go w f 18 [some (rv w r0), some (rv w r1), some (.int x2), none] [.int y7] M
    refine g_istore_n C dX5_reasonAgainst_18 rfl (by decide) rfl (L2 := [some (rv w r0), some (rv w r1), some (.int x2), some (.int y7)]) rfl ?_
    refine g_aload_n C dX5_reasonAgainst_19 rfl rfl ?_
    refine gf_5_5 C fl_RX5_40 g1 dX5_reasonAgainst_20 ?_
    refine g_iload_n C dX5_reasonAgainst_23 rfl rfl ?_
    obtain ⟨g9, h⟩ := of_gdd h
    obtain ⟨y10, e11, h⟩ := of_obb h
    refine g_callV (As := [.int y7]) C (ct_X3_cost C.wf e11) g9 lk_RX5_189 mi_X3_cost (by decide) cs_0 (by decide) dX5_reasonAgainst_24 rfl ?_
    show Go w f 27 [some (rv w r0), some (rv w r1), some (.int x2), some (.int y7)] [.int y10] M
    refine g_aload_n C dX5_reasonAgainst_27 rfl rfl ?_
    refine gf_5_5 C fl_RX5_40 g1 dX5_reasonAgainst_28 ?_
    refine g_aload_n C dX5_reasonAgainst_31 rfl rfl ?_
    refine gf_0_2 C fl_RX5_105 g6 dX5_reasonAgainst_32 ?_
    obtain ⟨y12, e13, h⟩ := of_obb h
    refine g_callV (As := [.int (gI M r1 2)]) C (ct_X3_cost C.wf e13) g9 lk_RX5_189 mi_X3_cost (by decide) (cs_i cs_0) (by decide) dX5_reasonAgainst_35 rfl ?_
    show Go w f 38 [some (rv w r0), some (rv w r1), some (.int x2), some (.int y7)] [.int y12, .int y10] M
    refine g_icmp_lt 43 C dX5_reasonAgainst_38 (by decide) (fun c14 => ?_) (fun c14 => ?_)
    · replace h := of_ift h c14
      refine g_aload_n C dX5_reasonAgainst_43 rfl rfl ?_
      refine gf_5_0 C fl_RX5_10 g1 dX5_reasonAgainst_44 ?_
      refine g_aload_n C dX5_reasonAgainst_47 rfl rfl ?_
      refine g_iload_n C dX5_reasonAgainst_48 rfl rfl ?_
      obtain ⟨y15, e16, h⟩ := of_obb h
      refine g_callV (As := [rv w r1, .int y7]) C (ct_X4_hasEditionLike C.wf e16) g2 lk_RX5_108 mi_X4_hasEditionLike (by decide) cs_0 (by decide) dX5_reasonAgainst_49 rfl ?_
      show Go w f 52 [some (rv w r0), some (rv w r1), some (.int x2), some (.int y7)] [.int y15] M
      refine g_if_eq 59 C dX5_reasonAgainst_52 (by decide) (fun c17 => ?_) (fun c17 => ?_)
      · replace h := of_ift h c17
        refine g_iconst (v := 0) C dX5_reasonAgainst_59 rfl ?_
        cases h
        exact hR 60 _ ⟨.int, rfl, rfl⟩ dX5_reasonAgainst_60
      · replace h := of_iff h c17
        refine g_iconst (v := 3) C dX5_reasonAgainst_55 rfl ?_
        refine g_goto 60 C dX5_reasonAgainst_56 (by decide) ?_
        cases h
        exact hR 60 _ ⟨.int, rfl, rfl⟩ dX5_reasonAgainst_60
    · replace h := of_iff h c14
      refine g_iconst (v := 2) C dX5_reasonAgainst_41 rfl ?_
      cases h
      exact hR 42 _ ⟨.int, rfl, rfl⟩ dX5_reasonAgainst_42
  · replace h := of_iff h c5
    refine g_iconst (v := 1) C dX5_reasonAgainst_11 rfl ?_
    cases h
    exact hR 12 _ ⟨.int, rfl, rfl⟩ dX5_reasonAgainst_12
