def f_X5_count (r0 : Nat) (x1 : Int32) (M : Mem) : Option (Int32 × Mem) := if x1 = nI 0 then (gdd (kd r0 = 6) <| gdd (kd (fld r0 0) = 5) <| some (gI M (fld r0 0) 6, M)) else if x1 = nI 1 then (gdd (kd r0 = 6) <| gdd (kd (fld r0 0) = 5) <| some (gI M (fld r0 0) 4, M)) else if x1 = nI 2 then (gdd (kd r0 = 6) <| gdd (kd (fld r0 0) = 5) <| obb (f_X4_stayedEditions (fld r0 0) M) fun y10 => some (y10, M)) else if x1 = nI 3 then (gdd (kd r0 = 6) <| opp (f_X5_costOfAll r0 M) fun y16 M14 => some (y16, M14)) else if x1 = nI 4 then (gdd (kd r0 = 6) <| gdd (kd (fld r0 0) = 5) <| some (gI M (fld r0 0) 5, M)) else if x1 = nI 5 then (gdd (kd r0 = 6) <| gdd (kd (fld r0 0) = 5) <| obb (f_X4_rulingsInForce (fld r0 0) M) fun y23 => some (y23, M)) else if x1 = nI 6 then (gdd (kd r0 = 6) <| gdd (kd (fld r0 0) = 5) <| obb (f_X4_rulingsThatCount (fld r0 0) M) fun y28 => some (y28, M)) else if x1 = nI 7 then (gdd (kd r0 = 6) <| gdd (kd (fld r0 0) = 5) <| some (gI M (fld r0 0) 7, M)) else if x1 = nI 8 then (gdd (kd r0 = 6) <| gdd (kd (fld r0 0) = 5) <| some (gI M (fld r0 0) 8, M)) else if x1 = nI 9 then (gdd (kd r0 = 6) <| gdd (kd (fld r0 0) = 5) <| obb (f_X4_commasOfAll (fld r0 0) M) fun y39 => some (y39, M)) else if x1 = nI 10 then (gdd (kd r0 = 6) <| gdd (kd (fld r0 0) = 5) <| obb (f_X5_at (fld (fld r0 0) 1) (0 : Int32) M) fun y44 => some (y44, M)) else if x1 = nI 11 then (gdd (kd r0 = 6) <| gdd (kd (fld r0 0) = 5) <| obb (f_X5_at (fld (fld r0 0) 1) (1 : Int32) M) fun y49 => some (y49, M)) else if x1 = nI 12 then (gdd (kd r0 = 6) <| opp (f_X5_cheapestEdition r0 M) fun y55 M53 => some (y55, M53)) else if x1 = nI 13 then (gdd (kd r0 = 6) <| gdd (kd (fld r0 3) = 2) <| some (gI M (fld r0 3) 1, M)) else if x1 = nI 14 then (gdd (kd r0 = 6) <| some (gI M r0 7, M)) else (some ((-1 : Int32), M))
set_option maxRecDepth 100000 in
set_option maxHeartbeats 4000000 in
theorem ct_X5_count {l : Launch} {w : Om} (hw : Wf w) {r0 : Nat} {x1 : Int32} {M : Mem} {r : Int32} {M2 : Mem} (h : f_X5_count r0 x1 M = some (r, M2)) : Ct l w yX5_count cX5_count 2 (some .int) 6 [rv w r0, .int x1] M (some (.int r)) M2 := by
  refine ct_of hw (by decide) (cat_s (rv_cat _ _) (cat_s rfl cat_0)) (Nat.le_of_ble_eq_true rfl) (fun f _ C hR => ?_)
  show Go w f 0 [some (rv w r0), some (.int x1)] [] M
  unfold f_X5_count at h
  refine g_iload_n C dX5_count_0 rfl rfl ?_
  by_cases c1 : x1 = nI 0
  · replace h := of_ift h c1
    refine g_tsI (nI 0) (75) 76 C dX5_count_1 c1 (by decide) (by decide) rfl (by decide) ?_
    refine g_aload_n C dX5_count_76 rfl rfl ?_
    obtain ⟨g2, h⟩ := of_gdd h
    refine gf_5_0 C fl_RX5_10 g2 dX5_count_77 ?_
    obtain ⟨g3, h⟩ := of_gdd h
    refine gf_4_6 C fl_RX5_139 g3 dX5_count_80 ?_
    cases h
    exact hR 83 _ ⟨.int, rfl, rfl⟩ dX5_count_83
  replace h := of_iff h c1
  by_cases c4 : x1 = nI 1
  · replace h := of_ift h c4
    refine g_tsI (nI 1) (83) 84 C dX5_count_1 c4 (by decide) (by decide) rfl (by decide) ?_
    refine g_aload_n C dX5_count_84 rfl rfl ?_
    obtain ⟨g5, h⟩ := of_gdd h
    refine gf_5_0 C fl_RX5_10 g5 dX5_count_85 ?_
    obtain ⟨g6, h⟩ := of_gdd h
    refine gf_4_4 C fl_RX5_112 g6 dX5_count_88 ?_
    cases h
    exact hR 91 _ ⟨.int, rfl, rfl⟩ dX5_count_91
  replace h := of_iff h c4
  by_cases c7 : x1 = nI 2
  · replace h := of_ift h c7
    refine g_tsI (nI 2) (91) 92 C dX5_count_1 c7 (by decide) (by decide) rfl (by decide) ?_
    refine g_aload_n C dX5_count_92 rfl rfl ?_
    obtain ⟨g8, h⟩ := of_gdd h
    refine gf_5_0 C fl_RX5_10 g8 dX5_count_93 ?_
    obtain ⟨g9, h⟩ := of_gdd h
    obtain ⟨y10, e11, h⟩ := of_obb h
    refine g_callV (As := []) C (ct_X4_stayedEditions C.wf e11) g9 lk_RX5_255 mi_X4_stayedEditions (by decide) cs_0 (by decide) dX5_count_96 rfl ?_
    show Go w f 99 [some (rv w r0), some (.int x1)] [.int y10] M
    cases h
    exact hR 99 _ ⟨.int, rfl, rfl⟩ dX5_count_99
  replace h := of_iff h c7
  by_cases c12 : x1 = nI 3
  · replace h := of_ift h c12
    refine g_tsI (nI 3) (99) 100 C dX5_count_1 c12 (by decide) (by decide) rfl (by decide) ?_
    refine g_aload_n C dX5_count_100 rfl rfl ?_
    obtain ⟨g13, h⟩ := of_gdd h
    obtain ⟨y16, M14, e15, h⟩ := of_opp h
    refine g_callV (As := []) C (ct_X5_costOfAll C.wf e15) g13 lk_RX5_258 mi_X5_costOfAll (by decide) cs_0 (by decide) dX5_count_101 rfl ?_
    show Go w f 104 [some (rv w r0), some (.int x1)] [.int y16] M14
    cases h
    exact hR 104 _ ⟨.int, rfl, rfl⟩ dX5_count_104
  replace h := of_iff h c12
  by_cases c17 : x1 = nI 4
  · replace h := of_ift h c17
    refine g_tsI (nI 4) (104) 105 C dX5_count_1 c17 (by decide) (by decide) rfl (by decide) ?_
    refine g_aload_n C dX5_count_105 rfl rfl ?_
    obtain ⟨g18, h⟩ := of_gdd h
    refine gf_5_0 C fl_RX5_10 g18 dX5_count_106 ?_
    obtain ⟨g19, h⟩ := of_gdd h
    refine gf_4_5 C fl_RX5_73 g19 dX5_count_109 ?_
    cases h
    exact hR 112 _ ⟨.int, rfl, rfl⟩ dX5_count_112
  replace h := of_iff h c17
  by_cases c20 : x1 = nI 5
  · replace h := of_ift h c20
    refine g_tsI (nI 5) (112) 113 C dX5_count_1 c20 (by decide) (by decide) rfl (by decide) ?_
    refine g_aload_n C dX5_count_113 rfl rfl ?_
    obtain ⟨g21, h⟩ := of_gdd h
    refine gf_5_0 C fl_RX5_10 g21 dX5_count_114 ?_
    obtain ⟨g22, h⟩ := of_gdd h
    obtain ⟨y23, e24, h⟩ := of_obb h
    refine g_callV (As := []) C (ct_X4_rulingsInForce C.wf e24) g22 lk_RX5_91 mi_X4_rulingsInForce (by decide) cs_0 (by decide) dX5_count_117 rfl ?_
    show Go w f 120 [some (rv w r0), some (.int x1)] [.int y23] M
    cases h
    exact hR 120 _ ⟨.int, rfl, rfl⟩ dX5_count_120
  replace h := of_iff h c20
  by_cases c25 : x1 = nI 6
  · replace h := of_ift h c25
    refine g_tsI (nI 6) (120) 121 C dX5_count_1 c25 (by decide) (by decide) rfl (by decide) ?_
    refine g_aload_n C dX5_count_121 rfl rfl ?_
    obtain ⟨g26, h⟩ := of_gdd h
    refine gf_5_0 C fl_RX5_10 g26 dX5_count_122 ?_
    obtain ⟨g27, h⟩ := of_gdd h
    obtain ⟨y28, e29, h⟩ := of_obb h
    refine g_callV (As := []) C (ct_X4_rulingsThatCount C.wf e29) g27 lk_RX5_261 mi_X4_rulingsThatCount (by decide) cs_0 (by decide) dX5_count_125 rfl ?_
    show Go w f 128 [some (rv w r0), some (.int x1)] [.int y28] M
    cases h
    exact hR 128 _ ⟨.int, rfl, rfl⟩ dX5_count_128
  replace h := of_iff h c25
  by_cases c30 : x1 = nI 7
  · replace h := of_ift h c30
    refine g_tsI (nI 7) (128) 129 C dX5_count_1 c30 (by decide) (by decide) rfl (by decide) ?_
    refine g_aload_n C dX5_count_129 rfl rfl ?_
    obtain ⟨g31, h⟩ := of_gdd h
    refine gf_5_0 C fl_RX5_10 g31 dX5_count_130 ?_
    obtain ⟨g32, h⟩ := of_gdd h
    refine gf_4_7 C fl_RX5_264 g32 dX5_count_133 ?_
    cases h
    exact hR 136 _ ⟨.int, rfl, rfl⟩ dX5_count_136
  replace h := of_iff h c30
  by_cases c33 : x1 = nI 8
  · replace h := of_ift h c33
    refine g_tsI (nI 8) (136) 137 C dX5_count_1 c33 (by decide) (by decide) rfl (by decide) ?_
    refine g_aload_n C dX5_count_137 rfl rfl ?_
    obtain ⟨g34, h⟩ := of_gdd h
    refine gf_5_0 C fl_RX5_10 g34 dX5_count_138 ?_
    obtain ⟨g35, h⟩ := of_gdd h
    refine gf_4_8 C fl_RX5_265 g35 dX5_count_141 ?_
    cases h
    exact hR 144 _ ⟨.int, rfl, rfl⟩ dX5_count_144
  replace h := of_iff h c33
  by_cases c36 : x1 = nI 9
  · replace h := of_ift h c36
    refine g_tsI (nI 9) (144) 145 C dX5_count_1 c36 (by decide) (by decide) rfl (by decide) ?_
    refine g_aload_n C dX5_count_145 rfl rfl ?_
    obtain ⟨g37, h⟩ := of_gdd h
    refine gf_5_0 C fl_RX5_10 g37 dX5_count_146 ?_
    obtain ⟨g38, h⟩ := of_gdd h
    obtain ⟨y39, e40, h⟩ := of_obb h
    refine g_callV (As := []) C (ct_X4_commasOfAll C.wf e40) g38 lk_RX5_268 mi_X4_commasOfAll (by decide) cs_0 (by decide) dX5_count_149 rfl ?_
    show Go w f 152 [some (rv w r0), some (.int x1)] [.int y39] M
    cases h
    exact hR 152 _ ⟨.int, rfl, rfl⟩ dX5_count_152
  replace h := of_iff h c36
  by_cases c41 : x1 = nI 10
  · replace h := of_ift h c41
    refine g_tsI (nI 10) (152) 153 C dX5_count_1 c41 (by decide) (by decide) rfl (by decide) ?_
    refine g_aload_n C dX5_count_153 rfl rfl ?_
    obtain ⟨g42, h⟩ := of_gdd h
    refine gf_5_0 C fl_RX5_10 g42 dX5_count_154 ?_
    obtain ⟨g43, h⟩ := of_gdd h
    refine gf_4_1 C fl_RX5_67 g43 dX5_count_157 ?_
    refine g_iconst (v := 0) C dX5_count_160 rfl ?_
    obtain ⟨y44, e45, h⟩ := of_obb h
    refine g_callS (As := [rv w (fld (fld r0 0) 1), .int (0 : Int32)]) C (ct_X5_at C.wf e45) lk_RX5_59 mi_X5_at (by decide) cs_0 (by decide) dX5_count_161 rfl ?_
    show Go w f 164 [some (rv w r0), some (.int x1)] [.int y44] M
    cases h
    exact hR 164 _ ⟨.int, rfl, rfl⟩ dX5_count_164
  replace h := of_iff h c41
  by_cases c46 : x1 = nI 11
  · replace h := of_ift h c46
    refine g_tsI (nI 11) (164) 165 C dX5_count_1 c46 (by decide) (by decide) rfl (by decide) ?_
    refine g_aload_n C dX5_count_165 rfl rfl ?_
    obtain ⟨g47, h⟩ := of_gdd h
    refine gf_5_0 C fl_RX5_10 g47 dX5_count_166 ?_
    obtain ⟨g48, h⟩ := of_gdd h
    refine gf_4_1 C fl_RX5_67 g48 dX5_count_169 ?_
    refine g_iconst (v := 1) C dX5_count_172 rfl ?_
    obtain ⟨y49, e50, h⟩ := of_obb h
    refine g_callS (As := [rv w (fld (fld r0 0) 1), .int (1 : Int32)]) C (ct_X5_at C.wf e50) lk_RX5_59 mi_X5_at (by decide) cs_0 (by decide) dX5_count_173 rfl ?_
    show Go w f 176 [some (rv w r0), some (.int x1)] [.int y49] M
    cases h
    exact hR 176 _ ⟨.int, rfl, rfl⟩ dX5_count_176
  replace h := of_iff h c46
  by_cases c51 : x1 = nI 12
  · replace h := of_ift h c51
    refine g_tsI (nI 12) (176) 177 C dX5_count_1 c51 (by decide) (by decide) rfl (by decide) ?_
    refine g_aload_n C dX5_count_177 rfl rfl ?_
    obtain ⟨g52, h⟩ := of_gdd h
    obtain ⟨y55, M53, e54, h⟩ := of_opp h
    refine g_callV (As := []) C (ct_X5_cheapestEdition C.wf e54) g52 lk_RX5_271 mi_X5_cheapestEdition (by decide) cs_0 (by decide) dX5_count_178 rfl ?_
    show Go w f 181 [some (rv w r0), some (.int x1)] [.int y55] M53
    cases h
    exact hR 181 _ ⟨.int, rfl, rfl⟩ dX5_count_181
  replace h := of_iff h c51
  by_cases c56 : x1 = nI 13
  · replace h := of_ift h c56
    refine g_tsI (nI 13) (181) 182 C dX5_count_1 c56 (by decide) (by decide) rfl (by decide) ?_
    refine g_aload_n C dX5_count_182 rfl rfl ?_
    obtain ⟨g57, h⟩ := of_gdd h
    refine gf_5_3 C fl_RX5_26 g57 dX5_count_183 ?_
    obtain ⟨g58, h⟩ := of_gdd h
    refine gf_1_1 C fl_RX5_118 g58 dX5_count_186 ?_
    cases h
    exact hR 189 _ ⟨.int, rfl, rfl⟩ dX5_count_189
  replace h := of_iff h c56
  by_cases c59 : x1 = nI 14
  · replace h := of_ift h c59
    refine g_tsI (nI 14) (189) 190 C dX5_count_1 c59 (by decide) (by decide) rfl (by decide) ?_
    refine g_aload_n C dX5_count_190 rfl rfl ?_
    obtain ⟨g60, h⟩ := of_gdd h
    refine gf_5_7 C fl_RX5_274 g60 dX5_count_191 ?_
    cases h
    exact hR 194 _ ⟨.int, rfl, rfl⟩ dX5_count_194
  replace h := of_iff h c59
  refine g_tsD 15 195 C dX5_count_1 (by decide) rfl rfl (p_lt (lt_s (lt_s (lt_s (lt_s (lt_s (lt_s (lt_s (lt_s (lt_s (lt_s (lt_s (lt_s (lt_s (lt_s (lt_s lt_0 c1) c4) c7) c12) c17) c20) c25) c30) c33) c36) c41) c46) c51) c56) c59)) (by decide) ?_
  refine g_iconst (v := -1) C dX5_count_195 rfl ?_
  cases h
  exact hR 196 _ ⟨.int, rfl, rfl⟩ dX5_count_196
def f_X4_wordsOfAll_4 (M : Mem) : Nat → Nat → Int32 → Int32 → Option Int32
  | 0, _, _, _ => none
  | n + 1, r0, x1, x2 => gdd (kd r0 = 5) <| if (gI M r0 4) ≤ x2 then (some x1) else (obb (f_X4_editionAt r0 x2 M) fun y203 => if y203 = 0 then (bvv (x1 + (0 : Int32)) fun y211 => bvv (x2 + (1 : Int32)) fun y213 => (f_X4_wordsOfAll_4 M n) r0 y211 y213) else (gdd (kd y203 = 1) <| bvv (x1 + (gI M y203 1)) fun y207 => bvv (x2 + (1 : Int32)) fun y209 => (f_X4_wordsOfAll_4 M n) r0 y207 y209))
set_option maxRecDepth 100000 in
set_option maxHeartbeats 4000000 in
theorem t_X4_wordsOfAll_4 {w : Om} {f : Fr} {M : Mem} {r : Int32} (C : Cx w f RX4 cX4_wordsOfAll 4 1) (hR : Rt w f cX4_wordsOfAll (some .int) (some (.int r)) M)   : ∀ (n : Nat) (r0 : Nat) (x1 : Int32) (x2 : Int32), f_X4_wordsOfAll_4 M n r0 x1 x2 = some r → Go w f 4 [some (rv w r0), some (.int x1), some (.int x2), none] [] M := by
  intro n
  induction n with
  | zero =>
    intro r0 x1 x2 h
    cases h
  | succ n ih =>
    intro r0 x1 x2 h
    rw [f_X4_wordsOfAll_4] at h
    refine g_iload_n C dX4_wordsOfAll_4 rfl rfl ?_
    refine g_aload_n C dX4_wordsOfAll_5 rfl rfl ?_
    obtain ⟨g201, h⟩ := of_gdd h
    refine gf_4_4 C fl_RX4_40 g201 dX4_wordsOfAll_6 ?_
    refine g_icmp_ge 39 C dX4_wordsOfAll_9 (by decide) (fun c202 => ?_) (fun c202 => ?_)
    · replace h := of_ift h c202
      refine g_iload_n C dX4_wordsOfAll_39 rfl rfl ?_
      cases h
      exact hR 40 _ ⟨.int, rfl, rfl⟩ dX4_wordsOfAll_40
    · replace h := of_iff h c202
      refine g_aload_n C dX4_wordsOfAll_12 rfl rfl ?_
      refine g_iload_n C dX4_wordsOfAll_13 rfl rfl ?_
      obtain ⟨y203, e204, h⟩ := of_obb h
      refine g_callV (As := [.int x2]) C (ct_X4_editionAt C.wf e204) g201 lk_RX4_47 mi_X4_editionAt (by decide) cs_0 (by decide) dX4_wordsOfAll_14 rfl ?_
      show Go w f 17 [some (rv w r0), some (.int x1), some (.int x2), none] [rv w y203] M
      refine g_astore_n C dX4_wordsOfAll_17 rfl (by decide) rfl (L2 := [some (rv w r0), some (.int x1), some (.int x2), some (rv w y203)]) rfl ?_
      refine g_iload_n C dX4_wordsOfAll_18 rfl rfl ?_
      refine g_aload_n C dX4_wordsOfAll_19 rfl rfl ?_
      refine g_ifnonnull 27 C dX4_wordsOfAll_20 (by decide) (fun c205 => ?_) (fun c205 => ?_)
      · replace h := of_iff h c205
        refine g_aload_n C dX4_wordsOfAll_27 rfl rfl ?_
        obtain ⟨g206, h⟩ := of_gdd h
        refine gf_0_1 C fl_RX4_94 g206 dX4_wordsOfAll_28 ?_
        refine g_iadd C dX4_wordsOfAll_31 ?_
        obtain ⟨y207, e208, h⟩ := of_bvv h
        refine g_topi e208 ?_
        refine g_istore_n C dX4_wordsOfAll_32 rfl (by decide) (rv_cat _ _) (L2 := [some (rv w r0), some (.int y207), some (.int x2), some (rv w y203)]) rfl ?_
        obtain ⟨y209, e210, h⟩ := of_bvv h
        refine g_iinc (v := y209) C dX4_wordsOfAll_33 rfl e210.symm (by decide) rfl (L2 := [some (rv w r0), some (.int y207), some (.int y209), some (rv w y203)]) rfl ?_
        refine g_goto 4 C dX4_wordsOfAll_36 (by decide) ?_
        refine g_mask (bs := [true, true, true, false]) (L2 := [some (rv w r0), some (.int y207), some (.int y209), none]) rfl ?_
        exact ih r0 y207 y209 h
      · replace h := of_ift h c205
        refine g_iconst (v := 0) C dX4_wordsOfAll_23 rfl ?_
        refine g_goto 31 C dX4_wordsOfAll_24 (by decide) ?_
        refine g_iadd C dX4_wordsOfAll_31 ?_
        obtain ⟨y211, e212, h⟩ := of_bvv h
        refine g_topi e212 ?_
        refine g_istore_n C dX4_wordsOfAll_32 rfl (by decide) (rv_cat _ _) (L2 := [some (rv w r0), some (.int y211), some (.int x2), some (rv w y203)]) rfl ?_
        obtain ⟨y213, e214, h⟩ := of_bvv h
        refine g_iinc (v := y213) C dX4_wordsOfAll_33 rfl e214.symm (by decide) rfl (L2 := [some (rv w r0), some (.int y211), some (.int y213), some (rv w y203)]) rfl ?_
        refine g_goto 4 C dX4_wordsOfAll_36 (by decide) ?_
        refine g_mask (bs := [true, true, true, false]) (L2 := [some (rv w r0), some (.int y211), some (.int y213), none]) rfl ?_
        exact ih r0 y211 y213 h
def f_X4_wordsOfAll (r0 : Nat) (M : Mem) : Option Int32 := f_X4_wordsOfAll_4 M FU r0 (0 : Int32) (0 : Int32)
set_option maxRecDepth 100000 in
set_option maxHeartbeats 4000000 in
theorem ct_X4_wordsOfAll {l : Launch} {w : Om} (hw : Wf w) {r0 : Nat}  {M : Mem} {r : Int32} (h : f_X4_wordsOfAll r0 M = some r) : Ct l w yX4_wordsOfAll cX4_wordsOfAll 4 (some .int) 1 [rv w r0] M (some (.int r)) M := by
  refine ct_of hw (by decide) (cat_s (rv_cat _ _) cat_0) (Nat.le_of_ble_eq_true rfl) (fun f _ C hR => ?_)
  show Go w f 0 [some (rv w r0), none, none, none] [] M
  unfold f_X4_wordsOfAll at h
  refine g_iconst (v := 0) C dX4_wordsOfAll_0 rfl ?_
  refine g_istore_n C dX4_wordsOfAll_1 rfl (by decide) (rv_cat _ _) (L2 := [some (rv w r0), some (.int (0 : Int32)), none, none]) rfl ?_
  refine g_iconst (v := 0) C dX4_wordsOfAll_2 rfl ?_
  refine g_istore_n C dX4_wordsOfAll_3 rfl (by decide) rfl (L2 := [some (rv w r0), some (.int (0 : Int32)), some (.int (0 : Int32)), none]) rfl ?_
  exact t_X4_wordsOfAll_4 C hR _ r0 (0 : Int32) (0 : Int32) h
def f_X5_length (r0 : Nat) (M : Mem) : Option UInt64 := gdd (kd r0 = 6) <| gdd (kd (fld r0 0) = 5) <| obb (f_X4_wordsOfAll (fld r0 0) M) fun y3 => obb (f_X4_commasOfAll (fld r0 0) M) fun y5 => bvv (y5 + (gI M (fld r0 0) 4)) fun y7 => if 0 < y7 then (gdd (nN (FP.ddiv (FP.i2d y3) (FP.i2d y7)) = true) <| some (FP.ddiv (FP.i2d y3) (FP.i2d y7))) else (some FP.dconst0)
set_option maxRecDepth 100000 in
set_option maxHeartbeats 4000000 in
theorem ct_X5_length {l : Launch} {w : Om} (hw : Wf w) {r0 : Nat}  {M : Mem} {r : UInt64} (h : f_X5_length r0 M = some r) : Ct l w yX5_length cX5_length 3 (some .double) 2 [rv w r0] M (some (.double r)) M := by
  refine ct_of hw (by decide) (cat_s (rv_cat _ _) cat_0) (Nat.le_of_ble_eq_true rfl) (fun f _ C hR => ?_)
  show Go w f 0 [some (rv w r0), none, none] [] M
  unfold f_X5_length at h
  refine g_aload_n C dX5_length_0 rfl rfl ?_
  obtain ⟨g1, h⟩ := of_gdd h
  refine gf_5_0 C fl_RX5_10 g1 dX5_length_1 ?_
  obtain ⟨g2, h⟩ := of_gdd h
  obtain ⟨y3, e4, h⟩ := of_obb h
  refine g_callV (As := []) C (ct_X4_wordsOfAll C.wf e4) g2 lk_RX5_277 mi_X4_wordsOfAll (by decide) cs_0 (by decide) dX5_length_4 rfl ?_
  show Go w f 7 [some (rv w r0), none, none] [.int y3] M
  refine g_istore_n C dX5_length_7 rfl (by decide) (rv_cat _ _) (L2 := [some (rv w r0), some (.int y3), none]) rfl ?_
  refine g_aload_n C dX5_length_8 rfl rfl ?_
  refine gf_5_0 C fl_RX5_10 g1 dX5_length_9 ?_
  obtain ⟨y5, e6, h⟩ := of_obb h
  refine g_callV (As := []) C (ct_X4_commasOfAll C.wf e6) g2 lk_RX5_268 mi_X4_commasOfAll (by decide) cs_0 (by decide) dX5_length_12 rfl ?_
  show Go w f 15 [some (rv w r0), some (.int y3), none] [.int y5] M
  refine g_aload_n C dX5_length_15 rfl rfl ?_
  refine gf_5_0 C fl_RX5_10 g1 dX5_length_16 ?_
  refine gf_4_4 C fl_RX5_112 g2 dX5_length_19 ?_
  refine g_iadd C dX5_length_22 ?_
  obtain ⟨y7, e8, h⟩ := of_bvv h
  refine g_topi e8 ?_
  refine g_istore_n C dX5_length_23 rfl (by decide) rfl (L2 := [some (rv w r0), some (.int y3), some (.int y7)]) rfl ?_
  refine g_iload_n C dX5_length_24 rfl rfl ?_
  refine g_if_gt 30 C dX5_length_25 (by decide) (fun c9 => ?_) (fun c9 => ?_)
  · replace h := of_ift h c9
    refine g_iload_n C dX5_length_30 rfl rfl ?_
    refine g_i2d C dX5_length_31 ?_
    refine g_iload_n C dX5_length_32 rfl rfl ?_
    refine g_i2d C dX5_length_33 ?_
    obtain ⟨g10, h⟩ := of_gdd h
    refine g_ddiv C dX5_length_34 (nN_use g10) ?_
    cases h
    exact hR 35 _ rfl dX5_length_35
  · replace h := of_iff h c9
    refine g_dconst0 C dX5_length_28 ?_
    cases h
    exact hR 29 _ rfl dX5_length_29
def f_X5_ifRuled_49 (M : Mem) (k18 : Nat → Int32 → Int32 → Int32 → Int32 → Int32 → Int32 → Option Int32) : Nat → Nat → Int32 → Int32 → Int32 → Int32 → Int32 → Int32 → Nat → Int32 → Option Int32
  | 0, _, _, _, _, _, _, _, _, _ => none
  | n + 1, r0, x1, x2, x3, x4, x5, x6, r7, x8 => gdd (kd r7 = 1) <| if ((gI M r7 1) - (1 : Int32)) ≤ x8 then (bvv (x6 + (1 : Int32)) fun y303 => k18 r0 x1 x2 x3 x4 x5 y303) else (obb (f_X0_kindAt r7 x8 M) fun y305 => if y305 = x1 then (obb (f_X0_kindAt r7 (x8 + (1 : Int32)) M) fun y310 => if y310 = x2 then (obb (f_X0_hasComma r7 x8 M) fun y315 => if y315 = x3 then (gdd (kd r0 = 6) <| gdd (kd (fld r0 0) = 5) <| obb (f_X4_fineAt (fld r0 0) r7 x8 M) fun y328 => bvv (x5 + ((0 : Int32) - y328)) fun y330 => bvv (x8 + (1 : Int32)) fun y332 => (f_X5_ifRuled_49 M k18 n) r0 x1 x2 x3 x4 y330 x6 r7 y332) else (gdd (kd r0 = 6) <| gdd (kd (fld r0 0) = 5) <| obb (f_X4_fineAt (fld r0 0) r7 x8 M) fun y320 => bvv (x5 + (x4 - y320)) fun y322 => bvv (x8 + (1 : Int32)) fun y324 => (f_X5_ifRuled_49 M k18 n) r0 x1 x2 x3 x4 y322 x6 r7 y324)) else (bvv (x8 + (1 : Int32)) fun y313 => (f_X5_ifRuled_49 M k18 n) r0 x1 x2 x3 x4 x5 x6 r7 y313)) else (bvv (x8 + (1 : Int32)) fun y308 => (f_X5_ifRuled_49 M k18 n) r0 x1 x2 x3 x4 x5 x6 r7 y308))
set_option maxRecDepth 100000 in
set_option maxHeartbeats 4000000 in
theorem t_X5_ifRuled_49 {w : Om} {f : Fr} {M : Mem} {r : Int32} (C : Cx w f RX5 cX5_ifRuled 10 4) (hR : Rt w f cX5_ifRuled (some .int) (some (.int r)) M) {k18 : Nat → Int32 → Int32 → Int32 → Int32 → Int32 → Int32 → Option Int32} (hk18 : ∀ (r0' : Nat) (x1' : Int32) (x2' : Int32) (x3' : Int32) (x4' : Int32) (x5' : Int32) (x6' : Int32), k18 r0' x1' x2' x3' x4' x5' x6' = some r → Go w f 18 [some (rv w r0'), some (.int x1'), some (.int x2'), some (.int x3'), some (.int x4'), some (.int x5'), some (.int x6'), none, none, none] [] M) : ∀ (n : Nat) (r0 : Nat) (x1 : Int32) (x2 : Int32) (x3 : Int32) (x4 : Int32) (x5 : Int32) (x6 : Int32) (r7 : Nat) (x8 : Int32), f_X5_ifRuled_49 M k18 n r0 x1 x2 x3 x4 x5 x6 r7 x8 = some r → Go w f 49 [some (rv w r0), some (.int x1), some (.int x2), some (.int x3), some (.int x4), some (.int x5), some (.int x6), some (rv w r7), some (.int x8), none] [] M := by
  intro n
  induction n with
  | zero =>
    intro r0 x1 x2 x3 x4 x5 x6 r7 x8 h
    cases h
  | succ n ih =>
    intro r0 x1 x2 x3 x4 x5 x6 r7 x8 h
    rw [f_X5_ifRuled_49] at h
    refine g_iload C dX5_ifRuled_49 rfl ?_
    refine g_aload C dX5_ifRuled_51 rfl ?_
    obtain ⟨g301, h⟩ := of_gdd h
    refine gf_0_1 C fl_RX5_174 g301 dX5_ifRuled_53 ?_
    refine g_iconst (v := 1) C dX5_ifRuled_56 rfl ?_
    refine g_isub C dX5_ifRuled_57 ?_
    refine g_icmp_ge 129 C dX5_ifRuled_58 (by decide) (fun c302 => ?_) (fun c302 => ?_)
    · replace h := of_ift h c302
      obtain ⟨y303, e304, h⟩ := of_bvv h
      refine g_iinc (v := y303) C dX5_ifRuled_129 rfl e304.symm (by decide) rfl (L2 := [some (rv w r0), some (.int x1), some (.int x2), some (.int x3), some (.int x4), some (.int x5), some (.int y303), some (rv w r7), some (.int x8), none]) rfl ?_
      refine g_goto 18 C dX5_ifRuled_132 (by decide) ?_
      refine g_mask (bs := [true, true, true, true, true, true, true, false, false, false]) (L2 := [some (rv w r0), some (.int x1), some (.int x2), some (.int x3), some (.int x4), some (.int x5), some (.int y303), none, none, none]) rfl ?_
      exact hk18 r0 x1 x2 x3 x4 x5 y303 h
    · replace h := of_iff h c302
      refine g_aload C dX5_ifRuled_61 rfl ?_
      refine g_iload C dX5_ifRuled_63 rfl ?_
      obtain ⟨y305, e306, h⟩ := of_obb h
      refine g_callV (As := [.int x8]) C (ct_X0_kindAt C.wf e306) g301 lk_RX5_280 mi_X0_kindAt (by decide) cs_0 (by decide) dX5_ifRuled_65 rfl ?_
      show Go w f 68 [some (rv w r0), some (.int x1), some (.int x2), some (.int x3), some (.int x4), some (.int x5), some (.int x6), some (rv w r7), some (.int x8), none] [.int y305] M
      refine g_iload_n C dX5_ifRuled_68 rfl rfl ?_
      refine g_icmp_ne 123 C dX5_ifRuled_69 (by decide) (fun c307 => ?_) (fun c307 => ?_)
      · replace h := of_iff h c307
        obtain ⟨y308, e309, h⟩ := of_bvv h
        refine g_iinc (v := y308) C dX5_ifRuled_123 rfl e309.symm (by decide) (rv_cat _ _) (L2 := [some (rv w r0), some (.int x1), some (.int x2), some (.int x3), some (.int x4), some (.int x5), some (.int x6), some (rv w r7), some (.int y308), none]) rfl ?_
        refine g_goto 49 C dX5_ifRuled_126 (by decide) ?_
        exact ih r0 x1 x2 x3 x4 x5 x6 r7 y308 h
      · replace h := of_ift h c307
        refine g_aload C dX5_ifRuled_72 rfl ?_
        refine g_iload C dX5_ifRuled_74 rfl ?_
        refine g_iconst (v := 1) C dX5_ifRuled_76 rfl ?_
        refine g_iadd C dX5_ifRuled_77 ?_
        obtain ⟨y310, e311, h⟩ := of_obb h
        refine g_callV (As := [.int (x8 + (1 : Int32))]) C (ct_X0_kindAt C.wf e311) g301 lk_RX5_280 mi_X0_kindAt (by decide) cs_0 (by decide) dX5_ifRuled_78 rfl ?_
        show Go w f 81 [some (rv w r0), some (.int x1), some (.int x2), some (.int x3), some (.int x4), some (.int x5), some (.int x6), some (rv w r7), some (.int x8), none] [.int y310] M
        refine g_iload_n C dX5_ifRuled_81 rfl rfl ?_
        refine g_icmp_ne 123 C dX5_ifRuled_82 (by decide) (fun c312 => ?_) (fun c312 => ?_)
        · replace h := of_iff h c312
          obtain ⟨y313, e314, h⟩ := of_bvv h
          refine g_iinc (v := y313) C dX5_ifRuled_123 rfl e314.symm (by decide) (rv_cat _ _) (L2 := [some (rv w r0), some (.int x1), some (.int x2), some (.int x3), some (.int x4), some (.int x5), some (.int x6), some (rv w r7), some (.int y313), none]) rfl ?_
          refine g_goto 49 C dX5_ifRuled_126 (by decide) ?_
          exact ih r0 x1 x2 x3 x4 x5 x6 r7 y313 h
        · replace h := of_ift h c312
          refine g_aload C dX5_ifRuled_85 rfl ?_
          refine g_iload C dX5_ifRuled_87 rfl ?_
          obtain ⟨y315, e316, h⟩ := of_obb h
          refine g_callV (As := [.int x8]) C (ct_X0_hasComma C.wf e316) g301 lk_RX5_199 mi_X0_hasComma (by decide) cs_0 (by decide) dX5_ifRuled_89 rfl ?_
          show Go w f 92 [some (rv w r0), some (.int x1), some (.int x2), some (.int x3), some (.int x4), some (.int x5), some (.int x6), some (rv w r7), some (.int x8), none] [.int y315] M
          refine g_iload_n C dX5_ifRuled_92 rfl rfl ?_
          refine g_icmp_ne 100 C dX5_ifRuled_93 (by decide) (fun c317 => ?_) (fun c317 => ?_)
          · replace h := of_iff h c317
            refine g_iload C dX5_ifRuled_100 rfl ?_
            refine g_istore C dX5_ifRuled_102 (by decide) rfl (L2 := [some (rv w r0), some (.int x1), some (.int x2), some (.int x3), some (.int x4), some (.int x5), some (.int x6), some (rv w r7), some (.int x8), some (.int x4)]) rfl ?_
            refine g_iload C dX5_ifRuled_104 rfl ?_
            refine g_iload C dX5_ifRuled_106 rfl ?_
            refine g_aload_n C dX5_ifRuled_108 rfl rfl ?_
            obtain ⟨g318, h⟩ := of_gdd h
            refine gf_5_0 C fl_RX5_10 g318 dX5_ifRuled_109 ?_
            refine g_aload C dX5_ifRuled_112 rfl ?_
            refine g_iload C dX5_ifRuled_114 rfl ?_
            obtain ⟨g319, h⟩ := of_gdd h
            obtain ⟨y320, e321, h⟩ := of_obb h
            refine g_callV (As := [rv w r7, .int x8]) C (ct_X4_fineAt C.wf e321) g319 lk_RX5_205 mi_X4_fineAt (by decide) (cs_i (cs_i cs_0)) (by decide) dX5_ifRuled_116 rfl ?_
            show Go w f 119 [some (rv w r0), some (.int x1), some (.int x2), some (.int x3), some (.int x4), some (.int x5), some (.int x6), some (rv w r7), some (.int x8), some (.int x4)] [.int y320, .int x4, .int x5] M
            refine g_isub C dX5_ifRuled_119 ?_
            refine g_iadd C dX5_ifRuled_120 ?_
            obtain ⟨y322, e323, h⟩ := of_bvv h
            refine g_topi e323 ?_
            refine g_istore C dX5_ifRuled_121 (by decide) rfl (L2 := [some (rv w r0), some (.int x1), some (.int x2), some (.int x3), some (.int x4), some (.int y322), some (.int x6), some (rv w r7), some (.int x8), some (.int x4)]) rfl ?_
            obtain ⟨y324, e325, h⟩ := of_bvv h
            refine g_iinc (v := y324) C dX5_ifRuled_123 rfl e325.symm (by decide) (rv_cat _ _) (L2 := [some (rv w r0), some (.int x1), some (.int x2), some (.int x3), some (.int x4), some (.int y322), some (.int x6), some (rv w r7), some (.int y324), some (.int x4)]) rfl ?_
            refine g_goto 49 C dX5_ifRuled_126 (by decide) ?_
            refine g_mask (bs := [true, true, true, true, true, true, true, true, true, false]) (L2 := [some (rv w r0), some (.int x1), some (.int x2), some (.int x3), some (.int x4), some (.int y322), some (.int x6), some (rv w r7), some (.int y324), none]) rfl ?_
            exact ih r0 x1 x2 x3 x4 y322 x6 r7 y324 h
          · replace h := of_ift h c317
            refine g_iconst (v := 0) C dX5_ifRuled_96 rfl ?_
            refine g_goto 102 C dX5_ifRuled_97 (by decide) ?_
            refine g_istore C dX5_ifRuled_102 (by decide) rfl (L2 := [some (rv w r0), some (.int x1), some (.int x2), some (.int x3), some (.int x4), some (.int x5), some (.int x6), some (rv w r7), some (.int x8), some (.int (0 : Int32))]) rfl ?_
            refine g_iload C dX5_ifRuled_104 rfl ?_
            refine g_iload C dX5_ifRuled_106 rfl ?_
            refine g_aload_n C dX5_ifRuled_108 rfl rfl ?_
            obtain ⟨g326, h⟩ := of_gdd h
            refine gf_5_0 C fl_RX5_10 g326 dX5_ifRuled_109 ?_
            refine g_aload C dX5_ifRuled_112 rfl ?_
            refine g_iload C dX5_ifRuled_114 rfl ?_
            obtain ⟨g327, h⟩ := of_gdd h
            obtain ⟨y328, e329, h⟩ := of_obb h
            refine g_callV (As := [rv w r7, .int x8]) C (ct_X4_fineAt C.wf e329) g327 lk_RX5_205 mi_X4_fineAt (by decide) (cs_i (cs_i cs_0)) (by decide) dX5_ifRuled_116 rfl ?_
            show Go w f 119 [some (rv w r0), some (.int x1), some (.int x2), some (.int x3), some (.int x4), some (.int x5), some (.int x6), some (rv w r7), some (.int x8), some (.int (0 : Int32))] [.int y328, .int (0 : Int32), .int x5] M
            refine g_isub C dX5_ifRuled_119 ?_
            refine g_iadd C dX5_ifRuled_120 ?_
            obtain ⟨y330, e331, h⟩ := of_bvv h
            refine g_topi e331 ?_
            refine g_istore C dX5_ifRuled_121 (by decide) rfl (L2 := [some (rv w r0), some (.int x1), some (.int x2), some (.int x3), some (.int x4), some (.int y330), some (.int x6), some (rv w r7), some (.int x8), some (.int (0 : Int32))]) rfl ?_
            obtain ⟨y332, e333, h⟩ := of_bvv h
            refine g_iinc (v := y332) C dX5_ifRuled_123 rfl e333.symm (by decide) (rv_cat _ _) (L2 := [some (rv w r0), some (.int x1), some (.int x2), some (.int x3), some (.int x4), some (.int y330), some (.int x6), some (rv w r7), some (.int y332), some (.int (0 : Int32))]) rfl ?_
            refine g_goto 49 C dX5_ifRuled_126 (by decide) ?_
            refine g_mask (bs := [true, true, true, true, true, true, true, true, true, false]) (L2 := [some (rv w r0), some (.int x1), some (.int x2), some (.int x3), some (.int x4), some (.int y330), some (.int x6), some (rv w r7), some (.int y332), none]) rfl ?_
            exact ih r0 x1 x2 x3 x4 y330 x6 r7 y332 h
def f_X5_ifRuled_18 (M : Mem) : Nat → Nat → Int32 → Int32 → Int32 → Int32 → Int32 → Int32 → Option Int32
  | 0, _, _, _, _, _, _, _ => none
  | n + 1, r0, x1, x2, x3, x4, x5, x6 => gdd (kd r0 = 6) <| gdd (kd (fld r0 0) = 5) <| if (gI M (fld r0 0) 4) ≤ x6 then (some ((1000 : Int32) + x5)) else (obb (f_X4_editionAt (fld r0 0) x6 M) fun y204 => if y204 = 0 then (bvv (x6 + (1 : Int32)) fun y207 => (f_X5_ifRuled_18 M n) r0 x1 x2 x3 x4 x5 y207) else (f_X5_ifRuled_49 M (f_X5_ifRuled_18 M n) FU r0 x1 x2 x3 x4 x5 x6 y204 (0 : Int32)))
set_option maxRecDepth 100000 in
set_option maxHeartbeats 4000000 in
theorem t_X5_ifRuled_18 {w : Om} {f : Fr} {M : Mem} {r : Int32} (C : Cx w f RX5 cX5_ifRuled 10 4) (hR : Rt w f cX5_ifRuled (some .int) (some (.int r)) M)   : ∀ (n : Nat) (r0 : Nat) (x1 : Int32) (x2 : Int32) (x3 : Int32) (x4 : Int32) (x5 : Int32) (x6 : Int32), f_X5_ifRuled_18 M n r0 x1 x2 x3 x4 x5 x6 = some r → Go w f 18 [some (rv w r0), some (.int x1), some (.int x2), some (.int x3), some (.int x4), some (.int x5), some (.int x6), none, none, none] [] M := by
  intro n
  induction n with
  | zero =>
    intro r0 x1 x2 x3 x4 x5 x6 h
    cases h
  | succ n ih =>
    intro r0 x1 x2 x3 x4 x5 x6 h
    rw [f_X5_ifRuled_18] at h
    refine g_iload C dX5_ifRuled_18 rfl ?_
    refine g_aload_n C dX5_ifRuled_20 rfl rfl ?_
    obtain ⟨g201, h⟩ := of_gdd h
    refine gf_5_0 C fl_RX5_10 g201 dX5_ifRuled_21 ?_
    obtain ⟨g202, h⟩ := of_gdd h
    refine gf_4_4 C fl_RX5_112 g202 dX5_ifRuled_24 ?_
    refine g_icmp_ge 135 C dX5_ifRuled_27 (by decide) (fun c203 => ?_) (fun c203 => ?_)
    · replace h := of_ift h c203
      refine g_sipush (v := 1000) C dX5_ifRuled_135 rfl ?_
      refine g_iload C dX5_ifRuled_138 rfl ?_
      refine g_iadd C dX5_ifRuled_140 ?_
      cases h
      exact hR 141 _ ⟨.int, rfl, rfl⟩ dX5_ifRuled_141
    · replace h := of_iff h c203
      refine g_aload_n C dX5_ifRuled_30 rfl rfl ?_
      refine gf_5_0 C fl_RX5_10 g201 dX5_ifRuled_31 ?_
      refine g_iload C dX5_ifRuled_34 rfl ?_
      obtain ⟨y204, e205, h⟩ := of_obb h
      refine g_callV (As := [.int x6]) C (ct_X4_editionAt C.wf e205) g202 lk_RX5_121 mi_X4_editionAt (by decide) cs_0 (by decide) dX5_ifRuled_36 rfl ?_
      show Go w f 39 [some (rv w r0), some (.int x1), some (.int x2), some (.int x3), some (.int x4), some (.int x5), some (.int x6), none, none, none] [rv w y204] M
      refine g_astore C dX5_ifRuled_39 (by decide) rfl (L2 := [some (rv w r0), some (.int x1), some (.int x2), some (.int x3), some (.int x4), some (.int x5), some (.int x6), some (rv w y204), none, none]) rfl ?_
      refine g_aload C dX5_ifRuled_41 rfl ?_
      refine g_ifnull 129 C dX5_ifRuled_43 (by decide) (fun c206 => ?_) (fun c206 => ?_)
      · replace h := of_ift h c206
        obtain ⟨y207, e208, h⟩ := of_bvv h
        refine g_iinc (v := y207) C dX5_ifRuled_129 rfl e208.symm (by decide) rfl (L2 := [some (rv w r0), some (.int x1), some (.int x2), some (.int x3), some (.int x4), some (.int x5), some (.int y207), some (rv w y204), none, none]) rfl ?_
        refine g_goto 18 C dX5_ifRuled_132 (by decide) ?_
        refine g_mask (bs := [true, true, true, true, true, true, true, false, false, false]) (L2 := [some (rv w r0), some (.int x1), some (.int x2), some (.int x3), some (.int x4), some (.int x5), some (.int y207), none, none, none]) rfl ?_
        exact ih r0 x1 x2 x3 x4 x5 y207 h
      · replace h := of_iff h c206
        refine g_iconst (v := 0) C dX5_ifRuled_46 rfl ?_
        refine g_istore C dX5_ifRuled_47 (by decide) (rv_cat _ _) (L2 := [some (rv w r0), some (.int x1), some (.int x2), some (.int x3), some (.int x4), some (.int x5), some (.int x6), some (rv w y204), some (.int (0 : Int32)), none]) rfl ?_
        exact t_X5_ifRuled_49 C hR (fun r0' x1' x2' x3' x4' x5' x6' h => ih r0' x1' x2' x3' x4' x5' x6' h) _ r0 x1 x2 x3 x4 x5 x6 y204 (0 : Int32) h
def f_X5_ifRuled (r0 : Nat) (x1 : Int32) (x2 : Int32) (x3 : Int32) (x4 : Int32) (M : Mem) : Option Int32 := if (f_X5_isAboutKinds x1 x2 x4) = 0 then (some (-1 : Int32)) else (f_X5_ifRuled_18 M FU r0 x1 x2 x3 x4 (0 : Int32) (0 : Int32))
set_option maxRecDepth 100000 in
set_option maxHeartbeats 4000000 in
theorem ct_X5_ifRuled {l : Launch} {w : Om} (hw : Wf w) {r0 : Nat} {x1 : Int32} {x2 : Int32} {x3 : Int32} {x4 : Int32}  {M : Mem} {r : Int32} (h : f_X5_ifRuled r0 x1 x2 x3 x4 M = some r) : Ct l w yX5_ifRuled cX5_ifRuled 10 (some .int) 4 [rv w r0, .int x1, .int x2, .int x3, .int x4] M (some (.int r)) M := by
  refine ct_of hw (by decide) (cat_s (rv_cat _ _) (cat_s rfl (cat_s rfl (cat_s rfl (cat_s rfl cat_0))))) (Nat.le_of_ble_eq_true rfl) (fun f _ C hR => ?_)
  show Go w f 0 [some (rv w r0), some (.int x1), some (.int x2), some (.int x3), some (.int x4), none, none, none, none, none] [] M
  unfold f_X5_ifRuled at h
  refine g_iload_n C dX5_ifRuled_0 rfl rfl ?_
  refine g_iload_n C dX5_ifRuled_1 rfl rfl ?_
  refine g_iload C dX5_ifRuled_2 rfl ?_
  refine g_callS (As := [.int x1, .int x2, .int x4]) C (ct_X5_isAboutKinds C.wf rfl) lk_RX5_70 mi_X5_isAboutKinds (by decide) cs_0 (by decide) dX5_ifRuled_4 rfl ?_
  show Go w f 7 [some (rv w r0), some (.int x1), some (.int x2), some (.int x3), some (.int x4), none, none, none, none, none] [.int (f_X5_isAboutKinds x1 x2 x4)] M
  refine g_if_ne 12 C dX5_ifRuled_7 (by decide) (fun c1 => ?_) (fun c1 => ?_)
  · replace h := of_iff h c1
    refine g_iconst (v := 0) C dX5_ifRuled_12 rfl ?_
    refine g_istore C dX5_ifRuled_13 (by decide) rfl (L2 := [some (rv w r0), some (.int x1), some (.int x2), some (.int x3), some (.int x4), some (.int (0 : Int32)), none, none, none, none]) rfl ?_
    refine g_iconst (v := 0) C dX5_ifRuled_15 rfl ?_
    refine g_istore C dX5_ifRuled_16 (by decide) rfl (L2 := [some (rv w r0), some (.int x1), some (.int x2), some (.int x3), some (.int x4), some (.int (0 : Int32)), some (.int (0 : Int32)), none, none, none]) rfl ?_
    exact t_X5_ifRuled_18 C hR _ r0 x1 x2 x3 x4 (0 : Int32) (0 : Int32) h
  · replace h := of_ift h c1
    refine g_iconst (v := -1) C dX5_ifRuled_10 rfl ?_
    cases h
    exact hR 11 _ ⟨.int, rfl, rfl⟩ dX5_ifRuled_11
def f_X5_bestSuit_36 : Nat → Nat → Nat → Int32 → Int32 → Int32 → Mem → Option (Int32 × Mem)
  | 0, _, _, _, _, _, _ => none
  | n + 1, r0, r2, x3, x4, x5, M => gdd (kd r2 = 1) <| if ((gI M r2 1) - (1 : Int32)) ≤ x5 then (some (x3, M)) else (gdd (kd r0 = 6) <| obb (f_X0_movedCommas r2 x5 M) fun y204 => gdd (kd (fld r0 5) = 4) <| obb (f_X3_cost (fld r0 5) y204 M) fun y207 => if x3 = (-4 : Int32) then (obb (f_X5_reasonAgainst r0 r2 x5 M) fun y210 => if y210 = 0 then (bvv (x5 + (1 : Int32)) fun y215 => (f_X5_bestSuit_36 n) r0 r2 x5 y207 y215 M) else (bvv (x5 + (1 : Int32)) fun y213 => (f_X5_bestSuit_36 n) r0 r2 x3 x4 y213 M)) else (if x4 ≤ y207 then (bvv (x5 + (1 : Int32)) fun y218 => (f_X5_bestSuit_36 n) r0 r2 x3 x4 y218 M) else (obb (f_X5_reasonAgainst r0 r2 x5 M) fun y220 => if y220 = 0 then (bvv (x5 + (1 : Int32)) fun y225 => (f_X5_bestSuit_36 n) r0 r2 x5 y207 y225 M) else (bvv (x5 + (1 : Int32)) fun y223 => (f_X5_bestSuit_36 n) r0 r2 x3 x4 y223 M))))
set_option maxRecDepth 100000 in
set_option maxHeartbeats 4000000 in
theorem t_X5_bestSuit_36 {w : Om} {f : Fr} {r : Int32} {M2 : Mem} (C : Cx w f RX5 cX5_bestSuit 7 5) (hR : Rt w f cX5_bestSuit (some .int) (some (.int r)) M2)   : ∀ (n : Nat) (r0 : Nat) (r2 : Nat) (x3 : Int32) (x4 : Int32) (x5 : Int32) (M : Mem), f_X5_bestSuit_36 n r0 r2 x3 x4 x5 M = some (r, M2) → Go w f 36 [some (rv w r0), none, some (rv w r2), some (.int x3), some (.int x4), some (.int x5), none] [] M := by
  intro n
  induction n with
  | zero =>
    intro r0 r2 x3 x4 x5 M h
    cases h
  | succ n ih =>
    intro r0 r2 x3 x4 x5 M h
    rw [f_X5_bestSuit_36] at h
    refine g_iload C dX5_bestSuit_36 rfl ?_
    refine g_aload_n C dX5_bestSuit_38 rfl rfl ?_
    obtain ⟨g201, h⟩ := of_gdd h
    refine gf_0_1 C fl_RX5_174 g201 dX5_bestSuit_39 ?_
    refine g_iconst (v := 1) C dX5_bestSuit_42 rfl ?_
    refine g_isub C dX5_bestSuit_43 ?_
    refine g_icmp_ge 98 C dX5_bestSuit_44 (by decide) (fun c202 => ?_) (fun c202 => ?_)
    · replace h := of_ift h c202
      refine g_iload_n C dX5_bestSuit_98 rfl rfl ?_
      cases h
      exact hR 99 _ ⟨.int, rfl, rfl⟩ dX5_bestSuit_99
    · replace h := of_iff h c202
      refine g_aload_n C dX5_bestSuit_47 rfl rfl ?_
      obtain ⟨g203, h⟩ := of_gdd h
      refine gf_5_5 C fl_RX5_40 g203 dX5_bestSuit_48 ?_
      refine g_aload_n C dX5_bestSuit_51 rfl rfl ?_
      refine g_iload C dX5_bestSuit_52 rfl ?_
      obtain ⟨y204, e205, h⟩ := of_obb h
      refine g_callV (As := [.int x5]) C (ct_X0_movedCommas C.wf e205) g201 lk_RX5_208 mi_X0_movedCommas (by decide) (cs_r cs_0) (by decide) dX5_bestSuit_54 rfl ?_
      show Go w f 57 [some (rv w r0), none, some (rv w r2), some (.int x3), some (.int x4), some (.int x5), none] [.int y204, rv w (fld r0 5)] M
      obtain ⟨g206, h⟩ := of_gdd h
      obtain ⟨y207, e208, h⟩ := of_obb h
      refine g_callV (As := [.int y204]) C (ct_X3_cost C.wf e208) g206 lk_RX5_189 mi_X3_cost (by decide) cs_0 (by decide) dX5_bestSuit_57 rfl ?_
      show Go w f 60 [some (rv w r0), none, some (rv w r2), some (.int x3), some (.int x4), some (.int x5), none] [.int y207] M
      refine g_istore C dX5_bestSuit_60 (by decide) rfl (L2 := [some (rv w r0), none, some (rv w r2), some (.int x3), some (.int x4), some (.int x5), some (.int y207)]) rfl ?_
      refine g_iload_n C dX5_bestSuit_62 rfl rfl ?_
      refine g_bipush (v := -4) C dX5_bestSuit_63 rfl ?_
      refine g_icmp_eq 75 C dX5_bestSuit_65 (by decide) (fun c209 => ?_) (fun c209 => ?_)
      · replace h := of_ift h c209
        refine g_aload_n C dX5_bestSuit_75 rfl rfl ?_
        refine g_aload_n C dX5_bestSuit_76 rfl rfl ?_
        refine g_iload C dX5_bestSuit_77 rfl ?_
        obtain ⟨y210, e211, h⟩ := of_obb h
        refine g_callV (As := [rv w r2, .int x5]) C (ct_X5_reasonAgainst C.wf e211) g203 lk_RX5_238 mi_X5_reasonAgainst (by decide) cs_0 (by decide) dX5_bestSuit_79 rfl ?_
        show Go w f 82 [some (rv w r0), none, some (rv w r2), some (.int x3), some (.int x4), some (.int x5), some (.int y207)] [.int y210] M
        refine g_if_ne 92 C dX5_bestSuit_82 (by decide) (fun c212 => ?_) (fun c212 => ?_)
        · replace h := of_iff h c212
          obtain ⟨y213, e214, h⟩ := of_bvv h
          refine g_iinc (v := y213) C dX5_bestSuit_92 rfl e214.symm (by decide) rfl (L2 := [some (rv w r0), none, some (rv w r2), some (.int x3), some (.int x4), some (.int y213), some (.int y207)]) rfl ?_
          refine g_goto 36 C dX5_bestSuit_95 (by decide) ?_
          refine g_mask (bs := [true, false, true, true, true, true, false]) (L2 := [some (rv w r0), none, some (rv w r2), some (.int x3), some (.int x4), some (.int y213), none]) rfl ?_
          exact ih r0 r2 x3 x4 y213 M h
        · replace h := of_ift h c212
          refine g_iload C dX5_bestSuit_85 rfl ?_
          refine g_istore_n C dX5_bestSuit_87 rfl (by decide) (rv_cat _ _) (L2 := [some (rv w r0), none, some (rv w r2), some (.int x5), some (.int x4), some (.int x5), some (.int y207)]) rfl ?_
          refine g_iload C dX5_bestSuit_88 rfl ?_
          refine g_istore C dX5_bestSuit_90 (by decide) rfl (L2 := [some (rv w r0), none, some (rv w r2), some (.int x5), some (.int y207), some (.int x5), some (.int y207)]) rfl ?_
          obtain ⟨y215, e216, h⟩ := of_bvv h
          refine g_iinc (v := y215) C dX5_bestSuit_92 rfl e216.symm (by decide) rfl (L2 := [some (rv w r0), none, some (rv w r2), some (.int x5), some (.int y207), some (.int y215), some (.int y207)]) rfl ?_
          refine g_goto 36 C dX5_bestSuit_95 (by decide) ?_
          refine g_mask (bs := [true, false, true, true, true, true, false]) (L2 := [some (rv w r0), none, some (rv w r2), some (.int x5), some (.int y207), some (.int y215), none]) rfl ?_
          exact ih r0 r2 x5 y207 y215 M h
      · replace h := of_iff h c209
        refine g_iload C dX5_bestSuit_68 rfl ?_
        refine g_iload C dX5_bestSuit_70 rfl ?_
        refine g_icmp_ge 92 C dX5_bestSuit_72 (by decide) (fun c217 => ?_) (fun c217 => ?_)
        · replace h := of_ift h c217
          obtain ⟨y218, e219, h⟩ := of_bvv h
          refine g_iinc (v := y218) C dX5_bestSuit_92 rfl e219.symm (by decide) rfl (L2 := [some (rv w r0), none, some (rv w r2), some (.int x3), some (.int x4), some (.int y218), some (.int y207)]) rfl ?_
          refine g_goto 36 C dX5_bestSuit_95 (by decide) ?_
          refine g_mask (bs := [true, false, true, true, true, true, false]) (L2 := [some (rv w r0), none, some (rv w r2), some (.int x3), some (.int x4), some (.int y218), none]) rfl ?_
          exact ih r0 r2 x3 x4 y218 M h
        · replace h := of_iff h c217
          refine g_aload_n C dX5_bestSuit_75 rfl rfl ?_
          refine g_aload_n C dX5_bestSuit_76 rfl rfl ?_
          refine g_iload C dX5_bestSuit_77 rfl ?_
          obtain ⟨y220, e221, h⟩ := of_obb h
          refine g_callV (As := [rv w r2, .int x5]) C (ct_X5_reasonAgainst C.wf e221) g203 lk_RX5_238 mi_X5_reasonAgainst (by decide) cs_0 (by decide) dX5_bestSuit_79 rfl ?_
          show Go w f 82 [some (rv w r0), none, some (rv w r2), some (.int x3), some (.int x4), some (.int x5), some (.int y207)] [.int y220] M
          refine g_if_ne 92 C dX5_bestSuit_82 (by decide) (fun c222 => ?_) (fun c222 => ?_)
          · replace h := of_iff h c222
            obtain ⟨y223, e224, h⟩ := of_bvv h
            refine g_iinc (v := y223) C dX5_bestSuit_92 rfl e224.symm (by decide) rfl (L2 := [some (rv w r0), none, some (rv w r2), some (.int x3), some (.int x4), some (.int y223), some (.int y207)]) rfl ?_
            refine g_goto 36 C dX5_bestSuit_95 (by decide) ?_
            refine g_mask (bs := [true, false, true, true, true, true, false]) (L2 := [some (rv w r0), none, some (rv w r2), some (.int x3), some (.int x4), some (.int y223), none]) rfl ?_
            exact ih r0 r2 x3 x4 y223 M h
          · replace h := of_ift h c222
            refine g_iload C dX5_bestSuit_85 rfl ?_
            refine g_istore_n C dX5_bestSuit_87 rfl (by decide) (rv_cat _ _) (L2 := [some (rv w r0), none, some (rv w r2), some (.int x5), some (.int x4), some (.int x5), some (.int y207)]) rfl ?_
            refine g_iload C dX5_bestSuit_88 rfl ?_
            refine g_istore C dX5_bestSuit_90 (by decide) rfl (L2 := [some (rv w r0), none, some (rv w r2), some (.int x5), some (.int y207), some (.int x5), some (.int y207)]) rfl ?_
            obtain ⟨y225, e226, h⟩ := of_bvv h
            refine g_iinc (v := y225) C dX5_bestSuit_92 rfl e226.symm (by decide) rfl (L2 := [some (rv w r0), none, some (rv w r2), some (.int x5), some (.int y207), some (.int y225), some (.int y207)]) rfl ?_
            refine g_goto 36 C dX5_bestSuit_95 (by decide) ?_
            refine g_mask (bs := [true, false, true, true, true, true, false]) (L2 := [some (rv w r0), none, some (rv w r2), some (.int x5), some (.int y207), some (.int y225), none]) rfl ?_
            exact ih r0 r2 x5 y207 y225 M h
def f_X5_bestSuit (r0 : Nat) (x1 : Int32) (M : Mem) : Option (Int32 × Mem) := gdd (kd r0 = 6) <| gdd (kd (fld r0 0) = 5) <| obb (f_X4_editionAt (fld r0 0) x1 M) fun y3 => if y3 = 0 then (some ((-1 : Int32), M)) else (gdd (kd (fld r0 5) = 4) <| obb (f_X3_read (fld r0 5) (fld r0 0) y3 M) fun M7 => f_X5_bestSuit_36 FU r0 y3 (-4 : Int32) (0 : Int32) (0 : Int32) M7)
set_option maxRecDepth 100000 in
set_option maxHeartbeats 4000000 in
theorem ct_X5_bestSuit {l : Launch} {w : Om} (hw : Wf w) {r0 : Nat} {x1 : Int32} {M : Mem} {r : Int32} {M2 : Mem} (h : f_X5_bestSuit r0 x1 M = some (r, M2)) : Ct l w yX5_bestSuit cX5_bestSuit 7 (some .int) 5 [rv w r0, .int x1] M (some (.int r)) M2 := by
  refine ct_of hw (by decide) (cat_s (rv_cat _ _) (cat_s rfl cat_0)) (Nat.le_of_ble_eq_true rfl) (fun f _ C hR => ?_)
  show Go w f 0 [some (rv w r0), some (.int x1), none, none, none, none, none] [] M
  unfold f_X5_bestSuit at h
  refine g_aload_n C dX5_bestSuit_0 rfl rfl ?_
  obtain ⟨g1, h⟩ := of_gdd h
  refine gf_5_0 C fl_RX5_10 g1 dX5_bestSuit_1 ?_
  refine g_iload_n C dX5_bestSuit_4 rfl rfl ?_
  obtain ⟨g2, h⟩ := of_gdd h
  obtain ⟨y3, e4, h⟩ := of_obb h
  refine g_callV (As := [.int x1]) C (ct_X4_editionAt C.wf e4) g2 lk_RX5_121 mi_X4_editionAt (by decide) cs_0 (by decide) dX5_bestSuit_5 rfl ?_
  show Go w f 8 [some (rv w r0), some (.int x1), none, none, none, none, none] [rv w y3] M
  refine g_astore_n C dX5_bestSuit_8 rfl (by decide) rfl (L2 := [some (rv w r0), some (.int x1), some (rv w y3), none, none, none, none]) rfl ?_
  refine g_aload_n C dX5_bestSuit_9 rfl rfl ?_
  refine g_ifnonnull 15 C dX5_bestSuit_10 (by decide) (fun c5 => ?_) (fun c5 => ?_)
  · replace h := of_iff h c5
    refine g_aload_n C dX5_bestSuit_15 rfl rfl ?_
    refine gf_5_5 C fl_RX5_40 g1 dX5_bestSuit_16 ?_
    refine g_aload_n C dX5_bestSuit_19 rfl rfl ?_
    refine gf_5_0 C fl_RX5_10 g1 dX5_bestSuit_20 ?_
    refine g_aload_n C dX5_bestSuit_23 rfl rfl ?_
    obtain ⟨g6, h⟩ := of_gdd h
    obtain ⟨M7, e8, h⟩ := of_obb h
    refine g_callV (As := [rv w (fld r0 0), rv w y3]) C (ct_X3_read C.wf e8) g6 lk_RX5_170 mi_X3_read (by decide) cs_0 (by decide) dX5_bestSuit_24 rfl ?_
    show Go w f 27 [some (rv w r0), some (.int x1), some (rv w y3), none, none, none, none] [] M7
    refine g_bipush (v := -4) C dX5_bestSuit_27 rfl ?_
    refine g_istore_n C dX5_bestSuit_29 rfl (by decide) (rv_cat _ _) (L2 := [some (rv w r0), some (.int x1), some (rv w y3), some (.int (-4 : Int32)), none, none, none]) rfl ?_
    refine g_iconst (v := 0) C dX5_bestSuit_30 rfl ?_
    refine g_istore C dX5_bestSuit_31 (by decide) rfl (L2 := [some (rv w r0), some (.int x1), some (rv w y3), some (.int (-4 : Int32)), some (.int (0 : Int32)), none, none]) rfl ?_
    refine g_iconst (v := 0) C dX5_bestSuit_33 rfl ?_
    refine g_istore C dX5_bestSuit_34 (by decide) rfl (L2 := [some (rv w r0), some (.int x1), some (rv w y3), some (.int (-4 : Int32)), some (.int (0 : Int32)), some (.int (0 : Int32)), none]) rfl ?_
    refine g_mask (bs := [true, false, true, true, true, true, false]) (L2 := [some (rv w r0), none, some (rv w y3), some (.int (-4 : Int32)), some (.int (0 : Int32)), some (.int (0 : Int32)), none]) rfl ?_
    exact t_X5_bestSuit_36 C hR _ r0 y3 (-4 : Int32) (0 : Int32) (0 : Int32) M7 h
  · replace h := of_ift h c5
    refine g_iconst (v := -1) C dX5_bestSuit_13 rfl ?_
    cases h
    exact hR 14 _ ⟨.int, rfl, rfl⟩ dX5_bestSuit_14
def f_X5_stateAt (r0 : Nat) (x1 : Int32) (M : Mem) : Option Nat := if x1 < 0 then (some 0) else (gdd (kd r0 = 6) <| if (gI M r0 7) ≤ x1 then (some 0) else (gdd (kd (fld r0 2) = 11) <| if (nI (ln (fld r0 2))) ≤ x1 then (some 0) else (gdd (inb x1 (ln (fld r0 2)) = true) <| some (gH M (x1).toNatClampNeg))))
set_option maxRecDepth 100000 in
set_option maxHeartbeats 4000000 in
theorem ct_X5_stateAt {l : Launch} {w : Om} (hw : Wf w) {r0 : Nat} {x1 : Int32}  {M : Mem} {r : Nat} (h : f_X5_stateAt r0 x1 M = some r) : Ct l w yX5_stateAt cX5_stateAt 2 (some (.object "CommaCourt$State")) 0 [rv w r0, .int x1] M (some (rv w r)) M := by
  refine ct_of hw (by decide) (cat_s (rv_cat _ _) (cat_s rfl cat_0)) (Nat.le_of_ble_eq_true rfl) (fun f _ C hR => ?_)
  show Go w f 0 [some (rv w r0), some (.int x1)] [] M
  unfold f_X5_stateAt at h
  refine g_iload_n C dX5_stateAt_0 rfl rfl ?_
  refine g_if_lt 30 C dX5_stateAt_1 (by decide) (fun c1 => ?_) (fun c1 => ?_)
  · replace h := of_ift h c1
    refine g_null C dX5_stateAt_30 ?_
    cases h
    exact RtA_use hR 31 _ (Or.inl ⟨_, rfl⟩) dX5_stateAt_31
  · replace h := of_iff h c1
    refine g_iload_n C dX5_stateAt_4 rfl rfl ?_
    refine g_aload_n C dX5_stateAt_5 rfl rfl ?_
    obtain ⟨g2, h⟩ := of_gdd h
    refine gf_5_7 C fl_RX5_274 g2 dX5_stateAt_6 ?_
    refine g_icmp_ge 30 C dX5_stateAt_9 (by decide) (fun c3 => ?_) (fun c3 => ?_)
    · replace h := of_ift h c3
      refine g_null C dX5_stateAt_30 ?_
      cases h
      exact RtA_use hR 31 _ (Or.inl ⟨_, rfl⟩) dX5_stateAt_31
    · replace h := of_iff h c3
      refine g_iload_n C dX5_stateAt_12 rfl rfl ?_
      refine g_aload_n C dX5_stateAt_13 rfl rfl ?_
      refine gf_5_2 C fl_RX5_19 g2 dX5_stateAt_14 ?_
      obtain ⟨g4, h⟩ := of_gdd h
      refine g_alen C (Or.inr (Or.inr (Or.inr g4))) dX5_stateAt_17 ?_
      refine g_icmp_ge 30 C dX5_stateAt_18 (by decide) (fun c5 => ?_) (fun c5 => ?_)
      · replace h := of_ift h c5
        refine g_null C dX5_stateAt_30 ?_
        cases h
        exact RtA_use hR 31 _ (Or.inl ⟨_, rfl⟩) dX5_stateAt_31
      · replace h := of_iff h c5
        refine g_aload_n C dX5_stateAt_21 rfl rfl ?_
        refine gf_5_2 C fl_RX5_19 g2 dX5_stateAt_22 ?_
        refine g_iload_n C dX5_stateAt_25 rfl rfl ?_
        obtain ⟨g6, h⟩ := of_gdd h
        refine g_aalds C g4 g6 dX5_stateAt_26 ?_
        refine g_goto 31 C dX5_stateAt_27 (by decide) ?_
        cases h
        exact RtA_use hR 31 _ (Or.inl ⟨_, rfl⟩) dX5_stateAt_31
def f_X5_undo (r0 : Nat) (M : Mem) : Option (Int32 × Mem) := gdd (kd r0 = 6) <| obb (f_X5_stateAt r0 ((gI M r0 7) - (1 : Int32)) M) fun y2 => if y2 = 0 then (some ((-2 : Int32), M)) else (gdd (kd (fld r0 0) = 5) <| obb (f_X4_copyFrom (fld r0 0) y2 M) fun M6 => bvv (sI M6 r0 7 ((gI M6 r0 7) - (1 : Int32))) fun M8 => some (gI M8 r0 7, M8))
set_option maxRecDepth 100000 in
set_option maxHeartbeats 4000000 in
theorem ct_X5_undo {l : Launch} {w : Om} (hw : Wf w) {r0 : Nat} {M : Mem} {r : Int32} {M2 : Mem} (h : f_X5_undo r0 M = some (r, M2)) : Ct l w yX5_undo cX5_undo 2 (some .int) 4 [rv w r0] M (some (.int r)) M2 := by
  refine ct_of hw (by decide) (cat_s (rv_cat _ _) cat_0) (Nat.le_of_ble_eq_true rfl) (fun f _ C hR => ?_)
  show Go w f 0 [some (rv w r0), none] [] M
  unfold f_X5_undo at h
  refine g_aload_n C dX5_undo_0 rfl rfl ?_
  refine g_aload_n C dX5_undo_1 rfl rfl ?_
  obtain ⟨g1, h⟩ := of_gdd h
  refine gf_5_7 C fl_RX5_274 g1 dX5_undo_2 ?_
  refine g_iconst (v := 1) C dX5_undo_5 rfl ?_
  refine g_isub C dX5_undo_6 ?_
  obtain ⟨y2, e3, h⟩ := of_obb h
  refine g_callV (As := [.int ((gI M r0 7) - (1 : Int32))]) C (ct_X5_stateAt C.wf e3) g1 lk_RX5_283 mi_X5_stateAt (by decide) cs_0 (by decide) dX5_undo_7 rfl ?_
  show Go w f 10 [some (rv w r0), none] [rv w y2] M
  refine g_astore_n C dX5_undo_10 rfl (by decide) (rv_cat _ _) (L2 := [some (rv w r0), some (rv w y2)]) rfl ?_
  refine g_aload_n C dX5_undo_11 rfl rfl ?_
  refine g_ifnonnull 18 C dX5_undo_12 (by decide) (fun c4 => ?_) (fun c4 => ?_)
  · replace h := of_iff h c4
    refine g_aload_n C dX5_undo_18 rfl rfl ?_
    refine gf_5_0 C fl_RX5_10 g1 dX5_undo_19 ?_
    refine g_aload_n C dX5_undo_22 rfl rfl ?_
    obtain ⟨g5, h⟩ := of_gdd h
    obtain ⟨M6, e7, h⟩ := of_obb h
    refine g_callV (As := [rv w y2]) C (ct_X4_copyFrom C.wf e7) g5 lk_RX5_287 mi_X4_copyFrom (by decide) cs_0 (by decide) dX5_undo_23 rfl ?_
    show Go w f 26 [some (rv w r0), some (rv w y2)] [] M6
    refine g_aload_n C dX5_undo_26 rfl rfl ?_
    refine g_dup C (rv_cat _ _) dX5_undo_27 ?_
    refine gf_5_7 C fl_RX5_274 g1 dX5_undo_28 ?_
    refine g_iconst (v := 1) C dX5_undo_31 rfl ?_
    refine g_isub C dX5_undo_32 ?_
    refine pf_5_7 C fl_RX5_274 g1 dX5_undo_33 ?_
    obtain ⟨M8, e9, h⟩ := of_bvv h
    refine g_mem e9 ?_
    refine g_aload_n C dX5_undo_36 rfl rfl ?_
    refine gf_5_7 C fl_RX5_274 g1 dX5_undo_37 ?_
    cases h
    exact hR 40 _ ⟨.int, rfl, rfl⟩ dX5_undo_40
  · replace h := of_ift h c4
    refine g_bipush (v := -2) C dX5_undo_15 rfl ?_
    cases h
    exact hR 17 _ ⟨.int, rfl, rfl⟩ dX5_undo_17
def f_X5_save (r0 : Nat) (M : Mem) : Option (Int32 × Mem) := gdd (kd r0 = 6) <| gdd (kd (fld r0 1) = 5) <| obb (f_X4_copyFrom (fld r0 1) (fld r0 0) M) fun M3 => bvv (sI M3 r0 6 (1 : Int32)) fun M5 => gdd (kd (fld r0 0) = 5) <| some (gI M5 (fld r0 0) 4, M5)
set_option maxRecDepth 100000 in
set_option maxHeartbeats 4000000 in
theorem ct_X5_save {l : Launch} {w : Om} (hw : Wf w) {r0 : Nat} {M : Mem} {r : Int32} {M2 : Mem} (h : f_X5_save r0 M = some (r, M2)) : Ct l w yX5_save cX5_save 1 (some .int) 4 [rv w r0] M (some (.int r)) M2 := by
  refine ct_of hw (by decide) (cat_s (rv_cat _ _) cat_0) (Nat.le_of_ble_eq_true rfl) (fun f _ C hR => ?_)
  show Go w f 0 [some (rv w r0)] [] M
  unfold f_X5_save at h
  refine g_aload_n C dX5_save_0 rfl rfl ?_
  obtain ⟨g1, h⟩ := of_gdd h
  refine gf_5_1 C fl_RX5_16 g1 dX5_save_1 ?_
  refine g_aload_n C dX5_save_4 rfl rfl ?_
  refine gf_5_0 C fl_RX5_10 g1 dX5_save_5 ?_
  obtain ⟨g2, h⟩ := of_gdd h
  obtain ⟨M3, e4, h⟩ := of_obb h
  refine g_callV (As := [rv w (fld r0 0)]) C (ct_X4_copyFrom C.wf e4) g2 lk_RX5_287 mi_X4_copyFrom (by decide) cs_0 (by decide) dX5_save_8 rfl ?_
  show Go w f 11 [some (rv w r0)] [] M3
  refine g_aload_n C dX5_save_11 rfl rfl ?_
  refine g_iconst (v := 1) C dX5_save_12 rfl ?_
  refine pf_5_6 C fl_RX5_291 g1 (isb_1) dX5_save_13 ?_
  obtain ⟨M5, e6, h⟩ := of_bvv h
  refine g_mem e6 ?_
  refine g_aload_n C dX5_save_16 rfl rfl ?_
  refine gf_5_0 C fl_RX5_10 g1 dX5_save_17 ?_
  obtain ⟨g7, h⟩ := of_gdd h
  refine gf_4_4 C fl_RX5_112 g7 dX5_save_20 ?_
  cases h
  exact hR 23 _ ⟨.int, rfl, rfl⟩ dX5_save_23
def f_X5_restore (r0 : Nat) (M : Mem) : Option (Int32 × Mem) := gdd (kd r0 = 6) <| if (gI M r0 6) = 0 then (some ((-2 : Int32), M)) else (obb (f_X5_keepState r0 M) fun M3 => gdd (kd (fld r0 0) = 5) <| obb (f_X4_copyFrom (fld r0 0) (fld r0 1) M3) fun M6 => some (gI M6 (fld r0 0) 4, M6))
set_option maxRecDepth 100000 in
set_option maxHeartbeats 4000000 in
theorem ct_X5_restore {l : Launch} {w : Om} (hw : Wf w) {r0 : Nat} {M : Mem} {r : Int32} {M2 : Mem} (h : f_X5_restore r0 M = some (r, M2)) : Ct l w yX5_restore cX5_restore 1 (some .int) 5 [rv w r0] M (some (.int r)) M2 := by
  refine ct_of hw (by decide) (cat_s (rv_cat _ _) cat_0) (Nat.le_of_ble_eq_true rfl) (fun f _ C hR => ?_)
  show Go w f 0 [some (rv w r0)] [] M
  unfold f_X5_restore at h
  refine g_aload_n C dX5_restore_0 rfl rfl ?_
  obtain ⟨g1, h⟩ := of_gdd h
  refine gf_5_6 C fl_RX5_291 g1 dX5_restore_1 ?_
  refine g_if_ne 10 C dX5_restore_4 (by decide) (fun c2 => ?_) (fun c2 => ?_)
  · replace h := of_iff h c2
    refine g_aload_n C dX5_restore_10 rfl rfl ?_
    obtain ⟨M3, e4, h⟩ := of_obb h
    refine g_callV (As := []) C (ct_X5_keepState C.wf e4) g1 lk_RX5_52 mi_X5_keepState (by decide) cs_0 (by decide) dX5_restore_11 rfl ?_
    show Go w f 14 [some (rv w r0)] [] M3
    refine g_aload_n C dX5_restore_14 rfl rfl ?_
    refine gf_5_0 C fl_RX5_10 g1 dX5_restore_15 ?_
    refine g_aload_n C dX5_restore_18 rfl rfl ?_
    refine gf_5_1 C fl_RX5_16 g1 dX5_restore_19 ?_
    obtain ⟨g5, h⟩ := of_gdd h
    obtain ⟨M6, e7, h⟩ := of_obb h
    refine g_callV (As := [rv w (fld r0 1)]) C (ct_X4_copyFrom C.wf e7) g5 lk_RX5_287 mi_X4_copyFrom (by decide) cs_0 (by decide) dX5_restore_22 rfl ?_
    show Go w f 25 [some (rv w r0)] [] M6
    refine g_aload_n C dX5_restore_25 rfl rfl ?_
    refine gf_5_0 C fl_RX5_10 g1 dX5_restore_26 ?_
    refine gf_4_4 C fl_RX5_112 g5 dX5_restore_29 ?_
    cases h
    exact hR 32 _ ⟨.int, rfl, rfl⟩ dX5_restore_32
  · replace h := of_ift h c2
    refine g_bipush (v := -2) C dX5_restore_7 rfl ?_
    cases h
    exact hR 9 _ ⟨.int, rfl, rfl⟩ dX5_restore_9
def f_X6_in (x0 : Int32) (x1 : Int32) (x2 : Int32) : Int32 := if x0 < x1 then ((0 : Int32)) else (if x2 < x0 then ((0 : Int32)) else ((1 : Int32)))
set_option maxRecDepth 100000 in
set_option maxHeartbeats 4000000 in
theorem ct_X6_in {l : Launch} {w : Om} (hw : Wf w) {x0 : Int32} {x1 : Int32} {x2 : Int32}  {M : Mem} {r : Int32} (h : f_X6_in x0 x1 x2 = r) : Ct l w yX6_in cX6_in 3 (some .boolean) 0 [.int x0, .int x1, .int x2] M (some (.int r)) M := by
  refine ct_of hw (by decide) (cat_s rfl (cat_s rfl (cat_s rfl cat_0))) (Nat.le_of_ble_eq_true rfl) (fun f _ C hR => ?_)
  show Go w f 0 [some (.int x0), some (.int x1), some (.int x2)] [] M
  unfold f_X6_in at h
  refine g_iload_n C dX6_in_0 rfl rfl ?_
  refine g_iload_n C dX6_in_1 rfl rfl ?_
  refine g_icmp_lt 14 C dX6_in_2 (by decide) (fun c1 => ?_) (fun c1 => ?_)
  · replace h := of_ift h c1
    refine g_iconst (v := 0) C dX6_in_14 rfl ?_
    cases h
    exact hR 15 _ ⟨.boolean, rfl, rfl⟩ dX6_in_15
  · replace h := of_iff h c1
    refine g_iload_n C dX6_in_5 rfl rfl ?_
    refine g_iload_n C dX6_in_6 rfl rfl ?_
    refine g_icmp_gt 14 C dX6_in_7 (by decide) (fun c2 => ?_) (fun c2 => ?_)
    · replace h := of_ift h c2
      refine g_iconst (v := 0) C dX6_in_14 rfl ?_
      cases h
      exact hR 15 _ ⟨.boolean, rfl, rfl⟩ dX6_in_15
    · replace h := of_iff h c2
      refine g_iconst (v := 1) C dX6_in_10 rfl ?_
      refine g_goto 15 C dX6_in_11 (by decide) ?_
      cases h
      exact hR 15 _ ⟨.boolean, rfl, rfl⟩ dX6_in_15
theorem zb_X6_in (x0 x1 x2 : Int32) : isb (f_X6_in x0 x1 x2) = true := by
  unfold f_X6_in
  repeat' split
  all_goals first | decide
def f_X6_isKind (x0 : Int32) : Int32 := f_X6_in x0 (0 : Int32) (5 : Int32)
set_option maxRecDepth 100000 in
set_option maxHeartbeats 4000000 in
theorem ct_X6_isKind {l : Launch} {w : Om} (hw : Wf w) {x0 : Int32}  {M : Mem} {r : Int32} (h : f_X6_isKind x0 = r) : Ct l w yX6_isKind cX6_isKind 1 (some .boolean) 1 [.int x0] M (some (.int r)) M := by
  refine ct_of hw (by decide) (cat_s rfl cat_0) (Nat.le_of_ble_eq_true rfl) (fun f _ C hR => ?_)
  show Go w f 0 [some (.int x0)] [] M
  unfold f_X6_isKind at h
  refine g_iload_n C dX6_isKind_0 rfl rfl ?_
  refine g_iconst (v := 0) C dX6_isKind_1 rfl ?_
  refine g_iconst (v := 5) C dX6_isKind_2 rfl ?_
  refine g_callS (As := [.int x0, .int (0 : Int32), .int (5 : Int32)]) C (ct_X6_in C.wf rfl) lk_RX6_42 mi_X6_in (by decide) cs_0 (by decide) dX6_isKind_3 rfl ?_
  show Go w f 6 [some (.int x0)] [.int (f_X6_in x0 (0 : Int32) (5 : Int32))] M
  cases h
  exact hR 6 _ ⟨.boolean, rfl, nb_use (zb_X6_in ..)⟩ dX6_isKind_6
theorem zb_X6_isKind (x0 : Int32) : isb (f_X6_isKind x0) = true := by
  unfold f_X6_isKind
  repeat' split
  all_goals first | decide | exact zb_X6_in ..
def f_X6_copies_3 : Nat → Nat → Int32 → Nat → Int32 → Int32 → Mem → Option Mem
  | 0, _, _, _, _, _, _ => none
  | n + 1, r0, x1, r2, x3, x4, M => if (137 : Int32) ≤ x4 then (some M) else (gdd (kd r0 = 8) <| gdd (inb (x1 + x4) (ln r0) = true) <| gdd (kd r2 = 8) <| gdd (inb (x3 + x4) (ln r2) = true) <| bvv (sI M r2 (x3 + x4).toNatClampNeg (gI M r0 (x1 + x4).toNatClampNeg)) fun M206 => bvv (x4 + (1 : Int32)) fun y208 => (f_X6_copies_3 n) r0 x1 r2 x3 y208 M206)
set_option maxRecDepth 100000 in
set_option maxHeartbeats 4000000 in
theorem t_X6_copies_3 {w : Om} {f : Fr} {M2 : Mem} (C : Cx w f RX6 cX6_copies 5 0) (hR : Rt w f cX6_copies none none M2)   : ∀ (n : Nat) (r0 : Nat) (x1 : Int32) (r2 : Nat) (x3 : Int32) (x4 : Int32) (M : Mem), f_X6_copies_3 n r0 x1 r2 x3 x4 M = some M2 → Go w f 3 [some (rv w r0), some (.int x1), some (rv w r2), some (.int x3), some (.int x4)] [] M := by
  intro n
  induction n with
  | zero =>
    intro r0 x1 r2 x3 x4 M h
    cases h
  | succ n ih =>
    intro r0 x1 r2 x3 x4 M h
    rw [f_X6_copies_3] at h
    refine g_iload C dX6_copies_3 rfl ?_
    refine g_sipush (v := 137) C dX6_copies_5 rfl ?_
    refine g_icmp_ge 29 C dX6_copies_8 (by decide) (fun c201 => ?_) (fun c201 => ?_)
    · replace h := of_ift h c201
      cases h
      exact hR 29 _ rfl dX6_copies_29
    · replace h := of_iff h c201
      refine g_aload_n C dX6_copies_11 rfl rfl ?_
      refine g_iload_n C dX6_copies_12 rfl rfl ?_
      refine g_iload C dX6_copies_13 rfl ?_
      refine g_iadd C dX6_copies_15 ?_
      refine g_aload_n C dX6_copies_16 rfl rfl ?_
      refine g_iload_n C dX6_copies_17 rfl rfl ?_
      refine g_iload C dX6_copies_18 rfl ?_
      refine g_iadd C dX6_copies_20 ?_
      obtain ⟨g202, h⟩ := of_gdd h
      obtain ⟨g203, h⟩ := of_gdd h
      refine g_iald C g202 g203 dX6_copies_21 ?_
      obtain ⟨g204, h⟩ := of_gdd h
      obtain ⟨g205, h⟩ := of_gdd h
      refine g_iast C g204 g205 dX6_copies_22 ?_
      obtain ⟨M206, e207, h⟩ := of_bvv h
      refine g_mem e207 ?_
      obtain ⟨y208, e209, h⟩ := of_bvv h
      refine g_iinc (v := y208) C dX6_copies_23 rfl e209.symm (by decide) rfl (L2 := [some (rv w r0), some (.int x1), some (rv w r2), some (.int x3), some (.int y208)]) rfl ?_
      refine g_goto 3 C dX6_copies_26 (by decide) ?_
      exact ih r0 x1 r2 x3 y208 M206 h
def f_X6_copies (r0 : Nat) (x1 : Int32) (r2 : Nat) (x3 : Int32) (M : Mem) : Option Mem := f_X6_copies_3 FU r0 x1 r2 x3 (0 : Int32) M
set_option maxRecDepth 100000 in
set_option maxHeartbeats 4000000 in
theorem ct_X6_copies {l : Launch} {w : Om} (hw : Wf w) {r0 : Nat} {x1 : Int32} {r2 : Nat} {x3 : Int32} {M : Mem} {M2 : Mem} (h : f_X6_copies r0 x1 r2 x3 M = some M2) : Ct l w yX6_copies cX6_copies 5 none 0 [rv w r0, .int x1, rv w r2, .int x3] M none M2 := by
  refine ct_of hw (by decide) (cat_s (rv_cat _ _) (cat_s rfl (cat_s (rv_cat _ _) (cat_s rfl cat_0)))) (Nat.le_of_ble_eq_true rfl) (fun f _ C hR => ?_)
  show Go w f 0 [some (rv w r0), some (.int x1), some (rv w r2), some (.int x3), none] [] M
  unfold f_X6_copies at h
  refine g_iconst (v := 0) C dX6_copies_0 rfl ?_
  refine g_istore C dX6_copies_1 (by decide) rfl (L2 := [some (rv w r0), some (.int x1), some (rv w r2), some (.int x3), some (.int (0 : Int32))]) rfl ?_
  exact t_X6_copies_3 C hR _ r0 x1 r2 x3 (0 : Int32) M h
def f_X6_records_10 : Nat → Nat → Int32 → Mem → Option Mem
  | 0, _, _, _ => none
  | n + 1, r0, x1, M => if (411 : Int32) ≤ x1 then (gdd (kd r0 = 7) <| bvv (sI M r0 2 ((gI M r0 2) - (1 : Int32))) fun M203 => obb (f_X6_copies (fld r0 0) (0 : Int32) (fld r0 1) ((137 : Int32) * (gI M203 r0 2)) M203) fun M205 => bvv (sI M205 r0 2 ((gI M205 r0 2) + (1 : Int32))) fun M207 => some M207) else (gdd (kd r0 = 7) <| gdd (kd (fld r0 1) = 8) <| gdd (inb (x1 + (137 : Int32)) (ln (fld r0 1)) = true) <| gdd (inb x1 (ln (fld r0 1)) = true) <| bvv (sI M (fld r0 1) (x1).toNatClampNeg (gI M (fld r0 1) (x1 + (137 : Int32)).toNatClampNeg)) fun M213 => bvv (x1 + (1 : Int32)) fun y215 => (f_X6_records_10 n) r0 y215 M213)
set_option maxRecDepth 100000 in
set_option maxHeartbeats 4000000 in
theorem t_X6_records_10 {w : Om} {f : Fr} {M2 : Mem} (C : Cx w f RX6 cX6_records 2 1) (hR : Rt w f cX6_records none none M2)   : ∀ (n : Nat) (r0 : Nat) (x1 : Int32) (M : Mem), f_X6_records_10 n r0 x1 M = some M2 → Go w f 10 [some (rv w r0), some (.int x1)] [] M := by
  intro n
  induction n with
  | zero =>
    intro r0 x1 M h
    cases h
  | succ n ih =>
    intro r0 x1 M h
    rw [f_X6_records_10] at h
    refine g_iload_n C dX6_records_10 rfl rfl ?_
    refine g_sipush (v := 411) C dX6_records_11 rfl ?_
    refine g_icmp_ge 39 C dX6_records_14 (by decide) (fun c201 => ?_) (fun c201 => ?_)
    · replace h := of_ift h c201
      refine g_aload_n C dX6_records_39 rfl rfl ?_
      refine g_dup C (rv_cat _ _) dX6_records_40 ?_
      obtain ⟨g202, h⟩ := of_gdd h
      refine gf_6_2 C fl_RX6_34 g202 dX6_records_41 ?_
      refine g_iconst (v := 1) C dX6_records_44 rfl ?_
      refine g_isub C dX6_records_45 ?_
      refine pf_6_2 C fl_RX6_34 g202 dX6_records_46 ?_
      obtain ⟨M203, e204, h⟩ := of_bvv h
      refine g_mem e204 ?_
      refine g_aload_n C dX6_records_49 rfl rfl ?_
      refine gf_6_0 C fl_RX6_7 g202 dX6_records_50 ?_
      refine g_iconst (v := 0) C dX6_records_53 rfl ?_
      refine g_aload_n C dX6_records_54 rfl rfl ?_
      refine gf_6_1 C fl_RX6_13 g202 dX6_records_55 ?_
      refine g_sipush (v := 137) C dX6_records_58 rfl ?_
      refine g_aload_n C dX6_records_61 rfl rfl ?_
      refine gf_6_2 C fl_RX6_34 g202 dX6_records_62 ?_
      refine g_imul C dX6_records_65 ?_
      obtain ⟨M205, e206, h⟩ := of_obb h
      refine g_callS (As := [rv w (fld r0 0), .int (0 : Int32), rv w (fld r0 1), .int ((137 : Int32) * (gI M203 r0 2))]) C (ct_X6_copies C.wf e206) lk_RX6_38 mi_X6_copies (by decide) cs_0 (by decide) dX6_records_66 rfl ?_
      show Go w f 69 [some (rv w r0), some (.int x1)] [] M205
      refine g_aload_n C dX6_records_69 rfl rfl ?_
      refine g_dup C (rv_cat _ _) dX6_records_70 ?_
      refine gf_6_2 C fl_RX6_34 g202 dX6_records_71 ?_
      refine g_iconst (v := 1) C dX6_records_74 rfl ?_
      refine g_iadd C dX6_records_75 ?_
      refine pf_6_2 C fl_RX6_34 g202 dX6_records_76 ?_
      obtain ⟨M207, e208, h⟩ := of_bvv h
      refine g_mem e208 ?_
      cases h
      exact hR 79 _ rfl dX6_records_79
    · replace h := of_iff h c201
      refine g_aload_n C dX6_records_17 rfl rfl ?_
      obtain ⟨g209, h⟩ := of_gdd h
      refine gf_6_1 C fl_RX6_13 g209 dX6_records_18 ?_
      refine g_iload_n C dX6_records_21 rfl rfl ?_
      refine g_aload_n C dX6_records_22 rfl rfl ?_
      refine gf_6_1 C fl_RX6_13 g209 dX6_records_23 ?_
      refine g_iload_n C dX6_records_26 rfl rfl ?_
      refine g_sipush (v := 137) C dX6_records_27 rfl ?_
      refine g_iadd C dX6_records_30 ?_
      obtain ⟨g210, h⟩ := of_gdd h
      obtain ⟨g211, h⟩ := of_gdd h
      refine g_iald C g210 g211 dX6_records_31 ?_
      obtain ⟨g212, h⟩ := of_gdd h
      refine g_iast C g210 g212 dX6_records_32 ?_
      obtain ⟨M213, e214, h⟩ := of_bvv h
      refine g_mem e214 ?_
      obtain ⟨y215, e216, h⟩ := of_bvv h
      refine g_iinc (v := y215) C dX6_records_33 rfl e216.symm (by decide) (rv_cat _ _) (L2 := [some (rv w r0), some (.int y215)]) rfl ?_
      refine g_goto 10 C dX6_records_36 (by decide) ?_
      exact ih r0 y215 M213 h
def f_X6_records (r0 : Nat) (M : Mem) : Option Mem := gdd (kd r0 = 7) <| if (gI M r0 2) = (4 : Int32) then (f_X6_records_10 FU r0 (0 : Int32) M) else (obb (f_X6_copies (fld r0 0) (0 : Int32) (fld r0 1) ((137 : Int32) * (gI M r0 2)) M) fun M3 => bvv (sI M3 r0 2 ((gI M3 r0 2) + (1 : Int32))) fun M5 => some M5)
set_option maxRecDepth 100000 in
set_option maxHeartbeats 4000000 in
theorem ct_X6_records {l : Launch} {w : Om} (hw : Wf w) {r0 : Nat} {M : Mem} {M2 : Mem} (h : f_X6_records r0 M = some M2) : Ct l w yX6_records cX6_records 2 none 1 [rv w r0] M none M2 := by
  refine ct_of hw (by decide) (cat_s (rv_cat _ _) cat_0) (Nat.le_of_ble_eq_true rfl) (fun f _ C hR => ?_)
  show Go w f 0 [some (rv w r0), none] [] M
  unfold f_X6_records at h
  refine g_aload_n C dX6_records_0 rfl rfl ?_
  obtain ⟨g1, h⟩ := of_gdd h
  refine gf_6_2 C fl_RX6_34 g1 dX6_records_1 ?_
  refine g_iconst (v := 4) C dX6_records_4 rfl ?_
  refine g_icmp_ne 49 C dX6_records_5 (by decide) (fun c2 => ?_) (fun c2 => ?_)
  · replace h := of_iff h c2
    refine g_aload_n C dX6_records_49 rfl rfl ?_
    refine gf_6_0 C fl_RX6_7 g1 dX6_records_50 ?_
    refine g_iconst (v := 0) C dX6_records_53 rfl ?_
    refine g_aload_n C dX6_records_54 rfl rfl ?_
    refine gf_6_1 C fl_RX6_13 g1 dX6_records_55 ?_
    refine g_sipush (v := 137) C dX6_records_58 rfl ?_
    refine g_aload_n C dX6_records_61 rfl rfl ?_
    refine gf_6_2 C fl_RX6_34 g1 dX6_records_62 ?_
    refine g_imul C dX6_records_65 ?_
    obtain ⟨M3, e4, h⟩ := of_obb h
    refine g_callS (As := [rv w (fld r0 0), .int (0 : Int32), rv w (fld r0 1), .int ((137 : Int32) * (gI M r0 2))]) C (ct_X6_copies C.wf e4) lk_RX6_38 mi_X6_copies (by decide) cs_0 (by decide) dX6_records_66 rfl ?_
    show Go w f 69 [some (rv w r0), none] [] M3
    refine g_aload_n C dX6_records_69 rfl rfl ?_
    refine g_dup C (rv_cat _ _) dX6_records_70 ?_
    refine gf_6_2 C fl_RX6_34 g1 dX6_records_71 ?_
    refine g_iconst (v := 1) C dX6_records_74 rfl ?_
    refine g_iadd C dX6_records_75 ?_
    refine pf_6_2 C fl_RX6_34 g1 dX6_records_76 ?_
    obtain ⟨M5, e6, h⟩ := of_bvv h
    refine g_mem e6 ?_
    cases h
    exact hR 79 _ rfl dX6_records_79
  · replace h := of_ift h c2
    refine g_iconst (v := 0) C dX6_records_8 rfl ?_
    refine g_istore_n C dX6_records_9 rfl (by decide) (rv_cat _ _) (L2 := [some (rv w r0), some (.int (0 : Int32))]) rfl ?_
    exact t_X6_records_10 C hR _ r0 (0 : Int32) M h
def f_X6_weight (r0 : Nat) (x1 : Int32) (x2 : Int32) (M : Mem) : Option (Int32 × Mem) := if (f_X6_isKind x1) = 0 then (some ((-1 : Int32), M)) else (if (f_X6_in x2 (1 : Int32) (9 : Int32)) = 0 then (some ((-1 : Int32), M)) else (gdd (kd r0 = 7) <| obb (f_X6_records r0 M) fun M4 => gdd (kd (fld r0 0) = 8) <| gdd (inb ((7 : Int32) + x1) (ln (fld r0 0)) = true) <| bvv (gI M4 (fld r0 0) ((7 : Int32) + x1).toNatClampNeg) fun y8 => bvv (sI M4 (fld r0 0) ((7 : Int32) + x1).toNatClampNeg x2) fun M10 => some (y8, M10)))
set_option maxRecDepth 100000 in
set_option maxHeartbeats 4000000 in
theorem ct_X6_weight {l : Launch} {w : Om} (hw : Wf w) {r0 : Nat} {x1 : Int32} {x2 : Int32} {M : Mem} {r : Int32} {M2 : Mem} (h : f_X6_weight r0 x1 x2 M = some (r, M2)) : Ct l w yX6_weight cX6_weight 4 (some .int) 2 [rv w r0, .int x1, .int x2] M (some (.int r)) M2 := by
  refine ct_of hw (by decide) (cat_s (rv_cat _ _) (cat_s rfl (cat_s rfl cat_0))) (Nat.le_of_ble_eq_true rfl) (fun f _ C hR => ?_)
  show Go w f 0 [some (rv w r0), some (.int x1), some (.int x2), none] [] M
  unfold f_X6_weight at h
  refine g_iload_n C dX6_weight_0 rfl rfl ?_
  refine g_callS (As := [.int x1]) C (ct_X6_isKind C.wf rfl) lk_RX6_109 mi_X6_isKind (by decide) cs_0 (by decide) dX6_weight_1 rfl ?_
  show Go w f 4 [some (rv w r0), some (.int x1), some (.int x2), none] [.int (f_X6_isKind x1)] M
  refine g_if_eq 17 C dX6_weight_4 (by decide) (fun c1 => ?_) (fun c1 => ?_)
  · replace h := of_ift h c1
    refine g_iconst (v := -1) C dX6_weight_17 rfl ?_
    cases h
    exact hR 18 _ ⟨.int, rfl, rfl⟩ dX6_weight_18
  · replace h := of_iff h c1
    refine g_iload_n C dX6_weight_7 rfl rfl ?_
    refine g_iconst (v := 1) C dX6_weight_8 rfl ?_
    refine g_bipush (v := 9) C dX6_weight_9 rfl ?_
    refine g_callS (As := [.int x2, .int (1 : Int32), .int (9 : Int32)]) C (ct_X6_in C.wf rfl) lk_RX6_42 mi_X6_in (by decide) cs_0 (by decide) dX6_weight_11 rfl ?_
    show Go w f 14 [some (rv w r0), some (.int x1), some (.int x2), none] [.int (f_X6_in x2 (1 : Int32) (9 : Int32))] M
    refine g_if_ne 19 C dX6_weight_14 (by decide) (fun c2 => ?_) (fun c2 => ?_)
    · replace h := of_iff h c2
      refine g_aload_n C dX6_weight_19 rfl rfl ?_
      obtain ⟨g3, h⟩ := of_gdd h
      obtain ⟨M4, e5, h⟩ := of_obb h
      refine g_callV (As := []) C (ct_X6_records C.wf e5) g3 lk_RX6_112 mi_X6_records (by decide) cs_0 (by decide) dX6_weight_20 rfl ?_
      show Go w f 23 [some (rv w r0), some (.int x1), some (.int x2), none] [] M4
      refine g_aload_n C dX6_weight_23 rfl rfl ?_
      refine gf_6_0 C fl_RX6_7 g3 dX6_weight_24 ?_
      refine g_bipush (v := 7) C dX6_weight_27 rfl ?_
      refine g_iload_n C dX6_weight_29 rfl rfl ?_
      refine g_iadd C dX6_weight_30 ?_
      obtain ⟨g6, h⟩ := of_gdd h
      obtain ⟨g7, h⟩ := of_gdd h
      refine g_iald C g6 g7 dX6_weight_31 ?_
      obtain ⟨y8, e9, h⟩ := of_bvv h
      refine g_topi e9 ?_
      refine g_istore_n C dX6_weight_32 rfl (by decide) rfl (L2 := [some (rv w r0), some (.int x1), some (.int x2), some (.int y8)]) rfl ?_
      refine g_aload_n C dX6_weight_33 rfl rfl ?_
      refine gf_6_0 C fl_RX6_7 g3 dX6_weight_34 ?_
      refine g_bipush (v := 7) C dX6_weight_37 rfl ?_
      refine g_iload_n C dX6_weight_39 rfl rfl ?_
      refine g_iadd C dX6_weight_40 ?_
      refine g_iload_n C dX6_weight_41 rfl rfl ?_
      refine g_iast C g6 g7 dX6_weight_42 ?_
      obtain ⟨M10, e11, h⟩ := of_bvv h
      refine g_mem e11 ?_
      refine g_iload_n C dX6_weight_43 rfl rfl ?_
      cases h
      exact hR 44 _ ⟨.int, rfl, rfl⟩ dX6_weight_44
    · replace h := of_ift h c2
      refine g_iconst (v := -1) C dX6_weight_17 rfl ?_
      cases h
      exact hR 18 _ ⟨.int, rfl, rfl⟩ dX6_weight_18
def f_X6_set (r0 : Nat) (x1 : Int32) (x2 : Int32) (M : Mem) : Option (Int32 × Mem) := if (f_X6_in x1 (0 : Int32) (1 : Int32)) = 0 then (some ((-1 : Int32), M)) else (if x1 = 0 then (if x1 = 0 then (if (f_X6_in x2 (1 : Int32) (30 : Int32)) = 0 then (some ((-1 : Int32), M)) else (gdd (kd r0 = 7) <| obb (f_X6_records r0 M) fun M37 => gdd (kd (fld r0 0) = 8) <| gdd (inb ((1 : Int32) + x1) (ln (fld r0 0)) = true) <| bvv (gI M37 (fld r0 0) ((1 : Int32) + x1).toNatClampNeg) fun y41 => bvv (sI M37 (fld r0 0) ((1 : Int32) + x1).toNatClampNeg x2) fun M43 => some (y41, M43))) else (if (f_X6_in x2 (1 : Int32) (60 : Int32)) = 0 then (some ((-1 : Int32), M)) else (gdd (kd r0 = 7) <| obb (f_X6_records r0 M) fun M27 => gdd (kd (fld r0 0) = 8) <| gdd (inb ((1 : Int32) + x1) (ln (fld r0 0)) = true) <| bvv (gI M27 (fld r0 0) ((1 : Int32) + x1).toNatClampNeg) fun y31 => bvv (sI M27 (fld r0 0) ((1 : Int32) + x1).toNatClampNeg x2) fun M33 => some (y31, M33)))) else (if x1 = 0 then (if (f_X6_in x2 (9 : Int32) (30 : Int32)) = 0 then (some ((-1 : Int32), M)) else (gdd (kd r0 = 7) <| obb (f_X6_records r0 M) fun M16 => gdd (kd (fld r0 0) = 8) <| gdd (inb ((1 : Int32) + x1) (ln (fld r0 0)) = true) <| bvv (gI M16 (fld r0 0) ((1 : Int32) + x1).toNatClampNeg) fun y20 => bvv (sI M16 (fld r0 0) ((1 : Int32) + x1).toNatClampNeg x2) fun M22 => some (y20, M22))) else (if (f_X6_in x2 (9 : Int32) (60 : Int32)) = 0 then (some ((-1 : Int32), M)) else (gdd (kd r0 = 7) <| obb (f_X6_records r0 M) fun M6 => gdd (kd (fld r0 0) = 8) <| gdd (inb ((1 : Int32) + x1) (ln (fld r0 0)) = true) <| bvv (gI M6 (fld r0 0) ((1 : Int32) + x1).toNatClampNeg) fun y10 => bvv (sI M6 (fld r0 0) ((1 : Int32) + x1).toNatClampNeg x2) fun M12 => some (y10, M12)))))
set_option maxRecDepth 100000 in
set_option maxHeartbeats 4000000 in
theorem ct_X6_set {l : Launch} {w : Om} (hw : Wf w) {r0 : Nat} {x1 : Int32} {x2 : Int32} {M : Mem} {r : Int32} {M2 : Mem} (h : f_X6_set r0 x1 x2 M = some (r, M2)) : Ct l w yX6_set cX6_set 4 (some .int) 2 [rv w r0, .int x1, .int x2] M (some (.int r)) M2 := by
  refine ct_of hw (by decide) (cat_s (rv_cat _ _) (cat_s rfl (cat_s rfl cat_0))) (Nat.le_of_ble_eq_true rfl) (fun f _ C hR => ?_)
  show Go w f 0 [some (rv w r0), some (.int x1), some (.int x2), none] [] M
  unfold f_X6_set at h
  refine g_iload_n C dX6_set_0 rfl rfl ?_
  refine g_iconst (v := 0) C dX6_set_1 rfl ?_
  refine g_iconst (v := 1) C dX6_set_2 rfl ?_
  refine g_callS (As := [.int x1, .int (0 : Int32), .int (1 : Int32)]) C (ct_X6_in C.wf rfl) lk_RX6_42 mi_X6_in (by decide) cs_0 (by decide) dX6_set_3 rfl ?_
  show Go w f 6 [some (rv w r0), some (.int x1), some (.int x2), none] [.int (f_X6_in x1 (0 : Int32) (1 : Int32))] M
  refine g_if_eq 37 C dX6_set_6 (by decide) (fun c1 => ?_) (fun c1 => ?_)
  · replace h := of_ift h c1
    refine g_iconst (v := -1) C dX6_set_37 rfl ?_
    cases h
    exact hR 38 _ ⟨.int, rfl, rfl⟩ dX6_set_38
  · replace h := of_iff h c1
    refine g_iload_n C dX6_set_9 rfl rfl ?_
    refine g_iload_n C dX6_set_10 rfl rfl ?_
    refine g_if_ne 18 C dX6_set_11 (by decide) (fun c2 => ?_) (fun c2 => ?_)
    · replace h := of_iff h c2
      refine g_bipush (v := 9) C dX6_set_18 rfl ?_
      refine g_iload_n C dX6_set_20 rfl rfl ?_
      refine g_if_ne 29 C dX6_set_21 (by decide) (fun c3 => ?_) (fun c3 => ?_)
      · replace h := of_iff h c3
        refine g_bipush (v := 60) C dX6_set_29 rfl ?_
        refine g_callS (As := [.int x2, .int (9 : Int32), .int (60 : Int32)]) C (ct_X6_in C.wf rfl) lk_RX6_42 mi_X6_in (by decide) cs_0 (by decide) dX6_set_31 rfl ?_
        show Go w f 34 [some (rv w r0), some (.int x1), some (.int x2), none] [.int (f_X6_in x2 (9 : Int32) (60 : Int32))] M
        refine g_if_ne 39 C dX6_set_34 (by decide) (fun c4 => ?_) (fun c4 => ?_)
        · replace h := of_iff h c4
          refine g_aload_n C dX6_set_39 rfl rfl ?_
          obtain ⟨g5, h⟩ := of_gdd h
          obtain ⟨M6, e7, h⟩ := of_obb h
          refine g_callV (As := []) C (ct_X6_records C.wf e7) g5 lk_RX6_112 mi_X6_records (by decide) cs_0 (by decide) dX6_set_40 rfl ?_
          show Go w f 43 [some (rv w r0), some (.int x1), some (.int x2), none] [] M6
          refine g_aload_n C dX6_set_43 rfl rfl ?_
          refine gf_6_0 C fl_RX6_7 g5 dX6_set_44 ?_
          refine g_iconst (v := 1) C dX6_set_47 rfl ?_
          refine g_iload_n C dX6_set_48 rfl rfl ?_
          refine g_iadd C dX6_set_49 ?_
          obtain ⟨g8, h⟩ := of_gdd h
          obtain ⟨g9, h⟩ := of_gdd h
          refine g_iald C g8 g9 dX6_set_50 ?_
          obtain ⟨y10, e11, h⟩ := of_bvv h
          refine g_topi e11 ?_
          refine g_istore_n C dX6_set_51 rfl (by decide) rfl (L2 := [some (rv w r0), some (.int x1), some (.int x2), some (.int y10)]) rfl ?_
          refine g_aload_n C dX6_set_52 rfl rfl ?_
          refine gf_6_0 C fl_RX6_7 g5 dX6_set_53 ?_
          refine g_iconst (v := 1) C dX6_set_56 rfl ?_
          refine g_iload_n C dX6_set_57 rfl rfl ?_
          refine g_iadd C dX6_set_58 ?_
          refine g_iload_n C dX6_set_59 rfl rfl ?_
          refine g_iast C g8 g9 dX6_set_60 ?_
          obtain ⟨M12, e13, h⟩ := of_bvv h
          refine g_mem e13 ?_
          refine g_iload_n C dX6_set_61 rfl rfl ?_
          cases h
          exact hR 62 _ ⟨.int, rfl, rfl⟩ dX6_set_62
        · replace h := of_ift h c4
          refine g_iconst (v := -1) C dX6_set_37 rfl ?_
          cases h
          exact hR 38 _ ⟨.int, rfl, rfl⟩ dX6_set_38
      · replace h := of_ift h c3
        refine g_bipush (v := 30) C dX6_set_24 rfl ?_
        refine g_goto 31 C dX6_set_26 (by decide) ?_
        refine g_callS (As := [.int x2, .int (9 : Int32), .int (30 : Int32)]) C (ct_X6_in C.wf rfl) lk_RX6_42 mi_X6_in (by decide) cs_0 (by decide) dX6_set_31 rfl ?_
        show Go w f 34 [some (rv w r0), some (.int x1), some (.int x2), none] [.int (f_X6_in x2 (9 : Int32) (30 : Int32))] M
        refine g_if_ne 39 C dX6_set_34 (by decide) (fun c14 => ?_) (fun c14 => ?_)
        · replace h := of_iff h c14
          refine g_aload_n C dX6_set_39 rfl rfl ?_
          obtain ⟨g15, h⟩ := of_gdd h
          obtain ⟨M16, e17, h⟩ := of_obb h
          refine g_callV (As := []) C (ct_X6_records C.wf e17) g15 lk_RX6_112 mi_X6_records (by decide) cs_0 (by decide) dX6_set_40 rfl ?_
          show Go w f 43 [some (rv w r0), some (.int x1), some (.int x2), none] [] M16
          refine g_aload_n C dX6_set_43 rfl rfl ?_
          refine gf_6_0 C fl_RX6_7 g15 dX6_set_44 ?_
          refine g_iconst (v := 1) C dX6_set_47 rfl ?_
          refine g_iload_n C dX6_set_48 rfl rfl ?_
          refine g_iadd C dX6_set_49 ?_
          obtain ⟨g18, h⟩ := of_gdd h
          obtain ⟨g19, h⟩ := of_gdd h
          refine g_iald C g18 g19 dX6_set_50 ?_
          obtain ⟨y20, e21, h⟩ := of_bvv h
          refine g_topi e21 ?_
          refine g_istore_n C dX6_set_51 rfl (by decide) rfl (L2 := [some (rv w r0), some (.int x1), some (.int x2), some (.int y20)]) rfl ?_
          refine g_aload_n C dX6_set_52 rfl rfl ?_
          refine gf_6_0 C fl_RX6_7 g15 dX6_set_53 ?_
          refine g_iconst (v := 1) C dX6_set_56 rfl ?_
          refine g_iload_n C dX6_set_57 rfl rfl ?_
          refine g_iadd C dX6_set_58 ?_
          refine g_iload_n C dX6_set_59 rfl rfl ?_
          refine g_iast C g18 g19 dX6_set_60 ?_
          obtain ⟨M22, e23, h⟩ := of_bvv h
          refine g_mem e23 ?_
          refine g_iload_n C dX6_set_61 rfl rfl ?_
          cases h
          exact hR 62 _ ⟨.int, rfl, rfl⟩ dX6_set_62
        · replace h := of_ift h c14
          refine g_iconst (v := -1) C dX6_set_37 rfl ?_
          cases h
          exact hR 38 _ ⟨.int, rfl, rfl⟩ dX6_set_38
    · replace h := of_ift h c2
      refine g_iconst (v := 1) C dX6_set_14 rfl ?_
      refine g_goto 20 C dX6_set_15 (by decide) ?_
      refine g_iload_n C dX6_set_20 rfl rfl ?_
      refine g_if_ne 29 C dX6_set_21 (by decide) (fun c24 => ?_) (fun c24 => ?_)
      · replace h := of_iff h c24
        refine g_bipush (v := 60) C dX6_set_29 rfl ?_
        refine g_callS (As := [.int x2, .int (1 : Int32), .int (60 : Int32)]) C (ct_X6_in C.wf rfl) lk_RX6_42 mi_X6_in (by decide) cs_0 (by decide) dX6_set_31 rfl ?_
        show Go w f 34 [some (rv w r0), some (.int x1), some (.int x2), none] [.int (f_X6_in x2 (1 : Int32) (60 : Int32))] M
        refine g_if_ne 39 C dX6_set_34 (by decide) (fun c25 => ?_) (fun c25 => ?_)
        · replace h := of_iff h c25
          refine g_aload_n C dX6_set_39 rfl rfl ?_
          obtain ⟨g26, h⟩ := of_gdd h
          obtain ⟨M27, e28, h⟩ := of_obb h
          refine g_callV (As := []) C (ct_X6_records C.wf e28) g26 lk_RX6_112 mi_X6_records (by decide) cs_0 (by decide) dX6_set_40 rfl ?_
          show Go w f 43 [some (rv w r0), some (.int x1), some (.int x2), none] [] M27
          refine g_aload_n C dX6_set_43 rfl rfl ?_
          refine gf_6_0 C fl_RX6_7 g26 dX6_set_44 ?_
          refine g_iconst (v := 1) C dX6_set_47 rfl ?_
          refine g_iload_n C dX6_set_48 rfl rfl ?_
          refine g_iadd C dX6_set_49 ?_
          obtain ⟨g29, h⟩ := of_gdd h
          obtain ⟨g30, h⟩ := of_gdd h
          refine g_iald C g29 g30 dX6_set_50 ?_
          obtain ⟨y31, e32, h⟩ := of_bvv h
          refine g_topi e32 ?_
          refine g_istore_n C dX6_set_51 rfl (by decide) rfl (L2 := [some (rv w r0), some (.int x1), some (.int x2), some (.int y31)]) rfl ?_
          refine g_aload_n C dX6_set_52 rfl rfl ?_
          refine gf_6_0 C fl_RX6_7 g26 dX6_set_53 ?_
          refine g_iconst (v := 1) C dX6_set_56 rfl ?_
          refine g_iload_n C dX6_set_57 rfl rfl ?_
          refine g_iadd C dX6_set_58 ?_
          refine g_iload_n C dX6_set_59 rfl rfl ?_
          refine g_iast C g29 g30 dX6_set_60 ?_
          obtain ⟨M33, e34, h⟩ := of_bvv h
          refine g_mem e34 ?_
          refine g_iload_n C dX6_set_61 rfl rfl ?_
          cases h
          exact hR 62 _ ⟨.int, rfl, rfl⟩ dX6_set_62
        · replace h := of_ift h c25
          refine g_iconst (v := -1) C dX6_set_37 rfl ?_
          cases h
          exact hR 38 _ ⟨.int, rfl, rfl⟩ dX6_set_38
      · replace h := of_ift h c24
        refine g_bipush (v := 30) C dX6_set_24 rfl ?_
        refine g_goto 31 C dX6_set_26 (by decide) ?_
        refine g_callS (As := [.int x2, .int (1 : Int32), .int (30 : Int32)]) C (ct_X6_in C.wf rfl) lk_RX6_42 mi_X6_in (by decide) cs_0 (by decide) dX6_set_31 rfl ?_
        show Go w f 34 [some (rv w r0), some (.int x1), some (.int x2), none] [.int (f_X6_in x2 (1 : Int32) (30 : Int32))] M
        refine g_if_ne 39 C dX6_set_34 (by decide) (fun c35 => ?_) (fun c35 => ?_)
        · replace h := of_iff h c35
          refine g_aload_n C dX6_set_39 rfl rfl ?_
          obtain ⟨g36, h⟩ := of_gdd h
          obtain ⟨M37, e38, h⟩ := of_obb h
          refine g_callV (As := []) C (ct_X6_records C.wf e38) g36 lk_RX6_112 mi_X6_records (by decide) cs_0 (by decide) dX6_set_40 rfl ?_
          show Go w f 43 [some (rv w r0), some (.int x1), some (.int x2), none] [] M37
          refine g_aload_n C dX6_set_43 rfl rfl ?_
          refine gf_6_0 C fl_RX6_7 g36 dX6_set_44 ?_
          refine g_iconst (v := 1) C dX6_set_47 rfl ?_
          refine g_iload_n C dX6_set_48 rfl rfl ?_
          refine g_iadd C dX6_set_49 ?_
          obtain ⟨g39, h⟩ := of_gdd h
          obtain ⟨g40, h⟩ := of_gdd h
          refine g_iald C g39 g40 dX6_set_50 ?_
          obtain ⟨y41, e42, h⟩ := of_bvv h
          refine g_topi e42 ?_
          refine g_istore_n C dX6_set_51 rfl (by decide) rfl (L2 := [some (rv w r0), some (.int x1), some (.int x2), some (.int y41)]) rfl ?_
          refine g_aload_n C dX6_set_52 rfl rfl ?_
          refine gf_6_0 C fl_RX6_7 g36 dX6_set_53 ?_
          refine g_iconst (v := 1) C dX6_set_56 rfl ?_
          refine g_iload_n C dX6_set_57 rfl rfl ?_
          refine g_iadd C dX6_set_58 ?_
          refine g_iload_n C dX6_set_59 rfl rfl ?_
          refine g_iast C g39 g40 dX6_set_60 ?_
          obtain ⟨M43, e44, h⟩ := of_bvv h
          refine g_mem e44 ?_
          refine g_iload_n C dX6_set_61 rfl rfl ?_
          cases h
          exact hR 62 _ ⟨.int, rfl, rfl⟩ dX6_set_62
        · replace h := of_ift h c35
          refine g_iconst (v := -1) C dX6_set_37 rfl ?_
          cases h
          exact hR 38 _ ⟨.int, rfl, rfl⟩ dX6_set_38
def f_X6_isRule (x0 : Int32) (x1 : Int32) (x2 : Int32) : Int32 := if (f_X6_isKind x0) = 0 then ((0 : Int32)) else (if (f_X6_isKind x1) = 0 then ((0 : Int32)) else (if (f_X6_in x2 (1 : Int32) (20 : Int32)) = 0 then ((0 : Int32)) else ((1 : Int32))))
set_option maxRecDepth 100000 in
set_option maxHeartbeats 4000000 in
theorem ct_X6_isRule {l : Launch} {w : Om} (hw : Wf w) {x0 : Int32} {x1 : Int32} {x2 : Int32}  {M : Mem} {r : Int32} (h : f_X6_isRule x0 x1 x2 = r) : Ct l w yX6_isRule cX6_isRule 3 (some .boolean) 2 [.int x0, .int x1, .int x2] M (some (.int r)) M := by
  refine ct_of hw (by decide) (cat_s rfl (cat_s rfl (cat_s rfl cat_0))) (Nat.le_of_ble_eq_true rfl) (fun f _ C hR => ?_)
  show Go w f 0 [some (.int x0), some (.int x1), some (.int x2)] [] M
  unfold f_X6_isRule at h
  refine g_iload_n C dX6_isRule_0 rfl rfl ?_
  refine g_callS (As := [.int x0]) C (ct_X6_isKind C.wf rfl) lk_RX6_109 mi_X6_isKind (by decide) cs_0 (by decide) dX6_isRule_1 rfl ?_
  show Go w f 4 [some (.int x0), some (.int x1), some (.int x2)] [.int (f_X6_isKind x0)] M
  refine g_if_eq 28 C dX6_isRule_4 (by decide) (fun c1 => ?_) (fun c1 => ?_)
  · replace h := of_ift h c1
    refine g_iconst (v := 0) C dX6_isRule_28 rfl ?_
    cases h
    exact hR 29 _ ⟨.boolean, rfl, rfl⟩ dX6_isRule_29
  · replace h := of_iff h c1
    refine g_iload_n C dX6_isRule_7 rfl rfl ?_
    refine g_callS (As := [.int x1]) C (ct_X6_isKind C.wf rfl) lk_RX6_109 mi_X6_isKind (by decide) cs_0 (by decide) dX6_isRule_8 rfl ?_
    show Go w f 11 [some (.int x0), some (.int x1), some (.int x2)] [.int (f_X6_isKind x1)] M
    refine g_if_eq 28 C dX6_isRule_11 (by decide) (fun c2 => ?_) (fun c2 => ?_)
    · replace h := of_ift h c2
      refine g_iconst (v := 0) C dX6_isRule_28 rfl ?_
      cases h
      exact hR 29 _ ⟨.boolean, rfl, rfl⟩ dX6_isRule_29
    · replace h := of_iff h c2
      refine g_iload_n C dX6_isRule_14 rfl rfl ?_
      refine g_iconst (v := 1) C dX6_isRule_15 rfl ?_
      refine g_bipush (v := 20) C dX6_isRule_16 rfl ?_
      refine g_callS (As := [.int x2, .int (1 : Int32), .int (20 : Int32)]) C (ct_X6_in C.wf rfl) lk_RX6_42 mi_X6_in (by decide) cs_0 (by decide) dX6_isRule_18 rfl ?_
      show Go w f 21 [some (.int x0), some (.int x1), some (.int x2)] [.int (f_X6_in x2 (1 : Int32) (20 : Int32))] M
      refine g_if_eq 28 C dX6_isRule_21 (by decide) (fun c3 => ?_) (fun c3 => ?_)
      · replace h := of_ift h c3
        refine g_iconst (v := 0) C dX6_isRule_28 rfl ?_
        cases h
        exact hR 29 _ ⟨.boolean, rfl, rfl⟩ dX6_isRule_29
      · replace h := of_iff h c3
        refine g_iconst (v := 1) C dX6_isRule_24 rfl ?_
        refine g_goto 29 C dX6_isRule_25 (by decide) ?_
        cases h
        exact hR 29 _ ⟨.boolean, rfl, rfl⟩ dX6_isRule_29
theorem zb_X6_isRule (x0 x1 x2 : Int32) : isb (f_X6_isRule x0 x1 x2) = true := by
  unfold f_X6_isRule
  repeat' split
  all_goals first | decide | exact zb_X6_isKind .. | exact zb_X6_isKind .. | exact zb_X6_in ..
def f_X6_isRuling (r0 : Nat) (x1 : Int32) (M : Mem) : Option Int32 := gdd (kd r0 = 7) <| gdd (kd (fld r0 0) = 8) <| gdd (inb (4 : Int32) (ln (fld r0 0)) = true) <| some (f_X6_in x1 (0 : Int32) ((gI M (fld r0 0) ((4 : Int32)).toNatClampNeg) - (1 : Int32)))
set_option maxRecDepth 100000 in
set_option maxHeartbeats 4000000 in
theorem ct_X6_isRuling {l : Launch} {w : Om} (hw : Wf w) {r0 : Nat} {x1 : Int32}  {M : Mem} {r : Int32} (h : f_X6_isRuling r0 x1 M = some r) : Ct l w yX6_isRuling cX6_isRuling 2 (some .boolean) 1 [rv w r0, .int x1] M (some (.int r)) M := by
  refine ct_of hw (by decide) (cat_s (rv_cat _ _) (cat_s rfl cat_0)) (Nat.le_of_ble_eq_true rfl) (fun f _ C hR => ?_)
  show Go w f 0 [some (rv w r0), some (.int x1)] [] M
  unfold f_X6_isRuling at h
  refine g_iload_n C dX6_isRuling_0 rfl rfl ?_
  refine g_iconst (v := 0) C dX6_isRuling_1 rfl ?_
  refine g_aload_n C dX6_isRuling_2 rfl rfl ?_
  obtain ⟨g1, h⟩ := of_gdd h
  refine gf_6_0 C fl_RX6_7 g1 dX6_isRuling_3 ?_
  refine g_iconst (v := 4) C dX6_isRuling_6 rfl ?_
  obtain ⟨g2, h⟩ := of_gdd h
  obtain ⟨g3, h⟩ := of_gdd h
  refine g_iald C g2 g3 dX6_isRuling_7 ?_
  refine g_iconst (v := 1) C dX6_isRuling_8 rfl ?_
  refine g_isub C dX6_isRuling_9 ?_
  refine g_callS (As := [.int x1, .int (0 : Int32), .int ((gI M (fld r0 0) ((4 : Int32)).toNatClampNeg) - (1 : Int32))]) C (ct_X6_in C.wf rfl) lk_RX6_42 mi_X6_in (by decide) cs_0 (by decide) dX6_isRuling_10 rfl ?_
  show Go w f 13 [some (rv w r0), some (.int x1)] [.int (f_X6_in x1 (0 : Int32) ((gI M (fld r0 0) ((4 : Int32)).toNatClampNeg) - (1 : Int32)))] M
  cases h
  exact hR 13 _ ⟨.boolean, rfl, nb_use (zb_X6_in ..)⟩ dX6_isRuling_13
def f_X6_addsRuling (r0 : Nat) (x1 : Int32) (x2 : Int32) (x3 : Int32) (x4 : Int32) (x5 : Int32) (M : Mem) : Option Mem := gdd (kd r0 = 7) <| gdd (kd (fld r0 0) = 8) <| gdd (inb (4 : Int32) (ln (fld r0 0)) = true) <| bvv ((13 : Int32) + ((6 : Int32) * (gI M (fld r0 0) ((4 : Int32)).toNatClampNeg))) fun y4 => gdd (inb (y4 + (0 : Int32)) (ln (fld r0 0)) = true) <| bvv (sI M (fld r0 0) (y4 + (0 : Int32)).toNatClampNeg x1) fun M7 => gdd (inb (y4 + (1 : Int32)) (ln (fld r0 0)) = true) <| bvv (sI M7 (fld r0 0) (y4 + (1 : Int32)).toNatClampNeg x2) fun M10 => if x3 = 0 then (gdd (inb (y4 + (2 : Int32)) (ln (fld r0 0)) = true) <| bvv (sI M10 (fld r0 0) (y4 + (2 : Int32)).toNatClampNeg (0 : Int32)) fun M14 => gdd (inb (y4 + (3 : Int32)) (ln (fld r0 0)) = true) <| bvv (sI M14 (fld r0 0) (y4 + (3 : Int32)).toNatClampNeg x4) fun M17 => gdd (inb (y4 + (4 : Int32)) (ln (fld r0 0)) = true) <| bvv (sI M17 (fld r0 0) (y4 + (4 : Int32)).toNatClampNeg (x5 + (1 : Int32))) fun M20 => gdd (inb (y4 + (5 : Int32)) (ln (fld r0 0)) = true) <| bvv (sI M20 (fld r0 0) (y4 + (5 : Int32)).toNatClampNeg (0 : Int32)) fun M23 => bvv (sI M23 (fld r0 0) ((4 : Int32)).toNatClampNeg ((gI M23 (fld r0 0) ((4 : Int32)).toNatClampNeg) + (1 : Int32))) fun M25 => some M25) else (gdd (inb (y4 + (2 : Int32)) (ln (fld r0 0)) = true) <| bvv (sI M10 (fld r0 0) (y4 + (2 : Int32)).toNatClampNeg (1 : Int32)) fun M28 => gdd (inb (y4 + (3 : Int32)) (ln (fld r0 0)) = true) <| bvv (sI M28 (fld r0 0) (y4 + (3 : Int32)).toNatClampNeg x4) fun M31 => gdd (inb (y4 + (4 : Int32)) (ln (fld r0 0)) = true) <| bvv (sI M31 (fld r0 0) (y4 + (4 : Int32)).toNatClampNeg (x5 + (1 : Int32))) fun M34 => gdd (inb (y4 + (5 : Int32)) (ln (fld r0 0)) = true) <| bvv (sI M34 (fld r0 0) (y4 + (5 : Int32)).toNatClampNeg (0 : Int32)) fun M37 => bvv (sI M37 (fld r0 0) ((4 : Int32)).toNatClampNeg ((gI M37 (fld r0 0) ((4 : Int32)).toNatClampNeg) + (1 : Int32))) fun M39 => some M39)
set_option maxRecDepth 100000 in
set_option maxHeartbeats 4000000 in
theorem ct_X6_addsRuling {l : Launch} {w : Om} (hw : Wf w) {r0 : Nat} {x1 : Int32} {x2 : Int32} {x3 : Int32} {x4 : Int32} {x5 : Int32} {M : Mem} {M2 : Mem} (h : f_X6_addsRuling r0 x1 x2 x3 x4 x5 M = some M2) : Ct l w yX6_addsRuling cX6_addsRuling 7 none 0 [rv w r0, .int x1, .int x2, .int x3, .int x4, .int x5] M none M2 := by
  refine ct_of hw (by decide) (cat_s (rv_cat _ _) (cat_s rfl (cat_s rfl (cat_s rfl (cat_s rfl (cat_s rfl cat_0)))))) (Nat.le_of_ble_eq_true rfl) (fun f _ C hR => ?_)
  show Go w f 0 [some (rv w r0), some (.int x1), some (.int x2), some (.int x3), some (.int x4), some (.int x5), none] [] M
  unfold f_X6_addsRuling at h
  refine g_bipush (v := 13) C dX6_addsRuling_0 rfl ?_
  refine g_bipush (v := 6) C dX6_addsRuling_2 rfl ?_
  refine g_aload_n C dX6_addsRuling_4 rfl rfl ?_
  obtain ⟨g1, h⟩ := of_gdd h
  refine gf_6_0 C fl_RX6_7 g1 dX6_addsRuling_5 ?_
  refine g_iconst (v := 4) C dX6_addsRuling_8 rfl ?_
  obtain ⟨g2, h⟩ := of_gdd h
  obtain ⟨g3, h⟩ := of_gdd h
  refine g_iald C g2 g3 dX6_addsRuling_9 ?_
  refine g_imul C dX6_addsRuling_10 ?_
  refine g_iadd C dX6_addsRuling_11 ?_
  obtain ⟨y4, e5, h⟩ := of_bvv h
  refine g_topi e5 ?_
  refine g_istore C dX6_addsRuling_12 (by decide) rfl (L2 := [some (rv w r0), some (.int x1), some (.int x2), some (.int x3), some (.int x4), some (.int x5), some (.int y4)]) rfl ?_
  refine g_aload_n C dX6_addsRuling_14 rfl rfl ?_
  refine gf_6_0 C fl_RX6_7 g1 dX6_addsRuling_15 ?_
  refine g_iload C dX6_addsRuling_18 rfl ?_
  refine g_iconst (v := 0) C dX6_addsRuling_20 rfl ?_
  refine g_iadd C dX6_addsRuling_21 ?_
  refine g_iload_n C dX6_addsRuling_22 rfl rfl ?_
  obtain ⟨g6, h⟩ := of_gdd h
  refine g_iast C g2 g6 dX6_addsRuling_23 ?_
  obtain ⟨M7, e8, h⟩ := of_bvv h
  refine g_mem e8 ?_
  refine g_aload_n C dX6_addsRuling_24 rfl rfl ?_
  refine gf_6_0 C fl_RX6_7 g1 dX6_addsRuling_25 ?_
  refine g_iload C dX6_addsRuling_28 rfl ?_
  refine g_iconst (v := 1) C dX6_addsRuling_30 rfl ?_
  refine g_iadd C dX6_addsRuling_31 ?_
  refine g_iload_n C dX6_addsRuling_32 rfl rfl ?_
  obtain ⟨g9, h⟩ := of_gdd h
  refine g_iast C g2 g9 dX6_addsRuling_33 ?_
  obtain ⟨M10, e11, h⟩ := of_bvv h
  refine g_mem e11 ?_
  refine g_aload_n C dX6_addsRuling_34 rfl rfl ?_
  refine gf_6_0 C fl_RX6_7 g1 dX6_addsRuling_35 ?_
  refine g_iload C dX6_addsRuling_38 rfl ?_
  refine g_iconst (v := 2) C dX6_addsRuling_40 rfl ?_
  refine g_iadd C dX6_addsRuling_41 ?_
  refine g_iload_n C dX6_addsRuling_42 rfl rfl ?_
  refine g_if_eq 50 C dX6_addsRuling_43 (by decide) (fun c12 => ?_) (fun c12 => ?_)
  · replace h := of_ift h c12
    refine g_iconst (v := 0) C dX6_addsRuling_50 rfl ?_
    obtain ⟨g13, h⟩ := of_gdd h
    refine g_iast C g2 g13 dX6_addsRuling_51 ?_
    obtain ⟨M14, e15, h⟩ := of_bvv h
    refine g_mem e15 ?_
    refine g_aload_n C dX6_addsRuling_52 rfl rfl ?_
    refine gf_6_0 C fl_RX6_7 g1 dX6_addsRuling_53 ?_
    refine g_iload C dX6_addsRuling_56 rfl ?_
    refine g_iconst (v := 3) C dX6_addsRuling_58 rfl ?_
    refine g_iadd C dX6_addsRuling_59 ?_
    refine g_iload C dX6_addsRuling_60 rfl ?_
    obtain ⟨g16, h⟩ := of_gdd h
    refine g_iast C g2 g16 dX6_addsRuling_62 ?_
    obtain ⟨M17, e18, h⟩ := of_bvv h
    refine g_mem e18 ?_
    refine g_aload_n C dX6_addsRuling_63 rfl rfl ?_
    refine gf_6_0 C fl_RX6_7 g1 dX6_addsRuling_64 ?_
    refine g_iload C dX6_addsRuling_67 rfl ?_
    refine g_iconst (v := 4) C dX6_addsRuling_69 rfl ?_
    refine g_iadd C dX6_addsRuling_70 ?_
    refine g_iload C dX6_addsRuling_71 rfl ?_
    refine g_iconst (v := 1) C dX6_addsRuling_73 rfl ?_
    refine g_iadd C dX6_addsRuling_74 ?_
    obtain ⟨g19, h⟩ := of_gdd h
    refine g_iast C g2 g19 dX6_addsRuling_75 ?_
    obtain ⟨M20, e21, h⟩ := of_bvv h
    refine g_mem e21 ?_
    refine g_aload_n C dX6_addsRuling_76 rfl rfl ?_
    refine gf_6_0 C fl_RX6_7 g1 dX6_addsRuling_77 ?_
    refine g_iload C dX6_addsRuling_80 rfl ?_
    refine g_iconst (v := 5) C dX6_addsRuling_82 rfl ?_
    refine g_iadd C dX6_addsRuling_83 ?_
    refine g_iconst (v := 0) C dX6_addsRuling_84 rfl ?_
    obtain ⟨g22, h⟩ := of_gdd h
    refine g_iast C g2 g22 dX6_addsRuling_85 ?_
    obtain ⟨M23, e24, h⟩ := of_bvv h
    refine g_mem e24 ?_
    refine g_aload_n C dX6_addsRuling_86 rfl rfl ?_
    refine gf_6_0 C fl_RX6_7 g1 dX6_addsRuling_87 ?_
    refine g_iconst (v := 4) C dX6_addsRuling_90 rfl ?_
    refine g_dup2 C rfl (rv_cat _ _) dX6_addsRuling_91 ?_
    refine g_iald C g2 g3 dX6_addsRuling_92 ?_
    refine g_iconst (v := 1) C dX6_addsRuling_93 rfl ?_
    refine g_iadd C dX6_addsRuling_94 ?_
    refine g_iast C g2 g3 dX6_addsRuling_95 ?_
    obtain ⟨M25, e26, h⟩ := of_bvv h
    refine g_mem e26 ?_
    cases h
    exact hR 96 _ rfl dX6_addsRuling_96
  · replace h := of_iff h c12
    refine g_iconst (v := 1) C dX6_addsRuling_46 rfl ?_
    refine g_goto 51 C dX6_addsRuling_47 (by decide) ?_
    obtain ⟨g27, h⟩ := of_gdd h
    refine g_iast C g2 g27 dX6_addsRuling_51 ?_
    obtain ⟨M28, e29, h⟩ := of_bvv h
    refine g_mem e29 ?_
    refine g_aload_n C dX6_addsRuling_52 rfl rfl ?_
    refine gf_6_0 C fl_RX6_7 g1 dX6_addsRuling_53 ?_
    refine g_iload C dX6_addsRuling_56 rfl ?_
    refine g_iconst (v := 3) C dX6_addsRuling_58 rfl ?_
    refine g_iadd C dX6_addsRuling_59 ?_
    refine g_iload C dX6_addsRuling_60 rfl ?_
    obtain ⟨g30, h⟩ := of_gdd h
    refine g_iast C g2 g30 dX6_addsRuling_62 ?_
    obtain ⟨M31, e32, h⟩ := of_bvv h
    refine g_mem e32 ?_
    refine g_aload_n C dX6_addsRuling_63 rfl rfl ?_
    refine gf_6_0 C fl_RX6_7 g1 dX6_addsRuling_64 ?_
    refine g_iload C dX6_addsRuling_67 rfl ?_
    refine g_iconst (v := 4) C dX6_addsRuling_69 rfl ?_
    refine g_iadd C dX6_addsRuling_70 ?_
    refine g_iload C dX6_addsRuling_71 rfl ?_
    refine g_iconst (v := 1) C dX6_addsRuling_73 rfl ?_
    refine g_iadd C dX6_addsRuling_74 ?_
    obtain ⟨g33, h⟩ := of_gdd h
    refine g_iast C g2 g33 dX6_addsRuling_75 ?_
    obtain ⟨M34, e35, h⟩ := of_bvv h
    refine g_mem e35 ?_
    refine g_aload_n C dX6_addsRuling_76 rfl rfl ?_
    refine gf_6_0 C fl_RX6_7 g1 dX6_addsRuling_77 ?_
    refine g_iload C dX6_addsRuling_80 rfl ?_
    refine g_iconst (v := 5) C dX6_addsRuling_82 rfl ?_
    refine g_iadd C dX6_addsRuling_83 ?_
    refine g_iconst (v := 0) C dX6_addsRuling_84 rfl ?_
    obtain ⟨g36, h⟩ := of_gdd h
    refine g_iast C g2 g36 dX6_addsRuling_85 ?_
    obtain ⟨M37, e38, h⟩ := of_bvv h
    refine g_mem e38 ?_
    refine g_aload_n C dX6_addsRuling_86 rfl rfl ?_
    refine gf_6_0 C fl_RX6_7 g1 dX6_addsRuling_87 ?_
    refine g_iconst (v := 4) C dX6_addsRuling_90 rfl ?_
    refine g_dup2 C rfl (rv_cat _ _) dX6_addsRuling_91 ?_
    refine g_iald C g2 g3 dX6_addsRuling_92 ?_
    refine g_iconst (v := 1) C dX6_addsRuling_93 rfl ?_
    refine g_iadd C dX6_addsRuling_94 ?_
    refine g_iast C g2 g3 dX6_addsRuling_95 ?_
    obtain ⟨M39, e40, h⟩ := of_bvv h
    refine g_mem e40 ?_
    cases h
    exact hR 96 _ rfl dX6_addsRuling_96
def f_X6_rule (r0 : Nat) (x1 : Int32) (x2 : Int32) (x3 : Int32) (x4 : Int32) (x5 : Int32) (M : Mem) : Option (Int32 × Mem) := if (f_X6_isRule x1 x2 x4) = 0 then (some ((-1 : Int32), M)) else (if x5 = (-1 : Int32) then (gdd (kd r0 = 7) <| gdd (kd (fld r0 0) = 8) <| gdd (inb (4 : Int32) (ln (fld r0 0)) = true) <| if (gI M (fld r0 0) ((4 : Int32)).toNatClampNeg) = (10 : Int32) then (some ((-3 : Int32), M)) else (obb (f_X6_records r0 M) fun M7 => obb (f_X6_addsRuling r0 x1 x2 x3 x4 x5 M7) fun M9 => some ((gI M9 (fld r0 0) ((4 : Int32)).toNatClampNeg) - (1 : Int32), M9))) else (gdd (kd r0 = 7) <| obb (f_X6_isRuling r0 x5 M) fun y12 => if y12 = 0 then (some ((-1 : Int32), M)) else (gdd (kd (fld r0 0) = 8) <| gdd (inb (4 : Int32) (ln (fld r0 0)) = true) <| if (gI M (fld r0 0) ((4 : Int32)).toNatClampNeg) = (10 : Int32) then (some ((-3 : Int32), M)) else (obb (f_X6_records r0 M) fun M18 => obb (f_X6_addsRuling r0 x1 x2 x3 x4 x5 M18) fun M20 => some ((gI M20 (fld r0 0) ((4 : Int32)).toNatClampNeg) - (1 : Int32), M20)))))
set_option maxRecDepth 100000 in
set_option maxHeartbeats 4000000 in
theorem ct_X6_rule {l : Launch} {w : Om} (hw : Wf w) {r0 : Nat} {x1 : Int32} {x2 : Int32} {x3 : Int32} {x4 : Int32} {x5 : Int32} {M : Mem} {r : Int32} {M2 : Mem} (h : f_X6_rule r0 x1 x2 x3 x4 x5 M = some (r, M2)) : Ct l w yX6_rule cX6_rule 6 (some .int) 3 [rv w r0, .int x1, .int x2, .int x3, .int x4, .int x5] M (some (.int r)) M2 := by
  refine ct_of hw (by decide) (cat_s (rv_cat _ _) (cat_s rfl (cat_s rfl (cat_s rfl (cat_s rfl (cat_s rfl cat_0)))))) (Nat.le_of_ble_eq_true rfl) (fun f _ C hR => ?_)
  show Go w f 0 [some (rv w r0), some (.int x1), some (.int x2), some (.int x3), some (.int x4), some (.int x5)] [] M
  unfold f_X6_rule at h
  refine g_iload_n C dX6_rule_0 rfl rfl ?_
  refine g_iload_n C dX6_rule_1 rfl rfl ?_
  refine g_iload C dX6_rule_2 rfl ?_
  refine g_callS (As := [.int x1, .int x2, .int x4]) C (ct_X6_isRule C.wf rfl) lk_RX6_115 mi_X6_isRule (by decide) cs_0 (by decide) dX6_rule_4 rfl ?_
  show Go w f 7 [some (rv w r0), some (.int x1), some (.int x2), some (.int x3), some (.int x4), some (.int x5)] [.int (f_X6_isRule x1 x2 x4)] M
  refine g_if_eq 25 C dX6_rule_7 (by decide) (fun c1 => ?_) (fun c1 => ?_)
  · replace h := of_ift h c1
    refine g_iconst (v := -1) C dX6_rule_25 rfl ?_
    cases h
    exact hR 26 _ ⟨.int, rfl, rfl⟩ dX6_rule_26
  · replace h := of_iff h c1
    refine g_iload C dX6_rule_10 rfl ?_
    refine g_iconst (v := -1) C dX6_rule_12 rfl ?_
    refine g_icmp_eq 27 C dX6_rule_13 (by decide) (fun c2 => ?_) (fun c2 => ?_)
    · replace h := of_ift h c2
      refine g_aload_n C dX6_rule_27 rfl rfl ?_
      obtain ⟨g3, h⟩ := of_gdd h
      refine gf_6_0 C fl_RX6_7 g3 dX6_rule_28 ?_
      refine g_iconst (v := 4) C dX6_rule_31 rfl ?_
      obtain ⟨g4, h⟩ := of_gdd h
      obtain ⟨g5, h⟩ := of_gdd h
      refine g_iald C g4 g5 dX6_rule_32 ?_
      refine g_bipush (v := 10) C dX6_rule_33 rfl ?_
      refine g_icmp_ne 41 C dX6_rule_35 (by decide) (fun c6 => ?_) (fun c6 => ?_)
      · replace h := of_iff h c6
        refine g_aload_n C dX6_rule_41 rfl rfl ?_
        obtain ⟨M7, e8, h⟩ := of_obb h
        refine g_callV (As := []) C (ct_X6_records C.wf e8) g3 lk_RX6_112 mi_X6_records (by decide) cs_0 (by decide) dX6_rule_42 rfl ?_
        show Go w f 45 [some (rv w r0), some (.int x1), some (.int x2), some (.int x3), some (.int x4), some (.int x5)] [] M7
        refine g_aload_n C dX6_rule_45 rfl rfl ?_
        refine g_iload_n C dX6_rule_46 rfl rfl ?_
        refine g_iload_n C dX6_rule_47 rfl rfl ?_
        refine g_iload_n C dX6_rule_48 rfl rfl ?_
        refine g_iload C dX6_rule_49 rfl ?_
        refine g_iload C dX6_rule_51 rfl ?_
        obtain ⟨M9, e10, h⟩ := of_obb h
        refine g_callV (As := [.int x1, .int x2, .int x3, .int x4, .int x5]) C (ct_X6_addsRuling C.wf e10) g3 lk_RX6_121 mi_X6_addsRuling (by decide) cs_0 (by decide) dX6_rule_53 rfl ?_
        show Go w f 56 [some (rv w r0), some (.int x1), some (.int x2), some (.int x3), some (.int x4), some (.int x5)] [] M9
        refine g_aload_n C dX6_rule_56 rfl rfl ?_
        refine gf_6_0 C fl_RX6_7 g3 dX6_rule_57 ?_
        refine g_iconst (v := 4) C dX6_rule_60 rfl ?_
        refine g_iald C g4 g5 dX6_rule_61 ?_
        refine g_iconst (v := 1) C dX6_rule_62 rfl ?_
        refine g_isub C dX6_rule_63 ?_
        cases h
        exact hR 64 _ ⟨.int, rfl, rfl⟩ dX6_rule_64
      · replace h := of_ift h c6
        refine g_bipush (v := -3) C dX6_rule_38 rfl ?_
        cases h
        exact hR 40 _ ⟨.int, rfl, rfl⟩ dX6_rule_40
    · replace h := of_iff h c2
      refine g_aload_n C dX6_rule_16 rfl rfl ?_
      refine g_iload C dX6_rule_17 rfl ?_
      obtain ⟨g11, h⟩ := of_gdd h
      obtain ⟨y12, e13, h⟩ := of_obb h
      refine g_callV (As := [.int x5]) C (ct_X6_isRuling C.wf e13) g11 lk_RX6_118 mi_X6_isRuling (by decide) cs_0 (by decide) dX6_rule_19 rfl ?_
      show Go w f 22 [some (rv w r0), some (.int x1), some (.int x2), some (.int x3), some (.int x4), some (.int x5)] [.int y12] M
      refine g_if_ne 27 C dX6_rule_22 (by decide) (fun c14 => ?_) (fun c14 => ?_)
      · replace h := of_iff h c14
        refine g_aload_n C dX6_rule_27 rfl rfl ?_
        refine gf_6_0 C fl_RX6_7 g11 dX6_rule_28 ?_
        refine g_iconst (v := 4) C dX6_rule_31 rfl ?_
        obtain ⟨g15, h⟩ := of_gdd h
        obtain ⟨g16, h⟩ := of_gdd h
        refine g_iald C g15 g16 dX6_rule_32 ?_
        refine g_bipush (v := 10) C dX6_rule_33 rfl ?_
        refine g_icmp_ne 41 C dX6_rule_35 (by decide) (fun c17 => ?_) (fun c17 => ?_)
        · replace h := of_iff h c17
          refine g_aload_n C dX6_rule_41 rfl rfl ?_
          obtain ⟨M18, e19, h⟩ := of_obb h
          refine g_callV (As := []) C (ct_X6_records C.wf e19) g11 lk_RX6_112 mi_X6_records (by decide) cs_0 (by decide) dX6_rule_42 rfl ?_
          show Go w f 45 [some (rv w r0), some (.int x1), some (.int x2), some (.int x3), some (.int x4), some (.int x5)] [] M18
          refine g_aload_n C dX6_rule_45 rfl rfl ?_
          refine g_iload_n C dX6_rule_46 rfl rfl ?_
          refine g_iload_n C dX6_rule_47 rfl rfl ?_
          refine g_iload_n C dX6_rule_48 rfl rfl ?_
          refine g_iload C dX6_rule_49 rfl ?_
          refine g_iload C dX6_rule_51 rfl ?_
          obtain ⟨M20, e21, h⟩ := of_obb h
          refine g_callV (As := [.int x1, .int x2, .int x3, .int x4, .int x5]) C (ct_X6_addsRuling C.wf e21) g11 lk_RX6_121 mi_X6_addsRuling (by decide) cs_0 (by decide) dX6_rule_53 rfl ?_
          show Go w f 56 [some (rv w r0), some (.int x1), some (.int x2), some (.int x3), some (.int x4), some (.int x5)] [] M20
          refine g_aload_n C dX6_rule_56 rfl rfl ?_
          refine gf_6_0 C fl_RX6_7 g11 dX6_rule_57 ?_
          refine g_iconst (v := 4) C dX6_rule_60 rfl ?_
          refine g_iald C g15 g16 dX6_rule_61 ?_
          refine g_iconst (v := 1) C dX6_rule_62 rfl ?_
          refine g_isub C dX6_rule_63 ?_
          cases h
          exact hR 64 _ ⟨.int, rfl, rfl⟩ dX6_rule_64
        · replace h := of_ift h c17
          refine g_bipush (v := -3) C dX6_rule_38 rfl ?_
          cases h
          exact hR 40 _ ⟨.int, rfl, rfl⟩ dX6_rule_40
      · replace h := of_ift h c14
        refine g_iconst (v := -1) C dX6_rule_25 rfl ?_
        cases h
        exact hR 26 _ ⟨.int, rfl, rfl⟩ dX6_rule_26
def f_X6_ofRuling (r0 : Nat) (x1 : Int32) (x2 : Int32) (M : Mem) : Option Int32 := gdd (kd r0 = 7) <| gdd (kd (fld r0 0) = 8) <| gdd (inb (((13 : Int32) + ((6 : Int32) * x1)) + x2) (ln (fld r0 0)) = true) <| some (gI M (fld r0 0) (((13 : Int32) + ((6 : Int32) * x1)) + x2).toNatClampNeg)
set_option maxRecDepth 100000 in
set_option maxHeartbeats 4000000 in
theorem ct_X6_ofRuling {l : Launch} {w : Om} (hw : Wf w) {r0 : Nat} {x1 : Int32} {x2 : Int32}  {M : Mem} {r : Int32} (h : f_X6_ofRuling r0 x1 x2 M = some r) : Ct l w yX6_ofRuling cX6_ofRuling 3 (some .int) 0 [rv w r0, .int x1, .int x2] M (some (.int r)) M := by
  refine ct_of hw (by decide) (cat_s (rv_cat _ _) (cat_s rfl (cat_s rfl cat_0))) (Nat.le_of_ble_eq_true rfl) (fun f _ C hR => ?_)
  show Go w f 0 [some (rv w r0), some (.int x1), some (.int x2)] [] M
  unfold f_X6_ofRuling at h
  refine g_aload_n C dX6_ofRuling_0 rfl rfl ?_
  obtain ⟨g1, h⟩ := of_gdd h
  refine gf_6_0 C fl_RX6_7 g1 dX6_ofRuling_1 ?_
  refine g_bipush (v := 13) C dX6_ofRuling_4 rfl ?_
  refine g_bipush (v := 6) C dX6_ofRuling_6 rfl ?_
  refine g_iload_n C dX6_ofRuling_8 rfl rfl ?_
  refine g_imul C dX6_ofRuling_9 ?_
  refine g_iadd C dX6_ofRuling_10 ?_
  refine g_iload_n C dX6_ofRuling_11 rfl rfl ?_
  refine g_iadd C dX6_ofRuling_12 ?_
  obtain ⟨g2, h⟩ := of_gdd h
  obtain ⟨g3, h⟩ := of_gdd h
  refine g_iald C g2 g3 dX6_ofRuling_13 ?_
  cases h
  exact hR 14 _ ⟨.int, rfl, rfl⟩ dX6_ofRuling_14
def f_X6_isForce_4 (M : Mem) : Nat → Nat → Int32 → Int32 → Option Int32
  | 0, _, _, _ => none
  | n + 1, r0, x2, x3 => if x3 < 0 then (gdd (isb x2 = true) <| some x2) else (if x2 = 0 then (gdd (kd r0 = 7) <| obb (f_X6_ofRuling r0 x3 (4 : Int32) M) fun y205 => bvv (y205 - (1 : Int32)) fun y207 => (f_X6_isForce_4 M n) r0 (0 : Int32) y207) else (gdd (kd r0 = 7) <| obb (f_X6_ofRuling r0 x3 (5 : Int32) M) fun y210 => if y210 = 0 then (obb (f_X6_ofRuling r0 x3 (4 : Int32) M) fun y217 => bvv (y217 - (1 : Int32)) fun y219 => (f_X6_isForce_4 M n) r0 (1 : Int32) y219) else (obb (f_X6_ofRuling r0 x3 (4 : Int32) M) fun y213 => bvv (y213 - (1 : Int32)) fun y215 => (f_X6_isForce_4 M n) r0 (0 : Int32) y215)))
set_option maxRecDepth 100000 in
set_option maxHeartbeats 4000000 in
theorem t_X6_isForce_4 {w : Om} {f : Fr} {M : Mem} {r : Int32} (C : Cx w f RX6 cX6_isForce 4 1) (hR : Rt w f cX6_isForce (some .boolean) (some (.int r)) M)   : ∀ (n : Nat) (r0 : Nat) (x2 : Int32) (x3 : Int32), f_X6_isForce_4 M n r0 x2 x3 = some r → Go w f 4 [some (rv w r0), none, some (.int x2), some (.int x3)] [] M := by
  intro n
  induction n with
  | zero =>
    intro r0 x2 x3 h
    cases h
  | succ n ih =>
    intro r0 x2 x3 h
    rw [f_X6_isForce_4] at h
    refine g_iload_n C dX6_isForce_4 rfl rfl ?_
    refine g_if_lt 39 C dX6_isForce_5 (by decide) (fun c201 => ?_) (fun c201 => ?_)
    · replace h := of_ift h c201
      refine g_iload_n C dX6_isForce_39 rfl rfl ?_
      obtain ⟨g202, h⟩ := of_gdd h
      cases h
      exact hR 40 _ ⟨.boolean, rfl, nb_use g202⟩ dX6_isForce_40
    · replace h := of_iff h c201
      refine g_iload_n C dX6_isForce_8 rfl rfl ?_
      refine g_if_eq 25 C dX6_isForce_9 (by decide) (fun c203 => ?_) (fun c203 => ?_)
      · replace h := of_ift h c203
        refine g_iconst (v := 0) C dX6_isForce_25 rfl ?_
        refine g_istore_n C dX6_isForce_26 rfl (by decide) trivial (L2 := [some (rv w r0), none, some (.int (0 : Int32)), some (.int x3)]) rfl ?_
        refine g_aload_n C dX6_isForce_27 rfl rfl ?_
        refine g_iload_n C dX6_isForce_28 rfl rfl ?_
        refine g_iconst (v := 4) C dX6_isForce_29 rfl ?_
        obtain ⟨g204, h⟩ := of_gdd h
        obtain ⟨y205, e206, h⟩ := of_obb h
        refine g_callV (As := [.int x3, .int (4 : Int32)]) C (ct_X6_ofRuling C.wf e206) g204 lk_RX6_46 mi_X6_ofRuling (by decide) cs_0 (by decide) dX6_isForce_30 rfl ?_
        show Go w f 33 [some (rv w r0), none, some (.int (0 : Int32)), some (.int x3)] [.int y205] M
        refine g_iconst (v := 1) C dX6_isForce_33 rfl ?_
        refine g_isub C dX6_isForce_34 ?_
        obtain ⟨y207, e208, h⟩ := of_bvv h
        refine g_topi e208 ?_
        refine g_istore_n C dX6_isForce_35 rfl (by decide) rfl (L2 := [some (rv w r0), none, some (.int (0 : Int32)), some (.int y207)]) rfl ?_
        refine g_goto 4 C dX6_isForce_36 (by decide) ?_
        exact ih r0 (0 : Int32) y207 h
      · replace h := of_iff h c203
        refine g_aload_n C dX6_isForce_12 rfl rfl ?_
        refine g_iload_n C dX6_isForce_13 rfl rfl ?_
        refine g_iconst (v := 5) C dX6_isForce_14 rfl ?_
        obtain ⟨g209, h⟩ := of_gdd h
        obtain ⟨y210, e211, h⟩ := of_obb h
        refine g_callV (As := [.int x3, .int (5 : Int32)]) C (ct_X6_ofRuling C.wf e211) g209 lk_RX6_46 mi_X6_ofRuling (by decide) cs_0 (by decide) dX6_isForce_15 rfl ?_
        show Go w f 18 [some (rv w r0), none, some (.int x2), some (.int x3)] [.int y210] M
        refine g_if_ne 25 C dX6_isForce_18 (by decide) (fun c212 => ?_) (fun c212 => ?_)
        · replace h := of_iff h c212
          refine g_iconst (v := 0) C dX6_isForce_25 rfl ?_
          refine g_istore_n C dX6_isForce_26 rfl (by decide) trivial (L2 := [some (rv w r0), none, some (.int (0 : Int32)), some (.int x3)]) rfl ?_
          refine g_aload_n C dX6_isForce_27 rfl rfl ?_
          refine g_iload_n C dX6_isForce_28 rfl rfl ?_
          refine g_iconst (v := 4) C dX6_isForce_29 rfl ?_
          obtain ⟨y213, e214, h⟩ := of_obb h
          refine g_callV (As := [.int x3, .int (4 : Int32)]) C (ct_X6_ofRuling C.wf e214) g209 lk_RX6_46 mi_X6_ofRuling (by decide) cs_0 (by decide) dX6_isForce_30 rfl ?_
          show Go w f 33 [some (rv w r0), none, some (.int (0 : Int32)), some (.int x3)] [.int y213] M
          refine g_iconst (v := 1) C dX6_isForce_33 rfl ?_
          refine g_isub C dX6_isForce_34 ?_
          obtain ⟨y215, e216, h⟩ := of_bvv h
          refine g_topi e216 ?_
          refine g_istore_n C dX6_isForce_35 rfl (by decide) rfl (L2 := [some (rv w r0), none, some (.int (0 : Int32)), some (.int y215)]) rfl ?_
          refine g_goto 4 C dX6_isForce_36 (by decide) ?_
          exact ih r0 (0 : Int32) y215 h
        · replace h := of_ift h c212
          refine g_iconst (v := 1) C dX6_isForce_21 rfl ?_
          refine g_goto 26 C dX6_isForce_22 (by decide) ?_
          refine g_istore_n C dX6_isForce_26 rfl (by decide) trivial (L2 := [some (rv w r0), none, some (.int (1 : Int32)), some (.int x3)]) rfl ?_
          refine g_aload_n C dX6_isForce_27 rfl rfl ?_
          refine g_iload_n C dX6_isForce_28 rfl rfl ?_
          refine g_iconst (v := 4) C dX6_isForce_29 rfl ?_
          obtain ⟨y217, e218, h⟩ := of_obb h
          refine g_callV (As := [.int x3, .int (4 : Int32)]) C (ct_X6_ofRuling C.wf e218) g209 lk_RX6_46 mi_X6_ofRuling (by decide) cs_0 (by decide) dX6_isForce_30 rfl ?_
          show Go w f 33 [some (rv w r0), none, some (.int (1 : Int32)), some (.int x3)] [.int y217] M
          refine g_iconst (v := 1) C dX6_isForce_33 rfl ?_
          refine g_isub C dX6_isForce_34 ?_
          obtain ⟨y219, e220, h⟩ := of_bvv h
          refine g_topi e220 ?_
          refine g_istore_n C dX6_isForce_35 rfl (by decide) rfl (L2 := [some (rv w r0), none, some (.int (1 : Int32)), some (.int y219)]) rfl ?_
          refine g_goto 4 C dX6_isForce_36 (by decide) ?_
          exact ih r0 (1 : Int32) y219 h
def f_X6_isForce (r0 : Nat) (x1 : Int32) (M : Mem) : Option Int32 := f_X6_isForce_4 M FU r0 (1 : Int32) x1
set_option maxRecDepth 100000 in
set_option maxHeartbeats 4000000 in
theorem ct_X6_isForce {l : Launch} {w : Om} (hw : Wf w) {r0 : Nat} {x1 : Int32}  {M : Mem} {r : Int32} (h : f_X6_isForce r0 x1 M = some r) : Ct l w yX6_isForce cX6_isForce 4 (some .boolean) 1 [rv w r0, .int x1] M (some (.int r)) M := by
  refine ct_of hw (by decide) (cat_s (rv_cat _ _) (cat_s rfl cat_0)) (Nat.le_of_ble_eq_true rfl) (fun f _ C hR => ?_)
  show Go w f 0 [some (rv w r0), some (.int x1), none, none] [] M
  unfold f_X6_isForce at h
  refine g_iconst (v := 1) C dX6_isForce_0 rfl ?_
  refine g_istore_n C dX6_isForce_1 rfl (by decide) rfl (L2 := [some (rv w r0), some (.int x1), some (.int (1 : Int32)), none]) rfl ?_
  refine g_iload_n C dX6_isForce_2 rfl rfl ?_
  refine g_istore_n C dX6_isForce_3 rfl (by decide) rfl (L2 := [some (rv w r0), some (.int x1), some (.int (1 : Int32)), some (.int x1)]) rfl ?_
  refine g_mask (bs := [true, false, true, true]) (L2 := [some (rv w r0), none, some (.int (1 : Int32)), some (.int x1)]) rfl ?_
  exact t_X6_isForce_4 C hR _ r0 (1 : Int32) x1 h
def f_X6_inForce_4 (M : Mem) : Nat → Nat → Int32 → Int32 → Option Int32
  | 0, _, _, _ => none
  | n + 1, r0, x1, x2 => gdd (kd r0 = 7) <| gdd (kd (fld r0 0) = 8) <| gdd (inb (4 : Int32) (ln (fld r0 0)) = true) <| if (gI M (fld r0 0) ((4 : Int32)).toNatClampNeg) ≤ x2 then (some x1) else (obb (f_X6_isForce r0 x2 M) fun y205 => if y205 = 0 then (bvv (x1 + (0 : Int32)) fun y208 => bvv (x2 + (1 : Int32)) fun y210 => (f_X6_inForce_4 M n) r0 y208 y210) else (bvv (x1 + (1 : Int32)) fun y212 => bvv (x2 + (1 : Int32)) fun y214 => (f_X6_inForce_4 M n) r0 y212 y214))
set_option maxRecDepth 100000 in
set_option maxHeartbeats 4000000 in
theorem t_X6_inForce_4 {w : Om} {f : Fr} {M : Mem} {r : Int32} (C : Cx w f RX6 cX6_inForce 3 2) (hR : Rt w f cX6_inForce (some .int) (some (.int r)) M)   : ∀ (n : Nat) (r0 : Nat) (x1 : Int32) (x2 : Int32), f_X6_inForce_4 M n r0 x1 x2 = some r → Go w f 4 [some (rv w r0), some (.int x1), some (.int x2)] [] M := by
  intro n
  induction n with
  | zero =>
    intro r0 x1 x2 h
    cases h
  | succ n ih =>
    intro r0 x1 x2 h
    rw [f_X6_inForce_4] at h
    refine g_iload_n C dX6_inForce_4 rfl rfl ?_
    refine g_aload_n C dX6_inForce_5 rfl rfl ?_
    obtain ⟨g201, h⟩ := of_gdd h
    refine gf_6_0 C fl_RX6_7 g201 dX6_inForce_6 ?_
    refine g_iconst (v := 4) C dX6_inForce_9 rfl ?_
    obtain ⟨g202, h⟩ := of_gdd h
    obtain ⟨g203, h⟩ := of_gdd h
    refine g_iald C g202 g203 dX6_inForce_10 ?_
    refine g_icmp_ge 36 C dX6_inForce_11 (by decide) (fun c204 => ?_) (fun c204 => ?_)
    · replace h := of_ift h c204
      refine g_iload_n C dX6_inForce_36 rfl rfl ?_
      cases h
      exact hR 37 _ ⟨.int, rfl, rfl⟩ dX6_inForce_37
    · replace h := of_iff h c204
      refine g_iload_n C dX6_inForce_14 rfl rfl ?_
      refine g_aload_n C dX6_inForce_15 rfl rfl ?_
      refine g_iload_n C dX6_inForce_16 rfl rfl ?_
      obtain ⟨y205, e206, h⟩ := of_obb h
      refine g_callV (As := [.int x2]) C (ct_X6_isForce C.wf e206) g201 lk_RX6_50 mi_X6_isForce (by decide) (cs_i cs_0) (by decide) dX6_inForce_17 rfl ?_
      show Go w f 20 [some (rv w r0), some (.int x1), some (.int x2)] [.int y205, .int x1] M
      refine g_if_eq 27 C dX6_inForce_20 (by decide) (fun c207 => ?_) (fun c207 => ?_)
      · replace h := of_ift h c207
        refine g_iconst (v := 0) C dX6_inForce_27 rfl ?_
        refine g_iadd C dX6_inForce_28 ?_
        obtain ⟨y208, e209, h⟩ := of_bvv h
        refine g_topi e209 ?_
        refine g_istore_n C dX6_inForce_29 rfl (by decide) (rv_cat _ _) (L2 := [some (rv w r0), some (.int y208), some (.int x2)]) rfl ?_
        obtain ⟨y210, e211, h⟩ := of_bvv h
        refine g_iinc (v := y210) C dX6_inForce_30 rfl e211.symm (by decide) rfl (L2 := [some (rv w r0), some (.int y208), some (.int y210)]) rfl ?_
        refine g_goto 4 C dX6_inForce_33 (by decide) ?_
        exact ih r0 y208 y210 h
      · replace h := of_iff h c207
        refine g_iconst (v := 1) C dX6_inForce_23 rfl ?_
        refine g_goto 28 C dX6_inForce_24 (by decide) ?_
        refine g_iadd C dX6_inForce_28 ?_
        obtain ⟨y212, e213, h⟩ := of_bvv h
        refine g_topi e213 ?_
        refine g_istore_n C dX6_inForce_29 rfl (by decide) (rv_cat _ _) (L2 := [some (rv w r0), some (.int y212), some (.int x2)]) rfl ?_
        obtain ⟨y214, e215, h⟩ := of_bvv h
        refine g_iinc (v := y214) C dX6_inForce_30 rfl e215.symm (by decide) rfl (L2 := [some (rv w r0), some (.int y212), some (.int y214)]) rfl ?_
        refine g_goto 4 C dX6_inForce_33 (by decide) ?_
        exact ih r0 y212 y214 h
def f_X6_inForce (r0 : Nat) (M : Mem) : Option Int32 := f_X6_inForce_4 M FU r0 (0 : Int32) (0 : Int32)
set_option maxRecDepth 100000 in
set_option maxHeartbeats 4000000 in
theorem ct_X6_inForce {l : Launch} {w : Om} (hw : Wf w) {r0 : Nat}  {M : Mem} {r : Int32} (h : f_X6_inForce r0 M = some r) : Ct l w yX6_inForce cX6_inForce 3 (some .int) 2 [rv w r0] M (some (.int r)) M := by
  refine ct_of hw (by decide) (cat_s (rv_cat _ _) cat_0) (Nat.le_of_ble_eq_true rfl) (fun f _ C hR => ?_)
  show Go w f 0 [some (rv w r0), none, none] [] M
  unfold f_X6_inForce at h
  refine g_iconst (v := 0) C dX6_inForce_0 rfl ?_
  refine g_istore_n C dX6_inForce_1 rfl (by decide) (rv_cat _ _) (L2 := [some (rv w r0), some (.int (0 : Int32)), none]) rfl ?_
  refine g_iconst (v := 0) C dX6_inForce_2 rfl ?_
  refine g_istore_n C dX6_inForce_3 rfl (by decide) rfl (L2 := [some (rv w r0), some (.int (0 : Int32)), some (.int (0 : Int32))]) rfl ?_
  exact t_X6_inForce_4 C hR _ r0 (0 : Int32) (0 : Int32) h
def f_X6_overrule (r0 : Nat) (x1 : Int32) (M : Mem) : Option (Int32 × Mem) := gdd (kd r0 = 7) <| obb (f_X6_isRuling r0 x1 M) fun y2 => if y2 = 0 then (some ((-1 : Int32), M)) else (obb (f_X6_ofRuling r0 x1 (5 : Int32) M) fun y5 => if y5 = (1 : Int32) then (some ((-2 : Int32), M)) else (obb (f_X6_records r0 M) fun M8 => obb (f_X6_inForce r0 M8) fun y10 => gdd (kd (fld r0 0) = 8) <| gdd (inb (((13 : Int32) + ((6 : Int32) * x1)) + (5 : Int32)) (ln (fld r0 0)) = true) <| bvv (sI M8 (fld r0 0) (((13 : Int32) + ((6 : Int32) * x1)) + (5 : Int32)).toNatClampNeg (1 : Int32)) fun M14 => obb (f_X6_inForce r0 M14) fun y16 => some (y10 - y16, M14)))
set_option maxRecDepth 100000 in
set_option maxHeartbeats 4000000 in
theorem ct_X6_overrule {l : Launch} {w : Om} (hw : Wf w) {r0 : Nat} {x1 : Int32} {M : Mem} {r : Int32} {M2 : Mem} (h : f_X6_overrule r0 x1 M = some (r, M2)) : Ct l w yX6_overrule cX6_overrule 3 (some .int) 3 [rv w r0, .int x1] M (some (.int r)) M2 := by
  refine ct_of hw (by decide) (cat_s (rv_cat _ _) (cat_s rfl cat_0)) (Nat.le_of_ble_eq_true rfl) (fun f _ C hR => ?_)
  show Go w f 0 [some (rv w r0), some (.int x1), none] [] M
  unfold f_X6_overrule at h
  refine g_aload_n C dX6_overrule_0 rfl rfl ?_
  refine g_iload_n C dX6_overrule_1 rfl rfl ?_
  obtain ⟨g1, h⟩ := of_gdd h
  obtain ⟨y2, e3, h⟩ := of_obb h
  refine g_callV (As := [.int x1]) C (ct_X6_isRuling C.wf e3) g1 lk_RX6_118 mi_X6_isRuling (by decide) cs_0 (by decide) dX6_overrule_2 rfl ?_
  show Go w f 5 [some (rv w r0), some (.int x1), none] [.int y2] M
  refine g_if_ne 10 C dX6_overrule_5 (by decide) (fun c4 => ?_) (fun c4 => ?_)
  · replace h := of_iff h c4
    refine g_aload_n C dX6_overrule_10 rfl rfl ?_
    refine g_iload_n C dX6_overrule_11 rfl rfl ?_
    refine g_iconst (v := 5) C dX6_overrule_12 rfl ?_
    obtain ⟨y5, e6, h⟩ := of_obb h
    refine g_callV (As := [.int x1, .int (5 : Int32)]) C (ct_X6_ofRuling C.wf e6) g1 lk_RX6_46 mi_X6_ofRuling (by decide) cs_0 (by decide) dX6_overrule_13 rfl ?_
    show Go w f 16 [some (rv w r0), some (.int x1), none] [.int y5] M
    refine g_iconst (v := 1) C dX6_overrule_16 rfl ?_
    refine g_icmp_ne 23 C dX6_overrule_17 (by decide) (fun c7 => ?_) (fun c7 => ?_)
    · replace h := of_iff h c7
      refine g_aload_n C dX6_overrule_23 rfl rfl ?_
      obtain ⟨M8, e9, h⟩ := of_obb h
      refine g_callV (As := []) C (ct_X6_records C.wf e9) g1 lk_RX6_112 mi_X6_records (by decide) cs_0 (by decide) dX6_overrule_24 rfl ?_
      show Go w f 27 [some (rv w r0), some (.int x1), none] [] M8
      refine g_aload_n C dX6_overrule_27 rfl rfl ?_
      obtain ⟨y10, e11, h⟩ := of_obb h
      refine g_callV (As := []) C (ct_X6_inForce C.wf e11) g1 lk_RX6_125 mi_X6_inForce (by decide) cs_0 (by decide) dX6_overrule_28 rfl ?_
      show Go w f 31 [some (rv w r0), some (.int x1), none] [.int y10] M8
      refine g_istore_n C dX6_overrule_31 rfl (by decide) rfl (L2 := [some (rv w r0), some (.int x1), some (.int y10)]) rfl ?_
      refine g_aload_n C dX6_overrule_32 rfl rfl ?_
      refine gf_6_0 C fl_RX6_7 g1 dX6_overrule_33 ?_
      refine g_bipush (v := 13) C dX6_overrule_36 rfl ?_
      refine g_bipush (v := 6) C dX6_overrule_38 rfl ?_
      refine g_iload_n C dX6_overrule_40 rfl rfl ?_
      refine g_imul C dX6_overrule_41 ?_
      refine g_iadd C dX6_overrule_42 ?_
      refine g_iconst (v := 5) C dX6_overrule_43 rfl ?_
      refine g_iadd C dX6_overrule_44 ?_
      refine g_iconst (v := 1) C dX6_overrule_45 rfl ?_
      obtain ⟨g12, h⟩ := of_gdd h
      obtain ⟨g13, h⟩ := of_gdd h
      refine g_iast C g12 g13 dX6_overrule_46 ?_
      obtain ⟨M14, e15, h⟩ := of_bvv h
      refine g_mem e15 ?_
      refine g_iload_n C dX6_overrule_47 rfl rfl ?_
      refine g_aload_n C dX6_overrule_48 rfl rfl ?_
      obtain ⟨y16, e17, h⟩ := of_obb h
      refine g_callV (As := []) C (ct_X6_inForce C.wf e17) g1 lk_RX6_125 mi_X6_inForce (by decide) (cs_i cs_0) (by decide) dX6_overrule_49 rfl ?_
      show Go w f 52 [some (rv w r0), some (.int x1), some (.int y10)] [.int y16, .int y10] M14
      refine g_isub C dX6_overrule_52 ?_
      cases h
      exact hR 53 _ ⟨.int, rfl, rfl⟩ dX6_overrule_53
    · replace h := of_ift h c7
      refine g_bipush (v := -2) C dX6_overrule_20 rfl ?_
      cases h
      exact hR 22 _ ⟨.int, rfl, rfl⟩ dX6_overrule_22
  · replace h := of_ift h c4
    refine g_iconst (v := -1) C dX6_overrule_8 rfl ?_
    cases h
    exact hR 9 _ ⟨.int, rfl, rfl⟩ dX6_overrule_9
def f_X6_isEdition (r0 : Nat) (x1 : Int32) (M : Mem) : Option Int32 := gdd (kd r0 = 7) <| gdd (kd (fld r0 0) = 8) <| gdd (inb (3 : Int32) (ln (fld r0 0)) = true) <| some (f_X6_in x1 (0 : Int32) ((gI M (fld r0 0) ((3 : Int32)).toNatClampNeg) - (1 : Int32)))
set_option maxRecDepth 100000 in
set_option maxHeartbeats 4000000 in
theorem ct_X6_isEdition {l : Launch} {w : Om} (hw : Wf w) {r0 : Nat} {x1 : Int32}  {M : Mem} {r : Int32} (h : f_X6_isEdition r0 x1 M = some r) : Ct l w yX6_isEdition cX6_isEdition 2 (some .boolean) 1 [rv w r0, .int x1] M (some (.int r)) M := by
  refine ct_of hw (by decide) (cat_s (rv_cat _ _) (cat_s rfl cat_0)) (Nat.le_of_ble_eq_true rfl) (fun f _ C hR => ?_)
  show Go w f 0 [some (rv w r0), some (.int x1)] [] M
  unfold f_X6_isEdition at h
  refine g_iload_n C dX6_isEdition_0 rfl rfl ?_
  refine g_iconst (v := 0) C dX6_isEdition_1 rfl ?_
  refine g_aload_n C dX6_isEdition_2 rfl rfl ?_
  obtain ⟨g1, h⟩ := of_gdd h
  refine gf_6_0 C fl_RX6_7 g1 dX6_isEdition_3 ?_
  refine g_iconst (v := 3) C dX6_isEdition_6 rfl ?_
  obtain ⟨g2, h⟩ := of_gdd h
  obtain ⟨g3, h⟩ := of_gdd h
  refine g_iald C g2 g3 dX6_isEdition_7 ?_
  refine g_iconst (v := 1) C dX6_isEdition_8 rfl ?_
  refine g_isub C dX6_isEdition_9 ?_
  refine g_callS (As := [.int x1, .int (0 : Int32), .int ((gI M (fld r0 0) ((3 : Int32)).toNatClampNeg) - (1 : Int32))]) C (ct_X6_in C.wf rfl) lk_RX6_42 mi_X6_in (by decide) cs_0 (by decide) dX6_isEdition_10 rfl ?_
  show Go w f 13 [some (rv w r0), some (.int x1)] [.int (f_X6_in x1 (0 : Int32) ((gI M (fld r0 0) ((3 : Int32)).toNatClampNeg) - (1 : Int32)))] M
  cases h
  exact hR 13 _ ⟨.boolean, rfl, nb_use (zb_X6_in ..)⟩ dX6_isEdition_13
def f_X6_drop_32 : Nat → Nat → Int32 → Mem → Option (Int32 × Mem)
  | 0, _, _, _ => none
  | n + 1, r0, x2, M => if (137 : Int32) ≤ x2 then (gdd (kd r0 = 7) <| gdd (kd (fld r0 0) = 8) <| gdd (inb (3 : Int32) (ln (fld r0 0)) = true) <| some (gI M (fld r0 0) ((3 : Int32)).toNatClampNeg, M)) else (gdd (kd r0 = 7) <| if (137 : Int32) ≤ (x2 + (16 : Int32)) then (gdd (kd (fld r0 0) = 8) <| gdd (inb x2 (ln (fld r0 0)) = true) <| bvv (sI M (fld r0 0) (x2).toNatClampNeg (0 : Int32)) fun M209 => bvv (x2 + (1 : Int32)) fun y211 => (f_X6_drop_32 n) r0 y211 M209) else (gdd (kd (fld r0 0) = 8) <| gdd (inb (x2 + (16 : Int32)) (ln (fld r0 0)) = true) <| gdd (inb x2 (ln (fld r0 0)) = true) <| bvv (sI M (fld r0 0) (x2).toNatClampNeg (gI M (fld r0 0) (x2 + (16 : Int32)).toNatClampNeg)) fun M216 => bvv (x2 + (1 : Int32)) fun y218 => (f_X6_drop_32 n) r0 y218 M216))
set_option maxRecDepth 100000 in
set_option maxHeartbeats 4000000 in
theorem t_X6_drop_32 {w : Om} {f : Fr} {r : Int32} {M2 : Mem} (C : Cx w f RX6 cX6_drop 3 2) (hR : Rt w f cX6_drop (some .int) (some (.int r)) M2)   : ∀ (n : Nat) (r0 : Nat) (x2 : Int32) (M : Mem), f_X6_drop_32 n r0 x2 M = some (r, M2) → Go w f 32 [some (rv w r0), none, some (.int x2)] [] M := by
  intro n
  induction n with
  | zero =>
    intro r0 x2 M h
    cases h
  | succ n ih =>
    intro r0 x2 M h
    rw [f_X6_drop_32] at h
    refine g_iload_n C dX6_drop_32 rfl rfl ?_
    refine g_sipush (v := 137) C dX6_drop_33 rfl ?_
    refine g_icmp_ge 74 C dX6_drop_36 (by decide) (fun c201 => ?_) (fun c201 => ?_)
    · replace h := of_ift h c201
      refine g_aload_n C dX6_drop_74 rfl rfl ?_
      obtain ⟨g202, h⟩ := of_gdd h
      refine gf_6_0 C fl_RX6_7 g202 dX6_drop_75 ?_
      refine g_iconst (v := 3) C dX6_drop_78 rfl ?_
      obtain ⟨g203, h⟩ := of_gdd h
      obtain ⟨g204, h⟩ := of_gdd h
      refine g_iald C g203 g204 dX6_drop_79 ?_
      cases h
      exact hR 80 _ ⟨.int, rfl, rfl⟩ dX6_drop_80
    · replace h := of_iff h c201
      refine g_aload_n C dX6_drop_39 rfl rfl ?_
      obtain ⟨g205, h⟩ := of_gdd h
      refine gf_6_0 C fl_RX6_7 g205 dX6_drop_40 ?_
      refine g_iload_n C dX6_drop_43 rfl rfl ?_
      refine g_iload_n C dX6_drop_44 rfl rfl ?_
      refine g_bipush (v := 16) C dX6_drop_45 rfl ?_
      refine g_iadd C dX6_drop_47 ?_
      refine g_sipush (v := 137) C dX6_drop_48 rfl ?_
      refine g_icmp_ge 66 C dX6_drop_51 (by decide) (fun c206 => ?_) (fun c206 => ?_)
      · replace h := of_ift h c206
        refine g_iconst (v := 0) C dX6_drop_66 rfl ?_
        obtain ⟨g207, h⟩ := of_gdd h
        obtain ⟨g208, h⟩ := of_gdd h
        refine g_iast C g207 g208 dX6_drop_67 ?_
        obtain ⟨M209, e210, h⟩ := of_bvv h
        refine g_mem e210 ?_
        obtain ⟨y211, e212, h⟩ := of_bvv h
        refine g_iinc (v := y211) C dX6_drop_68 rfl e212.symm (by decide) trivial (L2 := [some (rv w r0), none, some (.int y211)]) rfl ?_
        refine g_goto 32 C dX6_drop_71 (by decide) ?_
        exact ih r0 y211 M209 h
      · replace h := of_iff h c206
        refine g_aload_n C dX6_drop_54 rfl rfl ?_
        refine gf_6_0 C fl_RX6_7 g205 dX6_drop_55 ?_
        refine g_iload_n C dX6_drop_58 rfl rfl ?_
        refine g_bipush (v := 16) C dX6_drop_59 rfl ?_
        refine g_iadd C dX6_drop_61 ?_
        obtain ⟨g213, h⟩ := of_gdd h
        obtain ⟨g214, h⟩ := of_gdd h
        refine g_iald C g213 g214 dX6_drop_62 ?_
        refine g_goto 67 C dX6_drop_63 (by decide) ?_
        obtain ⟨g215, h⟩ := of_gdd h
        refine g_iast C g213 g215 dX6_drop_67 ?_
        obtain ⟨M216, e217, h⟩ := of_bvv h
        refine g_mem e217 ?_
        obtain ⟨y218, e219, h⟩ := of_bvv h
        refine g_iinc (v := y218) C dX6_drop_68 rfl e219.symm (by decide) trivial (L2 := [some (rv w r0), none, some (.int y218)]) rfl ?_
        refine g_goto 32 C dX6_drop_71 (by decide) ?_
        exact ih r0 y218 M216 h
def f_X6_drop (r0 : Nat) (x1 : Int32) (M : Mem) : Option (Int32 × Mem) := gdd (kd r0 = 7) <| obb (f_X6_isEdition r0 x1 M) fun y2 => if y2 = 0 then (some ((-1 : Int32), M)) else (obb (f_X6_records r0 M) fun M5 => gdd (kd (fld r0 0) = 8) <| gdd (inb (3 : Int32) (ln (fld r0 0)) = true) <| bvv (sI M5 (fld r0 0) ((3 : Int32)).toNatClampNeg ((gI M5 (fld r0 0) ((3 : Int32)).toNatClampNeg) - (1 : Int32))) fun M9 => bvv ((73 : Int32) + ((16 : Int32) * x1)) fun y11 => f_X6_drop_32 FU r0 y11 M9)
set_option maxRecDepth 100000 in
set_option maxHeartbeats 4000000 in
theorem ct_X6_drop {l : Launch} {w : Om} (hw : Wf w) {r0 : Nat} {x1 : Int32} {M : Mem} {r : Int32} {M2 : Mem} (h : f_X6_drop r0 x1 M = some (r, M2)) : Ct l w yX6_drop cX6_drop 3 (some .int) 2 [rv w r0, .int x1] M (some (.int r)) M2 := by
  refine ct_of hw (by decide) (cat_s (rv_cat _ _) (cat_s rfl cat_0)) (Nat.le_of_ble_eq_true rfl) (fun f _ C hR => ?_)
  show Go w f 0 [some (rv w r0), some (.int x1), none] [] M
  unfold f_X6_drop at h
  refine g_aload_n C dX6_drop_0 rfl rfl ?_
  refine g_iload_n C dX6_drop_1 rfl rfl ?_
  obtain ⟨g1, h⟩ := of_gdd h
  obtain ⟨y2, e3, h⟩ := of_obb h
  refine g_callV (As := [.int x1]) C (ct_X6_isEdition C.wf e3) g1 lk_RX6_57 mi_X6_isEdition (by decide) cs_0 (by decide) dX6_drop_2 rfl ?_
  show Go w f 5 [some (rv w r0), some (.int x1), none] [.int y2] M
  refine g_if_ne 10 C dX6_drop_5 (by decide) (fun c4 => ?_) (fun c4 => ?_)
  · replace h := of_iff h c4
    refine g_aload_n C dX6_drop_10 rfl rfl ?_
    obtain ⟨M5, e6, h⟩ := of_obb h
    refine g_callV (As := []) C (ct_X6_records C.wf e6) g1 lk_RX6_112 mi_X6_records (by decide) cs_0 (by decide) dX6_drop_11 rfl ?_
    show Go w f 14 [some (rv w r0), some (.int x1), none] [] M5
    refine g_aload_n C dX6_drop_14 rfl rfl ?_
    refine gf_6_0 C fl_RX6_7 g1 dX6_drop_15 ?_
    refine g_iconst (v := 3) C dX6_drop_18 rfl ?_
    refine g_dup2 C rfl (rv_cat _ _) dX6_drop_19 ?_
    obtain ⟨g7, h⟩ := of_gdd h
    obtain ⟨g8, h⟩ := of_gdd h
    refine g_iald C g7 g8 dX6_drop_20 ?_
    refine g_iconst (v := 1) C dX6_drop_21 rfl ?_
    refine g_isub C dX6_drop_22 ?_
    refine g_iast C g7 g8 dX6_drop_23 ?_
    obtain ⟨M9, e10, h⟩ := of_bvv h
    refine g_mem e10 ?_
    refine g_bipush (v := 73) C dX6_drop_24 rfl ?_
    refine g_bipush (v := 16) C dX6_drop_26 rfl ?_
    refine g_iload_n C dX6_drop_28 rfl rfl ?_
    refine g_imul C dX6_drop_29 ?_
    refine g_iadd C dX6_drop_30 ?_
    obtain ⟨y11, e12, h⟩ := of_bvv h
    refine g_topi e12 ?_
    refine g_istore_n C dX6_drop_31 rfl (by decide) rfl (L2 := [some (rv w r0), some (.int x1), some (.int y11)]) rfl ?_
    refine g_mask (bs := [true, false, true]) (L2 := [some (rv w r0), none, some (.int y11)]) rfl ?_
    exact t_X6_drop_32 C hR _ r0 y11 M9 h
  · replace h := of_ift h c4
    refine g_iconst (v := -1) C dX6_drop_8 rfl ?_
    cases h
    exact hR 9 _ ⟨.int, rfl, rfl⟩ dX6_drop_9
