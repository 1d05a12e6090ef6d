def f_X5_put (r0 : Nat) (x1 : Int32) (x2 : Int32) (M : Mem) : Option Mem := if x1 < 0 then (some M) else (gdd (kd r0 = 8) <| if (nI (ln r0)) ≤ x1 then (some M) else (gdd (inb x1 (ln r0) = true) <| bvv (sI M r0 (x1).toNatClampNeg x2) fun M5 => some M5))
set_option maxRecDepth 100000 in
set_option maxHeartbeats 4000000 in
theorem ct_X5_put {l : Launch} {w : Om} (hw : Wf w) {r0 : Nat} {x1 : Int32} {x2 : Int32} {M : Mem} {M2 : Mem} (h : f_X5_put r0 x1 x2 M = some M2) : Ct l w yX5_put cX5_put 3 none 0 [rv w r0, .int x1, .int x2] M none M2 := by
  refine ct_of hw (by decide) (cat_s (rv_cat _ _) (cat_s rfl (cat_s rfl cat_0))) (Nat.le_of_ble_eq_true rfl) (fun f _ C hR => ?_)
  show Go w f 0 [some (rv w r0), some (.int x1), some (.int x2)] [] M
  unfold f_X5_put at h
  refine g_iload_n C dX5_put_0 rfl rfl ?_
  refine g_if_lt 14 C dX5_put_1 (by decide) (fun c1 => ?_) (fun c1 => ?_)
  · replace h := of_ift h c1
    cases h
    exact hR 14 _ rfl dX5_put_14
  · replace h := of_iff h c1
    refine g_iload_n C dX5_put_4 rfl rfl ?_
    refine g_aload_n C dX5_put_5 rfl rfl ?_
    obtain ⟨g2, h⟩ := of_gdd h
    refine g_alen C (Or.inl g2) dX5_put_6 ?_
    refine g_icmp_ge 14 C dX5_put_7 (by decide) (fun c3 => ?_) (fun c3 => ?_)
    · replace h := of_ift h c3
      cases h
      exact hR 14 _ rfl dX5_put_14
    · replace h := of_iff h c3
      refine g_aload_n C dX5_put_10 rfl rfl ?_
      refine g_iload_n C dX5_put_11 rfl rfl ?_
      refine g_iload_n C dX5_put_12 rfl rfl ?_
      obtain ⟨g4, h⟩ := of_gdd h
      refine g_iast C g2 g4 dX5_put_13 ?_
      obtain ⟨M5, e6, h⟩ := of_bvv h
      refine g_mem e6 ?_
      cases h
      exact hR 14 _ rfl dX5_put_14
def f_X4_editionAt (r0 : Nat) (x1 : Int32) (M : Mem) : Option Nat := if x1 < 0 then (some 0) else (gdd (kd r0 = 5) <| if (gI M r0 4) ≤ x1 then (some 0) else (gdd (kd (fld r0 2) = 9) <| if (nI (ln (fld r0 2))) ≤ x1 then (some 0) else (gdd (inb x1 (ln (fld r0 2)) = true) <| some (fld (fld r0 2) (x1).toNatClampNeg))))
set_option maxRecDepth 100000 in
set_option maxHeartbeats 4000000 in
theorem ct_X4_editionAt {l : Launch} {w : Om} (hw : Wf w) {r0 : Nat} {x1 : Int32}  {M : Mem} {r : Nat} (h : f_X4_editionAt r0 x1 M = some r) : Ct l w yX4_editionAt cX4_editionAt 2 (some (.object "CommaCourt$Edition")) 0 [rv w r0, .int x1] M (some (rv w r)) M := by
  refine ct_of hw (by decide) (cat_s (rv_cat _ _) (cat_s rfl cat_0)) (Nat.le_of_ble_eq_true rfl) (fun f _ C hR => ?_)
  show Go w f 0 [some (rv w r0), some (.int x1)] [] M
  unfold f_X4_editionAt at h
  refine g_iload_n C dX4_editionAt_0 rfl rfl ?_
  refine g_if_lt 30 C dX4_editionAt_1 (by decide) (fun c1 => ?_) (fun c1 => ?_)
  · replace h := of_ift h c1
    refine g_null C dX4_editionAt_30 ?_
    cases h
    exact RtA_use hR 31 _ (Or.inl ⟨_, rfl⟩) dX4_editionAt_31
  · replace h := of_iff h c1
    refine g_iload_n C dX4_editionAt_4 rfl rfl ?_
    refine g_aload_n C dX4_editionAt_5 rfl rfl ?_
    obtain ⟨g2, h⟩ := of_gdd h
    refine gf_4_4 C fl_RX4_40 g2 dX4_editionAt_6 ?_
    refine g_icmp_ge 30 C dX4_editionAt_9 (by decide) (fun c3 => ?_) (fun c3 => ?_)
    · replace h := of_ift h c3
      refine g_null C dX4_editionAt_30 ?_
      cases h
      exact RtA_use hR 31 _ (Or.inl ⟨_, rfl⟩) dX4_editionAt_31
    · replace h := of_iff h c3
      refine g_iload_n C dX4_editionAt_12 rfl rfl ?_
      refine g_aload_n C dX4_editionAt_13 rfl rfl ?_
      refine gf_4_2 C fl_RX4_20 g2 dX4_editionAt_14 ?_
      obtain ⟨g4, h⟩ := of_gdd h
      refine g_alen C (Or.inr (Or.inl g4)) dX4_editionAt_17 ?_
      refine g_icmp_ge 30 C dX4_editionAt_18 (by decide) (fun c5 => ?_) (fun c5 => ?_)
      · replace h := of_ift h c5
        refine g_null C dX4_editionAt_30 ?_
        cases h
        exact RtA_use hR 31 _ (Or.inl ⟨_, rfl⟩) dX4_editionAt_31
      · replace h := of_iff h c5
        refine g_aload_n C dX4_editionAt_21 rfl rfl ?_
        refine gf_4_2 C fl_RX4_20 g2 dX4_editionAt_22 ?_
        refine g_iload_n C dX4_editionAt_25 rfl rfl ?_
        obtain ⟨g6, h⟩ := of_gdd h
        refine g_aald C (Or.inl g4) g6 dX4_editionAt_26 ?_
        refine g_goto 31 C dX4_editionAt_27 (by decide) ?_
        cases h
        exact RtA_use hR 31 _ (Or.inl ⟨_, rfl⟩) dX4_editionAt_31
def f_X4_isStayed (r0 : Nat) (r1 : Nat) (M : Mem) : Option Int32 := gdd (kd r0 = 5) <| gdd (kd r1 = 1) <| if (gI M r1 3) ≤ (gI M r0 6) then (some (0 : Int32)) else (some (1 : Int32))
set_option maxRecDepth 100000 in
set_option maxHeartbeats 4000000 in
theorem ct_X4_isStayed {l : Launch} {w : Om} (hw : Wf w) {r0 : Nat} {r1 : Nat}  {M : Mem} {r : Int32} (h : f_X4_isStayed r0 r1 M = some r) : Ct l w yX4_isStayed cX4_isStayed 2 (some .boolean) 0 [rv w r0, rv w r1] M (some (.int r)) M := by
  refine ct_of hw (by decide) (cat_s (rv_cat _ _) (cat_s (rv_cat _ _) cat_0)) (Nat.le_of_ble_eq_true rfl) (fun f _ C hR => ?_)
  show Go w f 0 [some (rv w r0), some (rv w r1)] [] M
  unfold f_X4_isStayed at h
  refine g_aload_n C dX4_isStayed_0 rfl rfl ?_
  obtain ⟨g1, h⟩ := of_gdd h
  refine gf_4_6 C fl_RX4_63 g1 dX4_isStayed_1 ?_
  refine g_aload_n C dX4_isStayed_4 rfl rfl ?_
  obtain ⟨g2, h⟩ := of_gdd h
  refine gf_0_3 C fl_RX4_82 g2 dX4_isStayed_5 ?_
  refine g_icmp_ge 15 C dX4_isStayed_8 (by decide) (fun c3 => ?_) (fun c3 => ?_)
  · replace h := of_ift h c3
    refine g_iconst (v := 0) C dX4_isStayed_15 rfl ?_
    cases h
    exact hR 16 _ ⟨.boolean, rfl, rfl⟩ dX4_isStayed_16
  · replace h := of_iff h c3
    refine g_iconst (v := 1) C dX4_isStayed_11 rfl ?_
    refine g_goto 16 C dX4_isStayed_12 (by decide) ?_
    cases h
    exact hR 16 _ ⟨.boolean, rfl, rfl⟩ dX4_isStayed_16
def f_X4_stayedEditions_4 (M : Mem) : Nat → Nat → Int32 → Int32 → Option Int32
  | 0, _, _, _ => none
  | n + 1, r0, x1, x2 => gdd (kd r0 = 5) <| if (gI M r0 4) ≤ x2 then (some x1) else (obb (f_X4_editionAt r0 x2 M) fun y203 => if y203 = 0 then (bvv (x2 + (1 : Int32)) fun y206 => (f_X4_stayedEditions_4 M n) r0 x1 y206) else (obb (f_X4_isStayed r0 y203 M) fun y208 => if y208 = 0 then (bvv (x2 + (1 : Int32)) fun y211 => (f_X4_stayedEditions_4 M n) r0 x1 y211) else (bvv (x1 + (1 : Int32)) fun y213 => bvv (x2 + (1 : Int32)) fun y215 => (f_X4_stayedEditions_4 M n) r0 y213 y215)))
set_option maxRecDepth 100000 in
set_option maxHeartbeats 4000000 in
theorem t_X4_stayedEditions_4 {w : Om} {f : Fr} {M : Mem} {r : Int32} (C : Cx w f RX4 cX4_stayedEditions 4 1) (hR : Rt w f cX4_stayedEditions (some .int) (some (.int r)) M)   : ∀ (n : Nat) (r0 : Nat) (x1 : Int32) (x2 : Int32), f_X4_stayedEditions_4 M n r0 x1 x2 = some r → Go w f 4 [some (rv w r0), some (.int x1), some (.int x2), none] [] M := by
  intro n
  induction n with
  | zero =>
    intro r0 x1 x2 h
    cases h
  | succ n ih =>
    intro r0 x1 x2 h
    rw [f_X4_stayedEditions_4] at h
    refine g_iload_n C dX4_stayedEditions_4 rfl rfl ?_
    refine g_aload_n C dX4_stayedEditions_5 rfl rfl ?_
    obtain ⟨g201, h⟩ := of_gdd h
    refine gf_4_4 C fl_RX4_40 g201 dX4_stayedEditions_6 ?_
    refine g_icmp_ge 39 C dX4_stayedEditions_9 (by decide) (fun c202 => ?_) (fun c202 => ?_)
    · replace h := of_ift h c202
      refine g_iload_n C dX4_stayedEditions_39 rfl rfl ?_
      cases h
      exact hR 40 _ ⟨.int, rfl, rfl⟩ dX4_stayedEditions_40
    · replace h := of_iff h c202
      refine g_aload_n C dX4_stayedEditions_12 rfl rfl ?_
      refine g_iload_n C dX4_stayedEditions_13 rfl rfl ?_
      obtain ⟨y203, e204, h⟩ := of_obb h
      refine g_callV (As := [.int x2]) C (ct_X4_editionAt C.wf e204) g201 lk_RX4_47 mi_X4_editionAt (by decide) cs_0 (by decide) dX4_stayedEditions_14 rfl ?_
      show Go w f 17 [some (rv w r0), some (.int x1), some (.int x2), none] [rv w y203] M
      refine g_astore_n C dX4_stayedEditions_17 rfl (by decide) rfl (L2 := [some (rv w r0), some (.int x1), some (.int x2), some (rv w y203)]) rfl ?_
      refine g_aload_n C dX4_stayedEditions_18 rfl rfl ?_
      refine g_ifnull 33 C dX4_stayedEditions_19 (by decide) (fun c205 => ?_) (fun c205 => ?_)
      · replace h := of_ift h c205
        obtain ⟨y206, e207, h⟩ := of_bvv h
        refine g_iinc (v := y206) C dX4_stayedEditions_33 rfl e207.symm (by decide) rfl (L2 := [some (rv w r0), some (.int x1), some (.int y206), some (rv w y203)]) rfl ?_
        refine g_goto 4 C dX4_stayedEditions_36 (by decide) ?_
        refine g_mask (bs := [true, true, true, false]) (L2 := [some (rv w r0), some (.int x1), some (.int y206), none]) rfl ?_
        exact ih r0 x1 y206 h
      · replace h := of_iff h c205
        refine g_aload_n C dX4_stayedEditions_22 rfl rfl ?_
        refine g_aload_n C dX4_stayedEditions_23 rfl rfl ?_
        obtain ⟨y208, e209, h⟩ := of_obb h
        refine g_callV (As := [rv w y203]) C (ct_X4_isStayed C.wf e209) g201 lk_RX4_85 mi_X4_isStayed (by decide) cs_0 (by decide) dX4_stayedEditions_24 rfl ?_
        show Go w f 27 [some (rv w r0), some (.int x1), some (.int x2), some (rv w y203)] [.int y208] M
        refine g_if_eq 33 C dX4_stayedEditions_27 (by decide) (fun c210 => ?_) (fun c210 => ?_)
        · replace h := of_ift h c210
          obtain ⟨y211, e212, h⟩ := of_bvv h
          refine g_iinc (v := y211) C dX4_stayedEditions_33 rfl e212.symm (by decide) rfl (L2 := [some (rv w r0), some (.int x1), some (.int y211), some (rv w y203)]) rfl ?_
          refine g_goto 4 C dX4_stayedEditions_36 (by decide) ?_
          refine g_mask (bs := [true, true, true, false]) (L2 := [some (rv w r0), some (.int x1), some (.int y211), none]) rfl ?_
          exact ih r0 x1 y211 h
        · replace h := of_iff h c210
          obtain ⟨y213, e214, h⟩ := of_bvv h
          refine g_iinc (v := y213) C dX4_stayedEditions_30 rfl e214.symm (by decide) (rv_cat _ _) (L2 := [some (rv w r0), some (.int y213), some (.int x2), some (rv w y203)]) rfl ?_
          obtain ⟨y215, e216, h⟩ := of_bvv h
          refine g_iinc (v := y215) C dX4_stayedEditions_33 rfl e216.symm (by decide) rfl (L2 := [some (rv w r0), some (.int y213), some (.int y215), some (rv w y203)]) rfl ?_
          refine g_goto 4 C dX4_stayedEditions_36 (by decide) ?_
          refine g_mask (bs := [true, true, true, false]) (L2 := [some (rv w r0), some (.int y213), some (.int y215), none]) rfl ?_
          exact ih r0 y213 y215 h
def f_X4_stayedEditions (r0 : Nat) (M : Mem) : Option Int32 := f_X4_stayedEditions_4 M FU r0 (0 : Int32) (0 : Int32)
set_option maxRecDepth 100000 in
set_option maxHeartbeats 4000000 in
theorem ct_X4_stayedEditions {l : Launch} {w : Om} (hw : Wf w) {r0 : Nat}  {M : Mem} {r : Int32} (h : f_X4_stayedEditions r0 M = some r) : Ct l w yX4_stayedEditions cX4_stayedEditions 4 (some .int) 1 [rv w r0] M (some (.int r)) M := by
  refine ct_of hw (by decide) (cat_s (rv_cat _ _) cat_0) (Nat.le_of_ble_eq_true rfl) (fun f _ C hR => ?_)
  show Go w f 0 [some (rv w r0), none, none, none] [] M
  unfold f_X4_stayedEditions at h
  refine g_iconst (v := 0) C dX4_stayedEditions_0 rfl ?_
  refine g_istore_n C dX4_stayedEditions_1 rfl (by decide) (rv_cat _ _) (L2 := [some (rv w r0), some (.int (0 : Int32)), none, none]) rfl ?_
  refine g_iconst (v := 0) C dX4_stayedEditions_2 rfl ?_
  refine g_istore_n C dX4_stayedEditions_3 rfl (by decide) rfl (L2 := [some (rv w r0), some (.int (0 : Int32)), some (.int (0 : Int32)), none]) rfl ?_
  exact t_X4_stayedEditions_4 C hR _ r0 (0 : Int32) (0 : Int32) h
def f_X5_at (r0 : Nat) (x1 : Int32) (M : Mem) : Option Int32 := if x1 < 0 then (some (0 : Int32)) else (gdd (kd r0 = 8) <| if (nI (ln r0)) ≤ x1 then (some (0 : Int32)) else (gdd (inb x1 (ln r0) = true) <| some (gI M r0 (x1).toNatClampNeg)))
set_option maxRecDepth 100000 in
set_option maxHeartbeats 4000000 in
theorem ct_X5_at {l : Launch} {w : Om} (hw : Wf w) {r0 : Nat} {x1 : Int32}  {M : Mem} {r : Int32} (h : f_X5_at r0 x1 M = some r) : Ct l w yX5_at cX5_at 2 (some .int) 0 [rv w r0, .int x1] M (some (.int r)) M := by
  refine ct_of hw (by decide) (cat_s (rv_cat _ _) (cat_s rfl cat_0)) (Nat.le_of_ble_eq_true rfl) (fun f _ C hR => ?_)
  show Go w f 0 [some (rv w r0), some (.int x1)] [] M
  unfold f_X5_at at h
  refine g_iload_n C dX5_at_0 rfl rfl ?_
  refine g_if_lt 16 C dX5_at_1 (by decide) (fun c1 => ?_) (fun c1 => ?_)
  · replace h := of_ift h c1
    refine g_iconst (v := 0) C dX5_at_16 rfl ?_
    cases h
    exact hR 17 _ ⟨.int, rfl, rfl⟩ dX5_at_17
  · replace h := of_iff h c1
    refine g_iload_n C dX5_at_4 rfl rfl ?_
    refine g_aload_n C dX5_at_5 rfl rfl ?_
    obtain ⟨g2, h⟩ := of_gdd h
    refine g_alen C (Or.inl g2) dX5_at_6 ?_
    refine g_icmp_ge 16 C dX5_at_7 (by decide) (fun c3 => ?_) (fun c3 => ?_)
    · replace h := of_ift h c3
      refine g_iconst (v := 0) C dX5_at_16 rfl ?_
      cases h
      exact hR 17 _ ⟨.int, rfl, rfl⟩ dX5_at_17
    · replace h := of_iff h c3
      refine g_aload_n C dX5_at_10 rfl rfl ?_
      refine g_iload_n C dX5_at_11 rfl rfl ?_
      obtain ⟨g4, h⟩ := of_gdd h
      refine g_iald C g2 g4 dX5_at_12 ?_
      refine g_goto 17 C dX5_at_13 (by decide) ?_
      cases h
      exact hR 17 _ ⟨.int, rfl, rfl⟩ dX5_at_17
def f_X0_kindAt (r0 : Nat) (x1 : Int32) (M : Mem) : Option Int32 := if x1 < 0 then (some (0 : Int32)) else (gdd (kd r0 = 1) <| gdd (kd (fld r0 0) = 8) <| if (nI (ln (fld r0 0))) ≤ x1 then (some (0 : Int32)) else (gdd (inb x1 (ln (fld r0 0)) = true) <| some (gI M (fld r0 0) (x1).toNatClampNeg)))
set_option maxRecDepth 100000 in
set_option maxHeartbeats 4000000 in
theorem ct_X0_kindAt {l : Launch} {w : Om} (hw : Wf w) {r0 : Nat} {x1 : Int32}  {M : Mem} {r : Int32} (h : f_X0_kindAt r0 x1 M = some r) : Ct l w yX0_kindAt cX0_kindAt 2 (some .int) 0 [rv w r0, .int x1] M (some (.int r)) M := by
  refine ct_of hw (by decide) (cat_s (rv_cat _ _) (cat_s rfl cat_0)) (Nat.le_of_ble_eq_true rfl) (fun f _ C hR => ?_)
  show Go w f 0 [some (rv w r0), some (.int x1)] [] M
  unfold f_X0_kindAt at h
  refine g_iload_n C dX0_kindAt_0 rfl rfl ?_
  refine g_if_lt 22 C dX0_kindAt_1 (by decide) (fun c1 => ?_) (fun c1 => ?_)
  · replace h := of_ift h c1
    refine g_iconst (v := 0) C dX0_kindAt_22 rfl ?_
    cases h
    exact hR 23 _ ⟨.int, rfl, rfl⟩ dX0_kindAt_23
  · replace h := of_iff h c1
    refine g_iload_n C dX0_kindAt_4 rfl rfl ?_
    refine g_aload_n C dX0_kindAt_5 rfl rfl ?_
    obtain ⟨g2, h⟩ := of_gdd h
    refine gf_0_0 C fl_RX0_9 g2 dX0_kindAt_6 ?_
    obtain ⟨g3, h⟩ := of_gdd h
    refine g_alen C (Or.inl g3) dX0_kindAt_9 ?_
    refine g_icmp_ge 22 C dX0_kindAt_10 (by decide) (fun c4 => ?_) (fun c4 => ?_)
    · replace h := of_ift h c4
      refine g_iconst (v := 0) C dX0_kindAt_22 rfl ?_
      cases h
      exact hR 23 _ ⟨.int, rfl, rfl⟩ dX0_kindAt_23
    · replace h := of_iff h c4
      refine g_aload_n C dX0_kindAt_13 rfl rfl ?_
      refine gf_0_0 C fl_RX0_9 g2 dX0_kindAt_14 ?_
      refine g_iload_n C dX0_kindAt_17 rfl rfl ?_
      obtain ⟨g5, h⟩ := of_gdd h
      refine g_iald C g3 g5 dX0_kindAt_18 ?_
      refine g_goto 23 C dX0_kindAt_19 (by decide) ?_
      cases h
      exact hR 23 _ ⟨.int, rfl, rfl⟩ dX0_kindAt_23
def f_X4_rulingAt (r0 : Nat) (x1 : Int32) (M : Mem) : Option Nat := if x1 < 0 then (some 0) else (gdd (kd r0 = 5) <| if (gI M r0 5) ≤ x1 then (some 0) else (gdd (kd (fld r0 3) = 10) <| if (nI (ln (fld r0 3))) ≤ x1 then (some 0) else (gdd (inb x1 (ln (fld r0 3)) = true) <| some (fld (fld r0 3) (x1).toNatClampNeg))))
set_option maxRecDepth 100000 in
set_option maxHeartbeats 4000000 in
theorem ct_X4_rulingAt {l : Launch} {w : Om} (hw : Wf w) {r0 : Nat} {x1 : Int32}  {M : Mem} {r : Nat} (h : f_X4_rulingAt r0 x1 M = some r) : Ct l w yX4_rulingAt cX4_rulingAt 2 (some (.object "CommaCourt$Ruling")) 0 [rv w r0, .int x1] M (some (rv w r)) M := by
  refine ct_of hw (by decide) (cat_s (rv_cat _ _) (cat_s rfl cat_0)) (Nat.le_of_ble_eq_true rfl) (fun f _ C hR => ?_)
  show Go w f 0 [some (rv w r0), some (.int x1)] [] M
  unfold f_X4_rulingAt at h
  refine g_iload_n C dX4_rulingAt_0 rfl rfl ?_
  refine g_if_lt 30 C dX4_rulingAt_1 (by decide) (fun c1 => ?_) (fun c1 => ?_)
  · replace h := of_ift h c1
    refine g_null C dX4_rulingAt_30 ?_
    cases h
    exact RtA_use hR 31 _ (Or.inl ⟨_, rfl⟩) dX4_rulingAt_31
  · replace h := of_iff h c1
    refine g_iload_n C dX4_rulingAt_4 rfl rfl ?_
    refine g_aload_n C dX4_rulingAt_5 rfl rfl ?_
    obtain ⟨g2, h⟩ := of_gdd h
    refine gf_4_5 C fl_RX4_44 g2 dX4_rulingAt_6 ?_
    refine g_icmp_ge 30 C dX4_rulingAt_9 (by decide) (fun c3 => ?_) (fun c3 => ?_)
    · replace h := of_ift h c3
      refine g_null C dX4_rulingAt_30 ?_
      cases h
      exact RtA_use hR 31 _ (Or.inl ⟨_, rfl⟩) dX4_rulingAt_31
    · replace h := of_iff h c3
      refine g_iload_n C dX4_rulingAt_12 rfl rfl ?_
      refine g_aload_n C dX4_rulingAt_13 rfl rfl ?_
      refine gf_4_3 C fl_RX4_26 g2 dX4_rulingAt_14 ?_
      obtain ⟨g4, h⟩ := of_gdd h
      refine g_alen C (Or.inr (Or.inr (Or.inl g4))) dX4_rulingAt_17 ?_
      refine g_icmp_ge 30 C dX4_rulingAt_18 (by decide) (fun c5 => ?_) (fun c5 => ?_)
      · replace h := of_ift h c5
        refine g_null C dX4_rulingAt_30 ?_
        cases h
        exact RtA_use hR 31 _ (Or.inl ⟨_, rfl⟩) dX4_rulingAt_31
      · replace h := of_iff h c5
        refine g_aload_n C dX4_rulingAt_21 rfl rfl ?_
        refine gf_4_3 C fl_RX4_26 g2 dX4_rulingAt_22 ?_
        refine g_iload_n C dX4_rulingAt_25 rfl rfl ?_
        obtain ⟨g6, h⟩ := of_gdd h
        refine g_aald C (Or.inr g4) g6 dX4_rulingAt_26 ?_
        refine g_goto 31 C dX4_rulingAt_27 (by decide) ?_
        cases h
        exact RtA_use hR 31 _ (Or.inl ⟨_, rfl⟩) dX4_rulingAt_31
def f_X4_countingAbout_7 (M : Mem) : Nat → Nat → Int32 → Int32 → Int32 → Option Int32
  | 0, _, _, _, _ => none
  | n + 1, r0, x1, x2, x3 => if x3 < 0 then (some (-4 : Int32)) else (gdd (kd r0 = 5) <| obb (f_X4_rulingAt r0 x3 M) fun y203 => if y203 = 0 then (bvv (x3 + (-1 : Int32)) fun y206 => (f_X4_countingAbout_7 M n) r0 x1 x2 y206) else (gdd (kd y203 = 3) <| if (gI M y203 6) = 0 then (bvv (x3 + (-1 : Int32)) fun y210 => (f_X4_countingAbout_7 M n) r0 x1 x2 y210) else (if (gI M y203 0) = x1 then (if (gI M y203 1) = x2 then (some x3) else (bvv (x3 + (-1 : Int32)) fun y216 => (f_X4_countingAbout_7 M n) r0 x1 x2 y216)) else (bvv (x3 + (-1 : Int32)) fun y213 => (f_X4_countingAbout_7 M n) r0 x1 x2 y213))))
set_option maxRecDepth 100000 in
set_option maxHeartbeats 4000000 in
theorem t_X4_countingAbout_7 {w : Om} {f : Fr} {M : Mem} {r : Int32} (C : Cx w f RX4 cX4_countingAbout 5 1) (hR : Rt w f cX4_countingAbout (some .int) (some (.int r)) M)   : ∀ (n : Nat) (r0 : Nat) (x1 : Int32) (x2 : Int32) (x3 : Int32), f_X4_countingAbout_7 M n r0 x1 x2 x3 = some r → Go w f 7 [some (rv w r0), some (.int x1), some (.int x2), some (.int x3), none] [] M := by
  intro n
  induction n with
  | zero =>
    intro r0 x1 x2 x3 h
    cases h
  | succ n ih =>
    intro r0 x1 x2 x3 h
    rw [f_X4_countingAbout_7] at h
    refine g_iload_n C dX4_countingAbout_7 rfl rfl ?_
    refine g_if_lt 57 C dX4_countingAbout_8 (by decide) (fun c201 => ?_) (fun c201 => ?_)
    · replace h := of_ift h c201
      refine g_bipush (v := -4) C dX4_countingAbout_57 rfl ?_
      cases h
      exact hR 59 _ ⟨.int, rfl, rfl⟩ dX4_countingAbout_59
    · replace h := of_iff h c201
      refine g_aload_n C dX4_countingAbout_11 rfl rfl ?_
      refine g_iload_n C dX4_countingAbout_12 rfl rfl ?_
      obtain ⟨g202, h⟩ := of_gdd h
      obtain ⟨y203, e204, h⟩ := of_obb h
      refine g_callV (As := [.int x3]) C (ct_X4_rulingAt C.wf e204) g202 lk_RX4_55 mi_X4_rulingAt (by decide) cs_0 (by decide) dX4_countingAbout_13 rfl ?_
      show Go w f 16 [some (rv w r0), some (.int x1), some (.int x2), some (.int x3), none] [rv w y203] M
      refine g_astore C dX4_countingAbout_16 (by decide) rfl (L2 := [some (rv w r0), some (.int x1), some (.int x2), some (.int x3), some (rv w y203)]) rfl ?_
      refine g_aload C dX4_countingAbout_18 rfl ?_
      refine g_ifnull 51 C dX4_countingAbout_20 (by decide) (fun c205 => ?_) (fun c205 => ?_)
      · replace h := of_ift h c205
        obtain ⟨y206, e207, h⟩ := of_bvv h
        refine g_iinc (v := y206) C dX4_countingAbout_51 rfl e207.symm (by decide) rfl (L2 := [some (rv w r0), some (.int x1), some (.int x2), some (.int y206), some (rv w y203)]) rfl ?_
        refine g_goto 7 C dX4_countingAbout_54 (by decide) ?_
        refine g_mask (bs := [true, true, true, true, false]) (L2 := [some (rv w r0), some (.int x1), some (.int x2), some (.int y206), none]) rfl ?_
        exact ih r0 x1 x2 y206 h
      · replace h := of_iff h c205
        refine g_aload C dX4_countingAbout_23 rfl ?_
        obtain ⟨g208, h⟩ := of_gdd h
        refine gf_2_6 C fl_RX4_119 g208 dX4_countingAbout_25 ?_
        refine g_if_eq 51 C dX4_countingAbout_28 (by decide) (fun c209 => ?_) (fun c209 => ?_)
        · replace h := of_ift h c209
          obtain ⟨y210, e211, h⟩ := of_bvv h
          refine g_iinc (v := y210) C dX4_countingAbout_51 rfl e211.symm (by decide) rfl (L2 := [some (rv w r0), some (.int x1), some (.int x2), some (.int y210), some (rv w y203)]) rfl ?_
          refine g_goto 7 C dX4_countingAbout_54 (by decide) ?_
          refine g_mask (bs := [true, true, true, true, false]) (L2 := [some (rv w r0), some (.int x1), some (.int x2), some (.int y210), none]) rfl ?_
          exact ih r0 x1 x2 y210 h
        · replace h := of_iff h c209
          refine g_aload C dX4_countingAbout_31 rfl ?_
          refine gf_2_0 C fl_RX4_97 g208 dX4_countingAbout_33 ?_
          refine g_iload_n C dX4_countingAbout_36 rfl rfl ?_
          refine g_icmp_ne 51 C dX4_countingAbout_37 (by decide) (fun c212 => ?_) (fun c212 => ?_)
          · replace h := of_iff h c212
            obtain ⟨y213, e214, h⟩ := of_bvv h
            refine g_iinc (v := y213) C dX4_countingAbout_51 rfl e214.symm (by decide) rfl (L2 := [some (rv w r0), some (.int x1), some (.int x2), some (.int y213), some (rv w y203)]) rfl ?_
            refine g_goto 7 C dX4_countingAbout_54 (by decide) ?_
            refine g_mask (bs := [true, true, true, true, false]) (L2 := [some (rv w r0), some (.int x1), some (.int x2), some (.int y213), none]) rfl ?_
            exact ih r0 x1 x2 y213 h
          · replace h := of_ift h c212
            refine g_aload C dX4_countingAbout_40 rfl ?_
            refine gf_2_1 C fl_RX4_100 g208 dX4_countingAbout_42 ?_
            refine g_iload_n C dX4_countingAbout_45 rfl rfl ?_
            refine g_icmp_ne 51 C dX4_countingAbout_46 (by decide) (fun c215 => ?_) (fun c215 => ?_)
            · replace h := of_iff h c215
              obtain ⟨y216, e217, h⟩ := of_bvv h
              refine g_iinc (v := y216) C dX4_countingAbout_51 rfl e217.symm (by decide) rfl (L2 := [some (rv w r0), some (.int x1), some (.int x2), some (.int y216), some (rv w y203)]) rfl ?_
              refine g_goto 7 C dX4_countingAbout_54 (by decide) ?_
              refine g_mask (bs := [true, true, true, true, false]) (L2 := [some (rv w r0), some (.int x1), some (.int x2), some (.int y216), none]) rfl ?_
              exact ih r0 x1 x2 y216 h
            · replace h := of_ift h c215
              refine g_iload_n C dX4_countingAbout_49 rfl rfl ?_
              cases h
              exact hR 50 _ ⟨.int, rfl, rfl⟩ dX4_countingAbout_50
def f_X4_countingAbout (r0 : Nat) (x1 : Int32) (x2 : Int32) (M : Mem) : Option Int32 := gdd (kd r0 = 5) <| bvv ((gI M r0 5) - (1 : Int32)) fun y2 => f_X4_countingAbout_7 M FU r0 x1 x2 y2
set_option maxRecDepth 100000 in
set_option maxHeartbeats 4000000 in
theorem ct_X4_countingAbout {l : Launch} {w : Om} (hw : Wf w) {r0 : Nat} {x1 : Int32} {x2 : Int32}  {M : Mem} {r : Int32} (h : f_X4_countingAbout r0 x1 x2 M = some r) : Ct l w yX4_countingAbout cX4_countingAbout 5 (some .int) 1 [rv w r0, .int x1, .int x2] M (some (.int r)) M := by
  refine ct_of hw (by decide) (cat_s (rv_cat _ _) (cat_s rfl (cat_s rfl cat_0))) (Nat.le_of_ble_eq_true rfl) (fun f _ C hR => ?_)
  show Go w f 0 [some (rv w r0), some (.int x1), some (.int x2), none, none] [] M
  unfold f_X4_countingAbout at h
  refine g_aload_n C dX4_countingAbout_0 rfl rfl ?_
  obtain ⟨g1, h⟩ := of_gdd h
  refine gf_4_5 C fl_RX4_44 g1 dX4_countingAbout_1 ?_
  refine g_iconst (v := 1) C dX4_countingAbout_4 rfl ?_
  refine g_isub C dX4_countingAbout_5 ?_
  obtain ⟨y2, e3, h⟩ := of_bvv h
  refine g_topi e3 ?_
  refine g_istore_n C dX4_countingAbout_6 rfl (by decide) rfl (L2 := [some (rv w r0), some (.int x1), some (.int x2), some (.int y2), none]) rfl ?_
  exact t_X4_countingAbout_7 C hR _ r0 x1 x2 y2 h
def f_X4_countingAt (r0 : Nat) (r1 : Nat) (x2 : Int32) (M : Mem) : Option Int32 := gdd (kd r1 = 1) <| obb (f_X0_kindAt r1 x2 M) fun y2 => obb (f_X0_kindAt r1 (x2 + (1 : Int32)) M) fun y4 => gdd (kd r0 = 5) <| obb (f_X4_countingAbout r0 y2 y4 M) fun y7 => some y7
set_option maxRecDepth 100000 in
set_option maxHeartbeats 4000000 in
theorem ct_X4_countingAt {l : Launch} {w : Om} (hw : Wf w) {r0 : Nat} {r1 : Nat} {x2 : Int32}  {M : Mem} {r : Int32} (h : f_X4_countingAt r0 r1 x2 M = some r) : Ct l w yX4_countingAt cX4_countingAt 3 (some .int) 2 [rv w r0, rv w r1, .int x2] M (some (.int r)) M := by
  refine ct_of hw (by decide) (cat_s (rv_cat _ _) (cat_s (rv_cat _ _) (cat_s rfl cat_0))) (Nat.le_of_ble_eq_true rfl) (fun f _ C hR => ?_)
  show Go w f 0 [some (rv w r0), some (rv w r1), some (.int x2)] [] M
  unfold f_X4_countingAt at h
  refine g_aload_n C dX4_countingAt_0 rfl rfl ?_
  refine g_aload_n C dX4_countingAt_1 rfl rfl ?_
  refine g_iload_n C dX4_countingAt_2 rfl rfl ?_
  obtain ⟨g1, h⟩ := of_gdd h
  obtain ⟨y2, e3, h⟩ := of_obb h
  refine g_callV (As := [.int x2]) C (ct_X0_kindAt C.wf e3) g1 lk_RX4_126 mi_X0_kindAt (by decide) (cs_r cs_0) (by decide) dX4_countingAt_3 rfl ?_
  show Go w f 6 [some (rv w r0), some (rv w r1), some (.int x2)] [.int y2, rv w r0] M
  refine g_aload_n C dX4_countingAt_6 rfl rfl ?_
  refine g_iload_n C dX4_countingAt_7 rfl rfl ?_
  refine g_iconst (v := 1) C dX4_countingAt_8 rfl ?_
  refine g_iadd C dX4_countingAt_9 ?_
  obtain ⟨y4, e5, h⟩ := of_obb h
  refine g_callV (As := [.int (x2 + (1 : Int32))]) C (ct_X0_kindAt C.wf e5) g1 lk_RX4_126 mi_X0_kindAt (by decide) (cs_i (cs_r cs_0)) (by decide) dX4_countingAt_10 rfl ?_
  show Go w f 13 [some (rv w r0), some (rv w r1), some (.int x2)] [.int y4, .int y2, rv w r0] M
  obtain ⟨g6, h⟩ := of_gdd h
  obtain ⟨y7, e8, h⟩ := of_obb h
  refine g_callV (As := [.int y2, .int y4]) C (ct_X4_countingAbout C.wf e8) g6 lk_RX4_129 mi_X4_countingAbout (by decide) cs_0 (by decide) dX4_countingAt_13 rfl ?_
  show Go w f 16 [some (rv w r0), some (rv w r1), some (.int x2)] [.int y7] M
  cases h
  exact hR 16 _ ⟨.int, rfl, rfl⟩ dX4_countingAt_16
def f_X2_fineFor (r0 : Nat) (x1 : Int32) (M : Mem) : Option Int32 := gdd (kd r0 = 3) <| if (gI M r0 2) = x1 then (some (0 : Int32)) else (some (gI M r0 3))
set_option maxRecDepth 100000 in
set_option maxHeartbeats 4000000 in
theorem ct_X2_fineFor {l : Launch} {w : Om} (hw : Wf w) {r0 : Nat} {x1 : Int32}  {M : Mem} {r : Int32} (h : f_X2_fineFor r0 x1 M = some r) : Ct l w yX2_fineFor cX2_fineFor 2 (some .int) 0 [rv w r0, .int x1] M (some (.int r)) M := by
  refine ct_of hw (by decide) (cat_s (rv_cat _ _) (cat_s rfl cat_0)) (Nat.le_of_ble_eq_true rfl) (fun f _ C hR => ?_)
  show Go w f 0 [some (rv w r0), some (.int x1)] [] M
  unfold f_X2_fineFor at h
  refine g_aload_n C dX2_fineFor_0 rfl rfl ?_
  obtain ⟨g1, h⟩ := of_gdd h
  refine gf_2_2 C fl_RX2_16 g1 dX2_fineFor_1 ?_
  refine g_iload_n C dX2_fineFor_4 rfl rfl ?_
  refine g_icmp_ne 12 C dX2_fineFor_5 (by decide) (fun c2 => ?_) (fun c2 => ?_)
  · replace h := of_iff h c2
    refine g_aload_n C dX2_fineFor_12 rfl rfl ?_
    refine gf_2_3 C fl_RX2_20 g1 dX2_fineFor_13 ?_
    cases h
    exact hR 16 _ ⟨.int, rfl, rfl⟩ dX2_fineFor_16
  · replace h := of_ift h c2
    refine g_iconst (v := 0) C dX2_fineFor_8 rfl ?_
    refine g_goto 16 C dX2_fineFor_9 (by decide) ?_
    cases h
    exact hR 16 _ ⟨.int, rfl, rfl⟩ dX2_fineFor_16
def f_X3_read_70 : Nat → Nat → Nat → Nat → Int32 → Mem → Option Mem
  | 0, _, _, _, _, _ => none
  | n + 1, r0, r1, r2, x3, M => gdd (kd r0 = 4) <| if ((gI M r0 4) - (1 : Int32)) ≤ x3 then (some M) else (gdd (kd r1 = 5) <| obb (f_X4_countingAt r1 r2 x3 M) fun y304 => obb (f_X4_rulingAt r1 y304 M) fun y306 => if y306 = 0 then (obb (f_X5_put (fld r0 1) x3 (0 : Int32) M) fun M320 => if y306 = 0 then (obb (f_X5_put (fld r0 2) x3 (0 : Int32) M320) fun M330 => bvv (x3 + (1 : Int32)) fun y332 => (f_X3_read_70 n) r0 r1 r2 y332 M330) else (gdd (kd y306 = 3) <| obb (f_X2_fineFor y306 (0 : Int32) M320) fun y324 => obb (f_X5_put (fld r0 2) x3 y324 M320) fun M326 => bvv (x3 + (1 : Int32)) fun y328 => (f_X3_read_70 n) r0 r1 r2 y328 M326)) else (gdd (kd y306 = 3) <| obb (f_X2_fineFor y306 (1 : Int32) M) fun y310 => obb (f_X5_put (fld r0 1) x3 y310 M) fun M312 => obb (f_X2_fineFor y306 (0 : Int32) M312) fun y314 => obb (f_X5_put (fld r0 2) x3 y314 M312) fun M316 => bvv (x3 + (1 : Int32)) fun y318 => (f_X3_read_70 n) r0 r1 r2 y318 M316))
set_option maxRecDepth 100000 in
set_option maxHeartbeats 4000000 in
theorem t_X3_read_70 {w : Om} {f : Fr} {M2 : Mem} (C : Cx w f RX3 cX3_read 5 3) (hR : Rt w f cX3_read none none M2)   : ∀ (n : Nat) (r0 : Nat) (r1 : Nat) (r2 : Nat) (x3 : Int32) (M : Mem), f_X3_read_70 n r0 r1 r2 x3 M = some M2 → Go w f 70 [some (rv w r0), some (rv w r1), some (rv w r2), some (.int x3), none] [] M := by
  intro n
  induction n with
  | zero =>
    intro r0 r1 r2 x3 M h
    cases h
  | succ n ih =>
    intro r0 r1 r2 x3 M h
    rw [f_X3_read_70] at h
    refine g_iload_n C dX3_read_70 rfl rfl ?_
    refine g_aload_n C dX3_read_71 rfl rfl ?_
    obtain ⟨g301, h⟩ := of_gdd h
    refine gf_3_4 C fl_RX3_30 g301 dX3_read_72 ?_
    refine g_iconst (v := 1) C dX3_read_75 rfl ?_
    refine g_isub C dX3_read_76 ?_
    refine g_icmp_ge 144 C dX3_read_77 (by decide) (fun c302 => ?_) (fun c302 => ?_)
    · replace h := of_ift h c302
      cases h
      exact hR 144 _ rfl dX3_read_144
    · replace h := of_iff h c302
      refine g_aload_n C dX3_read_80 rfl rfl ?_
      refine g_aload_n C dX3_read_81 rfl rfl ?_
      refine g_aload_n C dX3_read_82 rfl rfl ?_
      refine g_iload_n C dX3_read_83 rfl rfl ?_
      obtain ⟨g303, h⟩ := of_gdd h
      obtain ⟨y304, e305, h⟩ := of_obb h
      refine g_callV (As := [rv w r2, .int x3]) C (ct_X4_countingAt C.wf e305) g303 lk_RX3_55 mi_X4_countingAt (by decide) (cs_r cs_0) (by decide) dX3_read_84 rfl ?_
      show Go w f 87 [some (rv w r0), some (rv w r1), some (rv w r2), some (.int x3), none] [.int y304, rv w r1] M
      obtain ⟨y306, e307, h⟩ := of_obb h
      refine g_callV (As := [.int y304]) C (ct_X4_rulingAt C.wf e307) g303 lk_RX3_59 mi_X4_rulingAt (by decide) cs_0 (by decide) dX3_read_87 rfl ?_
      show Go w f 90 [some (rv w r0), some (rv w r1), some (rv w r2), some (.int x3), none] [rv w y306] M
      refine g_astore C dX3_read_90 (by decide) rfl (L2 := [some (rv w r0), some (rv w r1), some (rv w r2), some (.int x3), some (rv w y306)]) rfl ?_
      refine g_aload_n C dX3_read_92 rfl rfl ?_
      refine gf_3_1 C fl_RX3_15 g301 dX3_read_93 ?_
      refine g_iload_n C dX3_read_96 rfl rfl ?_
      refine g_aload C dX3_read_97 rfl ?_
      refine g_ifnonnull 106 C dX3_read_99 (by decide) (fun c308 => ?_) (fun c308 => ?_)
      · replace h := of_iff h c308
        refine g_aload C dX3_read_106 rfl ?_
        refine g_iconst (v := 1) C dX3_read_108 rfl ?_
        obtain ⟨g309, h⟩ := of_gdd h
        obtain ⟨y310, e311, h⟩ := of_obb h
        refine g_callV (As := [.int (1 : Int32)]) C (ct_X2_fineFor C.wf e311) g309 lk_RX3_63 mi_X2_fineFor (by decide) (cs_i (cs_r cs_0)) (by decide) dX3_read_109 rfl ?_
        show Go w f 112 [some (rv w r0), some (rv w r1), some (rv w r2), some (.int x3), some (rv w y306)] [.int y310, .int x3, rv w (fld r0 1)] M
        obtain ⟨M312, e313, h⟩ := of_obb h
        refine g_callSN (As := [rv w (fld r0 1), .int x3, .int y310]) C (ct_X5_put C.wf e313) ln_RX3_51 mi_X5_put (by decide) cs_0 (by decide) dX3_read_112 rfl ?_
        show Go w f 115 [some (rv w r0), some (rv w r1), some (rv w r2), some (.int x3), some (rv w y306)] [] M312
        refine g_aload_n C dX3_read_115 rfl rfl ?_
        refine gf_3_2 C fl_RX3_18 g301 dX3_read_116 ?_
        refine g_iload_n C dX3_read_119 rfl rfl ?_
        refine g_aload C dX3_read_120 rfl ?_
        refine g_ifnonnull 129 C dX3_read_122 (by decide) (fun _ => ?_) (fun c => absurd c (kd_ne0 g309 (by decide)))
        refine g_aload C dX3_read_129 rfl ?_
        refine g_iconst (v := 0) C dX3_read_131 rfl ?_
        obtain ⟨y314, e315, h⟩ := of_obb h
        refine g_callV (As := [.int (0 : Int32)]) C (ct_X2_fineFor C.wf e315) g309 lk_RX3_63 mi_X2_fineFor (by decide) (cs_i (cs_r cs_0)) (by decide) dX3_read_132 rfl ?_
        show Go w f 135 [some (rv w r0), some (rv w r1), some (rv w r2), some (.int x3), some (rv w y306)] [.int y314, .int x3, rv w (fld r0 2)] M312
        obtain ⟨M316, e317, h⟩ := of_obb h
        refine g_callSN (As := [rv w (fld r0 2), .int x3, .int y314]) C (ct_X5_put C.wf e317) ln_RX3_51 mi_X5_put (by decide) cs_0 (by decide) dX3_read_135 rfl ?_
        show Go w f 138 [some (rv w r0), some (rv w r1), some (rv w r2), some (.int x3), some (rv w y306)] [] M316
        obtain ⟨y318, e319, h⟩ := of_bvv h
        refine g_iinc (v := y318) C dX3_read_138 rfl e319.symm (by decide) (rv_cat _ _) (L2 := [some (rv w r0), some (rv w r1), some (rv w r2), some (.int y318), some (rv w y306)]) rfl ?_
        refine g_goto 70 C dX3_read_141 (by decide) ?_
        refine g_mask (bs := [true, true, true, true, false]) (L2 := [some (rv w r0), some (rv w r1), some (rv w r2), some (.int y318), none]) rfl ?_
        exact ih r0 r1 r2 y318 M316 h
      · replace h := of_ift h c308
        refine g_iconst (v := 0) C dX3_read_102 rfl ?_
        refine g_goto 112 C dX3_read_103 (by decide) ?_
        obtain ⟨M320, e321, h⟩ := of_obb h
        refine g_callSN (As := [rv w (fld r0 1), .int x3, .int (0 : Int32)]) C (ct_X5_put C.wf e321) ln_RX3_51 mi_X5_put (by decide) cs_0 (by decide) dX3_read_112 rfl ?_
        show Go w f 115 [some (rv w r0), some (rv w r1), some (rv w r2), some (.int x3), some (rv w y306)] [] M320
        refine g_aload_n C dX3_read_115 rfl rfl ?_
        refine gf_3_2 C fl_RX3_18 g301 dX3_read_116 ?_
        refine g_iload_n C dX3_read_119 rfl rfl ?_
        refine g_aload C dX3_read_120 rfl ?_
        refine g_ifnonnull 129 C dX3_read_122 (by decide) (fun c322 => ?_) (fun c322 => ?_)
        · replace h := of_iff h c322
          refine g_aload C dX3_read_129 rfl ?_
          refine g_iconst (v := 0) C dX3_read_131 rfl ?_
          obtain ⟨g323, h⟩ := of_gdd h
          obtain ⟨y324, e325, h⟩ := of_obb h
          refine g_callV (As := [.int (0 : Int32)]) C (ct_X2_fineFor C.wf e325) g323 lk_RX3_63 mi_X2_fineFor (by decide) (cs_i (cs_r cs_0)) (by decide) dX3_read_132 rfl ?_
          show Go w f 135 [some (rv w r0), some (rv w r1), some (rv w r2), some (.int x3), some (rv w y306)] [.int y324, .int x3, rv w (fld r0 2)] M320
          obtain ⟨M326, e327, h⟩ := of_obb h
          refine g_callSN (As := [rv w (fld r0 2), .int x3, .int y324]) C (ct_X5_put C.wf e327) ln_RX3_51 mi_X5_put (by decide) cs_0 (by decide) dX3_read_135 rfl ?_
          show Go w f 138 [some (rv w r0), some (rv w r1), some (rv w r2), some (.int x3), some (rv w y306)] [] M326
          obtain ⟨y328, e329, h⟩ := of_bvv h
          refine g_iinc (v := y328) C dX3_read_138 rfl e329.symm (by decide) (rv_cat _ _) (L2 := [some (rv w r0), some (rv w r1), some (rv w r2), some (.int y328), some (rv w y306)]) rfl ?_
          refine g_goto 70 C dX3_read_141 (by decide) ?_
          refine g_mask (bs := [true, true, true, true, false]) (L2 := [some (rv w r0), some (rv w r1), some (rv w r2), some (.int y328), none]) rfl ?_
          exact ih r0 r1 r2 y328 M326 h
        · replace h := of_ift h c322
          refine g_iconst (v := 0) C dX3_read_125 rfl ?_
          refine g_goto 135 C dX3_read_126 (by decide) ?_
          obtain ⟨M330, e331, h⟩ := of_obb h
          refine g_callSN (As := [rv w (fld r0 2), .int x3, .int (0 : Int32)]) C (ct_X5_put C.wf e331) ln_RX3_51 mi_X5_put (by decide) cs_0 (by decide) dX3_read_135 rfl ?_
          show Go w f 138 [some (rv w r0), some (rv w r1), some (rv w r2), some (.int x3), some (rv w y306)] [] M330
          obtain ⟨y332, e333, h⟩ := of_bvv h
          refine g_iinc (v := y332) C dX3_read_138 rfl e333.symm (by decide) (rv_cat _ _) (L2 := [some (rv w r0), some (rv w r1), some (rv w r2), some (.int y332), some (rv w y306)]) rfl ?_
          refine g_goto 70 C dX3_read_141 (by decide) ?_
          refine g_mask (bs := [true, true, true, true, false]) (L2 := [some (rv w r0), some (rv w r1), some (rv w r2), some (.int y332), none]) rfl ?_
          exact ih r0 r1 r2 y332 M330 h
def f_X3_read_34 : Nat → Nat → Nat → Nat → Int32 → Mem → Option Mem
  | 0, _, _, _, _, _ => none
  | n + 1, r0, r1, r2, x3, M => gdd (kd r0 = 4) <| if (gI M r0 4) ≤ x3 then (f_X3_read_70 FU r0 r1 r2 (0 : Int32) M) else (gdd (kd r1 = 5) <| gdd (kd r2 = 1) <| obb (f_X0_kindAt r2 x3 M) fun y205 => obb (f_X5_at (fld r1 0) y205 M) fun y207 => obb (f_X5_put (fld r0 0) x3 y207 M) fun M209 => bvv (x3 + (1 : Int32)) fun y211 => (f_X3_read_34 n) r0 r1 r2 y211 M209)
set_option maxRecDepth 100000 in
set_option maxHeartbeats 4000000 in
theorem t_X3_read_34 {w : Om} {f : Fr} {M2 : Mem} (C : Cx w f RX3 cX3_read 5 3) (hR : Rt w f cX3_read none none M2)   : ∀ (n : Nat) (r0 : Nat) (r1 : Nat) (r2 : Nat) (x3 : Int32) (M : Mem), f_X3_read_34 n r0 r1 r2 x3 M = some M2 → Go w f 34 [some (rv w r0), some (rv w r1), some (rv w r2), some (.int x3), none] [] M := by
  intro n
  induction n with
  | zero =>
    intro r0 r1 r2 x3 M h
    cases h
  | succ n ih =>
    intro r0 r1 r2 x3 M h
    rw [f_X3_read_34] at h
    refine g_iload_n C dX3_read_34 rfl rfl ?_
    refine g_aload_n C dX3_read_35 rfl rfl ?_
    obtain ⟨g201, h⟩ := of_gdd h
    refine gf_3_4 C fl_RX3_30 g201 dX3_read_36 ?_
    refine g_icmp_ge 68 C dX3_read_39 (by decide) (fun c202 => ?_) (fun c202 => ?_)
    · replace h := of_ift h c202
      refine g_iconst (v := 0) C dX3_read_68 rfl ?_
      refine g_istore_n C dX3_read_69 rfl (by decide) (rv_cat _ _) (L2 := [some (rv w r0), some (rv w r1), some (rv w r2), some (.int (0 : Int32)), none]) rfl ?_
      exact t_X3_read_70 C hR _ r0 r1 r2 (0 : Int32) M h
    · replace h := of_iff h c202
      refine g_aload_n C dX3_read_42 rfl rfl ?_
      refine gf_3_0 C fl_RX3_9 g201 dX3_read_43 ?_
      refine g_iload_n C dX3_read_46 rfl rfl ?_
      refine g_aload_n C dX3_read_47 rfl rfl ?_
      obtain ⟨g203, h⟩ := of_gdd h
      refine gf_4_0 C fl_RX3_46 g203 dX3_read_48 ?_
      refine g_aload_n C dX3_read_51 rfl rfl ?_
      refine g_iload_n C dX3_read_52 rfl rfl ?_
      obtain ⟨g204, h⟩ := of_gdd h
      obtain ⟨y205, e206, h⟩ := of_obb h
      refine g_callV (As := [.int x3]) C (ct_X0_kindAt C.wf e206) g204 lk_RX3_47 mi_X0_kindAt (by decide) (cs_r (cs_i (cs_r cs_0))) (by decide) dX3_read_53 rfl ?_
      show Go w f 56 [some (rv w r0), some (rv w r1), some (rv w r2), some (.int x3), none] [.int y205, rv w (fld r1 0), .int x3, rv w (fld r0 0)] M
      obtain ⟨y207, e208, h⟩ := of_obb h
      refine g_callSN (As := [rv w (fld r1 0), .int y205]) C (ct_X5_at C.wf e208) ln_RX3_36 mi_X5_at (by decide) (cs_i (cs_r cs_0)) (by decide) dX3_read_56 rfl ?_
      show Go w f 59 [some (rv w r0), some (rv w r1), some (rv w r2), some (.int x3), none] [.int y207, .int x3, rv w (fld r0 0)] M
      obtain ⟨M209, e210, h⟩ := of_obb h
      refine g_callSN (As := [rv w (fld r0 0), .int x3, .int y207]) C (ct_X5_put C.wf e210) ln_RX3_51 mi_X5_put (by decide) cs_0 (by decide) dX3_read_59 rfl ?_
      show Go w f 62 [some (rv w r0), some (rv w r1), some (rv w r2), some (.int x3), none] [] M209
      obtain ⟨y211, e212, h⟩ := of_bvv h
      refine g_iinc (v := y211) C dX3_read_62 rfl e212.symm (by decide) (rv_cat _ _) (L2 := [some (rv w r0), some (rv w r1), some (rv w r2), some (.int y211), none]) rfl ?_
      refine g_goto 34 C dX3_read_65 (by decide) ?_
      exact ih r0 r1 r2 y211 M209 h
def f_X3_read (r0 : Nat) (r1 : Nat) (r2 : Nat) (M : Mem) : Option Mem := gdd (kd r2 = 1) <| gdd (kd r0 = 4) <| bvv (sI M r0 4 (gI M r2 1)) fun M3 => gdd (kd r1 = 5) <| obb (f_X5_at (fld r1 1) (0 : Int32) M3) fun y6 => bvv (sI M3 r0 6 y6) fun M8 => obb (f_X5_at (fld r1 1) (1 : Int32) M8) fun y10 => bvv (sI M8 r0 5 y10) fun M12 => f_X3_read_34 FU r0 r1 r2 (0 : Int32) M12
set_option maxRecDepth 100000 in
set_option maxHeartbeats 4000000 in
theorem ct_X3_read {l : Launch} {w : Om} (hw : Wf w) {r0 : Nat} {r1 : Nat} {r2 : Nat} {M : Mem} {M2 : Mem} (h : f_X3_read r0 r1 r2 M = some M2) : Ct l w yX3_read cX3_read 5 none 3 [rv w r0, rv w r1, rv w r2] M none M2 := by
  refine ct_of hw (by decide) (cat_s (rv_cat _ _) (cat_s (rv_cat _ _) (cat_s (rv_cat _ _) cat_0))) (Nat.le_of_ble_eq_true rfl) (fun f _ C hR => ?_)
  show Go w f 0 [some (rv w r0), some (rv w r1), some (rv w r2), none, none] [] M
  unfold f_X3_read at h
  refine g_aload_n C dX3_read_0 rfl rfl ?_
  refine g_aload_n C dX3_read_1 rfl rfl ?_
  obtain ⟨g1, h⟩ := of_gdd h
  refine gf_0_1 C fl_RX3_24 g1 dX3_read_2 ?_
  obtain ⟨g2, h⟩ := of_gdd h
  refine pf_3_4 C fl_RX3_30 g2 dX3_read_5 ?_
  obtain ⟨M3, e4, h⟩ := of_bvv h
  refine g_mem e4 ?_
  refine g_aload_n C dX3_read_8 rfl rfl ?_
  refine g_aload_n C dX3_read_9 rfl rfl ?_
  obtain ⟨g5, h⟩ := of_gdd h
  refine gf_4_1 C fl_RX3_31 g5 dX3_read_10 ?_
  refine g_iconst (v := 0) C dX3_read_13 rfl ?_
  obtain ⟨y6, e7, h⟩ := of_obb h
  refine g_callSN (As := [rv w (fld r1 1), .int (0 : Int32)]) C (ct_X5_at C.wf e7) ln_RX3_36 mi_X5_at (by decide) (cs_r cs_0) (by decide) dX3_read_14 rfl ?_
  show Go w f 17 [some (rv w r0), some (rv w r1), some (rv w r2), none, none] [.int y6, rv w r0] M3
  refine pf_3_6 C fl_RX3_40 g2 dX3_read_17 ?_
  obtain ⟨M8, e9, h⟩ := of_bvv h
  refine g_mem e9 ?_
  refine g_aload_n C dX3_read_20 rfl rfl ?_
  refine g_aload_n C dX3_read_21 rfl rfl ?_
  refine gf_4_1 C fl_RX3_31 g5 dX3_read_22 ?_
  refine g_iconst (v := 1) C dX3_read_25 rfl ?_
  obtain ⟨y10, e11, h⟩ := of_obb h
  refine g_callSN (As := [rv w (fld r1 1), .int (1 : Int32)]) C (ct_X5_at C.wf e11) ln_RX3_36 mi_X5_at (by decide) (cs_r cs_0) (by decide) dX3_read_26 rfl ?_
  show Go w f 29 [some (rv w r0), some (rv w r1), some (rv w r2), none, none] [.int y10, rv w r0] M8
  refine pf_3_5 C fl_RX3_43 g2 dX3_read_29 ?_
  obtain ⟨M12, e13, h⟩ := of_bvv h
  refine g_mem e13 ?_
  refine g_iconst (v := 0) C dX3_read_32 rfl ?_
  refine g_istore_n C dX3_read_33 rfl (by decide) (rv_cat _ _) (L2 := [some (rv w r0), some (rv w r1), some (rv w r2), some (.int (0 : Int32)), none]) rfl ?_
  exact t_X3_read_34 C hR _ r0 r1 r2 (0 : Int32) M12 h
def f_X3_clauseCost (r0 : Nat) (x1 : Int32) (M : Mem) : Option Int32 := gdd (kd r0 = 4) <| some (if 0 ≤ (x1 - (gI M r0 6)) then (x1 - (gI M r0 6)) else 0 - (x1 - (gI M r0 6)))
set_option maxRecDepth 100000 in
set_option maxHeartbeats 4000000 in
theorem ct_X3_clauseCost {l : Launch} {w : Om} (hw : Wf w) {r0 : Nat} {x1 : Int32}  {M : Mem} {r : Int32} (h : f_X3_clauseCost r0 x1 M = some r) : Ct l w yX3_clauseCost cX3_clauseCost 2 (some .int) 1 [rv w r0, .int x1] M (some (.int r)) M := by
  refine ct_of hw (by decide) (cat_s (rv_cat _ _) (cat_s rfl cat_0)) (Nat.le_of_ble_eq_true rfl) (fun f _ C hR => ?_)
  show Go w f 0 [some (rv w r0), some (.int x1)] [] M
  unfold f_X3_clauseCost at h
  refine g_iload_n C dX3_clauseCost_0 rfl rfl ?_
  refine g_aload_n C dX3_clauseCost_1 rfl rfl ?_
  obtain ⟨g1, h⟩ := of_gdd h
  refine gf_3_6 C fl_RX3_40 g1 dX3_clauseCost_2 ?_
  refine g_isub C dX3_clauseCost_5 ?_
  refine g_mabs C lk_RX3_69 cs_0 (by decide) dX3_clauseCost_6 ?_
  cases h
  exact hR 9 _ ⟨.int, rfl, rfl⟩ dX3_clauseCost_9
def f_X3_clausesCost_7 (M : Mem) : Nat → Nat → Int32 → Int32 → Int32 → Int32 → Option Int32
  | 0, _, _, _, _, _ => none
  | n + 1, r0, x1, x2, x3, x4 => gdd (kd r0 = 4) <| if (gI M r0 4) ≤ x4 then (some x2) else (obb (f_X5_at (fld r0 0) x4 M) fun y203 => bvv (x3 + y203) fun y205 => if x4 = ((gI M r0 4) - (1 : Int32)) then (obb (f_X3_clauseCost r0 y205 M) fun y208 => bvv (x2 + y208) fun y210 => bvv (x4 + (1 : Int32)) fun y212 => (f_X3_clausesCost_7 M n) r0 x1 y210 (0 : Int32) y212) else (if ((x1 >>> (x4 &&& 31)) &&& (1 : Int32)) = (1 : Int32) then (obb (f_X3_clauseCost r0 y205 M) fun y217 => bvv (x2 + y217) fun y219 => bvv (x4 + (1 : Int32)) fun y221 => (f_X3_clausesCost_7 M n) r0 x1 y219 (0 : Int32) y221) else (bvv (x4 + (1 : Int32)) fun y215 => (f_X3_clausesCost_7 M n) r0 x1 x2 y205 y215)))
set_option maxRecDepth 100000 in
set_option maxHeartbeats 4000000 in
theorem t_X3_clausesCost_7 {w : Om} {f : Fr} {M : Mem} {r : Int32} (C : Cx w f RX3 cX3_clausesCost 5 2) (hR : Rt w f cX3_clausesCost (some .int) (some (.int r)) M)   : ∀ (n : Nat) (r0 : Nat) (x1 : Int32) (x2 : Int32) (x3 : Int32) (x4 : Int32), f_X3_clausesCost_7 M n r0 x1 x2 x3 x4 = some r → Go w f 7 [some (rv w r0), some (.int x1), some (.int x2), some (.int x3), some (.int x4)] [] M := by
  intro n
  induction n with
  | zero =>
    intro r0 x1 x2 x3 x4 h
    cases h
  | succ n ih =>
    intro r0 x1 x2 x3 x4 h
    rw [f_X3_clausesCost_7] at h
    refine g_iload C dX3_clausesCost_7 rfl ?_
    refine g_aload_n C dX3_clausesCost_9 rfl rfl ?_
    obtain ⟨g201, h⟩ := of_gdd h
    refine gf_3_4 C fl_RX3_30 g201 dX3_clausesCost_10 ?_
    refine g_icmp_ge 65 C dX3_clausesCost_13 (by decide) (fun c202 => ?_) (fun c202 => ?_)
    · replace h := of_ift h c202
      refine g_iload_n C dX3_clausesCost_65 rfl rfl ?_
      cases h
      exact hR 66 _ ⟨.int, rfl, rfl⟩ dX3_clausesCost_66
    · replace h := of_iff h c202
      refine g_iload_n C dX3_clausesCost_16 rfl rfl ?_
      refine g_aload_n C dX3_clausesCost_17 rfl rfl ?_
      refine gf_3_0 C fl_RX3_9 g201 dX3_clausesCost_18 ?_
      refine g_iload C dX3_clausesCost_21 rfl ?_
      obtain ⟨y203, e204, h⟩ := of_obb h
      refine g_callSN (As := [rv w (fld r0 0), .int x4]) C (ct_X5_at C.wf e204) ln_RX3_36 mi_X5_at (by decide) (cs_i cs_0) (by decide) dX3_clausesCost_23 rfl ?_
      show Go w f 26 [some (rv w r0), some (.int x1), some (.int x2), some (.int x3), some (.int x4)] [.int y203, .int x3] M
      refine g_iadd C dX3_clausesCost_26 ?_
      obtain ⟨y205, e206, h⟩ := of_bvv h
      refine g_topi e206 ?_
      refine g_istore_n C dX3_clausesCost_27 rfl (by decide) rfl (L2 := [some (rv w r0), some (.int x1), some (.int x2), some (.int y205), some (.int x4)]) rfl ?_
      refine g_iload C dX3_clausesCost_28 rfl ?_
      refine g_aload_n C dX3_clausesCost_30 rfl rfl ?_
      refine gf_3_4 C fl_RX3_30 g201 dX3_clausesCost_31 ?_
      refine g_iconst (v := 1) C dX3_clausesCost_34 rfl ?_
      refine g_isub C dX3_clausesCost_35 ?_
      refine g_icmp_eq 49 C dX3_clausesCost_36 (by decide) (fun c207 => ?_) (fun c207 => ?_)
      · replace h := of_ift h c207
        refine g_iload_n C dX3_clausesCost_49 rfl rfl ?_
        refine g_aload_n C dX3_clausesCost_50 rfl rfl ?_
        refine g_iload_n C dX3_clausesCost_51 rfl rfl ?_
        obtain ⟨y208, e209, h⟩ := of_obb h
        refine g_callV (As := [.int y205]) C (ct_X3_clauseCost C.wf e209) g201 lk_RX3_74 mi_X3_clauseCost (by decide) (cs_i cs_0) (by decide) dX3_clausesCost_52 rfl ?_
        show Go w f 55 [some (rv w r0), some (.int x1), some (.int x2), some (.int y205), some (.int x4)] [.int y208, .int x2] M
        refine g_iadd C dX3_clausesCost_55 ?_
        obtain ⟨y210, e211, h⟩ := of_bvv h
        refine g_topi e211 ?_
        refine g_istore_n C dX3_clausesCost_56 rfl (by decide) rfl (L2 := [some (rv w r0), some (.int x1), some (.int y210), some (.int y205), some (.int x4)]) rfl ?_
        refine g_iconst (v := 0) C dX3_clausesCost_57 rfl ?_
        refine g_istore_n C dX3_clausesCost_58 rfl (by decide) rfl (L2 := [some (rv w r0), some (.int x1), some (.int y210), some (.int (0 : Int32)), some (.int x4)]) rfl ?_
        obtain ⟨y212, e213, h⟩ := of_bvv h
        refine g_iinc (v := y212) C dX3_clausesCost_59 rfl e213.symm (by decide) rfl (L2 := [some (rv w r0), some (.int x1), some (.int y210), some (.int (0 : Int32)), some (.int y212)]) rfl ?_
        refine g_goto 7 C dX3_clausesCost_62 (by decide) ?_
        exact ih r0 x1 y210 (0 : Int32) y212 h
      · replace h := of_iff h c207
        refine g_iload_n C dX3_clausesCost_39 rfl rfl ?_
        refine g_iload C dX3_clausesCost_40 rfl ?_
        refine g_ishr C dX3_clausesCost_42 ?_
        refine g_iconst (v := 1) C dX3_clausesCost_43 rfl ?_
        refine g_iand C dX3_clausesCost_44 ?_
        refine g_iconst (v := 1) C dX3_clausesCost_45 rfl ?_
        refine g_icmp_ne 59 C dX3_clausesCost_46 (by decide) (fun c214 => ?_) (fun c214 => ?_)
        · replace h := of_iff h c214
          obtain ⟨y215, e216, h⟩ := of_bvv h
          refine g_iinc (v := y215) C dX3_clausesCost_59 rfl e216.symm (by decide) rfl (L2 := [some (rv w r0), some (.int x1), some (.int x2), some (.int y205), some (.int y215)]) rfl ?_
          refine g_goto 7 C dX3_clausesCost_62 (by decide) ?_
          exact ih r0 x1 x2 y205 y215 h
        · replace h := of_ift h c214
          refine g_iload_n C dX3_clausesCost_49 rfl rfl ?_
          refine g_aload_n C dX3_clausesCost_50 rfl rfl ?_
          refine g_iload_n C dX3_clausesCost_51 rfl rfl ?_
          obtain ⟨y217, e218, h⟩ := of_obb h
          refine g_callV (As := [.int y205]) C (ct_X3_clauseCost C.wf e218) g201 lk_RX3_74 mi_X3_clauseCost (by decide) (cs_i cs_0) (by decide) dX3_clausesCost_52 rfl ?_
          show Go w f 55 [some (rv w r0), some (.int x1), some (.int x2), some (.int y205), some (.int x4)] [.int y217, .int x2] M
          refine g_iadd C dX3_clausesCost_55 ?_
          obtain ⟨y219, e220, h⟩ := of_bvv h
          refine g_topi e220 ?_
          refine g_istore_n C dX3_clausesCost_56 rfl (by decide) rfl (L2 := [some (rv w r0), some (.int x1), some (.int y219), some (.int y205), some (.int x4)]) rfl ?_
          refine g_iconst (v := 0) C dX3_clausesCost_57 rfl ?_
          refine g_istore_n C dX3_clausesCost_58 rfl (by decide) rfl (L2 := [some (rv w r0), some (.int x1), some (.int y219), some (.int (0 : Int32)), some (.int x4)]) rfl ?_
          obtain ⟨y221, e222, h⟩ := of_bvv h
          refine g_iinc (v := y221) C dX3_clausesCost_59 rfl e222.symm (by decide) rfl (L2 := [some (rv w r0), some (.int x1), some (.int y219), some (.int (0 : Int32)), some (.int y221)]) rfl ?_
          refine g_goto 7 C dX3_clausesCost_62 (by decide) ?_
          exact ih r0 x1 y219 (0 : Int32) y221 h
def f_X3_clausesCost (r0 : Nat) (x1 : Int32) (M : Mem) : Option Int32 := f_X3_clausesCost_7 M FU r0 x1 (0 : Int32) (0 : Int32) (0 : Int32)
set_option maxRecDepth 100000 in
set_option maxHeartbeats 4000000 in
theorem ct_X3_clausesCost {l : Launch} {w : Om} (hw : Wf w) {r0 : Nat} {x1 : Int32}  {M : Mem} {r : Int32} (h : f_X3_clausesCost r0 x1 M = some r) : Ct l w yX3_clausesCost cX3_clausesCost 5 (some .int) 2 [rv w r0, .int x1] M (some (.int r)) M := by
  refine ct_of hw (by decide) (cat_s (rv_cat _ _) (cat_s rfl cat_0)) (Nat.le_of_ble_eq_true rfl) (fun f _ C hR => ?_)
  show Go w f 0 [some (rv w r0), some (.int x1), none, none, none] [] M
  unfold f_X3_clausesCost at h
  refine g_iconst (v := 0) C dX3_clausesCost_0 rfl ?_
  refine g_istore_n C dX3_clausesCost_1 rfl (by decide) rfl (L2 := [some (rv w r0), some (.int x1), some (.int (0 : Int32)), none, none]) rfl ?_
  refine g_iconst (v := 0) C dX3_clausesCost_2 rfl ?_
  refine g_istore_n C dX3_clausesCost_3 rfl (by decide) rfl (L2 := [some (rv w r0), some (.int x1), some (.int (0 : Int32)), some (.int (0 : Int32)), none]) rfl ?_
  refine g_iconst (v := 0) C dX3_clausesCost_4 rfl ?_
  refine g_istore C dX3_clausesCost_5 (by decide) rfl (L2 := [some (rv w r0), some (.int x1), some (.int (0 : Int32)), some (.int (0 : Int32)), some (.int (0 : Int32))]) rfl ?_
  exact t_X3_clausesCost_7 C hR _ r0 x1 (0 : Int32) (0 : Int32) (0 : Int32) h
def f_X3_fines_4 (M : Mem) : Nat → Nat → Int32 → Int32 → Int32 → Option Int32
  | 0, _, _, _, _ => none
  | n + 1, r0, x1, x2, x3 => gdd (kd r0 = 4) <| if ((gI M r0 4) - (1 : Int32)) ≤ x3 then (some x2) else (if ((x1 >>> (x3 &&& 31)) &&& (1 : Int32)) = (1 : Int32) then (obb (f_X5_at (fld r0 1) x3 M) fun y210 => bvv (x2 + y210) fun y212 => bvv (x3 + (1 : Int32)) fun y214 => (f_X3_fines_4 M n) r0 x1 y212 y214) else (obb (f_X5_at (fld r0 2) x3 M) fun y204 => bvv (x2 + y204) fun y206 => bvv (x3 + (1 : Int32)) fun y208 => (f_X3_fines_4 M n) r0 x1 y206 y208))
set_option maxRecDepth 100000 in
set_option maxHeartbeats 4000000 in
theorem t_X3_fines_4 {w : Om} {f : Fr} {M : Mem} {r : Int32} (C : Cx w f RX3 cX3_fines 4 1) (hR : Rt w f cX3_fines (some .int) (some (.int r)) M)   : ∀ (n : Nat) (r0 : Nat) (x1 : Int32) (x2 : Int32) (x3 : Int32), f_X3_fines_4 M n r0 x1 x2 x3 = some r → Go w f 4 [some (rv w r0), some (.int x1), some (.int x2), some (.int x3)] [] M := by
  intro n
  induction n with
  | zero =>
    intro r0 x1 x2 x3 h
    cases h
  | succ n ih =>
    intro r0 x1 x2 x3 h
    rw [f_X3_fines_4] at h
    refine g_iload_n C dX3_fines_4 rfl rfl ?_
    refine g_aload_n C dX3_fines_5 rfl rfl ?_
    obtain ⟨g201, h⟩ := of_gdd h
    refine gf_3_4 C fl_RX3_30 g201 dX3_fines_6 ?_
    refine g_iconst (v := 1) C dX3_fines_9 rfl ?_
    refine g_isub C dX3_fines_10 ?_
    refine g_icmp_ge 51 C dX3_fines_11 (by decide) (fun c202 => ?_) (fun c202 => ?_)
    · replace h := of_ift h c202
      refine g_iload_n C dX3_fines_51 rfl rfl ?_
      cases h
      exact hR 52 _ ⟨.int, rfl, rfl⟩ dX3_fines_52
    · replace h := of_iff h c202
      refine g_iload_n C dX3_fines_14 rfl rfl ?_
      refine g_iload_n C dX3_fines_15 rfl rfl ?_
      refine g_iload_n C dX3_fines_16 rfl rfl ?_
      refine g_ishr C dX3_fines_17 ?_
      refine g_iconst (v := 1) C dX3_fines_18 rfl ?_
      refine g_iand C dX3_fines_19 ?_
      refine g_iconst (v := 1) C dX3_fines_20 rfl ?_
      refine g_icmp_ne 35 C dX3_fines_21 (by decide) (fun c203 => ?_) (fun c203 => ?_)
      · replace h := of_iff h c203
        refine g_aload_n C dX3_fines_35 rfl rfl ?_
        refine gf_3_2 C fl_RX3_18 g201 dX3_fines_36 ?_
        refine g_iload_n C dX3_fines_39 rfl rfl ?_
        obtain ⟨y204, e205, h⟩ := of_obb h
        refine g_callSN (As := [rv w (fld r0 2), .int x3]) C (ct_X5_at C.wf e205) ln_RX3_36 mi_X5_at (by decide) (cs_i cs_0) (by decide) dX3_fines_40 rfl ?_
        show Go w f 43 [some (rv w r0), some (.int x1), some (.int x2), some (.int x3)] [.int y204, .int x2] M
        refine g_iadd C dX3_fines_43 ?_
        obtain ⟨y206, e207, h⟩ := of_bvv h
        refine g_topi e207 ?_
        refine g_istore_n C dX3_fines_44 rfl (by decide) rfl (L2 := [some (rv w r0), some (.int x1), some (.int y206), some (.int x3)]) rfl ?_
        obtain ⟨y208, e209, h⟩ := of_bvv h
        refine g_iinc (v := y208) C dX3_fines_45 rfl e209.symm (by decide) rfl (L2 := [some (rv w r0), some (.int x1), some (.int y206), some (.int y208)]) rfl ?_
        refine g_goto 4 C dX3_fines_48 (by decide) ?_
        exact ih r0 x1 y206 y208 h
      · replace h := of_ift h c203
        refine g_aload_n C dX3_fines_24 rfl rfl ?_
        refine gf_3_1 C fl_RX3_15 g201 dX3_fines_25 ?_
        refine g_iload_n C dX3_fines_28 rfl rfl ?_
        obtain ⟨y210, e211, h⟩ := of_obb h
        refine g_callSN (As := [rv w (fld r0 1), .int x3]) C (ct_X5_at C.wf e211) ln_RX3_36 mi_X5_at (by decide) (cs_i cs_0) (by decide) dX3_fines_29 rfl ?_
        show Go w f 32 [some (rv w r0), some (.int x1), some (.int x2), some (.int x3)] [.int y210, .int x2] M
        refine g_goto 43 C dX3_fines_32 (by decide) ?_
        refine g_iadd C dX3_fines_43 ?_
        obtain ⟨y212, e213, h⟩ := of_bvv h
        refine g_topi e213 ?_
        refine g_istore_n C dX3_fines_44 rfl (by decide) rfl (L2 := [some (rv w r0), some (.int x1), some (.int y212), some (.int x3)]) rfl ?_
        obtain ⟨y214, e215, h⟩ := of_bvv h
        refine g_iinc (v := y214) C dX3_fines_45 rfl e215.symm (by decide) rfl (L2 := [some (rv w r0), some (.int x1), some (.int y212), some (.int y214)]) rfl ?_
        refine g_goto 4 C dX3_fines_48 (by decide) ?_
        exact ih r0 x1 y212 y214 h
def f_X3_fines (r0 : Nat) (x1 : Int32) (M : Mem) : Option Int32 := f_X3_fines_4 M FU r0 x1 (0 : Int32) (0 : Int32)
set_option maxRecDepth 100000 in
set_option maxHeartbeats 4000000 in
theorem ct_X3_fines {l : Launch} {w : Om} (hw : Wf w) {r0 : Nat} {x1 : Int32}  {M : Mem} {r : Int32} (h : f_X3_fines r0 x1 M = some r) : Ct l w yX3_fines cX3_fines 4 (some .int) 1 [rv w r0, .int x1] M (some (.int r)) M := by
  refine ct_of hw (by decide) (cat_s (rv_cat _ _) (cat_s rfl cat_0)) (Nat.le_of_ble_eq_true rfl) (fun f _ C hR => ?_)
  show Go w f 0 [some (rv w r0), some (.int x1), none, none] [] M
  unfold f_X3_fines at h
  refine g_iconst (v := 0) C dX3_fines_0 rfl ?_
  refine g_istore_n C dX3_fines_1 rfl (by decide) rfl (L2 := [some (rv w r0), some (.int x1), some (.int (0 : Int32)), none]) rfl ?_
  refine g_iconst (v := 0) C dX3_fines_2 rfl ?_
  refine g_istore_n C dX3_fines_3 rfl (by decide) rfl (L2 := [some (rv w r0), some (.int x1), some (.int (0 : Int32)), some (.int (0 : Int32))]) rfl ?_
  exact t_X3_fines_4 C hR _ r0 x1 (0 : Int32) (0 : Int32) h
def f_X3_cost (r0 : Nat) (x1 : Int32) (M : Mem) : Option Int32 := gdd (kd r0 = 4) <| obb (f_X3_clausesCost r0 x1 M) fun y2 => obb (f_X3_fines r0 x1 M) fun y4 => some (y2 + y4)
set_option maxRecDepth 100000 in
set_option maxHeartbeats 4000000 in
theorem ct_X3_cost {l : Launch} {w : Om} (hw : Wf w) {r0 : Nat} {x1 : Int32}  {M : Mem} {r : Int32} (h : f_X3_cost r0 x1 M = some r) : Ct l w yX3_cost cX3_cost 2 (some .int) 3 [rv w r0, .int x1] M (some (.int r)) M := by
  refine ct_of hw (by decide) (cat_s (rv_cat _ _) (cat_s rfl cat_0)) (Nat.le_of_ble_eq_true rfl) (fun f _ C hR => ?_)
  show Go w f 0 [some (rv w r0), some (.int x1)] [] M
  unfold f_X3_cost at h
  refine g_aload_n C dX3_cost_0 rfl rfl ?_
  refine g_iload_n C dX3_cost_1 rfl rfl ?_
  obtain ⟨g1, h⟩ := of_gdd h
  obtain ⟨y2, e3, h⟩ := of_obb h
  refine g_callV (As := [.int x1]) C (ct_X3_clausesCost C.wf e3) g1 lk_RX3_77 mi_X3_clausesCost (by decide) cs_0 (by decide) dX3_cost_2 rfl ?_
  show Go w f 5 [some (rv w r0), some (.int x1)] [.int y2] M
  refine g_aload_n C dX3_cost_5 rfl rfl ?_
  refine g_iload_n C dX3_cost_6 rfl rfl ?_
  obtain ⟨y4, e5, h⟩ := of_obb h
  refine g_callV (As := [.int x1]) C (ct_X3_fines C.wf e5) g1 lk_RX3_80 mi_X3_fines (by decide) (cs_i cs_0) (by decide) dX3_cost_7 rfl ?_
  show Go w f 10 [some (rv w r0), some (.int x1)] [.int y4, .int y2] M
  refine g_iadd C dX3_cost_10 ?_
  cases h
  exact hR 11 _ ⟨.int, rfl, rfl⟩ dX3_cost_11
def f_X5_costOfEdition (r0 : Nat) (x1 : Int32) (M : Mem) : Option (Int32 × Mem) := gdd (kd r0 = 6) <| gdd (kd (fld r0 0) = 5) <| obb (f_X4_editionAt (fld r0 0) x1 M) fun y3 => if y3 = 0 then (some ((0 : Int32), M)) else (gdd (kd (fld r0 5) = 4) <| obb (f_X3_read (fld r0 5) (fld r0 0) y3 M) fun M7 => gdd (kd y3 = 1) <| obb (f_X3_cost (fld r0 5) (gI M7 y3 2) M7) fun y10 => some (y10, M7))
set_option maxRecDepth 100000 in
set_option maxHeartbeats 4000000 in
theorem ct_X5_costOfEdition {l : Launch} {w : Om} (hw : Wf w) {r0 : Nat} {x1 : Int32} {M : Mem} {r : Int32} {M2 : Mem} (h : f_X5_costOfEdition r0 x1 M = some (r, M2)) : Ct l w yX5_costOfEdition cX5_costOfEdition 3 (some .int) 4 [rv w r0, .int x1] M (some (.int r)) M2 := by
  refine ct_of hw (by decide) (cat_s (rv_cat _ _) (cat_s rfl cat_0)) (Nat.le_of_ble_eq_true rfl) (fun f _ C hR => ?_)
  show Go w f 0 [some (rv w r0), some (.int x1), none] [] M
  unfold f_X5_costOfEdition at h
  refine g_aload_n C dX5_costOfEdition_0 rfl rfl ?_
  obtain ⟨g1, h⟩ := of_gdd h
  refine gf_5_0 C fl_RX5_10 g1 dX5_costOfEdition_1 ?_
  refine g_iload_n C dX5_costOfEdition_4 rfl rfl ?_
  obtain ⟨g2, h⟩ := of_gdd h
  obtain ⟨y3, e4, h⟩ := of_obb h
  refine g_callV (As := [.int x1]) C (ct_X4_editionAt C.wf e4) g2 lk_RX5_121 mi_X4_editionAt (by decide) cs_0 (by decide) dX5_costOfEdition_5 rfl ?_
  show Go w f 8 [some (rv w r0), some (.int x1), none] [rv w y3] M
  refine g_astore_n C dX5_costOfEdition_8 rfl (by decide) rfl (L2 := [some (rv w r0), some (.int x1), some (rv w y3)]) rfl ?_
  refine g_aload_n C dX5_costOfEdition_9 rfl rfl ?_
  refine g_ifnonnull 15 C dX5_costOfEdition_10 (by decide) (fun c5 => ?_) (fun c5 => ?_)
  · replace h := of_iff h c5
    refine g_aload_n C dX5_costOfEdition_15 rfl rfl ?_
    refine gf_5_5 C fl_RX5_40 g1 dX5_costOfEdition_16 ?_
    refine g_aload_n C dX5_costOfEdition_19 rfl rfl ?_
    refine gf_5_0 C fl_RX5_10 g1 dX5_costOfEdition_20 ?_
    refine g_aload_n C dX5_costOfEdition_23 rfl rfl ?_
    obtain ⟨g6, h⟩ := of_gdd h
    obtain ⟨M7, e8, h⟩ := of_obb h
    refine g_callV (As := [rv w (fld r0 0), rv w y3]) C (ct_X3_read C.wf e8) g6 lk_RX5_170 mi_X3_read (by decide) cs_0 (by decide) dX5_costOfEdition_24 rfl ?_
    show Go w f 27 [some (rv w r0), some (.int x1), some (rv w y3)] [] M7
    refine g_aload_n C dX5_costOfEdition_27 rfl rfl ?_
    refine gf_5_5 C fl_RX5_40 g1 dX5_costOfEdition_28 ?_
    refine g_aload_n C dX5_costOfEdition_31 rfl rfl ?_
    obtain ⟨g9, h⟩ := of_gdd h
    refine gf_0_2 C fl_RX5_105 g9 dX5_costOfEdition_32 ?_
    obtain ⟨y10, e11, h⟩ := of_obb h
    refine g_callV (As := [.int (gI M7 y3 2)]) C (ct_X3_cost C.wf e11) g6 lk_RX5_189 mi_X3_cost (by decide) cs_0 (by decide) dX5_costOfEdition_35 rfl ?_
    show Go w f 38 [some (rv w r0), some (.int x1), some (rv w y3)] [.int y10] M7
    cases h
    exact hR 38 _ ⟨.int, rfl, rfl⟩ dX5_costOfEdition_38
  · replace h := of_ift h c5
    refine g_iconst (v := 0) C dX5_costOfEdition_13 rfl ?_
    cases h
    exact hR 14 _ ⟨.int, rfl, rfl⟩ dX5_costOfEdition_14
def f_X5_costOfAll_4 : Nat → Nat → Int32 → Int32 → Mem → Option (Int32 × Mem)
  | 0, _, _, _, _ => none
  | n + 1, r0, x1, x2, M => gdd (kd r0 = 6) <| gdd (kd (fld r0 0) = 5) <| if (gI M (fld r0 0) 4) ≤ x2 then (some (x1, M)) else (opp (f_X5_costOfEdition r0 x2 M) fun y206 M204 => bvv (x1 + y206) fun y207 => bvv (x2 + (1 : Int32)) fun y209 => (f_X5_costOfAll_4 n) r0 y207 y209 M204)
set_option maxRecDepth 100000 in
set_option maxHeartbeats 4000000 in
theorem t_X5_costOfAll_4 {w : Om} {f : Fr} {r : Int32} {M2 : Mem} (C : Cx w f RX5 cX5_costOfAll 3 5) (hR : Rt w f cX5_costOfAll (some .int) (some (.int r)) M2)   : ∀ (n : Nat) (r0 : Nat) (x1 : Int32) (x2 : Int32) (M : Mem), f_X5_costOfAll_4 n r0 x1 x2 M = some (r, M2) → Go w f 4 [some (rv w r0), some (.int x1), some (.int x2)] [] M := by
  intro n
  induction n with
  | zero =>
    intro r0 x1 x2 M h
    cases h
  | succ n ih =>
    intro r0 x1 x2 M h
    rw [f_X5_costOfAll_4] at h
    refine g_iload_n C dX5_costOfAll_4 rfl rfl ?_
    refine g_aload_n C dX5_costOfAll_5 rfl rfl ?_
    obtain ⟨g201, h⟩ := of_gdd h
    refine gf_5_0 C fl_RX5_10 g201 dX5_costOfAll_6 ?_
    obtain ⟨g202, h⟩ := of_gdd h
    refine gf_4_4 C fl_RX5_112 g202 dX5_costOfAll_9 ?_
    refine g_icmp_ge 29 C dX5_costOfAll_12 (by decide) (fun c203 => ?_) (fun c203 => ?_)
    · replace h := of_ift h c203
      refine g_iload_n C dX5_costOfAll_29 rfl rfl ?_
      cases h
      exact hR 30 _ ⟨.int, rfl, rfl⟩ dX5_costOfAll_30
    · replace h := of_iff h c203
      refine g_iload_n C dX5_costOfAll_15 rfl rfl ?_
      refine g_aload_n C dX5_costOfAll_16 rfl rfl ?_
      refine g_iload_n C dX5_costOfAll_17 rfl rfl ?_
      obtain ⟨y206, M204, e205, h⟩ := of_opp h
      refine g_callV (As := [.int x2]) C (ct_X5_costOfEdition C.wf e205) g201 lk_RX5_303 mi_X5_costOfEdition (by decide) (cs_i cs_0) (by decide) dX5_costOfAll_18 rfl ?_
      show Go w f 21 [some (rv w r0), some (.int x1), some (.int x2)] [.int y206, .int x1] M204
      refine g_iadd C dX5_costOfAll_21 ?_
      obtain ⟨y207, e208, h⟩ := of_bvv h
      refine g_topi e208 ?_
      refine g_istore_n C dX5_costOfAll_22 rfl (by decide) (rv_cat _ _) (L2 := [some (rv w r0), some (.int y207), some (.int x2)]) rfl ?_
      obtain ⟨y209, e210, h⟩ := of_bvv h
      refine g_iinc (v := y209) C dX5_costOfAll_23 rfl e210.symm (by decide) rfl (L2 := [some (rv w r0), some (.int y207), some (.int y209)]) rfl ?_
      refine g_goto 4 C dX5_costOfAll_26 (by decide) ?_
      exact ih r0 y207 y209 M204 h
def f_X5_costOfAll (r0 : Nat) (M : Mem) : Option (Int32 × Mem) := f_X5_costOfAll_4 FU r0 (0 : Int32) (0 : Int32) M
set_option maxRecDepth 100000 in
set_option maxHeartbeats 4000000 in
theorem ct_X5_costOfAll {l : Launch} {w : Om} (hw : Wf w) {r0 : Nat} {M : Mem} {r : Int32} {M2 : Mem} (h : f_X5_costOfAll r0 M = some (r, M2)) : Ct l w yX5_costOfAll cX5_costOfAll 3 (some .int) 5 [rv w r0] M (some (.int r)) M2 := by
  refine ct_of hw (by decide) (cat_s (rv_cat _ _) cat_0) (Nat.le_of_ble_eq_true rfl) (fun f _ C hR => ?_)
  show Go w f 0 [some (rv w r0), none, none] [] M
  unfold f_X5_costOfAll at h
  refine g_iconst (v := 0) C dX5_costOfAll_0 rfl ?_
  refine g_istore_n C dX5_costOfAll_1 rfl (by decide) (rv_cat _ _) (L2 := [some (rv w r0), some (.int (0 : Int32)), none]) rfl ?_
  refine g_iconst (v := 0) C dX5_costOfAll_2 rfl ?_
  refine g_istore_n C dX5_costOfAll_3 rfl (by decide) rfl (L2 := [some (rv w r0), some (.int (0 : Int32)), some (.int (0 : Int32))]) rfl ?_
  exact t_X5_costOfAll_4 C hR _ r0 (0 : Int32) (0 : Int32) M h
def f_X4_rulingsInForce_4 (M : Mem) : Nat → Nat → Int32 → Int32 → Option Int32
  | 0, _, _, _ => none
  | n + 1, r0, x1, x2 => gdd (kd r0 = 5) <| if (gI M r0 5) ≤ x2 then (some x1) else (obb (f_X4_rulingAt r0 x2 M) fun y203 => if y203 = 0 then (bvv (x2 + (1 : Int32)) fun y206 => (f_X4_rulingsInForce_4 M n) r0 x1 y206) else (gdd (kd y203 = 3) <| if (gI M y203 6) = 0 then (bvv (x2 + (1 : Int32)) fun y210 => (f_X4_rulingsInForce_4 M n) r0 x1 y210) else (bvv (x1 + (1 : Int32)) fun y212 => bvv (x2 + (1 : Int32)) fun y214 => (f_X4_rulingsInForce_4 M n) r0 y212 y214)))
set_option maxRecDepth 100000 in
set_option maxHeartbeats 4000000 in
theorem t_X4_rulingsInForce_4 {w : Om} {f : Fr} {M : Mem} {r : Int32} (C : Cx w f RX4 cX4_rulingsInForce 4 1) (hR : Rt w f cX4_rulingsInForce (some .int) (some (.int r)) M)   : ∀ (n : Nat) (r0 : Nat) (x1 : Int32) (x2 : Int32), f_X4_rulingsInForce_4 M n r0 x1 x2 = some r → Go w f 4 [some (rv w r0), some (.int x1), some (.int x2), none] [] M := by
  intro n
  induction n with
  | zero =>
    intro r0 x1 x2 h
    cases h
  | succ n ih =>
    intro r0 x1 x2 h
    rw [f_X4_rulingsInForce_4] at h
    refine g_iload_n C dX4_rulingsInForce_4 rfl rfl ?_
    refine g_aload_n C dX4_rulingsInForce_5 rfl rfl ?_
    obtain ⟨g201, h⟩ := of_gdd h
    refine gf_4_5 C fl_RX4_44 g201 dX4_rulingsInForce_6 ?_
    refine g_icmp_ge 38 C dX4_rulingsInForce_9 (by decide) (fun c202 => ?_) (fun c202 => ?_)
    · replace h := of_ift h c202
      refine g_iload_n C dX4_rulingsInForce_38 rfl rfl ?_
      cases h
      exact hR 39 _ ⟨.int, rfl, rfl⟩ dX4_rulingsInForce_39
    · replace h := of_iff h c202
      refine g_aload_n C dX4_rulingsInForce_12 rfl rfl ?_
      refine g_iload_n C dX4_rulingsInForce_13 rfl rfl ?_
      obtain ⟨y203, e204, h⟩ := of_obb h
      refine g_callV (As := [.int x2]) C (ct_X4_rulingAt C.wf e204) g201 lk_RX4_55 mi_X4_rulingAt (by decide) cs_0 (by decide) dX4_rulingsInForce_14 rfl ?_
      show Go w f 17 [some (rv w r0), some (.int x1), some (.int x2), none] [rv w y203] M
      refine g_astore_n C dX4_rulingsInForce_17 rfl (by decide) rfl (L2 := [some (rv w r0), some (.int x1), some (.int x2), some (rv w y203)]) rfl ?_
      refine g_aload_n C dX4_rulingsInForce_18 rfl rfl ?_
      refine g_ifnull 32 C dX4_rulingsInForce_19 (by decide) (fun c205 => ?_) (fun c205 => ?_)
      · replace h := of_ift h c205
        obtain ⟨y206, e207, h⟩ := of_bvv h
        refine g_iinc (v := y206) C dX4_rulingsInForce_32 rfl e207.symm (by decide) rfl (L2 := [some (rv w r0), some (.int x1), some (.int y206), some (rv w y203)]) rfl ?_
        refine g_goto 4 C dX4_rulingsInForce_35 (by decide) ?_
        refine g_mask (bs := [true, true, true, false]) (L2 := [some (rv w r0), some (.int x1), some (.int y206), none]) rfl ?_
        exact ih r0 x1 y206 h
      · replace h := of_iff h c205
        refine g_aload_n C dX4_rulingsInForce_22 rfl rfl ?_
        obtain ⟨g208, h⟩ := of_gdd h
        refine gf_2_6 C fl_RX4_119 g208 dX4_rulingsInForce_23 ?_
        refine g_if_eq 32 C dX4_rulingsInForce_26 (by decide) (fun c209 => ?_) (fun c209 => ?_)
        · replace h := of_ift h c209
          obtain ⟨y210, e211, h⟩ := of_bvv h
          refine g_iinc (v := y210) C dX4_rulingsInForce_32 rfl e211.symm (by decide) rfl (L2 := [some (rv w r0), some (.int x1), some (.int y210), some (rv w y203)]) rfl ?_
          refine g_goto 4 C dX4_rulingsInForce_35 (by decide) ?_
          refine g_mask (bs := [true, true, true, false]) (L2 := [some (rv w r0), some (.int x1), some (.int y210), none]) rfl ?_
          exact ih r0 x1 y210 h
        · replace h := of_iff h c209
          obtain ⟨y212, e213, h⟩ := of_bvv h
          refine g_iinc (v := y212) C dX4_rulingsInForce_29 rfl e213.symm (by decide) (rv_cat _ _) (L2 := [some (rv w r0), some (.int y212), some (.int x2), some (rv w y203)]) rfl ?_
          obtain ⟨y214, e215, h⟩ := of_bvv h
          refine g_iinc (v := y214) C dX4_rulingsInForce_32 rfl e215.symm (by decide) rfl (L2 := [some (rv w r0), some (.int y212), some (.int y214), some (rv w y203)]) rfl ?_
          refine g_goto 4 C dX4_rulingsInForce_35 (by decide) ?_
          refine g_mask (bs := [true, true, true, false]) (L2 := [some (rv w r0), some (.int y212), some (.int y214), none]) rfl ?_
          exact ih r0 y212 y214 h
def f_X4_rulingsInForce (r0 : Nat) (M : Mem) : Option Int32 := f_X4_rulingsInForce_4 M FU r0 (0 : Int32) (0 : Int32)
set_option maxRecDepth 100000 in
set_option maxHeartbeats 4000000 in
theorem ct_X4_rulingsInForce {l : Launch} {w : Om} (hw : Wf w) {r0 : Nat}  {M : Mem} {r : Int32} (h : f_X4_rulingsInForce r0 M = some r) : Ct l w yX4_rulingsInForce cX4_rulingsInForce 4 (some .int) 1 [rv w r0] M (some (.int r)) M := by
  refine ct_of hw (by decide) (cat_s (rv_cat _ _) cat_0) (Nat.le_of_ble_eq_true rfl) (fun f _ C hR => ?_)
  show Go w f 0 [some (rv w r0), none, none, none] [] M
  unfold f_X4_rulingsInForce at h
  refine g_iconst (v := 0) C dX4_rulingsInForce_0 rfl ?_
  refine g_istore_n C dX4_rulingsInForce_1 rfl (by decide) (rv_cat _ _) (L2 := [some (rv w r0), some (.int (0 : Int32)), none, none]) rfl ?_
  refine g_iconst (v := 0) C dX4_rulingsInForce_2 rfl ?_
  refine g_istore_n C dX4_rulingsInForce_3 rfl (by decide) rfl (L2 := [some (rv w r0), some (.int (0 : Int32)), some (.int (0 : Int32)), none]) rfl ?_
  exact t_X4_rulingsInForce_4 C hR _ r0 (0 : Int32) (0 : Int32) h
def f_X4_counts (r0 : Nat) (x1 : Int32) (M : Mem) : Option Int32 := gdd (kd r0 = 5) <| obb (f_X4_rulingAt r0 x1 M) fun y2 => if y2 = 0 then (some (0 : Int32)) else (gdd (kd y2 = 3) <| obb (f_X4_countingAbout r0 (gI M y2 0) (gI M y2 1) M) fun y6 => if y6 = x1 then (some (1 : Int32)) else (some (0 : Int32)))
set_option maxRecDepth 100000 in
set_option maxHeartbeats 4000000 in
theorem ct_X4_counts {l : Launch} {w : Om} (hw : Wf w) {r0 : Nat} {x1 : Int32}  {M : Mem} {r : Int32} (h : f_X4_counts r0 x1 M = some r) : Ct l w yX4_counts cX4_counts 3 (some .boolean) 2 [rv w r0, .int x1] M (some (.int r)) M := by
  refine ct_of hw (by decide) (cat_s (rv_cat _ _) (cat_s rfl cat_0)) (Nat.le_of_ble_eq_true rfl) (fun f _ C hR => ?_)
  show Go w f 0 [some (rv w r0), some (.int x1), none] [] M
  unfold f_X4_counts at h
  refine g_aload_n C dX4_counts_0 rfl rfl ?_
  refine g_iload_n C dX4_counts_1 rfl rfl ?_
  obtain ⟨g1, h⟩ := of_gdd h
  obtain ⟨y2, e3, h⟩ := of_obb h
  refine g_callV (As := [.int x1]) C (ct_X4_rulingAt C.wf e3) g1 lk_RX4_55 mi_X4_rulingAt (by decide) cs_0 (by decide) dX4_counts_2 rfl ?_
  show Go w f 5 [some (rv w r0), some (.int x1), none] [rv w y2] M
  refine g_astore_n C dX4_counts_5 rfl (by decide) rfl (L2 := [some (rv w r0), some (.int x1), some (rv w y2)]) rfl ?_
  refine g_aload_n C dX4_counts_6 rfl rfl ?_
  refine g_ifnull 30 C dX4_counts_7 (by decide) (fun c4 => ?_) (fun c4 => ?_)
  · replace h := of_ift h c4
    refine g_iconst (v := 0) C dX4_counts_30 rfl ?_
    cases h
    exact hR 31 _ ⟨.boolean, rfl, rfl⟩ dX4_counts_31
  · replace h := of_iff h c4
    refine g_aload_n C dX4_counts_10 rfl rfl ?_
    refine g_aload_n C dX4_counts_11 rfl rfl ?_
    obtain ⟨g5, h⟩ := of_gdd h
    refine gf_2_0 C fl_RX4_97 g5 dX4_counts_12 ?_
    refine g_aload_n C dX4_counts_15 rfl rfl ?_
    refine gf_2_1 C fl_RX4_100 g5 dX4_counts_16 ?_
    obtain ⟨y6, e7, h⟩ := of_obb h
    refine g_callV (As := [.int (gI M y2 0), .int (gI M y2 1)]) C (ct_X4_countingAbout C.wf e7) g1 lk_RX4_129 mi_X4_countingAbout (by decide) cs_0 (by decide) dX4_counts_19 rfl ?_
    show Go w f 22 [some (rv w r0), some (.int x1), some (rv w y2)] [.int y6] M
    refine g_iload_n C dX4_counts_22 rfl rfl ?_
    refine g_icmp_ne 30 C dX4_counts_23 (by decide) (fun c8 => ?_) (fun c8 => ?_)
    · replace h := of_iff h c8
      refine g_iconst (v := 0) C dX4_counts_30 rfl ?_
      cases h
      exact hR 31 _ ⟨.boolean, rfl, rfl⟩ dX4_counts_31
    · replace h := of_ift h c8
      refine g_iconst (v := 1) C dX4_counts_26 rfl ?_
      refine g_goto 31 C dX4_counts_27 (by decide) ?_
      cases h
      exact hR 31 _ ⟨.boolean, rfl, rfl⟩ dX4_counts_31
def f_X4_rulingsThatCount_4 (M : Mem) : Nat → Nat → Int32 → Int32 → Option Int32
  | 0, _, _, _ => none
  | n + 1, r0, x1, x2 => gdd (kd r0 = 5) <| if (gI M r0 5) ≤ x2 then (some x1) else (obb (f_X4_counts r0 x2 M) fun y203 => if y203 = 0 then (bvv (x2 + (1 : Int32)) fun y206 => (f_X4_rulingsThatCount_4 M n) r0 x1 y206) else (bvv (x1 + (1 : Int32)) fun y208 => bvv (x2 + (1 : Int32)) fun y210 => (f_X4_rulingsThatCount_4 M n) r0 y208 y210))
set_option maxRecDepth 100000 in
set_option maxHeartbeats 4000000 in
theorem t_X4_rulingsThatCount_4 {w : Om} {f : Fr} {M : Mem} {r : Int32} (C : Cx w f RX4 cX4_rulingsThatCount 3 3) (hR : Rt w f cX4_rulingsThatCount (some .int) (some (.int r)) M)   : ∀ (n : Nat) (r0 : Nat) (x1 : Int32) (x2 : Int32), f_X4_rulingsThatCount_4 M n r0 x1 x2 = some r → Go w f 4 [some (rv w r0), some (.int x1), some (.int x2)] [] M := by
  intro n
  induction n with
  | zero =>
    intro r0 x1 x2 h
    cases h
  | succ n ih =>
    intro r0 x1 x2 h
    rw [f_X4_rulingsThatCount_4] at h
    refine g_iload_n C dX4_rulingsThatCount_4 rfl rfl ?_
    refine g_aload_n C dX4_rulingsThatCount_5 rfl rfl ?_
    obtain ⟨g201, h⟩ := of_gdd h
    refine gf_4_5 C fl_RX4_44 g201 dX4_rulingsThatCount_6 ?_
    refine g_icmp_ge 29 C dX4_rulingsThatCount_9 (by decide) (fun c202 => ?_) (fun c202 => ?_)
    · replace h := of_ift h c202
      refine g_iload_n C dX4_rulingsThatCount_29 rfl rfl ?_
      cases h
      exact hR 30 _ ⟨.int, rfl, rfl⟩ dX4_rulingsThatCount_30
    · replace h := of_iff h c202
      refine g_aload_n C dX4_rulingsThatCount_12 rfl rfl ?_
      refine g_iload_n C dX4_rulingsThatCount_13 rfl rfl ?_
      obtain ⟨y203, e204, h⟩ := of_obb h
      refine g_callV (As := [.int x2]) C (ct_X4_counts C.wf e204) g201 lk_RX4_122 mi_X4_counts (by decide) cs_0 (by decide) dX4_rulingsThatCount_14 rfl ?_
      show Go w f 17 [some (rv w r0), some (.int x1), some (.int x2)] [.int y203] M
      refine g_if_eq 23 C dX4_rulingsThatCount_17 (by decide) (fun c205 => ?_) (fun c205 => ?_)
      · replace h := of_ift h c205
        obtain ⟨y206, e207, h⟩ := of_bvv h
        refine g_iinc (v := y206) C dX4_rulingsThatCount_23 rfl e207.symm (by decide) rfl (L2 := [some (rv w r0), some (.int x1), some (.int y206)]) rfl ?_
        refine g_goto 4 C dX4_rulingsThatCount_26 (by decide) ?_
        exact ih r0 x1 y206 h
      · replace h := of_iff h c205
        obtain ⟨y208, e209, h⟩ := of_bvv h
        refine g_iinc (v := y208) C dX4_rulingsThatCount_20 rfl e209.symm (by decide) (rv_cat _ _) (L2 := [some (rv w r0), some (.int y208), some (.int x2)]) rfl ?_
        obtain ⟨y210, e211, h⟩ := of_bvv h
        refine g_iinc (v := y210) C dX4_rulingsThatCount_23 rfl e211.symm (by decide) rfl (L2 := [some (rv w r0), some (.int y208), some (.int y210)]) rfl ?_
        refine g_goto 4 C dX4_rulingsThatCount_26 (by decide) ?_
        exact ih r0 y208 y210 h
def f_X4_rulingsThatCount (r0 : Nat) (M : Mem) : Option Int32 := f_X4_rulingsThatCount_4 M FU r0 (0 : Int32) (0 : Int32)
set_option maxRecDepth 100000 in
set_option maxHeartbeats 4000000 in
theorem ct_X4_rulingsThatCount {l : Launch} {w : Om} (hw : Wf w) {r0 : Nat}  {M : Mem} {r : Int32} (h : f_X4_rulingsThatCount r0 M = some r) : Ct l w yX4_rulingsThatCount cX4_rulingsThatCount 3 (some .int) 3 [rv w r0] M (some (.int r)) M := by
  refine ct_of hw (by decide) (cat_s (rv_cat _ _) cat_0) (Nat.le_of_ble_eq_true rfl) (fun f _ C hR => ?_)
  show Go w f 0 [some (rv w r0), none, none] [] M
  unfold f_X4_rulingsThatCount at h
  refine g_iconst (v := 0) C dX4_rulingsThatCount_0 rfl ?_
  refine g_istore_n C dX4_rulingsThatCount_1 rfl (by decide) (rv_cat _ _) (L2 := [some (rv w r0), some (.int (0 : Int32)), none]) rfl ?_
  refine g_iconst (v := 0) C dX4_rulingsThatCount_2 rfl ?_
  refine g_istore_n C dX4_rulingsThatCount_3 rfl (by decide) rfl (L2 := [some (rv w r0), some (.int (0 : Int32)), some (.int (0 : Int32))]) rfl ?_
  exact t_X4_rulingsThatCount_4 C hR _ r0 (0 : Int32) (0 : Int32) h
def f_J6_bitCount_0f7a4 (x0 : Int32) : Int32 := bvv (x0 - (((x0.toUInt32 >>> ((1 : Int32).toUInt32 &&& Int32.toUInt32 31)).toInt32) &&& (1431655765 : Int32))) fun y1 => bvv ((y1 &&& (858993459 : Int32)) + (((y1.toUInt32 >>> ((2 : Int32).toUInt32 &&& Int32.toUInt32 31)).toInt32) &&& (858993459 : Int32))) fun y3 => bvv ((y3 + ((y3.toUInt32 >>> ((4 : Int32).toUInt32 &&& Int32.toUInt32 31)).toInt32)) &&& (252645135 : Int32)) fun y5 => bvv (y5 + ((y5.toUInt32 >>> ((8 : Int32).toUInt32 &&& Int32.toUInt32 31)).toInt32)) fun y7 => bvv (y7 + ((y7.toUInt32 >>> ((16 : Int32).toUInt32 &&& Int32.toUInt32 31)).toInt32)) fun y9 => y9 &&& (63 : Int32)
set_option maxRecDepth 100000 in
set_option maxHeartbeats 4000000 in
theorem ct_J6_bitCount_0f7a4 {l : Launch} {w : Om} (hw : Wf w) {x0 : Int32}  {M : Mem} {r : Int32} (h : f_J6_bitCount_0f7a4 x0 = r) : Ct l w yJ6_bitCount_0f7a4 cJ6_bitCount_0f7a4 1 (some .int) 0 [.int x0] M (some (.int r)) M := by
  refine ct_of hw (by decide) (cat_s rfl cat_0) (Nat.le_of_ble_eq_true rfl) (fun f _ C hR => ?_)
  show Go w f 0 [some (.int x0)] [] M
  unfold f_J6_bitCount_0f7a4 at h
  refine g_iload_n C dJ6_bitCount_0f7a4_0 rfl rfl ?_
  refine g_iload_n C dJ6_bitCount_0f7a4_1 rfl rfl ?_
  refine g_iconst (v := 1) C dJ6_bitCount_0f7a4_2 rfl ?_
  refine g_iushr C dJ6_bitCount_0f7a4_3 ?_
  refine g_ldcw C kc_RJ6_265 dJ6_bitCount_0f7a4_4 ?_
  refine g_iand C dJ6_bitCount_0f7a4_7 ?_
  refine g_isub C dJ6_bitCount_0f7a4_8 ?_
  obtain ⟨y1, e2, h⟩ := of_bvv h
  refine g_topi e2 ?_
  refine g_istore_n C dJ6_bitCount_0f7a4_9 rfl (by decide) trivial (L2 := [some (.int y1)]) rfl ?_
  refine g_iload_n C dJ6_bitCount_0f7a4_10 rfl rfl ?_
  refine g_ldcw C kc_RJ6_266 dJ6_bitCount_0f7a4_11 ?_
  refine g_iand C dJ6_bitCount_0f7a4_14 ?_
  refine g_iload_n C dJ6_bitCount_0f7a4_15 rfl rfl ?_
  refine g_iconst (v := 2) C dJ6_bitCount_0f7a4_16 rfl ?_
  refine g_iushr C dJ6_bitCount_0f7a4_17 ?_
  refine g_ldcw C kc_RJ6_266 dJ6_bitCount_0f7a4_18 ?_
  refine g_iand C dJ6_bitCount_0f7a4_21 ?_
  refine g_iadd C dJ6_bitCount_0f7a4_22 ?_
  obtain ⟨y3, e4, h⟩ := of_bvv h
  refine g_topi e4 ?_
  refine g_istore_n C dJ6_bitCount_0f7a4_23 rfl (by decide) trivial (L2 := [some (.int y3)]) rfl ?_
  refine g_iload_n C dJ6_bitCount_0f7a4_24 rfl rfl ?_
  refine g_iload_n C dJ6_bitCount_0f7a4_25 rfl rfl ?_
  refine g_iconst (v := 4) C dJ6_bitCount_0f7a4_26 rfl ?_
  refine g_iushr C dJ6_bitCount_0f7a4_27 ?_
  refine g_iadd C dJ6_bitCount_0f7a4_28 ?_
  refine g_ldcw C kc_RJ6_267 dJ6_bitCount_0f7a4_29 ?_
  refine g_iand C dJ6_bitCount_0f7a4_32 ?_
  obtain ⟨y5, e6, h⟩ := of_bvv h
  refine g_topi e6 ?_
  refine g_istore_n C dJ6_bitCount_0f7a4_33 rfl (by decide) trivial (L2 := [some (.int y5)]) rfl ?_
  refine g_iload_n C dJ6_bitCount_0f7a4_34 rfl rfl ?_
  refine g_iload_n C dJ6_bitCount_0f7a4_35 rfl rfl ?_
  refine g_bipush (v := 8) C dJ6_bitCount_0f7a4_36 rfl ?_
  refine g_iushr C dJ6_bitCount_0f7a4_38 ?_
  refine g_iadd C dJ6_bitCount_0f7a4_39 ?_
  obtain ⟨y7, e8, h⟩ := of_bvv h
  refine g_topi e8 ?_
  refine g_istore_n C dJ6_bitCount_0f7a4_40 rfl (by decide) trivial (L2 := [some (.int y7)]) rfl ?_
  refine g_iload_n C dJ6_bitCount_0f7a4_41 rfl rfl ?_
  refine g_iload_n C dJ6_bitCount_0f7a4_42 rfl rfl ?_
  refine g_bipush (v := 16) C dJ6_bitCount_0f7a4_43 rfl ?_
  refine g_iushr C dJ6_bitCount_0f7a4_45 ?_
  refine g_iadd C dJ6_bitCount_0f7a4_46 ?_
  obtain ⟨y9, e10, h⟩ := of_bvv h
  refine g_topi e10 ?_
  refine g_istore_n C dJ6_bitCount_0f7a4_47 rfl (by decide) trivial (L2 := [some (.int y9)]) rfl ?_
  refine g_iload_n C dJ6_bitCount_0f7a4_48 rfl rfl ?_
  refine g_bipush (v := 63) C dJ6_bitCount_0f7a4_49 rfl ?_
  refine g_iand C dJ6_bitCount_0f7a4_51 ?_
  cases h
  exact hR 52 _ ⟨.int, rfl, rfl⟩ dJ6_bitCount_0f7a4_52
def f_X4_commasOfAll_4 (M : Mem) : Nat → Nat → Int32 → Int32 → Option Int32
  | 0, _, _, _ => none
  | n + 1, r0, x1, x2 => gdd (kd r0 = 5) <| if (gI M r0 4) ≤ x2 then (some x1) else (obb (f_X4_editionAt r0 x2 M) fun y203 => if y203 = 0 then (bvv (x1 + (0 : Int32)) fun y211 => bvv (x2 + (1 : Int32)) fun y213 => (f_X4_commasOfAll_4 M n) r0 y211 y213) else (gdd (kd y203 = 1) <| bvv (x1 + (f_J6_bitCount_0f7a4 (gI M y203 2))) fun y207 => bvv (x2 + (1 : Int32)) fun y209 => (f_X4_commasOfAll_4 M n) r0 y207 y209))
set_option maxRecDepth 100000 in
set_option maxHeartbeats 4000000 in
theorem t_X4_commasOfAll_4 {w : Om} {f : Fr} {M : Mem} {r : Int32} (C : Cx w f RX4 cX4_commasOfAll 4 1) (hR : Rt w f cX4_commasOfAll (some .int) (some (.int r)) M)   : ∀ (n : Nat) (r0 : Nat) (x1 : Int32) (x2 : Int32), f_X4_commasOfAll_4 M n r0 x1 x2 = some r → Go w f 4 [some (rv w r0), some (.int x1), some (.int x2), none] [] M := by
  intro n
  induction n with
  | zero =>
    intro r0 x1 x2 h
    cases h
  | succ n ih =>
    intro r0 x1 x2 h
    rw [f_X4_commasOfAll_4] at h
    refine g_iload_n C dX4_commasOfAll_4 rfl rfl ?_
    refine g_aload_n C dX4_commasOfAll_5 rfl rfl ?_
    obtain ⟨g201, h⟩ := of_gdd h
    refine gf_4_4 C fl_RX4_40 g201 dX4_commasOfAll_6 ?_
    refine g_icmp_ge 42 C dX4_commasOfAll_9 (by decide) (fun c202 => ?_) (fun c202 => ?_)
    · replace h := of_ift h c202
      refine g_iload_n C dX4_commasOfAll_42 rfl rfl ?_
      cases h
      exact hR 43 _ ⟨.int, rfl, rfl⟩ dX4_commasOfAll_43
    · replace h := of_iff h c202
      refine g_aload_n C dX4_commasOfAll_12 rfl rfl ?_
      refine g_iload_n C dX4_commasOfAll_13 rfl rfl ?_
      obtain ⟨y203, e204, h⟩ := of_obb h
      refine g_callV (As := [.int x2]) C (ct_X4_editionAt C.wf e204) g201 lk_RX4_47 mi_X4_editionAt (by decide) cs_0 (by decide) dX4_commasOfAll_14 rfl ?_
      show Go w f 17 [some (rv w r0), some (.int x1), some (.int x2), none] [rv w y203] M
      refine g_astore_n C dX4_commasOfAll_17 rfl (by decide) rfl (L2 := [some (rv w r0), some (.int x1), some (.int x2), some (rv w y203)]) rfl ?_
      refine g_iload_n C dX4_commasOfAll_18 rfl rfl ?_
      refine g_aload_n C dX4_commasOfAll_19 rfl rfl ?_
      refine g_ifnonnull 27 C dX4_commasOfAll_20 (by decide) (fun c205 => ?_) (fun c205 => ?_)
      · replace h := of_iff h c205
        refine g_aload_n C dX4_commasOfAll_27 rfl rfl ?_
        obtain ⟨g206, h⟩ := of_gdd h
        refine gf_0_2 C fl_RX4_75 g206 dX4_commasOfAll_28 ?_
        refine g_callS (As := [.int (gI M y203 2)]) C (ct_J6_bitCount_0f7a4 C.wf rfl) lk_RX4_88 mi_J6_bitCount_0f7a4 (by decide) (cs_i cs_0) (by decide) dX4_commasOfAll_31 rfl ?_
        show Go w f 34 [some (rv w r0), some (.int x1), some (.int x2), some (rv w y203)] [.int (f_J6_bitCount_0f7a4 (gI M y203 2)), .int x1] M
        refine g_iadd C dX4_commasOfAll_34 ?_
        obtain ⟨y207, e208, h⟩ := of_bvv h
        refine g_topi e208 ?_
        refine g_istore_n C dX4_commasOfAll_35 rfl (by decide) (rv_cat _ _) (L2 := [some (rv w r0), some (.int y207), some (.int x2), some (rv w y203)]) rfl ?_
        obtain ⟨y209, e210, h⟩ := of_bvv h
        refine g_iinc (v := y209) C dX4_commasOfAll_36 rfl e210.symm (by decide) rfl (L2 := [some (rv w r0), some (.int y207), some (.int y209), some (rv w y203)]) rfl ?_
        refine g_goto 4 C dX4_commasOfAll_39 (by decide) ?_
        refine g_mask (bs := [true, true, true, false]) (L2 := [some (rv w r0), some (.int y207), some (.int y209), none]) rfl ?_
        exact ih r0 y207 y209 h
      · replace h := of_ift h c205
        refine g_iconst (v := 0) C dX4_commasOfAll_23 rfl ?_
        refine g_goto 34 C dX4_commasOfAll_24 (by decide) ?_
        refine g_iadd C dX4_commasOfAll_34 ?_
        obtain ⟨y211, e212, h⟩ := of_bvv h
        refine g_topi e212 ?_
        refine g_istore_n C dX4_commasOfAll_35 rfl (by decide) (rv_cat _ _) (L2 := [some (rv w r0), some (.int y211), some (.int x2), some (rv w y203)]) rfl ?_
        obtain ⟨y213, e214, h⟩ := of_bvv h
        refine g_iinc (v := y213) C dX4_commasOfAll_36 rfl e214.symm (by decide) rfl (L2 := [some (rv w r0), some (.int y211), some (.int y213), some (rv w y203)]) rfl ?_
        refine g_goto 4 C dX4_commasOfAll_39 (by decide) ?_
        refine g_mask (bs := [true, true, true, false]) (L2 := [some (rv w r0), some (.int y211), some (.int y213), none]) rfl ?_
        exact ih r0 y211 y213 h
def f_X4_commasOfAll (r0 : Nat) (M : Mem) : Option Int32 := f_X4_commasOfAll_4 M FU r0 (0 : Int32) (0 : Int32)
set_option maxRecDepth 100000 in
set_option maxHeartbeats 4000000 in
theorem ct_X4_commasOfAll {l : Launch} {w : Om} (hw : Wf w) {r0 : Nat}  {M : Mem} {r : Int32} (h : f_X4_commasOfAll r0 M = some r) : Ct l w yX4_commasOfAll cX4_commasOfAll 4 (some .int) 1 [rv w r0] M (some (.int r)) M := by
  refine ct_of hw (by decide) (cat_s (rv_cat _ _) cat_0) (Nat.le_of_ble_eq_true rfl) (fun f _ C hR => ?_)
  show Go w f 0 [some (rv w r0), none, none, none] [] M
  unfold f_X4_commasOfAll at h
  refine g_iconst (v := 0) C dX4_commasOfAll_0 rfl ?_
  refine g_istore_n C dX4_commasOfAll_1 rfl (by decide) (rv_cat _ _) (L2 := [some (rv w r0), some (.int (0 : Int32)), none, none]) rfl ?_
  refine g_iconst (v := 0) C dX4_commasOfAll_2 rfl ?_
  refine g_istore_n C dX4_commasOfAll_3 rfl (by decide) rfl (L2 := [some (rv w r0), some (.int (0 : Int32)), some (.int (0 : Int32)), none]) rfl ?_
  exact t_X4_commasOfAll_4 C hR _ r0 (0 : Int32) (0 : Int32) h
def f_X5_cheapestEdition_7 : Nat → Nat → Int32 → Int32 → Int32 → Mem → Option (Int32 × Mem)
  | 0, _, _, _, _, _ => none
  | n + 1, r0, x1, x2, x3, M => gdd (kd r0 = 6) <| gdd (kd (fld r0 0) = 5) <| if (gI M (fld r0 0) 4) ≤ x3 then (some (x1, M)) else (opp (f_X5_costOfEdition r0 x3 M) fun y206 M204 => if x1 = (-4 : Int32) then (bvv (x3 + (1 : Int32)) fun y208 => (f_X5_cheapestEdition_7 n) r0 x3 y206 y208 M204) else (if x2 ≤ y206 then (bvv (x3 + (1 : Int32)) fun y211 => (f_X5_cheapestEdition_7 n) r0 x1 x2 y211 M204) else (bvv (x3 + (1 : Int32)) fun y213 => (f_X5_cheapestEdition_7 n) r0 x3 y206 y213 M204)))
set_option maxRecDepth 100000 in
set_option maxHeartbeats 4000000 in
theorem t_X5_cheapestEdition_7 {w : Om} {f : Fr} {r : Int32} {M2 : Mem} (C : Cx w f RX5 cX5_cheapestEdition 5 5) (hR : Rt w f cX5_cheapestEdition (some .int) (some (.int r)) M2)   : ∀ (n : Nat) (r0 : Nat) (x1 : Int32) (x2 : Int32) (x3 : Int32) (M : Mem), f_X5_cheapestEdition_7 n r0 x1 x2 x3 M = some (r, M2) → Go w f 7 [some (rv w r0), some (.int x1), some (.int x2), some (.int x3), none] [] M := by
  intro n
  induction n with
  | zero =>
    intro r0 x1 x2 x3 M h
    cases h
  | succ n ih =>
    intro r0 x1 x2 x3 M h
    rw [f_X5_cheapestEdition_7] at h
    refine g_iload_n C dX5_cheapestEdition_7 rfl rfl ?_
    refine g_aload_n C dX5_cheapestEdition_8 rfl rfl ?_
    obtain ⟨g201, h⟩ := of_gdd h
    refine gf_5_0 C fl_RX5_10 g201 dX5_cheapestEdition_9 ?_
    obtain ⟨g202, h⟩ := of_gdd h
    refine gf_4_4 C fl_RX5_112 g202 dX5_cheapestEdition_12 ?_
    refine g_icmp_ge 48 C dX5_cheapestEdition_15 (by decide) (fun c203 => ?_) (fun c203 => ?_)
    · replace h := of_ift h c203
      refine g_iload_n C dX5_cheapestEdition_48 rfl rfl ?_
      cases h
      exact hR 49 _ ⟨.int, rfl, rfl⟩ dX5_cheapestEdition_49
    · replace h := of_iff h c203
      refine g_aload_n C dX5_cheapestEdition_18 rfl rfl ?_
      refine g_iload_n C dX5_cheapestEdition_19 rfl rfl ?_
      obtain ⟨y206, M204, e205, h⟩ := of_opp h
      refine g_callV (As := [.int x3]) C (ct_X5_costOfEdition C.wf e205) g201 lk_RX5_303 mi_X5_costOfEdition (by decide) cs_0 (by decide) dX5_cheapestEdition_20 rfl ?_
      show Go w f 23 [some (rv w r0), some (.int x1), some (.int x2), some (.int x3), none] [.int y206] M204
      refine g_istore C dX5_cheapestEdition_23 (by decide) rfl (L2 := [some (rv w r0), some (.int x1), some (.int x2), some (.int x3), some (.int y206)]) rfl ?_
      refine g_iload_n C dX5_cheapestEdition_25 rfl rfl ?_
      refine g_bipush (v := -4) C dX5_cheapestEdition_26 rfl ?_
      refine g_icmp_eq 37 C dX5_cheapestEdition_28 (by decide) (fun c207 => ?_) (fun c207 => ?_)
      · replace h := of_ift h c207
        refine g_iload_n C dX5_cheapestEdition_37 rfl rfl ?_
        refine g_istore_n C dX5_cheapestEdition_38 rfl (by decide) (rv_cat _ _) (L2 := [some (rv w r0), some (.int x3), some (.int x2), some (.int x3), some (.int y206)]) rfl ?_
        refine g_iload C dX5_cheapestEdition_39 rfl ?_
        refine g_istore_n C dX5_cheapestEdition_41 rfl (by decide) rfl (L2 := [some (rv w r0), some (.int x3), some (.int y206), some (.int x3), some (.int y206)]) rfl ?_
        obtain ⟨y208, e209, h⟩ := of_bvv h
        refine g_iinc (v := y208) C dX5_cheapestEdition_42 rfl e209.symm (by decide) rfl (L2 := [some (rv w r0), some (.int x3), some (.int y206), some (.int y208), some (.int y206)]) rfl ?_
        refine g_goto 7 C dX5_cheapestEdition_45 (by decide) ?_
        refine g_mask (bs := [true, true, true, true, false]) (L2 := [some (rv w r0), some (.int x3), some (.int y206), some (.int y208), none]) rfl ?_
        exact ih r0 x3 y206 y208 M204 h
      · replace h := of_iff h c207
        refine g_iload C dX5_cheapestEdition_31 rfl ?_
        refine g_iload_n C dX5_cheapestEdition_33 rfl rfl ?_
        refine g_icmp_ge 42 C dX5_cheapestEdition_34 (by decide) (fun c210 => ?_) (fun c210 => ?_)
        · replace h := of_ift h c210
          obtain ⟨y211, e212, h⟩ := of_bvv h
          refine g_iinc (v := y211) C dX5_cheapestEdition_42 rfl e212.symm (by decide) rfl (L2 := [some (rv w r0), some (.int x1), some (.int x2), some (.int y211), some (.int y206)]) rfl ?_
          refine g_goto 7 C dX5_cheapestEdition_45 (by decide) ?_
          refine g_mask (bs := [true, true, true, true, false]) (L2 := [some (rv w r0), some (.int x1), some (.int x2), some (.int y211), none]) rfl ?_
          exact ih r0 x1 x2 y211 M204 h
        · replace h := of_iff h c210
          refine g_iload_n C dX5_cheapestEdition_37 rfl rfl ?_
          refine g_istore_n C dX5_cheapestEdition_38 rfl (by decide) (rv_cat _ _) (L2 := [some (rv w r0), some (.int x3), some (.int x2), some (.int x3), some (.int y206)]) rfl ?_
          refine g_iload C dX5_cheapestEdition_39 rfl ?_
          refine g_istore_n C dX5_cheapestEdition_41 rfl (by decide) rfl (L2 := [some (rv w r0), some (.int x3), some (.int y206), some (.int x3), some (.int y206)]) rfl ?_
          obtain ⟨y213, e214, h⟩ := of_bvv h
          refine g_iinc (v := y213) C dX5_cheapestEdition_42 rfl e214.symm (by decide) rfl (L2 := [some (rv w r0), some (.int x3), some (.int y206), some (.int y213), some (.int y206)]) rfl ?_
          refine g_goto 7 C dX5_cheapestEdition_45 (by decide) ?_
          refine g_mask (bs := [true, true, true, true, false]) (L2 := [some (rv w r0), some (.int x3), some (.int y206), some (.int y213), none]) rfl ?_
          exact ih r0 x3 y206 y213 M204 h
def f_X5_cheapestEdition (r0 : Nat) (M : Mem) : Option (Int32 × Mem) := f_X5_cheapestEdition_7 FU r0 (-4 : Int32) (0 : Int32) (0 : Int32) M
set_option maxRecDepth 100000 in
set_option maxHeartbeats 4000000 in
theorem ct_X5_cheapestEdition {l : Launch} {w : Om} (hw : Wf w) {r0 : Nat} {M : Mem} {r : Int32} {M2 : Mem} (h : f_X5_cheapestEdition r0 M = some (r, M2)) : Ct l w yX5_cheapestEdition cX5_cheapestEdition 5 (some .int) 5 [rv w r0] M (some (.int r)) M2 := by
  refine ct_of hw (by decide) (cat_s (rv_cat _ _) cat_0) (Nat.le_of_ble_eq_true rfl) (fun f _ C hR => ?_)
  show Go w f 0 [some (rv w r0), none, none, none, none] [] M
  unfold f_X5_cheapestEdition at h
  refine g_bipush (v := -4) C dX5_cheapestEdition_0 rfl ?_
  refine g_istore_n C dX5_cheapestEdition_2 rfl (by decide) (rv_cat _ _) (L2 := [some (rv w r0), some (.int (-4 : Int32)), none, none, none]) rfl ?_
  refine g_iconst (v := 0) C dX5_cheapestEdition_3 rfl ?_
  refine g_istore_n C dX5_cheapestEdition_4 rfl (by decide) rfl (L2 := [some (rv w r0), some (.int (-4 : Int32)), some (.int (0 : Int32)), none, none]) rfl ?_
  refine g_iconst (v := 0) C dX5_cheapestEdition_5 rfl ?_
  refine g_istore_n C dX5_cheapestEdition_6 rfl (by decide) rfl (L2 := [some (rv w r0), some (.int (-4 : Int32)), some (.int (0 : Int32)), some (.int (0 : Int32)), none]) rfl ?_
  exact t_X5_cheapestEdition_7 C hR _ r0 (-4 : Int32) (0 : Int32) (0 : Int32) M h
def f_X5_count (r0 : Nat) (x1 : Int32) (M : Mem) : Option (Int32 × Mem) := if x1 = nI 0 then (gdd (kd r0 = 6) <| gdd (kd (fld r0 0) = 5) <| some (gI M (fld r0 0) 6, M)) else if x1 = nI 1 then (gdd (kd r0 = 6) <| gdd (kd (fld r0 0) = 5) <| some (gI M (fld r0 0) 4, M)) else if x1 = nI 2 then (gdd (kd r0 = 6) <| gdd (kd (fld r0 0) = 5) <| obb (f_X4_stayedEditions (fld r0 0) M) fun y10 => some (y10, M)) else if x1 = nI 3 then (gdd (kd r0 = 6) <| opp (f_X5_costOfAll r0 M) fun y16 M14 => some (y16, M14)) else if x1 = nI 4 then (gdd (kd r0 = 6) <| gdd (kd (fld r0 0) = 5) <| some (gI M (fld r0 0) 5, M)) else if x1 = nI 5 then (gdd (kd r0 = 6) <| gdd (kd (fld r0 0) = 5) <| obb (f_X4_rulingsInForce (fld r0 0) M) fun y23 => some (y23, M)) else if x1 = nI 6 then (gdd (kd r0 = 6) <| gdd (kd (fld r0 0) = 5) <| obb (f_X4_rulingsThatCount (fld r0 0) M) fun y28 => some (y28, M)) else if x1 = nI 7 then (gdd (kd r0 = 6) <| gdd (kd (fld r0 0) = 5) <| some (gI M (fld r0 0) 7, M)) else if x1 = nI 8 then (gdd (kd r0 = 6) <| gdd (kd (fld r0 0) = 5) <| some (gI M (fld r0 0) 8, M)) else if x1 = nI 9 then (gdd (kd r0 = 6) <| gdd (kd (fld r0 0) = 5) <| obb (f_X4_commasOfAll (fld r0 0) M) fun y39 => some (y39, M)) else if x1 = nI 10 then (gdd (kd r0 = 6) <| gdd (kd (fld r0 0) = 5) <| obb (f_X5_at (fld (fld r0 0) 1) (0 : Int32) M) fun y44 => some (y44, M)) else if x1 = nI 11 then (gdd (kd r0 = 6) <| gdd (kd (fld r0 0) = 5) <| obb (f_X5_at (fld (fld r0 0) 1) (1 : Int32) M) fun y49 => some (y49, M)) else if x1 = nI 12 then (gdd (kd r0 = 6) <| opp (f_X5_cheapestEdition r0 M) fun y55 M53 => some (y55, M53)) else if x1 = nI 13 then (gdd (kd r0 = 6) <| gdd (kd (fld r0 3) = 2) <| some (gI M (fld r0 3) 1, M)) else if x1 = nI 14 then (gdd (kd r0 = 6) <| some (gI M r0 7, M)) else (some ((-1 : Int32), M))
set_option maxRecDepth 100000 in
set_option maxHeartbeats 4000000 in
theorem ct_X5_count {l : Launch} {w : Om} (hw : Wf w) {r0 : Nat} {x1 : Int32} {M : Mem} {r : Int32} {M2 : Mem} (h : f_X5_count r0 x1 M = some (r, M2)) : Ct l w yX5_count cX5_count 2 (some .int) 6 [rv w r0, .int x1] M (some (.int r)) M2 := by
  refine ct_of hw (by decide) (cat_s (rv_cat _ _) (cat_s rfl cat_0)) (Nat.le_of_ble_eq_true rfl) (fun f _ C hR => ?_)
  show Go w f 0 [some (rv w r0), some (.int x1)] [] M
  unfold f_X5_count at h
  refine g_iload_n C dX5_count_0 rfl rfl ?_
  by_cases c1 : x1 = nI 0
  · replace h := of_ift h c1
    refine g_tsI (nI 0) (75) 76 C dX5_count_1 c1 (by decide) (by decide) rfl (by decide) ?_
    refine g_aload_n C dX5_count_76 rfl rfl ?_
    obtain ⟨g2, h⟩ := of_gdd h
    refine gf_5_0 C fl_RX5_10 g2 dX5_count_77 ?_
    obtain ⟨g3, h⟩ := of_gdd h
    refine gf_4_6 C fl_RX5_139 g3 dX5_count_80 ?_
    cases h
    exact hR 83 _ ⟨.int, rfl, rfl⟩ dX5_count_83
  replace h := of_iff h c1
  by_cases c4 : x1 = nI 1
  · replace h := of_ift h c4
    refine g_tsI (nI 1) (83) 84 C dX5_count_1 c4 (by decide) (by decide) rfl (by decide) ?_
    refine g_aload_n C dX5_count_84 rfl rfl ?_
    obtain ⟨g5, h⟩ := of_gdd h
    refine gf_5_0 C fl_RX5_10 g5 dX5_count_85 ?_
    obtain ⟨g6, h⟩ := of_gdd h
    refine gf_4_4 C fl_RX5_112 g6 dX5_count_88 ?_
    cases h
    exact hR 91 _ ⟨.int, rfl, rfl⟩ dX5_count_91
  replace h := of_iff h c4
  by_cases c7 : x1 = nI 2
  · replace h := of_ift h c7
    refine g_tsI (nI 2) (91) 92 C dX5_count_1 c7 (by decide) (by decide) rfl (by decide) ?_
    refine g_aload_n C dX5_count_92 rfl rfl ?_
    obtain ⟨g8, h⟩ := of_gdd h
    refine gf_5_0 C fl_RX5_10 g8 dX5_count_93 ?_
    obtain ⟨g9, h⟩ := of_gdd h
    obtain ⟨y10, e11, h⟩ := of_obb h
    refine g_callV (As := []) C (ct_X4_stayedEditions C.wf e11) g9 lk_RX5_255 mi_X4_stayedEditions (by decide) cs_0 (by decide) dX5_count_96 rfl ?_
    show Go w f 99 [some (rv w r0), some (.int x1)] [.int y10] M
    cases h
    exact hR 99 _ ⟨.int, rfl, rfl⟩ dX5_count_99
  replace h := of_iff h c7
  by_cases c12 : x1 = nI 3
  · replace h := of_ift h c12
    refine g_tsI (nI 3) (99) 100 C dX5_count_1 c12 (by decide) (by decide) rfl (by decide) ?_
    refine g_aload_n C dX5_count_100 rfl rfl ?_
    obtain ⟨g13, h⟩ := of_gdd h
    obtain ⟨y16, M14, e15, h⟩ := of_opp h
    refine g_callV (As := []) C (ct_X5_costOfAll C.wf e15) g13 lk_RX5_258 mi_X5_costOfAll (by decide) cs_0 (by decide) dX5_count_101 rfl ?_
    show Go w f 104 [some (rv w r0), some (.int x1)] [.int y16] M14
    cases h
    exact hR 104 _ ⟨.int, rfl, rfl⟩ dX5_count_104
  replace h := of_iff h c12
  by_cases c17 : x1 = nI 4
  · replace h := of_ift h c17
    refine g_tsI (nI 4) (104) 105 C dX5_count_1 c17 (by decide) (by decide) rfl (by decide) ?_
    refine g_aload_n C dX5_count_105 rfl rfl ?_
    obtain ⟨g18, h⟩ := of_gdd h
    refine gf_5_0 C fl_RX5_10 g18 dX5_count_106 ?_
    obtain ⟨g19, h⟩ := of_gdd h
    refine gf_4_5 C fl_RX5_73 g19 dX5_count_109 ?_
    cases h
    exact hR 112 _ ⟨.int, rfl, rfl⟩ dX5_count_112
  replace h := of_iff h c17
  by_cases c20 : x1 = nI 5
  · replace h := of_ift h c20
    refine g_tsI (nI 5) (112) 113 C dX5_count_1 c20 (by decide) (by decide) rfl (by decide) ?_
    refine g_aload_n C dX5_count_113 rfl rfl ?_
    obtain ⟨g21, h⟩ := of_gdd h
    refine gf_5_0 C fl_RX5_10 g21 dX5_count_114 ?_
    obtain ⟨g22, h⟩ := of_gdd h
    obtain ⟨y23, e24, h⟩ := of_obb h
    refine g_callV (As := []) C (ct_X4_rulingsInForce C.wf e24) g22 lk_RX5_91 mi_X4_rulingsInForce (by decide) cs_0 (by decide) dX5_count_117 rfl ?_
    show Go w f 120 [some (rv w r0), some (.int x1)] [.int y23] M
    cases h
    exact hR 120 _ ⟨.int, rfl, rfl⟩ dX5_count_120
  replace h := of_iff h c20
  by_cases c25 : x1 = nI 6
  · replace h := of_ift h c25
    refine g_tsI (nI 6) (120) 121 C dX5_count_1 c25 (by decide) (by decide) rfl (by decide) ?_
    refine g_aload_n C dX5_count_121 rfl rfl ?_
    obtain ⟨g26, h⟩ := of_gdd h
    refine gf_5_0 C fl_RX5_10 g26 dX5_count_122 ?_
    obtain ⟨g27, h⟩ := of_gdd h
    obtain ⟨y28, e29, h⟩ := of_obb h
    refine g_callV (As := []) C (ct_X4_rulingsThatCount C.wf e29) g27 lk_RX5_261 mi_X4_rulingsThatCount (by decide) cs_0 (by decide) dX5_count_125 rfl ?_
    show Go w f 128 [some (rv w r0), some (.int x1)] [.int y28] M
    cases h
    exact hR 128 _ ⟨.int, rfl, rfl⟩ dX5_count_128
  replace h := of_iff h c25
  by_cases c30 : x1 = nI 7
  · replace h := of_ift h c30
    refine g_tsI (nI 7) (128) 129 C dX5_count_1 c30 (by decide) (by decide) rfl (by decide) ?_
    refine g_aload_n C dX5_count_129 rfl rfl ?_
    obtain ⟨g31, h⟩ := of_gdd h
    refine gf_5_0 C fl_RX5_10 g31 dX5_count_130 ?_
    obtain ⟨g32, h⟩ := of_gdd h
    refine gf_4_7 C fl_RX5_264 g32 dX5_count_133 ?_
    cases h
    exact hR 136 _ ⟨.int, rfl, rfl⟩ dX5_count_136
  replace h := of_iff h c30
  by_cases c33 : x1 = nI 8
  · replace h := of_ift h c33
    refine g_tsI (nI 8) (136) 137 C dX5_count_1 c33 (by decide) (by decide) rfl (by decide) ?_
    refine g_aload_n C dX5_count_137 rfl rfl ?_
    obtain ⟨g34, h⟩ := of_gdd h
    refine gf_5_0 C fl_RX5_10 g34 dX5_count_138 ?_
    obtain ⟨g35, h⟩ := of_gdd h
    refine gf_4_8 C fl_RX5_265 g35 dX5_count_141 ?_
    cases h
    exact hR 144 _ ⟨.int, rfl, rfl⟩ dX5_count_144
  replace h := of_iff h c33
  by_cases c36 : x1 = nI 9
  · replace h := of_ift h c36
    refine g_tsI (nI 9) (144) 145 C dX5_count_1 c36 (by decide) (by decide) rfl (by decide) ?_
    refine g_aload_n C dX5_count_145 rfl rfl ?_
    obtain ⟨g37, h⟩ := of_gdd h
    refine gf_5_0 C fl_RX5_10 g37 dX5_count_146 ?_
    obtain ⟨g38, h⟩ := of_gdd h
    obtain ⟨y39, e40, h⟩ := of_obb h
    refine g_callV (As := []) C (ct_X4_commasOfAll C.wf e40) g38 lk_RX5_268 mi_X4_commasOfAll (by decide) cs_0 (by decide) dX5_count_149 rfl ?_
    show Go w f 152 [some (rv w r0), some (.int x1)] [.int y39] M
    cases h
    exact hR 152 _ ⟨.int, rfl, rfl⟩ dX5_count_152
  replace h := of_iff h c36
  by_cases c41 : x1 = nI 10
  · replace h := of_ift h c41
    refine g_tsI (nI 10) (152) 153 C dX5_count_1 c41 (by decide) (by decide) rfl (by decide) ?_
    refine g_aload_n C dX5_count_153 rfl rfl ?_
    obtain ⟨g42, h⟩ := of_gdd h
    refine gf_5_0 C fl_RX5_10 g42 dX5_count_154 ?_
    obtain ⟨g43, h⟩ := of_gdd h
    refine gf_4_1 C fl_RX5_67 g43 dX5_count_157 ?_
    refine g_iconst (v := 0) C dX5_count_160 rfl ?_
    obtain ⟨y44, e45, h⟩ := of_obb h
    refine g_callS (As := [rv w (fld (fld r0 0) 1), .int (0 : Int32)]) C (ct_X5_at C.wf e45) lk_RX5_59 mi_X5_at (by decide) cs_0 (by decide) dX5_count_161 rfl ?_
    show Go w f 164 [some (rv w r0), some (.int x1)] [.int y44] M
    cases h
    exact hR 164 _ ⟨.int, rfl, rfl⟩ dX5_count_164
  replace h := of_iff h c41
  by_cases c46 : x1 = nI 11
  · replace h := of_ift h c46
    refine g_tsI (nI 11) (164) 165 C dX5_count_1 c46 (by decide) (by decide) rfl (by decide) ?_
    refine g_aload_n C dX5_count_165 rfl rfl ?_
    obtain ⟨g47, h⟩ := of_gdd h
    refine gf_5_0 C fl_RX5_10 g47 dX5_count_166 ?_
    obtain ⟨g48, h⟩ := of_gdd h
    refine gf_4_1 C fl_RX5_67 g48 dX5_count_169 ?_
    refine g_iconst (v := 1) C dX5_count_172 rfl ?_
    obtain ⟨y49, e50, h⟩ := of_obb h
    refine g_callS (As := [rv w (fld (fld r0 0) 1), .int (1 : Int32)]) C (ct_X5_at C.wf e50) lk_RX5_59 mi_X5_at (by decide) cs_0 (by decide) dX5_count_173 rfl ?_
    show Go w f 176 [some (rv w r0), some (.int x1)] [.int y49] M
    cases h
    exact hR 176 _ ⟨.int, rfl, rfl⟩ dX5_count_176
  replace h := of_iff h c46
  by_cases c51 : x1 = nI 12
  · replace h := of_ift h c51
    refine g_tsI (nI 12) (176) 177 C dX5_count_1 c51 (by decide) (by decide) rfl (by decide) ?_
    refine g_aload_n C dX5_count_177 rfl rfl ?_
    obtain ⟨g52, h⟩ := of_gdd h
    obtain ⟨y55, M53, e54, h⟩ := of_opp h
    refine g_callV (As := []) C (ct_X5_cheapestEdition C.wf e54) g52 lk_RX5_271 mi_X5_cheapestEdition (by decide) cs_0 (by decide) dX5_count_178 rfl ?_
    show Go w f 181 [some (rv w r0), some (.int x1)] [.int y55] M53
    cases h
    exact hR 181 _ ⟨.int, rfl, rfl⟩ dX5_count_181
  replace h := of_iff h c51
  by_cases c56 : x1 = nI 13
  · replace h := of_ift h c56
    refine g_tsI (nI 13) (181) 182 C dX5_count_1 c56 (by decide) (by decide) rfl (by decide) ?_
    refine g_aload_n C dX5_count_182 rfl rfl ?_
    obtain ⟨g57, h⟩ := of_gdd h
    refine gf_5_3 C fl_RX5_26 g57 dX5_count_183 ?_
    obtain ⟨g58, h⟩ := of_gdd h
    refine gf_1_1 C fl_RX5_118 g58 dX5_count_186 ?_
    cases h
    exact hR 189 _ ⟨.int, rfl, rfl⟩ dX5_count_189
  replace h := of_iff h c56
  by_cases c59 : x1 = nI 14
  · replace h := of_ift h c59
    refine g_tsI (nI 14) (189) 190 C dX5_count_1 c59 (by decide) (by decide) rfl (by decide) ?_
    refine g_aload_n C dX5_count_190 rfl rfl ?_
    obtain ⟨g60, h⟩ := of_gdd h
    refine gf_5_7 C fl_RX5_274 g60 dX5_count_191 ?_
    cases h
    exact hR 194 _ ⟨.int, rfl, rfl⟩ dX5_count_194
  replace h := of_iff h c59
  refine g_tsD 15 195 C dX5_count_1 (by decide) rfl rfl (p_lt (lt_s (lt_s (lt_s (lt_s (lt_s (lt_s (lt_s (lt_s (lt_s (lt_s (lt_s (lt_s (lt_s (lt_s (lt_s lt_0 c1) c4) c7) c12) c17) c20) c25) c30) c33) c36) c41) c46) c51) c56) c59)) (by decide) ?_
  refine g_iconst (v := -1) C dX5_count_195 rfl ?_
  cases h
  exact hR 196 _ ⟨.int, rfl, rfl⟩ dX5_count_196
def f_X5_stateAt (r0 : Nat) (x1 : Int32) (M : Mem) : Option Nat := if x1 < 0 then (some 0) else (gdd (kd r0 = 6) <| if (gI M r0 7) ≤ x1 then (some 0) else (gdd (kd (fld r0 2) = 11) <| if (nI (ln (fld r0 2))) ≤ x1 then (some 0) else (gdd (inb x1 (ln (fld r0 2)) = true) <| some (gH M (x1).toNatClampNeg))))
set_option maxRecDepth 100000 in
set_option maxHeartbeats 4000000 in
theorem ct_X5_stateAt {l : Launch} {w : Om} (hw : Wf w) {r0 : Nat} {x1 : Int32}  {M : Mem} {r : Nat} (h : f_X5_stateAt r0 x1 M = some r) : Ct l w yX5_stateAt cX5_stateAt 2 (some (.object "CommaCourt$State")) 0 [rv w r0, .int x1] M (some (rv w r)) M := by
  refine ct_of hw (by decide) (cat_s (rv_cat _ _) (cat_s rfl cat_0)) (Nat.le_of_ble_eq_true rfl) (fun f _ C hR => ?_)
  show Go w f 0 [some (rv w r0), some (.int x1)] [] M
  unfold f_X5_stateAt at h
  refine g_iload_n C dX5_stateAt_0 rfl rfl ?_
  refine g_if_lt 30 C dX5_stateAt_1 (by decide) (fun c1 => ?_) (fun c1 => ?_)
  · replace h := of_ift h c1
    refine g_null C dX5_stateAt_30 ?_
    cases h
    exact RtA_use hR 31 _ (Or.inl ⟨_, rfl⟩) dX5_stateAt_31
  · replace h := of_iff h c1
    refine g_iload_n C dX5_stateAt_4 rfl rfl ?_
    refine g_aload_n C dX5_stateAt_5 rfl rfl ?_
    obtain ⟨g2, h⟩ := of_gdd h
    refine gf_5_7 C fl_RX5_274 g2 dX5_stateAt_6 ?_
    refine g_icmp_ge 30 C dX5_stateAt_9 (by decide) (fun c3 => ?_) (fun c3 => ?_)
    · replace h := of_ift h c3
      refine g_null C dX5_stateAt_30 ?_
      cases h
      exact RtA_use hR 31 _ (Or.inl ⟨_, rfl⟩) dX5_stateAt_31
    · replace h := of_iff h c3
      refine g_iload_n C dX5_stateAt_12 rfl rfl ?_
      refine g_aload_n C dX5_stateAt_13 rfl rfl ?_
      refine gf_5_2 C fl_RX5_19 g2 dX5_stateAt_14 ?_
      obtain ⟨g4, h⟩ := of_gdd h
      refine g_alen C (Or.inr (Or.inr (Or.inr g4))) dX5_stateAt_17 ?_
      refine g_icmp_ge 30 C dX5_stateAt_18 (by decide) (fun c5 => ?_) (fun c5 => ?_)
      · replace h := of_ift h c5
        refine g_null C dX5_stateAt_30 ?_
        cases h
        exact RtA_use hR 31 _ (Or.inl ⟨_, rfl⟩) dX5_stateAt_31
      · replace h := of_iff h c5
        refine g_aload_n C dX5_stateAt_21 rfl rfl ?_
        refine gf_5_2 C fl_RX5_19 g2 dX5_stateAt_22 ?_
        refine g_iload_n C dX5_stateAt_25 rfl rfl ?_
        obtain ⟨g6, h⟩ := of_gdd h
        refine g_aalds C g4 g6 dX5_stateAt_26 ?_
        refine g_goto 31 C dX5_stateAt_27 (by decide) ?_
        cases h
        exact RtA_use hR 31 _ (Or.inl ⟨_, rfl⟩) dX5_stateAt_31
def f_X0_copyFrom_2 : Nat → Nat → Nat → Int32 → Mem → Option Mem
  | 0, _, _, _, _ => none
  | n + 1, r0, r1, x2, M => if (12 : Int32) ≤ x2 then (gdd (kd r1 = 1) <| gdd (kd r0 = 1) <| bvv (sI M r0 1 (gI M r1 1)) fun M204 => bvv (sI M204 r0 2 (gI M204 r1 2)) fun M206 => bvv (sI M206 r0 3 (gI M206 r1 3)) fun M208 => bvv (sI M208 r0 4 (gI M208 r1 4)) fun M210 => some M210) else (gdd (kd r0 = 1) <| gdd (kd r1 = 1) <| obb (f_X5_at (fld r1 0) x2 M) fun y214 => obb (f_X5_put (fld r0 0) x2 y214 M) fun M216 => bvv (x2 + (1 : Int32)) fun y218 => (f_X0_copyFrom_2 n) r0 r1 y218 M216)
set_option maxRecDepth 100000 in
set_option maxHeartbeats 4000000 in
theorem t_X0_copyFrom_2 {w : Om} {f : Fr} {M2 : Mem} (C : Cx w f RX0 cX0_copyFrom 3 1) (hR : Rt w f cX0_copyFrom none none M2)   : ∀ (n : Nat) (r0 : Nat) (r1 : Nat) (x2 : Int32) (M : Mem), f_X0_copyFrom_2 n r0 r1 x2 M = some M2 → Go w f 2 [some (rv w r0), some (rv w r1), some (.int x2)] [] M := by
  intro n
  induction n with
  | zero =>
    intro r0 r1 x2 M h
    cases h
  | succ n ih =>
    intro r0 r1 x2 M h
    rw [f_X0_copyFrom_2] at h
    refine g_iload_n C dX0_copyFrom_2 rfl rfl ?_
    refine g_bipush (v := 12) C dX0_copyFrom_3 rfl ?_
    refine g_icmp_ge 30 C dX0_copyFrom_5 (by decide) (fun c201 => ?_) (fun c201 => ?_)
    · replace h := of_ift h c201
      refine g_aload_n C dX0_copyFrom_30 rfl rfl ?_
      refine g_aload_n C dX0_copyFrom_31 rfl rfl ?_
      obtain ⟨g202, h⟩ := of_gdd h
      refine gf_0_1 C fl_RX0_23 g202 dX0_copyFrom_32 ?_
      obtain ⟨g203, h⟩ := of_gdd h
      refine pf_0_1 C fl_RX0_23 g203 dX0_copyFrom_35 ?_
      obtain ⟨M204, e205, h⟩ := of_bvv h
      refine g_mem e205 ?_
      refine g_aload_n C dX0_copyFrom_38 rfl rfl ?_
      refine g_aload_n C dX0_copyFrom_39 rfl rfl ?_
      refine gf_0_2 C fl_RX0_27 g202 dX0_copyFrom_40 ?_
      refine pf_0_2 C fl_RX0_27 g203 dX0_copyFrom_43 ?_
      obtain ⟨M206, e207, h⟩ := of_bvv h
      refine g_mem e207 ?_
      refine g_aload_n C dX0_copyFrom_46 rfl rfl ?_
      refine g_aload_n C dX0_copyFrom_47 rfl rfl ?_
      refine gf_0_3 C fl_RX0_30 g202 dX0_copyFrom_48 ?_
      refine pf_0_3 C fl_RX0_30 g203 dX0_copyFrom_51 ?_
      obtain ⟨M208, e209, h⟩ := of_bvv h
      refine g_mem e209 ?_
      refine g_aload_n C dX0_copyFrom_54 rfl rfl ?_
      refine g_aload_n C dX0_copyFrom_55 rfl rfl ?_
      refine gf_0_4 C fl_RX0_33 g202 dX0_copyFrom_56 ?_
      refine pf_0_4 C fl_RX0_33 g203 dX0_copyFrom_59 ?_
      obtain ⟨M210, e211, h⟩ := of_bvv h
      refine g_mem e211 ?_
      cases h
      exact hR 62 _ rfl dX0_copyFrom_62
    · replace h := of_iff h c201
      refine g_aload_n C dX0_copyFrom_8 rfl rfl ?_
      obtain ⟨g212, h⟩ := of_gdd h
      refine gf_0_0 C fl_RX0_9 g212 dX0_copyFrom_9 ?_
      refine g_iload_n C dX0_copyFrom_12 rfl rfl ?_
      refine g_aload_n C dX0_copyFrom_13 rfl rfl ?_
      obtain ⟨g213, h⟩ := of_gdd h
      refine gf_0_0 C fl_RX0_9 g213 dX0_copyFrom_14 ?_
      refine g_iload_n C dX0_copyFrom_17 rfl rfl ?_
      obtain ⟨y214, e215, h⟩ := of_obb h
      refine g_callSN (As := [rv w (fld r1 0), .int x2]) C (ct_X5_at C.wf e215) ln_RX0_15 mi_X5_at (by decide) (cs_i (cs_r cs_0)) (by decide) dX0_copyFrom_18 rfl ?_
      show Go w f 21 [some (rv w r0), some (rv w r1), some (.int x2)] [.int y214, .int x2, rv w (fld r0 0)] M
      obtain ⟨M216, e217, h⟩ := of_obb h
      refine g_callSN (As := [rv w (fld r0 0), .int x2, .int y214]) C (ct_X5_put C.wf e217) ln_RX0_19 mi_X5_put (by decide) cs_0 (by decide) dX0_copyFrom_21 rfl ?_
      show Go w f 24 [some (rv w r0), some (rv w r1), some (.int x2)] [] M216
      obtain ⟨y218, e219, h⟩ := of_bvv h
      refine g_iinc (v := y218) C dX0_copyFrom_24 rfl e219.symm (by decide) (rv_cat _ _) (L2 := [some (rv w r0), some (rv w r1), some (.int y218)]) rfl ?_
      refine g_goto 2 C dX0_copyFrom_27 (by decide) ?_
      exact ih r0 r1 y218 M216 h
def f_X0_copyFrom (r0 : Nat) (r1 : Nat) (M : Mem) : Option Mem := f_X0_copyFrom_2 FU r0 r1 (0 : Int32) M
set_option maxRecDepth 100000 in
set_option maxHeartbeats 4000000 in
theorem ct_X0_copyFrom {l : Launch} {w : Om} (hw : Wf w) {r0 : Nat} {r1 : Nat} {M : Mem} {M2 : Mem} (h : f_X0_copyFrom r0 r1 M = some M2) : Ct l w yX0_copyFrom cX0_copyFrom 3 none 1 [rv w r0, rv w r1] M none M2 := by
  refine ct_of hw (by decide) (cat_s (rv_cat _ _) (cat_s (rv_cat _ _) cat_0)) (Nat.le_of_ble_eq_true rfl) (fun f _ C hR => ?_)
  show Go w f 0 [some (rv w r0), some (rv w r1), none] [] M
  unfold f_X0_copyFrom at h
  refine g_iconst (v := 0) C dX0_copyFrom_0 rfl ?_
  refine g_istore_n C dX0_copyFrom_1 rfl (by decide) (rv_cat _ _) (L2 := [some (rv w r0), some (rv w r1), some (.int (0 : Int32))]) rfl ?_
  exact t_X0_copyFrom_2 C hR _ r0 r1 (0 : Int32) M h
def f_X4_copyEdition (r0 : Nat) (r1 : Nat) (x2 : Int32) (M : Mem) : Option Mem := gdd (kd r0 = 5) <| obb (f_X4_editionAt r0 x2 M) fun y2 => if r1 = 0 then (some M) else (if y2 = 0 then (some M) else (gdd (kd y2 = 1) <| obb (f_X0_copyFrom y2 r1 M) fun M7 => some M7))
set_option maxRecDepth 100000 in
set_option maxHeartbeats 4000000 in
theorem ct_X4_copyEdition {l : Launch} {w : Om} (hw : Wf w) {r0 : Nat} {r1 : Nat} {x2 : Int32} {M : Mem} {M2 : Mem} (h : f_X4_copyEdition r0 r1 x2 M = some M2) : Ct l w yX4_copyEdition cX4_copyEdition 4 none 2 [rv w r0, rv w r1, .int x2] M none M2 := by
  refine ct_of hw (by decide) (cat_s (rv_cat _ _) (cat_s (rv_cat _ _) (cat_s rfl cat_0))) (Nat.le_of_ble_eq_true rfl) (fun f _ C hR => ?_)
  show Go w f 0 [some (rv w r0), some (rv w r1), some (.int x2), none] [] M
  unfold f_X4_copyEdition at h
  refine g_aload_n C dX4_copyEdition_0 rfl rfl ?_
  refine g_iload_n C dX4_copyEdition_1 rfl rfl ?_
  obtain ⟨g1, h⟩ := of_gdd h
  obtain ⟨y2, e3, h⟩ := of_obb h
  refine g_callV (As := [.int x2]) C (ct_X4_editionAt C.wf e3) g1 lk_RX4_47 mi_X4_editionAt (by decide) cs_0 (by decide) dX4_copyEdition_2 rfl ?_
  show Go w f 5 [some (rv w r0), some (rv w r1), some (.int x2), none] [rv w y2] M
  refine g_astore_n C dX4_copyEdition_5 rfl (by decide) rfl (L2 := [some (rv w r0), some (rv w r1), some (.int x2), some (rv w y2)]) rfl ?_
  refine g_aload_n C dX4_copyEdition_6 rfl rfl ?_
  refine g_ifnull 19 C dX4_copyEdition_7 (by decide) (fun c4 => ?_) (fun c4 => ?_)
  · replace h := of_ift h c4
    cases h
    exact hR 19 _ rfl dX4_copyEdition_19
  · replace h := of_iff h c4
    refine g_aload_n C dX4_copyEdition_10 rfl rfl ?_
    refine g_ifnull 19 C dX4_copyEdition_11 (by decide) (fun c5 => ?_) (fun c5 => ?_)
    · replace h := of_ift h c5
      cases h
      exact hR 19 _ rfl dX4_copyEdition_19
    · replace h := of_iff h c5
      refine g_aload_n C dX4_copyEdition_14 rfl rfl ?_
      refine g_aload_n C dX4_copyEdition_15 rfl rfl ?_
      obtain ⟨g6, h⟩ := of_gdd h
      obtain ⟨M7, e8, h⟩ := of_obb h
      refine g_callV (As := [rv w r1]) C (ct_X0_copyFrom C.wf e8) g6 lk_RX4_72 mi_X0_copyFrom (by decide) cs_0 (by decide) dX4_copyEdition_16 rfl ?_
      show Go w f 19 [some (rv w r0), some (rv w r1), some (.int x2), some (rv w y2)] [] M7
      cases h
      exact hR 19 _ rfl dX4_copyEdition_19
def f_X2_copyFrom (r0 : Nat) (r1 : Nat) (M : Mem) : Option Mem := gdd (kd r1 = 3) <| gdd (kd r0 = 3) <| bvv (sI M r0 0 (gI M r1 0)) fun M3 => bvv (sI M3 r0 1 (gI M3 r1 1)) fun M5 => gdd (isb (gI M5 r1 2) = true) <| bvv (sI M5 r0 2 (gI M5 r1 2)) fun M8 => bvv (sI M8 r0 3 (gI M8 r1 3)) fun M10 => bvv (sI M10 r0 4 (gI M10 r1 4)) fun M12 => gdd (isb (gI M12 r1 5) = true) <| bvv (sI M12 r0 5 (gI M12 r1 5)) fun M15 => gdd (isb (gI M15 r1 6) = true) <| bvv (sI M15 r0 6 (gI M15 r1 6)) fun M18 => some M18
set_option maxRecDepth 100000 in
set_option maxHeartbeats 4000000 in
theorem ct_X2_copyFrom {l : Launch} {w : Om} (hw : Wf w) {r0 : Nat} {r1 : Nat} {M : Mem} {M2 : Mem} (h : f_X2_copyFrom r0 r1 M = some M2) : Ct l w yX2_copyFrom cX2_copyFrom 2 none 0 [rv w r0, rv w r1] M none M2 := by
  refine ct_of hw (by decide) (cat_s (rv_cat _ _) (cat_s (rv_cat _ _) cat_0)) (Nat.le_of_ble_eq_true rfl) (fun f _ C hR => ?_)
  show Go w f 0 [some (rv w r0), some (rv w r1)] [] M
  unfold f_X2_copyFrom at h
  refine g_aload_n C dX2_copyFrom_0 rfl rfl ?_
  refine g_aload_n C dX2_copyFrom_1 rfl rfl ?_
  obtain ⟨g1, h⟩ := of_gdd h
  refine gf_2_0 C fl_RX2_7 g1 dX2_copyFrom_2 ?_
  obtain ⟨g2, h⟩ := of_gdd h
  refine pf_2_0 C fl_RX2_7 g2 dX2_copyFrom_5 ?_
  obtain ⟨M3, e4, h⟩ := of_bvv h
  refine g_mem e4 ?_
  refine g_aload_n C dX2_copyFrom_8 rfl rfl ?_
  refine g_aload_n C dX2_copyFrom_9 rfl rfl ?_
  refine gf_2_1 C fl_RX2_13 g1 dX2_copyFrom_10 ?_
  refine pf_2_1 C fl_RX2_13 g2 dX2_copyFrom_13 ?_
  obtain ⟨M5, e6, h⟩ := of_bvv h
  refine g_mem e6 ?_
  refine g_aload_n C dX2_copyFrom_16 rfl rfl ?_
  refine g_aload_n C dX2_copyFrom_17 rfl rfl ?_
  refine gf_2_2 C fl_RX2_16 g1 dX2_copyFrom_18 ?_
  obtain ⟨g7, h⟩ := of_gdd h
  refine pf_2_2 C fl_RX2_16 g2 g7 dX2_copyFrom_21 ?_
  obtain ⟨M8, e9, h⟩ := of_bvv h
  refine g_mem e9 ?_
  refine g_aload_n C dX2_copyFrom_24 rfl rfl ?_
  refine g_aload_n C dX2_copyFrom_25 rfl rfl ?_
  refine gf_2_3 C fl_RX2_20 g1 dX2_copyFrom_26 ?_
  refine pf_2_3 C fl_RX2_20 g2 dX2_copyFrom_29 ?_
  obtain ⟨M10, e11, h⟩ := of_bvv h
  refine g_mem e11 ?_
  refine g_aload_n C dX2_copyFrom_32 rfl rfl ?_
  refine g_aload_n C dX2_copyFrom_33 rfl rfl ?_
  refine gf_2_4 C fl_RX2_23 g1 dX2_copyFrom_34 ?_
  refine pf_2_4 C fl_RX2_23 g2 dX2_copyFrom_37 ?_
  obtain ⟨M12, e13, h⟩ := of_bvv h
  refine g_mem e13 ?_
  refine g_aload_n C dX2_copyFrom_40 rfl rfl ?_
  refine g_aload_n C dX2_copyFrom_41 rfl rfl ?_
  refine gf_2_5 C fl_RX2_26 g1 dX2_copyFrom_42 ?_
  obtain ⟨g14, h⟩ := of_gdd h
  refine pf_2_5 C fl_RX2_26 g2 g14 dX2_copyFrom_45 ?_
  obtain ⟨M15, e16, h⟩ := of_bvv h
  refine g_mem e16 ?_
  refine g_aload_n C dX2_copyFrom_48 rfl rfl ?_
  refine g_aload_n C dX2_copyFrom_49 rfl rfl ?_
  refine gf_2_6 C fl_RX2_29 g1 dX2_copyFrom_50 ?_
  obtain ⟨g17, h⟩ := of_gdd h
  refine pf_2_6 C fl_RX2_29 g2 g17 dX2_copyFrom_53 ?_
  obtain ⟨M18, e19, h⟩ := of_bvv h
  refine g_mem e19 ?_
  cases h
  exact hR 56 _ rfl dX2_copyFrom_56
def f_X4_copyFrom_103 : Nat → Nat → Nat → Int32 → Mem → Option Mem
  | 0, _, _, _, _ => none
  | n + 1, r0, r1, x2, M => gdd (kd r0 = 5) <| if (gI M r0 5) ≤ x2 then (gdd (kd r1 = 5) <| bvv (sI M r0 6 (gI M r1 6)) fun M504 => bvv (sI M504 r0 7 (gI M504 r1 7)) fun M506 => bvv (sI M506 r0 8 (gI M506 r1 8)) fun M508 => some M508) else (gdd (kd r1 = 5) <| obb (f_X4_rulingAt r1 x2 M) fun y511 => obb (f_X4_rulingAt r0 x2 M) fun y513 => if y511 = 0 then (bvv (x2 + (1 : Int32)) fun y516 => (f_X4_copyFrom_103 n) r0 r1 y516 M) else (if y513 = 0 then (bvv (x2 + (1 : Int32)) fun y519 => (f_X4_copyFrom_103 n) r0 r1 y519 M) else (gdd (kd y513 = 3) <| obb (f_X2_copyFrom y513 y511 M) fun M522 => bvv (x2 + (1 : Int32)) fun y524 => (f_X4_copyFrom_103 n) r0 r1 y524 M522)))
set_option maxRecDepth 100000 in
set_option maxHeartbeats 4000000 in
theorem t_X4_copyFrom_103 {w : Om} {f : Fr} {M2 : Mem} (C : Cx w f RX4 cX4_copyFrom 5 3) (hR : Rt w f cX4_copyFrom none none M2)   : ∀ (n : Nat) (r0 : Nat) (r1 : Nat) (x2 : Int32) (M : Mem), f_X4_copyFrom_103 n r0 r1 x2 M = some M2 → Go w f 103 [some (rv w r0), some (rv w r1), some (.int x2), none, none] [] M := by
  intro n
  induction n with
  | zero =>
    intro r0 r1 x2 M h
    cases h
  | succ n ih =>
    intro r0 r1 x2 M h
    rw [f_X4_copyFrom_103] at h
    refine g_iload_n C dX4_copyFrom_103 rfl rfl ?_
    refine g_aload_n C dX4_copyFrom_104 rfl rfl ?_
    obtain ⟨g501, h⟩ := of_gdd h
    refine gf_4_5 C fl_RX4_44 g501 dX4_copyFrom_105 ?_
    refine g_icmp_ge 145 C dX4_copyFrom_108 (by decide) (fun c502 => ?_) (fun c502 => ?_)
    · replace h := of_ift h c502
      refine g_aload_n C dX4_copyFrom_145 rfl rfl ?_
      refine g_aload_n C dX4_copyFrom_146 rfl rfl ?_
      obtain ⟨g503, h⟩ := of_gdd h
      refine gf_4_6 C fl_RX4_63 g503 dX4_copyFrom_147 ?_
      refine pf_4_6 C fl_RX4_63 g501 dX4_copyFrom_150 ?_
      obtain ⟨M504, e505, h⟩ := of_bvv h
      refine g_mem e505 ?_
      refine g_aload_n C dX4_copyFrom_153 rfl rfl ?_
      refine g_aload_n C dX4_copyFrom_154 rfl rfl ?_
      refine gf_4_7 C fl_RX4_66 g503 dX4_copyFrom_155 ?_
      refine pf_4_7 C fl_RX4_66 g501 dX4_copyFrom_158 ?_
      obtain ⟨M506, e507, h⟩ := of_bvv h
      refine g_mem e507 ?_
      refine g_aload_n C dX4_copyFrom_161 rfl rfl ?_
      refine g_aload_n C dX4_copyFrom_162 rfl rfl ?_
      refine gf_4_8 C fl_RX4_69 g503 dX4_copyFrom_163 ?_
      refine pf_4_8 C fl_RX4_69 g501 dX4_copyFrom_166 ?_
      obtain ⟨M508, e509, h⟩ := of_bvv h
      refine g_mem e509 ?_
      cases h
      exact hR 169 _ rfl dX4_copyFrom_169
    · replace h := of_iff h c502
      refine g_aload_n C dX4_copyFrom_111 rfl rfl ?_
      refine g_iload_n C dX4_copyFrom_112 rfl rfl ?_
      obtain ⟨g510, h⟩ := of_gdd h
      obtain ⟨y511, e512, h⟩ := of_obb h
      refine g_callV (As := [.int x2]) C (ct_X4_rulingAt C.wf e512) g510 lk_RX4_55 mi_X4_rulingAt (by decide) cs_0 (by decide) dX4_copyFrom_113 rfl ?_
      show Go w f 116 [some (rv w r0), some (rv w r1), some (.int x2), none, none] [rv w y511] M
      refine g_astore_n C dX4_copyFrom_116 rfl (by decide) rfl (L2 := [some (rv w r0), some (rv w r1), some (.int x2), some (rv w y511), none]) rfl ?_
      refine g_aload_n C dX4_copyFrom_117 rfl rfl ?_
      refine g_iload_n C dX4_copyFrom_118 rfl rfl ?_
      obtain ⟨y513, e514, h⟩ := of_obb h
      refine g_callV (As := [.int x2]) C (ct_X4_rulingAt C.wf e514) g501 lk_RX4_55 mi_X4_rulingAt (by decide) cs_0 (by decide) dX4_copyFrom_119 rfl ?_
      show Go w f 122 [some (rv w r0), some (rv w r1), some (.int x2), some (rv w y511), none] [rv w y513] M
      refine g_astore C dX4_copyFrom_122 (by decide) (rv_cat _ _) (L2 := [some (rv w r0), some (rv w r1), some (.int x2), some (rv w y511), some (rv w y513)]) rfl ?_
      refine g_aload_n C dX4_copyFrom_124 rfl rfl ?_
      refine g_ifnull 139 C dX4_copyFrom_125 (by decide) (fun c515 => ?_) (fun c515 => ?_)
      · replace h := of_ift h c515
        obtain ⟨y516, e517, h⟩ := of_bvv h
        refine g_iinc (v := y516) C dX4_copyFrom_139 rfl e517.symm (by decide) (rv_cat _ _) (L2 := [some (rv w r0), some (rv w r1), some (.int y516), some (rv w y511), some (rv w y513)]) rfl ?_
        refine g_goto 103 C dX4_copyFrom_142 (by decide) ?_
        refine g_mask (bs := [true, true, true, false, false]) (L2 := [some (rv w r0), some (rv w r1), some (.int y516), none, none]) rfl ?_
        exact ih r0 r1 y516 M h
      · replace h := of_iff h c515
        refine g_aload C dX4_copyFrom_128 rfl ?_
        refine g_ifnull 139 C dX4_copyFrom_130 (by decide) (fun c518 => ?_) (fun c518 => ?_)
        · replace h := of_ift h c518
          obtain ⟨y519, e520, h⟩ := of_bvv h
          refine g_iinc (v := y519) C dX4_copyFrom_139 rfl e520.symm (by decide) (rv_cat _ _) (L2 := [some (rv w r0), some (rv w r1), some (.int y519), some (rv w y511), some (rv w y513)]) rfl ?_
          refine g_goto 103 C dX4_copyFrom_142 (by decide) ?_
          refine g_mask (bs := [true, true, true, false, false]) (L2 := [some (rv w r0), some (rv w r1), some (.int y519), none, none]) rfl ?_
          exact ih r0 r1 y519 M h
        · replace h := of_iff h c518
          refine g_aload C dX4_copyFrom_133 rfl ?_
          refine g_aload_n C dX4_copyFrom_135 rfl rfl ?_
          obtain ⟨g521, h⟩ := of_gdd h
          obtain ⟨M522, e523, h⟩ := of_obb h
          refine g_callV (As := [rv w y511]) C (ct_X2_copyFrom C.wf e523) g521 lk_RX4_59 mi_X2_copyFrom (by decide) cs_0 (by decide) dX4_copyFrom_136 rfl ?_
          show Go w f 139 [some (rv w r0), some (rv w r1), some (.int x2), some (rv w y511), some (rv w y513)] [] M522
          obtain ⟨y524, e525, h⟩ := of_bvv h
          refine g_iinc (v := y524) C dX4_copyFrom_139 rfl e525.symm (by decide) (rv_cat _ _) (L2 := [some (rv w r0), some (rv w r1), some (.int y524), some (rv w y511), some (rv w y513)]) rfl ?_
          refine g_goto 103 C dX4_copyFrom_142 (by decide) ?_
          refine g_mask (bs := [true, true, true, false, false]) (L2 := [some (rv w r0), some (rv w r1), some (.int y524), none, none]) rfl ?_
          exact ih r0 r1 y524 M522 h
def f_X4_copyFrom_77 : Nat → Nat → Nat → Int32 → Mem → Option Mem
  | 0, _, _, _, _ => none
  | n + 1, r0, r1, x2, M => gdd (kd r0 = 5) <| if (gI M r0 4) ≤ x2 then (f_X4_copyFrom_103 FU r0 r1 (0 : Int32) M) else (gdd (kd r1 = 5) <| obb (f_X4_editionAt r1 x2 M) fun y404 => obb (f_X4_copyEdition r0 y404 x2 M) fun M406 => bvv (x2 + (1 : Int32)) fun y408 => (f_X4_copyFrom_77 n) r0 r1 y408 M406)
set_option maxRecDepth 100000 in
set_option maxHeartbeats 4000000 in
theorem t_X4_copyFrom_77 {w : Om} {f : Fr} {M2 : Mem} (C : Cx w f RX4 cX4_copyFrom 5 3) (hR : Rt w f cX4_copyFrom none none M2)   : ∀ (n : Nat) (r0 : Nat) (r1 : Nat) (x2 : Int32) (M : Mem), f_X4_copyFrom_77 n r0 r1 x2 M = some M2 → Go w f 77 [some (rv w r0), some (rv w r1), some (.int x2), none, none] [] M := by
  intro n
  induction n with
  | zero =>
    intro r0 r1 x2 M h
    cases h
  | succ n ih =>
    intro r0 r1 x2 M h
    rw [f_X4_copyFrom_77] at h
    refine g_iload_n C dX4_copyFrom_77 rfl rfl ?_
    refine g_aload_n C dX4_copyFrom_78 rfl rfl ?_
    obtain ⟨g401, h⟩ := of_gdd h
    refine gf_4_4 C fl_RX4_40 g401 dX4_copyFrom_79 ?_
    refine g_icmp_ge 101 C dX4_copyFrom_82 (by decide) (fun c402 => ?_) (fun c402 => ?_)
    · replace h := of_ift h c402
      refine g_iconst (v := 0) C dX4_copyFrom_101 rfl ?_
      refine g_istore_n C dX4_copyFrom_102 rfl (by decide) (rv_cat _ _) (L2 := [some (rv w r0), some (rv w r1), some (.int (0 : Int32)), none, none]) rfl ?_
      exact t_X4_copyFrom_103 C hR _ r0 r1 (0 : Int32) M h
    · replace h := of_iff h c402
      refine g_aload_n C dX4_copyFrom_85 rfl rfl ?_
      refine g_aload_n C dX4_copyFrom_86 rfl rfl ?_
      refine g_iload_n C dX4_copyFrom_87 rfl rfl ?_
      obtain ⟨g403, h⟩ := of_gdd h
      obtain ⟨y404, e405, h⟩ := of_obb h
      refine g_callV (As := [.int x2]) C (ct_X4_editionAt C.wf e405) g403 lk_RX4_47 mi_X4_editionAt (by decide) (cs_r cs_0) (by decide) dX4_copyFrom_88 rfl ?_
      show Go w f 91 [some (rv w r0), some (rv w r1), some (.int x2), none, none] [rv w y404, rv w r0] M
      refine g_iload_n C dX4_copyFrom_91 rfl rfl ?_
      obtain ⟨M406, e407, h⟩ := of_obb h
      refine g_callV (As := [rv w y404, .int x2]) C (ct_X4_copyEdition C.wf e407) g401 lk_RX4_51 mi_X4_copyEdition (by decide) cs_0 (by decide) dX4_copyFrom_92 rfl ?_
      show Go w f 95 [some (rv w r0), some (rv w r1), some (.int x2), none, none] [] M406
      obtain ⟨y408, e409, h⟩ := of_bvv h
      refine g_iinc (v := y408) C dX4_copyFrom_95 rfl e409.symm (by decide) (rv_cat _ _) (L2 := [some (rv w r0), some (rv w r1), some (.int y408), none, none]) rfl ?_
      refine g_goto 77 C dX4_copyFrom_98 (by decide) ?_
      exact ih r0 r1 y408 M406 h
def f_X4_copyFrom_32 : Nat → Nat → Nat → Int32 → Mem → Option Mem
  | 0, _, _, _, _ => none
  | n + 1, r0, r1, x2, M => if (2 : Int32) ≤ x2 then (gdd (kd r1 = 5) <| gdd (kd r0 = 5) <| bvv (sI M r0 4 (gI M r1 4)) fun M304 => bvv (sI M304 r0 5 (gI M304 r1 5)) fun M306 => f_X4_copyFrom_77 FU r0 r1 (0 : Int32) M306) else (gdd (kd r0 = 5) <| gdd (kd r1 = 5) <| obb (f_X5_at (fld r1 1) x2 M) fun y310 => obb (f_X5_put (fld r0 1) x2 y310 M) fun M312 => bvv (x2 + (1 : Int32)) fun y314 => (f_X4_copyFrom_32 n) r0 r1 y314 M312)
set_option maxRecDepth 100000 in
set_option maxHeartbeats 4000000 in
theorem t_X4_copyFrom_32 {w : Om} {f : Fr} {M2 : Mem} (C : Cx w f RX4 cX4_copyFrom 5 3) (hR : Rt w f cX4_copyFrom none none M2)   : ∀ (n : Nat) (r0 : Nat) (r1 : Nat) (x2 : Int32) (M : Mem), f_X4_copyFrom_32 n r0 r1 x2 M = some M2 → Go w f 32 [some (rv w r0), some (rv w r1), some (.int x2), none, none] [] M := by
  intro n
  induction n with
  | zero =>
    intro r0 r1 x2 M h
    cases h
  | succ n ih =>
    intro r0 r1 x2 M h
    rw [f_X4_copyFrom_32] at h
    refine g_iload_n C dX4_copyFrom_32 rfl rfl ?_
    refine g_iconst (v := 2) C dX4_copyFrom_33 rfl ?_
    refine g_icmp_ge 59 C dX4_copyFrom_34 (by decide) (fun c301 => ?_) (fun c301 => ?_)
    · replace h := of_ift h c301
      refine g_aload_n C dX4_copyFrom_59 rfl rfl ?_
      refine g_aload_n C dX4_copyFrom_60 rfl rfl ?_
      obtain ⟨g302, h⟩ := of_gdd h
      refine gf_4_4 C fl_RX4_40 g302 dX4_copyFrom_61 ?_
      obtain ⟨g303, h⟩ := of_gdd h
      refine pf_4_4 C fl_RX4_40 g303 dX4_copyFrom_64 ?_
      obtain ⟨M304, e305, h⟩ := of_bvv h
      refine g_mem e305 ?_
      refine g_aload_n C dX4_copyFrom_67 rfl rfl ?_
      refine g_aload_n C dX4_copyFrom_68 rfl rfl ?_
      refine gf_4_5 C fl_RX4_44 g302 dX4_copyFrom_69 ?_
      refine pf_4_5 C fl_RX4_44 g303 dX4_copyFrom_72 ?_
      obtain ⟨M306, e307, h⟩ := of_bvv h
      refine g_mem e307 ?_
      refine g_iconst (v := 0) C dX4_copyFrom_75 rfl ?_
      refine g_istore_n C dX4_copyFrom_76 rfl (by decide) (rv_cat _ _) (L2 := [some (rv w r0), some (rv w r1), some (.int (0 : Int32)), none, none]) rfl ?_
      exact t_X4_copyFrom_77 C hR _ r0 r1 (0 : Int32) M306 h
    · replace h := of_iff h c301
      refine g_aload_n C dX4_copyFrom_37 rfl rfl ?_
      obtain ⟨g308, h⟩ := of_gdd h
      refine gf_4_1 C fl_RX4_15 g308 dX4_copyFrom_38 ?_
      refine g_iload_n C dX4_copyFrom_41 rfl rfl ?_
      refine g_aload_n C dX4_copyFrom_42 rfl rfl ?_
      obtain ⟨g309, h⟩ := of_gdd h
      refine gf_4_1 C fl_RX4_15 g309 dX4_copyFrom_43 ?_
      refine g_iload_n C dX4_copyFrom_46 rfl rfl ?_
      obtain ⟨y310, e311, h⟩ := of_obb h
      refine g_callSN (As := [rv w (fld r1 1), .int x2]) C (ct_X5_at C.wf e311) ln_RX4_36 mi_X5_at (by decide) (cs_i (cs_r cs_0)) (by decide) dX4_copyFrom_47 rfl ?_
      show Go w f 50 [some (rv w r0), some (rv w r1), some (.int x2), none, none] [.int y310, .int x2, rv w (fld r0 1)] M
      obtain ⟨M312, e313, h⟩ := of_obb h
      refine g_callSN (As := [rv w (fld r0 1), .int x2, .int y310]) C (ct_X5_put C.wf e313) ln_RX4_30 mi_X5_put (by decide) cs_0 (by decide) dX4_copyFrom_50 rfl ?_
      show Go w f 53 [some (rv w r0), some (rv w r1), some (.int x2), none, none] [] M312
      obtain ⟨y314, e315, h⟩ := of_bvv h
      refine g_iinc (v := y314) C dX4_copyFrom_53 rfl e315.symm (by decide) (rv_cat _ _) (L2 := [some (rv w r0), some (rv w r1), some (.int y314), none, none]) rfl ?_
      refine g_goto 32 C dX4_copyFrom_56 (by decide) ?_
      exact ih r0 r1 y314 M312 h
def f_X4_copyFrom_2 : Nat → Nat → Nat → Int32 → Mem → Option Mem
  | 0, _, _, _, _ => none
  | n + 1, r0, r1, x2, M => if (6 : Int32) ≤ x2 then (f_X4_copyFrom_32 FU r0 r1 (0 : Int32) M) else (gdd (kd r0 = 5) <| gdd (kd r1 = 5) <| obb (f_X5_at (fld r1 0) x2 M) fun y204 => obb (f_X5_put (fld r0 0) x2 y204 M) fun M206 => bvv (x2 + (1 : Int32)) fun y208 => (f_X4_copyFrom_2 n) r0 r1 y208 M206)
set_option maxRecDepth 100000 in
set_option maxHeartbeats 4000000 in
theorem t_X4_copyFrom_2 {w : Om} {f : Fr} {M2 : Mem} (C : Cx w f RX4 cX4_copyFrom 5 3) (hR : Rt w f cX4_copyFrom none none M2)   : ∀ (n : Nat) (r0 : Nat) (r1 : Nat) (x2 : Int32) (M : Mem), f_X4_copyFrom_2 n r0 r1 x2 M = some M2 → Go w f 2 [some (rv w r0), some (rv w r1), some (.int x2), none, none] [] M := by
  intro n
  induction n with
  | zero =>
    intro r0 r1 x2 M h
    cases h
  | succ n ih =>
    intro r0 r1 x2 M h
    rw [f_X4_copyFrom_2] at h
    refine g_iload_n C dX4_copyFrom_2 rfl rfl ?_
    refine g_bipush (v := 6) C dX4_copyFrom_3 rfl ?_
    refine g_icmp_ge 30 C dX4_copyFrom_5 (by decide) (fun c201 => ?_) (fun c201 => ?_)
    · replace h := of_ift h c201
      refine g_iconst (v := 0) C dX4_copyFrom_30 rfl ?_
      refine g_istore_n C dX4_copyFrom_31 rfl (by decide) (rv_cat _ _) (L2 := [some (rv w r0), some (rv w r1), some (.int (0 : Int32)), none, none]) rfl ?_
      exact t_X4_copyFrom_32 C hR _ r0 r1 (0 : Int32) M h
    · replace h := of_iff h c201
      refine g_aload_n C dX4_copyFrom_8 rfl rfl ?_
      obtain ⟨g202, h⟩ := of_gdd h
      refine gf_4_0 C fl_RX4_9 g202 dX4_copyFrom_9 ?_
      refine g_iload_n C dX4_copyFrom_12 rfl rfl ?_
      refine g_aload_n C dX4_copyFrom_13 rfl rfl ?_
      obtain ⟨g203, h⟩ := of_gdd h
      refine gf_4_0 C fl_RX4_9 g203 dX4_copyFrom_14 ?_
      refine g_iload_n C dX4_copyFrom_17 rfl rfl ?_
      obtain ⟨y204, e205, h⟩ := of_obb h
      refine g_callSN (As := [rv w (fld r1 0), .int x2]) C (ct_X5_at C.wf e205) ln_RX4_36 mi_X5_at (by decide) (cs_i (cs_r cs_0)) (by decide) dX4_copyFrom_18 rfl ?_
      show Go w f 21 [some (rv w r0), some (rv w r1), some (.int x2), none, none] [.int y204, .int x2, rv w (fld r0 0)] M
      obtain ⟨M206, e207, h⟩ := of_obb h
      refine g_callSN (As := [rv w (fld r0 0), .int x2, .int y204]) C (ct_X5_put C.wf e207) ln_RX4_30 mi_X5_put (by decide) cs_0 (by decide) dX4_copyFrom_21 rfl ?_
      show Go w f 24 [some (rv w r0), some (rv w r1), some (.int x2), none, none] [] M206
      obtain ⟨y208, e209, h⟩ := of_bvv h
      refine g_iinc (v := y208) C dX4_copyFrom_24 rfl e209.symm (by decide) (rv_cat _ _) (L2 := [some (rv w r0), some (rv w r1), some (.int y208), none, none]) rfl ?_
      refine g_goto 2 C dX4_copyFrom_27 (by decide) ?_
      exact ih r0 r1 y208 M206 h
def f_X4_copyFrom (r0 : Nat) (r1 : Nat) (M : Mem) : Option Mem := f_X4_copyFrom_2 FU r0 r1 (0 : Int32) M
set_option maxRecDepth 100000 in
set_option maxHeartbeats 4000000 in
theorem ct_X4_copyFrom {l : Launch} {w : Om} (hw : Wf w) {r0 : Nat} {r1 : Nat} {M : Mem} {M2 : Mem} (h : f_X4_copyFrom r0 r1 M = some M2) : Ct l w yX4_copyFrom cX4_copyFrom 5 none 3 [rv w r0, rv w r1] M none M2 := by
  refine ct_of hw (by decide) (cat_s (rv_cat _ _) (cat_s (rv_cat _ _) cat_0)) (Nat.le_of_ble_eq_true rfl) (fun f _ C hR => ?_)
  show Go w f 0 [some (rv w r0), some (rv w r1), none, none, none] [] M
  unfold f_X4_copyFrom at h
  refine g_iconst (v := 0) C dX4_copyFrom_0 rfl ?_
  refine g_istore_n C dX4_copyFrom_1 rfl (by decide) (rv_cat _ _) (L2 := [some (rv w r0), some (rv w r1), some (.int (0 : Int32)), none, none]) rfl ?_
  exact t_X4_copyFrom_2 C hR _ r0 r1 (0 : Int32) M h
def f_X5_undo (r0 : Nat) (M : Mem) : Option (Int32 × Mem) := gdd (kd r0 = 6) <| obb (f_X5_stateAt r0 ((gI M r0 7) - (1 : Int32)) M) fun y2 => if y2 = 0 then (some ((-2 : Int32), M)) else (gdd (kd (fld r0 0) = 5) <| obb (f_X4_copyFrom (fld r0 0) y2 M) fun M6 => bvv (sI M6 r0 7 ((gI M6 r0 7) - (1 : Int32))) fun M8 => some (gI M8 r0 7, M8))
set_option maxRecDepth 100000 in
set_option maxHeartbeats 4000000 in
theorem ct_X5_undo {l : Launch} {w : Om} (hw : Wf w) {r0 : Nat} {M : Mem} {r : Int32} {M2 : Mem} (h : f_X5_undo r0 M = some (r, M2)) : Ct l w yX5_undo cX5_undo 2 (some .int) 4 [rv w r0] M (some (.int r)) M2 := by
  refine ct_of hw (by decide) (cat_s (rv_cat _ _) cat_0) (Nat.le_of_ble_eq_true rfl) (fun f _ C hR => ?_)
  show Go w f 0 [some (rv w r0), none] [] M
  unfold f_X5_undo at h
  refine g_aload_n C dX5_undo_0 rfl rfl ?_
  refine g_aload_n C dX5_undo_1 rfl rfl ?_
  obtain ⟨g1, h⟩ := of_gdd h
  refine gf_5_7 C fl_RX5_274 g1 dX5_undo_2 ?_
  refine g_iconst (v := 1) C dX5_undo_5 rfl ?_
  refine g_isub C dX5_undo_6 ?_
  obtain ⟨y2, e3, h⟩ := of_obb h
  refine g_callV (As := [.int ((gI M r0 7) - (1 : Int32))]) C (ct_X5_stateAt C.wf e3) g1 lk_RX5_283 mi_X5_stateAt (by decide) cs_0 (by decide) dX5_undo_7 rfl ?_
  show Go w f 10 [some (rv w r0), none] [rv w y2] M
  refine g_astore_n C dX5_undo_10 rfl (by decide) (rv_cat _ _) (L2 := [some (rv w r0), some (rv w y2)]) rfl ?_
  refine g_aload_n C dX5_undo_11 rfl rfl ?_
  refine g_ifnonnull 18 C dX5_undo_12 (by decide) (fun c4 => ?_) (fun c4 => ?_)
  · replace h := of_iff h c4
    refine g_aload_n C dX5_undo_18 rfl rfl ?_
    refine gf_5_0 C fl_RX5_10 g1 dX5_undo_19 ?_
    refine g_aload_n C dX5_undo_22 rfl rfl ?_
    obtain ⟨g5, h⟩ := of_gdd h
    obtain ⟨M6, e7, h⟩ := of_obb h
    refine g_callV (As := [rv w y2]) C (ct_X4_copyFrom C.wf e7) g5 lk_RX5_287 mi_X4_copyFrom (by decide) cs_0 (by decide) dX5_undo_23 rfl ?_
    show Go w f 26 [some (rv w r0), some (rv w y2)] [] M6
    refine g_aload_n C dX5_undo_26 rfl rfl ?_
    refine g_dup C (rv_cat _ _) dX5_undo_27 ?_
    refine gf_5_7 C fl_RX5_274 g1 dX5_undo_28 ?_
    refine g_iconst (v := 1) C dX5_undo_31 rfl ?_
    refine g_isub C dX5_undo_32 ?_
    refine pf_5_7 C fl_RX5_274 g1 dX5_undo_33 ?_
    obtain ⟨M8, e9, h⟩ := of_bvv h
    refine g_mem e9 ?_
    refine g_aload_n C dX5_undo_36 rfl rfl ?_
    refine gf_5_7 C fl_RX5_274 g1 dX5_undo_37 ?_
    cases h
    exact hR 40 _ ⟨.int, rfl, rfl⟩ dX5_undo_40
  · replace h := of_ift h c4
    refine g_bipush (v := -2) C dX5_undo_15 rfl ?_
    cases h
    exact hR 17 _ ⟨.int, rfl, rfl⟩ dX5_undo_17
def f_X5_save (r0 : Nat) (M : Mem) : Option (Int32 × Mem) := gdd (kd r0 = 6) <| gdd (kd (fld r0 1) = 5) <| obb (f_X4_copyFrom (fld r0 1) (fld r0 0) M) fun M3 => bvv (sI M3 r0 6 (1 : Int32)) fun M5 => gdd (kd (fld r0 0) = 5) <| some (gI M5 (fld r0 0) 4, M5)
set_option maxRecDepth 100000 in
set_option maxHeartbeats 4000000 in
theorem ct_X5_save {l : Launch} {w : Om} (hw : Wf w) {r0 : Nat} {M : Mem} {r : Int32} {M2 : Mem} (h : f_X5_save r0 M = some (r, M2)) : Ct l w yX5_save cX5_save 1 (some .int) 4 [rv w r0] M (some (.int r)) M2 := by
  refine ct_of hw (by decide) (cat_s (rv_cat _ _) cat_0) (Nat.le_of_ble_eq_true rfl) (fun f _ C hR => ?_)
  show Go w f 0 [some (rv w r0)] [] M
  unfold f_X5_save at h
  refine g_aload_n C dX5_save_0 rfl rfl ?_
  obtain ⟨g1, h⟩ := of_gdd h
  refine gf_5_1 C fl_RX5_16 g1 dX5_save_1 ?_
  refine g_aload_n C dX5_save_4 rfl rfl ?_
  refine gf_5_0 C fl_RX5_10 g1 dX5_save_5 ?_
  obtain ⟨g2, h⟩ := of_gdd h
  obtain ⟨M3, e4, h⟩ := of_obb h
  refine g_callV (As := [rv w (fld r0 0)]) C (ct_X4_copyFrom C.wf e4) g2 lk_RX5_287 mi_X4_copyFrom (by decide) cs_0 (by decide) dX5_save_8 rfl ?_
  show Go w f 11 [some (rv w r0)] [] M3
  refine g_aload_n C dX5_save_11 rfl rfl ?_
  refine g_iconst (v := 1) C dX5_save_12 rfl ?_
  refine pf_5_6 C fl_RX5_291 g1 (isb_1) dX5_save_13 ?_
  obtain ⟨M5, e6, h⟩ := of_bvv h
  refine g_mem e6 ?_
  refine g_aload_n C dX5_save_16 rfl rfl ?_
  refine gf_5_0 C fl_RX5_10 g1 dX5_save_17 ?_
  obtain ⟨g7, h⟩ := of_gdd h
  refine gf_4_4 C fl_RX5_112 g7 dX5_save_20 ?_
  cases h
  exact hR 23 _ ⟨.int, rfl, rfl⟩ dX5_save_23
def f_X5_forgetOldest_18 : Nat → Nat → Nat → Int32 → Mem → Option Mem
  | 0, _, _, _, _ => none
  | n + 1, r0, r1, x2, M => gdd (kd r0 = 6) <| gdd (kd (fld r0 2) = 11) <| if (nI (ln (fld r0 2))) ≤ x2 then (gdd (kd r1 = 5) <| gdd (inb ((nI (ln (fld r0 2))) - (1 : Int32)) (ln (fld r0 2)) = true) <| bvv (sH M ((nI (ln (fld r0 2))) - (1 : Int32)).toNatClampNeg r1) fun M206 => bvv (sI M206 r0 7 ((nI (ln (fld r0 2))) - (1 : Int32))) fun M208 => some M208) else (gdd (inb x2 (ln (fld r0 2)) = true) <| gdd (kd (gH M (x2).toNatClampNeg) = 5) <| gdd (inb (x2 - (1 : Int32)) (ln (fld r0 2)) = true) <| bvv (sH M (x2 - (1 : Int32)).toNatClampNeg (gH M (x2).toNatClampNeg)) fun M213 => bvv (x2 + (1 : Int32)) fun y215 => (f_X5_forgetOldest_18 n) r0 r1 y215 M213)
set_option maxRecDepth 100000 in
set_option maxHeartbeats 4000000 in
theorem t_X5_forgetOldest_18 {w : Om} {f : Fr} {M2 : Mem} (C : Cx w f RX5 cX5_forgetOldest 3 0) (hR : Rt w f cX5_forgetOldest none none M2)   : ∀ (n : Nat) (r0 : Nat) (r1 : Nat) (x2 : Int32) (M : Mem), f_X5_forgetOldest_18 n r0 r1 x2 M = some M2 → Go w f 18 [some (rv w r0), some (rv w r1), some (.int x2)] [] M := by
  intro n
  induction n with
  | zero =>
    intro r0 r1 x2 M h
    cases h
  | succ n ih =>
    intro r0 r1 x2 M h
    rw [f_X5_forgetOldest_18] at h
    refine g_iload_n C dX5_forgetOldest_18 rfl rfl ?_
    refine g_aload_n C dX5_forgetOldest_19 rfl rfl ?_
    obtain ⟨g201, h⟩ := of_gdd h
    refine gf_5_2 C fl_RX5_19 g201 dX5_forgetOldest_20 ?_
    obtain ⟨g202, h⟩ := of_gdd h
    refine g_alen C (Or.inr (Or.inr (Or.inr g202))) dX5_forgetOldest_23 ?_
    refine g_icmp_ge 47 C dX5_forgetOldest_24 (by decide) (fun c203 => ?_) (fun c203 => ?_)
    · replace h := of_ift h c203
      refine g_aload_n C dX5_forgetOldest_47 rfl rfl ?_
      refine gf_5_2 C fl_RX5_19 g201 dX5_forgetOldest_48 ?_
      refine g_aload_n C dX5_forgetOldest_51 rfl rfl ?_
      refine gf_5_2 C fl_RX5_19 g201 dX5_forgetOldest_52 ?_
      refine g_alen C (Or.inr (Or.inr (Or.inr g202))) dX5_forgetOldest_55 ?_
      refine g_iconst (v := 1) C dX5_forgetOldest_56 rfl ?_
      refine g_isub C dX5_forgetOldest_57 ?_
      refine g_aload_n C dX5_forgetOldest_58 rfl rfl ?_
      obtain ⟨g204, h⟩ := of_gdd h
      obtain ⟨g205, h⟩ := of_gdd h
      refine g_aasts C g202 g204 g205 dX5_forgetOldest_59 ?_
      obtain ⟨M206, e207, h⟩ := of_bvv h
      refine g_mem e207 ?_
      refine g_aload_n C dX5_forgetOldest_60 rfl rfl ?_
      refine g_aload_n C dX5_forgetOldest_61 rfl rfl ?_
      refine gf_5_2 C fl_RX5_19 g201 dX5_forgetOldest_62 ?_
      refine g_alen C (Or.inr (Or.inr (Or.inr g202))) dX5_forgetOldest_65 ?_
      refine g_iconst (v := 1) C dX5_forgetOldest_66 rfl ?_
      refine g_isub C dX5_forgetOldest_67 ?_
      refine pf_5_7 C fl_RX5_274 g201 dX5_forgetOldest_68 ?_
      obtain ⟨M208, e209, h⟩ := of_bvv h
      refine g_mem e209 ?_
      cases h
      exact hR 71 _ rfl dX5_forgetOldest_71
    · replace h := of_iff h c203
      refine g_aload_n C dX5_forgetOldest_27 rfl rfl ?_
      refine gf_5_2 C fl_RX5_19 g201 dX5_forgetOldest_28 ?_
      refine g_iload_n C dX5_forgetOldest_31 rfl rfl ?_
      refine g_iconst (v := 1) C dX5_forgetOldest_32 rfl ?_
      refine g_isub C dX5_forgetOldest_33 ?_
      refine g_aload_n C dX5_forgetOldest_34 rfl rfl ?_
      refine gf_5_2 C fl_RX5_19 g201 dX5_forgetOldest_35 ?_
      refine g_iload_n C dX5_forgetOldest_38 rfl rfl ?_
      obtain ⟨g210, h⟩ := of_gdd h
      refine g_aalds C g202 g210 dX5_forgetOldest_39 ?_
      obtain ⟨g211, h⟩ := of_gdd h
      obtain ⟨g212, h⟩ := of_gdd h
      refine g_aasts C g202 g211 g212 dX5_forgetOldest_40 ?_
      obtain ⟨M213, e214, h⟩ := of_bvv h
      refine g_mem e214 ?_
      obtain ⟨y215, e216, h⟩ := of_bvv h
      refine g_iinc (v := y215) C dX5_forgetOldest_41 rfl e216.symm (by decide) (rv_cat _ _) (L2 := [some (rv w r0), some (rv w r1), some (.int y215)]) rfl ?_
      refine g_goto 18 C dX5_forgetOldest_44 (by decide) ?_
      exact ih r0 r1 y215 M213 h
def f_X5_forgetOldest (r0 : Nat) (M : Mem) : Option Mem := gdd (kd r0 = 6) <| gdd (kd (fld r0 2) = 11) <| if (nI (ln (fld r0 2))) = 0 then (some M) else (gdd (inb (0 : Int32) (ln (fld r0 2)) = true) <| bvv (gH M ((0 : Int32)).toNatClampNeg) fun q5 => f_X5_forgetOldest_18 FU r0 q5 (1 : Int32) M)
set_option maxRecDepth 100000 in
set_option maxHeartbeats 4000000 in
theorem ct_X5_forgetOldest {l : Launch} {w : Om} (hw : Wf w) {r0 : Nat} {M : Mem} {M2 : Mem} (h : f_X5_forgetOldest r0 M = some M2) : Ct l w yX5_forgetOldest cX5_forgetOldest 3 none 0 [rv w r0] M none M2 := by
  refine ct_of hw (by decide) (cat_s (rv_cat _ _) cat_0) (Nat.le_of_ble_eq_true rfl) (fun f _ C hR => ?_)
  show Go w f 0 [some (rv w r0), none, none] [] M
  unfold f_X5_forgetOldest at h
  refine g_aload_n C dX5_forgetOldest_0 rfl rfl ?_
  obtain ⟨g1, h⟩ := of_gdd h
  refine gf_5_2 C fl_RX5_19 g1 dX5_forgetOldest_1 ?_
  obtain ⟨g2, h⟩ := of_gdd h
  refine g_alen C (Or.inr (Or.inr (Or.inr g2))) dX5_forgetOldest_4 ?_
  refine g_if_ne 9 C dX5_forgetOldest_5 (by decide) (fun c3 => ?_) (fun c3 => ?_)
  · replace h := of_iff h c3
    refine g_aload_n C dX5_forgetOldest_9 rfl rfl ?_
    refine gf_5_2 C fl_RX5_19 g1 dX5_forgetOldest_10 ?_
    refine g_iconst (v := 0) C dX5_forgetOldest_13 rfl ?_
    obtain ⟨g4, h⟩ := of_gdd h
    refine g_aalds C g2 g4 dX5_forgetOldest_14 ?_
    obtain ⟨q5, e6, h⟩ := of_bvv h
    refine g_topr e6 ?_
    refine g_astore_n C dX5_forgetOldest_15 rfl (by decide) (rv_cat _ _) (L2 := [some (rv w r0), some (rv w q5), none]) rfl ?_
    refine g_iconst (v := 1) C dX5_forgetOldest_16 rfl ?_
    refine g_istore_n C dX5_forgetOldest_17 rfl (by decide) (rv_cat _ _) (L2 := [some (rv w r0), some (rv w q5), some (.int (1 : Int32))]) rfl ?_
    exact t_X5_forgetOldest_18 C hR _ r0 q5 (1 : Int32) M h
  · replace h := of_ift h c3
    cases h
    exact hR 8 _ rfl dX5_forgetOldest_8
def f_X5_keepState (r0 : Nat) (M : Mem) : Option Mem := gdd (kd r0 = 6) <| gdd (kd (fld r0 2) = 11) <| if (gI M r0 7) < (nI (ln (fld r0 2))) then (if (gI M r0 7) < 0 then (some M) else (if (nI (ln (fld r0 2))) ≤ (gI M r0 7) then (some M) else (gdd (inb (gI M r0 7) (ln (fld r0 2)) = true) <| if (gH M (gI M r0 7).toNatClampNeg) = 0 then (some M) else (gdd (kd (gH M (gI M r0 7).toNatClampNeg) = 5) <| obb (f_X4_copyFrom (gH M (gI M r0 7).toNatClampNeg) (fld r0 0) M) fun M9 => bvv (sI M9 r0 7 ((gI M9 r0 7) + (1 : Int32))) fun M11 => some M11)))) else (obb (f_X5_forgetOldest r0 M) fun M13 => if (gI M13 r0 7) < 0 then (some M13) else (if (nI (ln (fld r0 2))) ≤ (gI M13 r0 7) then (some M13) else (gdd (inb (gI M13 r0 7) (ln (fld r0 2)) = true) <| if (gH M13 (gI M13 r0 7).toNatClampNeg) = 0 then (some M13) else (gdd (kd (gH M13 (gI M13 r0 7).toNatClampNeg) = 5) <| obb (f_X4_copyFrom (gH M13 (gI M13 r0 7).toNatClampNeg) (fld r0 0) M13) fun M20 => bvv (sI M20 r0 7 ((gI M20 r0 7) + (1 : Int32))) fun M22 => some M22))))
set_option maxRecDepth 100000 in
set_option maxHeartbeats 4000000 in
theorem ct_X5_keepState {l : Launch} {w : Om} (hw : Wf w) {r0 : Nat} {M : Mem} {M2 : Mem} (h : f_X5_keepState r0 M = some M2) : Ct l w yX5_keepState cX5_keepState 1 none 4 [rv w r0] M none M2 := by
  refine ct_of hw (by decide) (cat_s (rv_cat _ _) cat_0) (Nat.le_of_ble_eq_true rfl) (fun f _ C hR => ?_)
  show Go w f 0 [some (rv w r0)] [] M
  unfold f_X5_keepState at h
  refine g_aload_n C dX5_keepState_0 rfl rfl ?_
  obtain ⟨g1, h⟩ := of_gdd h
  refine gf_5_7 C fl_RX5_274 g1 dX5_keepState_1 ?_
  refine g_aload_n C dX5_keepState_4 rfl rfl ?_
  refine gf_5_2 C fl_RX5_19 g1 dX5_keepState_5 ?_
  obtain ⟨g2, h⟩ := of_gdd h
  refine g_alen C (Or.inr (Or.inr (Or.inr g2))) dX5_keepState_8 ?_
  refine g_icmp_lt 16 C dX5_keepState_9 (by decide) (fun c3 => ?_) (fun c3 => ?_)
  · replace h := of_ift h c3
    refine g_aload_n C dX5_keepState_16 rfl rfl ?_
    refine gf_5_7 C fl_RX5_274 g1 dX5_keepState_17 ?_
    refine g_if_lt 73 C dX5_keepState_20 (by decide) (fun c4 => ?_) (fun c4 => ?_)
    · replace h := of_ift h c4
      cases h
      exact hR 73 _ rfl dX5_keepState_73
    · replace h := of_iff h c4
      refine g_aload_n C dX5_keepState_23 rfl rfl ?_
      refine gf_5_7 C fl_RX5_274 g1 dX5_keepState_24 ?_
      refine g_aload_n C dX5_keepState_27 rfl rfl ?_
      refine gf_5_2 C fl_RX5_19 g1 dX5_keepState_28 ?_
      refine g_alen C (Or.inr (Or.inr (Or.inr g2))) dX5_keepState_31 ?_
      refine g_icmp_ge 73 C dX5_keepState_32 (by decide) (fun c5 => ?_) (fun c5 => ?_)
      · replace h := of_ift h c5
        cases h
        exact hR 73 _ rfl dX5_keepState_73
      · replace h := of_iff h c5
        refine g_aload_n C dX5_keepState_35 rfl rfl ?_
        refine gf_5_2 C fl_RX5_19 g1 dX5_keepState_36 ?_
        refine g_aload_n C dX5_keepState_39 rfl rfl ?_
        refine gf_5_7 C fl_RX5_274 g1 dX5_keepState_40 ?_
        obtain ⟨g6, h⟩ := of_gdd h
        refine g_aalds C g2 g6 dX5_keepState_43 ?_
        refine g_ifnull 73 C dX5_keepState_44 (by decide) (fun c7 => ?_) (fun c7 => ?_)
        · replace h := of_ift h c7
          cases h
          exact hR 73 _ rfl dX5_keepState_73
        · replace h := of_iff h c7
          refine g_aload_n C dX5_keepState_47 rfl rfl ?_
          refine gf_5_2 C fl_RX5_19 g1 dX5_keepState_48 ?_
          refine g_aload_n C dX5_keepState_51 rfl rfl ?_
          refine gf_5_7 C fl_RX5_274 g1 dX5_keepState_52 ?_
          refine g_aalds C g2 g6 dX5_keepState_55 ?_
          refine g_aload_n C dX5_keepState_56 rfl rfl ?_
          refine gf_5_0 C fl_RX5_10 g1 dX5_keepState_57 ?_
          obtain ⟨g8, h⟩ := of_gdd h
          obtain ⟨M9, e10, h⟩ := of_obb h
          refine g_callV (As := [rv w (fld r0 0)]) C (ct_X4_copyFrom C.wf e10) g8 lk_RX5_287 mi_X4_copyFrom (by decide) cs_0 (by decide) dX5_keepState_60 rfl ?_
          show Go w f 63 [some (rv w r0)] [] M9
          refine g_aload_n C dX5_keepState_63 rfl rfl ?_
          refine g_dup C (rv_cat _ _) dX5_keepState_64 ?_
          refine gf_5_7 C fl_RX5_274 g1 dX5_keepState_65 ?_
          refine g_iconst (v := 1) C dX5_keepState_68 rfl ?_
          refine g_iadd C dX5_keepState_69 ?_
          refine pf_5_7 C fl_RX5_274 g1 dX5_keepState_70 ?_
          obtain ⟨M11, e12, h⟩ := of_bvv h
          refine g_mem e12 ?_
          cases h
          exact hR 73 _ rfl dX5_keepState_73
  · replace h := of_iff h c3
    refine g_aload_n C dX5_keepState_12 rfl rfl ?_
    obtain ⟨M13, e14, h⟩ := of_obb h
    refine g_callV (As := []) C (ct_X5_forgetOldest C.wf e14) g1 lk_RX5_294 mi_X5_forgetOldest (by decide) cs_0 (by decide) dX5_keepState_13 rfl ?_
    show Go w f 16 [some (rv w r0)] [] M13
    refine g_aload_n C dX5_keepState_16 rfl rfl ?_
    refine gf_5_7 C fl_RX5_274 g1 dX5_keepState_17 ?_
    refine g_if_lt 73 C dX5_keepState_20 (by decide) (fun c15 => ?_) (fun c15 => ?_)
    · replace h := of_ift h c15
      cases h
      exact hR 73 _ rfl dX5_keepState_73
    · replace h := of_iff h c15
      refine g_aload_n C dX5_keepState_23 rfl rfl ?_
      refine gf_5_7 C fl_RX5_274 g1 dX5_keepState_24 ?_
      refine g_aload_n C dX5_keepState_27 rfl rfl ?_
      refine gf_5_2 C fl_RX5_19 g1 dX5_keepState_28 ?_
      refine g_alen C (Or.inr (Or.inr (Or.inr g2))) dX5_keepState_31 ?_
      refine g_icmp_ge 73 C dX5_keepState_32 (by decide) (fun c16 => ?_) (fun c16 => ?_)
      · replace h := of_ift h c16
        cases h
        exact hR 73 _ rfl dX5_keepState_73
      · replace h := of_iff h c16
        refine g_aload_n C dX5_keepState_35 rfl rfl ?_
        refine gf_5_2 C fl_RX5_19 g1 dX5_keepState_36 ?_
        refine g_aload_n C dX5_keepState_39 rfl rfl ?_
        refine gf_5_7 C fl_RX5_274 g1 dX5_keepState_40 ?_
        obtain ⟨g17, h⟩ := of_gdd h
        refine g_aalds C g2 g17 dX5_keepState_43 ?_
        refine g_ifnull 73 C dX5_keepState_44 (by decide) (fun c18 => ?_) (fun c18 => ?_)
        · replace h := of_ift h c18
          cases h
          exact hR 73 _ rfl dX5_keepState_73
        · replace h := of_iff h c18
          refine g_aload_n C dX5_keepState_47 rfl rfl ?_
          refine gf_5_2 C fl_RX5_19 g1 dX5_keepState_48 ?_
          refine g_aload_n C dX5_keepState_51 rfl rfl ?_
          refine gf_5_7 C fl_RX5_274 g1 dX5_keepState_52 ?_
          refine g_aalds C g2 g17 dX5_keepState_55 ?_
          refine g_aload_n C dX5_keepState_56 rfl rfl ?_
          refine gf_5_0 C fl_RX5_10 g1 dX5_keepState_57 ?_
          obtain ⟨g19, h⟩ := of_gdd h
          obtain ⟨M20, e21, h⟩ := of_obb h
          refine g_callV (As := [rv w (fld r0 0)]) C (ct_X4_copyFrom C.wf e21) g19 lk_RX5_287 mi_X4_copyFrom (by decide) cs_0 (by decide) dX5_keepState_60 rfl ?_
          show Go w f 63 [some (rv w r0)] [] M20
          refine g_aload_n C dX5_keepState_63 rfl rfl ?_
          refine g_dup C (rv_cat _ _) dX5_keepState_64 ?_
          refine gf_5_7 C fl_RX5_274 g1 dX5_keepState_65 ?_
          refine g_iconst (v := 1) C dX5_keepState_68 rfl ?_
          refine g_iadd C dX5_keepState_69 ?_
          refine pf_5_7 C fl_RX5_274 g1 dX5_keepState_70 ?_
          obtain ⟨M22, e23, h⟩ := of_bvv h
          refine g_mem e23 ?_
          cases h
          exact hR 73 _ rfl dX5_keepState_73
