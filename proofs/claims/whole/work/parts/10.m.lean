def f_X5_put (r0 : Nat) (x1 : Int32) (x2 : Int32) (M : Mem) : Option Mem := if x1 < 0 then (some M) else (gdd (kd r0 = 8) <| if (nI (ln r0)) ≤ x1 then (some M) else (gdd (inb x1 (ln r0) = true) <| bvv (sI M r0 (x1).toNatClampNeg x2) fun M5 => some M5))
set_option maxRecDepth 100000 in
set_option maxHeartbeats 4000000 in
theorem ct_X5_put {l : Launch} {w : Om} (hw : Wf w) {r0 : Nat} {x1 : Int32} {x2 : Int32} {M : Mem} {M2 : Mem} (h : f_X5_put r0 x1 x2 M = some M2) : Ct l w yX5_put cX5_put 3 none 0 [rv w r0, .int x1, .int x2] M none M2 := by
  refine ct_of hw (by decide) (cat_s (rv_cat _ _) (cat_s rfl (cat_s rfl cat_0))) (Nat.le_of_ble_eq_true rfl) (fun f _ C hR => ?_)
  show Go w f 0 [some (rv w r0), some (.int x1), some (.int x2)] [] M
  unfold f_X5_put at h
  refine g_iload_n C dX5_put_0 rfl rfl ?_
  refine g_if_lt 14 C dX5_put_1 (by decide) (fun c1 => ?_) (fun c1 => ?_)
  · replace h := of_ift h c1
    cases h
    exact hR 14 _ rfl dX5_put_14
  · replace h := of_iff h c1
    refine g_iload_n C dX5_put_4 rfl rfl ?_
    refine g_aload_n C dX5_put_5 rfl rfl ?_
    obtain ⟨g2, h⟩ := of_gdd h
    refine g_alen C (Or.inl g2) dX5_put_6 ?_
    refine g_icmp_ge 14 C dX5_put_7 (by decide) (fun c3 => ?_) (fun c3 => ?_)
    · replace h := of_ift h c3
      cases h
      exact hR 14 _ rfl dX5_put_14
    · replace h := of_iff h c3
      refine g_aload_n C dX5_put_10 rfl rfl ?_
      refine g_iload_n C dX5_put_11 rfl rfl ?_
      refine g_iload_n C dX5_put_12 rfl rfl ?_
      obtain ⟨g4, h⟩ := of_gdd h
      refine g_iast C g2 g4 dX5_put_13 ?_
      obtain ⟨M5, e6, h⟩ := of_bvv h
      refine g_mem e6 ?_
      cases h
      exact hR 14 _ rfl dX5_put_14
def f_X5_isWithin (x0 : Int32) (x1 : Int32) (x2 : Int32) : Int32 := if x0 < x1 then ((0 : Int32)) else (if x2 < x0 then ((0 : Int32)) else ((1 : Int32)))
set_option maxRecDepth 100000 in
set_option maxHeartbeats 4000000 in
theorem ct_X5_isWithin {l : Launch} {w : Om} (hw : Wf w) {x0 : Int32} {x1 : Int32} {x2 : Int32}  {M : Mem} {r : Int32} (h : f_X5_isWithin x0 x1 x2 = r) : Ct l w yX5_isWithin cX5_isWithin 3 (some .boolean) 0 [.int x0, .int x1, .int x2] M (some (.int r)) M := by
  refine ct_of hw (by decide) (cat_s rfl (cat_s rfl (cat_s rfl cat_0))) (Nat.le_of_ble_eq_true rfl) (fun f _ C hR => ?_)
  show Go w f 0 [some (.int x0), some (.int x1), some (.int x2)] [] M
  unfold f_X5_isWithin at h
  refine g_iload_n C dX5_isWithin_0 rfl rfl ?_
  refine g_iload_n C dX5_isWithin_1 rfl rfl ?_
  refine g_icmp_lt 14 C dX5_isWithin_2 (by decide) (fun c1 => ?_) (fun c1 => ?_)
  · replace h := of_ift h c1
    refine g_iconst (v := 0) C dX5_isWithin_14 rfl ?_
    cases h
    exact hR 15 _ ⟨.boolean, rfl, rfl⟩ dX5_isWithin_15
  · replace h := of_iff h c1
    refine g_iload_n C dX5_isWithin_5 rfl rfl ?_
    refine g_iload_n C dX5_isWithin_6 rfl rfl ?_
    refine g_icmp_gt 14 C dX5_isWithin_7 (by decide) (fun c2 => ?_) (fun c2 => ?_)
    · replace h := of_ift h c2
      refine g_iconst (v := 0) C dX5_isWithin_14 rfl ?_
      cases h
      exact hR 15 _ ⟨.boolean, rfl, rfl⟩ dX5_isWithin_15
    · replace h := of_iff h c2
      refine g_iconst (v := 1) C dX5_isWithin_10 rfl ?_
      refine g_goto 15 C dX5_isWithin_11 (by decide) ?_
      cases h
      exact hR 15 _ ⟨.boolean, rfl, rfl⟩ dX5_isWithin_15
theorem zb_X5_isWithin (x0 x1 x2 : Int32) : isb (f_X5_isWithin x0 x1 x2) = true := by
  unfold f_X5_isWithin
  repeat' split
  all_goals first | decide
def f_X5_isKind (x0 : Int32) : Int32 := f_X5_isWithin x0 (0 : Int32) (5 : Int32)
set_option maxRecDepth 100000 in
set_option maxHeartbeats 4000000 in
theorem ct_X5_isKind {l : Launch} {w : Om} (hw : Wf w) {x0 : Int32}  {M : Mem} {r : Int32} (h : f_X5_isKind x0 = r) : Ct l w yX5_isKind cX5_isKind 1 (some .boolean) 1 [.int x0] M (some (.int r)) M := by
  refine ct_of hw (by decide) (cat_s rfl cat_0) (Nat.le_of_ble_eq_true rfl) (fun f _ C hR => ?_)
  show Go w f 0 [some (.int x0)] [] M
  unfold f_X5_isKind at h
  refine g_iload_n C dX5_isKind_0 rfl rfl ?_
  refine g_iconst (v := 0) C dX5_isKind_1 rfl ?_
  refine g_iconst (v := 5) C dX5_isKind_2 rfl ?_
  refine g_callS (As := [.int x0, .int (0 : Int32), .int (5 : Int32)]) C (ct_X5_isWithin C.wf rfl) lk_RX5_48 mi_X5_isWithin (by decide) cs_0 (by decide) dX5_isKind_3 rfl ?_
  show Go w f 6 [some (.int x0)] [.int (f_X5_isWithin x0 (0 : Int32) (5 : Int32))] M
  cases h
  exact hR 6 _ ⟨.boolean, rfl, nb_use (zb_X5_isWithin ..)⟩ dX5_isKind_6
theorem zb_X5_isKind (x0 : Int32) : isb (f_X5_isKind x0) = true := by
  unfold f_X5_isKind
  repeat' split
  all_goals first | decide | exact zb_X5_isWithin ..
def f_X5_forgetOldest_18 : Nat → Nat → Nat → Int32 → Mem → Option Mem
  | 0, _, _, _, _ => none
  | n + 1, r0, r1, x2, M => gdd (kd r0 = 6) <| gdd (kd (fld r0 2) = 11) <| if (nI (ln (fld r0 2))) ≤ x2 then (gdd (kd r1 = 5) <| gdd (inb ((nI (ln (fld r0 2))) - (1 : Int32)) (ln (fld r0 2)) = true) <| bvv (sH M ((nI (ln (fld r0 2))) - (1 : Int32)).toNatClampNeg r1) fun M206 => bvv (sI M206 r0 7 ((nI (ln (fld r0 2))) - (1 : Int32))) fun M208 => some M208) else (gdd (inb x2 (ln (fld r0 2)) = true) <| gdd (kd (gH M (x2).toNatClampNeg) = 5) <| gdd (inb (x2 - (1 : Int32)) (ln (fld r0 2)) = true) <| bvv (sH M (x2 - (1 : Int32)).toNatClampNeg (gH M (x2).toNatClampNeg)) fun M213 => bvv (x2 + (1 : Int32)) fun y215 => (f_X5_forgetOldest_18 n) r0 r1 y215 M213)
set_option maxRecDepth 100000 in
set_option maxHeartbeats 4000000 in
theorem t_X5_forgetOldest_18 {w : Om} {f : Fr} {M2 : Mem} (C : Cx w f RX5 cX5_forgetOldest 3 0) (hR : Rt w f cX5_forgetOldest none none M2)   : ∀ (n : Nat) (r0 : Nat) (r1 : Nat) (x2 : Int32) (M : Mem), f_X5_forgetOldest_18 n r0 r1 x2 M = some M2 → Go w f 18 [some (rv w r0), some (rv w r1), some (.int x2)] [] M := by
  intro n
  induction n with
  | zero =>
    intro r0 r1 x2 M h
    cases h
  | succ n ih =>
    intro r0 r1 x2 M h
    rw [f_X5_forgetOldest_18] at h
    refine g_iload_n C dX5_forgetOldest_18 rfl rfl ?_
    refine g_aload_n C dX5_forgetOldest_19 rfl rfl ?_
    obtain ⟨g201, h⟩ := of_gdd h
    refine gf_5_2 C fl_RX5_19 g201 dX5_forgetOldest_20 ?_
    obtain ⟨g202, h⟩ := of_gdd h
    refine g_alen C (Or.inr (Or.inr (Or.inr g202))) dX5_forgetOldest_23 ?_
    refine g_icmp_ge 47 C dX5_forgetOldest_24 (by decide) (fun c203 => ?_) (fun c203 => ?_)
    · replace h := of_ift h c203
      refine g_aload_n C dX5_forgetOldest_47 rfl rfl ?_
      refine gf_5_2 C fl_RX5_19 g201 dX5_forgetOldest_48 ?_
      refine g_aload_n C dX5_forgetOldest_51 rfl rfl ?_
      refine gf_5_2 C fl_RX5_19 g201 dX5_forgetOldest_52 ?_
      refine g_alen C (Or.inr (Or.inr (Or.inr g202))) dX5_forgetOldest_55 ?_
      refine g_iconst (v := 1) C dX5_forgetOldest_56 rfl ?_
      refine g_isub C dX5_forgetOldest_57 ?_
      refine g_aload_n C dX5_forgetOldest_58 rfl rfl ?_
      obtain ⟨g204, h⟩ := of_gdd h
      obtain ⟨g205, h⟩ := of_gdd h
      refine g_aasts C g202 g204 g205 dX5_forgetOldest_59 ?_
      obtain ⟨M206, e207, h⟩ := of_bvv h
      refine g_mem e207 ?_
      refine g_aload_n C dX5_forgetOldest_60 rfl rfl ?_
      refine g_aload_n C dX5_forgetOldest_61 rfl rfl ?_
      refine gf_5_2 C fl_RX5_19 g201 dX5_forgetOldest_62 ?_
      refine g_alen C (Or.inr (Or.inr (Or.inr g202))) dX5_forgetOldest_65 ?_
      refine g_iconst (v := 1) C dX5_forgetOldest_66 rfl ?_
      refine g_isub C dX5_forgetOldest_67 ?_
      refine pf_5_7 C fl_RX5_274 g201 dX5_forgetOldest_68 ?_
      obtain ⟨M208, e209, h⟩ := of_bvv h
      refine g_mem e209 ?_
      cases h
      exact hR 71 _ rfl dX5_forgetOldest_71
    · replace h := of_iff h c203
      refine g_aload_n C dX5_forgetOldest_27 rfl rfl ?_
      refine gf_5_2 C fl_RX5_19 g201 dX5_forgetOldest_28 ?_
      refine g_iload_n C dX5_forgetOldest_31 rfl rfl ?_
      refine g_iconst (v := 1) C dX5_forgetOldest_32 rfl ?_
      refine g_isub C dX5_forgetOldest_33 ?_
      refine g_aload_n C dX5_forgetOldest_34 rfl rfl ?_
      refine gf_5_2 C fl_RX5_19 g201 dX5_forgetOldest_35 ?_
      refine g_iload_n C dX5_forgetOldest_38 rfl rfl ?_
      obtain ⟨g210, h⟩ := of_gdd h
      refine g_aalds C g202 g210 dX5_forgetOldest_39 ?_
      obtain ⟨g211, h⟩ := of_gdd h
      obtain ⟨g212, h⟩ := of_gdd h
      refine g_aasts C g202 g211 g212 dX5_forgetOldest_40 ?_
      obtain ⟨M213, e214, h⟩ := of_bvv h
      refine g_mem e214 ?_
      obtain ⟨y215, e216, h⟩ := of_bvv h
      refine g_iinc (v := y215) C dX5_forgetOldest_41 rfl e216.symm (by decide) (rv_cat _ _) (L2 := [some (rv w r0), some (rv w r1), some (.int y215)]) rfl ?_
      refine g_goto 18 C dX5_forgetOldest_44 (by decide) ?_
      exact ih r0 r1 y215 M213 h
def f_X5_forgetOldest (r0 : Nat) (M : Mem) : Option Mem := gdd (kd r0 = 6) <| gdd (kd (fld r0 2) = 11) <| if (nI (ln (fld r0 2))) = 0 then (some M) else (gdd (inb (0 : Int32) (ln (fld r0 2)) = true) <| bvv (gH M ((0 : Int32)).toNatClampNeg) fun q5 => f_X5_forgetOldest_18 FU r0 q5 (1 : Int32) M)
set_option maxRecDepth 100000 in
set_option maxHeartbeats 4000000 in
theorem ct_X5_forgetOldest {l : Launch} {w : Om} (hw : Wf w) {r0 : Nat} {M : Mem} {M2 : Mem} (h : f_X5_forgetOldest r0 M = some M2) : Ct l w yX5_forgetOldest cX5_forgetOldest 3 none 0 [rv w r0] M none M2 := by
  refine ct_of hw (by decide) (cat_s (rv_cat _ _) cat_0) (Nat.le_of_ble_eq_true rfl) (fun f _ C hR => ?_)
  show Go w f 0 [some (rv w r0), none, none] [] M
  unfold f_X5_forgetOldest at h
  refine g_aload_n C dX5_forgetOldest_0 rfl rfl ?_
  obtain ⟨g1, h⟩ := of_gdd h
  refine gf_5_2 C fl_RX5_19 g1 dX5_forgetOldest_1 ?_
  obtain ⟨g2, h⟩ := of_gdd h
  refine g_alen C (Or.inr (Or.inr (Or.inr g2))) dX5_forgetOldest_4 ?_
  refine g_if_ne 9 C dX5_forgetOldest_5 (by decide) (fun c3 => ?_) (fun c3 => ?_)
  · replace h := of_iff h c3
    refine g_aload_n C dX5_forgetOldest_9 rfl rfl ?_
    refine gf_5_2 C fl_RX5_19 g1 dX5_forgetOldest_10 ?_
    refine g_iconst (v := 0) C dX5_forgetOldest_13 rfl ?_
    obtain ⟨g4, h⟩ := of_gdd h
    refine g_aalds C g2 g4 dX5_forgetOldest_14 ?_
    obtain ⟨q5, e6, h⟩ := of_bvv h
    refine g_topr e6 ?_
    refine g_astore_n C dX5_forgetOldest_15 rfl (by decide) (rv_cat _ _) (L2 := [some (rv w r0), some (rv w q5), none]) rfl ?_
    refine g_iconst (v := 1) C dX5_forgetOldest_16 rfl ?_
    refine g_istore_n C dX5_forgetOldest_17 rfl (by decide) (rv_cat _ _) (L2 := [some (rv w r0), some (rv w q5), some (.int (1 : Int32))]) rfl ?_
    exact t_X5_forgetOldest_18 C hR _ r0 q5 (1 : Int32) M h
  · replace h := of_ift h c3
    cases h
    exact hR 8 _ rfl dX5_forgetOldest_8
def f_X5_at (r0 : Nat) (x1 : Int32) (M : Mem) : Option Int32 := if x1 < 0 then (some (0 : Int32)) else (gdd (kd r0 = 8) <| if (nI (ln r0)) ≤ x1 then (some (0 : Int32)) else (gdd (inb x1 (ln r0) = true) <| some (gI M r0 (x1).toNatClampNeg)))
set_option maxRecDepth 100000 in
set_option maxHeartbeats 4000000 in
theorem ct_X5_at {l : Launch} {w : Om} (hw : Wf w) {r0 : Nat} {x1 : Int32}  {M : Mem} {r : Int32} (h : f_X5_at r0 x1 M = some r) : Ct l w yX5_at cX5_at 2 (some .int) 0 [rv w r0, .int x1] M (some (.int r)) M := by
  refine ct_of hw (by decide) (cat_s (rv_cat _ _) (cat_s rfl cat_0)) (Nat.le_of_ble_eq_true rfl) (fun f _ C hR => ?_)
  show Go w f 0 [some (rv w r0), some (.int x1)] [] M
  unfold f_X5_at at h
  refine g_iload_n C dX5_at_0 rfl rfl ?_
  refine g_if_lt 16 C dX5_at_1 (by decide) (fun c1 => ?_) (fun c1 => ?_)
  · replace h := of_ift h c1
    refine g_iconst (v := 0) C dX5_at_16 rfl ?_
    cases h
    exact hR 17 _ ⟨.int, rfl, rfl⟩ dX5_at_17
  · replace h := of_iff h c1
    refine g_iload_n C dX5_at_4 rfl rfl ?_
    refine g_aload_n C dX5_at_5 rfl rfl ?_
    obtain ⟨g2, h⟩ := of_gdd h
    refine g_alen C (Or.inl g2) dX5_at_6 ?_
    refine g_icmp_ge 16 C dX5_at_7 (by decide) (fun c3 => ?_) (fun c3 => ?_)
    · replace h := of_ift h c3
      refine g_iconst (v := 0) C dX5_at_16 rfl ?_
      cases h
      exact hR 17 _ ⟨.int, rfl, rfl⟩ dX5_at_17
    · replace h := of_iff h c3
      refine g_aload_n C dX5_at_10 rfl rfl ?_
      refine g_iload_n C dX5_at_11 rfl rfl ?_
      obtain ⟨g4, h⟩ := of_gdd h
      refine g_iald C g2 g4 dX5_at_12 ?_
      refine g_goto 17 C dX5_at_13 (by decide) ?_
      cases h
      exact hR 17 _ ⟨.int, rfl, rfl⟩ dX5_at_17
def f_X4_editionAt (r0 : Nat) (x1 : Int32) (M : Mem) : Option Nat := if x1 < 0 then (some 0) else (gdd (kd r0 = 5) <| if (gI M r0 4) ≤ x1 then (some 0) else (gdd (kd (fld r0 2) = 9) <| if (nI (ln (fld r0 2))) ≤ x1 then (some 0) else (gdd (inb x1 (ln (fld r0 2)) = true) <| some (fld (fld r0 2) (x1).toNatClampNeg))))
set_option maxRecDepth 100000 in
set_option maxHeartbeats 4000000 in
theorem ct_X4_editionAt {l : Launch} {w : Om} (hw : Wf w) {r0 : Nat} {x1 : Int32}  {M : Mem} {r : Nat} (h : f_X4_editionAt r0 x1 M = some r) : Ct l w yX4_editionAt cX4_editionAt 2 (some (.object "CommaCourt$Edition")) 0 [rv w r0, .int x1] M (some (rv w r)) M := by
  refine ct_of hw (by decide) (cat_s (rv_cat _ _) (cat_s rfl cat_0)) (Nat.le_of_ble_eq_true rfl) (fun f _ C hR => ?_)
  show Go w f 0 [some (rv w r0), some (.int x1)] [] M
  unfold f_X4_editionAt at h
  refine g_iload_n C dX4_editionAt_0 rfl rfl ?_
  refine g_if_lt 30 C dX4_editionAt_1 (by decide) (fun c1 => ?_) (fun c1 => ?_)
  · replace h := of_ift h c1
    refine g_null C dX4_editionAt_30 ?_
    cases h
    exact RtA_use hR 31 _ (Or.inl ⟨_, rfl⟩) dX4_editionAt_31
  · replace h := of_iff h c1
    refine g_iload_n C dX4_editionAt_4 rfl rfl ?_
    refine g_aload_n C dX4_editionAt_5 rfl rfl ?_
    obtain ⟨g2, h⟩ := of_gdd h
    refine gf_4_4 C fl_RX4_40 g2 dX4_editionAt_6 ?_
    refine g_icmp_ge 30 C dX4_editionAt_9 (by decide) (fun c3 => ?_) (fun c3 => ?_)
    · replace h := of_ift h c3
      refine g_null C dX4_editionAt_30 ?_
      cases h
      exact RtA_use hR 31 _ (Or.inl ⟨_, rfl⟩) dX4_editionAt_31
    · replace h := of_iff h c3
      refine g_iload_n C dX4_editionAt_12 rfl rfl ?_
      refine g_aload_n C dX4_editionAt_13 rfl rfl ?_
      refine gf_4_2 C fl_RX4_20 g2 dX4_editionAt_14 ?_
      obtain ⟨g4, h⟩ := of_gdd h
      refine g_alen C (Or.inr (Or.inl g4)) dX4_editionAt_17 ?_
      refine g_icmp_ge 30 C dX4_editionAt_18 (by decide) (fun c5 => ?_) (fun c5 => ?_)
      · replace h := of_ift h c5
        refine g_null C dX4_editionAt_30 ?_
        cases h
        exact RtA_use hR 31 _ (Or.inl ⟨_, rfl⟩) dX4_editionAt_31
      · replace h := of_iff h c5
        refine g_aload_n C dX4_editionAt_21 rfl rfl ?_
        refine gf_4_2 C fl_RX4_20 g2 dX4_editionAt_22 ?_
        refine g_iload_n C dX4_editionAt_25 rfl rfl ?_
        obtain ⟨g6, h⟩ := of_gdd h
        refine g_aald C (Or.inl g4) g6 dX4_editionAt_26 ?_
        refine g_goto 31 C dX4_editionAt_27 (by decide) ?_
        cases h
        exact RtA_use hR 31 _ (Or.inl ⟨_, rfl⟩) dX4_editionAt_31
def f_X0_copyFrom_2 : Nat → Nat → Nat → Int32 → Mem → Option Mem
  | 0, _, _, _, _ => none
  | n + 1, r0, r1, x2, M => if (12 : Int32) ≤ x2 then (gdd (kd r1 = 1) <| gdd (kd r0 = 1) <| bvv (sI M r0 1 (gI M r1 1)) fun M204 => bvv (sI M204 r0 2 (gI M204 r1 2)) fun M206 => bvv (sI M206 r0 3 (gI M206 r1 3)) fun M208 => bvv (sI M208 r0 4 (gI M208 r1 4)) fun M210 => some M210) else (gdd (kd r0 = 1) <| gdd (kd r1 = 1) <| obb (f_X5_at (fld r1 0) x2 M) fun y214 => obb (f_X5_put (fld r0 0) x2 y214 M) fun M216 => bvv (x2 + (1 : Int32)) fun y218 => (f_X0_copyFrom_2 n) r0 r1 y218 M216)
set_option maxRecDepth 100000 in
set_option maxHeartbeats 4000000 in
theorem t_X0_copyFrom_2 {w : Om} {f : Fr} {M2 : Mem} (C : Cx w f RX0 cX0_copyFrom 3 1) (hR : Rt w f cX0_copyFrom none none M2)   : ∀ (n : Nat) (r0 : Nat) (r1 : Nat) (x2 : Int32) (M : Mem), f_X0_copyFrom_2 n r0 r1 x2 M = some M2 → Go w f 2 [some (rv w r0), some (rv w r1), some (.int x2)] [] M := by
  intro n
  induction n with
  | zero =>
    intro r0 r1 x2 M h
    cases h
  | succ n ih =>
    intro r0 r1 x2 M h
    rw [f_X0_copyFrom_2] at h
    refine g_iload_n C dX0_copyFrom_2 rfl rfl ?_
    refine g_bipush (v := 12) C dX0_copyFrom_3 rfl ?_
    refine g_icmp_ge 30 C dX0_copyFrom_5 (by decide) (fun c201 => ?_) (fun c201 => ?_)
    · replace h := of_ift h c201
      refine g_aload_n C dX0_copyFrom_30 rfl rfl ?_
      refine g_aload_n C dX0_copyFrom_31 rfl rfl ?_
      obtain ⟨g202, h⟩ := of_gdd h
      refine gf_0_1 C fl_RX0_23 g202 dX0_copyFrom_32 ?_
      obtain ⟨g203, h⟩ := of_gdd h
      refine pf_0_1 C fl_RX0_23 g203 dX0_copyFrom_35 ?_
      obtain ⟨M204, e205, h⟩ := of_bvv h
      refine g_mem e205 ?_
      refine g_aload_n C dX0_copyFrom_38 rfl rfl ?_
      refine g_aload_n C dX0_copyFrom_39 rfl rfl ?_
      refine gf_0_2 C fl_RX0_27 g202 dX0_copyFrom_40 ?_
      refine pf_0_2 C fl_RX0_27 g203 dX0_copyFrom_43 ?_
      obtain ⟨M206, e207, h⟩ := of_bvv h
      refine g_mem e207 ?_
      refine g_aload_n C dX0_copyFrom_46 rfl rfl ?_
      refine g_aload_n C dX0_copyFrom_47 rfl rfl ?_
      refine gf_0_3 C fl_RX0_30 g202 dX0_copyFrom_48 ?_
      refine pf_0_3 C fl_RX0_30 g203 dX0_copyFrom_51 ?_
      obtain ⟨M208, e209, h⟩ := of_bvv h
      refine g_mem e209 ?_
      refine g_aload_n C dX0_copyFrom_54 rfl rfl ?_
      refine g_aload_n C dX0_copyFrom_55 rfl rfl ?_
      refine gf_0_4 C fl_RX0_33 g202 dX0_copyFrom_56 ?_
      refine pf_0_4 C fl_RX0_33 g203 dX0_copyFrom_59 ?_
      obtain ⟨M210, e211, h⟩ := of_bvv h
      refine g_mem e211 ?_
      cases h
      exact hR 62 _ rfl dX0_copyFrom_62
    · replace h := of_iff h c201
      refine g_aload_n C dX0_copyFrom_8 rfl rfl ?_
      obtain ⟨g212, h⟩ := of_gdd h
      refine gf_0_0 C fl_RX0_9 g212 dX0_copyFrom_9 ?_
      refine g_iload_n C dX0_copyFrom_12 rfl rfl ?_
      refine g_aload_n C dX0_copyFrom_13 rfl rfl ?_
      obtain ⟨g213, h⟩ := of_gdd h
      refine gf_0_0 C fl_RX0_9 g213 dX0_copyFrom_14 ?_
      refine g_iload_n C dX0_copyFrom_17 rfl rfl ?_
      obtain ⟨y214, e215, h⟩ := of_obb h
      refine g_callSN (As := [rv w (fld r1 0), .int x2]) C (ct_X5_at C.wf e215) ln_RX0_15 mi_X5_at (by decide) (cs_i (cs_r cs_0)) (by decide) dX0_copyFrom_18 rfl ?_
      show Go w f 21 [some (rv w r0), some (rv w r1), some (.int x2)] [.int y214, .int x2, rv w (fld r0 0)] M
      obtain ⟨M216, e217, h⟩ := of_obb h
      refine g_callSN (As := [rv w (fld r0 0), .int x2, .int y214]) C (ct_X5_put C.wf e217) ln_RX0_19 mi_X5_put (by decide) cs_0 (by decide) dX0_copyFrom_21 rfl ?_
      show Go w f 24 [some (rv w r0), some (rv w r1), some (.int x2)] [] M216
      obtain ⟨y218, e219, h⟩ := of_bvv h
      refine g_iinc (v := y218) C dX0_copyFrom_24 rfl e219.symm (by decide) (rv_cat _ _) (L2 := [some (rv w r0), some (rv w r1), some (.int y218)]) rfl ?_
      refine g_goto 2 C dX0_copyFrom_27 (by decide) ?_
      exact ih r0 r1 y218 M216 h
def f_X0_copyFrom (r0 : Nat) (r1 : Nat) (M : Mem) : Option Mem := f_X0_copyFrom_2 FU r0 r1 (0 : Int32) M
set_option maxRecDepth 100000 in
set_option maxHeartbeats 4000000 in
theorem ct_X0_copyFrom {l : Launch} {w : Om} (hw : Wf w) {r0 : Nat} {r1 : Nat} {M : Mem} {M2 : Mem} (h : f_X0_copyFrom r0 r1 M = some M2) : Ct l w yX0_copyFrom cX0_copyFrom 3 none 1 [rv w r0, rv w r1] M none M2 := by
  refine ct_of hw (by decide) (cat_s (rv_cat _ _) (cat_s (rv_cat _ _) cat_0)) (Nat.le_of_ble_eq_true rfl) (fun f _ C hR => ?_)
  show Go w f 0 [some (rv w r0), some (rv w r1), none] [] M
  unfold f_X0_copyFrom at h
  refine g_iconst (v := 0) C dX0_copyFrom_0 rfl ?_
  refine g_istore_n C dX0_copyFrom_1 rfl (by decide) (rv_cat _ _) (L2 := [some (rv w r0), some (rv w r1), some (.int (0 : Int32))]) rfl ?_
  exact t_X0_copyFrom_2 C hR _ r0 r1 (0 : Int32) M h
def f_X4_copyEdition (r0 : Nat) (r1 : Nat) (x2 : Int32) (M : Mem) : Option Mem := gdd (kd r0 = 5) <| obb (f_X4_editionAt r0 x2 M) fun y2 => if r1 = 0 then (some M) else (if y2 = 0 then (some M) else (gdd (kd y2 = 1) <| obb (f_X0_copyFrom y2 r1 M) fun M7 => some M7))
set_option maxRecDepth 100000 in
set_option maxHeartbeats 4000000 in
theorem ct_X4_copyEdition {l : Launch} {w : Om} (hw : Wf w) {r0 : Nat} {r1 : Nat} {x2 : Int32} {M : Mem} {M2 : Mem} (h : f_X4_copyEdition r0 r1 x2 M = some M2) : Ct l w yX4_copyEdition cX4_copyEdition 4 none 2 [rv w r0, rv w r1, .int x2] M none M2 := by
  refine ct_of hw (by decide) (cat_s (rv_cat _ _) (cat_s (rv_cat _ _) (cat_s rfl cat_0))) (Nat.le_of_ble_eq_true rfl) (fun f _ C hR => ?_)
  show Go w f 0 [some (rv w r0), some (rv w r1), some (.int x2), none] [] M
  unfold f_X4_copyEdition at h
  refine g_aload_n C dX4_copyEdition_0 rfl rfl ?_
  refine g_iload_n C dX4_copyEdition_1 rfl rfl ?_
  obtain ⟨g1, h⟩ := of_gdd h
  obtain ⟨y2, e3, h⟩ := of_obb h
  refine g_callV (As := [.int x2]) C (ct_X4_editionAt C.wf e3) g1 lk_RX4_47 mi_X4_editionAt (by decide) cs_0 (by decide) dX4_copyEdition_2 rfl ?_
  show Go w f 5 [some (rv w r0), some (rv w r1), some (.int x2), none] [rv w y2] M
  refine g_astore_n C dX4_copyEdition_5 rfl (by decide) rfl (L2 := [some (rv w r0), some (rv w r1), some (.int x2), some (rv w y2)]) rfl ?_
  refine g_aload_n C dX4_copyEdition_6 rfl rfl ?_
  refine g_ifnull 19 C dX4_copyEdition_7 (by decide) (fun c4 => ?_) (fun c4 => ?_)
  · replace h := of_ift h c4
    cases h
    exact hR 19 _ rfl dX4_copyEdition_19
  · replace h := of_iff h c4
    refine g_aload_n C dX4_copyEdition_10 rfl rfl ?_
    refine g_ifnull 19 C dX4_copyEdition_11 (by decide) (fun c5 => ?_) (fun c5 => ?_)
    · replace h := of_ift h c5
      cases h
      exact hR 19 _ rfl dX4_copyEdition_19
    · replace h := of_iff h c5
      refine g_aload_n C dX4_copyEdition_14 rfl rfl ?_
      refine g_aload_n C dX4_copyEdition_15 rfl rfl ?_
      obtain ⟨g6, h⟩ := of_gdd h
      obtain ⟨M7, e8, h⟩ := of_obb h
      refine g_callV (As := [rv w r1]) C (ct_X0_copyFrom C.wf e8) g6 lk_RX4_72 mi_X0_copyFrom (by decide) cs_0 (by decide) dX4_copyEdition_16 rfl ?_
      show Go w f 19 [some (rv w r0), some (rv w r1), some (.int x2), some (rv w y2)] [] M7
      cases h
      exact hR 19 _ rfl dX4_copyEdition_19
def f_X4_rulingAt (r0 : Nat) (x1 : Int32) (M : Mem) : Option Nat := if x1 < 0 then (some 0) else (gdd (kd r0 = 5) <| if (gI M r0 5) ≤ x1 then (some 0) else (gdd (kd (fld r0 3) = 10) <| if (nI (ln (fld r0 3))) ≤ x1 then (some 0) else (gdd (inb x1 (ln (fld r0 3)) = true) <| some (fld (fld r0 3) (x1).toNatClampNeg))))
set_option maxRecDepth 100000 in
set_option maxHeartbeats 4000000 in
theorem ct_X4_rulingAt {l : Launch} {w : Om} (hw : Wf w) {r0 : Nat} {x1 : Int32}  {M : Mem} {r : Nat} (h : f_X4_rulingAt r0 x1 M = some r) : Ct l w yX4_rulingAt cX4_rulingAt 2 (some (.object "CommaCourt$Ruling")) 0 [rv w r0, .int x1] M (some (rv w r)) M := by
  refine ct_of hw (by decide) (cat_s (rv_cat _ _) (cat_s rfl cat_0)) (Nat.le_of_ble_eq_true rfl) (fun f _ C hR => ?_)
  show Go w f 0 [some (rv w r0), some (.int x1)] [] M
  unfold f_X4_rulingAt at h
  refine g_iload_n C dX4_rulingAt_0 rfl rfl ?_
  refine g_if_lt 30 C dX4_rulingAt_1 (by decide) (fun c1 => ?_) (fun c1 => ?_)
  · replace h := of_ift h c1
    refine g_null C dX4_rulingAt_30 ?_
    cases h
    exact RtA_use hR 31 _ (Or.inl ⟨_, rfl⟩) dX4_rulingAt_31
  · replace h := of_iff h c1
    refine g_iload_n C dX4_rulingAt_4 rfl rfl ?_
    refine g_aload_n C dX4_rulingAt_5 rfl rfl ?_
    obtain ⟨g2, h⟩ := of_gdd h
    refine gf_4_5 C fl_RX4_44 g2 dX4_rulingAt_6 ?_
    refine g_icmp_ge 30 C dX4_rulingAt_9 (by decide) (fun c3 => ?_) (fun c3 => ?_)
    · replace h := of_ift h c3
      refine g_null C dX4_rulingAt_30 ?_
      cases h
      exact RtA_use hR 31 _ (Or.inl ⟨_, rfl⟩) dX4_rulingAt_31
    · replace h := of_iff h c3
      refine g_iload_n C dX4_rulingAt_12 rfl rfl ?_
      refine g_aload_n C dX4_rulingAt_13 rfl rfl ?_
      refine gf_4_3 C fl_RX4_26 g2 dX4_rulingAt_14 ?_
      obtain ⟨g4, h⟩ := of_gdd h
      refine g_alen C (Or.inr (Or.inr (Or.inl g4))) dX4_rulingAt_17 ?_
      refine g_icmp_ge 30 C dX4_rulingAt_18 (by decide) (fun c5 => ?_) (fun c5 => ?_)
      · replace h := of_ift h c5
        refine g_null C dX4_rulingAt_30 ?_
        cases h
        exact RtA_use hR 31 _ (Or.inl ⟨_, rfl⟩) dX4_rulingAt_31
      · replace h := of_iff h c5
        refine g_aload_n C dX4_rulingAt_21 rfl rfl ?_
        refine gf_4_3 C fl_RX4_26 g2 dX4_rulingAt_22 ?_
        refine g_iload_n C dX4_rulingAt_25 rfl rfl ?_
        obtain ⟨g6, h⟩ := of_gdd h
        refine g_aald C (Or.inr g4) g6 dX4_rulingAt_26 ?_
        refine g_goto 31 C dX4_rulingAt_27 (by decide) ?_
        cases h
        exact RtA_use hR 31 _ (Or.inl ⟨_, rfl⟩) dX4_rulingAt_31
def f_X2_copyFrom (r0 : Nat) (r1 : Nat) (M : Mem) : Option Mem := gdd (kd r1 = 3) <| gdd (kd r0 = 3) <| bvv (sI M r0 0 (gI M r1 0)) fun M3 => bvv (sI M3 r0 1 (gI M3 r1 1)) fun M5 => gdd (isb (gI M5 r1 2) = true) <| bvv (sI M5 r0 2 (gI M5 r1 2)) fun M8 => bvv (sI M8 r0 3 (gI M8 r1 3)) fun M10 => bvv (sI M10 r0 4 (gI M10 r1 4)) fun M12 => gdd (isb (gI M12 r1 5) = true) <| bvv (sI M12 r0 5 (gI M12 r1 5)) fun M15 => gdd (isb (gI M15 r1 6) = true) <| bvv (sI M15 r0 6 (gI M15 r1 6)) fun M18 => some M18
set_option maxRecDepth 100000 in
set_option maxHeartbeats 4000000 in
theorem ct_X2_copyFrom {l : Launch} {w : Om} (hw : Wf w) {r0 : Nat} {r1 : Nat} {M : Mem} {M2 : Mem} (h : f_X2_copyFrom r0 r1 M = some M2) : Ct l w yX2_copyFrom cX2_copyFrom 2 none 0 [rv w r0, rv w r1] M none M2 := by
  refine ct_of hw (by decide) (cat_s (rv_cat _ _) (cat_s (rv_cat _ _) cat_0)) (Nat.le_of_ble_eq_true rfl) (fun f _ C hR => ?_)
  show Go w f 0 [some (rv w r0), some (rv w r1)] [] M
  unfold f_X2_copyFrom at h
  refine g_aload_n C dX2_copyFrom_0 rfl rfl ?_
  refine g_aload_n C dX2_copyFrom_1 rfl rfl ?_
  obtain ⟨g1, h⟩ := of_gdd h
  refine gf_2_0 C fl_RX2_7 g1 dX2_copyFrom_2 ?_
  obtain ⟨g2, h⟩ := of_gdd h
  refine pf_2_0 C fl_RX2_7 g2 dX2_copyFrom_5 ?_
  obtain ⟨M3, e4, h⟩ := of_bvv h
  refine g_mem e4 ?_
  refine g_aload_n C dX2_copyFrom_8 rfl rfl ?_
  refine g_aload_n C dX2_copyFrom_9 rfl rfl ?_
  refine gf_2_1 C fl_RX2_13 g1 dX2_copyFrom_10 ?_
  refine pf_2_1 C fl_RX2_13 g2 dX2_copyFrom_13 ?_
  obtain ⟨M5, e6, h⟩ := of_bvv h
  refine g_mem e6 ?_
  refine g_aload_n C dX2_copyFrom_16 rfl rfl ?_
  refine g_aload_n C dX2_copyFrom_17 rfl rfl ?_
  refine gf_2_2 C fl_RX2_16 g1 dX2_copyFrom_18 ?_
  obtain ⟨g7, h⟩ := of_gdd h
  refine pf_2_2 C fl_RX2_16 g2 g7 dX2_copyFrom_21 ?_
  obtain ⟨M8, e9, h⟩ := of_bvv h
  refine g_mem e9 ?_
  refine g_aload_n C dX2_copyFrom_24 rfl rfl ?_
  refine g_aload_n C dX2_copyFrom_25 rfl rfl ?_
  refine gf_2_3 C fl_RX2_20 g1 dX2_copyFrom_26 ?_
  refine pf_2_3 C fl_RX2_20 g2 dX2_copyFrom_29 ?_
  obtain ⟨M10, e11, h⟩ := of_bvv h
  refine g_mem e11 ?_
  refine g_aload_n C dX2_copyFrom_32 rfl rfl ?_
  refine g_aload_n C dX2_copyFrom_33 rfl rfl ?_
  refine gf_2_4 C fl_RX2_23 g1 dX2_copyFrom_34 ?_
  refine pf_2_4 C fl_RX2_23 g2 dX2_copyFrom_37 ?_
  obtain ⟨M12, e13, h⟩ := of_bvv h
  refine g_mem e13 ?_
  refine g_aload_n C dX2_copyFrom_40 rfl rfl ?_
  refine g_aload_n C dX2_copyFrom_41 rfl rfl ?_
  refine gf_2_5 C fl_RX2_26 g1 dX2_copyFrom_42 ?_
  obtain ⟨g14, h⟩ := of_gdd h
  refine pf_2_5 C fl_RX2_26 g2 g14 dX2_copyFrom_45 ?_
  obtain ⟨M15, e16, h⟩ := of_bvv h
  refine g_mem e16 ?_
  refine g_aload_n C dX2_copyFrom_48 rfl rfl ?_
  refine g_aload_n C dX2_copyFrom_49 rfl rfl ?_
  refine gf_2_6 C fl_RX2_29 g1 dX2_copyFrom_50 ?_
  obtain ⟨g17, h⟩ := of_gdd h
  refine pf_2_6 C fl_RX2_29 g2 g17 dX2_copyFrom_53 ?_
  obtain ⟨M18, e19, h⟩ := of_bvv h
  refine g_mem e19 ?_
  cases h
  exact hR 56 _ rfl dX2_copyFrom_56
def f_X4_copyFrom_103 : Nat → Nat → Nat → Int32 → Mem → Option Mem
  | 0, _, _, _, _ => none
  | n + 1, r0, r1, x2, M => gdd (kd r0 = 5) <| if (gI M r0 5) ≤ x2 then (gdd (kd r1 = 5) <| bvv (sI M r0 6 (gI M r1 6)) fun M504 => bvv (sI M504 r0 7 (gI M504 r1 7)) fun M506 => bvv (sI M506 r0 8 (gI M506 r1 8)) fun M508 => some M508) else (gdd (kd r1 = 5) <| obb (f_X4_rulingAt r1 x2 M) fun y511 => obb (f_X4_rulingAt r0 x2 M) fun y513 => if y511 = 0 then (bvv (x2 + (1 : Int32)) fun y516 => (f_X4_copyFrom_103 n) r0 r1 y516 M) else (if y513 = 0 then (bvv (x2 + (1 : Int32)) fun y519 => (f_X4_copyFrom_103 n) r0 r1 y519 M) else (gdd (kd y513 = 3) <| obb (f_X2_copyFrom y513 y511 M) fun M522 => bvv (x2 + (1 : Int32)) fun y524 => (f_X4_copyFrom_103 n) r0 r1 y524 M522)))
set_option maxRecDepth 100000 in
set_option maxHeartbeats 4000000 in
theorem t_X4_copyFrom_103 {w : Om} {f : Fr} {M2 : Mem} (C : Cx w f RX4 cX4_copyFrom 5 3) (hR : Rt w f cX4_copyFrom none none M2)   : ∀ (n : Nat) (r0 : Nat) (r1 : Nat) (x2 : Int32) (M : Mem), f_X4_copyFrom_103 n r0 r1 x2 M = some M2 → Go w f 103 [some (rv w r0), some (rv w r1), some (.int x2), none, none] [] M := by
  intro n
  induction n with
  | zero =>
    intro r0 r1 x2 M h
    cases h
  | succ n ih =>
    intro r0 r1 x2 M h
    rw [f_X4_copyFrom_103] at h
    refine g_iload_n C dX4_copyFrom_103 rfl rfl ?_
    refine g_aload_n C dX4_copyFrom_104 rfl rfl ?_
    obtain ⟨g501, h⟩ := of_gdd h
    refine gf_4_5 C fl_RX4_44 g501 dX4_copyFrom_105 ?_
    refine g_icmp_ge 145 C dX4_copyFrom_108 (by decide) (fun c502 => ?_) (fun c502 => ?_)
    · replace h := of_ift h c502
      refine g_aload_n C dX4_copyFrom_145 rfl rfl ?_
      refine g_aload_n C dX4_copyFrom_146 rfl rfl ?_
      obtain ⟨g503, h⟩ := of_gdd h
      refine gf_4_6 C fl_RX4_63 g503 dX4_copyFrom_147 ?_
      refine pf_4_6 C fl_RX4_63 g501 dX4_copyFrom_150 ?_
      obtain ⟨M504, e505, h⟩ := of_bvv h
      refine g_mem e505 ?_
      refine g_aload_n C dX4_copyFrom_153 rfl rfl ?_
      refine g_aload_n C dX4_copyFrom_154 rfl rfl ?_
      refine gf_4_7 C fl_RX4_66 g503 dX4_copyFrom_155 ?_
      refine pf_4_7 C fl_RX4_66 g501 dX4_copyFrom_158 ?_
      obtain ⟨M506, e507, h⟩ := of_bvv h
      refine g_mem e507 ?_
      refine g_aload_n C dX4_copyFrom_161 rfl rfl ?_
      refine g_aload_n C dX4_copyFrom_162 rfl rfl ?_
      refine gf_4_8 C fl_RX4_69 g503 dX4_copyFrom_163 ?_
      refine pf_4_8 C fl_RX4_69 g501 dX4_copyFrom_166 ?_
      obtain ⟨M508, e509, h⟩ := of_bvv h
      refine g_mem e509 ?_
      cases h
      exact hR 169 _ rfl dX4_copyFrom_169
    · replace h := of_iff h c502
      refine g_aload_n C dX4_copyFrom_111 rfl rfl ?_
      refine g_iload_n C dX4_copyFrom_112 rfl rfl ?_
      obtain ⟨g510, h⟩ := of_gdd h
      obtain ⟨y511, e512, h⟩ := of_obb h
      refine g_callV (As := [.int x2]) C (ct_X4_rulingAt C.wf e512) g510 lk_RX4_55 mi_X4_rulingAt (by decide) cs_0 (by decide) dX4_copyFrom_113 rfl ?_
      show Go w f 116 [some (rv w r0), some (rv w r1), some (.int x2), none, none] [rv w y511] M
      refine g_astore_n C dX4_copyFrom_116 rfl (by decide) rfl (L2 := [some (rv w r0), some (rv w r1), some (.int x2), some (rv w y511), none]) rfl ?_
      refine g_aload_n C dX4_copyFrom_117 rfl rfl ?_
      refine g_iload_n C dX4_copyFrom_118 rfl rfl ?_
      obtain ⟨y513, e514, h⟩ := of_obb h
      refine g_callV (As := [.int x2]) C (ct_X4_rulingAt C.wf e514) g501 lk_RX4_55 mi_X4_rulingAt (by decide) cs_0 (by decide) dX4_copyFrom_119 rfl ?_
      show Go w f 122 [some (rv w r0), some (rv w r1), some (.int x2), some (rv w y511), none] [rv w y513] M
      refine g_astore C dX4_copyFrom_122 (by decide) (rv_cat _ _) (L2 := [some (rv w r0), some (rv w r1), some (.int x2), some (rv w y511), some (rv w y513)]) rfl ?_
      refine g_aload_n C dX4_copyFrom_124 rfl rfl ?_
      refine g_ifnull 139 C dX4_copyFrom_125 (by decide) (fun c515 => ?_) (fun c515 => ?_)
      · replace h := of_ift h c515
        obtain ⟨y516, e517, h⟩ := of_bvv h
        refine g_iinc (v := y516) C dX4_copyFrom_139 rfl e517.symm (by decide) (rv_cat _ _) (L2 := [some (rv w r0), some (rv w r1), some (.int y516), some (rv w y511), some (rv w y513)]) rfl ?_
        refine g_goto 103 C dX4_copyFrom_142 (by decide) ?_
        refine g_mask (bs := [true, true, true, false, false]) (L2 := [some (rv w r0), some (rv w r1), some (.int y516), none, none]) rfl ?_
        exact ih r0 r1 y516 M h
      · replace h := of_iff h c515
        refine g_aload C dX4_copyFrom_128 rfl ?_
        refine g_ifnull 139 C dX4_copyFrom_130 (by decide) (fun c518 => ?_) (fun c518 => ?_)
        · replace h := of_ift h c518
          obtain ⟨y519, e520, h⟩ := of_bvv h
          refine g_iinc (v := y519) C dX4_copyFrom_139 rfl e520.symm (by decide) (rv_cat _ _) (L2 := [some (rv w r0), some (rv w r1), some (.int y519), some (rv w y511), some (rv w y513)]) rfl ?_
          refine g_goto 103 C dX4_copyFrom_142 (by decide) ?_
          refine g_mask (bs := [true, true, true, false, false]) (L2 := [some (rv w r0), some (rv w r1), some (.int y519), none, none]) rfl ?_
          exact ih r0 r1 y519 M h
        · replace h := of_iff h c518
          refine g_aload C dX4_copyFrom_133 rfl ?_
          refine g_aload_n C dX4_copyFrom_135 rfl rfl ?_
          obtain ⟨g521, h⟩ := of_gdd h
          obtain ⟨M522, e523, h⟩ := of_obb h
          refine g_callV (As := [rv w y511]) C (ct_X2_copyFrom C.wf e523) g521 lk_RX4_59 mi_X2_copyFrom (by decide) cs_0 (by decide) dX4_copyFrom_136 rfl ?_
          show Go w f 139 [some (rv w r0), some (rv w r1), some (.int x2), some (rv w y511), some (rv w y513)] [] M522
          obtain ⟨y524, e525, h⟩ := of_bvv h
          refine g_iinc (v := y524) C dX4_copyFrom_139 rfl e525.symm (by decide) (rv_cat _ _) (L2 := [some (rv w r0), some (rv w r1), some (.int y524), some (rv w y511), some (rv w y513)]) rfl ?_
          refine g_goto 103 C dX4_copyFrom_142 (by decide) ?_
          refine g_mask (bs := [true, true, true, false, false]) (L2 := [some (rv w r0), some (rv w r1), some (.int y524), none, none]) rfl ?_
          exact ih r0 r1 y524 M522 h
def f_X4_copyFrom_77 : Nat → Nat → Nat → Int32 → Mem → Option Mem
  | 0, _, _, _, _ => none
  | n + 1, r0, r1, x2, M => gdd (kd r0 = 5) <| if (gI M r0 4) ≤ x2 then (f_X4_copyFrom_103 FU r0 r1 (0 : Int32) M) else (gdd (kd r1 = 5) <| obb (f_X4_editionAt r1 x2 M) fun y404 => obb (f_X4_copyEdition r0 y404 x2 M) fun M406 => bvv (x2 + (1 : Int32)) fun y408 => (f_X4_copyFrom_77 n) r0 r1 y408 M406)
set_option maxRecDepth 100000 in
set_option maxHeartbeats 4000000 in
theorem t_X4_copyFrom_77 {w : Om} {f : Fr} {M2 : Mem} (C : Cx w f RX4 cX4_copyFrom 5 3) (hR : Rt w f cX4_copyFrom none none M2)   : ∀ (n : Nat) (r0 : Nat) (r1 : Nat) (x2 : Int32) (M : Mem), f_X4_copyFrom_77 n r0 r1 x2 M = some M2 → Go w f 77 [some (rv w r0), some (rv w r1), some (.int x2), none, none] [] M := by
  intro n
  induction n with
  | zero =>
    intro r0 r1 x2 M h
    cases h
  | succ n ih =>
    intro r0 r1 x2 M h
    rw [f_X4_copyFrom_77] at h
    refine g_iload_n C dX4_copyFrom_77 rfl rfl ?_
    refine g_aload_n C dX4_copyFrom_78 rfl rfl ?_
    obtain ⟨g401, h⟩ := of_gdd h
    refine gf_4_4 C fl_RX4_40 g401 dX4_copyFrom_79 ?_
    refine g_icmp_ge 101 C dX4_copyFrom_82 (by decide) (fun c402 => ?_) (fun c402 => ?_)
    · replace h := of_ift h c402
      refine g_iconst (v := 0) C dX4_copyFrom_101 rfl ?_
      refine g_istore_n C dX4_copyFrom_102 rfl (by decide) (rv_cat _ _) (L2 := [some (rv w r0), some (rv w r1), some (.int (0 : Int32)), none, none]) rfl ?_
      exact t_X4_copyFrom_103 C hR _ r0 r1 (0 : Int32) M h
    · replace h := of_iff h c402
      refine g_aload_n C dX4_copyFrom_85 rfl rfl ?_
      refine g_aload_n C dX4_copyFrom_86 rfl rfl ?_
      refine g_iload_n C dX4_copyFrom_87 rfl rfl ?_
      obtain ⟨g403, h⟩ := of_gdd h
      obtain ⟨y404, e405, h⟩ := of_obb h
      refine g_callV (As := [.int x2]) C (ct_X4_editionAt C.wf e405) g403 lk_RX4_47 mi_X4_editionAt (by decide) (cs_r cs_0) (by decide) dX4_copyFrom_88 rfl ?_
      show Go w f 91 [some (rv w r0), some (rv w r1), some (.int x2), none, none] [rv w y404, rv w r0] M
      refine g_iload_n C dX4_copyFrom_91 rfl rfl ?_
      obtain ⟨M406, e407, h⟩ := of_obb h
      refine g_callV (As := [rv w y404, .int x2]) C (ct_X4_copyEdition C.wf e407) g401 lk_RX4_51 mi_X4_copyEdition (by decide) cs_0 (by decide) dX4_copyFrom_92 rfl ?_
      show Go w f 95 [some (rv w r0), some (rv w r1), some (.int x2), none, none] [] M406
      obtain ⟨y408, e409, h⟩ := of_bvv h
      refine g_iinc (v := y408) C dX4_copyFrom_95 rfl e409.symm (by decide) (rv_cat _ _) (L2 := [some (rv w r0), some (rv w r1), some (.int y408), none, none]) rfl ?_
      refine g_goto 77 C dX4_copyFrom_98 (by decide) ?_
      exact ih r0 r1 y408 M406 h
def f_X4_copyFrom_32 : Nat → Nat → Nat → Int32 → Mem → Option Mem
  | 0, _, _, _, _ => none
  | n + 1, r0, r1, x2, M => if (2 : Int32) ≤ x2 then (gdd (kd r1 = 5) <| gdd (kd r0 = 5) <| bvv (sI M r0 4 (gI M r1 4)) fun M304 => bvv (sI M304 r0 5 (gI M304 r1 5)) fun M306 => f_X4_copyFrom_77 FU r0 r1 (0 : Int32) M306) else (gdd (kd r0 = 5) <| gdd (kd r1 = 5) <| obb (f_X5_at (fld r1 1) x2 M) fun y310 => obb (f_X5_put (fld r0 1) x2 y310 M) fun M312 => bvv (x2 + (1 : Int32)) fun y314 => (f_X4_copyFrom_32 n) r0 r1 y314 M312)
set_option maxRecDepth 100000 in
set_option maxHeartbeats 4000000 in
theorem t_X4_copyFrom_32 {w : Om} {f : Fr} {M2 : Mem} (C : Cx w f RX4 cX4_copyFrom 5 3) (hR : Rt w f cX4_copyFrom none none M2)   : ∀ (n : Nat) (r0 : Nat) (r1 : Nat) (x2 : Int32) (M : Mem), f_X4_copyFrom_32 n r0 r1 x2 M = some M2 → Go w f 32 [some (rv w r0), some (rv w r1), some (.int x2), none, none] [] M := by
  intro n
  induction n with
  | zero =>
    intro r0 r1 x2 M h
    cases h
  | succ n ih =>
    intro r0 r1 x2 M h
    rw [f_X4_copyFrom_32] at h
    refine g_iload_n C dX4_copyFrom_32 rfl rfl ?_
    refine g_iconst (v := 2) C dX4_copyFrom_33 rfl ?_
    refine g_icmp_ge 59 C dX4_copyFrom_34 (by decide) (fun c301 => ?_) (fun c301 => ?_)
    · replace h := of_ift h c301
      refine g_aload_n C dX4_copyFrom_59 rfl rfl ?_
      refine g_aload_n C dX4_copyFrom_60 rfl rfl ?_
      obtain ⟨g302, h⟩ := of_gdd h
      refine gf_4_4 C fl_RX4_40 g302 dX4_copyFrom_61 ?_
      obtain ⟨g303, h⟩ := of_gdd h
      refine pf_4_4 C fl_RX4_40 g303 dX4_copyFrom_64 ?_
      obtain ⟨M304, e305, h⟩ := of_bvv h
      refine g_mem e305 ?_
      refine g_aload_n C dX4_copyFrom_67 rfl rfl ?_
      refine g_aload_n C dX4_copyFrom_68 rfl rfl ?_
      refine gf_4_5 C fl_RX4_44 g302 dX4_copyFrom_69 ?_
      refine pf_4_5 C fl_RX4_44 g303 dX4_copyFrom_72 ?_
      obtain ⟨M306, e307, h⟩ := of_bvv h
      refine g_mem e307 ?_
      refine g_iconst (v := 0) C dX4_copyFrom_75 rfl ?_
      refine g_istore_n C dX4_copyFrom_76 rfl (by decide) (rv_cat _ _) (L2 := [some (rv w r0), some (rv w r1), some (.int (0 : Int32)), none, none]) rfl ?_
      exact t_X4_copyFrom_77 C hR _ r0 r1 (0 : Int32) M306 h
    · replace h := of_iff h c301
      refine g_aload_n C dX4_copyFrom_37 rfl rfl ?_
      obtain ⟨g308, h⟩ := of_gdd h
      refine gf_4_1 C fl_RX4_15 g308 dX4_copyFrom_38 ?_
      refine g_iload_n C dX4_copyFrom_41 rfl rfl ?_
      refine g_aload_n C dX4_copyFrom_42 rfl rfl ?_
      obtain ⟨g309, h⟩ := of_gdd h
      refine gf_4_1 C fl_RX4_15 g309 dX4_copyFrom_43 ?_
      refine g_iload_n C dX4_copyFrom_46 rfl rfl ?_
      obtain ⟨y310, e311, h⟩ := of_obb h
      refine g_callSN (As := [rv w (fld r1 1), .int x2]) C (ct_X5_at C.wf e311) ln_RX4_36 mi_X5_at (by decide) (cs_i (cs_r cs_0)) (by decide) dX4_copyFrom_47 rfl ?_
      show Go w f 50 [some (rv w r0), some (rv w r1), some (.int x2), none, none] [.int y310, .int x2, rv w (fld r0 1)] M
      obtain ⟨M312, e313, h⟩ := of_obb h
      refine g_callSN (As := [rv w (fld r0 1), .int x2, .int y310]) C (ct_X5_put C.wf e313) ln_RX4_30 mi_X5_put (by decide) cs_0 (by decide) dX4_copyFrom_50 rfl ?_
      show Go w f 53 [some (rv w r0), some (rv w r1), some (.int x2), none, none] [] M312
      obtain ⟨y314, e315, h⟩ := of_bvv h
      refine g_iinc (v := y314) C dX4_copyFrom_53 rfl e315.symm (by decide) (rv_cat _ _) (L2 := [some (rv w r0), some (rv w r1), some (.int y314), none, none]) rfl ?_
      refine g_goto 32 C dX4_copyFrom_56 (by decide) ?_
      exact ih r0 r1 y314 M312 h
def f_X4_copyFrom_2 : Nat → Nat → Nat → Int32 → Mem → Option Mem
  | 0, _, _, _, _ => none
  | n + 1, r0, r1, x2, M => if (6 : Int32) ≤ x2 then (f_X4_copyFrom_32 FU r0 r1 (0 : Int32) M) else (gdd (kd r0 = 5) <| gdd (kd r1 = 5) <| obb (f_X5_at (fld r1 0) x2 M) fun y204 => obb (f_X5_put (fld r0 0) x2 y204 M) fun M206 => bvv (x2 + (1 : Int32)) fun y208 => (f_X4_copyFrom_2 n) r0 r1 y208 M206)
set_option maxRecDepth 100000 in
set_option maxHeartbeats 4000000 in
theorem t_X4_copyFrom_2 {w : Om} {f : Fr} {M2 : Mem} (C : Cx w f RX4 cX4_copyFrom 5 3) (hR : Rt w f cX4_copyFrom none none M2)   : ∀ (n : Nat) (r0 : Nat) (r1 : Nat) (x2 : Int32) (M : Mem), f_X4_copyFrom_2 n r0 r1 x2 M = some M2 → Go w f 2 [some (rv w r0), some (rv w r1), some (.int x2), none, none] [] M := by
  intro n
  induction n with
  | zero =>
    intro r0 r1 x2 M h
    cases h
  | succ n ih =>
    intro r0 r1 x2 M h
    rw [f_X4_copyFrom_2] at h
    refine g_iload_n C dX4_copyFrom_2 rfl rfl ?_
    refine g_bipush (v := 6) C dX4_copyFrom_3 rfl ?_
    refine g_icmp_ge 30 C dX4_copyFrom_5 (by decide) (fun c201 => ?_) (fun c201 => ?_)
    · replace h := of_ift h c201
      refine g_iconst (v := 0) C dX4_copyFrom_30 rfl ?_
      refine g_istore_n C dX4_copyFrom_31 rfl (by decide) (rv_cat _ _) (L2 := [some (rv w r0), some (rv w r1), some (.int (0 : Int32)), none, none]) rfl ?_
      exact t_X4_copyFrom_32 C hR _ r0 r1 (0 : Int32) M h
    · replace h := of_iff h c201
      refine g_aload_n C dX4_copyFrom_8 rfl rfl ?_
      obtain ⟨g202, h⟩ := of_gdd h
      refine gf_4_0 C fl_RX4_9 g202 dX4_copyFrom_9 ?_
      refine g_iload_n C dX4_copyFrom_12 rfl rfl ?_
      refine g_aload_n C dX4_copyFrom_13 rfl rfl ?_
      obtain ⟨g203, h⟩ := of_gdd h
      refine gf_4_0 C fl_RX4_9 g203 dX4_copyFrom_14 ?_
      refine g_iload_n C dX4_copyFrom_17 rfl rfl ?_
      obtain ⟨y204, e205, h⟩ := of_obb h
      refine g_callSN (As := [rv w (fld r1 0), .int x2]) C (ct_X5_at C.wf e205) ln_RX4_36 mi_X5_at (by decide) (cs_i (cs_r cs_0)) (by decide) dX4_copyFrom_18 rfl ?_
      show Go w f 21 [some (rv w r0), some (rv w r1), some (.int x2), none, none] [.int y204, .int x2, rv w (fld r0 0)] M
      obtain ⟨M206, e207, h⟩ := of_obb h
      refine g_callSN (As := [rv w (fld r0 0), .int x2, .int y204]) C (ct_X5_put C.wf e207) ln_RX4_30 mi_X5_put (by decide) cs_0 (by decide) dX4_copyFrom_21 rfl ?_
      show Go w f 24 [some (rv w r0), some (rv w r1), some (.int x2), none, none] [] M206
      obtain ⟨y208, e209, h⟩ := of_bvv h
      refine g_iinc (v := y208) C dX4_copyFrom_24 rfl e209.symm (by decide) (rv_cat _ _) (L2 := [some (rv w r0), some (rv w r1), some (.int y208), none, none]) rfl ?_
      refine g_goto 2 C dX4_copyFrom_27 (by decide) ?_
      exact ih r0 r1 y208 M206 h
def f_X4_copyFrom (r0 : Nat) (r1 : Nat) (M : Mem) : Option Mem := f_X4_copyFrom_2 FU r0 r1 (0 : Int32) M
set_option maxRecDepth 100000 in
set_option maxHeartbeats 4000000 in
theorem ct_X4_copyFrom {l : Launch} {w : Om} (hw : Wf w) {r0 : Nat} {r1 : Nat} {M : Mem} {M2 : Mem} (h : f_X4_copyFrom r0 r1 M = some M2) : Ct l w yX4_copyFrom cX4_copyFrom 5 none 3 [rv w r0, rv w r1] M none M2 := by
  refine ct_of hw (by decide) (cat_s (rv_cat _ _) (cat_s (rv_cat _ _) cat_0)) (Nat.le_of_ble_eq_true rfl) (fun f _ C hR => ?_)
  show Go w f 0 [some (rv w r0), some (rv w r1), none, none, none] [] M
  unfold f_X4_copyFrom at h
  refine g_iconst (v := 0) C dX4_copyFrom_0 rfl ?_
  refine g_istore_n C dX4_copyFrom_1 rfl (by decide) (rv_cat _ _) (L2 := [some (rv w r0), some (rv w r1), some (.int (0 : Int32)), none, none]) rfl ?_
  exact t_X4_copyFrom_2 C hR _ r0 r1 (0 : Int32) M h
def f_X5_keepState (r0 : Nat) (M : Mem) : Option Mem := gdd (kd r0 = 6) <| gdd (kd (fld r0 2) = 11) <| if (gI M r0 7) < (nI (ln (fld r0 2))) then (if (gI M r0 7) < 0 then (some M) else (if (nI (ln (fld r0 2))) ≤ (gI M r0 7) then (some M) else (gdd (inb (gI M r0 7) (ln (fld r0 2)) = true) <| if (gH M (gI M r0 7).toNatClampNeg) = 0 then (some M) else (gdd (kd (gH M (gI M r0 7).toNatClampNeg) = 5) <| obb (f_X4_copyFrom (gH M (gI M r0 7).toNatClampNeg) (fld r0 0) M) fun M9 => bvv (sI M9 r0 7 ((gI M9 r0 7) + (1 : Int32))) fun M11 => some M11)))) else (obb (f_X5_forgetOldest r0 M) fun M13 => if (gI M13 r0 7) < 0 then (some M13) else (if (nI (ln (fld r0 2))) ≤ (gI M13 r0 7) then (some M13) else (gdd (inb (gI M13 r0 7) (ln (fld r0 2)) = true) <| if (gH M13 (gI M13 r0 7).toNatClampNeg) = 0 then (some M13) else (gdd (kd (gH M13 (gI M13 r0 7).toNatClampNeg) = 5) <| obb (f_X4_copyFrom (gH M13 (gI M13 r0 7).toNatClampNeg) (fld r0 0) M13) fun M20 => bvv (sI M20 r0 7 ((gI M20 r0 7) + (1 : Int32))) fun M22 => some M22))))
set_option maxRecDepth 100000 in
set_option maxHeartbeats 4000000 in
theorem ct_X5_keepState {l : Launch} {w : Om} (hw : Wf w) {r0 : Nat} {M : Mem} {M2 : Mem} (h : f_X5_keepState r0 M = some M2) : Ct l w yX5_keepState cX5_keepState 1 none 4 [rv w r0] M none M2 := by
  refine ct_of hw (by decide) (cat_s (rv_cat _ _) cat_0) (Nat.le_of_ble_eq_true rfl) (fun f _ C hR => ?_)
  show Go w f 0 [some (rv w r0)] [] M
  unfold f_X5_keepState at h
  refine g_aload_n C dX5_keepState_0 rfl rfl ?_
  obtain ⟨g1, h⟩ := of_gdd h
  refine gf_5_7 C fl_RX5_274 g1 dX5_keepState_1 ?_
  refine g_aload_n C dX5_keepState_4 rfl rfl ?_
  refine gf_5_2 C fl_RX5_19 g1 dX5_keepState_5 ?_
  obtain ⟨g2, h⟩ := of_gdd h
  refine g_alen C (Or.inr (Or.inr (Or.inr g2))) dX5_keepState_8 ?_
  refine g_icmp_lt 16 C dX5_keepState_9 (by decide) (fun c3 => ?_) (fun c3 => ?_)
  · replace h := of_ift h c3
    refine g_aload_n C dX5_keepState_16 rfl rfl ?_
    refine gf_5_7 C fl_RX5_274 g1 dX5_keepState_17 ?_
    refine g_if_lt 73 C dX5_keepState_20 (by decide) (fun c4 => ?_) (fun c4 => ?_)
    · replace h := of_ift h c4
      cases h
      exact hR 73 _ rfl dX5_keepState_73
    · replace h := of_iff h c4
      refine g_aload_n C dX5_keepState_23 rfl rfl ?_
      refine gf_5_7 C fl_RX5_274 g1 dX5_keepState_24 ?_
      refine g_aload_n C dX5_keepState_27 rfl rfl ?_
      refine gf_5_2 C fl_RX5_19 g1 dX5_keepState_28 ?_
      refine g_alen C (Or.inr (Or.inr (Or.inr g2))) dX5_keepState_31 ?_
      refine g_icmp_ge 73 C dX5_keepState_32 (by decide) (fun c5 => ?_) (fun c5 => ?_)
      · replace h := of_ift h c5
        cases h
        exact hR 73 _ rfl dX5_keepState_73
      · replace h := of_iff h c5
        refine g_aload_n C dX5_keepState_35 rfl rfl ?_
        refine gf_5_2 C fl_RX5_19 g1 dX5_keepState_36 ?_
        refine g_aload_n C dX5_keepState_39 rfl rfl ?_
        refine gf_5_7 C fl_RX5_274 g1 dX5_keepState_40 ?_
        obtain ⟨g6, h⟩ := of_gdd h
        refine g_aalds C g2 g6 dX5_keepState_43 ?_
        refine g_ifnull 73 C dX5_keepState_44 (by decide) (fun c7 => ?_) (fun c7 => ?_)
        · replace h := of_ift h c7
          cases h
          exact hR 73 _ rfl dX5_keepState_73
        · replace h := of_iff h c7
          refine g_aload_n C dX5_keepState_47 rfl rfl ?_
          refine gf_5_2 C fl_RX5_19 g1 dX5_keepState_48 ?_
          refine g_aload_n C dX5_keepState_51 rfl rfl ?_
          refine gf_5_7 C fl_RX5_274 g1 dX5_keepState_52 ?_
          refine g_aalds C g2 g6 dX5_keepState_55 ?_
          refine g_aload_n C dX5_keepState_56 rfl rfl ?_
          refine gf_5_0 C fl_RX5_10 g1 dX5_keepState_57 ?_
          obtain ⟨g8, h⟩ := of_gdd h
          obtain ⟨M9, e10, h⟩ := of_obb h
          refine g_callV (As := [rv w (fld r0 0)]) C (ct_X4_copyFrom C.wf e10) g8 lk_RX5_287 mi_X4_copyFrom (by decide) cs_0 (by decide) dX5_keepState_60 rfl ?_
          show Go w f 63 [some (rv w r0)] [] M9
          refine g_aload_n C dX5_keepState_63 rfl rfl ?_
          refine g_dup C (rv_cat _ _) dX5_keepState_64 ?_
          refine gf_5_7 C fl_RX5_274 g1 dX5_keepState_65 ?_
          refine g_iconst (v := 1) C dX5_keepState_68 rfl ?_
          refine g_iadd C dX5_keepState_69 ?_
          refine pf_5_7 C fl_RX5_274 g1 dX5_keepState_70 ?_
          obtain ⟨M11, e12, h⟩ := of_bvv h
          refine g_mem e12 ?_
          cases h
          exact hR 73 _ rfl dX5_keepState_73
  · replace h := of_iff h c3
    refine g_aload_n C dX5_keepState_12 rfl rfl ?_
    obtain ⟨M13, e14, h⟩ := of_obb h
    refine g_callV (As := []) C (ct_X5_forgetOldest C.wf e14) g1 lk_RX5_294 mi_X5_forgetOldest (by decide) cs_0 (by decide) dX5_keepState_13 rfl ?_
    show Go w f 16 [some (rv w r0)] [] M13
    refine g_aload_n C dX5_keepState_16 rfl rfl ?_
    refine gf_5_7 C fl_RX5_274 g1 dX5_keepState_17 ?_
    refine g_if_lt 73 C dX5_keepState_20 (by decide) (fun c15 => ?_) (fun c15 => ?_)
    · replace h := of_ift h c15
      cases h
      exact hR 73 _ rfl dX5_keepState_73
    · replace h := of_iff h c15
      refine g_aload_n C dX5_keepState_23 rfl rfl ?_
      refine gf_5_7 C fl_RX5_274 g1 dX5_keepState_24 ?_
      refine g_aload_n C dX5_keepState_27 rfl rfl ?_
      refine gf_5_2 C fl_RX5_19 g1 dX5_keepState_28 ?_
      refine g_alen C (Or.inr (Or.inr (Or.inr g2))) dX5_keepState_31 ?_
      refine g_icmp_ge 73 C dX5_keepState_32 (by decide) (fun c16 => ?_) (fun c16 => ?_)
      · replace h := of_ift h c16
        cases h
        exact hR 73 _ rfl dX5_keepState_73
      · replace h := of_iff h c16
        refine g_aload_n C dX5_keepState_35 rfl rfl ?_
        refine gf_5_2 C fl_RX5_19 g1 dX5_keepState_36 ?_
        refine g_aload_n C dX5_keepState_39 rfl rfl ?_
        refine gf_5_7 C fl_RX5_274 g1 dX5_keepState_40 ?_
        obtain ⟨g17, h⟩ := of_gdd h
        refine g_aalds C g2 g17 dX5_keepState_43 ?_
        refine g_ifnull 73 C dX5_keepState_44 (by decide) (fun c18 => ?_) (fun c18 => ?_)
        · replace h := of_ift h c18
          cases h
          exact hR 73 _ rfl dX5_keepState_73
        · replace h := of_iff h c18
          refine g_aload_n C dX5_keepState_47 rfl rfl ?_
          refine gf_5_2 C fl_RX5_19 g1 dX5_keepState_48 ?_
          refine g_aload_n C dX5_keepState_51 rfl rfl ?_
          refine gf_5_7 C fl_RX5_274 g1 dX5_keepState_52 ?_
          refine g_aalds C g2 g17 dX5_keepState_55 ?_
          refine g_aload_n C dX5_keepState_56 rfl rfl ?_
          refine gf_5_0 C fl_RX5_10 g1 dX5_keepState_57 ?_
          obtain ⟨g19, h⟩ := of_gdd h
          obtain ⟨M20, e21, h⟩ := of_obb h
          refine g_callV (As := [rv w (fld r0 0)]) C (ct_X4_copyFrom C.wf e21) g19 lk_RX5_287 mi_X4_copyFrom (by decide) cs_0 (by decide) dX5_keepState_60 rfl ?_
          show Go w f 63 [some (rv w r0)] [] M20
          refine g_aload_n C dX5_keepState_63 rfl rfl ?_
          refine g_dup C (rv_cat _ _) dX5_keepState_64 ?_
          refine gf_5_7 C fl_RX5_274 g1 dX5_keepState_65 ?_
          refine g_iconst (v := 1) C dX5_keepState_68 rfl ?_
          refine g_iadd C dX5_keepState_69 ?_
          refine pf_5_7 C fl_RX5_274 g1 dX5_keepState_70 ?_
          obtain ⟨M22, e23, h⟩ := of_bvv h
          refine g_mem e23 ?_
          cases h
          exact hR 73 _ rfl dX5_keepState_73
def f_X5_weight (r0 : Nat) (x1 : Int32) (x2 : Int32) (M : Mem) : Option (Int32 × Mem) := if (f_X5_isKind x1) = 0 then (some ((-1 : Int32), M)) else (if (f_X5_isWithin x2 (1 : Int32) (9 : Int32)) = 0 then (some ((-1 : Int32), M)) else (gdd (kd r0 = 6) <| obb (f_X5_keepState r0 M) fun M4 => gdd (kd (fld r0 0) = 5) <| obb (f_X5_at (fld (fld r0 0) 0) x1 M4) fun y7 => obb (f_X5_put (fld (fld r0 0) 0) x1 x2 M4) fun M9 => some (y7, M9)))
set_option maxRecDepth 100000 in
set_option maxHeartbeats 4000000 in
theorem ct_X5_weight {l : Launch} {w : Om} (hw : Wf w) {r0 : Nat} {x1 : Int32} {x2 : Int32} {M : Mem} {r : Int32} {M2 : Mem} (h : f_X5_weight r0 x1 x2 M = some (r, M2)) : Ct l w yX5_weight cX5_weight 4 (some .int) 5 [rv w r0, .int x1, .int x2] M (some (.int r)) M2 := by
  refine ct_of hw (by decide) (cat_s (rv_cat _ _) (cat_s rfl (cat_s rfl cat_0))) (Nat.le_of_ble_eq_true rfl) (fun f _ C hR => ?_)
  show Go w f 0 [some (rv w r0), some (.int x1), some (.int x2), none] [] M
  unfold f_X5_weight at h
  refine g_iload_n C dX5_weight_0 rfl rfl ?_
  refine g_callS (As := [.int x1]) C (ct_X5_isKind C.wf rfl) lk_RX5_44 mi_X5_isKind (by decide) cs_0 (by decide) dX5_weight_1 rfl ?_
  show Go w f 4 [some (rv w r0), some (.int x1), some (.int x2), none] [.int (f_X5_isKind x1)] M
  refine g_if_eq 17 C dX5_weight_4 (by decide) (fun c1 => ?_) (fun c1 => ?_)
  · replace h := of_ift h c1
    refine g_iconst (v := -1) C dX5_weight_17 rfl ?_
    cases h
    exact hR 18 _ ⟨.int, rfl, rfl⟩ dX5_weight_18
  · replace h := of_iff h c1
    refine g_iload_n C dX5_weight_7 rfl rfl ?_
    refine g_iconst (v := 1) C dX5_weight_8 rfl ?_
    refine g_bipush (v := 9) C dX5_weight_9 rfl ?_
    refine g_callS (As := [.int x2, .int (1 : Int32), .int (9 : Int32)]) C (ct_X5_isWithin C.wf rfl) lk_RX5_48 mi_X5_isWithin (by decide) cs_0 (by decide) dX5_weight_11 rfl ?_
    show Go w f 14 [some (rv w r0), some (.int x1), some (.int x2), none] [.int (f_X5_isWithin x2 (1 : Int32) (9 : Int32))] M
    refine g_if_ne 19 C dX5_weight_14 (by decide) (fun c2 => ?_) (fun c2 => ?_)
    · replace h := of_iff h c2
      refine g_aload_n C dX5_weight_19 rfl rfl ?_
      obtain ⟨g3, h⟩ := of_gdd h
      obtain ⟨M4, e5, h⟩ := of_obb h
      refine g_callV (As := []) C (ct_X5_keepState C.wf e5) g3 lk_RX5_52 mi_X5_keepState (by decide) cs_0 (by decide) dX5_weight_20 rfl ?_
      show Go w f 23 [some (rv w r0), some (.int x1), some (.int x2), none] [] M4
      refine g_aload_n C dX5_weight_23 rfl rfl ?_
      refine gf_5_0 C fl_RX5_10 g3 dX5_weight_24 ?_
      obtain ⟨g6, h⟩ := of_gdd h
      refine gf_4_0 C fl_RX5_55 g6 dX5_weight_27 ?_
      refine g_iload_n C dX5_weight_30 rfl rfl ?_
      obtain ⟨y7, e8, h⟩ := of_obb h
      refine g_callS (As := [rv w (fld (fld r0 0) 0), .int x1]) C (ct_X5_at C.wf e8) lk_RX5_59 mi_X5_at (by decide) cs_0 (by decide) dX5_weight_31 rfl ?_
      show Go w f 34 [some (rv w r0), some (.int x1), some (.int x2), none] [.int y7] M4
      refine g_istore_n C dX5_weight_34 rfl (by decide) rfl (L2 := [some (rv w r0), some (.int x1), some (.int x2), some (.int y7)]) rfl ?_
      refine g_aload_n C dX5_weight_35 rfl rfl ?_
      refine gf_5_0 C fl_RX5_10 g3 dX5_weight_36 ?_
      refine gf_4_0 C fl_RX5_55 g6 dX5_weight_39 ?_
      refine g_iload_n C dX5_weight_42 rfl rfl ?_
      refine g_iload_n C dX5_weight_43 rfl rfl ?_
      obtain ⟨M9, e10, h⟩ := of_obb h
      refine g_callS (As := [rv w (fld (fld r0 0) 0), .int x1, .int x2]) C (ct_X5_put C.wf e10) lk_RX5_63 mi_X5_put (by decide) cs_0 (by decide) dX5_weight_44 rfl ?_
      show Go w f 47 [some (rv w r0), some (.int x1), some (.int x2), some (.int y7)] [] M9
      refine g_iload_n C dX5_weight_47 rfl rfl ?_
      cases h
      exact hR 48 _ ⟨.int, rfl, rfl⟩ dX5_weight_48
    · replace h := of_ift h c2
      refine g_iconst (v := -1) C dX5_weight_17 rfl ?_
      cases h
      exact hR 18 _ ⟨.int, rfl, rfl⟩ dX5_weight_18
def f_X5_set (r0 : Nat) (x1 : Int32) (x2 : Int32) (M : Mem) : Option (Int32 × Mem) := if x1 = 0 then (if (f_X5_isWithin x2 (1 : Int32) (30 : Int32)) = 0 then (if x1 = (1 : Int32) then (if (f_X5_isWithin x2 (9 : Int32) (60 : Int32)) = 0 then (some ((-1 : Int32), M)) else (gdd (kd r0 = 6) <| obb (f_X5_keepState r0 M) fun M24 => gdd (kd (fld r0 0) = 5) <| obb (f_X5_at (fld (fld r0 0) 1) x1 M24) fun y27 => obb (f_X5_put (fld (fld r0 0) 1) x1 x2 M24) fun M29 => some (y27, M29))) else (some ((-1 : Int32), M))) else (gdd (kd r0 = 6) <| obb (f_X5_keepState r0 M) fun M14 => gdd (kd (fld r0 0) = 5) <| obb (f_X5_at (fld (fld r0 0) 1) x1 M14) fun y17 => obb (f_X5_put (fld (fld r0 0) 1) x1 x2 M14) fun M19 => some (y17, M19))) else (if x1 = (1 : Int32) then (if (f_X5_isWithin x2 (9 : Int32) (60 : Int32)) = 0 then (some ((-1 : Int32), M)) else (gdd (kd r0 = 6) <| obb (f_X5_keepState r0 M) fun M5 => gdd (kd (fld r0 0) = 5) <| obb (f_X5_at (fld (fld r0 0) 1) x1 M5) fun y8 => obb (f_X5_put (fld (fld r0 0) 1) x1 x2 M5) fun M10 => some (y8, M10))) else (some ((-1 : Int32), M)))
set_option maxRecDepth 100000 in
set_option maxHeartbeats 4000000 in
theorem ct_X5_set {l : Launch} {w : Om} (hw : Wf w) {r0 : Nat} {x1 : Int32} {x2 : Int32} {M : Mem} {r : Int32} {M2 : Mem} (h : f_X5_set r0 x1 x2 M = some (r, M2)) : Ct l w yX5_set cX5_set 5 (some .int) 5 [rv w r0, .int x1, .int x2] M (some (.int r)) M2 := by
  refine ct_of hw (by decide) (cat_s (rv_cat _ _) (cat_s rfl (cat_s rfl cat_0))) (Nat.le_of_ble_eq_true rfl) (fun f _ C hR => ?_)
  show Go w f 0 [some (rv w r0), some (.int x1), some (.int x2), none, none] [] M
  unfold f_X5_set at h
  refine g_iload_n C dX5_set_0 rfl rfl ?_
  refine g_if_ne 14 C dX5_set_1 (by decide) (fun c1 => ?_) (fun c1 => ?_)
  · replace h := of_iff h c1
    refine g_iload_n C dX5_set_14 rfl rfl ?_
    refine g_iconst (v := 1) C dX5_set_15 rfl ?_
    refine g_icmp_ne 34 C dX5_set_16 (by decide) (fun c2 => ?_) (fun c2 => ?_)
    · replace h := of_iff h c2
      refine g_iconst (v := 0) C dX5_set_34 rfl ?_
      refine g_istore_n C dX5_set_35 rfl (by decide) rfl (L2 := [some (rv w r0), some (.int x1), some (.int x2), some (.int (0 : Int32)), none]) rfl ?_
      refine g_iload_n C dX5_set_36 rfl rfl ?_
      refine g_if_ne 42 C dX5_set_37 (by decide) (fun c => absurd c (by decide)) (fun _ => ?_)
      refine g_iconst (v := -1) C dX5_set_40 rfl ?_
      cases h
      exact hR 41 _ ⟨.int, rfl, rfl⟩ dX5_set_41
    · replace h := of_ift h c2
      refine g_iload_n C dX5_set_19 rfl rfl ?_
      refine g_bipush (v := 9) C dX5_set_20 rfl ?_
      refine g_bipush (v := 60) C dX5_set_22 rfl ?_
      refine g_callS (As := [.int x2, .int (9 : Int32), .int (60 : Int32)]) C (ct_X5_isWithin C.wf rfl) lk_RX5_48 mi_X5_isWithin (by decide) cs_0 (by decide) dX5_set_24 rfl ?_
      show Go w f 27 [some (rv w r0), some (.int x1), some (.int x2), none, none] [.int (f_X5_isWithin x2 (9 : Int32) (60 : Int32))] M
      refine g_if_eq 34 C dX5_set_27 (by decide) (fun c3 => ?_) (fun c3 => ?_)
      · replace h := of_ift h c3
        refine g_iconst (v := 0) C dX5_set_34 rfl ?_
        refine g_istore_n C dX5_set_35 rfl (by decide) rfl (L2 := [some (rv w r0), some (.int x1), some (.int x2), some (.int (0 : Int32)), none]) rfl ?_
        refine g_iload_n C dX5_set_36 rfl rfl ?_
        refine g_if_ne 42 C dX5_set_37 (by decide) (fun c => absurd c (by decide)) (fun _ => ?_)
        refine g_iconst (v := -1) C dX5_set_40 rfl ?_
        cases h
        exact hR 41 _ ⟨.int, rfl, rfl⟩ dX5_set_41
      · replace h := of_iff h c3
        refine g_iconst (v := 1) C dX5_set_30 rfl ?_
        refine g_goto 35 C dX5_set_31 (by decide) ?_
        refine g_istore_n C dX5_set_35 rfl (by decide) rfl (L2 := [some (rv w r0), some (.int x1), some (.int x2), some (.int (1 : Int32)), none]) rfl ?_
        refine g_iload_n C dX5_set_36 rfl rfl ?_
        refine g_if_ne 42 C dX5_set_37 (by decide) (fun _ => ?_) (fun c => absurd c (by decide))
        refine g_aload_n C dX5_set_42 rfl rfl ?_
        obtain ⟨g4, h⟩ := of_gdd h
        obtain ⟨M5, e6, h⟩ := of_obb h
        refine g_callV (As := []) C (ct_X5_keepState C.wf e6) g4 lk_RX5_52 mi_X5_keepState (by decide) cs_0 (by decide) dX5_set_43 rfl ?_
        show Go w f 46 [some (rv w r0), some (.int x1), some (.int x2), some (.int (1 : Int32)), none] [] M5
        refine g_aload_n C dX5_set_46 rfl rfl ?_
        refine gf_5_0 C fl_RX5_10 g4 dX5_set_47 ?_
        obtain ⟨g7, h⟩ := of_gdd h
        refine gf_4_1 C fl_RX5_67 g7 dX5_set_50 ?_
        refine g_iload_n C dX5_set_53 rfl rfl ?_
        obtain ⟨y8, e9, h⟩ := of_obb h
        refine g_callS (As := [rv w (fld (fld r0 0) 1), .int x1]) C (ct_X5_at C.wf e9) lk_RX5_59 mi_X5_at (by decide) cs_0 (by decide) dX5_set_54 rfl ?_
        show Go w f 57 [some (rv w r0), some (.int x1), some (.int x2), some (.int (1 : Int32)), none] [.int y8] M5
        refine g_istore C dX5_set_57 (by decide) rfl (L2 := [some (rv w r0), some (.int x1), some (.int x2), some (.int (1 : Int32)), some (.int y8)]) rfl ?_
        refine g_aload_n C dX5_set_59 rfl rfl ?_
        refine gf_5_0 C fl_RX5_10 g4 dX5_set_60 ?_
        refine gf_4_1 C fl_RX5_67 g7 dX5_set_63 ?_
        refine g_iload_n C dX5_set_66 rfl rfl ?_
        refine g_iload_n C dX5_set_67 rfl rfl ?_
        obtain ⟨M10, e11, h⟩ := of_obb h
        refine g_callS (As := [rv w (fld (fld r0 0) 1), .int x1, .int x2]) C (ct_X5_put C.wf e11) lk_RX5_63 mi_X5_put (by decide) cs_0 (by decide) dX5_set_68 rfl ?_
        show Go w f 71 [some (rv w r0), some (.int x1), some (.int x2), some (.int (1 : Int32)), some (.int y8)] [] M10
        refine g_iload C dX5_set_71 rfl ?_
        cases h
        exact hR 73 _ ⟨.int, rfl, rfl⟩ dX5_set_73
  · replace h := of_ift h c1
    refine g_iload_n C dX5_set_4 rfl rfl ?_
    refine g_iconst (v := 1) C dX5_set_5 rfl ?_
    refine g_bipush (v := 30) C dX5_set_6 rfl ?_
    refine g_callS (As := [.int x2, .int (1 : Int32), .int (30 : Int32)]) C (ct_X5_isWithin C.wf rfl) lk_RX5_48 mi_X5_isWithin (by decide) cs_0 (by decide) dX5_set_8 rfl ?_
    show Go w f 11 [some (rv w r0), some (.int x1), some (.int x2), none, none] [.int (f_X5_isWithin x2 (1 : Int32) (30 : Int32))] M
    refine g_if_ne 30 C dX5_set_11 (by decide) (fun c12 => ?_) (fun c12 => ?_)
    · replace h := of_iff h c12
      refine g_iconst (v := 1) C dX5_set_30 rfl ?_
      refine g_goto 35 C dX5_set_31 (by decide) ?_
      refine g_istore_n C dX5_set_35 rfl (by decide) rfl (L2 := [some (rv w r0), some (.int x1), some (.int x2), some (.int (1 : Int32)), none]) rfl ?_
      refine g_iload_n C dX5_set_36 rfl rfl ?_
      refine g_if_ne 42 C dX5_set_37 (by decide) (fun _ => ?_) (fun c => absurd c (by decide))
      refine g_aload_n C dX5_set_42 rfl rfl ?_
      obtain ⟨g13, h⟩ := of_gdd h
      obtain ⟨M14, e15, h⟩ := of_obb h
      refine g_callV (As := []) C (ct_X5_keepState C.wf e15) g13 lk_RX5_52 mi_X5_keepState (by decide) cs_0 (by decide) dX5_set_43 rfl ?_
      show Go w f 46 [some (rv w r0), some (.int x1), some (.int x2), some (.int (1 : Int32)), none] [] M14
      refine g_aload_n C dX5_set_46 rfl rfl ?_
      refine gf_5_0 C fl_RX5_10 g13 dX5_set_47 ?_
      obtain ⟨g16, h⟩ := of_gdd h
      refine gf_4_1 C fl_RX5_67 g16 dX5_set_50 ?_
      refine g_iload_n C dX5_set_53 rfl rfl ?_
      obtain ⟨y17, e18, h⟩ := of_obb h
      refine g_callS (As := [rv w (fld (fld r0 0) 1), .int x1]) C (ct_X5_at C.wf e18) lk_RX5_59 mi_X5_at (by decide) cs_0 (by decide) dX5_set_54 rfl ?_
      show Go w f 57 [some (rv w r0), some (.int x1), some (.int x2), some (.int (1 : Int32)), none] [.int y17] M14
      refine g_istore C dX5_set_57 (by decide) rfl (L2 := [some (rv w r0), some (.int x1), some (.int x2), some (.int (1 : Int32)), some (.int y17)]) rfl ?_
      refine g_aload_n C dX5_set_59 rfl rfl ?_
      refine gf_5_0 C fl_RX5_10 g13 dX5_set_60 ?_
      refine gf_4_1 C fl_RX5_67 g16 dX5_set_63 ?_
      refine g_iload_n C dX5_set_66 rfl rfl ?_
      refine g_iload_n C dX5_set_67 rfl rfl ?_
      obtain ⟨M19, e20, h⟩ := of_obb h
      refine g_callS (As := [rv w (fld (fld r0 0) 1), .int x1, .int x2]) C (ct_X5_put C.wf e20) lk_RX5_63 mi_X5_put (by decide) cs_0 (by decide) dX5_set_68 rfl ?_
      show Go w f 71 [some (rv w r0), some (.int x1), some (.int x2), some (.int (1 : Int32)), some (.int y17)] [] M19
      refine g_iload C dX5_set_71 rfl ?_
      cases h
      exact hR 73 _ ⟨.int, rfl, rfl⟩ dX5_set_73
    · replace h := of_ift h c12
      refine g_iload_n C dX5_set_14 rfl rfl ?_
      refine g_iconst (v := 1) C dX5_set_15 rfl ?_
      refine g_icmp_ne 34 C dX5_set_16 (by decide) (fun c21 => ?_) (fun c21 => ?_)
      · replace h := of_iff h c21
        refine g_iconst (v := 0) C dX5_set_34 rfl ?_
        refine g_istore_n C dX5_set_35 rfl (by decide) rfl (L2 := [some (rv w r0), some (.int x1), some (.int x2), some (.int (0 : Int32)), none]) rfl ?_
        refine g_iload_n C dX5_set_36 rfl rfl ?_
        refine g_if_ne 42 C dX5_set_37 (by decide) (fun c => absurd c (by decide)) (fun _ => ?_)
        refine g_iconst (v := -1) C dX5_set_40 rfl ?_
        cases h
        exact hR 41 _ ⟨.int, rfl, rfl⟩ dX5_set_41
      · replace h := of_ift h c21
        refine g_iload_n C dX5_set_19 rfl rfl ?_
        refine g_bipush (v := 9) C dX5_set_20 rfl ?_
        refine g_bipush (v := 60) C dX5_set_22 rfl ?_
        refine g_callS (As := [.int x2, .int (9 : Int32), .int (60 : Int32)]) C (ct_X5_isWithin C.wf rfl) lk_RX5_48 mi_X5_isWithin (by decide) cs_0 (by decide) dX5_set_24 rfl ?_
        show Go w f 27 [some (rv w r0), some (.int x1), some (.int x2), none, none] [.int (f_X5_isWithin x2 (9 : Int32) (60 : Int32))] M
        refine g_if_eq 34 C dX5_set_27 (by decide) (fun c22 => ?_) (fun c22 => ?_)
        · replace h := of_ift h c22
          refine g_iconst (v := 0) C dX5_set_34 rfl ?_
          refine g_istore_n C dX5_set_35 rfl (by decide) rfl (L2 := [some (rv w r0), some (.int x1), some (.int x2), some (.int (0 : Int32)), none]) rfl ?_
          refine g_iload_n C dX5_set_36 rfl rfl ?_
          refine g_if_ne 42 C dX5_set_37 (by decide) (fun c => absurd c (by decide)) (fun _ => ?_)
          refine g_iconst (v := -1) C dX5_set_40 rfl ?_
          cases h
          exact hR 41 _ ⟨.int, rfl, rfl⟩ dX5_set_41
        · replace h := of_iff h c22
          refine g_iconst (v := 1) C dX5_set_30 rfl ?_
          refine g_goto 35 C dX5_set_31 (by decide) ?_
          refine g_istore_n C dX5_set_35 rfl (by decide) rfl (L2 := [some (rv w r0), some (.int x1), some (.int x2), some (.int (1 : Int32)), none]) rfl ?_
          refine g_iload_n C dX5_set_36 rfl rfl ?_
          refine g_if_ne 42 C dX5_set_37 (by decide) (fun _ => ?_) (fun c => absurd c (by decide))
          refine g_aload_n C dX5_set_42 rfl rfl ?_
          obtain ⟨g23, h⟩ := of_gdd h
          obtain ⟨M24, e25, h⟩ := of_obb h
          refine g_callV (As := []) C (ct_X5_keepState C.wf e25) g23 lk_RX5_52 mi_X5_keepState (by decide) cs_0 (by decide) dX5_set_43 rfl ?_
          show Go w f 46 [some (rv w r0), some (.int x1), some (.int x2), some (.int (1 : Int32)), none] [] M24
          refine g_aload_n C dX5_set_46 rfl rfl ?_
          refine gf_5_0 C fl_RX5_10 g23 dX5_set_47 ?_
          obtain ⟨g26, h⟩ := of_gdd h
          refine gf_4_1 C fl_RX5_67 g26 dX5_set_50 ?_
          refine g_iload_n C dX5_set_53 rfl rfl ?_
          obtain ⟨y27, e28, h⟩ := of_obb h
          refine g_callS (As := [rv w (fld (fld r0 0) 1), .int x1]) C (ct_X5_at C.wf e28) lk_RX5_59 mi_X5_at (by decide) cs_0 (by decide) dX5_set_54 rfl ?_
          show Go w f 57 [some (rv w r0), some (.int x1), some (.int x2), some (.int (1 : Int32)), none] [.int y27] M24
          refine g_istore C dX5_set_57 (by decide) rfl (L2 := [some (rv w r0), some (.int x1), some (.int x2), some (.int (1 : Int32)), some (.int y27)]) rfl ?_
          refine g_aload_n C dX5_set_59 rfl rfl ?_
          refine gf_5_0 C fl_RX5_10 g23 dX5_set_60 ?_
          refine gf_4_1 C fl_RX5_67 g26 dX5_set_63 ?_
          refine g_iload_n C dX5_set_66 rfl rfl ?_
          refine g_iload_n C dX5_set_67 rfl rfl ?_
          obtain ⟨M29, e30, h⟩ := of_obb h
          refine g_callS (As := [rv w (fld (fld r0 0) 1), .int x1, .int x2]) C (ct_X5_put C.wf e30) lk_RX5_63 mi_X5_put (by decide) cs_0 (by decide) dX5_set_68 rfl ?_
          show Go w f 71 [some (rv w r0), some (.int x1), some (.int x2), some (.int (1 : Int32)), some (.int y27)] [] M29
          refine g_iload C dX5_set_71 rfl ?_
          cases h
          exact hR 73 _ ⟨.int, rfl, rfl⟩ dX5_set_73
def f_X5_isAboutKinds (x0 : Int32) (x1 : Int32) (x2 : Int32) : Int32 := if (f_X5_isKind x0) = 0 then ((0 : Int32)) else (if (f_X5_isKind x1) = 0 then ((0 : Int32)) else (if (f_X5_isWithin x2 (1 : Int32) (20 : Int32)) = 0 then ((0 : Int32)) else ((1 : Int32))))
set_option maxRecDepth 100000 in
set_option maxHeartbeats 4000000 in
theorem ct_X5_isAboutKinds {l : Launch} {w : Om} (hw : Wf w) {x0 : Int32} {x1 : Int32} {x2 : Int32}  {M : Mem} {r : Int32} (h : f_X5_isAboutKinds x0 x1 x2 = r) : Ct l w yX5_isAboutKinds cX5_isAboutKinds 3 (some .boolean) 2 [.int x0, .int x1, .int x2] M (some (.int r)) M := by
  refine ct_of hw (by decide) (cat_s rfl (cat_s rfl (cat_s rfl cat_0))) (Nat.le_of_ble_eq_true rfl) (fun f _ C hR => ?_)
  show Go w f 0 [some (.int x0), some (.int x1), some (.int x2)] [] M
  unfold f_X5_isAboutKinds at h
  refine g_iload_n C dX5_isAboutKinds_0 rfl rfl ?_
  refine g_callS (As := [.int x0]) C (ct_X5_isKind C.wf rfl) lk_RX5_44 mi_X5_isKind (by decide) cs_0 (by decide) dX5_isAboutKinds_1 rfl ?_
  show Go w f 4 [some (.int x0), some (.int x1), some (.int x2)] [.int (f_X5_isKind x0)] M
  refine g_if_eq 28 C dX5_isAboutKinds_4 (by decide) (fun c1 => ?_) (fun c1 => ?_)
  · replace h := of_ift h c1
    refine g_iconst (v := 0) C dX5_isAboutKinds_28 rfl ?_
    cases h
    exact hR 29 _ ⟨.boolean, rfl, rfl⟩ dX5_isAboutKinds_29
  · replace h := of_iff h c1
    refine g_iload_n C dX5_isAboutKinds_7 rfl rfl ?_
    refine g_callS (As := [.int x1]) C (ct_X5_isKind C.wf rfl) lk_RX5_44 mi_X5_isKind (by decide) cs_0 (by decide) dX5_isAboutKinds_8 rfl ?_
    show Go w f 11 [some (.int x0), some (.int x1), some (.int x2)] [.int (f_X5_isKind x1)] M
    refine g_if_eq 28 C dX5_isAboutKinds_11 (by decide) (fun c2 => ?_) (fun c2 => ?_)
    · replace h := of_ift h c2
      refine g_iconst (v := 0) C dX5_isAboutKinds_28 rfl ?_
      cases h
      exact hR 29 _ ⟨.boolean, rfl, rfl⟩ dX5_isAboutKinds_29
    · replace h := of_iff h c2
      refine g_iload_n C dX5_isAboutKinds_14 rfl rfl ?_
      refine g_iconst (v := 1) C dX5_isAboutKinds_15 rfl ?_
      refine g_bipush (v := 20) C dX5_isAboutKinds_16 rfl ?_
      refine g_callS (As := [.int x2, .int (1 : Int32), .int (20 : Int32)]) C (ct_X5_isWithin C.wf rfl) lk_RX5_48 mi_X5_isWithin (by decide) cs_0 (by decide) dX5_isAboutKinds_18 rfl ?_
      show Go w f 21 [some (.int x0), some (.int x1), some (.int x2)] [.int (f_X5_isWithin x2 (1 : Int32) (20 : Int32))] M
      refine g_if_eq 28 C dX5_isAboutKinds_21 (by decide) (fun c3 => ?_) (fun c3 => ?_)
      · replace h := of_ift h c3
        refine g_iconst (v := 0) C dX5_isAboutKinds_28 rfl ?_
        cases h
        exact hR 29 _ ⟨.boolean, rfl, rfl⟩ dX5_isAboutKinds_29
      · replace h := of_iff h c3
        refine g_iconst (v := 1) C dX5_isAboutKinds_24 rfl ?_
        refine g_goto 29 C dX5_isAboutKinds_25 (by decide) ?_
        cases h
        exact hR 29 _ ⟨.boolean, rfl, rfl⟩ dX5_isAboutKinds_29
theorem zb_X5_isAboutKinds (x0 x1 x2 : Int32) : isb (f_X5_isAboutKinds x0 x1 x2) = true := by
  unfold f_X5_isAboutKinds
  repeat' split
  all_goals first | decide | exact zb_X5_isKind .. | exact zb_X5_isKind .. | exact zb_X5_isWithin ..
def f_X4_findForce_2 : Nat → Nat → Int32 → Mem → Option Mem
  | 0, _, _, _ => none
  | n + 1, r0, x1, M => gdd (kd r0 = 5) <| if (gI M r0 5) ≤ x1 then (some M) else (obb (f_X4_rulingAt r0 x1 M) fun y203 => if y203 = 0 then (bvv (x1 + (1 : Int32)) fun y206 => (f_X4_findForce_2 n) r0 y206 M) else (gdd (kd y203 = 3) <| obb (f_X4_rulingAt r0 (gI M y203 4) M) fun y209 => if (gI M y203 5) = 0 then (if y209 = 0 then (bvv (sI M y203 6 (1 : Int32)) fun M217 => bvv (x1 + (1 : Int32)) fun y219 => (f_X4_findForce_2 n) r0 y219 M217) else (gdd (kd y209 = 3) <| if (gI M y209 6) = 0 then (bvv (sI M y203 6 (0 : Int32)) fun M223 => bvv (x1 + (1 : Int32)) fun y225 => (f_X4_findForce_2 n) r0 y225 M223) else (bvv (sI M y203 6 (1 : Int32)) fun M227 => bvv (x1 + (1 : Int32)) fun y229 => (f_X4_findForce_2 n) r0 y229 M227))) else (bvv (sI M y203 6 (0 : Int32)) fun M212 => bvv (x1 + (1 : Int32)) fun y214 => (f_X4_findForce_2 n) r0 y214 M212)))
set_option maxRecDepth 100000 in
set_option maxHeartbeats 4000000 in
theorem t_X4_findForce_2 {w : Om} {f : Fr} {M2 : Mem} (C : Cx w f RX4 cX4_findForce 4 1) (hR : Rt w f cX4_findForce none none M2)   : ∀ (n : Nat) (r0 : Nat) (x1 : Int32) (M : Mem), f_X4_findForce_2 n r0 x1 M = some M2 → Go w f 2 [some (rv w r0), some (.int x1), none, none] [] M := by
  intro n
  induction n with
  | zero =>
    intro r0 x1 M h
    cases h
  | succ n ih =>
    intro r0 x1 M h
    rw [f_X4_findForce_2] at h
    refine g_iload_n C dX4_findForce_2 rfl rfl ?_
    refine g_aload_n C dX4_findForce_3 rfl rfl ?_
    obtain ⟨g201, h⟩ := of_gdd h
    refine gf_4_5 C fl_RX4_44 g201 dX4_findForce_4 ?_
    refine g_icmp_ge 62 C dX4_findForce_7 (by decide) (fun c202 => ?_) (fun c202 => ?_)
    · replace h := of_ift h c202
      cases h
      exact hR 62 _ rfl dX4_findForce_62
    · replace h := of_iff h c202
      refine g_aload_n C dX4_findForce_10 rfl rfl ?_
      refine g_iload_n C dX4_findForce_11 rfl rfl ?_
      obtain ⟨y203, e204, h⟩ := of_obb h
      refine g_callV (As := [.int x1]) C (ct_X4_rulingAt C.wf e204) g201 lk_RX4_55 mi_X4_rulingAt (by decide) cs_0 (by decide) dX4_findForce_12 rfl ?_
      show Go w f 15 [some (rv w r0), some (.int x1), none, none] [rv w y203] M
      refine g_astore_n C dX4_findForce_15 rfl (by decide) rfl (L2 := [some (rv w r0), some (.int x1), some (rv w y203), none]) rfl ?_
      refine g_aload_n C dX4_findForce_16 rfl rfl ?_
      refine g_ifnull 56 C dX4_findForce_17 (by decide) (fun c205 => ?_) (fun c205 => ?_)
      · replace h := of_ift h c205
        obtain ⟨y206, e207, h⟩ := of_bvv h
        refine g_iinc (v := y206) C dX4_findForce_56 rfl e207.symm (by decide) (rv_cat _ _) (L2 := [some (rv w r0), some (.int y206), some (rv w y203), none]) rfl ?_
        refine g_goto 2 C dX4_findForce_59 (by decide) ?_
        refine g_mask (bs := [true, true, false, false]) (L2 := [some (rv w r0), some (.int y206), none, none]) rfl ?_
        exact ih r0 y206 M h
      · replace h := of_iff h c205
        refine g_aload_n C dX4_findForce_20 rfl rfl ?_
        refine g_aload_n C dX4_findForce_21 rfl rfl ?_
        obtain ⟨g208, h⟩ := of_gdd h
        refine gf_2_4 C fl_RX4_110 g208 dX4_findForce_22 ?_
        obtain ⟨y209, e210, h⟩ := of_obb h
        refine g_callV (As := [.int (gI M y203 4)]) C (ct_X4_rulingAt C.wf e210) g201 lk_RX4_55 mi_X4_rulingAt (by decide) cs_0 (by decide) dX4_findForce_25 rfl ?_
        show Go w f 28 [some (rv w r0), some (.int x1), some (rv w y203), none] [rv w y209] M
        refine g_astore_n C dX4_findForce_28 rfl (by decide) (rv_cat _ _) (L2 := [some (rv w r0), some (.int x1), some (rv w y203), some (rv w y209)]) rfl ?_
        refine g_aload_n C dX4_findForce_29 rfl rfl ?_
        refine g_aload_n C dX4_findForce_30 rfl rfl ?_
        refine gf_2_5 C fl_RX4_113 g208 dX4_findForce_31 ?_
        refine g_if_ne 52 C dX4_findForce_34 (by decide) (fun c211 => ?_) (fun c211 => ?_)
        · replace h := of_iff h c211
          refine g_iconst (v := 0) C dX4_findForce_52 rfl ?_
          refine pf_2_6 C fl_RX4_119 g208 (isb_0) dX4_findForce_53 ?_
          obtain ⟨M212, e213, h⟩ := of_bvv h
          refine g_mem e213 ?_
          obtain ⟨y214, e215, h⟩ := of_bvv h
          refine g_iinc (v := y214) C dX4_findForce_56 rfl e215.symm (by decide) (rv_cat _ _) (L2 := [some (rv w r0), some (.int y214), some (rv w y203), some (rv w y209)]) rfl ?_
          refine g_goto 2 C dX4_findForce_59 (by decide) ?_
          refine g_mask (bs := [true, true, false, false]) (L2 := [some (rv w r0), some (.int y214), none, none]) rfl ?_
          exact ih r0 y214 M212 h
        · replace h := of_ift h c211
          refine g_aload_n C dX4_findForce_37 rfl rfl ?_
          refine g_ifnull 48 C dX4_findForce_38 (by decide) (fun c216 => ?_) (fun c216 => ?_)
          · replace h := of_ift h c216
            refine g_iconst (v := 1) C dX4_findForce_48 rfl ?_
            refine g_goto 53 C dX4_findForce_49 (by decide) ?_
            refine pf_2_6 C fl_RX4_119 g208 (isb_1) dX4_findForce_53 ?_
            obtain ⟨M217, e218, h⟩ := of_bvv h
            refine g_mem e218 ?_
            obtain ⟨y219, e220, h⟩ := of_bvv h
            refine g_iinc (v := y219) C dX4_findForce_56 rfl e220.symm (by decide) (rv_cat _ _) (L2 := [some (rv w r0), some (.int y219), some (rv w y203), some (rv w y209)]) rfl ?_
            refine g_goto 2 C dX4_findForce_59 (by decide) ?_
            refine g_mask (bs := [true, true, false, false]) (L2 := [some (rv w r0), some (.int y219), none, none]) rfl ?_
            exact ih r0 y219 M217 h
          · replace h := of_iff h c216
            refine g_aload_n C dX4_findForce_41 rfl rfl ?_
            obtain ⟨g221, h⟩ := of_gdd h
            refine gf_2_6 C fl_RX4_119 g221 dX4_findForce_42 ?_
            refine g_if_eq 52 C dX4_findForce_45 (by decide) (fun c222 => ?_) (fun c222 => ?_)
            · replace h := of_ift h c222
              refine g_iconst (v := 0) C dX4_findForce_52 rfl ?_
              refine pf_2_6 C fl_RX4_119 g208 (isb_0) dX4_findForce_53 ?_
              obtain ⟨M223, e224, h⟩ := of_bvv h
              refine g_mem e224 ?_
              obtain ⟨y225, e226, h⟩ := of_bvv h
              refine g_iinc (v := y225) C dX4_findForce_56 rfl e226.symm (by decide) (rv_cat _ _) (L2 := [some (rv w r0), some (.int y225), some (rv w y203), some (rv w y209)]) rfl ?_
              refine g_goto 2 C dX4_findForce_59 (by decide) ?_
              refine g_mask (bs := [true, true, false, false]) (L2 := [some (rv w r0), some (.int y225), none, none]) rfl ?_
              exact ih r0 y225 M223 h
            · replace h := of_iff h c222
              refine g_iconst (v := 1) C dX4_findForce_48 rfl ?_
              refine g_goto 53 C dX4_findForce_49 (by decide) ?_
              refine pf_2_6 C fl_RX4_119 g208 (isb_1) dX4_findForce_53 ?_
              obtain ⟨M227, e228, h⟩ := of_bvv h
              refine g_mem e228 ?_
              obtain ⟨y229, e230, h⟩ := of_bvv h
              refine g_iinc (v := y229) C dX4_findForce_56 rfl e230.symm (by decide) (rv_cat _ _) (L2 := [some (rv w r0), some (.int y229), some (rv w y203), some (rv w y209)]) rfl ?_
              refine g_goto 2 C dX4_findForce_59 (by decide) ?_
              refine g_mask (bs := [true, true, false, false]) (L2 := [some (rv w r0), some (.int y229), none, none]) rfl ?_
              exact ih r0 y229 M227 h
def f_X4_findForce (r0 : Nat) (M : Mem) : Option Mem := f_X4_findForce_2 FU r0 (0 : Int32) M
set_option maxRecDepth 100000 in
set_option maxHeartbeats 4000000 in
theorem ct_X4_findForce {l : Launch} {w : Om} (hw : Wf w) {r0 : Nat} {M : Mem} {M2 : Mem} (h : f_X4_findForce r0 M = some M2) : Ct l w yX4_findForce cX4_findForce 4 none 1 [rv w r0] M none M2 := by
  refine ct_of hw (by decide) (cat_s (rv_cat _ _) cat_0) (Nat.le_of_ble_eq_true rfl) (fun f _ C hR => ?_)
  show Go w f 0 [some (rv w r0), none, none, none] [] M
  unfold f_X4_findForce at h
  refine g_iconst (v := 0) C dX4_findForce_0 rfl ?_
  refine g_istore_n C dX4_findForce_1 rfl (by decide) (rv_cat _ _) (L2 := [some (rv w r0), some (.int (0 : Int32)), none, none]) rfl ?_
  exact t_X4_findForce_2 C hR _ r0 (0 : Int32) M h
def f_X4_addRuling (r0 : Nat) (x1 : Int32) (x2 : Int32) (x3 : Int32) (x4 : Int32) (x5 : Int32) (M : Mem) : Option Mem := gdd (kd r0 = 5) <| bvv (sI M r0 5 ((gI M r0 5) + (1 : Int32))) fun M2 => obb (f_X4_rulingAt r0 ((gI M2 r0 5) - (1 : Int32)) M2) fun y4 => if y4 = 0 then (obb (f_X4_findForce r0 M2) fun M7 => some M7) else (gdd (kd y4 = 3) <| bvv (sI M2 y4 0 x1) fun M10 => bvv (sI M10 y4 1 x2) fun M12 => gdd (isb x3 = true) <| bvv (sI M12 y4 2 x3) fun M15 => bvv (sI M15 y4 3 x4) fun M17 => bvv (sI M17 y4 4 x5) fun M19 => bvv (sI M19 y4 5 (0 : Int32)) fun M21 => obb (f_X4_findForce r0 M21) fun M23 => some M23)
set_option maxRecDepth 100000 in
set_option maxHeartbeats 4000000 in
theorem ct_X4_addRuling {l : Launch} {w : Om} (hw : Wf w) {r0 : Nat} {x1 : Int32} {x2 : Int32} {x3 : Int32} {x4 : Int32} {x5 : Int32} {M : Mem} {M2 : Mem} (h : f_X4_addRuling r0 x1 x2 x3 x4 x5 M = some M2) : Ct l w yX4_addRuling cX4_addRuling 7 none 2 [rv w r0, .int x1, .int x2, .int x3, .int x4, .int x5] M none M2 := by
  refine ct_of hw (by decide) (cat_s (rv_cat _ _) (cat_s rfl (cat_s rfl (cat_s rfl (cat_s rfl (cat_s rfl cat_0)))))) (Nat.le_of_ble_eq_true rfl) (fun f _ C hR => ?_)
  show Go w f 0 [some (rv w r0), some (.int x1), some (.int x2), some (.int x3), some (.int x4), some (.int x5), none] [] M
  unfold f_X4_addRuling at h
  refine g_aload_n C dX4_addRuling_0 rfl rfl ?_
  refine g_dup C (rv_cat _ _) dX4_addRuling_1 ?_
  obtain ⟨g1, h⟩ := of_gdd h
  refine gf_4_5 C fl_RX4_44 g1 dX4_addRuling_2 ?_
  refine g_iconst (v := 1) C dX4_addRuling_5 rfl ?_
  refine g_iadd C dX4_addRuling_6 ?_
  refine pf_4_5 C fl_RX4_44 g1 dX4_addRuling_7 ?_
  obtain ⟨M2, e3, h⟩ := of_bvv h
  refine g_mem e3 ?_
  refine g_aload_n C dX4_addRuling_10 rfl rfl ?_
  refine g_aload_n C dX4_addRuling_11 rfl rfl ?_
  refine gf_4_5 C fl_RX4_44 g1 dX4_addRuling_12 ?_
  refine g_iconst (v := 1) C dX4_addRuling_15 rfl ?_
  refine g_isub C dX4_addRuling_16 ?_
  obtain ⟨y4, e5, h⟩ := of_obb h
  refine g_callV (As := [.int ((gI M2 r0 5) - (1 : Int32))]) C (ct_X4_rulingAt C.wf e5) g1 lk_RX4_55 mi_X4_rulingAt (by decide) cs_0 (by decide) dX4_addRuling_17 rfl ?_
  show Go w f 20 [some (rv w r0), some (.int x1), some (.int x2), some (.int x3), some (.int x4), some (.int x5), none] [rv w y4] M2
  refine g_astore C dX4_addRuling_20 (by decide) rfl (L2 := [some (rv w r0), some (.int x1), some (.int x2), some (.int x3), some (.int x4), some (.int x5), some (rv w y4)]) rfl ?_
  refine g_aload C dX4_addRuling_22 rfl ?_
  refine g_ifnull 65 C dX4_addRuling_24 (by decide) (fun c6 => ?_) (fun c6 => ?_)
  · replace h := of_ift h c6
    refine g_aload_n C dX4_addRuling_65 rfl rfl ?_
    obtain ⟨M7, e8, h⟩ := of_obb h
    refine g_callV (As := []) C (ct_X4_findForce C.wf e8) g1 lk_RX4_116 mi_X4_findForce (by decide) cs_0 (by decide) dX4_addRuling_66 rfl ?_
    show Go w f 69 [some (rv w r0), some (.int x1), some (.int x2), some (.int x3), some (.int x4), some (.int x5), some (rv w y4)] [] M7
    cases h
    exact hR 69 _ rfl dX4_addRuling_69
  · replace h := of_iff h c6
    refine g_aload C dX4_addRuling_27 rfl ?_
    refine g_iload_n C dX4_addRuling_29 rfl rfl ?_
    obtain ⟨g9, h⟩ := of_gdd h
    refine pf_2_0 C fl_RX4_97 g9 dX4_addRuling_30 ?_
    obtain ⟨M10, e11, h⟩ := of_bvv h
    refine g_mem e11 ?_
    refine g_aload C dX4_addRuling_33 rfl ?_
    refine g_iload_n C dX4_addRuling_35 rfl rfl ?_
    refine pf_2_1 C fl_RX4_100 g9 dX4_addRuling_36 ?_
    obtain ⟨M12, e13, h⟩ := of_bvv h
    refine g_mem e13 ?_
    refine g_aload C dX4_addRuling_39 rfl ?_
    refine g_iload_n C dX4_addRuling_41 rfl rfl ?_
    obtain ⟨g14, h⟩ := of_gdd h
    refine pf_2_2 C fl_RX4_103 g9 g14 dX4_addRuling_42 ?_
    obtain ⟨M15, e16, h⟩ := of_bvv h
    refine g_mem e16 ?_
    refine g_aload C dX4_addRuling_45 rfl ?_
    refine g_iload C dX4_addRuling_47 rfl ?_
    refine pf_2_3 C fl_RX4_107 g9 dX4_addRuling_49 ?_
    obtain ⟨M17, e18, h⟩ := of_bvv h
    refine g_mem e18 ?_
    refine g_aload C dX4_addRuling_52 rfl ?_
    refine g_iload C dX4_addRuling_54 rfl ?_
    refine pf_2_4 C fl_RX4_110 g9 dX4_addRuling_56 ?_
    obtain ⟨M19, e20, h⟩ := of_bvv h
    refine g_mem e20 ?_
    refine g_aload C dX4_addRuling_59 rfl ?_
    refine g_iconst (v := 0) C dX4_addRuling_61 rfl ?_
    refine pf_2_5 C fl_RX4_113 g9 (isb_0) dX4_addRuling_62 ?_
    obtain ⟨M21, e22, h⟩ := of_bvv h
    refine g_mem e22 ?_
    refine g_aload_n C dX4_addRuling_65 rfl rfl ?_
    obtain ⟨M23, e24, h⟩ := of_obb h
    refine g_callV (As := []) C (ct_X4_findForce C.wf e24) g1 lk_RX4_116 mi_X4_findForce (by decide) cs_0 (by decide) dX4_addRuling_66 rfl ?_
    show Go w f 69 [some (rv w r0), some (.int x1), some (.int x2), some (.int x3), some (.int x4), some (.int x5), some (rv w y4)] [] M23
    cases h
    exact hR 69 _ rfl dX4_addRuling_69
def f_X5_rule (r0 : Nat) (x1 : Int32) (x2 : Int32) (x3 : Int32) (x4 : Int32) (x5 : Int32) (M : Mem) : Option (Int32 × Mem) := if (f_X5_isAboutKinds x1 x2 x4) = 0 then (some ((-1 : Int32), M)) else (gdd (kd r0 = 6) <| gdd (kd (fld r0 0) = 5) <| if (f_X5_isWithin x5 (-1 : Int32) ((gI M (fld r0 0) 5) - (1 : Int32))) = 0 then (some ((-1 : Int32), M)) else (if (gI M (fld r0 0) 5) < (10 : Int32) then (obb (f_X5_keepState r0 M) fun M6 => obb (f_X4_addRuling (fld r0 0) x1 x2 x3 x4 x5 M6) fun M8 => some ((gI M8 (fld r0 0) 5) - (1 : Int32), M8)) else (some ((-3 : Int32), M))))
set_option maxRecDepth 100000 in
set_option maxHeartbeats 4000000 in
theorem ct_X5_rule {l : Launch} {w : Om} (hw : Wf w) {r0 : Nat} {x1 : Int32} {x2 : Int32} {x3 : Int32} {x4 : Int32} {x5 : Int32} {M : Mem} {r : Int32} {M2 : Mem} (h : f_X5_rule r0 x1 x2 x3 x4 x5 M = some (r, M2)) : Ct l w yX5_rule cX5_rule 6 (some .int) 5 [rv w r0, .int x1, .int x2, .int x3, .int x4, .int x5] M (some (.int r)) M2 := by
  refine ct_of hw (by decide) (cat_s (rv_cat _ _) (cat_s rfl (cat_s rfl (cat_s rfl (cat_s rfl (cat_s rfl cat_0)))))) (Nat.le_of_ble_eq_true rfl) (fun f _ C hR => ?_)
  show Go w f 0 [some (rv w r0), some (.int x1), some (.int x2), some (.int x3), some (.int x4), some (.int x5)] [] M
  unfold f_X5_rule at h
  refine g_iload_n C dX5_rule_0 rfl rfl ?_
  refine g_iload_n C dX5_rule_1 rfl rfl ?_
  refine g_iload C dX5_rule_2 rfl ?_
  refine g_callS (As := [.int x1, .int x2, .int x4]) C (ct_X5_isAboutKinds C.wf rfl) lk_RX5_70 mi_X5_isAboutKinds (by decide) cs_0 (by decide) dX5_rule_4 rfl ?_
  show Go w f 7 [some (rv w r0), some (.int x1), some (.int x2), some (.int x3), some (.int x4), some (.int x5)] [.int (f_X5_isAboutKinds x1 x2 x4)] M
  refine g_if_eq 28 C dX5_rule_7 (by decide) (fun c1 => ?_) (fun c1 => ?_)
  · replace h := of_ift h c1
    refine g_iconst (v := -1) C dX5_rule_28 rfl ?_
    cases h
    exact hR 29 _ ⟨.int, rfl, rfl⟩ dX5_rule_29
  · replace h := of_iff h c1
    refine g_iload C dX5_rule_10 rfl ?_
    refine g_iconst (v := -1) C dX5_rule_12 rfl ?_
    refine g_aload_n C dX5_rule_13 rfl rfl ?_
    obtain ⟨g2, h⟩ := of_gdd h
    refine gf_5_0 C fl_RX5_10 g2 dX5_rule_14 ?_
    obtain ⟨g3, h⟩ := of_gdd h
    refine gf_4_5 C fl_RX5_73 g3 dX5_rule_17 ?_
    refine g_iconst (v := 1) C dX5_rule_20 rfl ?_
    refine g_isub C dX5_rule_21 ?_
    refine g_callS (As := [.int x5, .int (-1 : Int32), .int ((gI M (fld r0 0) 5) - (1 : Int32))]) C (ct_X5_isWithin C.wf rfl) lk_RX5_48 mi_X5_isWithin (by decide) cs_0 (by decide) dX5_rule_22 rfl ?_
    show Go w f 25 [some (rv w r0), some (.int x1), some (.int x2), some (.int x3), some (.int x4), some (.int x5)] [.int (f_X5_isWithin x5 (-1 : Int32) ((gI M (fld r0 0) 5) - (1 : Int32)))] M
    refine g_if_ne 30 C dX5_rule_25 (by decide) (fun c4 => ?_) (fun c4 => ?_)
    · replace h := of_iff h c4
      refine g_aload_n C dX5_rule_30 rfl rfl ?_
      refine gf_5_0 C fl_RX5_10 g2 dX5_rule_31 ?_
      refine gf_4_5 C fl_RX5_73 g3 dX5_rule_34 ?_
      refine g_bipush (v := 10) C dX5_rule_37 rfl ?_
      refine g_icmp_lt 45 C dX5_rule_39 (by decide) (fun c5 => ?_) (fun c5 => ?_)
      · replace h := of_ift h c5
        refine g_aload_n C dX5_rule_45 rfl rfl ?_
        obtain ⟨M6, e7, h⟩ := of_obb h
        refine g_callV (As := []) C (ct_X5_keepState C.wf e7) g2 lk_RX5_52 mi_X5_keepState (by decide) cs_0 (by decide) dX5_rule_46 rfl ?_
        show Go w f 49 [some (rv w r0), some (.int x1), some (.int x2), some (.int x3), some (.int x4), some (.int x5)] [] M6
        refine g_aload_n C dX5_rule_49 rfl rfl ?_
        refine gf_5_0 C fl_RX5_10 g2 dX5_rule_50 ?_
        refine g_iload_n C dX5_rule_53 rfl rfl ?_
        refine g_iload_n C dX5_rule_54 rfl rfl ?_
        refine g_iload_n C dX5_rule_55 rfl rfl ?_
        refine g_iload C dX5_rule_56 rfl ?_
        refine g_iload C dX5_rule_58 rfl ?_
        obtain ⟨M8, e9, h⟩ := of_obb h
        refine g_callV (As := [.int x1, .int x2, .int x3, .int x4, .int x5]) C (ct_X4_addRuling C.wf e9) g3 lk_RX5_77 mi_X4_addRuling (by decide) cs_0 (by decide) dX5_rule_60 rfl ?_
        show Go w f 63 [some (rv w r0), some (.int x1), some (.int x2), some (.int x3), some (.int x4), some (.int x5)] [] M8
        refine g_aload_n C dX5_rule_63 rfl rfl ?_
        refine gf_5_0 C fl_RX5_10 g2 dX5_rule_64 ?_
        refine gf_4_5 C fl_RX5_73 g3 dX5_rule_67 ?_
        refine g_iconst (v := 1) C dX5_rule_70 rfl ?_
        refine g_isub C dX5_rule_71 ?_
        cases h
        exact hR 72 _ ⟨.int, rfl, rfl⟩ dX5_rule_72
      · replace h := of_iff h c5
        refine g_bipush (v := -3) C dX5_rule_42 rfl ?_
        cases h
        exact hR 44 _ ⟨.int, rfl, rfl⟩ dX5_rule_44
    · replace h := of_ift h c4
      refine g_iconst (v := -1) C dX5_rule_28 rfl ?_
      cases h
      exact hR 29 _ ⟨.int, rfl, rfl⟩ dX5_rule_29
def f_X4_rulingsInForce_4 (M : Mem) : Nat → Nat → Int32 → Int32 → Option Int32
  | 0, _, _, _ => none
  | n + 1, r0, x1, x2 => gdd (kd r0 = 5) <| if (gI M r0 5) ≤ x2 then (some x1) else (obb (f_X4_rulingAt r0 x2 M) fun y203 => if y203 = 0 then (bvv (x2 + (1 : Int32)) fun y206 => (f_X4_rulingsInForce_4 M n) r0 x1 y206) else (gdd (kd y203 = 3) <| if (gI M y203 6) = 0 then (bvv (x2 + (1 : Int32)) fun y210 => (f_X4_rulingsInForce_4 M n) r0 x1 y210) else (bvv (x1 + (1 : Int32)) fun y212 => bvv (x2 + (1 : Int32)) fun y214 => (f_X4_rulingsInForce_4 M n) r0 y212 y214)))
set_option maxRecDepth 100000 in
set_option maxHeartbeats 4000000 in
theorem t_X4_rulingsInForce_4 {w : Om} {f : Fr} {M : Mem} {r : Int32} (C : Cx w f RX4 cX4_rulingsInForce 4 1) (hR : Rt w f cX4_rulingsInForce (some .int) (some (.int r)) M)   : ∀ (n : Nat) (r0 : Nat) (x1 : Int32) (x2 : Int32), f_X4_rulingsInForce_4 M n r0 x1 x2 = some r → Go w f 4 [some (rv w r0), some (.int x1), some (.int x2), none] [] M := by
  intro n
  induction n with
  | zero =>
    intro r0 x1 x2 h
    cases h
  | succ n ih =>
    intro r0 x1 x2 h
    rw [f_X4_rulingsInForce_4] at h
    refine g_iload_n C dX4_rulingsInForce_4 rfl rfl ?_
    refine g_aload_n C dX4_rulingsInForce_5 rfl rfl ?_
    obtain ⟨g201, h⟩ := of_gdd h
    refine gf_4_5 C fl_RX4_44 g201 dX4_rulingsInForce_6 ?_
    refine g_icmp_ge 38 C dX4_rulingsInForce_9 (by decide) (fun c202 => ?_) (fun c202 => ?_)
    · replace h := of_ift h c202
      refine g_iload_n C dX4_rulingsInForce_38 rfl rfl ?_
      cases h
      exact hR 39 _ ⟨.int, rfl, rfl⟩ dX4_rulingsInForce_39
    · replace h := of_iff h c202
      refine g_aload_n C dX4_rulingsInForce_12 rfl rfl ?_
      refine g_iload_n C dX4_rulingsInForce_13 rfl rfl ?_
      obtain ⟨y203, e204, h⟩ := of_obb h
      refine g_callV (As := [.int x2]) C (ct_X4_rulingAt C.wf e204) g201 lk_RX4_55 mi_X4_rulingAt (by decide) cs_0 (by decide) dX4_rulingsInForce_14 rfl ?_
      show Go w f 17 [some (rv w r0), some (.int x1), some (.int x2), none] [rv w y203] M
      refine g_astore_n C dX4_rulingsInForce_17 rfl (by decide) rfl (L2 := [some (rv w r0), some (.int x1), some (.int x2), some (rv w y203)]) rfl ?_
      refine g_aload_n C dX4_rulingsInForce_18 rfl rfl ?_
      refine g_ifnull 32 C dX4_rulingsInForce_19 (by decide) (fun c205 => ?_) (fun c205 => ?_)
      · replace h := of_ift h c205
        obtain ⟨y206, e207, h⟩ := of_bvv h
        refine g_iinc (v := y206) C dX4_rulingsInForce_32 rfl e207.symm (by decide) rfl (L2 := [some (rv w r0), some (.int x1), some (.int y206), some (rv w y203)]) rfl ?_
        refine g_goto 4 C dX4_rulingsInForce_35 (by decide) ?_
        refine g_mask (bs := [true, true, true, false]) (L2 := [some (rv w r0), some (.int x1), some (.int y206), none]) rfl ?_
        exact ih r0 x1 y206 h
      · replace h := of_iff h c205
        refine g_aload_n C dX4_rulingsInForce_22 rfl rfl ?_
        obtain ⟨g208, h⟩ := of_gdd h
        refine gf_2_6 C fl_RX4_119 g208 dX4_rulingsInForce_23 ?_
        refine g_if_eq 32 C dX4_rulingsInForce_26 (by decide) (fun c209 => ?_) (fun c209 => ?_)
        · replace h := of_ift h c209
          obtain ⟨y210, e211, h⟩ := of_bvv h
          refine g_iinc (v := y210) C dX4_rulingsInForce_32 rfl e211.symm (by decide) rfl (L2 := [some (rv w r0), some (.int x1), some (.int y210), some (rv w y203)]) rfl ?_
          refine g_goto 4 C dX4_rulingsInForce_35 (by decide) ?_
          refine g_mask (bs := [true, true, true, false]) (L2 := [some (rv w r0), some (.int x1), some (.int y210), none]) rfl ?_
          exact ih r0 x1 y210 h
        · replace h := of_iff h c209
          obtain ⟨y212, e213, h⟩ := of_bvv h
          refine g_iinc (v := y212) C dX4_rulingsInForce_29 rfl e213.symm (by decide) (rv_cat _ _) (L2 := [some (rv w r0), some (.int y212), some (.int x2), some (rv w y203)]) rfl ?_
          obtain ⟨y214, e215, h⟩ := of_bvv h
          refine g_iinc (v := y214) C dX4_rulingsInForce_32 rfl e215.symm (by decide) rfl (L2 := [some (rv w r0), some (.int y212), some (.int y214), some (rv w y203)]) rfl ?_
          refine g_goto 4 C dX4_rulingsInForce_35 (by decide) ?_
          refine g_mask (bs := [true, true, true, false]) (L2 := [some (rv w r0), some (.int y212), some (.int y214), none]) rfl ?_
          exact ih r0 y212 y214 h
def f_X4_rulingsInForce (r0 : Nat) (M : Mem) : Option Int32 := f_X4_rulingsInForce_4 M FU r0 (0 : Int32) (0 : Int32)
set_option maxRecDepth 100000 in
set_option maxHeartbeats 4000000 in
theorem ct_X4_rulingsInForce {l : Launch} {w : Om} (hw : Wf w) {r0 : Nat}  {M : Mem} {r : Int32} (h : f_X4_rulingsInForce r0 M = some r) : Ct l w yX4_rulingsInForce cX4_rulingsInForce 4 (some .int) 1 [rv w r0] M (some (.int r)) M := by
  refine ct_of hw (by decide) (cat_s (rv_cat _ _) cat_0) (Nat.le_of_ble_eq_true rfl) (fun f _ C hR => ?_)
  show Go w f 0 [some (rv w r0), none, none, none] [] M
  unfold f_X4_rulingsInForce at h
  refine g_iconst (v := 0) C dX4_rulingsInForce_0 rfl ?_
  refine g_istore_n C dX4_rulingsInForce_1 rfl (by decide) (rv_cat _ _) (L2 := [some (rv w r0), some (.int (0 : Int32)), none, none]) rfl ?_
  refine g_iconst (v := 0) C dX4_rulingsInForce_2 rfl ?_
  refine g_istore_n C dX4_rulingsInForce_3 rfl (by decide) rfl (L2 := [some (rv w r0), some (.int (0 : Int32)), some (.int (0 : Int32)), none]) rfl ?_
  exact t_X4_rulingsInForce_4 C hR _ r0 (0 : Int32) (0 : Int32) h
def f_X5_overrule (r0 : Nat) (x1 : Int32) (M : Mem) : Option (Int32 × Mem) := gdd (kd r0 = 6) <| gdd (kd (fld r0 0) = 5) <| obb (f_X4_rulingAt (fld r0 0) x1 M) fun y3 => if y3 = 0 then (some ((-1 : Int32), M)) else (gdd (kd y3 = 3) <| if (gI M y3 5) = 0 then (obb (f_X5_keepState r0 M) fun M8 => obb (f_X4_rulingsInForce (fld r0 0) M8) fun y10 => bvv (sI M8 y3 5 (1 : Int32)) fun M12 => obb (f_X4_findForce (fld r0 0) M12) fun M14 => obb (f_X4_rulingsInForce (fld r0 0) M14) fun y16 => some (y10 - y16, M14)) else (some ((-2 : Int32), M)))
set_option maxRecDepth 100000 in
set_option maxHeartbeats 4000000 in
theorem ct_X5_overrule {l : Launch} {w : Om} (hw : Wf w) {r0 : Nat} {x1 : Int32} {M : Mem} {r : Int32} {M2 : Mem} (h : f_X5_overrule r0 x1 M = some (r, M2)) : Ct l w yX5_overrule cX5_overrule 4 (some .int) 5 [rv w r0, .int x1] M (some (.int r)) M2 := by
  refine ct_of hw (by decide) (cat_s (rv_cat _ _) (cat_s rfl cat_0)) (Nat.le_of_ble_eq_true rfl) (fun f _ C hR => ?_)
  show Go w f 0 [some (rv w r0), some (.int x1), none, none] [] M
  unfold f_X5_overrule at h
  refine g_aload_n C dX5_overrule_0 rfl rfl ?_
  obtain ⟨g1, h⟩ := of_gdd h
  refine gf_5_0 C fl_RX5_10 g1 dX5_overrule_1 ?_
  refine g_iload_n C dX5_overrule_4 rfl rfl ?_
  obtain ⟨g2, h⟩ := of_gdd h
  obtain ⟨y3, e4, h⟩ := of_obb h
  refine g_callV (As := [.int x1]) C (ct_X4_rulingAt C.wf e4) g2 lk_RX5_81 mi_X4_rulingAt (by decide) cs_0 (by decide) dX5_overrule_5 rfl ?_
  show Go w f 8 [some (rv w r0), some (.int x1), none, none] [rv w y3] M
  refine g_astore_n C dX5_overrule_8 rfl (by decide) rfl (L2 := [some (rv w r0), some (.int x1), some (rv w y3), none]) rfl ?_
  refine g_aload_n C dX5_overrule_9 rfl rfl ?_
  refine g_ifnonnull 15 C dX5_overrule_10 (by decide) (fun c5 => ?_) (fun c5 => ?_)
  · replace h := of_iff h c5
    refine g_aload_n C dX5_overrule_15 rfl rfl ?_
    obtain ⟨g6, h⟩ := of_gdd h
    refine gf_2_5 C fl_RX5_85 g6 dX5_overrule_16 ?_
    refine g_if_eq 25 C dX5_overrule_19 (by decide) (fun c7 => ?_) (fun c7 => ?_)
    · replace h := of_ift h c7
      refine g_aload_n C dX5_overrule_25 rfl rfl ?_
      obtain ⟨M8, e9, h⟩ := of_obb h
      refine g_callV (As := []) C (ct_X5_keepState C.wf e9) g1 lk_RX5_52 mi_X5_keepState (by decide) cs_0 (by decide) dX5_overrule_26 rfl ?_
      show Go w f 29 [some (rv w r0), some (.int x1), some (rv w y3), none] [] M8
      refine g_aload_n C dX5_overrule_29 rfl rfl ?_
      refine gf_5_0 C fl_RX5_10 g1 dX5_overrule_30 ?_
      obtain ⟨y10, e11, h⟩ := of_obb h
      refine g_callV (As := []) C (ct_X4_rulingsInForce C.wf e11) g2 lk_RX5_91 mi_X4_rulingsInForce (by decide) cs_0 (by decide) dX5_overrule_33 rfl ?_
      show Go w f 36 [some (rv w r0), some (.int x1), some (rv w y3), none] [.int y10] M8
      refine g_istore_n C dX5_overrule_36 rfl (by decide) (rv_cat _ _) (L2 := [some (rv w r0), some (.int x1), some (rv w y3), some (.int y10)]) rfl ?_
      refine g_aload_n C dX5_overrule_37 rfl rfl ?_
      refine g_iconst (v := 1) C dX5_overrule_38 rfl ?_
      refine pf_2_5 C fl_RX5_85 g6 (isb_1) dX5_overrule_39 ?_
      obtain ⟨M12, e13, h⟩ := of_bvv h
      refine g_mem e13 ?_
      refine g_aload_n C dX5_overrule_42 rfl rfl ?_
      refine gf_5_0 C fl_RX5_10 g1 dX5_overrule_43 ?_
      obtain ⟨M14, e15, h⟩ := of_obb h
      refine g_callV (As := []) C (ct_X4_findForce C.wf e15) g2 lk_RX5_95 mi_X4_findForce (by decide) cs_0 (by decide) dX5_overrule_46 rfl ?_
      show Go w f 49 [some (rv w r0), some (.int x1), some (rv w y3), some (.int y10)] [] M14
      refine g_iload_n C dX5_overrule_49 rfl rfl ?_
      refine g_aload_n C dX5_overrule_50 rfl rfl ?_
      refine gf_5_0 C fl_RX5_10 g1 dX5_overrule_51 ?_
      obtain ⟨y16, e17, h⟩ := of_obb h
      refine g_callV (As := []) C (ct_X4_rulingsInForce C.wf e17) g2 lk_RX5_91 mi_X4_rulingsInForce (by decide) (cs_i cs_0) (by decide) dX5_overrule_54 rfl ?_
      show Go w f 57 [some (rv w r0), some (.int x1), some (rv w y3), some (.int y10)] [.int y16, .int y10] M14
      refine g_isub C dX5_overrule_57 ?_
      cases h
      exact hR 58 _ ⟨.int, rfl, rfl⟩ dX5_overrule_58
    · replace h := of_iff h c7
      refine g_bipush (v := -2) C dX5_overrule_22 rfl ?_
      cases h
      exact hR 24 _ ⟨.int, rfl, rfl⟩ dX5_overrule_24
  · replace h := of_ift h c5
    refine g_iconst (v := -1) C dX5_overrule_13 rfl ?_
    cases h
    exact hR 14 _ ⟨.int, rfl, rfl⟩ dX5_overrule_14
def f_X1_signAt (r0 : Nat) (x1 : Int32) (M : Mem) : Option Int32 := gdd (kd r0 = 2) <| if (gI M r0 1) ≤ x1 then (some (0 : Int32)) else (obb (f_X5_at (fld r0 0) x1 M) fun y3 => some y3)
set_option maxRecDepth 100000 in
set_option maxHeartbeats 4000000 in
theorem ct_X1_signAt {l : Launch} {w : Om} (hw : Wf w) {r0 : Nat} {x1 : Int32}  {M : Mem} {r : Int32} (h : f_X1_signAt r0 x1 M = some r) : Ct l w yX1_signAt cX1_signAt 2 (some .int) 1 [rv w r0, .int x1] M (some (.int r)) M := by
  refine ct_of hw (by decide) (cat_s (rv_cat _ _) (cat_s rfl cat_0)) (Nat.le_of_ble_eq_true rfl) (fun f _ C hR => ?_)
  show Go w f 0 [some (rv w r0), some (.int x1)] [] M
  unfold f_X1_signAt at h
  refine g_iload_n C dX1_signAt_0 rfl rfl ?_
  refine g_aload_n C dX1_signAt_1 rfl rfl ?_
  obtain ⟨g1, h⟩ := of_gdd h
  refine gf_1_1 C fl_RX1_15 g1 dX1_signAt_2 ?_
  refine g_icmp_ge 19 C dX1_signAt_5 (by decide) (fun c2 => ?_) (fun c2 => ?_)
  · replace h := of_ift h c2
    refine g_iconst (v := 0) C dX1_signAt_19 rfl ?_
    cases h
    exact hR 20 _ ⟨.int, rfl, rfl⟩ dX1_signAt_20
  · replace h := of_iff h c2
    refine g_aload_n C dX1_signAt_8 rfl rfl ?_
    refine gf_1_0 C fl_RX1_9 g1 dX1_signAt_9 ?_
    refine g_iload_n C dX1_signAt_12 rfl rfl ?_
    obtain ⟨y3, e4, h⟩ := of_obb h
    refine g_callSN (As := [rv w (fld r0 0), .int x1]) C (ct_X5_at C.wf e4) ln_RX1_19 mi_X5_at (by decide) cs_0 (by decide) dX1_signAt_13 rfl ?_
    show Go w f 16 [some (rv w r0), some (.int x1)] [.int y3] M
    refine g_goto 20 C dX1_signAt_16 (by decide) ?_
    cases h
    exact hR 20 _ ⟨.int, rfl, rfl⟩ dX1_signAt_20
def f_X1_editionFault_6 (M : Mem) : Nat → Nat → Int32 → Int32 → Int32 → Option Int32
  | 0, _, _, _, _ => none
  | n + 1, r0, x1, x2, x3 => gdd (kd r0 = 2) <| if (gI M r0 1) ≤ x3 then (if x2 = 0 then (some (-1 : Int32)) else (some (gI M r0 1))) else (obb (f_X1_signAt r0 x3 M) fun y204 => if (f_X5_isWithin y204 (97 : Int32) (102 : Int32)) = 0 then (if y204 = (44 : Int32) then (if x2 = 0 then (if x1 < (12 : Int32) then (if y204 = (44 : Int32) then (bvv (x1 + (0 : Int32)) fun y225 => bvv (x3 + (1 : Int32)) fun y227 => (f_X1_editionFault_6 M n) r0 y225 (1 : Int32) y227) else (bvv (x1 + (1 : Int32)) fun y221 => bvv (x3 + (1 : Int32)) fun y223 => (f_X1_editionFault_6 M n) r0 y221 (0 : Int32) y223)) else (some x3)) else (some x3)) else (some x3)) else (if x1 < (12 : Int32) then (if y204 = (44 : Int32) then (bvv (x1 + (0 : Int32)) fun y213 => bvv (x3 + (1 : Int32)) fun y215 => (f_X1_editionFault_6 M n) r0 y213 (1 : Int32) y215) else (bvv (x1 + (1 : Int32)) fun y209 => bvv (x3 + (1 : Int32)) fun y211 => (f_X1_editionFault_6 M n) r0 y209 (0 : Int32) y211)) else (some x3)))
set_option maxRecDepth 100000 in
set_option maxHeartbeats 4000000 in
theorem t_X1_editionFault_6 {w : Om} {f : Fr} {M : Mem} {r : Int32} (C : Cx w f RX1 cX1_editionFault 6 2) (hR : Rt w f cX1_editionFault (some .int) (some (.int r)) M)   : ∀ (n : Nat) (r0 : Nat) (x1 : Int32) (x2 : Int32) (x3 : Int32), f_X1_editionFault_6 M n r0 x1 x2 x3 = some r → Go w f 6 [some (rv w r0), some (.int x1), some (.int x2), some (.int x3), none, none] [] M := by
  intro n
  induction n with
  | zero =>
    intro r0 x1 x2 x3 h
    cases h
  | succ n ih =>
    intro r0 x1 x2 x3 h
    rw [f_X1_editionFault_6] at h
    refine g_iload_n C dX1_editionFault_6 rfl rfl ?_
    refine g_aload_n C dX1_editionFault_7 rfl rfl ?_
    obtain ⟨g201, h⟩ := of_gdd h
    refine gf_1_1 C fl_RX1_15 g201 dX1_editionFault_8 ?_
    refine g_icmp_ge 95 C dX1_editionFault_11 (by decide) (fun c202 => ?_) (fun c202 => ?_)
    · replace h := of_ift h c202
      refine g_iload_n C dX1_editionFault_95 rfl rfl ?_
      refine g_if_eq 106 C dX1_editionFault_96 (by decide) (fun c203 => ?_) (fun c203 => ?_)
      · replace h := of_ift h c203
        refine g_iconst (v := -1) C dX1_editionFault_106 rfl ?_
        cases h
        exact hR 107 _ ⟨.int, rfl, rfl⟩ dX1_editionFault_107
      · replace h := of_iff h c203
        refine g_aload_n C dX1_editionFault_99 rfl rfl ?_
        refine gf_1_1 C fl_RX1_15 g201 dX1_editionFault_100 ?_
        refine g_goto 107 C dX1_editionFault_103 (by decide) ?_
        cases h
        exact hR 107 _ ⟨.int, rfl, rfl⟩ dX1_editionFault_107
    · replace h := of_iff h c202
      refine g_aload_n C dX1_editionFault_14 rfl rfl ?_
      refine g_iload_n C dX1_editionFault_15 rfl rfl ?_
      obtain ⟨y204, e205, h⟩ := of_obb h
      refine g_callV (As := [.int x3]) C (ct_X1_signAt C.wf e205) g201 lk_RX1_23 mi_X1_signAt (by decide) cs_0 (by decide) dX1_editionFault_16 rfl ?_
      show Go w f 19 [some (rv w r0), some (.int x1), some (.int x2), some (.int x3), none, none] [.int y204] M
      refine g_istore C dX1_editionFault_19 (by decide) rfl (L2 := [some (rv w r0), some (.int x1), some (.int x2), some (.int x3), some (.int y204), none]) rfl ?_
      refine g_iload C dX1_editionFault_21 rfl ?_
      refine g_bipush (v := 97) C dX1_editionFault_23 rfl ?_
      refine g_bipush (v := 102) C dX1_editionFault_25 rfl ?_
      refine g_callSN (As := [.int y204, .int (97 : Int32), .int (102 : Int32)]) C (ct_X5_isWithin C.wf rfl) ln_RX1_27 mi_X5_isWithin (by decide) cs_0 (by decide) dX1_editionFault_27 rfl ?_
      show Go w f 30 [some (rv w r0), some (.int x1), some (.int x2), some (.int x3), some (.int y204), none] [.int (f_X5_isWithin y204 (97 : Int32) (102 : Int32))] M
      refine g_if_ne 44 C dX1_editionFault_30 (by decide) (fun c206 => ?_) (fun c206 => ?_)
      · replace h := of_iff h c206
        refine g_iconst (v := 1) C dX1_editionFault_44 rfl ?_
        refine g_goto 49 C dX1_editionFault_45 (by decide) ?_
        refine g_istore C dX1_editionFault_49 (by decide) rfl (L2 := [some (rv w r0), some (.int x1), some (.int x2), some (.int x3), some (.int y204), some (.int (1 : Int32))]) rfl ?_
        refine g_iload C dX1_editionFault_51 rfl ?_
        refine g_if_eq 62 C dX1_editionFault_53 (by decide) (fun c => absurd c (by decide)) (fun _ => ?_)
        refine g_iload_n C dX1_editionFault_56 rfl rfl ?_
        refine g_bipush (v := 12) C dX1_editionFault_57 rfl ?_
        refine g_icmp_lt 64 C dX1_editionFault_59 (by decide) (fun c207 => ?_) (fun c207 => ?_)
        · replace h := of_ift h c207
          refine g_iload C dX1_editionFault_64 rfl ?_
          refine g_bipush (v := 44) C dX1_editionFault_66 rfl ?_
          refine g_icmp_ne 75 C dX1_editionFault_68 (by decide) (fun c208 => ?_) (fun c208 => ?_)
          · replace h := of_iff h c208
            refine g_iconst (v := 0) C dX1_editionFault_75 rfl ?_
            refine g_istore_n C dX1_editionFault_76 rfl (by decide) rfl (L2 := [some (rv w r0), some (.int x1), some (.int (0 : Int32)), some (.int x3), some (.int y204), some (.int (1 : Int32))]) rfl ?_
            refine g_iload_n C dX1_editionFault_77 rfl rfl ?_
            refine g_iload_n C dX1_editionFault_78 rfl rfl ?_
            refine g_if_eq 86 C dX1_editionFault_79 (by decide) (fun _ => ?_) (fun c => absurd c (by decide))
            refine g_iconst (v := 1) C dX1_editionFault_86 rfl ?_
            refine g_iadd C dX1_editionFault_87 ?_
            obtain ⟨y209, e210, h⟩ := of_bvv h
            refine g_topi e210 ?_
            refine g_istore_n C dX1_editionFault_88 rfl (by decide) (rv_cat _ _) (L2 := [some (rv w r0), some (.int y209), some (.int (0 : Int32)), some (.int x3), some (.int y204), some (.int (1 : Int32))]) rfl ?_
            obtain ⟨y211, e212, h⟩ := of_bvv h
            refine g_iinc (v := y211) C dX1_editionFault_89 rfl e212.symm (by decide) rfl (L2 := [some (rv w r0), some (.int y209), some (.int (0 : Int32)), some (.int y211), some (.int y204), some (.int (1 : Int32))]) rfl ?_
            refine g_goto 6 C dX1_editionFault_92 (by decide) ?_
            refine g_mask (bs := [true, true, true, true, false, false]) (L2 := [some (rv w r0), some (.int y209), some (.int (0 : Int32)), some (.int y211), none, none]) rfl ?_
            exact ih r0 y209 (0 : Int32) y211 h
          · replace h := of_ift h c208
            refine g_iconst (v := 1) C dX1_editionFault_71 rfl ?_
            refine g_goto 76 C dX1_editionFault_72 (by decide) ?_
            refine g_istore_n C dX1_editionFault_76 rfl (by decide) rfl (L2 := [some (rv w r0), some (.int x1), some (.int (1 : Int32)), some (.int x3), some (.int y204), some (.int (1 : Int32))]) rfl ?_
            refine g_iload_n C dX1_editionFault_77 rfl rfl ?_
            refine g_iload_n C dX1_editionFault_78 rfl rfl ?_
            refine g_if_eq 86 C dX1_editionFault_79 (by decide) (fun c => absurd c (by decide)) (fun _ => ?_)
            refine g_iconst (v := 0) C dX1_editionFault_82 rfl ?_
            refine g_goto 87 C dX1_editionFault_83 (by decide) ?_
            refine g_iadd C dX1_editionFault_87 ?_
            obtain ⟨y213, e214, h⟩ := of_bvv h
            refine g_topi e214 ?_
            refine g_istore_n C dX1_editionFault_88 rfl (by decide) (rv_cat _ _) (L2 := [some (rv w r0), some (.int y213), some (.int (1 : Int32)), some (.int x3), some (.int y204), some (.int (1 : Int32))]) rfl ?_
            obtain ⟨y215, e216, h⟩ := of_bvv h
            refine g_iinc (v := y215) C dX1_editionFault_89 rfl e216.symm (by decide) rfl (L2 := [some (rv w r0), some (.int y213), some (.int (1 : Int32)), some (.int y215), some (.int y204), some (.int (1 : Int32))]) rfl ?_
            refine g_goto 6 C dX1_editionFault_92 (by decide) ?_
            refine g_mask (bs := [true, true, true, true, false, false]) (L2 := [some (rv w r0), some (.int y213), some (.int (1 : Int32)), some (.int y215), none, none]) rfl ?_
            exact ih r0 y213 (1 : Int32) y215 h
        · replace h := of_iff h c207
          refine g_iload_n C dX1_editionFault_62 rfl rfl ?_
          cases h
          exact hR 63 _ ⟨.int, rfl, rfl⟩ dX1_editionFault_63
      · replace h := of_ift h c206
        refine g_iload C dX1_editionFault_33 rfl ?_
        refine g_bipush (v := 44) C dX1_editionFault_35 rfl ?_
        refine g_icmp_ne 48 C dX1_editionFault_37 (by decide) (fun c217 => ?_) (fun c217 => ?_)
        · replace h := of_iff h c217
          refine g_iconst (v := 0) C dX1_editionFault_48 rfl ?_
          refine g_istore C dX1_editionFault_49 (by decide) rfl (L2 := [some (rv w r0), some (.int x1), some (.int x2), some (.int x3), some (.int y204), some (.int (0 : Int32))]) rfl ?_
          refine g_iload C dX1_editionFault_51 rfl ?_
          refine g_if_eq 62 C dX1_editionFault_53 (by decide) (fun _ => ?_) (fun c => absurd c (by decide))
          refine g_iload_n C dX1_editionFault_62 rfl rfl ?_
          cases h
          exact hR 63 _ ⟨.int, rfl, rfl⟩ dX1_editionFault_63
        · replace h := of_ift h c217
          refine g_iload_n C dX1_editionFault_40 rfl rfl ?_
          refine g_if_ne 48 C dX1_editionFault_41 (by decide) (fun c218 => ?_) (fun c218 => ?_)
          · replace h := of_iff h c218
            refine g_iconst (v := 0) C dX1_editionFault_48 rfl ?_
            refine g_istore C dX1_editionFault_49 (by decide) rfl (L2 := [some (rv w r0), some (.int x1), some (.int x2), some (.int x3), some (.int y204), some (.int (0 : Int32))]) rfl ?_
            refine g_iload C dX1_editionFault_51 rfl ?_
            refine g_if_eq 62 C dX1_editionFault_53 (by decide) (fun _ => ?_) (fun c => absurd c (by decide))
            refine g_iload_n C dX1_editionFault_62 rfl rfl ?_
            cases h
            exact hR 63 _ ⟨.int, rfl, rfl⟩ dX1_editionFault_63
          · replace h := of_ift h c218
            refine g_iconst (v := 1) C dX1_editionFault_44 rfl ?_
            refine g_goto 49 C dX1_editionFault_45 (by decide) ?_
            refine g_istore C dX1_editionFault_49 (by decide) rfl (L2 := [some (rv w r0), some (.int x1), some (.int x2), some (.int x3), some (.int y204), some (.int (1 : Int32))]) rfl ?_
            refine g_iload C dX1_editionFault_51 rfl ?_
            refine g_if_eq 62 C dX1_editionFault_53 (by decide) (fun c => absurd c (by decide)) (fun _ => ?_)
            refine g_iload_n C dX1_editionFault_56 rfl rfl ?_
            refine g_bipush (v := 12) C dX1_editionFault_57 rfl ?_
            refine g_icmp_lt 64 C dX1_editionFault_59 (by decide) (fun c219 => ?_) (fun c219 => ?_)
            · replace h := of_ift h c219
              refine g_iload C dX1_editionFault_64 rfl ?_
              refine g_bipush (v := 44) C dX1_editionFault_66 rfl ?_
              refine g_icmp_ne 75 C dX1_editionFault_68 (by decide) (fun c220 => ?_) (fun c220 => ?_)
              · replace h := of_iff h c220
                refine g_iconst (v := 0) C dX1_editionFault_75 rfl ?_
                refine g_istore_n C dX1_editionFault_76 rfl (by decide) rfl (L2 := [some (rv w r0), some (.int x1), some (.int (0 : Int32)), some (.int x3), some (.int y204), some (.int (1 : Int32))]) rfl ?_
                refine g_iload_n C dX1_editionFault_77 rfl rfl ?_
                refine g_iload_n C dX1_editionFault_78 rfl rfl ?_
                refine g_if_eq 86 C dX1_editionFault_79 (by decide) (fun _ => ?_) (fun c => absurd c (by decide))
                refine g_iconst (v := 1) C dX1_editionFault_86 rfl ?_
                refine g_iadd C dX1_editionFault_87 ?_
                obtain ⟨y221, e222, h⟩ := of_bvv h
                refine g_topi e222 ?_
                refine g_istore_n C dX1_editionFault_88 rfl (by decide) (rv_cat _ _) (L2 := [some (rv w r0), some (.int y221), some (.int (0 : Int32)), some (.int x3), some (.int y204), some (.int (1 : Int32))]) rfl ?_
                obtain ⟨y223, e224, h⟩ := of_bvv h
                refine g_iinc (v := y223) C dX1_editionFault_89 rfl e224.symm (by decide) rfl (L2 := [some (rv w r0), some (.int y221), some (.int (0 : Int32)), some (.int y223), some (.int y204), some (.int (1 : Int32))]) rfl ?_
                refine g_goto 6 C dX1_editionFault_92 (by decide) ?_
                refine g_mask (bs := [true, true, true, true, false, false]) (L2 := [some (rv w r0), some (.int y221), some (.int (0 : Int32)), some (.int y223), none, none]) rfl ?_
                exact ih r0 y221 (0 : Int32) y223 h
              · replace h := of_ift h c220
                refine g_iconst (v := 1) C dX1_editionFault_71 rfl ?_
                refine g_goto 76 C dX1_editionFault_72 (by decide) ?_
                refine g_istore_n C dX1_editionFault_76 rfl (by decide) rfl (L2 := [some (rv w r0), some (.int x1), some (.int (1 : Int32)), some (.int x3), some (.int y204), some (.int (1 : Int32))]) rfl ?_
                refine g_iload_n C dX1_editionFault_77 rfl rfl ?_
                refine g_iload_n C dX1_editionFault_78 rfl rfl ?_
                refine g_if_eq 86 C dX1_editionFault_79 (by decide) (fun c => absurd c (by decide)) (fun _ => ?_)
                refine g_iconst (v := 0) C dX1_editionFault_82 rfl ?_
                refine g_goto 87 C dX1_editionFault_83 (by decide) ?_
                refine g_iadd C dX1_editionFault_87 ?_
                obtain ⟨y225, e226, h⟩ := of_bvv h
                refine g_topi e226 ?_
                refine g_istore_n C dX1_editionFault_88 rfl (by decide) (rv_cat _ _) (L2 := [some (rv w r0), some (.int y225), some (.int (1 : Int32)), some (.int x3), some (.int y204), some (.int (1 : Int32))]) rfl ?_
                obtain ⟨y227, e228, h⟩ := of_bvv h
                refine g_iinc (v := y227) C dX1_editionFault_89 rfl e228.symm (by decide) rfl (L2 := [some (rv w r0), some (.int y225), some (.int (1 : Int32)), some (.int y227), some (.int y204), some (.int (1 : Int32))]) rfl ?_
                refine g_goto 6 C dX1_editionFault_92 (by decide) ?_
                refine g_mask (bs := [true, true, true, true, false, false]) (L2 := [some (rv w r0), some (.int y225), some (.int (1 : Int32)), some (.int y227), none, none]) rfl ?_
                exact ih r0 y225 (1 : Int32) y227 h
            · replace h := of_iff h c219
              refine g_iload_n C dX1_editionFault_62 rfl rfl ?_
              cases h
              exact hR 63 _ ⟨.int, rfl, rfl⟩ dX1_editionFault_63
def f_X1_editionFault (r0 : Nat) (M : Mem) : Option Int32 := f_X1_editionFault_6 M FU r0 (0 : Int32) (1 : Int32) (0 : Int32)
set_option maxRecDepth 100000 in
set_option maxHeartbeats 4000000 in
theorem ct_X1_editionFault {l : Launch} {w : Om} (hw : Wf w) {r0 : Nat}  {M : Mem} {r : Int32} (h : f_X1_editionFault r0 M = some r) : Ct l w yX1_editionFault cX1_editionFault 6 (some .int) 2 [rv w r0] M (some (.int r)) M := by
  refine ct_of hw (by decide) (cat_s (rv_cat _ _) cat_0) (Nat.le_of_ble_eq_true rfl) (fun f _ C hR => ?_)
  show Go w f 0 [some (rv w r0), none, none, none, none, none] [] M
  unfold f_X1_editionFault at h
  refine g_iconst (v := 0) C dX1_editionFault_0 rfl ?_
  refine g_istore_n C dX1_editionFault_1 rfl (by decide) (rv_cat _ _) (L2 := [some (rv w r0), some (.int (0 : Int32)), none, none, none, none]) rfl ?_
  refine g_iconst (v := 1) C dX1_editionFault_2 rfl ?_
  refine g_istore_n C dX1_editionFault_3 rfl (by decide) rfl (L2 := [some (rv w r0), some (.int (0 : Int32)), some (.int (1 : Int32)), none, none, none]) rfl ?_
  refine g_iconst (v := 0) C dX1_editionFault_4 rfl ?_
  refine g_istore_n C dX1_editionFault_5 rfl (by decide) rfl (L2 := [some (rv w r0), some (.int (0 : Int32)), some (.int (1 : Int32)), some (.int (0 : Int32)), none, none]) rfl ?_
  exact t_X1_editionFault_6 C hR _ r0 (0 : Int32) (1 : Int32) (0 : Int32) h
def f_X1_writeTo_12 : Nat → Nat → Nat → Int32 → Mem → Option Mem
  | 0, _, _, _, _ => none
  | n + 1, r0, r1, x2, M => gdd (kd r0 = 2) <| if (gI M r0 1) ≤ x2 then (some M) else (obb (f_X1_signAt r0 x2 M) fun y203 => if y203 = (44 : Int32) then (gdd (kd r1 = 1) <| bvv (sI M r1 2 ((gI M r1 2) ||| ((1 : Int32) <<< (((gI M r1 1) - (1 : Int32)) &&& 31)))) fun M214 => bvv (x2 + (1 : Int32)) fun y216 => (f_X1_writeTo_12 n) r0 r1 y216 M214) else (gdd (kd r1 = 1) <| obb (f_X5_put (fld r1 0) (gI M r1 1) (y203 - (97 : Int32)) M) fun M207 => bvv (sI M207 r1 1 ((gI M207 r1 1) + (1 : Int32))) fun M209 => bvv (x2 + (1 : Int32)) fun y211 => (f_X1_writeTo_12 n) r0 r1 y211 M209))
set_option maxRecDepth 100000 in
set_option maxHeartbeats 4000000 in
theorem t_X1_writeTo_12 {w : Om} {f : Fr} {M2 : Mem} (C : Cx w f RX1 cX1_writeTo 4 2) (hR : Rt w f cX1_writeTo none none M2)   : ∀ (n : Nat) (r0 : Nat) (r1 : Nat) (x2 : Int32) (M : Mem), f_X1_writeTo_12 n r0 r1 x2 M = some M2 → Go w f 12 [some (rv w r0), some (rv w r1), some (.int x2), none] [] M := by
  intro n
  induction n with
  | zero =>
    intro r0 r1 x2 M h
    cases h
  | succ n ih =>
    intro r0 r1 x2 M h
    rw [f_X1_writeTo_12] at h
    refine g_iload_n C dX1_writeTo_12 rfl rfl ?_
    refine g_aload_n C dX1_writeTo_13 rfl rfl ?_
    obtain ⟨g201, h⟩ := of_gdd h
    refine gf_1_1 C fl_RX1_15 g201 dX1_writeTo_14 ?_
    refine g_icmp_ge 83 C dX1_writeTo_17 (by decide) (fun c202 => ?_) (fun c202 => ?_)
    · replace h := of_ift h c202
      cases h
      exact hR 83 _ rfl dX1_writeTo_83
    · replace h := of_iff h c202
      refine g_aload_n C dX1_writeTo_20 rfl rfl ?_
      refine g_iload_n C dX1_writeTo_21 rfl rfl ?_
      obtain ⟨y203, e204, h⟩ := of_obb h
      refine g_callV (As := [.int x2]) C (ct_X1_signAt C.wf e204) g201 lk_RX1_23 mi_X1_signAt (by decide) cs_0 (by decide) dX1_writeTo_22 rfl ?_
      show Go w f 25 [some (rv w r0), some (rv w r1), some (.int x2), none] [.int y203] M
      refine g_istore_n C dX1_writeTo_25 rfl (by decide) rfl (L2 := [some (rv w r0), some (rv w r1), some (.int x2), some (.int y203)]) rfl ?_
      refine g_iload_n C dX1_writeTo_26 rfl rfl ?_
      refine g_bipush (v := 44) C dX1_writeTo_27 rfl ?_
      refine g_icmp_ne 52 C dX1_writeTo_29 (by decide) (fun c205 => ?_) (fun c205 => ?_)
      · replace h := of_iff h c205
        refine g_aload_n C dX1_writeTo_52 rfl rfl ?_
        obtain ⟨g206, h⟩ := of_gdd h
        refine gf_0_0 C fl_RX1_43 g206 dX1_writeTo_53 ?_
        refine g_aload_n C dX1_writeTo_56 rfl rfl ?_
        refine gf_0_1 C fl_RX1_35 g206 dX1_writeTo_57 ?_
        refine g_iload_n C dX1_writeTo_60 rfl rfl ?_
        refine g_bipush (v := 97) C dX1_writeTo_61 rfl ?_
        refine g_isub C dX1_writeTo_63 ?_
        obtain ⟨M207, e208, h⟩ := of_obb h
        refine g_callSN (As := [rv w (fld r1 0), .int (gI M r1 1), .int (y203 - (97 : Int32))]) C (ct_X5_put C.wf e208) ln_RX1_46 mi_X5_put (by decide) cs_0 (by decide) dX1_writeTo_64 rfl ?_
        show Go w f 67 [some (rv w r0), some (rv w r1), some (.int x2), some (.int y203)] [] M207
        refine g_aload_n C dX1_writeTo_67 rfl rfl ?_
        refine g_dup C (rv_cat _ _) dX1_writeTo_68 ?_
        refine gf_0_1 C fl_RX1_35 g206 dX1_writeTo_69 ?_
        refine g_iconst (v := 1) C dX1_writeTo_72 rfl ?_
        refine g_iadd C dX1_writeTo_73 ?_
        refine pf_0_1 C fl_RX1_35 g206 dX1_writeTo_74 ?_
        obtain ⟨M209, e210, h⟩ := of_bvv h
        refine g_mem e210 ?_
        obtain ⟨y211, e212, h⟩ := of_bvv h
        refine g_iinc (v := y211) C dX1_writeTo_77 rfl e212.symm (by decide) (rv_cat _ _) (L2 := [some (rv w r0), some (rv w r1), some (.int y211), some (.int y203)]) rfl ?_
        refine g_goto 12 C dX1_writeTo_80 (by decide) ?_
        refine g_mask (bs := [true, true, true, false]) (L2 := [some (rv w r0), some (rv w r1), some (.int y211), none]) rfl ?_
        exact ih r0 r1 y211 M209 h
      · replace h := of_ift h c205
        refine g_aload_n C dX1_writeTo_32 rfl rfl ?_
        refine g_dup C (rv_cat _ _) dX1_writeTo_33 ?_
        obtain ⟨g213, h⟩ := of_gdd h
        refine gf_0_2 C fl_RX1_40 g213 dX1_writeTo_34 ?_
        refine g_iconst (v := 1) C dX1_writeTo_37 rfl ?_
        refine g_aload_n C dX1_writeTo_38 rfl rfl ?_
        refine gf_0_1 C fl_RX1_35 g213 dX1_writeTo_39 ?_
        refine g_iconst (v := 1) C dX1_writeTo_42 rfl ?_
        refine g_isub C dX1_writeTo_43 ?_
        refine g_ishl C dX1_writeTo_44 ?_
        refine g_ior C dX1_writeTo_45 ?_
        refine pf_0_2 C fl_RX1_40 g213 dX1_writeTo_46 ?_
        obtain ⟨M214, e215, h⟩ := of_bvv h
        refine g_mem e215 ?_
        refine g_goto 77 C dX1_writeTo_49 (by decide) ?_
        obtain ⟨y216, e217, h⟩ := of_bvv h
        refine g_iinc (v := y216) C dX1_writeTo_77 rfl e217.symm (by decide) (rv_cat _ _) (L2 := [some (rv w r0), some (rv w r1), some (.int y216), some (.int y203)]) rfl ?_
        refine g_goto 12 C dX1_writeTo_80 (by decide) ?_
        refine g_mask (bs := [true, true, true, false]) (L2 := [some (rv w r0), some (rv w r1), some (.int y216), none]) rfl ?_
        exact ih r0 r1 y216 M214 h
def f_X1_writeTo (r0 : Nat) (r1 : Nat) (M : Mem) : Option Mem := gdd (kd r1 = 1) <| bvv (sI M r1 1 (0 : Int32)) fun M2 => bvv (sI M2 r1 2 (0 : Int32)) fun M4 => f_X1_writeTo_12 FU r0 r1 (0 : Int32) M4
set_option maxRecDepth 100000 in
set_option maxHeartbeats 4000000 in
theorem ct_X1_writeTo {l : Launch} {w : Om} (hw : Wf w) {r0 : Nat} {r1 : Nat} {M : Mem} {M2 : Mem} (h : f_X1_writeTo r0 r1 M = some M2) : Ct l w yX1_writeTo cX1_writeTo 4 none 2 [rv w r0, rv w r1] M none M2 := by
  refine ct_of hw (by decide) (cat_s (rv_cat _ _) (cat_s (rv_cat _ _) cat_0)) (Nat.le_of_ble_eq_true rfl) (fun f _ C hR => ?_)
  show Go w f 0 [some (rv w r0), some (rv w r1), none, none] [] M
  unfold f_X1_writeTo at h
  refine g_aload_n C dX1_writeTo_0 rfl rfl ?_
  refine g_iconst (v := 0) C dX1_writeTo_1 rfl ?_
  obtain ⟨g1, h⟩ := of_gdd h
  refine pf_0_1 C fl_RX1_35 g1 dX1_writeTo_2 ?_
  obtain ⟨M2, e3, h⟩ := of_bvv h
  refine g_mem e3 ?_
  refine g_aload_n C dX1_writeTo_5 rfl rfl ?_
  refine g_iconst (v := 0) C dX1_writeTo_6 rfl ?_
  refine pf_0_2 C fl_RX1_40 g1 dX1_writeTo_7 ?_
  obtain ⟨M4, e5, h⟩ := of_bvv h
  refine g_mem e5 ?_
  refine g_iconst (v := 0) C dX1_writeTo_10 rfl ?_
  refine g_istore_n C dX1_writeTo_11 rfl (by decide) (rv_cat _ _) (L2 := [some (rv w r0), some (rv w r1), some (.int (0 : Int32)), none]) rfl ?_
  exact t_X1_writeTo_12 C hR _ r0 r1 (0 : Int32) M4 h
def f_X0_kindAt (r0 : Nat) (x1 : Int32) (M : Mem) : Option Int32 := if x1 < 0 then (some (0 : Int32)) else (gdd (kd r0 = 1) <| gdd (kd (fld r0 0) = 8) <| if (nI (ln (fld r0 0))) ≤ x1 then (some (0 : Int32)) else (gdd (inb x1 (ln (fld r0 0)) = true) <| some (gI M (fld r0 0) (x1).toNatClampNeg)))
set_option maxRecDepth 100000 in
set_option maxHeartbeats 4000000 in
theorem ct_X0_kindAt {l : Launch} {w : Om} (hw : Wf w) {r0 : Nat} {x1 : Int32}  {M : Mem} {r : Int32} (h : f_X0_kindAt r0 x1 M = some r) : Ct l w yX0_kindAt cX0_kindAt 2 (some .int) 0 [rv w r0, .int x1] M (some (.int r)) M := by
  refine ct_of hw (by decide) (cat_s (rv_cat _ _) (cat_s rfl cat_0)) (Nat.le_of_ble_eq_true rfl) (fun f _ C hR => ?_)
  show Go w f 0 [some (rv w r0), some (.int x1)] [] M
  unfold f_X0_kindAt at h
  refine g_iload_n C dX0_kindAt_0 rfl rfl ?_
  refine g_if_lt 22 C dX0_kindAt_1 (by decide) (fun c1 => ?_) (fun c1 => ?_)
  · replace h := of_ift h c1
    refine g_iconst (v := 0) C dX0_kindAt_22 rfl ?_
    cases h
    exact hR 23 _ ⟨.int, rfl, rfl⟩ dX0_kindAt_23
  · replace h := of_iff h c1
    refine g_iload_n C dX0_kindAt_4 rfl rfl ?_
    refine g_aload_n C dX0_kindAt_5 rfl rfl ?_
    obtain ⟨g2, h⟩ := of_gdd h
    refine gf_0_0 C fl_RX0_9 g2 dX0_kindAt_6 ?_
    obtain ⟨g3, h⟩ := of_gdd h
    refine g_alen C (Or.inl g3) dX0_kindAt_9 ?_
    refine g_icmp_ge 22 C dX0_kindAt_10 (by decide) (fun c4 => ?_) (fun c4 => ?_)
    · replace h := of_ift h c4
      refine g_iconst (v := 0) C dX0_kindAt_22 rfl ?_
      cases h
      exact hR 23 _ ⟨.int, rfl, rfl⟩ dX0_kindAt_23
    · replace h := of_iff h c4
      refine g_aload_n C dX0_kindAt_13 rfl rfl ?_
      refine gf_0_0 C fl_RX0_9 g2 dX0_kindAt_14 ?_
      refine g_iload_n C dX0_kindAt_17 rfl rfl ?_
      obtain ⟨g5, h⟩ := of_gdd h
      refine g_iald C g3 g5 dX0_kindAt_18 ?_
      refine g_goto 23 C dX0_kindAt_19 (by decide) ?_
      cases h
      exact hR 23 _ ⟨.int, rfl, rfl⟩ dX0_kindAt_23
def f_X0_hasWordsOf_15 (M : Mem) : Nat → Nat → Nat → Int32 → Option Int32
  | 0, _, _, _ => none
  | n + 1, r0, r1, x2 => gdd (kd r0 = 1) <| if (gI M r0 1) ≤ x2 then (some (1 : Int32)) else (obb (f_X0_kindAt r0 x2 M) fun y203 => gdd (kd r1 = 1) <| obb (f_X0_kindAt r1 x2 M) fun y206 => if y203 = y206 then (bvv (x2 + (1 : Int32)) fun y209 => (f_X0_hasWordsOf_15 M n) r0 r1 y209) else (some (0 : Int32)))
set_option maxRecDepth 100000 in
set_option maxHeartbeats 4000000 in
theorem t_X0_hasWordsOf_15 {w : Om} {f : Fr} {M : Mem} {r : Int32} (C : Cx w f RX0 cX0_hasWordsOf 3 1) (hR : Rt w f cX0_hasWordsOf (some .boolean) (some (.int r)) M)   : ∀ (n : Nat) (r0 : Nat) (r1 : Nat) (x2 : Int32), f_X0_hasWordsOf_15 M n r0 r1 x2 = some r → Go w f 15 [some (rv w r0), some (rv w r1), some (.int x2)] [] M := by
  intro n
  induction n with
  | zero =>
    intro r0 r1 x2 h
    cases h
  | succ n ih =>
    intro r0 r1 x2 h
    rw [f_X0_hasWordsOf_15] at h
    refine g_iload_n C dX0_hasWordsOf_15 rfl rfl ?_
    refine g_aload_n C dX0_hasWordsOf_16 rfl rfl ?_
    obtain ⟨g201, h⟩ := of_gdd h
    refine gf_0_1 C fl_RX0_23 g201 dX0_hasWordsOf_17 ?_
    refine g_icmp_ge 44 C dX0_hasWordsOf_20 (by decide) (fun c202 => ?_) (fun c202 => ?_)
    · replace h := of_ift h c202
      refine g_iconst (v := 1) C dX0_hasWordsOf_44 rfl ?_
      cases h
      exact hR 45 _ ⟨.boolean, rfl, rfl⟩ dX0_hasWordsOf_45
    · replace h := of_iff h c202
      refine g_aload_n C dX0_hasWordsOf_23 rfl rfl ?_
      refine g_iload_n C dX0_hasWordsOf_24 rfl rfl ?_
      obtain ⟨y203, e204, h⟩ := of_obb h
      refine g_callV (As := [.int x2]) C (ct_X0_kindAt C.wf e204) g201 lk_RX0_42 mi_X0_kindAt (by decide) cs_0 (by decide) dX0_hasWordsOf_25 rfl ?_
      show Go w f 28 [some (rv w r0), some (rv w r1), some (.int x2)] [.int y203] M
      refine g_aload_n C dX0_hasWordsOf_28 rfl rfl ?_
      refine g_iload_n C dX0_hasWordsOf_29 rfl rfl ?_
      obtain ⟨g205, h⟩ := of_gdd h
      obtain ⟨y206, e207, h⟩ := of_obb h
      refine g_callV (As := [.int x2]) C (ct_X0_kindAt C.wf e207) g205 lk_RX0_42 mi_X0_kindAt (by decide) (cs_i cs_0) (by decide) dX0_hasWordsOf_30 rfl ?_
      show Go w f 33 [some (rv w r0), some (rv w r1), some (.int x2)] [.int y206, .int y203] M
      refine g_icmp_eq 38 C dX0_hasWordsOf_33 (by decide) (fun c208 => ?_) (fun c208 => ?_)
      · replace h := of_ift h c208
        obtain ⟨y209, e210, h⟩ := of_bvv h
        refine g_iinc (v := y209) C dX0_hasWordsOf_38 rfl e210.symm (by decide) (rv_cat _ _) (L2 := [some (rv w r0), some (rv w r1), some (.int y209)]) rfl ?_
        refine g_goto 15 C dX0_hasWordsOf_41 (by decide) ?_
        exact ih r0 r1 y209 h
      · replace h := of_iff h c208
        refine g_iconst (v := 0) C dX0_hasWordsOf_36 rfl ?_
        cases h
        exact hR 37 _ ⟨.boolean, rfl, rfl⟩ dX0_hasWordsOf_37
def f_X0_hasWordsOf (r0 : Nat) (r1 : Nat) (M : Mem) : Option Int32 := gdd (kd r0 = 1) <| gdd (kd r1 = 1) <| if (gI M r0 1) = (gI M r1 1) then (f_X0_hasWordsOf_15 M FU r0 r1 (0 : Int32)) else (some (0 : Int32))
set_option maxRecDepth 100000 in
set_option maxHeartbeats 4000000 in
theorem ct_X0_hasWordsOf {l : Launch} {w : Om} (hw : Wf w) {r0 : Nat} {r1 : Nat}  {M : Mem} {r : Int32} (h : f_X0_hasWordsOf r0 r1 M = some r) : Ct l w yX0_hasWordsOf cX0_hasWordsOf 3 (some .boolean) 1 [rv w r0, rv w r1] M (some (.int r)) M := by
  refine ct_of hw (by decide) (cat_s (rv_cat _ _) (cat_s (rv_cat _ _) cat_0)) (Nat.le_of_ble_eq_true rfl) (fun f _ C hR => ?_)
  show Go w f 0 [some (rv w r0), some (rv w r1), none] [] M
  unfold f_X0_hasWordsOf at h
  refine g_aload_n C dX0_hasWordsOf_0 rfl rfl ?_
  obtain ⟨g1, h⟩ := of_gdd h
  refine gf_0_1 C fl_RX0_23 g1 dX0_hasWordsOf_1 ?_
  refine g_aload_n C dX0_hasWordsOf_4 rfl rfl ?_
  obtain ⟨g2, h⟩ := of_gdd h
  refine gf_0_1 C fl_RX0_23 g2 dX0_hasWordsOf_5 ?_
  refine g_icmp_eq 13 C dX0_hasWordsOf_8 (by decide) (fun c3 => ?_) (fun c3 => ?_)
  · replace h := of_ift h c3
    refine g_iconst (v := 0) C dX0_hasWordsOf_13 rfl ?_
    refine g_istore_n C dX0_hasWordsOf_14 rfl (by decide) (rv_cat _ _) (L2 := [some (rv w r0), some (rv w r1), some (.int (0 : Int32))]) rfl ?_
    exact t_X0_hasWordsOf_15 C hR _ r0 r1 (0 : Int32) h
  · replace h := of_iff h c3
    refine g_iconst (v := 0) C dX0_hasWordsOf_11 rfl ?_
    cases h
    exact hR 12 _ ⟨.boolean, rfl, rfl⟩ dX0_hasWordsOf_12
def f_X4_hasEditionLike_2 (M : Mem) : Nat → Nat → Nat → Int32 → Int32 → Option Int32
  | 0, _, _, _, _ => none
  | n + 1, r0, r1, x2, x3 => gdd (kd r0 = 5) <| if (gI M r0 4) ≤ x3 then (some (0 : Int32)) else (obb (f_X4_editionAt r0 x3 M) fun y203 => if y203 = 0 then (bvv (x3 + (1 : Int32)) fun y206 => (f_X4_hasEditionLike_2 M n) r0 r1 x2 y206) else (gdd (kd y203 = 1) <| if (gI M y203 2) = x2 then (obb (f_X0_hasWordsOf y203 r1 M) fun y212 => if y212 = 0 then (bvv (x3 + (1 : Int32)) fun y215 => (f_X4_hasEditionLike_2 M n) r0 r1 x2 y215) else (some (1 : Int32))) else (bvv (x3 + (1 : Int32)) fun y210 => (f_X4_hasEditionLike_2 M n) r0 r1 x2 y210)))
set_option maxRecDepth 100000 in
set_option maxHeartbeats 4000000 in
theorem t_X4_hasEditionLike_2 {w : Om} {f : Fr} {M : Mem} {r : Int32} (C : Cx w f RX4 cX4_hasEditionLike 5 2) (hR : Rt w f cX4_hasEditionLike (some .boolean) (some (.int r)) M)   : ∀ (n : Nat) (r0 : Nat) (r1 : Nat) (x2 : Int32) (x3 : Int32), f_X4_hasEditionLike_2 M n r0 r1 x2 x3 = some r → Go w f 2 [some (rv w r0), some (rv w r1), some (.int x2), some (.int x3), none] [] M := by
  intro n
  induction n with
  | zero =>
    intro r0 r1 x2 x3 h
    cases h
  | succ n ih =>
    intro r0 r1 x2 x3 h
    rw [f_X4_hasEditionLike_2] at h
    refine g_iload_n C dX4_hasEditionLike_2 rfl rfl ?_
    refine g_aload_n C dX4_hasEditionLike_3 rfl rfl ?_
    obtain ⟨g201, h⟩ := of_gdd h
    refine gf_4_4 C fl_RX4_40 g201 dX4_hasEditionLike_4 ?_
    refine g_icmp_ge 48 C dX4_hasEditionLike_7 (by decide) (fun c202 => ?_) (fun c202 => ?_)
    · replace h := of_ift h c202
      refine g_iconst (v := 0) C dX4_hasEditionLike_48 rfl ?_
      cases h
      exact hR 49 _ ⟨.boolean, rfl, rfl⟩ dX4_hasEditionLike_49
    · replace h := of_iff h c202
      refine g_aload_n C dX4_hasEditionLike_10 rfl rfl ?_
      refine g_iload_n C dX4_hasEditionLike_11 rfl rfl ?_
      obtain ⟨y203, e204, h⟩ := of_obb h
      refine g_callV (As := [.int x3]) C (ct_X4_editionAt C.wf e204) g201 lk_RX4_47 mi_X4_editionAt (by decide) cs_0 (by decide) dX4_hasEditionLike_12 rfl ?_
      show Go w f 15 [some (rv w r0), some (rv w r1), some (.int x2), some (.int x3), none] [rv w y203] M
      refine g_astore C dX4_hasEditionLike_15 (by decide) rfl (L2 := [some (rv w r0), some (rv w r1), some (.int x2), some (.int x3), some (rv w y203)]) rfl ?_
      refine g_aload C dX4_hasEditionLike_17 rfl ?_
      refine g_ifnull 42 C dX4_hasEditionLike_19 (by decide) (fun c205 => ?_) (fun c205 => ?_)
      · replace h := of_ift h c205
        obtain ⟨y206, e207, h⟩ := of_bvv h
        refine g_iinc (v := y206) C dX4_hasEditionLike_42 rfl e207.symm (by decide) rfl (L2 := [some (rv w r0), some (rv w r1), some (.int x2), some (.int y206), some (rv w y203)]) rfl ?_
        refine g_goto 2 C dX4_hasEditionLike_45 (by decide) ?_
        refine g_mask (bs := [true, true, true, true, false]) (L2 := [some (rv w r0), some (rv w r1), some (.int x2), some (.int y206), none]) rfl ?_
        exact ih r0 r1 x2 y206 h
      · replace h := of_iff h c205
        refine g_aload C dX4_hasEditionLike_22 rfl ?_
        obtain ⟨g208, h⟩ := of_gdd h
        refine gf_0_2 C fl_RX4_75 g208 dX4_hasEditionLike_24 ?_
        refine g_iload_n C dX4_hasEditionLike_27 rfl rfl ?_
        refine g_icmp_ne 42 C dX4_hasEditionLike_28 (by decide) (fun c209 => ?_) (fun c209 => ?_)
        · replace h := of_iff h c209
          obtain ⟨y210, e211, h⟩ := of_bvv h
          refine g_iinc (v := y210) C dX4_hasEditionLike_42 rfl e211.symm (by decide) rfl (L2 := [some (rv w r0), some (rv w r1), some (.int x2), some (.int y210), some (rv w y203)]) rfl ?_
          refine g_goto 2 C dX4_hasEditionLike_45 (by decide) ?_
          refine g_mask (bs := [true, true, true, true, false]) (L2 := [some (rv w r0), some (rv w r1), some (.int x2), some (.int y210), none]) rfl ?_
          exact ih r0 r1 x2 y210 h
        · replace h := of_ift h c209
          refine g_aload C dX4_hasEditionLike_31 rfl ?_
          refine g_aload_n C dX4_hasEditionLike_33 rfl rfl ?_
          obtain ⟨y212, e213, h⟩ := of_obb h
          refine g_callV (As := [rv w r1]) C (ct_X0_hasWordsOf C.wf e213) g208 lk_RX4_78 mi_X0_hasWordsOf (by decide) cs_0 (by decide) dX4_hasEditionLike_34 rfl ?_
          show Go w f 37 [some (rv w r0), some (rv w r1), some (.int x2), some (.int x3), some (rv w y203)] [.int y212] M
          refine g_if_eq 42 C dX4_hasEditionLike_37 (by decide) (fun c214 => ?_) (fun c214 => ?_)
          · replace h := of_ift h c214
            obtain ⟨y215, e216, h⟩ := of_bvv h
            refine g_iinc (v := y215) C dX4_hasEditionLike_42 rfl e216.symm (by decide) rfl (L2 := [some (rv w r0), some (rv w r1), some (.int x2), some (.int y215), some (rv w y203)]) rfl ?_
            refine g_goto 2 C dX4_hasEditionLike_45 (by decide) ?_
            refine g_mask (bs := [true, true, true, true, false]) (L2 := [some (rv w r0), some (rv w r1), some (.int x2), some (.int y215), none]) rfl ?_
            exact ih r0 r1 x2 y215 h
          · replace h := of_iff h c214
            refine g_iconst (v := 1) C dX4_hasEditionLike_40 rfl ?_
            cases h
            exact hR 41 _ ⟨.boolean, rfl, rfl⟩ dX4_hasEditionLike_41
def f_X4_hasEditionLike (r0 : Nat) (r1 : Nat) (x2 : Int32) (M : Mem) : Option Int32 := f_X4_hasEditionLike_2 M FU r0 r1 x2 (0 : Int32)
set_option maxRecDepth 100000 in
set_option maxHeartbeats 4000000 in
theorem ct_X4_hasEditionLike {l : Launch} {w : Om} (hw : Wf w) {r0 : Nat} {r1 : Nat} {x2 : Int32}  {M : Mem} {r : Int32} (h : f_X4_hasEditionLike r0 r1 x2 M = some r) : Ct l w yX4_hasEditionLike cX4_hasEditionLike 5 (some .boolean) 2 [rv w r0, rv w r1, .int x2] M (some (.int r)) M := by
  refine ct_of hw (by decide) (cat_s (rv_cat _ _) (cat_s (rv_cat _ _) (cat_s rfl cat_0))) (Nat.le_of_ble_eq_true rfl) (fun f _ C hR => ?_)
  show Go w f 0 [some (rv w r0), some (rv w r1), some (.int x2), none, none] [] M
  unfold f_X4_hasEditionLike at h
  refine g_iconst (v := 0) C dX4_hasEditionLike_0 rfl ?_
  refine g_istore_n C dX4_hasEditionLike_1 rfl (by decide) rfl (L2 := [some (rv w r0), some (rv w r1), some (.int x2), some (.int (0 : Int32)), none]) rfl ?_
  exact t_X4_hasEditionLike_2 C hR _ r0 r1 x2 (0 : Int32) h
