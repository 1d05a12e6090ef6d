def f_X6_citing_4 (M : Mem) : Nat → Nat → Int32 → Int32 → Int32 → Option Int32
  | 0, _, _, _, _ => none
  | n + 1, r0, x1, x2, x3 => gdd (kd r0 = 7) <| gdd (kd (fld r0 0) = 8) <| gdd (inb (4 : Int32) (ln (fld r0 0)) = true) <| if (gI M (fld r0 0) ((4 : Int32)).toNatClampNeg) ≤ x3 then (some x2) else (obb (f_X6_ofRuling r0 x3 (4 : Int32) M) fun y205 => if y205 = (x1 + (1 : Int32)) then (bvv (x2 + (1 : Int32)) fun y212 => bvv (x3 + (1 : Int32)) fun y214 => (f_X6_citing_4 M n) r0 x1 y212 y214) else (bvv (x2 + (0 : Int32)) fun y208 => bvv (x3 + (1 : Int32)) fun y210 => (f_X6_citing_4 M n) r0 x1 y208 y210))
set_option maxRecDepth 100000 in
set_option maxHeartbeats 4000000 in
theorem t_X6_citing_4 {w : Om} {f : Fr} {M : Mem} {r : Int32} (C : Cx w f RX6 cX6_citing 4 1) (hR : Rt w f cX6_citing (some .int) (some (.int r)) M)   : ∀ (n : Nat) (r0 : Nat) (x1 : Int32) (x2 : Int32) (x3 : Int32), f_X6_citing_4 M n r0 x1 x2 x3 = some r → Go w f 4 [some (rv w r0), some (.int x1), some (.int x2), some (.int x3)] [] M := by
  intro n
  induction n with
  | zero =>
    intro r0 x1 x2 x3 h
    cases h
  | succ n ih =>
    intro r0 x1 x2 x3 h
    rw [f_X6_citing_4] at h
    refine g_iload_n C dX6_citing_4 rfl rfl ?_
    refine g_aload_n C dX6_citing_5 rfl rfl ?_
    obtain ⟨g201, h⟩ := of_gdd h
    refine gf_6_0 C fl_RX6_7 g201 dX6_citing_6 ?_
    refine g_iconst (v := 4) C dX6_citing_9 rfl ?_
    obtain ⟨g202, h⟩ := of_gdd h
    obtain ⟨g203, h⟩ := of_gdd h
    refine g_iald C g202 g203 dX6_citing_10 ?_
    refine g_icmp_ge 40 C dX6_citing_11 (by decide) (fun c204 => ?_) (fun c204 => ?_)
    · replace h := of_ift h c204
      refine g_iload_n C dX6_citing_40 rfl rfl ?_
      cases h
      exact hR 41 _ ⟨.int, rfl, rfl⟩ dX6_citing_41
    · replace h := of_iff h c204
      refine g_iload_n C dX6_citing_14 rfl rfl ?_
      refine g_aload_n C dX6_citing_15 rfl rfl ?_
      refine g_iload_n C dX6_citing_16 rfl rfl ?_
      refine g_iconst (v := 4) C dX6_citing_17 rfl ?_
      obtain ⟨y205, e206, h⟩ := of_obb h
      refine g_callV (As := [.int x3, .int (4 : Int32)]) C (ct_X6_ofRuling C.wf e206) g201 lk_RX6_46 mi_X6_ofRuling (by decide) (cs_i cs_0) (by decide) dX6_citing_18 rfl ?_
      show Go w f 21 [some (rv w r0), some (.int x1), some (.int x2), some (.int x3)] [.int y205, .int x2] M
      refine g_iload_n C dX6_citing_21 rfl rfl ?_
      refine g_iconst (v := 1) C dX6_citing_22 rfl ?_
      refine g_iadd C dX6_citing_23 ?_
      refine g_icmp_ne 31 C dX6_citing_24 (by decide) (fun c207 => ?_) (fun c207 => ?_)
      · replace h := of_iff h c207
        refine g_iconst (v := 0) C dX6_citing_31 rfl ?_
        refine g_iadd C dX6_citing_32 ?_
        obtain ⟨y208, e209, h⟩ := of_bvv h
        refine g_topi e209 ?_
        refine g_istore_n C dX6_citing_33 rfl (by decide) rfl (L2 := [some (rv w r0), some (.int x1), some (.int y208), some (.int x3)]) rfl ?_
        obtain ⟨y210, e211, h⟩ := of_bvv h
        refine g_iinc (v := y210) C dX6_citing_34 rfl e211.symm (by decide) rfl (L2 := [some (rv w r0), some (.int x1), some (.int y208), some (.int y210)]) rfl ?_
        refine g_goto 4 C dX6_citing_37 (by decide) ?_
        exact ih r0 x1 y208 y210 h
      · replace h := of_ift h c207
        refine g_iconst (v := 1) C dX6_citing_27 rfl ?_
        refine g_goto 32 C dX6_citing_28 (by decide) ?_
        refine g_iadd C dX6_citing_32 ?_
        obtain ⟨y212, e213, h⟩ := of_bvv h
        refine g_topi e213 ?_
        refine g_istore_n C dX6_citing_33 rfl (by decide) rfl (L2 := [some (rv w r0), some (.int x1), some (.int y212), some (.int x3)]) rfl ?_
        obtain ⟨y214, e215, h⟩ := of_bvv h
        refine g_iinc (v := y214) C dX6_citing_34 rfl e215.symm (by decide) rfl (L2 := [some (rv w r0), some (.int x1), some (.int y212), some (.int y214)]) rfl ?_
        refine g_goto 4 C dX6_citing_37 (by decide) ?_
        exact ih r0 x1 y212 y214 h
def f_X6_citing (r0 : Nat) (x1 : Int32) (M : Mem) : Option Int32 := f_X6_citing_4 M FU r0 x1 (0 : Int32) (0 : Int32)
set_option maxRecDepth 100000 in
set_option maxHeartbeats 4000000 in
theorem ct_X6_citing {l : Launch} {w : Om} (hw : Wf w) {r0 : Nat} {x1 : Int32}  {M : Mem} {r : Int32} (h : f_X6_citing r0 x1 M = some r) : Ct l w yX6_citing cX6_citing 4 (some .int) 1 [rv w r0, .int x1] M (some (.int r)) M := by
  refine ct_of hw (by decide) (cat_s (rv_cat _ _) (cat_s rfl cat_0)) (Nat.le_of_ble_eq_true rfl) (fun f _ C hR => ?_)
  show Go w f 0 [some (rv w r0), some (.int x1), none, none] [] M
  unfold f_X6_citing at h
  refine g_iconst (v := 0) C dX6_citing_0 rfl ?_
  refine g_istore_n C dX6_citing_1 rfl (by decide) rfl (L2 := [some (rv w r0), some (.int x1), some (.int (0 : Int32)), none]) rfl ?_
  refine g_iconst (v := 0) C dX6_citing_2 rfl ?_
  refine g_istore_n C dX6_citing_3 rfl (by decide) rfl (L2 := [some (rv w r0), some (.int x1), some (.int (0 : Int32)), some (.int (0 : Int32))]) rfl ?_
  exact t_X6_citing_4 C hR _ r0 x1 (0 : Int32) (0 : Int32) h
def f_X6_finesBy_17 (M : Mem) (k4 : Nat → Int32 → Int32 → Int32 → Option Int32) : Nat → Nat → Int32 → Int32 → Int32 → Int32 → Option Int32
  | 0, _, _, _, _, _ => none
  | n + 1, r0, x1, x2, x3, x4 => gdd (kd r0 = 7) <| obb (f_X6_of r0 x3 (0 : Int32) M) fun y302 => if y302 ≤ (x4 + (1 : Int32)) then (bvv (x3 + (1 : Int32)) fun y305 => k4 r0 x1 x2 y305) else (obb (f_X6_rulingOf r0 x3 x4 M) fun y307 => if y307 = x1 then (obb (f_X6_of r0 x3 (1 : Int32) M) fun y314 => obb (f_X6_fineOf r0 x3 x4 y314 M) fun y316 => bvv (x2 + y316) fun y318 => bvv (x4 + (1 : Int32)) fun y320 => (f_X6_finesBy_17 M k4 n) r0 x1 y318 x3 y320) else (bvv (x2 + (0 : Int32)) fun y310 => bvv (x4 + (1 : Int32)) fun y312 => (f_X6_finesBy_17 M k4 n) r0 x1 y310 x3 y312))
set_option maxRecDepth 100000 in
set_option maxHeartbeats 4000000 in
theorem t_X6_finesBy_17 {w : Om} {f : Fr} {M : Mem} {r : Int32} (C : Cx w f RX6 cX6_finesBy 5 5) (hR : Rt w f cX6_finesBy (some .int) (some (.int r)) M) {k4 : Nat → Int32 → Int32 → Int32 → Option Int32} (hk4 : ∀ (r0' : Nat) (x1' : Int32) (x2' : Int32) (x3' : Int32), k4 r0' x1' x2' x3' = some r → Go w f 4 [some (rv w r0'), some (.int x1'), some (.int x2'), some (.int x3'), none] [] M) : ∀ (n : Nat) (r0 : Nat) (x1 : Int32) (x2 : Int32) (x3 : Int32) (x4 : Int32), f_X6_finesBy_17 M k4 n r0 x1 x2 x3 x4 = some r → Go w f 17 [some (rv w r0), some (.int x1), some (.int x2), some (.int x3), some (.int x4)] [] M := by
  intro n
  induction n with
  | zero =>
    intro r0 x1 x2 x3 x4 h
    cases h
  | succ n ih =>
    intro r0 x1 x2 x3 x4 h
    rw [f_X6_finesBy_17] at h
    refine g_iload C dX6_finesBy_17 rfl ?_
    refine g_iconst (v := 1) C dX6_finesBy_19 rfl ?_
    refine g_iadd C dX6_finesBy_20 ?_
    refine g_aload_n C dX6_finesBy_21 rfl rfl ?_
    refine g_iload_n C dX6_finesBy_22 rfl rfl ?_
    refine g_iconst (v := 0) C dX6_finesBy_23 rfl ?_
    obtain ⟨g301, h⟩ := of_gdd h
    obtain ⟨y302, e303, h⟩ := of_obb h
    refine g_callV (As := [.int x3, .int (0 : Int32)]) C (ct_X6_of C.wf e303) g301 lk_RX6_60 mi_X6_of (by decide) (cs_i cs_0) (by decide) dX6_finesBy_24 rfl ?_
    show Go w f 27 [some (rv w r0), some (.int x1), some (.int x2), some (.int x3), some (.int x4)] [.int y302, .int (x4 + (1 : Int32))] M
    refine g_icmp_ge 67 C dX6_finesBy_27 (by decide) (fun c304 => ?_) (fun c304 => ?_)
    · replace h := of_ift h c304
      obtain ⟨y305, e306, h⟩ := of_bvv h
      refine g_iinc (v := y305) C dX6_finesBy_67 rfl e306.symm (by decide) rfl (L2 := [some (rv w r0), some (.int x1), some (.int x2), some (.int y305), some (.int x4)]) rfl ?_
      refine g_goto 4 C dX6_finesBy_70 (by decide) ?_
      refine g_mask (bs := [true, true, true, true, false]) (L2 := [some (rv w r0), some (.int x1), some (.int x2), some (.int y305), none]) rfl ?_
      exact hk4 r0 x1 x2 y305 h
    · replace h := of_iff h c304
      refine g_iload_n C dX6_finesBy_30 rfl rfl ?_
      refine g_aload_n C dX6_finesBy_31 rfl rfl ?_
      refine g_iload_n C dX6_finesBy_32 rfl rfl ?_
      refine g_iload C dX6_finesBy_33 rfl ?_
      obtain ⟨y307, e308, h⟩ := of_obb h
      refine g_callV (As := [.int x3, .int x4]) C (ct_X6_rulingOf C.wf e308) g301 lk_RX6_73 mi_X6_rulingOf (by decide) (cs_i cs_0) (by decide) dX6_finesBy_35 rfl ?_
      show Go w f 38 [some (rv w r0), some (.int x1), some (.int x2), some (.int x3), some (.int x4)] [.int y307, .int x2] M
      refine g_iload_n C dX6_finesBy_38 rfl rfl ?_
      refine g_icmp_ne 58 C dX6_finesBy_39 (by decide) (fun c309 => ?_) (fun c309 => ?_)
      · replace h := of_iff h c309
        refine g_iconst (v := 0) C dX6_finesBy_58 rfl ?_
        refine g_iadd C dX6_finesBy_59 ?_
        obtain ⟨y310, e311, h⟩ := of_bvv h
        refine g_topi e311 ?_
        refine g_istore_n C dX6_finesBy_60 rfl (by decide) rfl (L2 := [some (rv w r0), some (.int x1), some (.int y310), some (.int x3), some (.int x4)]) rfl ?_
        obtain ⟨y312, e313, h⟩ := of_bvv h
        refine g_iinc (v := y312) C dX6_finesBy_61 rfl e313.symm (by decide) rfl (L2 := [some (rv w r0), some (.int x1), some (.int y310), some (.int x3), some (.int y312)]) rfl ?_
        refine g_goto 17 C dX6_finesBy_64 (by decide) ?_
        exact ih r0 x1 y310 x3 y312 h
      · replace h := of_ift h c309
        refine g_aload_n C dX6_finesBy_42 rfl rfl ?_
        refine g_iload_n C dX6_finesBy_43 rfl rfl ?_
        refine g_iload C dX6_finesBy_44 rfl ?_
        refine g_aload_n C dX6_finesBy_46 rfl rfl ?_
        refine g_iload_n C dX6_finesBy_47 rfl rfl ?_
        refine g_iconst (v := 1) C dX6_finesBy_48 rfl ?_
        obtain ⟨y314, e315, h⟩ := of_obb h
        refine g_callV (As := [.int x3, .int (1 : Int32)]) C (ct_X6_of C.wf e315) g301 lk_RX6_60 mi_X6_of (by decide) (cs_i (cs_i (cs_r (cs_i cs_0)))) (by decide) dX6_finesBy_49 rfl ?_
        show Go w f 52 [some (rv w r0), some (.int x1), some (.int x2), some (.int x3), some (.int x4)] [.int y314, .int x4, .int x3, rv w r0, .int x2] M
        obtain ⟨y316, e317, h⟩ := of_obb h
        refine g_callV (As := [.int x3, .int x4, .int y314]) C (ct_X6_fineOf C.wf e317) g301 lk_RX6_76 mi_X6_fineOf (by decide) (cs_i cs_0) (by decide) dX6_finesBy_52 rfl ?_
        show Go w f 55 [some (rv w r0), some (.int x1), some (.int x2), some (.int x3), some (.int x4)] [.int y316, .int x2] M
        refine g_goto 59 C dX6_finesBy_55 (by decide) ?_
        refine g_iadd C dX6_finesBy_59 ?_
        obtain ⟨y318, e319, h⟩ := of_bvv h
        refine g_topi e319 ?_
        refine g_istore_n C dX6_finesBy_60 rfl (by decide) rfl (L2 := [some (rv w r0), some (.int x1), some (.int y318), some (.int x3), some (.int x4)]) rfl ?_
        obtain ⟨y320, e321, h⟩ := of_bvv h
        refine g_iinc (v := y320) C dX6_finesBy_61 rfl e321.symm (by decide) rfl (L2 := [some (rv w r0), some (.int x1), some (.int y318), some (.int x3), some (.int y320)]) rfl ?_
        refine g_goto 17 C dX6_finesBy_64 (by decide) ?_
        exact ih r0 x1 y318 x3 y320 h
def f_X6_finesBy_4 (M : Mem) : Nat → Nat → Int32 → Int32 → Int32 → Option Int32
  | 0, _, _, _, _ => none
  | n + 1, r0, x1, x2, x3 => gdd (kd r0 = 7) <| gdd (kd (fld r0 0) = 8) <| gdd (inb (3 : Int32) (ln (fld r0 0)) = true) <| if (gI M (fld r0 0) ((3 : Int32)).toNatClampNeg) ≤ x3 then (some x2) else (f_X6_finesBy_17 M (f_X6_finesBy_4 M n) FU r0 x1 x2 x3 (0 : Int32))
set_option maxRecDepth 100000 in
set_option maxHeartbeats 4000000 in
theorem t_X6_finesBy_4 {w : Om} {f : Fr} {M : Mem} {r : Int32} (C : Cx w f RX6 cX6_finesBy 5 5) (hR : Rt w f cX6_finesBy (some .int) (some (.int r)) M)   : ∀ (n : Nat) (r0 : Nat) (x1 : Int32) (x2 : Int32) (x3 : Int32), f_X6_finesBy_4 M n r0 x1 x2 x3 = some r → Go w f 4 [some (rv w r0), some (.int x1), some (.int x2), some (.int x3), none] [] M := by
  intro n
  induction n with
  | zero =>
    intro r0 x1 x2 x3 h
    cases h
  | succ n ih =>
    intro r0 x1 x2 x3 h
    rw [f_X6_finesBy_4] at h
    refine g_iload_n C dX6_finesBy_4 rfl rfl ?_
    refine g_aload_n C dX6_finesBy_5 rfl rfl ?_
    obtain ⟨g201, h⟩ := of_gdd h
    refine gf_6_0 C fl_RX6_7 g201 dX6_finesBy_6 ?_
    refine g_iconst (v := 3) C dX6_finesBy_9 rfl ?_
    obtain ⟨g202, h⟩ := of_gdd h
    obtain ⟨g203, h⟩ := of_gdd h
    refine g_iald C g202 g203 dX6_finesBy_10 ?_
    refine g_icmp_ge 73 C dX6_finesBy_11 (by decide) (fun c204 => ?_) (fun c204 => ?_)
    · replace h := of_ift h c204
      refine g_iload_n C dX6_finesBy_73 rfl rfl ?_
      cases h
      exact hR 74 _ ⟨.int, rfl, rfl⟩ dX6_finesBy_74
    · replace h := of_iff h c204
      refine g_iconst (v := 0) C dX6_finesBy_14 rfl ?_
      refine g_istore C dX6_finesBy_15 (by decide) rfl (L2 := [some (rv w r0), some (.int x1), some (.int x2), some (.int x3), some (.int (0 : Int32))]) rfl ?_
      exact t_X6_finesBy_17 C hR (fun r0' x1' x2' x3' h => ih r0' x1' x2' x3' h) _ r0 x1 x2 x3 (0 : Int32) h
def f_X6_finesBy (r0 : Nat) (x1 : Int32) (M : Mem) : Option Int32 := f_X6_finesBy_4 M FU r0 x1 (0 : Int32) (0 : Int32)
set_option maxRecDepth 100000 in
set_option maxHeartbeats 4000000 in
theorem ct_X6_finesBy {l : Launch} {w : Om} (hw : Wf w) {r0 : Nat} {x1 : Int32}  {M : Mem} {r : Int32} (h : f_X6_finesBy r0 x1 M = some r) : Ct l w yX6_finesBy cX6_finesBy 5 (some .int) 5 [rv w r0, .int x1] M (some (.int r)) M := by
  refine ct_of hw (by decide) (cat_s (rv_cat _ _) (cat_s rfl cat_0)) (Nat.le_of_ble_eq_true rfl) (fun f _ C hR => ?_)
  show Go w f 0 [some (rv w r0), some (.int x1), none, none, none] [] M
  unfold f_X6_finesBy at h
  refine g_iconst (v := 0) C dX6_finesBy_0 rfl ?_
  refine g_istore_n C dX6_finesBy_1 rfl (by decide) rfl (L2 := [some (rv w r0), some (.int x1), some (.int (0 : Int32)), none, none]) rfl ?_
  refine g_iconst (v := 0) C dX6_finesBy_2 rfl ?_
  refine g_istore_n C dX6_finesBy_3 rfl (by decide) rfl (L2 := [some (rv w r0), some (.int x1), some (.int (0 : Int32)), some (.int (0 : Int32)), none]) rfl ?_
  exact t_X6_finesBy_4 C hR _ r0 x1 (0 : Int32) (0 : Int32) h
def f_X6_ruling (r0 : Nat) (x1 : Int32) (x2 : Int32) (M : Mem) : Option Int32 := gdd (kd r0 = 7) <| obb (f_X6_isRuling r0 x1 M) fun y2 => if y2 = 0 then (some (-1 : Int32)) else (if x2 = nI 0 then (obb (f_X6_ofRuling r0 x1 x2 M) fun y6 => some y6) else if x2 = nI 1 then (obb (f_X6_ofRuling r0 x1 x2 M) fun y9 => some y9) else if x2 = nI 2 then (obb (f_X6_ofRuling r0 x1 x2 M) fun y12 => some y12) else if x2 = nI 3 then (obb (f_X6_ofRuling r0 x1 x2 M) fun y15 => some y15) else if x2 = nI 4 then (obb (f_X6_ofRuling r0 x1 (4 : Int32) M) fun y18 => if y18 = 0 then (some (-4 : Int32)) else (obb (f_X6_ofRuling r0 x1 (4 : Int32) M) fun y21 => some (y21 - (1 : Int32)))) else if x2 = nI 5 then (obb (f_X6_isForce r0 x1 M) fun y24 => if y24 = 0 then (some (0 : Int32)) else (some (1 : Int32))) else if x2 = nI 6 then (obb (f_X6_doesCount r0 x1 M) fun y28 => if y28 = 0 then (some (0 : Int32)) else (some (1 : Int32))) else if x2 = nI 7 then (obb (f_X6_citing r0 x1 M) fun y32 => some y32) else if x2 = nI 8 then (obb (f_X6_finesBy r0 x1 M) fun y35 => some y35) else (some (-1 : Int32)))
set_option maxRecDepth 100000 in
set_option maxHeartbeats 4000000 in
theorem ct_X6_ruling {l : Launch} {w : Om} (hw : Wf w) {r0 : Nat} {x1 : Int32} {x2 : Int32}  {M : Mem} {r : Int32} (h : f_X6_ruling r0 x1 x2 M = some r) : Ct l w yX6_ruling cX6_ruling 3 (some .int) 6 [rv w r0, .int x1, .int x2] M (some (.int r)) M := by
  refine ct_of hw (by decide) (cat_s (rv_cat _ _) (cat_s rfl (cat_s rfl cat_0))) (Nat.le_of_ble_eq_true rfl) (fun f _ C hR => ?_)
  show Go w f 0 [some (rv w r0), some (.int x1), some (.int x2)] [] M
  unfold f_X6_ruling at h
  refine g_aload_n C dX6_ruling_0 rfl rfl ?_
  refine g_iload_n C dX6_ruling_1 rfl rfl ?_
  obtain ⟨g1, h⟩ := of_gdd h
  obtain ⟨y2, e3, h⟩ := of_obb h
  refine g_callV (As := [.int x1]) C (ct_X6_isRuling C.wf e3) g1 lk_RX6_118 mi_X6_isRuling (by decide) cs_0 (by decide) dX6_ruling_2 rfl ?_
  show Go w f 5 [some (rv w r0), some (.int x1), some (.int x2)] [.int y2] M
  refine g_if_ne 10 C dX6_ruling_5 (by decide) (fun c4 => ?_) (fun c4 => ?_)
  · replace h := of_iff h c4
    refine g_iload_n C dX6_ruling_10 rfl rfl ?_
    by_cases c5 : x2 = nI 0
    · replace h := of_ift h c5
      refine g_tsI (nI 0) (49) 60 C dX6_ruling_11 c5 (by decide) (by decide) rfl (by decide) ?_
      refine g_aload_n C dX6_ruling_60 rfl rfl ?_
      refine g_iload_n C dX6_ruling_61 rfl rfl ?_
      refine g_iload_n C dX6_ruling_62 rfl rfl ?_
      obtain ⟨y6, e7, h⟩ := of_obb h
      refine g_callV (As := [.int x1, .int x2]) C (ct_X6_ofRuling C.wf e7) g1 lk_RX6_46 mi_X6_ofRuling (by decide) cs_0 (by decide) dX6_ruling_63 rfl ?_
      show Go w f 66 [some (rv w r0), some (.int x1), some (.int x2)] [.int y6] M
      cases h
      exact hR 66 _ ⟨.int, rfl, rfl⟩ dX6_ruling_66
    replace h := of_iff h c5
    by_cases c8 : x2 = nI 1
    · replace h := of_ift h c8
      refine g_tsI (nI 1) (49) 60 C dX6_ruling_11 c8 (by decide) (by decide) rfl (by decide) ?_
      refine g_aload_n C dX6_ruling_60 rfl rfl ?_
      refine g_iload_n C dX6_ruling_61 rfl rfl ?_
      refine g_iload_n C dX6_ruling_62 rfl rfl ?_
      obtain ⟨y9, e10, h⟩ := of_obb h
      refine g_callV (As := [.int x1, .int x2]) C (ct_X6_ofRuling C.wf e10) g1 lk_RX6_46 mi_X6_ofRuling (by decide) cs_0 (by decide) dX6_ruling_63 rfl ?_
      show Go w f 66 [some (rv w r0), some (.int x1), some (.int x2)] [.int y9] M
      cases h
      exact hR 66 _ ⟨.int, rfl, rfl⟩ dX6_ruling_66
    replace h := of_iff h c8
    by_cases c11 : x2 = nI 2
    · replace h := of_ift h c11
      refine g_tsI (nI 2) (49) 60 C dX6_ruling_11 c11 (by decide) (by decide) rfl (by decide) ?_
      refine g_aload_n C dX6_ruling_60 rfl rfl ?_
      refine g_iload_n C dX6_ruling_61 rfl rfl ?_
      refine g_iload_n C dX6_ruling_62 rfl rfl ?_
      obtain ⟨y12, e13, h⟩ := of_obb h
      refine g_callV (As := [.int x1, .int x2]) C (ct_X6_ofRuling C.wf e13) g1 lk_RX6_46 mi_X6_ofRuling (by decide) cs_0 (by decide) dX6_ruling_63 rfl ?_
      show Go w f 66 [some (rv w r0), some (.int x1), some (.int x2)] [.int y12] M
      cases h
      exact hR 66 _ ⟨.int, rfl, rfl⟩ dX6_ruling_66
    replace h := of_iff h c11
    by_cases c14 : x2 = nI 3
    · replace h := of_ift h c14
      refine g_tsI (nI 3) (49) 60 C dX6_ruling_11 c14 (by decide) (by decide) rfl (by decide) ?_
      refine g_aload_n C dX6_ruling_60 rfl rfl ?_
      refine g_iload_n C dX6_ruling_61 rfl rfl ?_
      refine g_iload_n C dX6_ruling_62 rfl rfl ?_
      obtain ⟨y15, e16, h⟩ := of_obb h
      refine g_callV (As := [.int x1, .int x2]) C (ct_X6_ofRuling C.wf e16) g1 lk_RX6_46 mi_X6_ofRuling (by decide) cs_0 (by decide) dX6_ruling_63 rfl ?_
      show Go w f 66 [some (rv w r0), some (.int x1), some (.int x2)] [.int y15] M
      cases h
      exact hR 66 _ ⟨.int, rfl, rfl⟩ dX6_ruling_66
    replace h := of_iff h c14
    by_cases c17 : x2 = nI 4
    · replace h := of_ift h c17
      refine g_tsI (nI 4) (56) 67 C dX6_ruling_11 c17 (by decide) (by decide) rfl (by decide) ?_
      refine g_aload_n C dX6_ruling_67 rfl rfl ?_
      refine g_iload_n C dX6_ruling_68 rfl rfl ?_
      refine g_iconst (v := 4) C dX6_ruling_69 rfl ?_
      obtain ⟨y18, e19, h⟩ := of_obb h
      refine g_callV (As := [.int x1, .int (4 : Int32)]) C (ct_X6_ofRuling C.wf e19) g1 lk_RX6_46 mi_X6_ofRuling (by decide) cs_0 (by decide) dX6_ruling_70 rfl ?_
      show Go w f 73 [some (rv w r0), some (.int x1), some (.int x2)] [.int y18] M
      refine g_if_ne 81 C dX6_ruling_73 (by decide) (fun c20 => ?_) (fun c20 => ?_)
      · replace h := of_iff h c20
        refine g_aload_n C dX6_ruling_81 rfl rfl ?_
        refine g_iload_n C dX6_ruling_82 rfl rfl ?_
        refine g_iconst (v := 4) C dX6_ruling_83 rfl ?_
        obtain ⟨y21, e22, h⟩ := of_obb h
        refine g_callV (As := [.int x1, .int (4 : Int32)]) C (ct_X6_ofRuling C.wf e22) g1 lk_RX6_46 mi_X6_ofRuling (by decide) cs_0 (by decide) dX6_ruling_84 rfl ?_
        show Go w f 87 [some (rv w r0), some (.int x1), some (.int x2)] [.int y21] M
        refine g_iconst (v := 1) C dX6_ruling_87 rfl ?_
        refine g_isub C dX6_ruling_88 ?_
        cases h
        exact hR 89 _ ⟨.int, rfl, rfl⟩ dX6_ruling_89
      · replace h := of_ift h c20
        refine g_bipush (v := -4) C dX6_ruling_76 rfl ?_
        refine g_goto 89 C dX6_ruling_78 (by decide) ?_
        cases h
        exact hR 89 _ ⟨.int, rfl, rfl⟩ dX6_ruling_89
    replace h := of_iff h c17
    by_cases c23 : x2 = nI 5
    · replace h := of_ift h c23
      refine g_tsI (nI 5) (79) 90 C dX6_ruling_11 c23 (by decide) (by decide) rfl (by decide) ?_
      refine g_aload_n C dX6_ruling_90 rfl rfl ?_
      refine g_iload_n C dX6_ruling_91 rfl rfl ?_
      obtain ⟨y24, e25, h⟩ := of_obb h
      refine g_callV (As := [.int x1]) C (ct_X6_isForce C.wf e25) g1 lk_RX6_50 mi_X6_isForce (by decide) cs_0 (by decide) dX6_ruling_92 rfl ?_
      show Go w f 95 [some (rv w r0), some (.int x1), some (.int x2)] [.int y24] M
      refine g_if_eq 102 C dX6_ruling_95 (by decide) (fun c26 => ?_) (fun c26 => ?_)
      · replace h := of_ift h c26
        refine g_iconst (v := 0) C dX6_ruling_102 rfl ?_
        cases h
        exact hR 103 _ ⟨.int, rfl, rfl⟩ dX6_ruling_103
      · replace h := of_iff h c26
        refine g_iconst (v := 1) C dX6_ruling_98 rfl ?_
        refine g_goto 103 C dX6_ruling_99 (by decide) ?_
        cases h
        exact hR 103 _ ⟨.int, rfl, rfl⟩ dX6_ruling_103
    replace h := of_iff h c23
    by_cases c27 : x2 = nI 6
    · replace h := of_ift h c27
      refine g_tsI (nI 6) (93) 104 C dX6_ruling_11 c27 (by decide) (by decide) rfl (by decide) ?_
      refine g_aload_n C dX6_ruling_104 rfl rfl ?_
      refine g_iload_n C dX6_ruling_105 rfl rfl ?_
      obtain ⟨y28, e29, h⟩ := of_obb h
      refine g_callV (As := [.int x1]) C (ct_X6_doesCount C.wf e29) g1 lk_RX6_195 mi_X6_doesCount (by decide) cs_0 (by decide) dX6_ruling_106 rfl ?_
      show Go w f 109 [some (rv w r0), some (.int x1), some (.int x2)] [.int y28] M
      refine g_if_eq 116 C dX6_ruling_109 (by decide) (fun c30 => ?_) (fun c30 => ?_)
      · replace h := of_ift h c30
        refine g_iconst (v := 0) C dX6_ruling_116 rfl ?_
        cases h
        exact hR 117 _ ⟨.int, rfl, rfl⟩ dX6_ruling_117
      · replace h := of_iff h c30
        refine g_iconst (v := 1) C dX6_ruling_112 rfl ?_
        refine g_goto 117 C dX6_ruling_113 (by decide) ?_
        cases h
        exact hR 117 _ ⟨.int, rfl, rfl⟩ dX6_ruling_117
    replace h := of_iff h c27
    by_cases c31 : x2 = nI 7
    · replace h := of_ift h c31
      refine g_tsI (nI 7) (107) 118 C dX6_ruling_11 c31 (by decide) (by decide) rfl (by decide) ?_
      refine g_aload_n C dX6_ruling_118 rfl rfl ?_
      refine g_iload_n C dX6_ruling_119 rfl rfl ?_
      obtain ⟨y32, e33, h⟩ := of_obb h
      refine g_callV (As := [.int x1]) C (ct_X6_citing C.wf e33) g1 lk_RX6_198 mi_X6_citing (by decide) cs_0 (by decide) dX6_ruling_120 rfl ?_
      show Go w f 123 [some (rv w r0), some (.int x1), some (.int x2)] [.int y32] M
      cases h
      exact hR 123 _ ⟨.int, rfl, rfl⟩ dX6_ruling_123
    replace h := of_iff h c31
    by_cases c34 : x2 = nI 8
    · replace h := of_ift h c34
      refine g_tsI (nI 8) (113) 124 C dX6_ruling_11 c34 (by decide) (by decide) rfl (by decide) ?_
      refine g_aload_n C dX6_ruling_124 rfl rfl ?_
      refine g_iload_n C dX6_ruling_125 rfl rfl ?_
      obtain ⟨y35, e36, h⟩ := of_obb h
      refine g_callV (As := [.int x1]) C (ct_X6_finesBy C.wf e36) g1 lk_RX6_201 mi_X6_finesBy (by decide) cs_0 (by decide) dX6_ruling_126 rfl ?_
      show Go w f 129 [some (rv w r0), some (.int x1), some (.int x2)] [.int y35] M
      cases h
      exact hR 129 _ ⟨.int, rfl, rfl⟩ dX6_ruling_129
    replace h := of_iff h c34
    refine g_tsD 9 130 C dX6_ruling_11 (by decide) rfl rfl (p_lt (lt_s (lt_s (lt_s (lt_s (lt_s (lt_s (lt_s (lt_s (lt_s lt_0 c5) c8) c11) c14) c17) c23) c27) c31) c34)) (by decide) ?_
    refine g_iconst (v := -1) C dX6_ruling_130 rfl ?_
    cases h
    exact hR 131 _ ⟨.int, rfl, rfl⟩ dX6_ruling_131
  · replace h := of_ift h c4
    refine g_iconst (v := -1) C dX6_ruling_8 rfl ?_
    cases h
    exact hR 9 _ ⟨.int, rfl, rfl⟩ dX6_ruling_9
def f_X6_whyNot (r0 : Nat) (x1 : Int32) (x2 : Int32) (M : Mem) : Option Int32 := gdd (kd r0 = 7) <| obb (f_X6_isGap r0 x1 x2 M) fun y2 => if y2 = 0 then (some (-1 : Int32)) else (obb (f_X6_reasonToRefuse r0 x1 x2 M) fun y5 => some y5)
set_option maxRecDepth 100000 in
set_option maxHeartbeats 4000000 in
theorem ct_X6_whyNot {l : Launch} {w : Om} (hw : Wf w) {r0 : Nat} {x1 : Int32} {x2 : Int32}  {M : Mem} {r : Int32} (h : f_X6_whyNot r0 x1 x2 M = some r) : Ct l w yX6_whyNot cX6_whyNot 3 (some .int) 9 [rv w r0, .int x1, .int x2] M (some (.int r)) M := by
  refine ct_of hw (by decide) (cat_s (rv_cat _ _) (cat_s rfl (cat_s rfl cat_0))) (Nat.le_of_ble_eq_true rfl) (fun f _ C hR => ?_)
  show Go w f 0 [some (rv w r0), some (.int x1), some (.int x2)] [] M
  unfold f_X6_whyNot at h
  refine g_aload_n C dX6_whyNot_0 rfl rfl ?_
  refine g_iload_n C dX6_whyNot_1 rfl rfl ?_
  refine g_iload_n C dX6_whyNot_2 rfl rfl ?_
  obtain ⟨g1, h⟩ := of_gdd h
  obtain ⟨y2, e3, h⟩ := of_obb h
  refine g_callV (As := [.int x1, .int x2]) C (ct_X6_isGap C.wf e3) g1 lk_RX6_129 mi_X6_isGap (by decide) cs_0 (by decide) dX6_whyNot_3 rfl ?_
  show Go w f 6 [some (rv w r0), some (.int x1), some (.int x2)] [.int y2] M
  refine g_if_eq 18 C dX6_whyNot_6 (by decide) (fun c4 => ?_) (fun c4 => ?_)
  · replace h := of_ift h c4
    refine g_iconst (v := -1) C dX6_whyNot_18 rfl ?_
    cases h
    exact hR 19 _ ⟨.int, rfl, rfl⟩ dX6_whyNot_19
  · replace h := of_iff h c4
    refine g_aload_n C dX6_whyNot_9 rfl rfl ?_
    refine g_iload_n C dX6_whyNot_10 rfl rfl ?_
    refine g_iload_n C dX6_whyNot_11 rfl rfl ?_
    obtain ⟨y5, e6, h⟩ := of_obb h
    refine g_callV (As := [.int x1, .int x2]) C (ct_X6_reasonToRefuse C.wf e6) g1 lk_RX6_102 mi_X6_reasonToRefuse (by decide) cs_0 (by decide) dX6_whyNot_12 rfl ?_
    show Go w f 15 [some (rv w r0), some (.int x1), some (.int x2)] [.int y5] M
    refine g_goto 19 C dX6_whyNot_15 (by decide) ?_
    cases h
    exact hR 19 _ ⟨.int, rfl, rfl⟩ dX6_whyNot_19
def f_X6_laysFines_2 : Nat → Nat → Int32 → Int32 → Mem → Option Mem
  | 0, _, _, _, _ => none
  | n + 1, r0, x1, x2, M => gdd (kd r0 = 7) <| obb (f_X6_of r0 x1 (0 : Int32) M) fun y202 => if y202 ≤ (x2 + (1 : Int32)) then (some M) else (obb (f_X6_fineOf r0 x1 x2 (0 : Int32) M) fun y205 => gdd (kd (fld r0 16) = 8) <| gdd (inb x2 (ln (fld r0 16)) = true) <| bvv (sI M (fld r0 16) (x2).toNatClampNeg y205) fun M209 => obb (f_X6_fineOf r0 x1 x2 ((1 : Int32) <<< (x2 &&& 31)) M209) fun y211 => gdd (kd (fld r0 17) = 8) <| gdd (inb x2 (ln (fld r0 17)) = true) <| bvv (sI M209 (fld r0 17) (x2).toNatClampNeg y211) fun M215 => bvv (x2 + (1 : Int32)) fun y217 => (f_X6_laysFines_2 n) r0 x1 y217 M215)
set_option maxRecDepth 100000 in
set_option maxHeartbeats 4000000 in
theorem t_X6_laysFines_2 {w : Om} {f : Fr} {M2 : Mem} (C : Cx w f RX6 cX6_laysFines 3 5) (hR : Rt w f cX6_laysFines none none M2)   : ∀ (n : Nat) (r0 : Nat) (x1 : Int32) (x2 : Int32) (M : Mem), f_X6_laysFines_2 n r0 x1 x2 M = some M2 → Go w f 2 [some (rv w r0), some (.int x1), some (.int x2)] [] M := by
  intro n
  induction n with
  | zero =>
    intro r0 x1 x2 M h
    cases h
  | succ n ih =>
    intro r0 x1 x2 M h
    rw [f_X6_laysFines_2] at h
    refine g_iload_n C dX6_laysFines_2 rfl rfl ?_
    refine g_iconst (v := 1) C dX6_laysFines_3 rfl ?_
    refine g_iadd C dX6_laysFines_4 ?_
    refine g_aload_n C dX6_laysFines_5 rfl rfl ?_
    refine g_iload_n C dX6_laysFines_6 rfl rfl ?_
    refine g_iconst (v := 0) C dX6_laysFines_7 rfl ?_
    obtain ⟨g201, h⟩ := of_gdd h
    obtain ⟨y202, e203, h⟩ := of_obb h
    refine g_callV (As := [.int x1, .int (0 : Int32)]) C (ct_X6_of C.wf e203) g201 lk_RX6_60 mi_X6_of (by decide) (cs_i cs_0) (by decide) dX6_laysFines_8 rfl ?_
    show Go w f 11 [some (rv w r0), some (.int x1), some (.int x2)] [.int y202, .int (x2 + (1 : Int32))] M
    refine g_icmp_ge 48 C dX6_laysFines_11 (by decide) (fun c204 => ?_) (fun c204 => ?_)
    · replace h := of_ift h c204
      cases h
      exact hR 48 _ rfl dX6_laysFines_48
    · replace h := of_iff h c204
      refine g_aload_n C dX6_laysFines_14 rfl rfl ?_
      refine gf_6_16 C fl_RX6_25 g201 dX6_laysFines_15 ?_
      refine g_iload_n C dX6_laysFines_18 rfl rfl ?_
      refine g_aload_n C dX6_laysFines_19 rfl rfl ?_
      refine g_iload_n C dX6_laysFines_20 rfl rfl ?_
      refine g_iload_n C dX6_laysFines_21 rfl rfl ?_
      refine g_iconst (v := 0) C dX6_laysFines_22 rfl ?_
      obtain ⟨y205, e206, h⟩ := of_obb h
      refine g_callV (As := [.int x1, .int x2, .int (0 : Int32)]) C (ct_X6_fineOf C.wf e206) g201 lk_RX6_76 mi_X6_fineOf (by decide) (cs_i (cs_r cs_0)) (by decide) dX6_laysFines_23 rfl ?_
      show Go w f 26 [some (rv w r0), some (.int x1), some (.int x2)] [.int y205, .int x2, rv w (fld r0 16)] M
      obtain ⟨g207, h⟩ := of_gdd h
      obtain ⟨g208, h⟩ := of_gdd h
      refine g_iast C g207 g208 dX6_laysFines_26 ?_
      obtain ⟨M209, e210, h⟩ := of_bvv h
      refine g_mem e210 ?_
      refine g_aload_n C dX6_laysFines_27 rfl rfl ?_
      refine gf_6_17 C fl_RX6_28 g201 dX6_laysFines_28 ?_
      refine g_iload_n C dX6_laysFines_31 rfl rfl ?_
      refine g_aload_n C dX6_laysFines_32 rfl rfl ?_
      refine g_iload_n C dX6_laysFines_33 rfl rfl ?_
      refine g_iload_n C dX6_laysFines_34 rfl rfl ?_
      refine g_iconst (v := 1) C dX6_laysFines_35 rfl ?_
      refine g_iload_n C dX6_laysFines_36 rfl rfl ?_
      refine g_ishl C dX6_laysFines_37 ?_
      obtain ⟨y211, e212, h⟩ := of_obb h
      refine g_callV (As := [.int x1, .int x2, .int ((1 : Int32) <<< (x2 &&& 31))]) C (ct_X6_fineOf C.wf e212) g201 lk_RX6_76 mi_X6_fineOf (by decide) (cs_i (cs_r cs_0)) (by decide) dX6_laysFines_38 rfl ?_
      show Go w f 41 [some (rv w r0), some (.int x1), some (.int x2)] [.int y211, .int x2, rv w (fld r0 17)] M209
      obtain ⟨g213, h⟩ := of_gdd h
      obtain ⟨g214, h⟩ := of_gdd h
      refine g_iast C g213 g214 dX6_laysFines_41 ?_
      obtain ⟨M215, e216, h⟩ := of_bvv h
      refine g_mem e216 ?_
      obtain ⟨y217, e218, h⟩ := of_bvv h
      refine g_iinc (v := y217) C dX6_laysFines_42 rfl e218.symm (by decide) rfl (L2 := [some (rv w r0), some (.int x1), some (.int y217)]) rfl ?_
      refine g_goto 2 C dX6_laysFines_45 (by decide) ?_
      exact ih r0 x1 y217 M215 h
def f_X6_laysFines (r0 : Nat) (x1 : Int32) (M : Mem) : Option Mem := f_X6_laysFines_2 FU r0 x1 (0 : Int32) M
set_option maxRecDepth 100000 in
set_option maxHeartbeats 4000000 in
theorem ct_X6_laysFines {l : Launch} {w : Om} (hw : Wf w) {r0 : Nat} {x1 : Int32} {M : Mem} {M2 : Mem} (h : f_X6_laysFines r0 x1 M = some M2) : Ct l w yX6_laysFines cX6_laysFines 3 none 5 [rv w r0, .int x1] M none M2 := by
  refine ct_of hw (by decide) (cat_s (rv_cat _ _) (cat_s rfl cat_0)) (Nat.le_of_ble_eq_true rfl) (fun f _ C hR => ?_)
  show Go w f 0 [some (rv w r0), some (.int x1), none] [] M
  unfold f_X6_laysFines at h
  refine g_iconst (v := 0) C dX6_laysFines_0 rfl ?_
  refine g_istore_n C dX6_laysFines_1 rfl (by decide) rfl (L2 := [some (rv w r0), some (.int x1), some (.int (0 : Int32))]) rfl ?_
  exact t_X6_laysFines_2 C hR _ r0 x1 (0 : Int32) M h
def f_X6_fastCost_10 (M : Mem) : Nat → Nat → Int32 → Int32 → Int32 → Int32 → Option Int32
  | 0, _, _, _, _, _ => none
  | n + 1, r0, x1, x2, x3, x4 => gdd (kd r0 = 7) <| obb (f_X6_of r0 x1 (0 : Int32) M) fun y202 => if y202 ≤ (x4 + (1 : Int32)) then (some x3) else (if ((x2 >>> (x4 &&& 31)) &&& (1 : Int32)) = (1 : Int32) then (gdd (kd (fld r0 17) = 8) <| gdd (inb x4 (ln (fld r0 17)) = true) <| bvv (x3 + (gI M (fld r0 17) (x4).toNatClampNeg)) fun y214 => bvv (x4 + (1 : Int32)) fun y216 => (f_X6_fastCost_10 M n) r0 x1 x2 y214 y216) else (gdd (kd (fld r0 16) = 8) <| gdd (inb x4 (ln (fld r0 16)) = true) <| bvv (x3 + (gI M (fld r0 16) (x4).toNatClampNeg)) fun y208 => bvv (x4 + (1 : Int32)) fun y210 => (f_X6_fastCost_10 M n) r0 x1 x2 y208 y210))
set_option maxRecDepth 100000 in
set_option maxHeartbeats 4000000 in
theorem t_X6_fastCost_10 {w : Om} {f : Fr} {M : Mem} {r : Int32} (C : Cx w f RX6 cX6_fastCost 5 4) (hR : Rt w f cX6_fastCost (some .int) (some (.int r)) M)   : ∀ (n : Nat) (r0 : Nat) (x1 : Int32) (x2 : Int32) (x3 : Int32) (x4 : Int32), f_X6_fastCost_10 M n r0 x1 x2 x3 x4 = some r → Go w f 10 [some (rv w r0), some (.int x1), some (.int x2), some (.int x3), some (.int x4)] [] M := by
  intro n
  induction n with
  | zero =>
    intro r0 x1 x2 x3 x4 h
    cases h
  | succ n ih =>
    intro r0 x1 x2 x3 x4 h
    rw [f_X6_fastCost_10] at h
    refine g_iload C dX6_fastCost_10 rfl ?_
    refine g_iconst (v := 1) C dX6_fastCost_12 rfl ?_
    refine g_iadd C dX6_fastCost_13 ?_
    refine g_aload_n C dX6_fastCost_14 rfl rfl ?_
    refine g_iload_n C dX6_fastCost_15 rfl rfl ?_
    refine g_iconst (v := 0) C dX6_fastCost_16 rfl ?_
    obtain ⟨g201, h⟩ := of_gdd h
    obtain ⟨y202, e203, h⟩ := of_obb h
    refine g_callV (As := [.int x1, .int (0 : Int32)]) C (ct_X6_of C.wf e203) g201 lk_RX6_60 mi_X6_of (by decide) (cs_i cs_0) (by decide) dX6_fastCost_17 rfl ?_
    show Go w f 20 [some (rv w r0), some (.int x1), some (.int x2), some (.int x3), some (.int x4)] [.int y202, .int (x4 + (1 : Int32))] M
    refine g_icmp_ge 59 C dX6_fastCost_20 (by decide) (fun c204 => ?_) (fun c204 => ?_)
    · replace h := of_ift h c204
      refine g_iload_n C dX6_fastCost_59 rfl rfl ?_
      cases h
      exact hR 60 _ ⟨.int, rfl, rfl⟩ dX6_fastCost_60
    · replace h := of_iff h c204
      refine g_iload_n C dX6_fastCost_23 rfl rfl ?_
      refine g_iload_n C dX6_fastCost_24 rfl rfl ?_
      refine g_iload C dX6_fastCost_25 rfl ?_
      refine g_ishr C dX6_fastCost_27 ?_
      refine g_iconst (v := 1) C dX6_fastCost_28 rfl ?_
      refine g_iand C dX6_fastCost_29 ?_
      refine g_iconst (v := 1) C dX6_fastCost_30 rfl ?_
      refine g_icmp_ne 44 C dX6_fastCost_31 (by decide) (fun c205 => ?_) (fun c205 => ?_)
      · replace h := of_iff h c205
        refine g_aload_n C dX6_fastCost_44 rfl rfl ?_
        refine gf_6_16 C fl_RX6_25 g201 dX6_fastCost_45 ?_
        refine g_iload C dX6_fastCost_48 rfl ?_
        obtain ⟨g206, h⟩ := of_gdd h
        obtain ⟨g207, h⟩ := of_gdd h
        refine g_iald C g206 g207 dX6_fastCost_50 ?_
        refine g_iadd C dX6_fastCost_51 ?_
        obtain ⟨y208, e209, h⟩ := of_bvv h
        refine g_topi e209 ?_
        refine g_istore_n C dX6_fastCost_52 rfl (by decide) rfl (L2 := [some (rv w r0), some (.int x1), some (.int x2), some (.int y208), some (.int x4)]) rfl ?_
        obtain ⟨y210, e211, h⟩ := of_bvv h
        refine g_iinc (v := y210) C dX6_fastCost_53 rfl e211.symm (by decide) rfl (L2 := [some (rv w r0), some (.int x1), some (.int x2), some (.int y208), some (.int y210)]) rfl ?_
        refine g_goto 10 C dX6_fastCost_56 (by decide) ?_
        exact ih r0 x1 x2 y208 y210 h
      · replace h := of_ift h c205
        refine g_aload_n C dX6_fastCost_34 rfl rfl ?_
        refine gf_6_17 C fl_RX6_28 g201 dX6_fastCost_35 ?_
        refine g_iload C dX6_fastCost_38 rfl ?_
        obtain ⟨g212, h⟩ := of_gdd h
        obtain ⟨g213, h⟩ := of_gdd h
        refine g_iald C g212 g213 dX6_fastCost_40 ?_
        refine g_goto 51 C dX6_fastCost_41 (by decide) ?_
        refine g_iadd C dX6_fastCost_51 ?_
        obtain ⟨y214, e215, h⟩ := of_bvv h
        refine g_topi e215 ?_
        refine g_istore_n C dX6_fastCost_52 rfl (by decide) rfl (L2 := [some (rv w r0), some (.int x1), some (.int x2), some (.int y214), some (.int x4)]) rfl ?_
        obtain ⟨y216, e217, h⟩ := of_bvv h
        refine g_iinc (v := y216) C dX6_fastCost_53 rfl e217.symm (by decide) rfl (L2 := [some (rv w r0), some (.int x1), some (.int x2), some (.int y214), some (.int y216)]) rfl ?_
        refine g_goto 10 C dX6_fastCost_56 (by decide) ?_
        exact ih r0 x1 x2 y214 y216 h
def f_X6_fastCost (r0 : Nat) (x1 : Int32) (x2 : Int32) (M : Mem) : Option Int32 := gdd (kd r0 = 7) <| obb (f_X6_clauseCost r0 x1 x2 M) fun y2 => f_X6_fastCost_10 M FU r0 x1 x2 y2 (0 : Int32)
set_option maxRecDepth 100000 in
set_option maxHeartbeats 4000000 in
theorem ct_X6_fastCost {l : Launch} {w : Om} (hw : Wf w) {r0 : Nat} {x1 : Int32} {x2 : Int32}  {M : Mem} {r : Int32} (h : f_X6_fastCost r0 x1 x2 M = some r) : Ct l w yX6_fastCost cX6_fastCost 5 (some .int) 4 [rv w r0, .int x1, .int x2] M (some (.int r)) M := by
  refine ct_of hw (by decide) (cat_s (rv_cat _ _) (cat_s rfl (cat_s rfl cat_0))) (Nat.le_of_ble_eq_true rfl) (fun f _ C hR => ?_)
  show Go w f 0 [some (rv w r0), some (.int x1), some (.int x2), none, none] [] M
  unfold f_X6_fastCost at h
  refine g_aload_n C dX6_fastCost_0 rfl rfl ?_
  refine g_iload_n C dX6_fastCost_1 rfl rfl ?_
  refine g_iload_n C dX6_fastCost_2 rfl rfl ?_
  obtain ⟨g1, h⟩ := of_gdd h
  obtain ⟨y2, e3, h⟩ := of_obb h
  refine g_callV (As := [.int x1, .int x2]) C (ct_X6_clauseCost C.wf e3) g1 lk_RX6_80 mi_X6_clauseCost (by decide) cs_0 (by decide) dX6_fastCost_3 rfl ?_
  show Go w f 6 [some (rv w r0), some (.int x1), some (.int x2), none, none] [.int y2] M
  refine g_istore_n C dX6_fastCost_6 rfl (by decide) rfl (L2 := [some (rv w r0), some (.int x1), some (.int x2), some (.int y2), none]) rfl ?_
  refine g_iconst (v := 0) C dX6_fastCost_7 rfl ?_
  refine g_istore C dX6_fastCost_8 (by decide) rfl (L2 := [some (rv w r0), some (.int x1), some (.int x2), some (.int y2), some (.int (0 : Int32))]) rfl ?_
  exact t_X6_fastCost_10 C hR _ r0 x1 x2 y2 (0 : Int32) h
def f_X6_bestSet_17 : Nat → Nat → Int32 → Int32 → Int32 → Int32 → Mem → Option (Int32 × Mem)
  | 0, _, _, _, _, _, _ => none
  | n + 1, r0, x1, x2, x3, x4, M => gdd (kd r0 = 7) <| obb (f_X6_of r0 x1 (0 : Int32) M) fun y202 => if ((1 : Int32) <<< ((y202 - (1 : Int32)) &&& 31)) ≤ x4 then (some (x2, M)) else (obb (f_X6_fastCost r0 x1 x4 M) fun y205 => if y205 < x3 then (bvv (x4 + (1 : Int32)) fun y208 => (f_X6_bestSet_17 n) r0 x1 x4 y205 y208 M) else (if y205 = x3 then (obb (f_X6_ones x4) fun y213 => obb (f_X6_ones x2) fun y215 => if y215 ≤ y213 then (bvv (x4 + (1 : Int32)) fun y218 => (f_X6_bestSet_17 n) r0 x1 x2 x3 y218 M) else (bvv (x4 + (1 : Int32)) fun y220 => (f_X6_bestSet_17 n) r0 x1 x4 y205 y220 M)) else (bvv (x4 + (1 : Int32)) fun y211 => (f_X6_bestSet_17 n) r0 x1 x2 x3 y211 M)))
set_option maxRecDepth 100000 in
set_option maxHeartbeats 4000000 in
theorem t_X6_bestSet_17 {w : Om} {f : Fr} {r : Int32} {M2 : Mem} (C : Cx w f RX6 cX6_bestSet 7 6) (hR : Rt w f cX6_bestSet (some .int) (some (.int r)) M2)   : ∀ (n : Nat) (r0 : Nat) (x1 : Int32) (x2 : Int32) (x3 : Int32) (x4 : Int32) (M : Mem), f_X6_bestSet_17 n r0 x1 x2 x3 x4 M = some (r, M2) → Go w f 17 [some (rv w r0), some (.int x1), some (.int x2), some (.int x3), some (.int x4), none, none] [] M := by
  intro n
  induction n with
  | zero =>
    intro r0 x1 x2 x3 x4 M h
    cases h
  | succ n ih =>
    intro r0 x1 x2 x3 x4 M h
    rw [f_X6_bestSet_17] at h
    refine g_iload C dX6_bestSet_17 rfl ?_
    refine g_iconst (v := 1) C dX6_bestSet_19 rfl ?_
    refine g_aload_n C dX6_bestSet_20 rfl rfl ?_
    refine g_iload_n C dX6_bestSet_21 rfl rfl ?_
    refine g_iconst (v := 0) C dX6_bestSet_22 rfl ?_
    obtain ⟨g201, h⟩ := of_gdd h
    obtain ⟨y202, e203, h⟩ := of_obb h
    refine g_callV (As := [.int x1, .int (0 : Int32)]) C (ct_X6_of C.wf e203) g201 lk_RX6_60 mi_X6_of (by decide) (cs_i (cs_i cs_0)) (by decide) dX6_bestSet_23 rfl ?_
    show Go w f 26 [some (rv w r0), some (.int x1), some (.int x2), some (.int x3), some (.int x4), none, none] [.int y202, .int (1 : Int32), .int x4] M
    refine g_iconst (v := 1) C dX6_bestSet_26 rfl ?_
    refine g_isub C dX6_bestSet_27 ?_
    refine g_ishl C dX6_bestSet_28 ?_
    refine g_icmp_ge 102 C dX6_bestSet_29 (by decide) (fun c204 => ?_) (fun c204 => ?_)
    · replace h := of_ift h c204
      refine g_iload_n C dX6_bestSet_102 rfl rfl ?_
      cases h
      exact hR 103 _ ⟨.int, rfl, rfl⟩ dX6_bestSet_103
    · replace h := of_iff h c204
      refine g_aload_n C dX6_bestSet_32 rfl rfl ?_
      refine g_iload_n C dX6_bestSet_33 rfl rfl ?_
      refine g_iload C dX6_bestSet_34 rfl ?_
      obtain ⟨y205, e206, h⟩ := of_obb h
      refine g_callV (As := [.int x1, .int x4]) C (ct_X6_fastCost C.wf e206) g201 lk_RX6_208 mi_X6_fastCost (by decide) cs_0 (by decide) dX6_bestSet_36 rfl ?_
      show Go w f 39 [some (rv w r0), some (.int x1), some (.int x2), some (.int x3), some (.int x4), none, none] [.int y205] M
      refine g_istore C dX6_bestSet_39 (by decide) rfl (L2 := [some (rv w r0), some (.int x1), some (.int x2), some (.int x3), some (.int x4), some (.int y205), none]) rfl ?_
      refine g_iload C dX6_bestSet_41 rfl ?_
      refine g_iload_n C dX6_bestSet_43 rfl rfl ?_
      refine g_icmp_lt 65 C dX6_bestSet_44 (by decide) (fun c207 => ?_) (fun c207 => ?_)
      · replace h := of_ift h c207
        refine g_iconst (v := 1) C dX6_bestSet_65 rfl ?_
        refine g_goto 70 C dX6_bestSet_66 (by decide) ?_
        refine g_istore C dX6_bestSet_70 (by decide) rfl (L2 := [some (rv w r0), some (.int x1), some (.int x2), some (.int x3), some (.int x4), some (.int y205), some (.int (1 : Int32))]) rfl ?_
        refine g_iload C dX6_bestSet_72 rfl ?_
        refine g_if_eq 82 C dX6_bestSet_74 (by decide) (fun c => absurd c (by decide)) (fun _ => ?_)
        refine g_iload C dX6_bestSet_77 rfl ?_
        refine g_goto 83 C dX6_bestSet_79 (by decide) ?_
        refine g_istore_n C dX6_bestSet_83 rfl (by decide) rfl (L2 := [some (rv w r0), some (.int x1), some (.int x4), some (.int x3), some (.int x4), some (.int y205), some (.int (1 : Int32))]) rfl ?_
        refine g_iload C dX6_bestSet_84 rfl ?_
        refine g_if_eq 94 C dX6_bestSet_86 (by decide) (fun c => absurd c (by decide)) (fun _ => ?_)
        refine g_iload C dX6_bestSet_89 rfl ?_
        refine g_goto 95 C dX6_bestSet_91 (by decide) ?_
        refine g_istore_n C dX6_bestSet_95 rfl (by decide) rfl (L2 := [some (rv w r0), some (.int x1), some (.int x4), some (.int y205), some (.int x4), some (.int y205), some (.int (1 : Int32))]) rfl ?_
        obtain ⟨y208, e209, h⟩ := of_bvv h
        refine g_iinc (v := y208) C dX6_bestSet_96 rfl e209.symm (by decide) rfl (L2 := [some (rv w r0), some (.int x1), some (.int x4), some (.int y205), some (.int y208), some (.int y205), some (.int (1 : Int32))]) rfl ?_
        refine g_goto 17 C dX6_bestSet_99 (by decide) ?_
        refine g_mask (bs := [true, true, true, true, true, false, false]) (L2 := [some (rv w r0), some (.int x1), some (.int x4), some (.int y205), some (.int y208), none, none]) rfl ?_
        exact ih r0 x1 x4 y205 y208 M h
      · replace h := of_iff h c207
        refine g_iload C dX6_bestSet_47 rfl ?_
        refine g_iload_n C dX6_bestSet_49 rfl rfl ?_
        refine g_icmp_ne 69 C dX6_bestSet_50 (by decide) (fun c210 => ?_) (fun c210 => ?_)
        · replace h := of_iff h c210
          refine g_iconst (v := 0) C dX6_bestSet_69 rfl ?_
          refine g_istore C dX6_bestSet_70 (by decide) rfl (L2 := [some (rv w r0), some (.int x1), some (.int x2), some (.int x3), some (.int x4), some (.int y205), some (.int (0 : Int32))]) rfl ?_
          refine g_iload C dX6_bestSet_72 rfl ?_
          refine g_if_eq 82 C dX6_bestSet_74 (by decide) (fun _ => ?_) (fun c => absurd c (by decide))
          refine g_iload_n C dX6_bestSet_82 rfl rfl ?_
          refine g_istore_n C dX6_bestSet_83 rfl (by decide) rfl (L2 := [some (rv w r0), some (.int x1), some (.int x2), some (.int x3), some (.int x4), some (.int y205), some (.int (0 : Int32))]) rfl ?_
          refine g_iload C dX6_bestSet_84 rfl ?_
          refine g_if_eq 94 C dX6_bestSet_86 (by decide) (fun _ => ?_) (fun c => absurd c (by decide))
          refine g_iload_n C dX6_bestSet_94 rfl rfl ?_
          refine g_istore_n C dX6_bestSet_95 rfl (by decide) rfl (L2 := [some (rv w r0), some (.int x1), some (.int x2), some (.int x3), some (.int x4), some (.int y205), some (.int (0 : Int32))]) rfl ?_
          obtain ⟨y211, e212, h⟩ := of_bvv h
          refine g_iinc (v := y211) C dX6_bestSet_96 rfl e212.symm (by decide) rfl (L2 := [some (rv w r0), some (.int x1), some (.int x2), some (.int x3), some (.int y211), some (.int y205), some (.int (0 : Int32))]) rfl ?_
          refine g_goto 17 C dX6_bestSet_99 (by decide) ?_
          refine g_mask (bs := [true, true, true, true, true, false, false]) (L2 := [some (rv w r0), some (.int x1), some (.int x2), some (.int x3), some (.int y211), none, none]) rfl ?_
          exact ih r0 x1 x2 x3 y211 M h
        · replace h := of_ift h c210
          refine g_iload C dX6_bestSet_53 rfl ?_
          obtain ⟨y213, e214, h⟩ := of_obb h
          refine g_callS (As := [.int x4]) C (ct_X6_ones C.wf e214) lk_RX6_189 mi_X6_ones (by decide) cs_0 (by decide) dX6_bestSet_55 rfl ?_
          show Go w f 58 [some (rv w r0), some (.int x1), some (.int x2), some (.int x3), some (.int x4), some (.int y205), none] [.int y213] M
          refine g_iload_n C dX6_bestSet_58 rfl rfl ?_
          obtain ⟨y215, e216, h⟩ := of_obb h
          refine g_callS (As := [.int x2]) C (ct_X6_ones C.wf e216) lk_RX6_189 mi_X6_ones (by decide) (cs_i cs_0) (by decide) dX6_bestSet_59 rfl ?_
          show Go w f 62 [some (rv w r0), some (.int x1), some (.int x2), some (.int x3), some (.int x4), some (.int y205), none] [.int y215, .int y213] M
          refine g_icmp_ge 69 C dX6_bestSet_62 (by decide) (fun c217 => ?_) (fun c217 => ?_)
          · replace h := of_ift h c217
            refine g_iconst (v := 0) C dX6_bestSet_69 rfl ?_
            refine g_istore C dX6_bestSet_70 (by decide) rfl (L2 := [some (rv w r0), some (.int x1), some (.int x2), some (.int x3), some (.int x4), some (.int y205), some (.int (0 : Int32))]) rfl ?_
            refine g_iload C dX6_bestSet_72 rfl ?_
            refine g_if_eq 82 C dX6_bestSet_74 (by decide) (fun _ => ?_) (fun c => absurd c (by decide))
            refine g_iload_n C dX6_bestSet_82 rfl rfl ?_
            refine g_istore_n C dX6_bestSet_83 rfl (by decide) rfl (L2 := [some (rv w r0), some (.int x1), some (.int x2), some (.int x3), some (.int x4), some (.int y205), some (.int (0 : Int32))]) rfl ?_
            refine g_iload C dX6_bestSet_84 rfl ?_
            refine g_if_eq 94 C dX6_bestSet_86 (by decide) (fun _ => ?_) (fun c => absurd c (by decide))
            refine g_iload_n C dX6_bestSet_94 rfl rfl ?_
            refine g_istore_n C dX6_bestSet_95 rfl (by decide) rfl (L2 := [some (rv w r0), some (.int x1), some (.int x2), some (.int x3), some (.int x4), some (.int y205), some (.int (0 : Int32))]) rfl ?_
            obtain ⟨y218, e219, h⟩ := of_bvv h
            refine g_iinc (v := y218) C dX6_bestSet_96 rfl e219.symm (by decide) rfl (L2 := [some (rv w r0), some (.int x1), some (.int x2), some (.int x3), some (.int y218), some (.int y205), some (.int (0 : Int32))]) rfl ?_
            refine g_goto 17 C dX6_bestSet_99 (by decide) ?_
            refine g_mask (bs := [true, true, true, true, true, false, false]) (L2 := [some (rv w r0), some (.int x1), some (.int x2), some (.int x3), some (.int y218), none, none]) rfl ?_
            exact ih r0 x1 x2 x3 y218 M h
          · replace h := of_iff h c217
            refine g_iconst (v := 1) C dX6_bestSet_65 rfl ?_
            refine g_goto 70 C dX6_bestSet_66 (by decide) ?_
            refine g_istore C dX6_bestSet_70 (by decide) rfl (L2 := [some (rv w r0), some (.int x1), some (.int x2), some (.int x3), some (.int x4), some (.int y205), some (.int (1 : Int32))]) rfl ?_
            refine g_iload C dX6_bestSet_72 rfl ?_
            refine g_if_eq 82 C dX6_bestSet_74 (by decide) (fun c => absurd c (by decide)) (fun _ => ?_)
            refine g_iload C dX6_bestSet_77 rfl ?_
            refine g_goto 83 C dX6_bestSet_79 (by decide) ?_
            refine g_istore_n C dX6_bestSet_83 rfl (by decide) rfl (L2 := [some (rv w r0), some (.int x1), some (.int x4), some (.int x3), some (.int x4), some (.int y205), some (.int (1 : Int32))]) rfl ?_
            refine g_iload C dX6_bestSet_84 rfl ?_
            refine g_if_eq 94 C dX6_bestSet_86 (by decide) (fun c => absurd c (by decide)) (fun _ => ?_)
            refine g_iload C dX6_bestSet_89 rfl ?_
            refine g_goto 95 C dX6_bestSet_91 (by decide) ?_
            refine g_istore_n C dX6_bestSet_95 rfl (by decide) rfl (L2 := [some (rv w r0), some (.int x1), some (.int x4), some (.int y205), some (.int x4), some (.int y205), some (.int (1 : Int32))]) rfl ?_
            obtain ⟨y220, e221, h⟩ := of_bvv h
            refine g_iinc (v := y220) C dX6_bestSet_96 rfl e221.symm (by decide) rfl (L2 := [some (rv w r0), some (.int x1), some (.int x4), some (.int y205), some (.int y220), some (.int y205), some (.int (1 : Int32))]) rfl ?_
            refine g_goto 17 C dX6_bestSet_99 (by decide) ?_
            refine g_mask (bs := [true, true, true, true, true, false, false]) (L2 := [some (rv w r0), some (.int x1), some (.int x4), some (.int y205), some (.int y220), none, none]) rfl ?_
            exact ih r0 x1 x4 y205 y220 M h
def f_X6_bestSet (r0 : Nat) (x1 : Int32) (M : Mem) : Option (Int32 × Mem) := gdd (kd r0 = 7) <| obb (f_X6_laysFines r0 x1 M) fun M2 => obb (f_X6_fastCost r0 x1 (0 : Int32) M2) fun y4 => f_X6_bestSet_17 FU r0 x1 (0 : Int32) y4 (1 : Int32) M2
set_option maxRecDepth 100000 in
set_option maxHeartbeats 4000000 in
theorem ct_X6_bestSet {l : Launch} {w : Om} (hw : Wf w) {r0 : Nat} {x1 : Int32} {M : Mem} {r : Int32} {M2 : Mem} (h : f_X6_bestSet r0 x1 M = some (r, M2)) : Ct l w yX6_bestSet cX6_bestSet 7 (some .int) 6 [rv w r0, .int x1] M (some (.int r)) M2 := by
  refine ct_of hw (by decide) (cat_s (rv_cat _ _) (cat_s rfl cat_0)) (Nat.le_of_ble_eq_true rfl) (fun f _ C hR => ?_)
  show Go w f 0 [some (rv w r0), some (.int x1), none, none, none, none, none] [] M
  unfold f_X6_bestSet at h
  refine g_aload_n C dX6_bestSet_0 rfl rfl ?_
  refine g_iload_n C dX6_bestSet_1 rfl rfl ?_
  obtain ⟨g1, h⟩ := of_gdd h
  obtain ⟨M2, e3, h⟩ := of_obb h
  refine g_callV (As := [.int x1]) C (ct_X6_laysFines C.wf e3) g1 lk_RX6_204 mi_X6_laysFines (by decide) cs_0 (by decide) dX6_bestSet_2 rfl ?_
  show Go w f 5 [some (rv w r0), some (.int x1), none, none, none, none, none] [] M2
  refine g_iconst (v := 0) C dX6_bestSet_5 rfl ?_
  refine g_istore_n C dX6_bestSet_6 rfl (by decide) rfl (L2 := [some (rv w r0), some (.int x1), some (.int (0 : Int32)), none, none, none, none]) rfl ?_
  refine g_aload_n C dX6_bestSet_7 rfl rfl ?_
  refine g_iload_n C dX6_bestSet_8 rfl rfl ?_
  refine g_iconst (v := 0) C dX6_bestSet_9 rfl ?_
  obtain ⟨y4, e5, h⟩ := of_obb h
  refine g_callV (As := [.int x1, .int (0 : Int32)]) C (ct_X6_fastCost C.wf e5) g1 lk_RX6_208 mi_X6_fastCost (by decide) cs_0 (by decide) dX6_bestSet_10 rfl ?_
  show Go w f 13 [some (rv w r0), some (.int x1), some (.int (0 : Int32)), none, none, none, none] [.int y4] M2
  refine g_istore_n C dX6_bestSet_13 rfl (by decide) rfl (L2 := [some (rv w r0), some (.int x1), some (.int (0 : Int32)), some (.int y4), none, none, none]) rfl ?_
  refine g_iconst (v := 1) C dX6_bestSet_14 rfl ?_
  refine g_istore C dX6_bestSet_15 (by decide) rfl (L2 := [some (rv w r0), some (.int x1), some (.int (0 : Int32)), some (.int y4), some (.int (1 : Int32)), none, none]) rfl ?_
  exact t_X6_bestSet_17 C hR _ r0 x1 (0 : Int32) y4 (1 : Int32) M2 h
def f_X6_best (r0 : Nat) (x1 : Int32) (x2 : Int32) (x3 : Int32) (M : Mem) : Option (Int32 × Mem) := gdd (kd r0 = 7) <| obb (f_X6_isEdition r0 x1 M) fun y2 => if y2 = 0 then (some ((-1 : Int32), M)) else (if (f_X6_in x2 (0 : Int32) (2 : Int32)) = 0 then (some ((-1 : Int32), M)) else (if (f_X6_in x3 (0 : Int32) (1 : Int32)) = 0 then (some ((-1 : Int32), M)) else (opp (f_X6_bestSet r0 x1 M) fun y9 M7 => if x2 = 0 then (some (y9, M7)) else (if x2 = (1 : Int32) then (obb (f_X6_costBy r0 x1 y9 M7) fun y14 => some (y14, M7)) else (obb (f_X6_ones y9) fun y12 => some (y12, M7))))))
set_option maxRecDepth 100000 in
set_option maxHeartbeats 4000000 in
theorem ct_X6_best {l : Launch} {w : Om} (hw : Wf w) {r0 : Nat} {x1 : Int32} {x2 : Int32} {x3 : Int32} {M : Mem} {r : Int32} {M2 : Mem} (h : f_X6_best r0 x1 x2 x3 M = some (r, M2)) : Ct l w yX6_best cX6_best 5 (some .int) 7 [rv w r0, .int x1, .int x2, .int x3] M (some (.int r)) M2 := by
  refine ct_of hw (by decide) (cat_s (rv_cat _ _) (cat_s rfl (cat_s rfl (cat_s rfl cat_0)))) (Nat.le_of_ble_eq_true rfl) (fun f _ C hR => ?_)
  show Go w f 0 [some (rv w r0), some (.int x1), some (.int x2), some (.int x3), none] [] M
  unfold f_X6_best at h
  refine g_aload_n C dX6_best_0 rfl rfl ?_
  refine g_iload_n C dX6_best_1 rfl rfl ?_
  obtain ⟨g1, h⟩ := of_gdd h
  obtain ⟨y2, e3, h⟩ := of_obb h
  refine g_callV (As := [.int x1]) C (ct_X6_isEdition C.wf e3) g1 lk_RX6_57 mi_X6_isEdition (by decide) cs_0 (by decide) dX6_best_2 rfl ?_
  show Go w f 5 [some (rv w r0), some (.int x1), some (.int x2), some (.int x3), none] [.int y2] M
  refine g_if_eq 26 C dX6_best_5 (by decide) (fun c4 => ?_) (fun c4 => ?_)
  · replace h := of_ift h c4
    refine g_iconst (v := -1) C dX6_best_26 rfl ?_
    cases h
    exact hR 27 _ ⟨.int, rfl, rfl⟩ dX6_best_27
  · replace h := of_iff h c4
    refine g_iload_n C dX6_best_8 rfl rfl ?_
    refine g_iconst (v := 0) C dX6_best_9 rfl ?_
    refine g_iconst (v := 2) C dX6_best_10 rfl ?_
    refine g_callS (As := [.int x2, .int (0 : Int32), .int (2 : Int32)]) C (ct_X6_in C.wf rfl) lk_RX6_42 mi_X6_in (by decide) cs_0 (by decide) dX6_best_11 rfl ?_
    show Go w f 14 [some (rv w r0), some (.int x1), some (.int x2), some (.int x3), none] [.int (f_X6_in x2 (0 : Int32) (2 : Int32))] M
    refine g_if_eq 26 C dX6_best_14 (by decide) (fun c5 => ?_) (fun c5 => ?_)
    · replace h := of_ift h c5
      refine g_iconst (v := -1) C dX6_best_26 rfl ?_
      cases h
      exact hR 27 _ ⟨.int, rfl, rfl⟩ dX6_best_27
    · replace h := of_iff h c5
      refine g_iload_n C dX6_best_17 rfl rfl ?_
      refine g_iconst (v := 0) C dX6_best_18 rfl ?_
      refine g_iconst (v := 1) C dX6_best_19 rfl ?_
      refine g_callS (As := [.int x3, .int (0 : Int32), .int (1 : Int32)]) C (ct_X6_in C.wf rfl) lk_RX6_42 mi_X6_in (by decide) cs_0 (by decide) dX6_best_20 rfl ?_
      show Go w f 23 [some (rv w r0), some (.int x1), some (.int x2), some (.int x3), none] [.int (f_X6_in x3 (0 : Int32) (1 : Int32))] M
      refine g_if_ne 28 C dX6_best_23 (by decide) (fun c6 => ?_) (fun c6 => ?_)
      · replace h := of_iff h c6
        refine g_aload_n C dX6_best_28 rfl rfl ?_
        refine g_iload_n C dX6_best_29 rfl rfl ?_
        obtain ⟨y9, M7, e8, h⟩ := of_opp h
        refine g_callV (As := [.int x1]) C (ct_X6_bestSet C.wf e8) g1 lk_RX6_211 mi_X6_bestSet (by decide) cs_0 (by decide) dX6_best_30 rfl ?_
        show Go w f 33 [some (rv w r0), some (.int x1), some (.int x2), some (.int x3), none] [.int y9] M7
        refine g_istore C dX6_best_33 (by decide) rfl (L2 := [some (rv w r0), some (.int x1), some (.int x2), some (.int x3), some (.int y9)]) rfl ?_
        refine g_iload_n C dX6_best_35 rfl rfl ?_
        refine g_if_ne 44 C dX6_best_36 (by decide) (fun c10 => ?_) (fun c10 => ?_)
        · replace h := of_iff h c10
          refine g_iload_n C dX6_best_44 rfl rfl ?_
          refine g_iconst (v := 1) C dX6_best_45 rfl ?_
          refine g_icmp_ne 59 C dX6_best_46 (by decide) (fun c11 => ?_) (fun c11 => ?_)
          · replace h := of_iff h c11
            refine g_iload C dX6_best_59 rfl ?_
            obtain ⟨y12, e13, h⟩ := of_obb h
            refine g_callS (As := [.int y9]) C (ct_X6_ones C.wf e13) lk_RX6_189 mi_X6_ones (by decide) cs_0 (by decide) dX6_best_61 rfl ?_
            show Go w f 64 [some (rv w r0), some (.int x1), some (.int x2), some (.int x3), some (.int y9)] [.int y12] M7
            cases h
            exact hR 64 _ ⟨.int, rfl, rfl⟩ dX6_best_64
          · replace h := of_ift h c11
            refine g_aload_n C dX6_best_49 rfl rfl ?_
            refine g_iload_n C dX6_best_50 rfl rfl ?_
            refine g_iload C dX6_best_51 rfl ?_
            obtain ⟨y14, e15, h⟩ := of_obb h
            refine g_callV (As := [.int x1, .int y9]) C (ct_X6_costBy C.wf e15) g1 lk_RX6_86 mi_X6_costBy (by decide) cs_0 (by decide) dX6_best_53 rfl ?_
            show Go w f 56 [some (rv w r0), some (.int x1), some (.int x2), some (.int x3), some (.int y9)] [.int y14] M7
            refine g_goto 64 C dX6_best_56 (by decide) ?_
            cases h
            exact hR 64 _ ⟨.int, rfl, rfl⟩ dX6_best_64
        · replace h := of_ift h c10
          refine g_iload C dX6_best_39 rfl ?_
          refine g_goto 64 C dX6_best_41 (by decide) ?_
          cases h
          exact hR 64 _ ⟨.int, rfl, rfl⟩ dX6_best_64
      · replace h := of_ift h c6
        refine g_iconst (v := -1) C dX6_best_26 rfl ?_
        cases h
        exact hR 27 _ ⟨.int, rfl, rfl⟩ dX6_best_27
def f_X6_splits_36 (k16 : Nat → Int32 → Int32 → Int32 → Mem → Option (Int32 × Mem)) : Nat → Nat → Int32 → Int32 → Int32 → Int32 → Int32 → Mem → Option (Int32 × Mem)
  | 0, _, _, _, _, _, _, _ => none
  | n + 1, r0, x1, x2, x3, x4, x5, M => if x5 < 0 then (bvv (x3 + (1 : Int32)) fun y302 => k16 r0 x1 x2 y302 M) else (gdd (kd r0 = 7) <| obb (f_X6_weightOf r0 x1 x5 M) fun y305 => bvv (x4 + y305) fun y307 => gdd (kd (fld r0 18) = 8) <| gdd (inb x3 (ln (fld r0 18)) = true) <| gdd (kd (fld r0 0) = 8) <| gdd (inb (2 : Int32) (ln (fld r0 0)) = true) <| if (gI M (fld r0 0) ((2 : Int32)).toNatClampNeg) < y307 then (bvv (sI M (fld r0 18) (x3).toNatClampNeg ((gI M (fld r0 18) (x3).toNatClampNeg) + (0 : Int32))) fun M314 => bvv (x5 + (-1 : Int32)) fun y316 => (f_X6_splits_36 k16 n) r0 x1 x2 x3 y307 y316 M314) else (gdd (inb x5 (ln (fld r0 18)) = true) <| bvv (sI M (fld r0 18) (x3).toNatClampNeg ((gI M (fld r0 18) (x3).toNatClampNeg) + (gI M (fld r0 18) (x5).toNatClampNeg))) fun M319 => bvv (x5 + (-1 : Int32)) fun y321 => (f_X6_splits_36 k16 n) r0 x1 x2 x3 y307 y321 M319))
set_option maxRecDepth 100000 in
set_option maxHeartbeats 4000000 in
theorem t_X6_splits_36 {w : Om} {f : Fr} {r : Int32} {M2 : Mem} (C : Cx w f RX6 cX6_splits 6 3) (hR : Rt w f cX6_splits (some .int) (some (.int r)) M2) {k16 : Nat → Int32 → Int32 → Int32 → Mem → Option (Int32 × Mem)} (hk16 : ∀ (r0' : Nat) (x1' : Int32) (x2' : Int32) (x3' : Int32) (M' : Mem), k16 r0' x1' x2' x3' M' = some (r, M2) → Go w f 16 [some (rv w r0'), some (.int x1'), some (.int x2'), some (.int x3'), none, none] [] M') : ∀ (n : Nat) (r0 : Nat) (x1 : Int32) (x2 : Int32) (x3 : Int32) (x4 : Int32) (x5 : Int32) (M : Mem), f_X6_splits_36 k16 n r0 x1 x2 x3 x4 x5 M = some (r, M2) → Go w f 36 [some (rv w r0), some (.int x1), some (.int x2), some (.int x3), some (.int x4), some (.int x5)] [] M := by
  intro n
  induction n with
  | zero =>
    intro r0 x1 x2 x3 x4 x5 M h
    cases h
  | succ n ih =>
    intro r0 x1 x2 x3 x4 x5 M h
    rw [f_X6_splits_36] at h
    refine g_iload C dX6_splits_36 rfl ?_
    refine g_if_lt 90 C dX6_splits_38 (by decide) (fun c301 => ?_) (fun c301 => ?_)
    · replace h := of_ift h c301
      obtain ⟨y302, e303, h⟩ := of_bvv h
      refine g_iinc (v := y302) C dX6_splits_90 rfl e303.symm (by decide) rfl (L2 := [some (rv w r0), some (.int x1), some (.int x2), some (.int y302), some (.int x4), some (.int x5)]) rfl ?_
      refine g_goto 16 C dX6_splits_93 (by decide) ?_
      refine g_mask (bs := [true, true, true, true, false, false]) (L2 := [some (rv w r0), some (.int x1), some (.int x2), some (.int y302), none, none]) rfl ?_
      exact hk16 r0 x1 x2 y302 M h
    · replace h := of_iff h c301
      refine g_iload C dX6_splits_41 rfl ?_
      refine g_aload_n C dX6_splits_43 rfl rfl ?_
      refine g_iload_n C dX6_splits_44 rfl rfl ?_
      refine g_iload C dX6_splits_45 rfl ?_
      obtain ⟨g304, h⟩ := of_gdd h
      obtain ⟨y305, e306, h⟩ := of_obb h
      refine g_callV (As := [.int x1, .int x5]) C (ct_X6_weightOf C.wf e306) g304 lk_RX6_66 mi_X6_weightOf (by decide) (cs_i cs_0) (by decide) dX6_splits_47 rfl ?_
      show Go w f 50 [some (rv w r0), some (.int x1), some (.int x2), some (.int x3), some (.int x4), some (.int x5)] [.int y305, .int x4] M
      refine g_iadd C dX6_splits_50 ?_
      obtain ⟨y307, e308, h⟩ := of_bvv h
      refine g_topi e308 ?_
      refine g_istore C dX6_splits_51 (by decide) rfl (L2 := [some (rv w r0), some (.int x1), some (.int x2), some (.int x3), some (.int y307), some (.int x5)]) rfl ?_
      refine g_aload_n C dX6_splits_53 rfl rfl ?_
      refine gf_6_18 C fl_RX6_31 g304 dX6_splits_54 ?_
      refine g_iload_n C dX6_splits_57 rfl rfl ?_
      refine g_dup2 C rfl (rv_cat _ _) dX6_splits_58 ?_
      obtain ⟨g309, h⟩ := of_gdd h
      obtain ⟨g310, h⟩ := of_gdd h
      refine g_iald C g309 g310 dX6_splits_59 ?_
      refine g_iload C dX6_splits_60 rfl ?_
      refine g_aload_n C dX6_splits_62 rfl rfl ?_
      refine gf_6_0 C fl_RX6_7 g304 dX6_splits_63 ?_
      refine g_iconst (v := 2) C dX6_splits_66 rfl ?_
      obtain ⟨g311, h⟩ := of_gdd h
      obtain ⟨g312, h⟩ := of_gdd h
      refine g_iald C g311 g312 dX6_splits_67 ?_
      refine g_icmp_gt 81 C dX6_splits_68 (by decide) (fun c313 => ?_) (fun c313 => ?_)
      · replace h := of_ift h c313
        refine g_iconst (v := 0) C dX6_splits_81 rfl ?_
        refine g_iadd C dX6_splits_82 ?_
        refine g_iast C g309 g310 dX6_splits_83 ?_
        obtain ⟨M314, e315, h⟩ := of_bvv h
        refine g_mem e315 ?_
        obtain ⟨y316, e317, h⟩ := of_bvv h
        refine g_iinc (v := y316) C dX6_splits_84 rfl e317.symm (by decide) rfl (L2 := [some (rv w r0), some (.int x1), some (.int x2), some (.int x3), some (.int y307), some (.int y316)]) rfl ?_
        refine g_goto 36 C dX6_splits_87 (by decide) ?_
        exact ih r0 x1 x2 x3 y307 y316 M314 h
      · replace h := of_iff h c313
        refine g_aload_n C dX6_splits_71 rfl rfl ?_
        refine gf_6_18 C fl_RX6_31 g304 dX6_splits_72 ?_
        refine g_iload C dX6_splits_75 rfl ?_
        obtain ⟨g318, h⟩ := of_gdd h
        refine g_iald C g309 g318 dX6_splits_77 ?_
        refine g_goto 82 C dX6_splits_78 (by decide) ?_
        refine g_iadd C dX6_splits_82 ?_
        refine g_iast C g309 g310 dX6_splits_83 ?_
        obtain ⟨M319, e320, h⟩ := of_bvv h
        refine g_mem e320 ?_
        obtain ⟨y321, e322, h⟩ := of_bvv h
        refine g_iinc (v := y321) C dX6_splits_84 rfl e322.symm (by decide) rfl (L2 := [some (rv w r0), some (.int x1), some (.int x2), some (.int x3), some (.int y307), some (.int y321)]) rfl ?_
        refine g_goto 36 C dX6_splits_87 (by decide) ?_
        exact ih r0 x1 x2 x3 y307 y321 M319 h
def f_X6_splits_16 : Nat → Nat → Int32 → Int32 → Int32 → Mem → Option (Int32 × Mem)
  | 0, _, _, _, _, _ => none
  | n + 1, r0, x1, x2, x3, M => if x2 < x3 then (gdd (kd r0 = 7) <| gdd (kd (fld r0 18) = 8) <| gdd (inb x2 (ln (fld r0 18)) = true) <| some (gI M (fld r0 18) (x2).toNatClampNeg, M)) else (gdd (kd r0 = 7) <| gdd (kd (fld r0 18) = 8) <| gdd (inb x3 (ln (fld r0 18)) = true) <| bvv (sI M (fld r0 18) (x3).toNatClampNeg (0 : Int32)) fun M208 => bvv (x3 - (1 : Int32)) fun y210 => f_X6_splits_36 (f_X6_splits_16 n) FU r0 x1 x2 x3 (0 : Int32) y210 M208)
set_option maxRecDepth 100000 in
set_option maxHeartbeats 4000000 in
theorem t_X6_splits_16 {w : Om} {f : Fr} {r : Int32} {M2 : Mem} (C : Cx w f RX6 cX6_splits 6 3) (hR : Rt w f cX6_splits (some .int) (some (.int r)) M2)   : ∀ (n : Nat) (r0 : Nat) (x1 : Int32) (x2 : Int32) (x3 : Int32) (M : Mem), f_X6_splits_16 n r0 x1 x2 x3 M = some (r, M2) → Go w f 16 [some (rv w r0), some (.int x1), some (.int x2), some (.int x3), none, none] [] M := by
  intro n
  induction n with
  | zero =>
    intro r0 x1 x2 x3 M h
    cases h
  | succ n ih =>
    intro r0 x1 x2 x3 M h
    rw [f_X6_splits_16] at h
    refine g_iload_n C dX6_splits_16 rfl rfl ?_
    refine g_iload_n C dX6_splits_17 rfl rfl ?_
    refine g_icmp_gt 96 C dX6_splits_18 (by decide) (fun c201 => ?_) (fun c201 => ?_)
    · replace h := of_ift h c201
      refine g_aload_n C dX6_splits_96 rfl rfl ?_
      obtain ⟨g202, h⟩ := of_gdd h
      refine gf_6_18 C fl_RX6_31 g202 dX6_splits_97 ?_
      refine g_iload_n C dX6_splits_100 rfl rfl ?_
      obtain ⟨g203, h⟩ := of_gdd h
      obtain ⟨g204, h⟩ := of_gdd h
      refine g_iald C g203 g204 dX6_splits_101 ?_
      cases h
      exact hR 102 _ ⟨.int, rfl, rfl⟩ dX6_splits_102
    · replace h := of_iff h c201
      refine g_iconst (v := 0) C dX6_splits_21 rfl ?_
      refine g_istore C dX6_splits_22 (by decide) rfl (L2 := [some (rv w r0), some (.int x1), some (.int x2), some (.int x3), some (.int (0 : Int32)), none]) rfl ?_
      refine g_aload_n C dX6_splits_24 rfl rfl ?_
      obtain ⟨g205, h⟩ := of_gdd h
      refine gf_6_18 C fl_RX6_31 g205 dX6_splits_25 ?_
      refine g_iload_n C dX6_splits_28 rfl rfl ?_
      refine g_iconst (v := 0) C dX6_splits_29 rfl ?_
      obtain ⟨g206, h⟩ := of_gdd h
      obtain ⟨g207, h⟩ := of_gdd h
      refine g_iast C g206 g207 dX6_splits_30 ?_
      obtain ⟨M208, e209, h⟩ := of_bvv h
      refine g_mem e209 ?_
      refine g_iload_n C dX6_splits_31 rfl rfl ?_
      refine g_iconst (v := 1) C dX6_splits_32 rfl ?_
      refine g_isub C dX6_splits_33 ?_
      obtain ⟨y210, e211, h⟩ := of_bvv h
      refine g_topi e211 ?_
      refine g_istore C dX6_splits_34 (by decide) rfl (L2 := [some (rv w r0), some (.int x1), some (.int x2), some (.int x3), some (.int (0 : Int32)), some (.int y210)]) rfl ?_
      exact t_X6_splits_36 C hR (fun r0' x1' x2' x3' M' h => ih r0' x1' x2' x3' M' h) _ r0 x1 x2 x3 (0 : Int32) y210 M208 h
def f_X6_splits (r0 : Nat) (x1 : Int32) (M : Mem) : Option (Int32 × Mem) := gdd (kd r0 = 7) <| obb (f_X6_of r0 x1 (0 : Int32) M) fun y2 => gdd (kd (fld r0 18) = 8) <| gdd (inb (0 : Int32) (ln (fld r0 18)) = true) <| bvv (sI M (fld r0 18) ((0 : Int32)).toNatClampNeg (1 : Int32)) fun M6 => f_X6_splits_16 FU r0 x1 y2 (1 : Int32) M6
set_option maxRecDepth 100000 in
set_option maxHeartbeats 4000000 in
theorem ct_X6_splits {l : Launch} {w : Om} (hw : Wf w) {r0 : Nat} {x1 : Int32} {M : Mem} {r : Int32} {M2 : Mem} (h : f_X6_splits r0 x1 M = some (r, M2)) : Ct l w yX6_splits cX6_splits 6 (some .int) 3 [rv w r0, .int x1] M (some (.int r)) M2 := by
  refine ct_of hw (by decide) (cat_s (rv_cat _ _) (cat_s rfl cat_0)) (Nat.le_of_ble_eq_true rfl) (fun f _ C hR => ?_)
  show Go w f 0 [some (rv w r0), some (.int x1), none, none, none, none] [] M
  unfold f_X6_splits at h
  refine g_aload_n C dX6_splits_0 rfl rfl ?_
  refine g_iload_n C dX6_splits_1 rfl rfl ?_
  refine g_iconst (v := 0) C dX6_splits_2 rfl ?_
  obtain ⟨g1, h⟩ := of_gdd h
  obtain ⟨y2, e3, h⟩ := of_obb h
  refine g_callV (As := [.int x1, .int (0 : Int32)]) C (ct_X6_of C.wf e3) g1 lk_RX6_60 mi_X6_of (by decide) cs_0 (by decide) dX6_splits_3 rfl ?_
  show Go w f 6 [some (rv w r0), some (.int x1), none, none, none, none] [.int y2] M
  refine g_istore_n C dX6_splits_6 rfl (by decide) rfl (L2 := [some (rv w r0), some (.int x1), some (.int y2), none, none, none]) rfl ?_
  refine g_aload_n C dX6_splits_7 rfl rfl ?_
  refine gf_6_18 C fl_RX6_31 g1 dX6_splits_8 ?_
  refine g_iconst (v := 0) C dX6_splits_11 rfl ?_
  refine g_iconst (v := 1) C dX6_splits_12 rfl ?_
  obtain ⟨g4, h⟩ := of_gdd h
  obtain ⟨g5, h⟩ := of_gdd h
  refine g_iast C g4 g5 dX6_splits_13 ?_
  obtain ⟨M6, e7, h⟩ := of_bvv h
  refine g_mem e7 ?_
  refine g_iconst (v := 1) C dX6_splits_14 rfl ?_
  refine g_istore_n C dX6_splits_15 rfl (by decide) rfl (L2 := [some (rv w r0), some (.int x1), some (.int y2), some (.int (1 : Int32)), none, none]) rfl ?_
  exact t_X6_splits_16 C hR _ r0 x1 y2 (1 : Int32) M6 h
def f_X6_ways (r0 : Nat) (x1 : Int32) (x2 : Int32) (M : Mem) : Option (Int32 × Mem) := gdd (kd r0 = 7) <| obb (f_X6_isEdition r0 x1 M) fun y2 => if y2 = 0 then (some ((-1 : Int32), M)) else (if (f_X6_in x2 (0 : Int32) (1 : Int32)) = 0 then (some ((-1 : Int32), M)) else (opp (f_X6_splits r0 x1 M) fun y8 M6 => some (y8, M6)))
set_option maxRecDepth 100000 in
set_option maxHeartbeats 4000000 in
theorem ct_X6_ways {l : Launch} {w : Om} (hw : Wf w) {r0 : Nat} {x1 : Int32} {x2 : Int32} {M : Mem} {r : Int32} {M2 : Mem} (h : f_X6_ways r0 x1 x2 M = some (r, M2)) : Ct l w yX6_ways cX6_ways 3 (some .int) 4 [rv w r0, .int x1, .int x2] M (some (.int r)) M2 := by
  refine ct_of hw (by decide) (cat_s (rv_cat _ _) (cat_s rfl (cat_s rfl cat_0))) (Nat.le_of_ble_eq_true rfl) (fun f _ C hR => ?_)
  show Go w f 0 [some (rv w r0), some (.int x1), some (.int x2)] [] M
  unfold f_X6_ways at h
  refine g_aload_n C dX6_ways_0 rfl rfl ?_
  refine g_iload_n C dX6_ways_1 rfl rfl ?_
  obtain ⟨g1, h⟩ := of_gdd h
  obtain ⟨y2, e3, h⟩ := of_obb h
  refine g_callV (As := [.int x1]) C (ct_X6_isEdition C.wf e3) g1 lk_RX6_57 mi_X6_isEdition (by decide) cs_0 (by decide) dX6_ways_2 rfl ?_
  show Go w f 5 [some (rv w r0), some (.int x1), some (.int x2)] [.int y2] M
  refine g_if_eq 25 C dX6_ways_5 (by decide) (fun c4 => ?_) (fun c4 => ?_)
  · replace h := of_ift h c4
    refine g_iconst (v := -1) C dX6_ways_25 rfl ?_
    cases h
    exact hR 26 _ ⟨.int, rfl, rfl⟩ dX6_ways_26
  · replace h := of_iff h c4
    refine g_iload_n C dX6_ways_8 rfl rfl ?_
    refine g_iconst (v := 0) C dX6_ways_9 rfl ?_
    refine g_iconst (v := 1) C dX6_ways_10 rfl ?_
    refine g_callS (As := [.int x2, .int (0 : Int32), .int (1 : Int32)]) C (ct_X6_in C.wf rfl) lk_RX6_42 mi_X6_in (by decide) cs_0 (by decide) dX6_ways_11 rfl ?_
    show Go w f 14 [some (rv w r0), some (.int x1), some (.int x2)] [.int (f_X6_in x2 (0 : Int32) (1 : Int32))] M
    refine g_if_eq 25 C dX6_ways_14 (by decide) (fun c5 => ?_) (fun c5 => ?_)
    · replace h := of_ift h c5
      refine g_iconst (v := -1) C dX6_ways_25 rfl ?_
      cases h
      exact hR 26 _ ⟨.int, rfl, rfl⟩ dX6_ways_26
    · replace h := of_iff h c5
      refine g_aload_n C dX6_ways_17 rfl rfl ?_
      refine g_iload_n C dX6_ways_18 rfl rfl ?_
      obtain ⟨y8, M6, e7, h⟩ := of_opp h
      refine g_callV (As := [.int x1]) C (ct_X6_splits C.wf e7) g1 lk_RX6_214 mi_X6_splits (by decide) cs_0 (by decide) dX6_ways_19 rfl ?_
      show Go w f 22 [some (rv w r0), some (.int x1), some (.int x2)] [.int y8] M6
      refine g_goto 26 C dX6_ways_22 (by decide) ?_
      cases h
      exact hR 26 _ ⟨.int, rfl, rfl⟩ dX6_ways_26
def f_X6_stayed_4 (M : Mem) : Nat → Nat → Int32 → Int32 → Option Int32
  | 0, _, _, _ => none
  | n + 1, r0, x1, x2 => gdd (kd r0 = 7) <| gdd (kd (fld r0 0) = 8) <| gdd (inb (3 : Int32) (ln (fld r0 0)) = true) <| if (gI M (fld r0 0) ((3 : Int32)).toNatClampNeg) ≤ x2 then (some x1) else (obb (f_X6_isStayed r0 x2 M) fun y205 => if y205 = 0 then (bvv (x1 + (0 : Int32)) fun y208 => bvv (x2 + (1 : Int32)) fun y210 => (f_X6_stayed_4 M n) r0 y208 y210) else (bvv (x1 + (1 : Int32)) fun y212 => bvv (x2 + (1 : Int32)) fun y214 => (f_X6_stayed_4 M n) r0 y212 y214))
set_option maxRecDepth 100000 in
set_option maxHeartbeats 4000000 in
theorem t_X6_stayed_4 {w : Om} {f : Fr} {M : Mem} {r : Int32} (C : Cx w f RX6 cX6_stayed 3 2) (hR : Rt w f cX6_stayed (some .int) (some (.int r)) M)   : ∀ (n : Nat) (r0 : Nat) (x1 : Int32) (x2 : Int32), f_X6_stayed_4 M n r0 x1 x2 = some r → Go w f 4 [some (rv w r0), some (.int x1), some (.int x2)] [] M := by
  intro n
  induction n with
  | zero =>
    intro r0 x1 x2 h
    cases h
  | succ n ih =>
    intro r0 x1 x2 h
    rw [f_X6_stayed_4] at h
    refine g_iload_n C dX6_stayed_4 rfl rfl ?_
    refine g_aload_n C dX6_stayed_5 rfl rfl ?_
    obtain ⟨g201, h⟩ := of_gdd h
    refine gf_6_0 C fl_RX6_7 g201 dX6_stayed_6 ?_
    refine g_iconst (v := 3) C dX6_stayed_9 rfl ?_
    obtain ⟨g202, h⟩ := of_gdd h
    obtain ⟨g203, h⟩ := of_gdd h
    refine g_iald C g202 g203 dX6_stayed_10 ?_
    refine g_icmp_ge 36 C dX6_stayed_11 (by decide) (fun c204 => ?_) (fun c204 => ?_)
    · replace h := of_ift h c204
      refine g_iload_n C dX6_stayed_36 rfl rfl ?_
      cases h
      exact hR 37 _ ⟨.int, rfl, rfl⟩ dX6_stayed_37
    · replace h := of_iff h c204
      refine g_iload_n C dX6_stayed_14 rfl rfl ?_
      refine g_aload_n C dX6_stayed_15 rfl rfl ?_
      refine g_iload_n C dX6_stayed_16 rfl rfl ?_
      obtain ⟨y205, e206, h⟩ := of_obb h
      refine g_callV (As := [.int x2]) C (ct_X6_isStayed C.wf e206) g201 lk_RX6_96 mi_X6_isStayed (by decide) (cs_i cs_0) (by decide) dX6_stayed_17 rfl ?_
      show Go w f 20 [some (rv w r0), some (.int x1), some (.int x2)] [.int y205, .int x1] M
      refine g_if_eq 27 C dX6_stayed_20 (by decide) (fun c207 => ?_) (fun c207 => ?_)
      · replace h := of_ift h c207
        refine g_iconst (v := 0) C dX6_stayed_27 rfl ?_
        refine g_iadd C dX6_stayed_28 ?_
        obtain ⟨y208, e209, h⟩ := of_bvv h
        refine g_topi e209 ?_
        refine g_istore_n C dX6_stayed_29 rfl (by decide) (rv_cat _ _) (L2 := [some (rv w r0), some (.int y208), some (.int x2)]) rfl ?_
        obtain ⟨y210, e211, h⟩ := of_bvv h
        refine g_iinc (v := y210) C dX6_stayed_30 rfl e211.symm (by decide) rfl (L2 := [some (rv w r0), some (.int y208), some (.int y210)]) rfl ?_
        refine g_goto 4 C dX6_stayed_33 (by decide) ?_
        exact ih r0 y208 y210 h
      · replace h := of_iff h c207
        refine g_iconst (v := 1) C dX6_stayed_23 rfl ?_
        refine g_goto 28 C dX6_stayed_24 (by decide) ?_
        refine g_iadd C dX6_stayed_28 ?_
        obtain ⟨y212, e213, h⟩ := of_bvv h
        refine g_topi e213 ?_
        refine g_istore_n C dX6_stayed_29 rfl (by decide) (rv_cat _ _) (L2 := [some (rv w r0), some (.int y212), some (.int x2)]) rfl ?_
        obtain ⟨y214, e215, h⟩ := of_bvv h
        refine g_iinc (v := y214) C dX6_stayed_30 rfl e215.symm (by decide) rfl (L2 := [some (rv w r0), some (.int y212), some (.int y214)]) rfl ?_
        refine g_goto 4 C dX6_stayed_33 (by decide) ?_
        exact ih r0 y212 y214 h
def f_X6_stayed (r0 : Nat) (M : Mem) : Option Int32 := f_X6_stayed_4 M FU r0 (0 : Int32) (0 : Int32)
set_option maxRecDepth 100000 in
set_option maxHeartbeats 4000000 in
theorem ct_X6_stayed {l : Launch} {w : Om} (hw : Wf w) {r0 : Nat}  {M : Mem} {r : Int32} (h : f_X6_stayed r0 M = some r) : Ct l w yX6_stayed cX6_stayed 3 (some .int) 2 [rv w r0] M (some (.int r)) M := by
  refine ct_of hw (by decide) (cat_s (rv_cat _ _) cat_0) (Nat.le_of_ble_eq_true rfl) (fun f _ C hR => ?_)
  show Go w f 0 [some (rv w r0), none, none] [] M
  unfold f_X6_stayed at h
  refine g_iconst (v := 0) C dX6_stayed_0 rfl ?_
  refine g_istore_n C dX6_stayed_1 rfl (by decide) (rv_cat _ _) (L2 := [some (rv w r0), some (.int (0 : Int32)), none]) rfl ?_
  refine g_iconst (v := 0) C dX6_stayed_2 rfl ?_
  refine g_istore_n C dX6_stayed_3 rfl (by decide) rfl (L2 := [some (rv w r0), some (.int (0 : Int32)), some (.int (0 : Int32))]) rfl ?_
  exact t_X6_stayed_4 C hR _ r0 (0 : Int32) (0 : Int32) h
def f_X6_allCost_4 (M : Mem) : Nat → Nat → Int32 → Int32 → Option Int32
  | 0, _, _, _ => none
  | n + 1, r0, x1, x2 => gdd (kd r0 = 7) <| gdd (kd (fld r0 0) = 8) <| gdd (inb (3 : Int32) (ln (fld r0 0)) = true) <| if (gI M (fld r0 0) ((3 : Int32)).toNatClampNeg) ≤ x2 then (some x1) else (obb (f_X6_costOf r0 x2 M) fun y205 => bvv (x1 + y205) fun y207 => bvv (x2 + (1 : Int32)) fun y209 => (f_X6_allCost_4 M n) r0 y207 y209)
set_option maxRecDepth 100000 in
set_option maxHeartbeats 4000000 in
theorem t_X6_allCost_4 {w : Om} {f : Fr} {M : Mem} {r : Int32} (C : Cx w f RX6 cX6_allCost 3 8) (hR : Rt w f cX6_allCost (some .int) (some (.int r)) M)   : ∀ (n : Nat) (r0 : Nat) (x1 : Int32) (x2 : Int32), f_X6_allCost_4 M n r0 x1 x2 = some r → Go w f 4 [some (rv w r0), some (.int x1), some (.int x2)] [] M := by
  intro n
  induction n with
  | zero =>
    intro r0 x1 x2 h
    cases h
  | succ n ih =>
    intro r0 x1 x2 h
    rw [f_X6_allCost_4] at h
    refine g_iload_n C dX6_allCost_4 rfl rfl ?_
    refine g_aload_n C dX6_allCost_5 rfl rfl ?_
    obtain ⟨g201, h⟩ := of_gdd h
    refine gf_6_0 C fl_RX6_7 g201 dX6_allCost_6 ?_
    refine g_iconst (v := 3) C dX6_allCost_9 rfl ?_
    obtain ⟨g202, h⟩ := of_gdd h
    obtain ⟨g203, h⟩ := of_gdd h
    refine g_iald C g202 g203 dX6_allCost_10 ?_
    refine g_icmp_ge 28 C dX6_allCost_11 (by decide) (fun c204 => ?_) (fun c204 => ?_)
    · replace h := of_ift h c204
      refine g_iload_n C dX6_allCost_28 rfl rfl ?_
      cases h
      exact hR 29 _ ⟨.int, rfl, rfl⟩ dX6_allCost_29
    · replace h := of_iff h c204
      refine g_iload_n C dX6_allCost_14 rfl rfl ?_
      refine g_aload_n C dX6_allCost_15 rfl rfl ?_
      refine g_iload_n C dX6_allCost_16 rfl rfl ?_
      obtain ⟨y205, e206, h⟩ := of_obb h
      refine g_callV (As := [.int x2]) C (ct_X6_costOf C.wf e206) g201 lk_RX6_89 mi_X6_costOf (by decide) (cs_i cs_0) (by decide) dX6_allCost_17 rfl ?_
      show Go w f 20 [some (rv w r0), some (.int x1), some (.int x2)] [.int y205, .int x1] M
      refine g_iadd C dX6_allCost_20 ?_
      obtain ⟨y207, e208, h⟩ := of_bvv h
      refine g_topi e208 ?_
      refine g_istore_n C dX6_allCost_21 rfl (by decide) (rv_cat _ _) (L2 := [some (rv w r0), some (.int y207), some (.int x2)]) rfl ?_
      obtain ⟨y209, e210, h⟩ := of_bvv h
      refine g_iinc (v := y209) C dX6_allCost_22 rfl e210.symm (by decide) rfl (L2 := [some (rv w r0), some (.int y207), some (.int y209)]) rfl ?_
      refine g_goto 4 C dX6_allCost_25 (by decide) ?_
      exact ih r0 y207 y209 h
def f_X6_allCost (r0 : Nat) (M : Mem) : Option Int32 := f_X6_allCost_4 M FU r0 (0 : Int32) (0 : Int32)
set_option maxRecDepth 100000 in
set_option maxHeartbeats 4000000 in
theorem ct_X6_allCost {l : Launch} {w : Om} (hw : Wf w) {r0 : Nat}  {M : Mem} {r : Int32} (h : f_X6_allCost r0 M = some r) : Ct l w yX6_allCost cX6_allCost 3 (some .int) 8 [rv w r0] M (some (.int r)) M := by
  refine ct_of hw (by decide) (cat_s (rv_cat _ _) cat_0) (Nat.le_of_ble_eq_true rfl) (fun f _ C hR => ?_)
  show Go w f 0 [some (rv w r0), none, none] [] M
  unfold f_X6_allCost at h
  refine g_iconst (v := 0) C dX6_allCost_0 rfl ?_
  refine g_istore_n C dX6_allCost_1 rfl (by decide) (rv_cat _ _) (L2 := [some (rv w r0), some (.int (0 : Int32)), none]) rfl ?_
  refine g_iconst (v := 0) C dX6_allCost_2 rfl ?_
  refine g_istore_n C dX6_allCost_3 rfl (by decide) rfl (L2 := [some (rv w r0), some (.int (0 : Int32)), some (.int (0 : Int32))]) rfl ?_
  exact t_X6_allCost_4 C hR _ r0 (0 : Int32) (0 : Int32) h
def f_X6_countingOnes_4 (M : Mem) : Nat → Nat → Int32 → Int32 → Option Int32
  | 0, _, _, _ => none
  | n + 1, r0, x1, x2 => gdd (kd r0 = 7) <| gdd (kd (fld r0 0) = 8) <| gdd (inb (4 : Int32) (ln (fld r0 0)) = true) <| if (gI M (fld r0 0) ((4 : Int32)).toNatClampNeg) ≤ x2 then (some x1) else (obb (f_X6_doesCount r0 x2 M) fun y205 => if y205 = 0 then (bvv (x1 + (0 : Int32)) fun y208 => bvv (x2 + (1 : Int32)) fun y210 => (f_X6_countingOnes_4 M n) r0 y208 y210) else (bvv (x1 + (1 : Int32)) fun y212 => bvv (x2 + (1 : Int32)) fun y214 => (f_X6_countingOnes_4 M n) r0 y212 y214))
set_option maxRecDepth 100000 in
set_option maxHeartbeats 4000000 in
theorem t_X6_countingOnes_4 {w : Om} {f : Fr} {M : Mem} {r : Int32} (C : Cx w f RX6 cX6_countingOnes 3 4) (hR : Rt w f cX6_countingOnes (some .int) (some (.int r)) M)   : ∀ (n : Nat) (r0 : Nat) (x1 : Int32) (x2 : Int32), f_X6_countingOnes_4 M n r0 x1 x2 = some r → Go w f 4 [some (rv w r0), some (.int x1), some (.int x2)] [] M := by
  intro n
  induction n with
  | zero =>
    intro r0 x1 x2 h
    cases h
  | succ n ih =>
    intro r0 x1 x2 h
    rw [f_X6_countingOnes_4] at h
    refine g_iload_n C dX6_countingOnes_4 rfl rfl ?_
    refine g_aload_n C dX6_countingOnes_5 rfl rfl ?_
    obtain ⟨g201, h⟩ := of_gdd h
    refine gf_6_0 C fl_RX6_7 g201 dX6_countingOnes_6 ?_
    refine g_iconst (v := 4) C dX6_countingOnes_9 rfl ?_
    obtain ⟨g202, h⟩ := of_gdd h
    obtain ⟨g203, h⟩ := of_gdd h
    refine g_iald C g202 g203 dX6_countingOnes_10 ?_
    refine g_icmp_ge 36 C dX6_countingOnes_11 (by decide) (fun c204 => ?_) (fun c204 => ?_)
    · replace h := of_ift h c204
      refine g_iload_n C dX6_countingOnes_36 rfl rfl ?_
      cases h
      exact hR 37 _ ⟨.int, rfl, rfl⟩ dX6_countingOnes_37
    · replace h := of_iff h c204
      refine g_iload_n C dX6_countingOnes_14 rfl rfl ?_
      refine g_aload_n C dX6_countingOnes_15 rfl rfl ?_
      refine g_iload_n C dX6_countingOnes_16 rfl rfl ?_
      obtain ⟨y205, e206, h⟩ := of_obb h
      refine g_callV (As := [.int x2]) C (ct_X6_doesCount C.wf e206) g201 lk_RX6_195 mi_X6_doesCount (by decide) (cs_i cs_0) (by decide) dX6_countingOnes_17 rfl ?_
      show Go w f 20 [some (rv w r0), some (.int x1), some (.int x2)] [.int y205, .int x1] M
      refine g_if_eq 27 C dX6_countingOnes_20 (by decide) (fun c207 => ?_) (fun c207 => ?_)
      · replace h := of_ift h c207
        refine g_iconst (v := 0) C dX6_countingOnes_27 rfl ?_
        refine g_iadd C dX6_countingOnes_28 ?_
        obtain ⟨y208, e209, h⟩ := of_bvv h
        refine g_topi e209 ?_
        refine g_istore_n C dX6_countingOnes_29 rfl (by decide) (rv_cat _ _) (L2 := [some (rv w r0), some (.int y208), some (.int x2)]) rfl ?_
        obtain ⟨y210, e211, h⟩ := of_bvv h
        refine g_iinc (v := y210) C dX6_countingOnes_30 rfl e211.symm (by decide) rfl (L2 := [some (rv w r0), some (.int y208), some (.int y210)]) rfl ?_
        refine g_goto 4 C dX6_countingOnes_33 (by decide) ?_
        exact ih r0 y208 y210 h
      · replace h := of_iff h c207
        refine g_iconst (v := 1) C dX6_countingOnes_23 rfl ?_
        refine g_goto 28 C dX6_countingOnes_24 (by decide) ?_
        refine g_iadd C dX6_countingOnes_28 ?_
        obtain ⟨y212, e213, h⟩ := of_bvv h
        refine g_topi e213 ?_
        refine g_istore_n C dX6_countingOnes_29 rfl (by decide) (rv_cat _ _) (L2 := [some (rv w r0), some (.int y212), some (.int x2)]) rfl ?_
        obtain ⟨y214, e215, h⟩ := of_bvv h
        refine g_iinc (v := y214) C dX6_countingOnes_30 rfl e215.symm (by decide) rfl (L2 := [some (rv w r0), some (.int y212), some (.int y214)]) rfl ?_
        refine g_goto 4 C dX6_countingOnes_33 (by decide) ?_
        exact ih r0 y212 y214 h
def f_X6_countingOnes (r0 : Nat) (M : Mem) : Option Int32 := f_X6_countingOnes_4 M FU r0 (0 : Int32) (0 : Int32)
set_option maxRecDepth 100000 in
set_option maxHeartbeats 4000000 in
theorem ct_X6_countingOnes {l : Launch} {w : Om} (hw : Wf w) {r0 : Nat}  {M : Mem} {r : Int32} (h : f_X6_countingOnes r0 M = some r) : Ct l w yX6_countingOnes cX6_countingOnes 3 (some .int) 4 [rv w r0] M (some (.int r)) M := by
  refine ct_of hw (by decide) (cat_s (rv_cat _ _) cat_0) (Nat.le_of_ble_eq_true rfl) (fun f _ C hR => ?_)
  show Go w f 0 [some (rv w r0), none, none] [] M
  unfold f_X6_countingOnes at h
  refine g_iconst (v := 0) C dX6_countingOnes_0 rfl ?_
  refine g_istore_n C dX6_countingOnes_1 rfl (by decide) (rv_cat _ _) (L2 := [some (rv w r0), some (.int (0 : Int32)), none]) rfl ?_
  refine g_iconst (v := 0) C dX6_countingOnes_2 rfl ?_
  refine g_istore_n C dX6_countingOnes_3 rfl (by decide) rfl (L2 := [some (rv w r0), some (.int (0 : Int32)), some (.int (0 : Int32))]) rfl ?_
  exact t_X6_countingOnes_4 C hR _ r0 (0 : Int32) (0 : Int32) h
def f_X6_allCommas_4 (M : Mem) : Nat → Nat → Int32 → Int32 → Option Int32
  | 0, _, _, _ => none
  | n + 1, r0, x1, x2 => gdd (kd r0 = 7) <| gdd (kd (fld r0 0) = 8) <| gdd (inb (3 : Int32) (ln (fld r0 0)) = true) <| if (gI M (fld r0 0) ((3 : Int32)).toNatClampNeg) ≤ x2 then (some x1) else (obb (f_X6_of r0 x2 (1 : Int32) M) fun y205 => obb (f_X6_ones y205) fun y207 => bvv (x1 + y207) fun y209 => bvv (x2 + (1 : Int32)) fun y211 => (f_X6_allCommas_4 M n) r0 y209 y211)
set_option maxRecDepth 100000 in
set_option maxHeartbeats 4000000 in
theorem t_X6_allCommas_4 {w : Om} {f : Fr} {M : Mem} {r : Int32} (C : Cx w f RX6 cX6_allCommas 3 1) (hR : Rt w f cX6_allCommas (some .int) (some (.int r)) M)   : ∀ (n : Nat) (r0 : Nat) (x1 : Int32) (x2 : Int32), f_X6_allCommas_4 M n r0 x1 x2 = some r → Go w f 4 [some (rv w r0), some (.int x1), some (.int x2)] [] M := by
  intro n
  induction n with
  | zero =>
    intro r0 x1 x2 h
    cases h
  | succ n ih =>
    intro r0 x1 x2 h
    rw [f_X6_allCommas_4] at h
    refine g_iload_n C dX6_allCommas_4 rfl rfl ?_
    refine g_aload_n C dX6_allCommas_5 rfl rfl ?_
    obtain ⟨g201, h⟩ := of_gdd h
    refine gf_6_0 C fl_RX6_7 g201 dX6_allCommas_6 ?_
    refine g_iconst (v := 3) C dX6_allCommas_9 rfl ?_
    obtain ⟨g202, h⟩ := of_gdd h
    obtain ⟨g203, h⟩ := of_gdd h
    refine g_iald C g202 g203 dX6_allCommas_10 ?_
    refine g_icmp_ge 32 C dX6_allCommas_11 (by decide) (fun c204 => ?_) (fun c204 => ?_)
    · replace h := of_ift h c204
      refine g_iload_n C dX6_allCommas_32 rfl rfl ?_
      cases h
      exact hR 33 _ ⟨.int, rfl, rfl⟩ dX6_allCommas_33
    · replace h := of_iff h c204
      refine g_iload_n C dX6_allCommas_14 rfl rfl ?_
      refine g_aload_n C dX6_allCommas_15 rfl rfl ?_
      refine g_iload_n C dX6_allCommas_16 rfl rfl ?_
      refine g_iconst (v := 1) C dX6_allCommas_17 rfl ?_
      obtain ⟨y205, e206, h⟩ := of_obb h
      refine g_callV (As := [.int x2, .int (1 : Int32)]) C (ct_X6_of C.wf e206) g201 lk_RX6_60 mi_X6_of (by decide) (cs_i cs_0) (by decide) dX6_allCommas_18 rfl ?_
      show Go w f 21 [some (rv w r0), some (.int x1), some (.int x2)] [.int y205, .int x1] M
      obtain ⟨y207, e208, h⟩ := of_obb h
      refine g_callS (As := [.int y205]) C (ct_X6_ones C.wf e208) lk_RX6_189 mi_X6_ones (by decide) (cs_i cs_0) (by decide) dX6_allCommas_21 rfl ?_
      show Go w f 24 [some (rv w r0), some (.int x1), some (.int x2)] [.int y207, .int x1] M
      refine g_iadd C dX6_allCommas_24 ?_
      obtain ⟨y209, e210, h⟩ := of_bvv h
      refine g_topi e210 ?_
      refine g_istore_n C dX6_allCommas_25 rfl (by decide) (rv_cat _ _) (L2 := [some (rv w r0), some (.int y209), some (.int x2)]) rfl ?_
      obtain ⟨y211, e212, h⟩ := of_bvv h
      refine g_iinc (v := y211) C dX6_allCommas_26 rfl e212.symm (by decide) rfl (L2 := [some (rv w r0), some (.int y209), some (.int y211)]) rfl ?_
      refine g_goto 4 C dX6_allCommas_29 (by decide) ?_
      exact ih r0 y209 y211 h
def f_X6_allCommas (r0 : Nat) (M : Mem) : Option Int32 := f_X6_allCommas_4 M FU r0 (0 : Int32) (0 : Int32)
set_option maxRecDepth 100000 in
set_option maxHeartbeats 4000000 in
theorem ct_X6_allCommas {l : Launch} {w : Om} (hw : Wf w) {r0 : Nat}  {M : Mem} {r : Int32} (h : f_X6_allCommas r0 M = some r) : Ct l w yX6_allCommas cX6_allCommas 3 (some .int) 1 [rv w r0] M (some (.int r)) M := by
  refine ct_of hw (by decide) (cat_s (rv_cat _ _) cat_0) (Nat.le_of_ble_eq_true rfl) (fun f _ C hR => ?_)
  show Go w f 0 [some (rv w r0), none, none] [] M
  unfold f_X6_allCommas at h
  refine g_iconst (v := 0) C dX6_allCommas_0 rfl ?_
  refine g_istore_n C dX6_allCommas_1 rfl (by decide) (rv_cat _ _) (L2 := [some (rv w r0), some (.int (0 : Int32)), none]) rfl ?_
  refine g_iconst (v := 0) C dX6_allCommas_2 rfl ?_
  refine g_istore_n C dX6_allCommas_3 rfl (by decide) rfl (L2 := [some (rv w r0), some (.int (0 : Int32)), some (.int (0 : Int32))]) rfl ?_
  exact t_X6_allCommas_4 C hR _ r0 (0 : Int32) (0 : Int32) h
def f_X6_cheapest_12 (M : Mem) : Nat → Nat → Int32 → Int32 → Option Int32
  | 0, _, _, _ => none
  | n + 1, r0, x1, x2 => if x2 < 0 then (some x1) else (if x1 = (-4 : Int32) then (bvv (x2 + (-1 : Int32)) fun y203 => (f_X6_cheapest_12 M n) r0 x2 y203) else (gdd (kd r0 = 7) <| obb (f_X6_costOf r0 x2 M) fun y206 => obb (f_X6_costOf r0 x1 M) fun y208 => if y208 < y206 then (bvv (x2 + (-1 : Int32)) fun y211 => (f_X6_cheapest_12 M n) r0 x1 y211) else (bvv (x2 + (-1 : Int32)) fun y213 => (f_X6_cheapest_12 M n) r0 x2 y213)))
set_option maxRecDepth 100000 in
set_option maxHeartbeats 4000000 in
theorem t_X6_cheapest_12 {w : Om} {f : Fr} {M : Mem} {r : Int32} (C : Cx w f RX6 cX6_cheapest 3 8) (hR : Rt w f cX6_cheapest (some .int) (some (.int r)) M)   : ∀ (n : Nat) (r0 : Nat) (x1 : Int32) (x2 : Int32), f_X6_cheapest_12 M n r0 x1 x2 = some r → Go w f 12 [some (rv w r0), some (.int x1), some (.int x2)] [] M := by
  intro n
  induction n with
  | zero =>
    intro r0 x1 x2 h
    cases h
  | succ n ih =>
    intro r0 x1 x2 h
    rw [f_X6_cheapest_12] at h
    refine g_iload_n C dX6_cheapest_12 rfl rfl ?_
    refine g_if_lt 47 C dX6_cheapest_13 (by decide) (fun c201 => ?_) (fun c201 => ?_)
    · replace h := of_ift h c201
      refine g_iload_n C dX6_cheapest_47 rfl rfl ?_
      cases h
      exact hR 48 _ ⟨.int, rfl, rfl⟩ dX6_cheapest_48
    · replace h := of_iff h c201
      refine g_iload_n C dX6_cheapest_16 rfl rfl ?_
      refine g_bipush (v := -4) C dX6_cheapest_17 rfl ?_
      refine g_icmp_eq 35 C dX6_cheapest_19 (by decide) (fun c202 => ?_) (fun c202 => ?_)
      · replace h := of_ift h c202
        refine g_iload_n C dX6_cheapest_35 rfl rfl ?_
        refine g_goto 40 C dX6_cheapest_36 (by decide) ?_
        refine g_istore_n C dX6_cheapest_40 rfl (by decide) (rv_cat _ _) (L2 := [some (rv w r0), some (.int x2), some (.int x2)]) rfl ?_
        obtain ⟨y203, e204, h⟩ := of_bvv h
        refine g_iinc (v := y203) C dX6_cheapest_41 rfl e204.symm (by decide) rfl (L2 := [some (rv w r0), some (.int x2), some (.int y203)]) rfl ?_
        refine g_goto 12 C dX6_cheapest_44 (by decide) ?_
        exact ih r0 x2 y203 h
      · replace h := of_iff h c202
        refine g_aload_n C dX6_cheapest_22 rfl rfl ?_
        refine g_iload_n C dX6_cheapest_23 rfl rfl ?_
        obtain ⟨g205, h⟩ := of_gdd h
        obtain ⟨y206, e207, h⟩ := of_obb h
        refine g_callV (As := [.int x2]) C (ct_X6_costOf C.wf e207) g205 lk_RX6_89 mi_X6_costOf (by decide) cs_0 (by decide) dX6_cheapest_24 rfl ?_
        show Go w f 27 [some (rv w r0), some (.int x1), some (.int x2)] [.int y206] M
        refine g_aload_n C dX6_cheapest_27 rfl rfl ?_
        refine g_iload_n C dX6_cheapest_28 rfl rfl ?_
        obtain ⟨y208, e209, h⟩ := of_obb h
        refine g_callV (As := [.int x1]) C (ct_X6_costOf C.wf e209) g205 lk_RX6_89 mi_X6_costOf (by decide) (cs_i cs_0) (by decide) dX6_cheapest_29 rfl ?_
        show Go w f 32 [some (rv w r0), some (.int x1), some (.int x2)] [.int y208, .int y206] M
        refine g_icmp_gt 39 C dX6_cheapest_32 (by decide) (fun c210 => ?_) (fun c210 => ?_)
        · replace h := of_ift h c210
          refine g_iload_n C dX6_cheapest_39 rfl rfl ?_
          refine g_istore_n C dX6_cheapest_40 rfl (by decide) (rv_cat _ _) (L2 := [some (rv w r0), some (.int x1), some (.int x2)]) rfl ?_
          obtain ⟨y211, e212, h⟩ := of_bvv h
          refine g_iinc (v := y211) C dX6_cheapest_41 rfl e212.symm (by decide) rfl (L2 := [some (rv w r0), some (.int x1), some (.int y211)]) rfl ?_
          refine g_goto 12 C dX6_cheapest_44 (by decide) ?_
          exact ih r0 x1 y211 h
        · replace h := of_iff h c210
          refine g_iload_n C dX6_cheapest_35 rfl rfl ?_
          refine g_goto 40 C dX6_cheapest_36 (by decide) ?_
          refine g_istore_n C dX6_cheapest_40 rfl (by decide) (rv_cat _ _) (L2 := [some (rv w r0), some (.int x2), some (.int x2)]) rfl ?_
          obtain ⟨y213, e214, h⟩ := of_bvv h
          refine g_iinc (v := y213) C dX6_cheapest_41 rfl e214.symm (by decide) rfl (L2 := [some (rv w r0), some (.int x2), some (.int y213)]) rfl ?_
          refine g_goto 12 C dX6_cheapest_44 (by decide) ?_
          exact ih r0 x2 y213 h
def f_X6_cheapest (r0 : Nat) (M : Mem) : Option Int32 := gdd (kd r0 = 7) <| gdd (kd (fld r0 0) = 8) <| gdd (inb (3 : Int32) (ln (fld r0 0)) = true) <| bvv ((gI M (fld r0 0) ((3 : Int32)).toNatClampNeg) - (1 : Int32)) fun y4 => f_X6_cheapest_12 M FU r0 (-4 : Int32) y4
set_option maxRecDepth 100000 in
set_option maxHeartbeats 4000000 in
theorem ct_X6_cheapest {l : Launch} {w : Om} (hw : Wf w) {r0 : Nat}  {M : Mem} {r : Int32} (h : f_X6_cheapest r0 M = some r) : Ct l w yX6_cheapest cX6_cheapest 3 (some .int) 8 [rv w r0] M (some (.int r)) M := by
  refine ct_of hw (by decide) (cat_s (rv_cat _ _) cat_0) (Nat.le_of_ble_eq_true rfl) (fun f _ C hR => ?_)
  show Go w f 0 [some (rv w r0), none, none] [] M
  unfold f_X6_cheapest at h
  refine g_bipush (v := -4) C dX6_cheapest_0 rfl ?_
  refine g_istore_n C dX6_cheapest_2 rfl (by decide) (rv_cat _ _) (L2 := [some (rv w r0), some (.int (-4 : Int32)), none]) rfl ?_
  refine g_aload_n C dX6_cheapest_3 rfl rfl ?_
  obtain ⟨g1, h⟩ := of_gdd h
  refine gf_6_0 C fl_RX6_7 g1 dX6_cheapest_4 ?_
  refine g_iconst (v := 3) C dX6_cheapest_7 rfl ?_
  obtain ⟨g2, h⟩ := of_gdd h
  obtain ⟨g3, h⟩ := of_gdd h
  refine g_iald C g2 g3 dX6_cheapest_8 ?_
  refine g_iconst (v := 1) C dX6_cheapest_9 rfl ?_
  refine g_isub C dX6_cheapest_10 ?_
  obtain ⟨y4, e5, h⟩ := of_bvv h
  refine g_topi e5 ?_
  refine g_istore_n C dX6_cheapest_11 rfl (by decide) rfl (L2 := [some (rv w r0), some (.int (-4 : Int32)), some (.int y4)]) rfl ?_
  exact t_X6_cheapest_12 C hR _ r0 (-4 : Int32) y4 h
def f_X6_count (r0 : Nat) (x1 : Int32) (M : Mem) : Option Int32 := if x1 = nI 0 then (gdd (kd r0 = 7) <| gdd (kd (fld r0 0) = 8) <| gdd (inb (0 : Int32) (ln (fld r0 0)) = true) <| some (gI M (fld r0 0) ((0 : Int32)).toNatClampNeg)) else if x1 = nI 1 then (gdd (kd r0 = 7) <| gdd (kd (fld r0 0) = 8) <| gdd (inb (3 : Int32) (ln (fld r0 0)) = true) <| some (gI M (fld r0 0) ((3 : Int32)).toNatClampNeg)) else if x1 = nI 2 then (gdd (kd r0 = 7) <| obb (f_X6_stayed r0 M) fun y11 => some y11) else if x1 = nI 3 then (gdd (kd r0 = 7) <| obb (f_X6_allCost r0 M) fun y15 => some y15) else if x1 = nI 4 then (gdd (kd r0 = 7) <| gdd (kd (fld r0 0) = 8) <| gdd (inb (4 : Int32) (ln (fld r0 0)) = true) <| some (gI M (fld r0 0) ((4 : Int32)).toNatClampNeg)) else if x1 = nI 5 then (gdd (kd r0 = 7) <| obb (f_X6_inForce r0 M) fun y23 => some y23) else if x1 = nI 6 then (gdd (kd r0 = 7) <| obb (f_X6_countingOnes r0 M) fun y27 => some y27) else if x1 = nI 7 then (gdd (kd r0 = 7) <| gdd (kd (fld r0 0) = 8) <| gdd (inb (5 : Int32) (ln (fld r0 0)) = true) <| some (gI M (fld r0 0) ((5 : Int32)).toNatClampNeg)) else if x1 = nI 8 then (gdd (kd r0 = 7) <| gdd (kd (fld r0 0) = 8) <| gdd (inb (6 : Int32) (ln (fld r0 0)) = true) <| some (gI M (fld r0 0) ((6 : Int32)).toNatClampNeg)) else if x1 = nI 9 then (gdd (kd r0 = 7) <| obb (f_X6_allCommas r0 M) fun y39 => some y39) else if x1 = nI 10 then (gdd (kd r0 = 7) <| gdd (kd (fld r0 0) = 8) <| gdd (inb (((1 : Int32) + x1) - (10 : Int32)) (ln (fld r0 0)) = true) <| some (gI M (fld r0 0) (((1 : Int32) + x1) - (10 : Int32)).toNatClampNeg)) else if x1 = nI 11 then (gdd (kd r0 = 7) <| gdd (kd (fld r0 0) = 8) <| gdd (inb (((1 : Int32) + x1) - (10 : Int32)) (ln (fld r0 0)) = true) <| some (gI M (fld r0 0) (((1 : Int32) + x1) - (10 : Int32)).toNatClampNeg)) else if x1 = nI 12 then (gdd (kd r0 = 7) <| obb (f_X6_cheapest r0 M) fun y51 => some y51) else if x1 = nI 13 then (gdd (kd r0 = 7) <| some (gI M r0 6)) else if x1 = nI 14 then (gdd (kd r0 = 7) <| some (gI M r0 2)) else (some (-1 : Int32))
set_option maxRecDepth 100000 in
set_option maxHeartbeats 4000000 in
theorem ct_X6_count {l : Launch} {w : Om} (hw : Wf w) {r0 : Nat} {x1 : Int32}  {M : Mem} {r : Int32} (h : f_X6_count r0 x1 M = some r) : Ct l w yX6_count cX6_count 2 (some .int) 9 [rv w r0, .int x1] M (some (.int r)) M := by
  refine ct_of hw (by decide) (cat_s (rv_cat _ _) (cat_s rfl cat_0)) (Nat.le_of_ble_eq_true rfl) (fun f _ C hR => ?_)
  show Go w f 0 [some (rv w r0), some (.int x1)] [] M
  unfold f_X6_count at h
  refine g_iload_n C dX6_count_0 rfl rfl ?_
  by_cases c1 : x1 = nI 0
  · replace h := of_ift h c1
    refine g_tsI (nI 0) (75) 76 C dX6_count_1 c1 (by decide) (by decide) rfl (by decide) ?_
    refine g_aload_n C dX6_count_76 rfl rfl ?_
    obtain ⟨g2, h⟩ := of_gdd h
    refine gf_6_0 C fl_RX6_7 g2 dX6_count_77 ?_
    refine g_iconst (v := 0) C dX6_count_80 rfl ?_
    obtain ⟨g3, h⟩ := of_gdd h
    obtain ⟨g4, h⟩ := of_gdd h
    refine g_iald C g3 g4 dX6_count_81 ?_
    cases h
    exact hR 82 _ ⟨.int, rfl, rfl⟩ dX6_count_82
  replace h := of_iff h c1
  by_cases c5 : x1 = nI 1
  · replace h := of_ift h c5
    refine g_tsI (nI 1) (82) 83 C dX6_count_1 c5 (by decide) (by decide) rfl (by decide) ?_
    refine g_aload_n C dX6_count_83 rfl rfl ?_
    obtain ⟨g6, h⟩ := of_gdd h
    refine gf_6_0 C fl_RX6_7 g6 dX6_count_84 ?_
    refine g_iconst (v := 3) C dX6_count_87 rfl ?_
    obtain ⟨g7, h⟩ := of_gdd h
    obtain ⟨g8, h⟩ := of_gdd h
    refine g_iald C g7 g8 dX6_count_88 ?_
    cases h
    exact hR 89 _ ⟨.int, rfl, rfl⟩ dX6_count_89
  replace h := of_iff h c5
  by_cases c9 : x1 = nI 2
  · replace h := of_ift h c9
    refine g_tsI (nI 2) (89) 90 C dX6_count_1 c9 (by decide) (by decide) rfl (by decide) ?_
    refine g_aload_n C dX6_count_90 rfl rfl ?_
    obtain ⟨g10, h⟩ := of_gdd h
    obtain ⟨y11, e12, h⟩ := of_obb h
    refine g_callV (As := []) C (ct_X6_stayed C.wf e12) g10 lk_RX6_217 mi_X6_stayed (by decide) cs_0 (by decide) dX6_count_91 rfl ?_
    show Go w f 94 [some (rv w r0), some (.int x1)] [.int y11] M
    cases h
    exact hR 94 _ ⟨.int, rfl, rfl⟩ dX6_count_94
  replace h := of_iff h c9
  by_cases c13 : x1 = nI 3
  · replace h := of_ift h c13
    refine g_tsI (nI 3) (94) 95 C dX6_count_1 c13 (by decide) (by decide) rfl (by decide) ?_
    refine g_aload_n C dX6_count_95 rfl rfl ?_
    obtain ⟨g14, h⟩ := of_gdd h
    obtain ⟨y15, e16, h⟩ := of_obb h
    refine g_callV (As := []) C (ct_X6_allCost C.wf e16) g14 lk_RX6_220 mi_X6_allCost (by decide) cs_0 (by decide) dX6_count_96 rfl ?_
    show Go w f 99 [some (rv w r0), some (.int x1)] [.int y15] M
    cases h
    exact hR 99 _ ⟨.int, rfl, rfl⟩ dX6_count_99
  replace h := of_iff h c13
  by_cases c17 : x1 = nI 4
  · replace h := of_ift h c17
    refine g_tsI (nI 4) (99) 100 C dX6_count_1 c17 (by decide) (by decide) rfl (by decide) ?_
    refine g_aload_n C dX6_count_100 rfl rfl ?_
    obtain ⟨g18, h⟩ := of_gdd h
    refine gf_6_0 C fl_RX6_7 g18 dX6_count_101 ?_
    refine g_iconst (v := 4) C dX6_count_104 rfl ?_
    obtain ⟨g19, h⟩ := of_gdd h
    obtain ⟨g20, h⟩ := of_gdd h
    refine g_iald C g19 g20 dX6_count_105 ?_
    cases h
    exact hR 106 _ ⟨.int, rfl, rfl⟩ dX6_count_106
  replace h := of_iff h c17
  by_cases c21 : x1 = nI 5
  · replace h := of_ift h c21
    refine g_tsI (nI 5) (106) 107 C dX6_count_1 c21 (by decide) (by decide) rfl (by decide) ?_
    refine g_aload_n C dX6_count_107 rfl rfl ?_
    obtain ⟨g22, h⟩ := of_gdd h
    obtain ⟨y23, e24, h⟩ := of_obb h
    refine g_callV (As := []) C (ct_X6_inForce C.wf e24) g22 lk_RX6_125 mi_X6_inForce (by decide) cs_0 (by decide) dX6_count_108 rfl ?_
    show Go w f 111 [some (rv w r0), some (.int x1)] [.int y23] M
    cases h
    exact hR 111 _ ⟨.int, rfl, rfl⟩ dX6_count_111
  replace h := of_iff h c21
  by_cases c25 : x1 = nI 6
  · replace h := of_ift h c25
    refine g_tsI (nI 6) (111) 112 C dX6_count_1 c25 (by decide) (by decide) rfl (by decide) ?_
    refine g_aload_n C dX6_count_112 rfl rfl ?_
    obtain ⟨g26, h⟩ := of_gdd h
    obtain ⟨y27, e28, h⟩ := of_obb h
    refine g_callV (As := []) C (ct_X6_countingOnes C.wf e28) g26 lk_RX6_223 mi_X6_countingOnes (by decide) cs_0 (by decide) dX6_count_113 rfl ?_
    show Go w f 116 [some (rv w r0), some (.int x1)] [.int y27] M
    cases h
    exact hR 116 _ ⟨.int, rfl, rfl⟩ dX6_count_116
  replace h := of_iff h c25
  by_cases c29 : x1 = nI 7
  · replace h := of_ift h c29
    refine g_tsI (nI 7) (116) 117 C dX6_count_1 c29 (by decide) (by decide) rfl (by decide) ?_
    refine g_aload_n C dX6_count_117 rfl rfl ?_
    obtain ⟨g30, h⟩ := of_gdd h
    refine gf_6_0 C fl_RX6_7 g30 dX6_count_118 ?_
    refine g_iconst (v := 5) C dX6_count_121 rfl ?_
    obtain ⟨g31, h⟩ := of_gdd h
    obtain ⟨g32, h⟩ := of_gdd h
    refine g_iald C g31 g32 dX6_count_122 ?_
    cases h
    exact hR 123 _ ⟨.int, rfl, rfl⟩ dX6_count_123
  replace h := of_iff h c29
  by_cases c33 : x1 = nI 8
  · replace h := of_ift h c33
    refine g_tsI (nI 8) (123) 124 C dX6_count_1 c33 (by decide) (by decide) rfl (by decide) ?_
    refine g_aload_n C dX6_count_124 rfl rfl ?_
    obtain ⟨g34, h⟩ := of_gdd h
    refine gf_6_0 C fl_RX6_7 g34 dX6_count_125 ?_
    refine g_bipush (v := 6) C dX6_count_128 rfl ?_
    obtain ⟨g35, h⟩ := of_gdd h
    obtain ⟨g36, h⟩ := of_gdd h
    refine g_iald C g35 g36 dX6_count_130 ?_
    cases h
    exact hR 131 _ ⟨.int, rfl, rfl⟩ dX6_count_131
  replace h := of_iff h c33
  by_cases c37 : x1 = nI 9
  · replace h := of_ift h c37
    refine g_tsI (nI 9) (131) 132 C dX6_count_1 c37 (by decide) (by decide) rfl (by decide) ?_
    refine g_aload_n C dX6_count_132 rfl rfl ?_
    obtain ⟨g38, h⟩ := of_gdd h
    obtain ⟨y39, e40, h⟩ := of_obb h
    refine g_callV (As := []) C (ct_X6_allCommas C.wf e40) g38 lk_RX6_226 mi_X6_allCommas (by decide) cs_0 (by decide) dX6_count_133 rfl ?_
    show Go w f 136 [some (rv w r0), some (.int x1)] [.int y39] M
    cases h
    exact hR 136 _ ⟨.int, rfl, rfl⟩ dX6_count_136
  replace h := of_iff h c37
  by_cases c41 : x1 = nI 10
  · replace h := of_ift h c41
    refine g_tsI (nI 10) (136) 137 C dX6_count_1 c41 (by decide) (by decide) rfl (by decide) ?_
    refine g_aload_n C dX6_count_137 rfl rfl ?_
    obtain ⟨g42, h⟩ := of_gdd h
    refine gf_6_0 C fl_RX6_7 g42 dX6_count_138 ?_
    refine g_iconst (v := 1) C dX6_count_141 rfl ?_
    refine g_iload_n C dX6_count_142 rfl rfl ?_
    refine g_iadd C dX6_count_143 ?_
    refine g_bipush (v := 10) C dX6_count_144 rfl ?_
    refine g_isub C dX6_count_146 ?_
    obtain ⟨g43, h⟩ := of_gdd h
    obtain ⟨g44, h⟩ := of_gdd h
    refine g_iald C g43 g44 dX6_count_147 ?_
    cases h
    exact hR 148 _ ⟨.int, rfl, rfl⟩ dX6_count_148
  replace h := of_iff h c41
  by_cases c45 : x1 = nI 11
  · replace h := of_ift h c45
    refine g_tsI (nI 11) (136) 137 C dX6_count_1 c45 (by decide) (by decide) rfl (by decide) ?_
    refine g_aload_n C dX6_count_137 rfl rfl ?_
    obtain ⟨g46, h⟩ := of_gdd h
    refine gf_6_0 C fl_RX6_7 g46 dX6_count_138 ?_
    refine g_iconst (v := 1) C dX6_count_141 rfl ?_
    refine g_iload_n C dX6_count_142 rfl rfl ?_
    refine g_iadd C dX6_count_143 ?_
    refine g_bipush (v := 10) C dX6_count_144 rfl ?_
    refine g_isub C dX6_count_146 ?_
    obtain ⟨g47, h⟩ := of_gdd h
    obtain ⟨g48, h⟩ := of_gdd h
    refine g_iald C g47 g48 dX6_count_147 ?_
    cases h
    exact hR 148 _ ⟨.int, rfl, rfl⟩ dX6_count_148
  replace h := of_iff h c45
  by_cases c49 : x1 = nI 12
  · replace h := of_ift h c49
    refine g_tsI (nI 12) (148) 149 C dX6_count_1 c49 (by decide) (by decide) rfl (by decide) ?_
    refine g_aload_n C dX6_count_149 rfl rfl ?_
    obtain ⟨g50, h⟩ := of_gdd h
    obtain ⟨y51, e52, h⟩ := of_obb h
    refine g_callV (As := []) C (ct_X6_cheapest C.wf e52) g50 lk_RX6_229 mi_X6_cheapest (by decide) cs_0 (by decide) dX6_count_150 rfl ?_
    show Go w f 153 [some (rv w r0), some (.int x1)] [.int y51] M
    cases h
    exact hR 153 _ ⟨.int, rfl, rfl⟩ dX6_count_153
  replace h := of_iff h c49
  by_cases c53 : x1 = nI 13
  · replace h := of_ift h c53
    refine g_tsI (nI 13) (153) 154 C dX6_count_1 c53 (by decide) (by decide) rfl (by decide) ?_
    refine g_aload_n C dX6_count_154 rfl rfl ?_
    obtain ⟨g54, h⟩ := of_gdd h
    refine gf_6_6 C fl_RX6_135 g54 dX6_count_155 ?_
    cases h
    exact hR 158 _ ⟨.int, rfl, rfl⟩ dX6_count_158
  replace h := of_iff h c53
  by_cases c55 : x1 = nI 14
  · replace h := of_ift h c55
    refine g_tsI (nI 14) (158) 159 C dX6_count_1 c55 (by decide) (by decide) rfl (by decide) ?_
    refine g_aload_n C dX6_count_159 rfl rfl ?_
    obtain ⟨g56, h⟩ := of_gdd h
    refine gf_6_2 C fl_RX6_34 g56 dX6_count_160 ?_
    cases h
    exact hR 163 _ ⟨.int, rfl, rfl⟩ dX6_count_163
  replace h := of_iff h c55
  refine g_tsD 15 164 C dX6_count_1 (by decide) rfl rfl (p_lt (lt_s (lt_s (lt_s (lt_s (lt_s (lt_s (lt_s (lt_s (lt_s (lt_s (lt_s (lt_s (lt_s (lt_s (lt_s lt_0 c1) c5) c9) c13) c17) c21) c25) c29) c33) c37) c41) c45) c49) c53) c55)) (by decide) ?_
  refine g_iconst (v := -1) C dX6_count_164 rfl ?_
  cases h
  exact hR 165 _ ⟨.int, rfl, rfl⟩ dX6_count_165
def f_X6_length_4 (M : Mem) : Nat → Nat → Int32 → Int32 → Option UInt64
  | 0, _, _, _ => none
  | n + 1, r0, x1, x2 => gdd (kd r0 = 7) <| gdd (kd (fld r0 0) = 8) <| gdd (inb (3 : Int32) (ln (fld r0 0)) = true) <| if (gI M (fld r0 0) ((3 : Int32)).toNatClampNeg) ≤ x2 then (if (gI M (fld r0 0) ((3 : Int32)).toNatClampNeg) = 0 then (some FP.dconst0) else (obb (f_X6_allCommas r0 M) fun y206 => gdd (nN (FP.ddiv (FP.i2d x1) (FP.i2d (y206 + (gI M (fld r0 0) ((3 : Int32)).toNatClampNeg)))) = true) <| some (FP.ddiv (FP.i2d x1) (FP.i2d (y206 + (gI M (fld r0 0) ((3 : Int32)).toNatClampNeg)))))) else (obb (f_X6_of r0 x2 (0 : Int32) M) fun y209 => bvv (x1 + y209) fun y211 => bvv (x2 + (1 : Int32)) fun y213 => (f_X6_length_4 M n) r0 y211 y213)
set_option maxRecDepth 100000 in
set_option maxHeartbeats 4000000 in
theorem t_X6_length_4 {w : Om} {f : Fr} {M : Mem} {r : UInt64} (C : Cx w f RX6 cX6_length 3 2) (hR : Rt w f cX6_length (some .double) (some (.double r)) M)   : ∀ (n : Nat) (r0 : Nat) (x1 : Int32) (x2 : Int32), f_X6_length_4 M n r0 x1 x2 = some r → Go w f 4 [some (rv w r0), some (.int x1), some (.int x2)] [] M := by
  intro n
  induction n with
  | zero =>
    intro r0 x1 x2 h
    cases h
  | succ n ih =>
    intro r0 x1 x2 h
    rw [f_X6_length_4] at h
    refine g_iload_n C dX6_length_4 rfl rfl ?_
    refine g_aload_n C dX6_length_5 rfl rfl ?_
    obtain ⟨g201, h⟩ := of_gdd h
    refine gf_6_0 C fl_RX6_7 g201 dX6_length_6 ?_
    refine g_iconst (v := 3) C dX6_length_9 rfl ?_
    obtain ⟨g202, h⟩ := of_gdd h
    obtain ⟨g203, h⟩ := of_gdd h
    refine g_iald C g202 g203 dX6_length_10 ?_
    refine g_icmp_ge 29 C dX6_length_11 (by decide) (fun c204 => ?_) (fun c204 => ?_)
    · replace h := of_ift h c204
      refine g_aload_n C dX6_length_29 rfl rfl ?_
      refine gf_6_0 C fl_RX6_7 g201 dX6_length_30 ?_
      refine g_iconst (v := 3) C dX6_length_33 rfl ?_
      refine g_iald C g202 g203 dX6_length_34 ?_
      refine g_if_ne 42 C dX6_length_35 (by decide) (fun c205 => ?_) (fun c205 => ?_)
      · replace h := of_iff h c205
        refine g_iload_n C dX6_length_42 rfl rfl ?_
        refine g_i2d C dX6_length_43 ?_
        refine g_aload_n C dX6_length_44 rfl rfl ?_
        obtain ⟨y206, e207, h⟩ := of_obb h
        refine g_callV (As := []) C (ct_X6_allCommas C.wf e207) g201 lk_RX6_226 mi_X6_allCommas (by decide) (cs_d cs_0) (by decide) dX6_length_45 rfl ?_
        show Go w f 48 [some (rv w r0), some (.int x1), some (.int x2)] [.int y206, .double (FP.i2d x1)] M
        refine g_aload_n C dX6_length_48 rfl rfl ?_
        refine gf_6_0 C fl_RX6_7 g201 dX6_length_49 ?_
        refine g_iconst (v := 3) C dX6_length_52 rfl ?_
        refine g_iald C g202 g203 dX6_length_53 ?_
        refine g_iadd C dX6_length_54 ?_
        refine g_i2d C dX6_length_55 ?_
        obtain ⟨g208, h⟩ := of_gdd h
        refine g_ddiv C dX6_length_56 (nN_use g208) ?_
        cases h
        exact hR 57 _ rfl dX6_length_57
      · replace h := of_ift h c205
        refine g_dconst0 C dX6_length_38 ?_
        refine g_goto 57 C dX6_length_39 (by decide) ?_
        cases h
        exact hR 57 _ rfl dX6_length_57
    · replace h := of_iff h c204
      refine g_iload_n C dX6_length_14 rfl rfl ?_
      refine g_aload_n C dX6_length_15 rfl rfl ?_
      refine g_iload_n C dX6_length_16 rfl rfl ?_
      refine g_iconst (v := 0) C dX6_length_17 rfl ?_
      obtain ⟨y209, e210, h⟩ := of_obb h
      refine g_callV (As := [.int x2, .int (0 : Int32)]) C (ct_X6_of C.wf e210) g201 lk_RX6_60 mi_X6_of (by decide) (cs_i cs_0) (by decide) dX6_length_18 rfl ?_
      show Go w f 21 [some (rv w r0), some (.int x1), some (.int x2)] [.int y209, .int x1] M
      refine g_iadd C dX6_length_21 ?_
      obtain ⟨y211, e212, h⟩ := of_bvv h
      refine g_topi e212 ?_
      refine g_istore_n C dX6_length_22 rfl (by decide) (rv_cat _ _) (L2 := [some (rv w r0), some (.int y211), some (.int x2)]) rfl ?_
      obtain ⟨y213, e214, h⟩ := of_bvv h
      refine g_iinc (v := y213) C dX6_length_23 rfl e214.symm (by decide) rfl (L2 := [some (rv w r0), some (.int y211), some (.int y213)]) rfl ?_
      refine g_goto 4 C dX6_length_26 (by decide) ?_
      exact ih r0 y211 y213 h
def f_X6_length (r0 : Nat) (M : Mem) : Option UInt64 := f_X6_length_4 M FU r0 (0 : Int32) (0 : Int32)
set_option maxRecDepth 100000 in
set_option maxHeartbeats 4000000 in
theorem ct_X6_length {l : Launch} {w : Om} (hw : Wf w) {r0 : Nat}  {M : Mem} {r : UInt64} (h : f_X6_length r0 M = some r) : Ct l w yX6_length cX6_length 3 (some .double) 2 [rv w r0] M (some (.double r)) M := by
  refine ct_of hw (by decide) (cat_s (rv_cat _ _) cat_0) (Nat.le_of_ble_eq_true rfl) (fun f _ C hR => ?_)
  show Go w f 0 [some (rv w r0), none, none] [] M
  unfold f_X6_length at h
  refine g_iconst (v := 0) C dX6_length_0 rfl ?_
  refine g_istore_n C dX6_length_1 rfl (by decide) (rv_cat _ _) (L2 := [some (rv w r0), some (.int (0 : Int32)), none]) rfl ?_
  refine g_iconst (v := 0) C dX6_length_2 rfl ?_
  refine g_istore_n C dX6_length_3 rfl (by decide) rfl (L2 := [some (rv w r0), some (.int (0 : Int32)), some (.int (0 : Int32))]) rfl ?_
  exact t_X6_length_4 C hR _ r0 (0 : Int32) (0 : Int32) h
def f_X6_fineBy (r0 : Nat) (x1 : Int32) (x2 : Int32) (x3 : Int32) (x4 : Int32) (M : Mem) : Option Int32 := gdd (kd r0 = 7) <| obb (f_X6_of r0 x1 (1 : Int32) M) fun y2 => if ((y2 >>> (x2 &&& 31)) &&& (1 : Int32)) = (1 : Int32) then (if (1 : Int32) = x3 then (some (0 : Int32)) else (some x4)) else (if (0 : Int32) = x3 then (some (0 : Int32)) else (some x4))
set_option maxRecDepth 100000 in
set_option maxHeartbeats 4000000 in
theorem ct_X6_fineBy {l : Launch} {w : Om} (hw : Wf w) {r0 : Nat} {x1 : Int32} {x2 : Int32} {x3 : Int32} {x4 : Int32}  {M : Mem} {r : Int32} (h : f_X6_fineBy r0 x1 x2 x3 x4 M = some r) : Ct l w yX6_fineBy cX6_fineBy 6 (some .int) 1 [rv w r0, .int x1, .int x2, .int x3, .int x4] M (some (.int r)) M := by
  refine ct_of hw (by decide) (cat_s (rv_cat _ _) (cat_s rfl (cat_s rfl (cat_s rfl (cat_s rfl cat_0))))) (Nat.le_of_ble_eq_true rfl) (fun f _ C hR => ?_)
  show Go w f 0 [some (rv w r0), some (.int x1), some (.int x2), some (.int x3), some (.int x4), none] [] M
  unfold f_X6_fineBy at h
  refine g_aload_n C dX6_fineBy_0 rfl rfl ?_
  refine g_iload_n C dX6_fineBy_1 rfl rfl ?_
  refine g_iconst (v := 1) C dX6_fineBy_2 rfl ?_
  obtain ⟨g1, h⟩ := of_gdd h
  obtain ⟨y2, e3, h⟩ := of_obb h
  refine g_callV (As := [.int x1, .int (1 : Int32)]) C (ct_X6_of C.wf e3) g1 lk_RX6_60 mi_X6_of (by decide) cs_0 (by decide) dX6_fineBy_3 rfl ?_
  show Go w f 6 [some (rv w r0), some (.int x1), some (.int x2), some (.int x3), some (.int x4), none] [.int y2] M
  refine g_iload_n C dX6_fineBy_6 rfl rfl ?_
  refine g_ishr C dX6_fineBy_7 ?_
  refine g_iconst (v := 1) C dX6_fineBy_8 rfl ?_
  refine g_iand C dX6_fineBy_9 ?_
  refine g_iconst (v := 1) C dX6_fineBy_10 rfl ?_
  refine g_icmp_ne 18 C dX6_fineBy_11 (by decide) (fun c4 => ?_) (fun c4 => ?_)
  · replace h := of_iff h c4
    refine g_iconst (v := 0) C dX6_fineBy_18 rfl ?_
    refine g_istore C dX6_fineBy_19 (by decide) rfl (L2 := [some (rv w r0), some (.int x1), some (.int x2), some (.int x3), some (.int x4), some (.int (0 : Int32))]) rfl ?_
    refine g_iload C dX6_fineBy_21 rfl ?_
    refine g_iload_n C dX6_fineBy_23 rfl rfl ?_
    refine g_icmp_ne 31 C dX6_fineBy_24 (by decide) (fun c5 => ?_) (fun c5 => ?_)
    · replace h := of_iff h c5
      refine g_iload C dX6_fineBy_31 rfl ?_
      cases h
      exact hR 33 _ ⟨.int, rfl, rfl⟩ dX6_fineBy_33
    · replace h := of_ift h c5
      refine g_iconst (v := 0) C dX6_fineBy_27 rfl ?_
      refine g_goto 33 C dX6_fineBy_28 (by decide) ?_
      cases h
      exact hR 33 _ ⟨.int, rfl, rfl⟩ dX6_fineBy_33
  · replace h := of_ift h c4
    refine g_iconst (v := 1) C dX6_fineBy_14 rfl ?_
    refine g_goto 19 C dX6_fineBy_15 (by decide) ?_
    refine g_istore C dX6_fineBy_19 (by decide) rfl (L2 := [some (rv w r0), some (.int x1), some (.int x2), some (.int x3), some (.int x4), some (.int (1 : Int32))]) rfl ?_
    refine g_iload C dX6_fineBy_21 rfl ?_
    refine g_iload_n C dX6_fineBy_23 rfl rfl ?_
    refine g_icmp_ne 31 C dX6_fineBy_24 (by decide) (fun c6 => ?_) (fun c6 => ?_)
    · replace h := of_iff h c6
      refine g_iload C dX6_fineBy_31 rfl ?_
      cases h
      exact hR 33 _ ⟨.int, rfl, rfl⟩ dX6_fineBy_33
    · replace h := of_ift h c6
      refine g_iconst (v := 0) C dX6_fineBy_27 rfl ?_
      refine g_goto 33 C dX6_fineBy_28 (by decide) ?_
      cases h
      exact hR 33 _ ⟨.int, rfl, rfl⟩ dX6_fineBy_33
def f_X6_ifRuled_32 (M : Mem) (k18 : Nat → Int32 → Int32 → Int32 → Int32 → Int32 → Int32 → Option Int32) : Nat → Nat → Int32 → Int32 → Int32 → Int32 → Int32 → Int32 → Int32 → Option Int32
  | 0, _, _, _, _, _, _, _, _ => none
  | n + 1, r0, x1, x2, x3, x4, x5, x6, x7 => gdd (kd r0 = 7) <| obb (f_X6_of r0 x6 (0 : Int32) M) fun y302 => if y302 ≤ (x7 + (1 : Int32)) then (bvv (x6 + (1 : Int32)) fun y305 => k18 r0 x1 x2 x3 x4 x5 y305) else (obb (f_X6_wordOf r0 x6 x7 M) fun y307 => if y307 = x1 then (obb (f_X6_wordOf r0 x6 (x7 + (1 : Int32)) M) fun y314 => if y314 = x2 then (obb (f_X6_fineBy r0 x6 x7 x3 x4 M) fun y321 => obb (f_X6_of r0 x6 (1 : Int32) M) fun y323 => obb (f_X6_fineOf r0 x6 x7 y323 M) fun y325 => bvv (x5 + (y321 - y325)) fun y327 => bvv (x7 + (1 : Int32)) fun y329 => (f_X6_ifRuled_32 M k18 n) r0 x1 x2 x3 x4 y327 x6 y329) else (bvv (x5 + (0 : Int32)) fun y317 => bvv (x7 + (1 : Int32)) fun y319 => (f_X6_ifRuled_32 M k18 n) r0 x1 x2 x3 x4 y317 x6 y319)) else (bvv (x5 + (0 : Int32)) fun y310 => bvv (x7 + (1 : Int32)) fun y312 => (f_X6_ifRuled_32 M k18 n) r0 x1 x2 x3 x4 y310 x6 y312))
set_option maxRecDepth 100000 in
set_option maxHeartbeats 4000000 in
theorem t_X6_ifRuled_32 {w : Om} {f : Fr} {M : Mem} {r : Int32} (C : Cx w f RX6 cX6_ifRuled 9 5) (hR : Rt w f cX6_ifRuled (some .int) (some (.int r)) M) {k18 : Nat → Int32 → Int32 → Int32 → Int32 → Int32 → Int32 → Option Int32} (hk18 : ∀ (r0' : Nat) (x1' : Int32) (x2' : Int32) (x3' : Int32) (x4' : Int32) (x5' : Int32) (x6' : Int32), k18 r0' x1' x2' x3' x4' x5' x6' = some r → Go w f 18 [some (rv w r0'), some (.int x1'), some (.int x2'), some (.int x3'), some (.int x4'), some (.int x5'), some (.int x6'), none, none] [] M) : ∀ (n : Nat) (r0 : Nat) (x1 : Int32) (x2 : Int32) (x3 : Int32) (x4 : Int32) (x5 : Int32) (x6 : Int32) (x7 : Int32), f_X6_ifRuled_32 M k18 n r0 x1 x2 x3 x4 x5 x6 x7 = some r → Go w f 32 [some (rv w r0), some (.int x1), some (.int x2), some (.int x3), some (.int x4), some (.int x5), some (.int x6), some (.int x7), none] [] M := by
  intro n
  induction n with
  | zero =>
    intro r0 x1 x2 x3 x4 x5 x6 x7 h
    cases h
  | succ n ih =>
    intro r0 x1 x2 x3 x4 x5 x6 x7 h
    rw [f_X6_ifRuled_32] at h
    refine g_iload C dX6_ifRuled_32 rfl ?_
    refine g_iconst (v := 1) C dX6_ifRuled_34 rfl ?_
    refine g_iadd C dX6_ifRuled_35 ?_
    refine g_aload_n C dX6_ifRuled_36 rfl rfl ?_
    refine g_iload C dX6_ifRuled_37 rfl ?_
    refine g_iconst (v := 0) C dX6_ifRuled_39 rfl ?_
    obtain ⟨g301, h⟩ := of_gdd h
    obtain ⟨y302, e303, h⟩ := of_obb h
    refine g_callV (As := [.int x6, .int (0 : Int32)]) C (ct_X6_of C.wf e303) g301 lk_RX6_60 mi_X6_of (by decide) (cs_i cs_0) (by decide) dX6_ifRuled_40 rfl ?_
    show Go w f 43 [some (rv w r0), some (.int x1), some (.int x2), some (.int x3), some (.int x4), some (.int x5), some (.int x6), some (.int x7), none] [.int y302, .int (x7 + (1 : Int32))] M
    refine g_icmp_ge 126 C dX6_ifRuled_43 (by decide) (fun c304 => ?_) (fun c304 => ?_)
    · replace h := of_ift h c304
      obtain ⟨y305, e306, h⟩ := of_bvv h
      refine g_iinc (v := y305) C dX6_ifRuled_126 rfl e306.symm (by decide) rfl (L2 := [some (rv w r0), some (.int x1), some (.int x2), some (.int x3), some (.int x4), some (.int x5), some (.int y305), some (.int x7), none]) rfl ?_
      refine g_goto 18 C dX6_ifRuled_129 (by decide) ?_
      refine g_mask (bs := [true, true, true, true, true, true, true, false, false]) (L2 := [some (rv w r0), some (.int x1), some (.int x2), some (.int x3), some (.int x4), some (.int x5), some (.int y305), none, none]) rfl ?_
      exact hk18 r0 x1 x2 x3 x4 x5 y305 h
    · replace h := of_iff h c304
      refine g_aload_n C dX6_ifRuled_46 rfl rfl ?_
      refine g_iload C dX6_ifRuled_47 rfl ?_
      refine g_iload C dX6_ifRuled_49 rfl ?_
      obtain ⟨y307, e308, h⟩ := of_obb h
      refine g_callV (As := [.int x6, .int x7]) C (ct_X6_wordOf C.wf e308) g301 lk_RX6_63 mi_X6_wordOf (by decide) cs_0 (by decide) dX6_ifRuled_51 rfl ?_
      show Go w f 54 [some (rv w r0), some (.int x1), some (.int x2), some (.int x3), some (.int x4), some (.int x5), some (.int x6), some (.int x7), none] [.int y307] M
      refine g_iload_n C dX6_ifRuled_54 rfl rfl ?_
      refine g_icmp_ne 76 C dX6_ifRuled_55 (by decide) (fun c309 => ?_) (fun c309 => ?_)
      · replace h := of_iff h c309
        refine g_iconst (v := 0) C dX6_ifRuled_76 rfl ?_
        refine g_istore C dX6_ifRuled_77 (by decide) rfl (L2 := [some (rv w r0), some (.int x1), some (.int x2), some (.int x3), some (.int x4), some (.int x5), some (.int x6), some (.int x7), some (.int (0 : Int32))]) rfl ?_
        refine g_iload C dX6_ifRuled_79 rfl ?_
        refine g_iload C dX6_ifRuled_81 rfl ?_
        refine g_if_eq 116 C dX6_ifRuled_83 (by decide) (fun _ => ?_) (fun c => absurd c (by decide))
        refine g_iconst (v := 0) C dX6_ifRuled_116 rfl ?_
        refine g_iadd C dX6_ifRuled_117 ?_
        obtain ⟨y310, e311, h⟩ := of_bvv h
        refine g_topi e311 ?_
        refine g_istore C dX6_ifRuled_118 (by decide) rfl (L2 := [some (rv w r0), some (.int x1), some (.int x2), some (.int x3), some (.int x4), some (.int y310), some (.int x6), some (.int x7), some (.int (0 : Int32))]) rfl ?_
        obtain ⟨y312, e313, h⟩ := of_bvv h
        refine g_iinc (v := y312) C dX6_ifRuled_120 rfl e313.symm (by decide) rfl (L2 := [some (rv w r0), some (.int x1), some (.int x2), some (.int x3), some (.int x4), some (.int y310), some (.int x6), some (.int y312), some (.int (0 : Int32))]) rfl ?_
        refine g_goto 32 C dX6_ifRuled_123 (by decide) ?_
        refine g_mask (bs := [true, true, true, true, true, true, true, true, false]) (L2 := [some (rv w r0), some (.int x1), some (.int x2), some (.int x3), some (.int x4), some (.int y310), some (.int x6), some (.int y312), none]) rfl ?_
        exact ih r0 x1 x2 x3 x4 y310 x6 y312 h
      · replace h := of_ift h c309
        refine g_aload_n C dX6_ifRuled_58 rfl rfl ?_
        refine g_iload C dX6_ifRuled_59 rfl ?_
        refine g_iload C dX6_ifRuled_61 rfl ?_
        refine g_iconst (v := 1) C dX6_ifRuled_63 rfl ?_
        refine g_iadd C dX6_ifRuled_64 ?_
        obtain ⟨y314, e315, h⟩ := of_obb h
        refine g_callV (As := [.int x6, .int (x7 + (1 : Int32))]) C (ct_X6_wordOf C.wf e315) g301 lk_RX6_63 mi_X6_wordOf (by decide) cs_0 (by decide) dX6_ifRuled_65 rfl ?_
        show Go w f 68 [some (rv w r0), some (.int x1), some (.int x2), some (.int x3), some (.int x4), some (.int x5), some (.int x6), some (.int x7), none] [.int y314] M
        refine g_iload_n C dX6_ifRuled_68 rfl rfl ?_
        refine g_icmp_ne 76 C dX6_ifRuled_69 (by decide) (fun c316 => ?_) (fun c316 => ?_)
        · replace h := of_iff h c316
          refine g_iconst (v := 0) C dX6_ifRuled_76 rfl ?_
          refine g_istore C dX6_ifRuled_77 (by decide) rfl (L2 := [some (rv w r0), some (.int x1), some (.int x2), some (.int x3), some (.int x4), some (.int x5), some (.int x6), some (.int x7), some (.int (0 : Int32))]) rfl ?_
          refine g_iload C dX6_ifRuled_79 rfl ?_
          refine g_iload C dX6_ifRuled_81 rfl ?_
          refine g_if_eq 116 C dX6_ifRuled_83 (by decide) (fun _ => ?_) (fun c => absurd c (by decide))
          refine g_iconst (v := 0) C dX6_ifRuled_116 rfl ?_
          refine g_iadd C dX6_ifRuled_117 ?_
          obtain ⟨y317, e318, h⟩ := of_bvv h
          refine g_topi e318 ?_
          refine g_istore C dX6_ifRuled_118 (by decide) rfl (L2 := [some (rv w r0), some (.int x1), some (.int x2), some (.int x3), some (.int x4), some (.int y317), some (.int x6), some (.int x7), some (.int (0 : Int32))]) rfl ?_
          obtain ⟨y319, e320, h⟩ := of_bvv h
          refine g_iinc (v := y319) C dX6_ifRuled_120 rfl e320.symm (by decide) rfl (L2 := [some (rv w r0), some (.int x1), some (.int x2), some (.int x3), some (.int x4), some (.int y317), some (.int x6), some (.int y319), some (.int (0 : Int32))]) rfl ?_
          refine g_goto 32 C dX6_ifRuled_123 (by decide) ?_
          refine g_mask (bs := [true, true, true, true, true, true, true, true, false]) (L2 := [some (rv w r0), some (.int x1), some (.int x2), some (.int x3), some (.int x4), some (.int y317), some (.int x6), some (.int y319), none]) rfl ?_
          exact ih r0 x1 x2 x3 x4 y317 x6 y319 h
        · replace h := of_ift h c316
          refine g_iconst (v := 1) C dX6_ifRuled_72 rfl ?_
          refine g_goto 77 C dX6_ifRuled_73 (by decide) ?_
          refine g_istore C dX6_ifRuled_77 (by decide) rfl (L2 := [some (rv w r0), some (.int x1), some (.int x2), some (.int x3), some (.int x4), some (.int x5), some (.int x6), some (.int x7), some (.int (1 : Int32))]) rfl ?_
          refine g_iload C dX6_ifRuled_79 rfl ?_
          refine g_iload C dX6_ifRuled_81 rfl ?_
          refine g_if_eq 116 C dX6_ifRuled_83 (by decide) (fun c => absurd c (by decide)) (fun _ => ?_)
          refine g_aload_n C dX6_ifRuled_86 rfl rfl ?_
          refine g_iload C dX6_ifRuled_87 rfl ?_
          refine g_iload C dX6_ifRuled_89 rfl ?_
          refine g_iload_n C dX6_ifRuled_91 rfl rfl ?_
          refine g_iload C dX6_ifRuled_92 rfl ?_
          obtain ⟨y321, e322, h⟩ := of_obb h
          refine g_callV (As := [.int x6, .int x7, .int x3, .int x4]) C (ct_X6_fineBy C.wf e322) g301 lk_RX6_232 mi_X6_fineBy (by decide) (cs_i cs_0) (by decide) dX6_ifRuled_94 rfl ?_
          show Go w f 97 [some (rv w r0), some (.int x1), some (.int x2), some (.int x3), some (.int x4), some (.int x5), some (.int x6), some (.int x7), some (.int (1 : Int32))] [.int y321, .int x5] M
          refine g_aload_n C dX6_ifRuled_97 rfl rfl ?_
          refine g_iload C dX6_ifRuled_98 rfl ?_
          refine g_iload C dX6_ifRuled_100 rfl ?_
          refine g_aload_n C dX6_ifRuled_102 rfl rfl ?_
          refine g_iload C dX6_ifRuled_103 rfl ?_
          refine g_iconst (v := 1) C dX6_ifRuled_105 rfl ?_
          obtain ⟨y323, e324, h⟩ := of_obb h
          refine g_callV (As := [.int x6, .int (1 : Int32)]) C (ct_X6_of C.wf e324) g301 lk_RX6_60 mi_X6_of (by decide) (cs_i (cs_i (cs_r (cs_i (cs_i cs_0))))) (by decide) dX6_ifRuled_106 rfl ?_
          show Go w f 109 [some (rv w r0), some (.int x1), some (.int x2), some (.int x3), some (.int x4), some (.int x5), some (.int x6), some (.int x7), some (.int (1 : Int32))] [.int y323, .int x7, .int x6, rv w r0, .int y321, .int x5] M
          obtain ⟨y325, e326, h⟩ := of_obb h
          refine g_callV (As := [.int x6, .int x7, .int y323]) C (ct_X6_fineOf C.wf e326) g301 lk_RX6_76 mi_X6_fineOf (by decide) (cs_i (cs_i cs_0)) (by decide) dX6_ifRuled_109 rfl ?_
          show Go w f 112 [some (rv w r0), some (.int x1), some (.int x2), some (.int x3), some (.int x4), some (.int x5), some (.int x6), some (.int x7), some (.int (1 : Int32))] [.int y325, .int y321, .int x5] M
          refine g_isub C dX6_ifRuled_112 ?_
          refine g_goto 117 C dX6_ifRuled_113 (by decide) ?_
          refine g_iadd C dX6_ifRuled_117 ?_
          obtain ⟨y327, e328, h⟩ := of_bvv h
          refine g_topi e328 ?_
          refine g_istore C dX6_ifRuled_118 (by decide) rfl (L2 := [some (rv w r0), some (.int x1), some (.int x2), some (.int x3), some (.int x4), some (.int y327), some (.int x6), some (.int x7), some (.int (1 : Int32))]) rfl ?_
          obtain ⟨y329, e330, h⟩ := of_bvv h
          refine g_iinc (v := y329) C dX6_ifRuled_120 rfl e330.symm (by decide) rfl (L2 := [some (rv w r0), some (.int x1), some (.int x2), some (.int x3), some (.int x4), some (.int y327), some (.int x6), some (.int y329), some (.int (1 : Int32))]) rfl ?_
          refine g_goto 32 C dX6_ifRuled_123 (by decide) ?_
          refine g_mask (bs := [true, true, true, true, true, true, true, true, false]) (L2 := [some (rv w r0), some (.int x1), some (.int x2), some (.int x3), some (.int x4), some (.int y327), some (.int x6), some (.int y329), none]) rfl ?_
          exact ih r0 x1 x2 x3 x4 y327 x6 y329 h
def f_X6_ifRuled_18 (M : Mem) : Nat → Nat → Int32 → Int32 → Int32 → Int32 → Int32 → Int32 → Option Int32
  | 0, _, _, _, _, _, _, _ => none
  | n + 1, r0, x1, x2, x3, x4, x5, x6 => gdd (kd r0 = 7) <| gdd (kd (fld r0 0) = 8) <| gdd (inb (3 : Int32) (ln (fld r0 0)) = true) <| if (gI M (fld r0 0) ((3 : Int32)).toNatClampNeg) ≤ x6 then (some ((1000 : Int32) + x5)) else (f_X6_ifRuled_32 M (f_X6_ifRuled_18 M n) FU r0 x1 x2 x3 x4 x5 x6 (0 : Int32))
set_option maxRecDepth 100000 in
set_option maxHeartbeats 4000000 in
theorem t_X6_ifRuled_18 {w : Om} {f : Fr} {M : Mem} {r : Int32} (C : Cx w f RX6 cX6_ifRuled 9 5) (hR : Rt w f cX6_ifRuled (some .int) (some (.int r)) M)   : ∀ (n : Nat) (r0 : Nat) (x1 : Int32) (x2 : Int32) (x3 : Int32) (x4 : Int32) (x5 : Int32) (x6 : Int32), f_X6_ifRuled_18 M n r0 x1 x2 x3 x4 x5 x6 = some r → Go w f 18 [some (rv w r0), some (.int x1), some (.int x2), some (.int x3), some (.int x4), some (.int x5), some (.int x6), none, none] [] M := by
  intro n
  induction n with
  | zero =>
    intro r0 x1 x2 x3 x4 x5 x6 h
    cases h
  | succ n ih =>
    intro r0 x1 x2 x3 x4 x5 x6 h
    rw [f_X6_ifRuled_18] at h
    refine g_iload C dX6_ifRuled_18 rfl ?_
    refine g_aload_n C dX6_ifRuled_20 rfl rfl ?_
    obtain ⟨g201, h⟩ := of_gdd h
    refine gf_6_0 C fl_RX6_7 g201 dX6_ifRuled_21 ?_
    refine g_iconst (v := 3) C dX6_ifRuled_24 rfl ?_
    obtain ⟨g202, h⟩ := of_gdd h
    obtain ⟨g203, h⟩ := of_gdd h
    refine g_iald C g202 g203 dX6_ifRuled_25 ?_
    refine g_icmp_ge 132 C dX6_ifRuled_26 (by decide) (fun c204 => ?_) (fun c204 => ?_)
    · replace h := of_ift h c204
      refine g_sipush (v := 1000) C dX6_ifRuled_132 rfl ?_
      refine g_iload C dX6_ifRuled_135 rfl ?_
      refine g_iadd C dX6_ifRuled_137 ?_
      cases h
      exact hR 138 _ ⟨.int, rfl, rfl⟩ dX6_ifRuled_138
    · replace h := of_iff h c204
      refine g_iconst (v := 0) C dX6_ifRuled_29 rfl ?_
      refine g_istore C dX6_ifRuled_30 (by decide) rfl (L2 := [some (rv w r0), some (.int x1), some (.int x2), some (.int x3), some (.int x4), some (.int x5), some (.int x6), some (.int (0 : Int32)), none]) rfl ?_
      exact t_X6_ifRuled_32 C hR (fun r0' x1' x2' x3' x4' x5' x6' h => ih r0' x1' x2' x3' x4' x5' x6' h) _ r0 x1 x2 x3 x4 x5 x6 (0 : Int32) h
def f_X6_ifRuled (r0 : Nat) (x1 : Int32) (x2 : Int32) (x3 : Int32) (x4 : Int32) (M : Mem) : Option Int32 := if (f_X6_isRule x1 x2 x4) = 0 then (some (-1 : Int32)) else (f_X6_ifRuled_18 M FU r0 x1 x2 x3 x4 (0 : Int32) (0 : Int32))
set_option maxRecDepth 100000 in
set_option maxHeartbeats 4000000 in
theorem ct_X6_ifRuled {l : Launch} {w : Om} (hw : Wf w) {r0 : Nat} {x1 : Int32} {x2 : Int32} {x3 : Int32} {x4 : Int32}  {M : Mem} {r : Int32} (h : f_X6_ifRuled r0 x1 x2 x3 x4 M = some r) : Ct l w yX6_ifRuled cX6_ifRuled 9 (some .int) 5 [rv w r0, .int x1, .int x2, .int x3, .int x4] M (some (.int r)) M := by
  refine ct_of hw (by decide) (cat_s (rv_cat _ _) (cat_s rfl (cat_s rfl (cat_s rfl (cat_s rfl cat_0))))) (Nat.le_of_ble_eq_true rfl) (fun f _ C hR => ?_)
  show Go w f 0 [some (rv w r0), some (.int x1), some (.int x2), some (.int x3), some (.int x4), none, none, none, none] [] M
  unfold f_X6_ifRuled at h
  refine g_iload_n C dX6_ifRuled_0 rfl rfl ?_
  refine g_iload_n C dX6_ifRuled_1 rfl rfl ?_
  refine g_iload C dX6_ifRuled_2 rfl ?_
  refine g_callS (As := [.int x1, .int x2, .int x4]) C (ct_X6_isRule C.wf rfl) lk_RX6_115 mi_X6_isRule (by decide) cs_0 (by decide) dX6_ifRuled_4 rfl ?_
  show Go w f 7 [some (rv w r0), some (.int x1), some (.int x2), some (.int x3), some (.int x4), none, none, none, none] [.int (f_X6_isRule x1 x2 x4)] M
  refine g_if_ne 12 C dX6_ifRuled_7 (by decide) (fun c1 => ?_) (fun c1 => ?_)
  · replace h := of_iff h c1
    refine g_iconst (v := 0) C dX6_ifRuled_12 rfl ?_
    refine g_istore C dX6_ifRuled_13 (by decide) rfl (L2 := [some (rv w r0), some (.int x1), some (.int x2), some (.int x3), some (.int x4), some (.int (0 : Int32)), none, none, none]) rfl ?_
    refine g_iconst (v := 0) C dX6_ifRuled_15 rfl ?_
    refine g_istore C dX6_ifRuled_16 (by decide) rfl (L2 := [some (rv w r0), some (.int x1), some (.int x2), some (.int x3), some (.int x4), some (.int (0 : Int32)), some (.int (0 : Int32)), none, none]) rfl ?_
    exact t_X6_ifRuled_18 C hR _ r0 x1 x2 x3 x4 (0 : Int32) (0 : Int32) h
  · replace h := of_ift h c1
    refine g_iconst (v := -1) C dX6_ifRuled_10 rfl ?_
    cases h
    exact hR 11 _ ⟨.int, rfl, rfl⟩ dX6_ifRuled_11
def f_X6_bestSuit_18 (M : Mem) : Nat → Nat → Int32 → Int32 → Int32 → Int32 → Option Int32
  | 0, _, _, _, _, _ => none
  | n + 1, r0, x1, x2, x3, x4 => gdd (kd r0 = 7) <| obb (f_X6_of r0 x1 (0 : Int32) M) fun y202 => if y202 ≤ (x4 + (1 : Int32)) then (some x2) else (obb (f_X6_of r0 x1 (1 : Int32) M) fun y205 => obb (f_X6_costBy r0 x1 (y205 ^^^ ((1 : Int32) <<< (x4 &&& 31))) M) fun y207 => obb (f_X6_reasonToRefuse r0 x1 x4 M) fun y209 => if y209 = 0 then (if x2 = (-4 : Int32) then (bvv (x4 + (1 : Int32)) fun y215 => (f_X6_bestSuit_18 M n) r0 x1 x4 y207 y215) else (if x3 ≤ y207 then (bvv (x4 + (1 : Int32)) fun y218 => (f_X6_bestSuit_18 M n) r0 x1 x2 x3 y218) else (bvv (x4 + (1 : Int32)) fun y220 => (f_X6_bestSuit_18 M n) r0 x1 x4 y207 y220))) else (bvv (x4 + (1 : Int32)) fun y212 => (f_X6_bestSuit_18 M n) r0 x1 x2 x3 y212))
set_option maxRecDepth 100000 in
set_option maxHeartbeats 4000000 in
theorem t_X6_bestSuit_18 {w : Om} {f : Fr} {M : Mem} {r : Int32} (C : Cx w f RX6 cX6_bestSuit 7 9) (hR : Rt w f cX6_bestSuit (some .int) (some (.int r)) M)   : ∀ (n : Nat) (r0 : Nat) (x1 : Int32) (x2 : Int32) (x3 : Int32) (x4 : Int32), f_X6_bestSuit_18 M n r0 x1 x2 x3 x4 = some r → Go w f 18 [some (rv w r0), some (.int x1), some (.int x2), some (.int x3), some (.int x4), none, none] [] M := by
  intro n
  induction n with
  | zero =>
    intro r0 x1 x2 x3 x4 h
    cases h
  | succ n ih =>
    intro r0 x1 x2 x3 x4 h
    rw [f_X6_bestSuit_18] at h
    refine g_iload C dX6_bestSuit_18 rfl ?_
    refine g_iconst (v := 1) C dX6_bestSuit_20 rfl ?_
    refine g_iadd C dX6_bestSuit_21 ?_
    refine g_aload_n C dX6_bestSuit_22 rfl rfl ?_
    refine g_iload_n C dX6_bestSuit_23 rfl rfl ?_
    refine g_iconst (v := 0) C dX6_bestSuit_24 rfl ?_
    obtain ⟨g201, h⟩ := of_gdd h
    obtain ⟨y202, e203, h⟩ := of_obb h
    refine g_callV (As := [.int x1, .int (0 : Int32)]) C (ct_X6_of C.wf e203) g201 lk_RX6_60 mi_X6_of (by decide) (cs_i cs_0) (by decide) dX6_bestSuit_25 rfl ?_
    show Go w f 28 [some (rv w r0), some (.int x1), some (.int x2), some (.int x3), some (.int x4), none, none] [.int y202, .int (x4 + (1 : Int32))] M
    refine g_icmp_ge 108 C dX6_bestSuit_28 (by decide) (fun c204 => ?_) (fun c204 => ?_)
    · replace h := of_ift h c204
      refine g_iload_n C dX6_bestSuit_108 rfl rfl ?_
      cases h
      exact hR 109 _ ⟨.int, rfl, rfl⟩ dX6_bestSuit_109
    · replace h := of_iff h c204
      refine g_aload_n C dX6_bestSuit_31 rfl rfl ?_
      refine g_iload_n C dX6_bestSuit_32 rfl rfl ?_
      refine g_aload_n C dX6_bestSuit_33 rfl rfl ?_
      refine g_iload_n C dX6_bestSuit_34 rfl rfl ?_
      refine g_iconst (v := 1) C dX6_bestSuit_35 rfl ?_
      obtain ⟨y205, e206, h⟩ := of_obb h
      refine g_callV (As := [.int x1, .int (1 : Int32)]) C (ct_X6_of C.wf e206) g201 lk_RX6_60 mi_X6_of (by decide) (cs_i (cs_r cs_0)) (by decide) dX6_bestSuit_36 rfl ?_
      show Go w f 39 [some (rv w r0), some (.int x1), some (.int x2), some (.int x3), some (.int x4), none, none] [.int y205, .int x1, rv w r0] M
      refine g_iconst (v := 1) C dX6_bestSuit_39 rfl ?_
      refine g_iload C dX6_bestSuit_40 rfl ?_
      refine g_ishl C dX6_bestSuit_42 ?_
      refine g_ixor C dX6_bestSuit_43 ?_
      obtain ⟨y207, e208, h⟩ := of_obb h
      refine g_callV (As := [.int x1, .int (y205 ^^^ ((1 : Int32) <<< (x4 &&& 31)))]) C (ct_X6_costBy C.wf e208) g201 lk_RX6_86 mi_X6_costBy (by decide) cs_0 (by decide) dX6_bestSuit_44 rfl ?_
      show Go w f 47 [some (rv w r0), some (.int x1), some (.int x2), some (.int x3), some (.int x4), none, none] [.int y207] M
      refine g_istore C dX6_bestSuit_47 (by decide) rfl (L2 := [some (rv w r0), some (.int x1), some (.int x2), some (.int x3), some (.int x4), some (.int y207), none]) rfl ?_
      refine g_aload_n C dX6_bestSuit_49 rfl rfl ?_
      refine g_iload_n C dX6_bestSuit_50 rfl rfl ?_
      refine g_iload C dX6_bestSuit_51 rfl ?_
      obtain ⟨y209, e210, h⟩ := of_obb h
      refine g_callV (As := [.int x1, .int x4]) C (ct_X6_reasonToRefuse C.wf e210) g201 lk_RX6_102 mi_X6_reasonToRefuse (by decide) cs_0 (by decide) dX6_bestSuit_53 rfl ?_
      show Go w f 56 [some (rv w r0), some (.int x1), some (.int x2), some (.int x3), some (.int x4), some (.int y207), none] [.int y209] M
      refine g_if_ne 75 C dX6_bestSuit_56 (by decide) (fun c211 => ?_) (fun c211 => ?_)
      · replace h := of_iff h c211
        refine g_iconst (v := 0) C dX6_bestSuit_75 rfl ?_
        refine g_istore C dX6_bestSuit_76 (by decide) rfl (L2 := [some (rv w r0), some (.int x1), some (.int x2), some (.int x3), some (.int x4), some (.int y207), some (.int (0 : Int32))]) rfl ?_
        refine g_iload C dX6_bestSuit_78 rfl ?_
        refine g_if_eq 88 C dX6_bestSuit_80 (by decide) (fun _ => ?_) (fun c => absurd c (by decide))
        refine g_iload_n C dX6_bestSuit_88 rfl rfl ?_
        refine g_istore_n C dX6_bestSuit_89 rfl (by decide) rfl (L2 := [some (rv w r0), some (.int x1), some (.int x2), some (.int x3), some (.int x4), some (.int y207), some (.int (0 : Int32))]) rfl ?_
        refine g_iload C dX6_bestSuit_90 rfl ?_
        refine g_if_eq 100 C dX6_bestSuit_92 (by decide) (fun _ => ?_) (fun c => absurd c (by decide))
        refine g_iload_n C dX6_bestSuit_100 rfl rfl ?_
        refine g_istore_n C dX6_bestSuit_101 rfl (by decide) rfl (L2 := [some (rv w r0), some (.int x1), some (.int x2), some (.int x3), some (.int x4), some (.int y207), some (.int (0 : Int32))]) rfl ?_
        obtain ⟨y212, e213, h⟩ := of_bvv h
        refine g_iinc (v := y212) C dX6_bestSuit_102 rfl e213.symm (by decide) rfl (L2 := [some (rv w r0), some (.int x1), some (.int x2), some (.int x3), some (.int y212), some (.int y207), some (.int (0 : Int32))]) rfl ?_
        refine g_goto 18 C dX6_bestSuit_105 (by decide) ?_
        refine g_mask (bs := [true, true, true, true, true, false, false]) (L2 := [some (rv w r0), some (.int x1), some (.int x2), some (.int x3), some (.int y212), none, none]) rfl ?_
        exact ih r0 x1 x2 x3 y212 h
      · replace h := of_ift h c211
        refine g_iload_n C dX6_bestSuit_59 rfl rfl ?_
        refine g_bipush (v := -4) C dX6_bestSuit_60 rfl ?_
        refine g_icmp_eq 71 C dX6_bestSuit_62 (by decide) (fun c214 => ?_) (fun c214 => ?_)
        · replace h := of_ift h c214
          refine g_iconst (v := 1) C dX6_bestSuit_71 rfl ?_
          refine g_goto 76 C dX6_bestSuit_72 (by decide) ?_
          refine g_istore C dX6_bestSuit_76 (by decide) rfl (L2 := [some (rv w r0), some (.int x1), some (.int x2), some (.int x3), some (.int x4), some (.int y207), some (.int (1 : Int32))]) rfl ?_
          refine g_iload C dX6_bestSuit_78 rfl ?_
          refine g_if_eq 88 C dX6_bestSuit_80 (by decide) (fun c => absurd c (by decide)) (fun _ => ?_)
          refine g_iload C dX6_bestSuit_83 rfl ?_
          refine g_goto 89 C dX6_bestSuit_85 (by decide) ?_
          refine g_istore_n C dX6_bestSuit_89 rfl (by decide) rfl (L2 := [some (rv w r0), some (.int x1), some (.int x4), some (.int x3), some (.int x4), some (.int y207), some (.int (1 : Int32))]) rfl ?_
          refine g_iload C dX6_bestSuit_90 rfl ?_
          refine g_if_eq 100 C dX6_bestSuit_92 (by decide) (fun c => absurd c (by decide)) (fun _ => ?_)
          refine g_iload C dX6_bestSuit_95 rfl ?_
          refine g_goto 101 C dX6_bestSuit_97 (by decide) ?_
          refine g_istore_n C dX6_bestSuit_101 rfl (by decide) rfl (L2 := [some (rv w r0), some (.int x1), some (.int x4), some (.int y207), some (.int x4), some (.int y207), some (.int (1 : Int32))]) rfl ?_
          obtain ⟨y215, e216, h⟩ := of_bvv h
          refine g_iinc (v := y215) C dX6_bestSuit_102 rfl e216.symm (by decide) rfl (L2 := [some (rv w r0), some (.int x1), some (.int x4), some (.int y207), some (.int y215), some (.int y207), some (.int (1 : Int32))]) rfl ?_
          refine g_goto 18 C dX6_bestSuit_105 (by decide) ?_
          refine g_mask (bs := [true, true, true, true, true, false, false]) (L2 := [some (rv w r0), some (.int x1), some (.int x4), some (.int y207), some (.int y215), none, none]) rfl ?_
          exact ih r0 x1 x4 y207 y215 h
        · replace h := of_iff h c214
          refine g_iload C dX6_bestSuit_65 rfl ?_
          refine g_iload_n C dX6_bestSuit_67 rfl rfl ?_
          refine g_icmp_ge 75 C dX6_bestSuit_68 (by decide) (fun c217 => ?_) (fun c217 => ?_)
          · replace h := of_ift h c217
            refine g_iconst (v := 0) C dX6_bestSuit_75 rfl ?_
            refine g_istore C dX6_bestSuit_76 (by decide) rfl (L2 := [some (rv w r0), some (.int x1), some (.int x2), some (.int x3), some (.int x4), some (.int y207), some (.int (0 : Int32))]) rfl ?_
            refine g_iload C dX6_bestSuit_78 rfl ?_
            refine g_if_eq 88 C dX6_bestSuit_80 (by decide) (fun _ => ?_) (fun c => absurd c (by decide))
            refine g_iload_n C dX6_bestSuit_88 rfl rfl ?_
            refine g_istore_n C dX6_bestSuit_89 rfl (by decide) rfl (L2 := [some (rv w r0), some (.int x1), some (.int x2), some (.int x3), some (.int x4), some (.int y207), some (.int (0 : Int32))]) rfl ?_
            refine g_iload C dX6_bestSuit_90 rfl ?_
            refine g_if_eq 100 C dX6_bestSuit_92 (by decide) (fun _ => ?_) (fun c => absurd c (by decide))
            refine g_iload_n C dX6_bestSuit_100 rfl rfl ?_
            refine g_istore_n C dX6_bestSuit_101 rfl (by decide) rfl (L2 := [some (rv w r0), some (.int x1), some (.int x2), some (.int x3), some (.int x4), some (.int y207), some (.int (0 : Int32))]) rfl ?_
            obtain ⟨y218, e219, h⟩ := of_bvv h
            refine g_iinc (v := y218) C dX6_bestSuit_102 rfl e219.symm (by decide) rfl (L2 := [some (rv w r0), some (.int x1), some (.int x2), some (.int x3), some (.int y218), some (.int y207), some (.int (0 : Int32))]) rfl ?_
            refine g_goto 18 C dX6_bestSuit_105 (by decide) ?_
            refine g_mask (bs := [true, true, true, true, true, false, false]) (L2 := [some (rv w r0), some (.int x1), some (.int x2), some (.int x3), some (.int y218), none, none]) rfl ?_
            exact ih r0 x1 x2 x3 y218 h
          · replace h := of_iff h c217
            refine g_iconst (v := 1) C dX6_bestSuit_71 rfl ?_
            refine g_goto 76 C dX6_bestSuit_72 (by decide) ?_
            refine g_istore C dX6_bestSuit_76 (by decide) rfl (L2 := [some (rv w r0), some (.int x1), some (.int x2), some (.int x3), some (.int x4), some (.int y207), some (.int (1 : Int32))]) rfl ?_
            refine g_iload C dX6_bestSuit_78 rfl ?_
            refine g_if_eq 88 C dX6_bestSuit_80 (by decide) (fun c => absurd c (by decide)) (fun _ => ?_)
            refine g_iload C dX6_bestSuit_83 rfl ?_
            refine g_goto 89 C dX6_bestSuit_85 (by decide) ?_
            refine g_istore_n C dX6_bestSuit_89 rfl (by decide) rfl (L2 := [some (rv w r0), some (.int x1), some (.int x4), some (.int x3), some (.int x4), some (.int y207), some (.int (1 : Int32))]) rfl ?_
            refine g_iload C dX6_bestSuit_90 rfl ?_
            refine g_if_eq 100 C dX6_bestSuit_92 (by decide) (fun c => absurd c (by decide)) (fun _ => ?_)
            refine g_iload C dX6_bestSuit_95 rfl ?_
            refine g_goto 101 C dX6_bestSuit_97 (by decide) ?_
            refine g_istore_n C dX6_bestSuit_101 rfl (by decide) rfl (L2 := [some (rv w r0), some (.int x1), some (.int x4), some (.int y207), some (.int x4), some (.int y207), some (.int (1 : Int32))]) rfl ?_
            obtain ⟨y220, e221, h⟩ := of_bvv h
            refine g_iinc (v := y220) C dX6_bestSuit_102 rfl e221.symm (by decide) rfl (L2 := [some (rv w r0), some (.int x1), some (.int x4), some (.int y207), some (.int y220), some (.int y207), some (.int (1 : Int32))]) rfl ?_
            refine g_goto 18 C dX6_bestSuit_105 (by decide) ?_
            refine g_mask (bs := [true, true, true, true, true, false, false]) (L2 := [some (rv w r0), some (.int x1), some (.int x4), some (.int y207), some (.int y220), none, none]) rfl ?_
            exact ih r0 x1 x4 y207 y220 h
def f_X6_bestSuit (r0 : Nat) (x1 : Int32) (M : Mem) : Option Int32 := gdd (kd r0 = 7) <| obb (f_X6_isEdition r0 x1 M) fun y2 => if y2 = 0 then (some (-1 : Int32)) else (f_X6_bestSuit_18 M FU r0 x1 (-4 : Int32) (0 : Int32) (0 : Int32))
set_option maxRecDepth 100000 in
set_option maxHeartbeats 4000000 in
theorem ct_X6_bestSuit {l : Launch} {w : Om} (hw : Wf w) {r0 : Nat} {x1 : Int32}  {M : Mem} {r : Int32} (h : f_X6_bestSuit r0 x1 M = some r) : Ct l w yX6_bestSuit cX6_bestSuit 7 (some .int) 9 [rv w r0, .int x1] M (some (.int r)) M := by
  refine ct_of hw (by decide) (cat_s (rv_cat _ _) (cat_s rfl cat_0)) (Nat.le_of_ble_eq_true rfl) (fun f _ C hR => ?_)
  show Go w f 0 [some (rv w r0), some (.int x1), none, none, none, none, none] [] M
  unfold f_X6_bestSuit at h
  refine g_aload_n C dX6_bestSuit_0 rfl rfl ?_
  refine g_iload_n C dX6_bestSuit_1 rfl rfl ?_
  obtain ⟨g1, h⟩ := of_gdd h
  obtain ⟨y2, e3, h⟩ := of_obb h
  refine g_callV (As := [.int x1]) C (ct_X6_isEdition C.wf e3) g1 lk_RX6_57 mi_X6_isEdition (by decide) cs_0 (by decide) dX6_bestSuit_2 rfl ?_
  show Go w f 5 [some (rv w r0), some (.int x1), none, none, none, none, none] [.int y2] M
  refine g_if_ne 10 C dX6_bestSuit_5 (by decide) (fun c4 => ?_) (fun c4 => ?_)
  · replace h := of_iff h c4
    refine g_bipush (v := -4) C dX6_bestSuit_10 rfl ?_
    refine g_istore_n C dX6_bestSuit_12 rfl (by decide) rfl (L2 := [some (rv w r0), some (.int x1), some (.int (-4 : Int32)), none, none, none, none]) rfl ?_
    refine g_iconst (v := 0) C dX6_bestSuit_13 rfl ?_
    refine g_istore_n C dX6_bestSuit_14 rfl (by decide) rfl (L2 := [some (rv w r0), some (.int x1), some (.int (-4 : Int32)), some (.int (0 : Int32)), none, none, none]) rfl ?_
    refine g_iconst (v := 0) C dX6_bestSuit_15 rfl ?_
    refine g_istore C dX6_bestSuit_16 (by decide) rfl (L2 := [some (rv w r0), some (.int x1), some (.int (-4 : Int32)), some (.int (0 : Int32)), some (.int (0 : Int32)), none, none]) rfl ?_
    exact t_X6_bestSuit_18 C hR _ r0 x1 (-4 : Int32) (0 : Int32) (0 : Int32) h
  · replace h := of_ift h c4
    refine g_iconst (v := -1) C dX6_bestSuit_8 rfl ?_
    cases h
    exact hR 9 _ ⟨.int, rfl, rfl⟩ dX6_bestSuit_9
def f_X6_undo (r0 : Nat) (M : Mem) : Option (Int32 × Mem) := gdd (kd r0 = 7) <| if (gI M r0 2) = 0 then (some ((-2 : Int32), M)) else (bvv (sI M r0 2 ((gI M r0 2) - (1 : Int32))) fun M3 => obb (f_X6_copies (fld r0 1) ((137 : Int32) * (gI M3 r0 2)) (fld r0 0) (0 : Int32) M3) fun M5 => some (gI M5 r0 2, M5))
set_option maxRecDepth 100000 in
set_option maxHeartbeats 4000000 in
theorem ct_X6_undo {l : Launch} {w : Om} (hw : Wf w) {r0 : Nat} {M : Mem} {r : Int32} {M2 : Mem} (h : f_X6_undo r0 M = some (r, M2)) : Ct l w yX6_undo cX6_undo 1 (some .int) 1 [rv w r0] M (some (.int r)) M2 := by
  refine ct_of hw (by decide) (cat_s (rv_cat _ _) cat_0) (Nat.le_of_ble_eq_true rfl) (fun f _ C hR => ?_)
  show Go w f 0 [some (rv w r0)] [] M
  unfold f_X6_undo at h
  refine g_aload_n C dX6_undo_0 rfl rfl ?_
  obtain ⟨g1, h⟩ := of_gdd h
  refine gf_6_2 C fl_RX6_34 g1 dX6_undo_1 ?_
  refine g_if_ne 10 C dX6_undo_4 (by decide) (fun c2 => ?_) (fun c2 => ?_)
  · replace h := of_iff h c2
    refine g_aload_n C dX6_undo_10 rfl rfl ?_
    refine g_dup C (rv_cat _ _) dX6_undo_11 ?_
    refine gf_6_2 C fl_RX6_34 g1 dX6_undo_12 ?_
    refine g_iconst (v := 1) C dX6_undo_15 rfl ?_
    refine g_isub C dX6_undo_16 ?_
    refine pf_6_2 C fl_RX6_34 g1 dX6_undo_17 ?_
    obtain ⟨M3, e4, h⟩ := of_bvv h
    refine g_mem e4 ?_
    refine g_aload_n C dX6_undo_20 rfl rfl ?_
    refine gf_6_1 C fl_RX6_13 g1 dX6_undo_21 ?_
    refine g_sipush (v := 137) C dX6_undo_24 rfl ?_
    refine g_aload_n C dX6_undo_27 rfl rfl ?_
    refine gf_6_2 C fl_RX6_34 g1 dX6_undo_28 ?_
    refine g_imul C dX6_undo_31 ?_
    refine g_aload_n C dX6_undo_32 rfl rfl ?_
    refine gf_6_0 C fl_RX6_7 g1 dX6_undo_33 ?_
    refine g_iconst (v := 0) C dX6_undo_36 rfl ?_
    obtain ⟨M5, e6, h⟩ := of_obb h
    refine g_callS (As := [rv w (fld r0 1), .int ((137 : Int32) * (gI M3 r0 2)), rv w (fld r0 0), .int (0 : Int32)]) C (ct_X6_copies C.wf e6) lk_RX6_38 mi_X6_copies (by decide) cs_0 (by decide) dX6_undo_37 rfl ?_
    show Go w f 40 [some (rv w r0)] [] M5
    refine g_aload_n C dX6_undo_40 rfl rfl ?_
    refine gf_6_2 C fl_RX6_34 g1 dX6_undo_41 ?_
    cases h
    exact hR 44 _ ⟨.int, rfl, rfl⟩ dX6_undo_44
  · replace h := of_ift h c2
    refine g_bipush (v := -2) C dX6_undo_7 rfl ?_
    cases h
    exact hR 9 _ ⟨.int, rfl, rfl⟩ dX6_undo_9
def f_X6_save (r0 : Nat) (M : Mem) : Option (Int32 × Mem) := gdd (kd r0 = 7) <| obb (f_X6_copies (fld r0 0) (0 : Int32) (fld r0 3) (0 : Int32) M) fun M2 => bvv (sI M2 r0 4 (1 : Int32)) fun M4 => gdd (kd (fld r0 0) = 8) <| gdd (inb (3 : Int32) (ln (fld r0 0)) = true) <| some (gI M4 (fld r0 0) ((3 : Int32)).toNatClampNeg, M4)
set_option maxRecDepth 100000 in
set_option maxHeartbeats 4000000 in
theorem ct_X6_save {l : Launch} {w : Om} (hw : Wf w) {r0 : Nat} {M : Mem} {r : Int32} {M2 : Mem} (h : f_X6_save r0 M = some (r, M2)) : Ct l w yX6_save cX6_save 1 (some .int) 1 [rv w r0] M (some (.int r)) M2 := by
  refine ct_of hw (by decide) (cat_s (rv_cat _ _) cat_0) (Nat.le_of_ble_eq_true rfl) (fun f _ C hR => ?_)
  show Go w f 0 [some (rv w r0)] [] M
  unfold f_X6_save at h
  refine g_aload_n C dX6_save_0 rfl rfl ?_
  obtain ⟨g1, h⟩ := of_gdd h
  refine gf_6_0 C fl_RX6_7 g1 dX6_save_1 ?_
  refine g_iconst (v := 0) C dX6_save_4 rfl ?_
  refine g_aload_n C dX6_save_5 rfl rfl ?_
  refine gf_6_3 C fl_RX6_16 g1 dX6_save_6 ?_
  refine g_iconst (v := 0) C dX6_save_9 rfl ?_
  obtain ⟨M2, e3, h⟩ := of_obb h
  refine g_callS (As := [rv w (fld r0 0), .int (0 : Int32), rv w (fld r0 3), .int (0 : Int32)]) C (ct_X6_copies C.wf e3) lk_RX6_38 mi_X6_copies (by decide) cs_0 (by decide) dX6_save_10 rfl ?_
  show Go w f 13 [some (rv w r0)] [] M2
  refine g_aload_n C dX6_save_13 rfl rfl ?_
  refine g_iconst (v := 1) C dX6_save_14 rfl ?_
  refine pf_6_4 C fl_RX6_236 g1 (isb_1) dX6_save_15 ?_
  obtain ⟨M4, e5, h⟩ := of_bvv h
  refine g_mem e5 ?_
  refine g_aload_n C dX6_save_18 rfl rfl ?_
  refine gf_6_0 C fl_RX6_7 g1 dX6_save_19 ?_
  refine g_iconst (v := 3) C dX6_save_22 rfl ?_
  obtain ⟨g6, h⟩ := of_gdd h
  obtain ⟨g7, h⟩ := of_gdd h
  refine g_iald C g6 g7 dX6_save_23 ?_
  cases h
  exact hR 24 _ ⟨.int, rfl, rfl⟩ dX6_save_24
