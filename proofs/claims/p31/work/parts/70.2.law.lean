def f_L_pleads_537 (r0 : Nat) (x10 : Int32) (x12 : Int32) (M : Mem) : Option (Int32 × Mem) := gdd (kd r0 = 6) <| obb (f_X5_why r0 (1 : Int32) M) fun y1202 => if y1202 = x12 then (obb (f_X5_why r0 (2 : Int32) M) fun y1205 => if y1205 < ((2 : Int32) * x12) then (some ((0 : Int32), M)) else (obb (f_X5_why r0 (2 : Int32) M) fun y1208 => if x10 ≤ y1208 then (some ((0 : Int32), M)) else (some ((1 : Int32), M)))) else (some ((0 : Int32), M))
set_option maxRecDepth 100000 in
set_option maxHeartbeats 4000000 in
theorem t_L_pleads_537 {w : Om} {f : Fr} {r : Int32} {M2 : Mem} (C : Cx w f RL cL_pleads 16 8) (hR : Rt w f cL_pleads (some .boolean) (some (.int r)) M2)   : ∀ (r0 : Nat) (x10 : Int32) (x12 : Int32) (M : Mem), f_L_pleads_537 r0 x10 x12 M = some (r, M2) → Go w f 537 [some (rv w r0), none, none, none, none, none, none, none, none, none, some (.int x10), none, some (.int x12), none, none, none] [] M := by
  intro r0 x10 x12 M h
  unfold f_L_pleads_537 at h
  refine g_aload_n C dL_pleads_537 rfl rfl ?_
  refine g_iconst (v := 1) C dL_pleads_538 rfl ?_
  obtain ⟨g1201, h⟩ := of_gdd h
  obtain ⟨y1202, e1203, h⟩ := of_obb h
  refine g_callV (As := [.int (1 : Int32)]) C (ct_X5_why C.wf e1203) g1201 lk_RL_93 mi_X5_why (by decide) cs_0 (by decide) dL_pleads_539 rfl ?_
  show Go w f 542 [some (rv w r0), none, none, none, none, none, none, none, none, none, some (.int x10), none, some (.int x12), none, none, none] [.int y1202] M
  refine g_iload C dL_pleads_542 rfl ?_
  refine g_icmp_ne 573 C dL_pleads_544 (by decide) (fun c1204 => ?_) (fun c1204 => ?_)
  · replace h := of_iff h c1204
    refine g_iconst (v := 0) C dL_pleads_573 rfl ?_
    cases h
    exact hR 574 _ ⟨.boolean, rfl, rfl⟩ dL_pleads_574
  · replace h := of_ift h c1204
    refine g_aload_n C dL_pleads_547 rfl rfl ?_
    refine g_iconst (v := 2) C dL_pleads_548 rfl ?_
    obtain ⟨y1205, e1206, h⟩ := of_obb h
    refine g_callV (As := [.int (2 : Int32)]) C (ct_X5_why C.wf e1206) g1201 lk_RL_93 mi_X5_why (by decide) cs_0 (by decide) dL_pleads_549 rfl ?_
    show Go w f 552 [some (rv w r0), none, none, none, none, none, none, none, none, none, some (.int x10), none, some (.int x12), none, none, none] [.int y1205] M
    refine g_iconst (v := 2) C dL_pleads_552 rfl ?_
    refine g_iload C dL_pleads_553 rfl ?_
    refine g_imul C dL_pleads_555 ?_
    refine g_icmp_lt 573 C dL_pleads_556 (by decide) (fun c1207 => ?_) (fun c1207 => ?_)
    · replace h := of_ift h c1207
      refine g_iconst (v := 0) C dL_pleads_573 rfl ?_
      cases h
      exact hR 574 _ ⟨.boolean, rfl, rfl⟩ dL_pleads_574
    · replace h := of_iff h c1207
      refine g_aload_n C dL_pleads_559 rfl rfl ?_
      refine g_iconst (v := 2) C dL_pleads_560 rfl ?_
      obtain ⟨y1208, e1209, h⟩ := of_obb h
      refine g_callV (As := [.int (2 : Int32)]) C (ct_X5_why C.wf e1209) g1201 lk_RL_93 mi_X5_why (by decide) cs_0 (by decide) dL_pleads_561 rfl ?_
      show Go w f 564 [some (rv w r0), none, none, none, none, none, none, none, none, none, some (.int x10), none, some (.int x12), none, none, none] [.int y1208] M
      refine g_iload C dL_pleads_564 rfl ?_
      refine g_icmp_ge 573 C dL_pleads_566 (by decide) (fun c1210 => ?_) (fun c1210 => ?_)
      · replace h := of_ift h c1210
        refine g_iconst (v := 0) C dL_pleads_573 rfl ?_
        cases h
        exact hR 574 _ ⟨.boolean, rfl, rfl⟩ dL_pleads_574
      · replace h := of_iff h c1210
        refine g_iconst (v := 1) C dL_pleads_569 rfl ?_
        refine g_goto 574 C dL_pleads_570 (by decide) ?_
        cases h
        exact hR 574 _ ⟨.boolean, rfl, rfl⟩ dL_pleads_574
def f_L_pleads_509 (r0 : Nat) (x10 : Int32) (x12 : Int32) (x15 : Int32) (xs0 : Int32) (xs1 : Int32) (M : Mem) : Option (Int32 × Mem) := if xs0 = xs1 then (if x15 = (-4 : Int32) then (some ((1 : Int32), M)) else (if x15 = (-1 : Int32) then (f_L_pleads_537 r0 x10 x12 M) else (if x15 < (1 : Int32) then (some ((0 : Int32), M)) else (if (3 : Int32) < x15 then (some ((0 : Int32), M)) else (f_L_pleads_537 r0 x10 x12 M))))) else (some ((0 : Int32), M))
set_option maxRecDepth 100000 in
set_option maxHeartbeats 4000000 in
theorem t_L_pleads_509 {w : Om} {f : Fr} {r : Int32} {M2 : Mem} (C : Cx w f RL cL_pleads 16 8) (hR : Rt w f cL_pleads (some .boolean) (some (.int r)) M2)   : ∀ (r0 : Nat) (x10 : Int32) (x12 : Int32) (x15 : Int32) (xs0 : Int32) (xs1 : Int32) (M : Mem), f_L_pleads_509 r0 x10 x12 x15 xs0 xs1 M = some (r, M2) → Go w f 509 [some (rv w r0), none, none, none, none, none, none, none, none, none, some (.int x10), none, some (.int x12), none, none, some (.int x15)] [.int xs1, .int xs0] M := by
  intro r0 x10 x12 x15 xs0 xs1 M h
  unfold f_L_pleads_509 at h
  refine g_icmp_ne 573 C dL_pleads_509 (by decide) (fun c1101 => ?_) (fun c1101 => ?_)
  · replace h := of_iff h c1101
    refine g_iconst (v := 0) C dL_pleads_573 rfl ?_
    cases h
    exact hR 574 _ ⟨.boolean, rfl, rfl⟩ dL_pleads_574
  · replace h := of_ift h c1101
    refine g_iload C dL_pleads_512 rfl ?_
    refine g_bipush (v := -4) C dL_pleads_514 rfl ?_
    refine g_icmp_eq 569 C dL_pleads_516 (by decide) (fun c1102 => ?_) (fun c1102 => ?_)
    · replace h := of_ift h c1102
      refine g_iconst (v := 1) C dL_pleads_569 rfl ?_
      refine g_goto 574 C dL_pleads_570 (by decide) ?_
      cases h
      exact hR 574 _ ⟨.boolean, rfl, rfl⟩ dL_pleads_574
    · replace h := of_iff h c1102
      refine g_iload C dL_pleads_519 rfl ?_
      refine g_iconst (v := -1) C dL_pleads_521 rfl ?_
      refine g_icmp_eq 537 C dL_pleads_522 (by decide) (fun c1103 => ?_) (fun c1103 => ?_)
      · replace h := of_ift h c1103
        refine g_mask (bs := [true, false, false, false, false, false, false, false, false, false, true, false, true, false, false, false]) (L2 := [some (rv w r0), none, none, none, none, none, none, none, none, none, some (.int x10), none, some (.int x12), none, none, none]) rfl ?_
        exact t_L_pleads_537 C hR r0 x10 x12 M h
      · replace h := of_iff h c1103
        refine g_iload C dL_pleads_525 rfl ?_
        refine g_iconst (v := 1) C dL_pleads_527 rfl ?_
        refine g_icmp_lt 573 C dL_pleads_528 (by decide) (fun c1104 => ?_) (fun c1104 => ?_)
        · replace h := of_ift h c1104
          refine g_iconst (v := 0) C dL_pleads_573 rfl ?_
          cases h
          exact hR 574 _ ⟨.boolean, rfl, rfl⟩ dL_pleads_574
        · replace h := of_iff h c1104
          refine g_iload C dL_pleads_531 rfl ?_
          refine g_iconst (v := 3) C dL_pleads_533 rfl ?_
          refine g_icmp_gt 573 C dL_pleads_534 (by decide) (fun c1105 => ?_) (fun c1105 => ?_)
          · replace h := of_ift h c1105
            refine g_iconst (v := 0) C dL_pleads_573 rfl ?_
            cases h
            exact hR 574 _ ⟨.boolean, rfl, rfl⟩ dL_pleads_574
          · replace h := of_iff h c1105
            refine g_mask (bs := [true, false, false, false, false, false, false, false, false, false, true, false, true, false, false, false]) (L2 := [some (rv w r0), none, none, none, none, none, none, none, none, none, some (.int x10), none, some (.int x12), none, none, none]) rfl ?_
            exact t_L_pleads_537 C hR r0 x10 x12 M h
def f_L_pleads_497 (r0 : Nat) (x10 : Int32) (x12 : Int32) (x15 : Int32) (xs0 : Int32) (M : Mem) : Option (Int32 × Mem) := if x15 = (-4 : Int32) then (f_L_pleads_509 r0 x10 x12 x15 xs0 (1 : Int32) M) else (f_L_pleads_509 r0 x10 x12 x15 xs0 (0 : Int32) M)
set_option maxRecDepth 100000 in
set_option maxHeartbeats 4000000 in
theorem t_L_pleads_497 {w : Om} {f : Fr} {r : Int32} {M2 : Mem} (C : Cx w f RL cL_pleads 16 8) (hR : Rt w f cL_pleads (some .boolean) (some (.int r)) M2)   : ∀ (r0 : Nat) (x10 : Int32) (x12 : Int32) (x15 : Int32) (xs0 : Int32) (M : Mem), f_L_pleads_497 r0 x10 x12 x15 xs0 M = some (r, M2) → Go w f 497 [some (rv w r0), none, none, none, none, none, none, none, none, none, some (.int x10), none, some (.int x12), none, none, some (.int x15)] [.int xs0] M := by
  intro r0 x10 x12 x15 xs0 M h
  unfold f_L_pleads_497 at h
  refine g_iload C dL_pleads_497 rfl ?_
  refine g_bipush (v := -4) C dL_pleads_499 rfl ?_
  refine g_icmp_ne 508 C dL_pleads_501 (by decide) (fun c1001 => ?_) (fun c1001 => ?_)
  · replace h := of_iff h c1001
    refine g_iconst (v := 0) C dL_pleads_508 rfl ?_
    exact t_L_pleads_509 C hR r0 x10 x12 x15 xs0 (0 : Int32) M h
  · replace h := of_ift h c1001
    refine g_iconst (v := 1) C dL_pleads_504 rfl ?_
    refine g_goto 509 C dL_pleads_505 (by decide) ?_
    exact t_L_pleads_509 C hR r0 x10 x12 x15 xs0 (1 : Int32) M h
def f_L_pleads_482 (r0 : Nat) (x2 : Int32) (x10 : Int32) (x12 : Int32) (x15 : Int32) (xs0 : Int32) (xs1 : Int32) (xs2 : Int32) (M : Mem) : Option (Int32 × Mem) := if xs0 = (xs1 + xs2) then (if x12 = x2 then (f_L_pleads_497 r0 x10 x12 x15 (1 : Int32) M) else (f_L_pleads_497 r0 x10 x12 x15 (0 : Int32) M)) else (some ((0 : Int32), M))
set_option maxRecDepth 100000 in
set_option maxHeartbeats 4000000 in
theorem t_L_pleads_482 {w : Om} {f : Fr} {r : Int32} {M2 : Mem} (C : Cx w f RL cL_pleads 16 8) (hR : Rt w f cL_pleads (some .boolean) (some (.int r)) M2)   : ∀ (r0 : Nat) (x2 : Int32) (x10 : Int32) (x12 : Int32) (x15 : Int32) (xs0 : Int32) (xs1 : Int32) (xs2 : Int32) (M : Mem), f_L_pleads_482 r0 x2 x10 x12 x15 xs0 xs1 xs2 M = some (r, M2) → Go w f 482 [some (rv w r0), none, some (.int x2), none, none, none, none, none, none, none, some (.int x10), none, some (.int x12), none, none, some (.int x15)] [.int xs2, .int xs1, .int xs0] M := by
  intro r0 x2 x10 x12 x15 xs0 xs1 xs2 M h
  unfold f_L_pleads_482 at h
  refine g_iadd C dL_pleads_482 ?_
  refine g_icmp_ne 573 C dL_pleads_483 (by decide) (fun c901 => ?_) (fun c901 => ?_)
  · replace h := of_iff h c901
    refine g_iconst (v := 0) C dL_pleads_573 rfl ?_
    cases h
    exact hR 574 _ ⟨.boolean, rfl, rfl⟩ dL_pleads_574
  · replace h := of_ift h c901
    refine g_iload C dL_pleads_486 rfl ?_
    refine g_iload_n C dL_pleads_488 rfl rfl ?_
    refine g_icmp_ne 496 C dL_pleads_489 (by decide) (fun c902 => ?_) (fun c902 => ?_)
    · replace h := of_iff h c902
      refine g_iconst (v := 0) C dL_pleads_496 rfl ?_
      refine g_mask (bs := [true, false, false, false, false, false, false, false, false, false, true, false, true, false, false, true]) (L2 := [some (rv w r0), none, none, none, none, none, none, none, none, none, some (.int x10), none, some (.int x12), none, none, some (.int x15)]) rfl ?_
      exact t_L_pleads_497 C hR r0 x10 x12 x15 (0 : Int32) M h
    · replace h := of_ift h c902
      refine g_iconst (v := 1) C dL_pleads_492 rfl ?_
      refine g_goto 497 C dL_pleads_493 (by decide) ?_
      refine g_mask (bs := [true, false, false, false, false, false, false, false, false, false, true, false, true, false, false, true]) (L2 := [some (rv w r0), none, none, none, none, none, none, none, none, none, some (.int x10), none, some (.int x12), none, none, some (.int x15)]) rfl ?_
      exact t_L_pleads_497 C hR r0 x10 x12 x15 (1 : Int32) M h
def f_L_pleads_438 (r0 : Nat) (x2 : Int32) (x7 : Int32) (x8 : Int32) (x9 : Int32) (x10 : Int32) (x12 : Int32) (x15 : Int32) (xs0 : Int32) (xs1 : Int32) (M : Mem) : Option (Int32 × Mem) := if xs0 = xs1 then (gdd (kd r0 = 6) <| opp (f_X5_count r0 (7 : Int32) M) fun y805 M803 => opp (f_X5_count r0 (0 : Int32) M803) fun y808 M806 => if (((y805 - x7) + y808) - x9) = x12 then (opp (f_X5_count r0 (8 : Int32) M806) fun y812 M810 => if x15 ≤ 0 then (f_L_pleads_482 r0 x2 x10 x12 x15 y812 x8 (0 : Int32) M810) else (f_L_pleads_482 r0 x2 x10 x12 x15 y812 x8 (1 : Int32) M810)) else (some ((0 : Int32), M806))) else (some ((0 : Int32), M))
set_option maxRecDepth 100000 in
set_option maxHeartbeats 4000000 in
theorem t_L_pleads_438 {w : Om} {f : Fr} {r : Int32} {M2 : Mem} (C : Cx w f RL cL_pleads 16 8) (hR : Rt w f cL_pleads (some .boolean) (some (.int r)) M2)   : ∀ (r0 : Nat) (x2 : Int32) (x7 : Int32) (x8 : Int32) (x9 : Int32) (x10 : Int32) (x12 : Int32) (x15 : Int32) (xs0 : Int32) (xs1 : Int32) (M : Mem), f_L_pleads_438 r0 x2 x7 x8 x9 x10 x12 x15 xs0 xs1 M = some (r, M2) → Go w f 438 [some (rv w r0), none, some (.int x2), none, none, none, none, some (.int x7), some (.int x8), some (.int x9), some (.int x10), none, some (.int x12), none, none, some (.int x15)] [.int xs1, .int xs0] M := by
  intro r0 x2 x7 x8 x9 x10 x12 x15 xs0 xs1 M h
  unfold f_L_pleads_438 at h
  refine g_icmp_ne 573 C dL_pleads_438 (by decide) (fun c801 => ?_) (fun c801 => ?_)
  · replace h := of_iff h c801
    refine g_iconst (v := 0) C dL_pleads_573 rfl ?_
    cases h
    exact hR 574 _ ⟨.boolean, rfl, rfl⟩ dL_pleads_574
  · replace h := of_ift h c801
    refine g_aload_n C dL_pleads_441 rfl rfl ?_
    refine g_bipush (v := 7) C dL_pleads_442 rfl ?_
    obtain ⟨g802, h⟩ := of_gdd h
    obtain ⟨y805, M803, e804, h⟩ := of_opp h
    refine g_callV (As := [.int (7 : Int32)]) C (ct_X5_count C.wf e804) g802 lk_RL_13 mi_X5_count (by decide) cs_0 (by decide) dL_pleads_444 rfl ?_
    show Go w f 447 [some (rv w r0), none, some (.int x2), none, none, none, none, some (.int x7), some (.int x8), some (.int x9), some (.int x10), none, some (.int x12), none, none, some (.int x15)] [.int y805] M803
    refine g_iload C dL_pleads_447 rfl ?_
    refine g_isub C dL_pleads_449 ?_
    refine g_aload_n C dL_pleads_450 rfl rfl ?_
    refine g_iconst (v := 0) C dL_pleads_451 rfl ?_
    obtain ⟨y808, M806, e807, h⟩ := of_opp h
    refine g_callV (As := [.int (0 : Int32)]) C (ct_X5_count C.wf e807) g802 lk_RL_13 mi_X5_count (by decide) (cs_i cs_0) (by decide) dL_pleads_452 rfl ?_
    show Go w f 455 [some (rv w r0), none, some (.int x2), none, none, none, none, some (.int x7), some (.int x8), some (.int x9), some (.int x10), none, some (.int x12), none, none, some (.int x15)] [.int y808, .int (y805 - x7)] M806
    refine g_iadd C dL_pleads_455 ?_
    refine g_iload C dL_pleads_456 rfl ?_
    refine g_isub C dL_pleads_458 ?_
    refine g_iload C dL_pleads_459 rfl ?_
    refine g_icmp_ne 573 C dL_pleads_461 (by decide) (fun c809 => ?_) (fun c809 => ?_)
    · replace h := of_iff h c809
      refine g_iconst (v := 0) C dL_pleads_573 rfl ?_
      cases h
      exact hR 574 _ ⟨.boolean, rfl, rfl⟩ dL_pleads_574
    · replace h := of_ift h c809
      refine g_aload_n C dL_pleads_464 rfl rfl ?_
      refine g_bipush (v := 8) C dL_pleads_465 rfl ?_
      obtain ⟨y812, M810, e811, h⟩ := of_opp h
      refine g_callV (As := [.int (8 : Int32)]) C (ct_X5_count C.wf e811) g802 lk_RL_13 mi_X5_count (by decide) cs_0 (by decide) dL_pleads_467 rfl ?_
      show Go w f 470 [some (rv w r0), none, some (.int x2), none, none, none, none, some (.int x7), some (.int x8), some (.int x9), some (.int x10), none, some (.int x12), none, none, some (.int x15)] [.int y812] M810
      refine g_iload C dL_pleads_470 rfl ?_
      refine g_iload C dL_pleads_472 rfl ?_
      refine g_if_le 481 C dL_pleads_474 (by decide) (fun c813 => ?_) (fun c813 => ?_)
      · replace h := of_ift h c813
        refine g_iconst (v := 0) C dL_pleads_481 rfl ?_
        refine g_mask (bs := [true, false, true, false, false, false, false, false, false, false, true, false, true, false, false, true]) (L2 := [some (rv w r0), none, some (.int x2), none, none, none, none, none, none, none, some (.int x10), none, some (.int x12), none, none, some (.int x15)]) rfl ?_
        exact t_L_pleads_482 C hR r0 x2 x10 x12 x15 y812 x8 (0 : Int32) M810 h
      · replace h := of_iff h c813
        refine g_iconst (v := 1) C dL_pleads_477 rfl ?_
        refine g_goto 482 C dL_pleads_478 (by decide) ?_
        refine g_mask (bs := [true, false, true, false, false, false, false, false, false, false, true, false, true, false, false, true]) (L2 := [some (rv w r0), none, some (.int x2), none, none, none, none, none, none, none, some (.int x10), none, some (.int x12), none, none, some (.int x15)]) rfl ?_
        exact t_L_pleads_482 C hR r0 x2 x10 x12 x15 y812 x8 (1 : Int32) M810 h
def f_L_pleads_337 (r0 : Nat) (x2 : Int32) (l4 : Int64) (x6 : Int32) (x7 : Int32) (x8 : Int32) (x9 : Int32) (x10 : Int32) (x11 : Int32) (x12 : Int32) (x13 : Int32) (xs0 : Int32) (M : Mem) : Option (Int32 × Mem) := if 0 ≤ x12 then (gdd (kd r0 = 6) <| obb (f_X5_why r0 (0 : Int32) M) fun y703 => if xs0 = 0 then (some ((0 : Int32), M)) else (if x2 < x12 then (some ((0 : Int32), M)) else (if x13 = 0 then (opp (f_X5_count r0 (14 : Int32) M) fun y710 M708 => if (4 : Int32) ≤ x6 then (f_L_pleads_438 r0 x2 x7 x8 x9 x10 x12 y703 y710 (4 : Int32) M708) else (f_L_pleads_438 r0 x2 x7 x8 x9 x10 x12 y703 y710 (x6 + (1 : Int32)) M708)) else (some ((0 : Int32), M))))) else (if xs0 = 0 then (some ((0 : Int32), M)) else (if x11 < 0 then (some ((0 : Int32), M)) else (if x10 < x11 then (some ((0 : Int32), M)) else (if x13 = x10 then (opp (f_L_look r0 M) fun y718 M716 => if (lg_cmp y718 l4) = 0 then (gdd (kd r0 = 6) <| opp (f_X5_count r0 (14 : Int32) M716) fun y723 M721 => if y723 = x6 then (some ((1 : Int32), M721)) else (some ((0 : Int32), M721))) else (some ((0 : Int32), M716))) else (some ((0 : Int32), M))))))
set_option maxRecDepth 100000 in
set_option maxHeartbeats 4000000 in
theorem t_L_pleads_337 {w : Om} {f : Fr} {r : Int32} {M2 : Mem} (C : Cx w f RL cL_pleads 16 8) (hR : Rt w f cL_pleads (some .boolean) (some (.int r)) M2)   : ∀ (r0 : Nat) (x2 : Int32) (l4 : Int64) (x6 : Int32) (x7 : Int32) (x8 : Int32) (x9 : Int32) (x10 : Int32) (x11 : Int32) (x12 : Int32) (x13 : Int32) (xs0 : Int32) (M : Mem), f_L_pleads_337 r0 x2 l4 x6 x7 x8 x9 x10 x11 x12 x13 xs0 M = some (r, M2) → Go w f 337 [some (rv w r0), none, some (.int x2), none, some (.long l4), none, some (.int x6), some (.int x7), some (.int x8), some (.int x9), some (.int x10), some (.int x11), some (.int x12), some (.int x13), none, none] [.int xs0] M := by
  intro r0 x2 l4 x6 x7 x8 x9 x10 x11 x12 x13 xs0 M h
  unfold f_L_pleads_337 at h
  refine g_istore C dL_pleads_337 (by decide) rfl (L2 := [some (rv w r0), none, some (.int x2), none, some (.long l4), none, some (.int x6), some (.int x7), some (.int x8), some (.int x9), some (.int x10), some (.int x11), some (.int x12), some (.int x13), some (.int xs0), none]) rfl ?_
  refine g_iload C dL_pleads_339 rfl ?_
  refine g_if_ge 395 C dL_pleads_341 (by decide) (fun c701 => ?_) (fun c701 => ?_)
  · replace h := of_ift h c701
    refine g_aload_n C dL_pleads_395 rfl rfl ?_
    refine g_iconst (v := 0) C dL_pleads_396 rfl ?_
    obtain ⟨g702, h⟩ := of_gdd h
    obtain ⟨y703, e704, h⟩ := of_obb h
    refine g_callV (As := [.int (0 : Int32)]) C (ct_X5_why C.wf e704) g702 lk_RL_93 mi_X5_why (by decide) cs_0 (by decide) dL_pleads_397 rfl ?_
    show Go w f 400 [some (rv w r0), none, some (.int x2), none, some (.long l4), none, some (.int x6), some (.int x7), some (.int x8), some (.int x9), some (.int x10), some (.int x11), some (.int x12), some (.int x13), some (.int xs0), none] [.int y703] M
    refine g_istore C dL_pleads_400 (by decide) rfl (L2 := [some (rv w r0), none, some (.int x2), none, some (.long l4), none, some (.int x6), some (.int x7), some (.int x8), some (.int x9), some (.int x10), some (.int x11), some (.int x12), some (.int x13), some (.int xs0), some (.int y703)]) rfl ?_
    refine g_iload C dL_pleads_402 rfl ?_
    refine g_if_eq 573 C dL_pleads_404 (by decide) (fun c705 => ?_) (fun c705 => ?_)
    · replace h := of_ift h c705
      refine g_iconst (v := 0) C dL_pleads_573 rfl ?_
      cases h
      exact hR 574 _ ⟨.boolean, rfl, rfl⟩ dL_pleads_574
    · replace h := of_iff h c705
      refine g_iload C dL_pleads_407 rfl ?_
      refine g_iload_n C dL_pleads_409 rfl rfl ?_
      refine g_icmp_gt 573 C dL_pleads_410 (by decide) (fun c706 => ?_) (fun c706 => ?_)
      · replace h := of_ift h c706
        refine g_iconst (v := 0) C dL_pleads_573 rfl ?_
        cases h
        exact hR 574 _ ⟨.boolean, rfl, rfl⟩ dL_pleads_574
      · replace h := of_iff h c706
        refine g_iload C dL_pleads_413 rfl ?_
        refine g_if_ne 573 C dL_pleads_415 (by decide) (fun c707 => ?_) (fun c707 => ?_)
        · replace h := of_iff h c707
          refine g_iconst (v := 0) C dL_pleads_573 rfl ?_
          cases h
          exact hR 574 _ ⟨.boolean, rfl, rfl⟩ dL_pleads_574
        · replace h := of_ift h c707
          refine g_aload_n C dL_pleads_418 rfl rfl ?_
          refine g_bipush (v := 14) C dL_pleads_419 rfl ?_
          obtain ⟨y710, M708, e709, h⟩ := of_opp h
          refine g_callV (As := [.int (14 : Int32)]) C (ct_X5_count C.wf e709) g702 lk_RL_13 mi_X5_count (by decide) cs_0 (by decide) dL_pleads_421 rfl ?_
          show Go w f 424 [some (rv w r0), none, some (.int x2), none, some (.long l4), none, some (.int x6), some (.int x7), some (.int x8), some (.int x9), some (.int x10), some (.int x11), some (.int x12), some (.int x13), some (.int xs0), some (.int y703)] [.int y710] M708
          refine g_iload C dL_pleads_424 rfl ?_
          refine g_iconst (v := 4) C dL_pleads_426 rfl ?_
          refine g_icmp_ge 437 C dL_pleads_427 (by decide) (fun c711 => ?_) (fun c711 => ?_)
          · replace h := of_ift h c711
            refine g_iconst (v := 4) C dL_pleads_437 rfl ?_
            refine g_mask (bs := [true, false, true, false, false, false, false, true, true, true, true, false, true, false, false, true]) (L2 := [some (rv w r0), none, some (.int x2), none, none, none, none, some (.int x7), some (.int x8), some (.int x9), some (.int x10), none, some (.int x12), none, none, some (.int y703)]) rfl ?_
            exact t_L_pleads_438 C hR r0 x2 x7 x8 x9 x10 x12 y703 y710 (4 : Int32) M708 h
          · replace h := of_iff h c711
            refine g_iload C dL_pleads_430 rfl ?_
            refine g_iconst (v := 1) C dL_pleads_432 rfl ?_
            refine g_iadd C dL_pleads_433 ?_
            refine g_goto 438 C dL_pleads_434 (by decide) ?_
            refine g_mask (bs := [true, false, true, false, false, false, false, true, true, true, true, false, true, false, false, true]) (L2 := [some (rv w r0), none, some (.int x2), none, none, none, none, some (.int x7), some (.int x8), some (.int x9), some (.int x10), none, some (.int x12), none, none, some (.int y703)]) rfl ?_
            exact t_L_pleads_438 C hR r0 x2 x7 x8 x9 x10 x12 y703 y710 (x6 + (1 : Int32)) M708 h
  · replace h := of_iff h c701
    refine g_iload C dL_pleads_344 rfl ?_
    refine g_if_eq 393 C dL_pleads_346 (by decide) (fun c712 => ?_) (fun c712 => ?_)
    · replace h := of_ift h c712
      refine g_iconst (v := 0) C dL_pleads_393 rfl ?_
      cases h
      exact hR 394 _ ⟨.boolean, rfl, rfl⟩ dL_pleads_394
    · replace h := of_iff h c712
      refine g_iload C dL_pleads_349 rfl ?_
      refine g_if_lt 393 C dL_pleads_351 (by decide) (fun c713 => ?_) (fun c713 => ?_)
      · replace h := of_ift h c713
        refine g_iconst (v := 0) C dL_pleads_393 rfl ?_
        cases h
        exact hR 394 _ ⟨.boolean, rfl, rfl⟩ dL_pleads_394
      · replace h := of_iff h c713
        refine g_iload C dL_pleads_354 rfl ?_
        refine g_iload C dL_pleads_356 rfl ?_
        refine g_icmp_gt 393 C dL_pleads_358 (by decide) (fun c714 => ?_) (fun c714 => ?_)
        · replace h := of_ift h c714
          refine g_iconst (v := 0) C dL_pleads_393 rfl ?_
          cases h
          exact hR 394 _ ⟨.boolean, rfl, rfl⟩ dL_pleads_394
        · replace h := of_iff h c714
          refine g_iload C dL_pleads_361 rfl ?_
          refine g_iload C dL_pleads_363 rfl ?_
          refine g_icmp_ne 393 C dL_pleads_365 (by decide) (fun c715 => ?_) (fun c715 => ?_)
          · replace h := of_iff h c715
            refine g_iconst (v := 0) C dL_pleads_393 rfl ?_
            cases h
            exact hR 394 _ ⟨.boolean, rfl, rfl⟩ dL_pleads_394
          · replace h := of_ift h c715
            refine g_aload_n C dL_pleads_368 rfl rfl ?_
            obtain ⟨y718, M716, e717, h⟩ := of_opp h
            refine g_callS (As := [rv w r0]) C (ct_L_look C.wf e717) lk_RL_86 mi_L_look (by decide) cs_0 (by decide) dL_pleads_369 rfl ?_
            show Go w f 372 [some (rv w r0), none, some (.int x2), none, some (.long l4), none, some (.int x6), some (.int x7), some (.int x8), some (.int x9), some (.int x10), some (.int x11), some (.int x12), some (.int x13), some (.int xs0), none] [.long y718] M716
            refine g_lload C dL_pleads_372 rfl ?_
            refine g_lcmp C dL_pleads_374 ?_
            refine g_if_ne 393 C dL_pleads_375 (by decide) (fun c719 => ?_) (fun c719 => ?_)
            · replace h := of_iff h c719
              refine g_iconst (v := 0) C dL_pleads_393 rfl ?_
              cases h
              exact hR 394 _ ⟨.boolean, rfl, rfl⟩ dL_pleads_394
            · replace h := of_ift h c719
              refine g_aload_n C dL_pleads_378 rfl rfl ?_
              refine g_bipush (v := 14) C dL_pleads_379 rfl ?_
              obtain ⟨g720, h⟩ := of_gdd h
              obtain ⟨y723, M721, e722, h⟩ := of_opp h
              refine g_callV (As := [.int (14 : Int32)]) C (ct_X5_count C.wf e722) g720 lk_RL_13 mi_X5_count (by decide) cs_0 (by decide) dL_pleads_381 rfl ?_
              show Go w f 384 [some (rv w r0), none, some (.int x2), none, some (.long l4), none, some (.int x6), some (.int x7), some (.int x8), some (.int x9), some (.int x10), some (.int x11), some (.int x12), some (.int x13), some (.int xs0), none] [.int y723] M721
              refine g_iload C dL_pleads_384 rfl ?_
              refine g_icmp_ne 393 C dL_pleads_386 (by decide) (fun c724 => ?_) (fun c724 => ?_)
              · replace h := of_iff h c724
                refine g_iconst (v := 0) C dL_pleads_393 rfl ?_
                cases h
                exact hR 394 _ ⟨.boolean, rfl, rfl⟩ dL_pleads_394
              · replace h := of_ift h c724
                refine g_iconst (v := 1) C dL_pleads_389 rfl ?_
                refine g_goto 394 C dL_pleads_390 (by decide) ?_
                cases h
                exact hR 394 _ ⟨.boolean, rfl, rfl⟩ dL_pleads_394
def f_L_pleads_336 (r0 : Nat) (x2 : Int32) (l4 : Int64) (x6 : Int32) (x7 : Int32) (x8 : Int32) (x9 : Int32) (x10 : Int32) (x11 : Int32) (x12 : Int32) (x13 : Int32) (M : Mem) : Option (Int32 × Mem) := f_L_pleads_337 r0 x2 l4 x6 x7 x8 x9 x10 x11 x12 x13 (0 : Int32) M
set_option maxRecDepth 100000 in
set_option maxHeartbeats 4000000 in
theorem t_L_pleads_336 {w : Om} {f : Fr} {r : Int32} {M2 : Mem} (C : Cx w f RL cL_pleads 16 8) (hR : Rt w f cL_pleads (some .boolean) (some (.int r)) M2)   : ∀ (r0 : Nat) (x2 : Int32) (l4 : Int64) (x6 : Int32) (x7 : Int32) (x8 : Int32) (x9 : Int32) (x10 : Int32) (x11 : Int32) (x12 : Int32) (x13 : Int32) (M : Mem), f_L_pleads_336 r0 x2 l4 x6 x7 x8 x9 x10 x11 x12 x13 M = some (r, M2) → Go w f 336 [some (rv w r0), none, some (.int x2), none, some (.long l4), none, some (.int x6), some (.int x7), some (.int x8), some (.int x9), some (.int x10), some (.int x11), some (.int x12), some (.int x13), none, none] [] M := by
  intro r0 x2 l4 x6 x7 x8 x9 x10 x11 x12 x13 M h
  unfold f_L_pleads_336 at h
  refine g_iconst (v := 0) C dL_pleads_336 rfl ?_
  exact t_L_pleads_337 C hR r0 x2 l4 x6 x7 x8 x9 x10 x11 x12 x13 (0 : Int32) M h
def f_L_pleads_329 (r0 : Nat) (x2 : Int32) (l4 : Int64) (x6 : Int32) (x7 : Int32) (x8 : Int32) (x9 : Int32) (x10 : Int32) (x11 : Int32) (x12 : Int32) (x13 : Int32) (xs0 : Int32) (xs1 : Int32) (M : Mem) : Option (Int32 × Mem) := if xs0 = xs1 then (f_L_pleads_337 r0 x2 l4 x6 x7 x8 x9 x10 x11 x12 x13 (1 : Int32) M) else (f_L_pleads_336 r0 x2 l4 x6 x7 x8 x9 x10 x11 x12 x13 M)
set_option maxRecDepth 100000 in
set_option maxHeartbeats 4000000 in
theorem t_L_pleads_329 {w : Om} {f : Fr} {r : Int32} {M2 : Mem} (C : Cx w f RL cL_pleads 16 8) (hR : Rt w f cL_pleads (some .boolean) (some (.int r)) M2)   : ∀ (r0 : Nat) (x2 : Int32) (l4 : Int64) (x6 : Int32) (x7 : Int32) (x8 : Int32) (x9 : Int32) (x10 : Int32) (x11 : Int32) (x12 : Int32) (x13 : Int32) (xs0 : Int32) (xs1 : Int32) (M : Mem), f_L_pleads_329 r0 x2 l4 x6 x7 x8 x9 x10 x11 x12 x13 xs0 xs1 M = some (r, M2) → Go w f 329 [some (rv w r0), none, some (.int x2), none, some (.long l4), none, some (.int x6), some (.int x7), some (.int x8), some (.int x9), some (.int x10), some (.int x11), some (.int x12), some (.int x13), none, none] [.int xs1, .int xs0] M := by
  intro r0 x2 l4 x6 x7 x8 x9 x10 x11 x12 x13 xs0 xs1 M h
  unfold f_L_pleads_329 at h
  refine g_icmp_ne 336 C dL_pleads_329 (by decide) (fun c1401 => ?_) (fun c1401 => ?_)
  · replace h := of_iff h c1401
    exact t_L_pleads_336 C hR r0 x2 l4 x6 x7 x8 x9 x10 x11 x12 x13 M h
  · replace h := of_ift h c1401
    refine g_iconst (v := 1) C dL_pleads_332 rfl ?_
    refine g_goto 337 C dL_pleads_333 (by decide) ?_
    exact t_L_pleads_337 C hR r0 x2 l4 x6 x7 x8 x9 x10 x11 x12 x13 (1 : Int32) M h
def f_L_pleads_317 (r0 : Nat) (x2 : Int32) (l4 : Int64) (x6 : Int32) (x7 : Int32) (x8 : Int32) (x9 : Int32) (x10 : Int32) (x11 : Int32) (x12 : Int32) (x13 : Int32) (xs0 : Int32) (M : Mem) : Option (Int32 × Mem) := if x11 = (-4 : Int32) then (f_L_pleads_329 r0 x2 l4 x6 x7 x8 x9 x10 x11 x12 x13 xs0 (0 : Int32) M) else (f_L_pleads_329 r0 x2 l4 x6 x7 x8 x9 x10 x11 x12 x13 xs0 (1 : Int32) M)
set_option maxRecDepth 100000 in
set_option maxHeartbeats 4000000 in
theorem t_L_pleads_317 {w : Om} {f : Fr} {r : Int32} {M2 : Mem} (C : Cx w f RL cL_pleads 16 8) (hR : Rt w f cL_pleads (some .boolean) (some (.int r)) M2)   : ∀ (r0 : Nat) (x2 : Int32) (l4 : Int64) (x6 : Int32) (x7 : Int32) (x8 : Int32) (x9 : Int32) (x10 : Int32) (x11 : Int32) (x12 : Int32) (x13 : Int32) (xs0 : Int32) (M : Mem), f_L_pleads_317 r0 x2 l4 x6 x7 x8 x9 x10 x11 x12 x13 xs0 M = some (r, M2) → Go w f 317 [some (rv w r0), none, some (.int x2), none, some (.long l4), none, some (.int x6), some (.int x7), some (.int x8), some (.int x9), some (.int x10), some (.int x11), some (.int x12), some (.int x13), none, none] [.int xs0] M := by
  intro r0 x2 l4 x6 x7 x8 x9 x10 x11 x12 x13 xs0 M h
  unfold f_L_pleads_317 at h
  refine g_iload C dL_pleads_317 rfl ?_
  refine g_bipush (v := -4) C dL_pleads_319 rfl ?_
  refine g_icmp_eq 328 C dL_pleads_321 (by decide) (fun c1301 => ?_) (fun c1301 => ?_)
  · replace h := of_ift h c1301
    refine g_iconst (v := 0) C dL_pleads_328 rfl ?_
    exact t_L_pleads_329 C hR r0 x2 l4 x6 x7 x8 x9 x10 x11 x12 x13 xs0 (0 : Int32) M h
  · replace h := of_iff h c1301
    refine g_iconst (v := 1) C dL_pleads_324 rfl ?_
    refine g_goto 329 C dL_pleads_325 (by decide) ?_
    exact t_L_pleads_329 C hR r0 x2 l4 x6 x7 x8 x9 x10 x11 x12 x13 xs0 (1 : Int32) M h
def f_L_pleads_236 (r0 : Nat) (x2 : Int32) (xs0 : Int32) (M : Mem) : Option (Int32 × Mem) := opp (f_L_look r0 M) fun y503 M501 => gdd (kd r0 = 6) <| opp (f_X5_count r0 (14 : Int32) M501) fun y507 M505 => opp (f_X5_count r0 (7 : Int32) M505) fun y510 M508 => opp (f_X5_count r0 (8 : Int32) M508) fun y513 M511 => opp (f_X5_count r0 (0 : Int32) M511) fun y516 M514 => opp (f_X5_count r0 (13 : Int32) M514) fun y519 M517 => obb (f_X5_fault r0 (1 : Int32) M517) fun y520 => opp (f_X5_plead r0 M517) fun y524 M522 => opp (f_X5_clear r0 M522) fun y527 M525 => if xs0 = 0 then (f_L_pleads_336 r0 x2 y503 y507 y510 y513 y516 y519 y520 y524 y527 M525) else (if y524 = (-2 : Int32) then (f_L_pleads_317 r0 x2 y503 y507 y510 y513 y516 y519 y520 y524 y527 (1 : Int32) M525) else (f_L_pleads_317 r0 x2 y503 y507 y510 y513 y516 y519 y520 y524 y527 (0 : Int32) M525))
set_option maxRecDepth 100000 in
set_option maxHeartbeats 4000000 in
theorem t_L_pleads_236 {w : Om} {f : Fr} {r : Int32} {M2 : Mem} (C : Cx w f RL cL_pleads 16 8) (hR : Rt w f cL_pleads (some .boolean) (some (.int r)) M2)   : ∀ (r0 : Nat) (x2 : Int32) (xs0 : Int32) (M : Mem), f_L_pleads_236 r0 x2 xs0 M = some (r, M2) → Go w f 236 [some (rv w r0), none, some (.int x2), none, none, none, none, none, none, none, none, none, none, none, none, none] [.int xs0] M := by
  intro r0 x2 xs0 M h
  unfold f_L_pleads_236 at h
  refine g_istore_n C dL_pleads_236 rfl (by decide) rfl (L2 := [some (rv w r0), none, some (.int x2), some (.int xs0), none, none, none, none, none, none, none, none, none, none, none, none]) rfl ?_
  refine g_aload_n C dL_pleads_237 rfl rfl ?_
  obtain ⟨y503, M501, e502, h⟩ := of_opp h
  refine g_callS (As := [rv w r0]) C (ct_L_look C.wf e502) lk_RL_86 mi_L_look (by decide) cs_0 (by decide) dL_pleads_238 rfl ?_
  show Go w f 241 [some (rv w r0), none, some (.int x2), some (.int xs0), none, none, none, none, none, none, none, none, none, none, none, none] [.long y503] M501
  refine g_lstore C dL_pleads_241 (by decide) rfl (L2 := [some (rv w r0), none, some (.int x2), some (.int xs0), some (.long y503), none, none, none, none, none, none, none, none, none, none, none]) rfl ?_
  refine g_aload_n C dL_pleads_243 rfl rfl ?_
  refine g_bipush (v := 14) C dL_pleads_244 rfl ?_
  obtain ⟨g504, h⟩ := of_gdd h
  obtain ⟨y507, M505, e506, h⟩ := of_opp h
  refine g_callV (As := [.int (14 : Int32)]) C (ct_X5_count C.wf e506) g504 lk_RL_13 mi_X5_count (by decide) cs_0 (by decide) dL_pleads_246 rfl ?_
  show Go w f 249 [some (rv w r0), none, some (.int x2), some (.int xs0), some (.long y503), none, none, none, none, none, none, none, none, none, none, none] [.int y507] M505
  refine g_istore C dL_pleads_249 (by decide) trivial (L2 := [some (rv w r0), none, some (.int x2), some (.int xs0), some (.long y503), none, some (.int y507), none, none, none, none, none, none, none, none, none]) rfl ?_
  refine g_aload_n C dL_pleads_251 rfl rfl ?_
  refine g_bipush (v := 7) C dL_pleads_252 rfl ?_
  obtain ⟨y510, M508, e509, h⟩ := of_opp h
  refine g_callV (As := [.int (7 : Int32)]) C (ct_X5_count C.wf e509) g504 lk_RL_13 mi_X5_count (by decide) cs_0 (by decide) dL_pleads_254 rfl ?_
  show Go w f 257 [some (rv w r0), none, some (.int x2), some (.int xs0), some (.long y503), none, some (.int y507), none, none, none, none, none, none, none, none, none] [.int y510] M508
  refine g_istore C dL_pleads_257 (by decide) rfl (L2 := [some (rv w r0), none, some (.int x2), some (.int xs0), some (.long y503), none, some (.int y507), some (.int y510), none, none, none, none, none, none, none, none]) rfl ?_
  refine g_aload_n C dL_pleads_259 rfl rfl ?_
  refine g_bipush (v := 8) C dL_pleads_260 rfl ?_
  obtain ⟨y513, M511, e512, h⟩ := of_opp h
  refine g_callV (As := [.int (8 : Int32)]) C (ct_X5_count C.wf e512) g504 lk_RL_13 mi_X5_count (by decide) cs_0 (by decide) dL_pleads_262 rfl ?_
  show Go w f 265 [some (rv w r0), none, some (.int x2), some (.int xs0), some (.long y503), none, some (.int y507), some (.int y510), none, none, none, none, none, none, none, none] [.int y513] M511
  refine g_istore C dL_pleads_265 (by decide) rfl (L2 := [some (rv w r0), none, some (.int x2), some (.int xs0), some (.long y503), none, some (.int y507), some (.int y510), some (.int y513), none, none, none, none, none, none, none]) rfl ?_
  refine g_aload_n C dL_pleads_267 rfl rfl ?_
  refine g_iconst (v := 0) C dL_pleads_268 rfl ?_
  obtain ⟨y516, M514, e515, h⟩ := of_opp h
  refine g_callV (As := [.int (0 : Int32)]) C (ct_X5_count C.wf e515) g504 lk_RL_13 mi_X5_count (by decide) cs_0 (by decide) dL_pleads_269 rfl ?_
  show Go w f 272 [some (rv w r0), none, some (.int x2), some (.int xs0), some (.long y503), none, some (.int y507), some (.int y510), some (.int y513), none, none, none, none, none, none, none] [.int y516] M514
  refine g_istore C dL_pleads_272 (by decide) rfl (L2 := [some (rv w r0), none, some (.int x2), some (.int xs0), some (.long y503), none, some (.int y507), some (.int y510), some (.int y513), some (.int y516), none, none, none, none, none, none]) rfl ?_
  refine g_aload_n C dL_pleads_274 rfl rfl ?_
  refine g_bipush (v := 13) C dL_pleads_275 rfl ?_
  obtain ⟨y519, M517, e518, h⟩ := of_opp h
  refine g_callV (As := [.int (13 : Int32)]) C (ct_X5_count C.wf e518) g504 lk_RL_13 mi_X5_count (by decide) cs_0 (by decide) dL_pleads_277 rfl ?_
  show Go w f 280 [some (rv w r0), none, some (.int x2), some (.int xs0), some (.long y503), none, some (.int y507), some (.int y510), some (.int y513), some (.int y516), none, none, none, none, none, none] [.int y519] M517
  refine g_istore C dL_pleads_280 (by decide) rfl (L2 := [some (rv w r0), none, some (.int x2), some (.int xs0), some (.long y503), none, some (.int y507), some (.int y510), some (.int y513), some (.int y516), some (.int y519), none, none, none, none, none]) rfl ?_
  refine g_aload_n C dL_pleads_282 rfl rfl ?_
  refine g_iconst (v := 1) C dL_pleads_283 rfl ?_
  obtain ⟨y520, e521, h⟩ := of_obb h
  refine g_callV (As := [.int (1 : Int32)]) C (ct_X5_fault C.wf e521) g504 lk_RL_80 mi_X5_fault (by decide) cs_0 (by decide) dL_pleads_284 rfl ?_
  show Go w f 287 [some (rv w r0), none, some (.int x2), some (.int xs0), some (.long y503), none, some (.int y507), some (.int y510), some (.int y513), some (.int y516), some (.int y519), none, none, none, none, none] [.int y520] M517
  refine g_istore C dL_pleads_287 (by decide) rfl (L2 := [some (rv w r0), none, some (.int x2), some (.int xs0), some (.long y503), none, some (.int y507), some (.int y510), some (.int y513), some (.int y516), some (.int y519), some (.int y520), none, none, none, none]) rfl ?_
  refine g_aload_n C dL_pleads_289 rfl rfl ?_
  obtain ⟨y524, M522, e523, h⟩ := of_opp h
  refine g_callV (As := []) C (ct_X5_plead C.wf e523) g504 lk_RL_90 mi_X5_plead (by decide) cs_0 (by decide) dL_pleads_290 rfl ?_
  show Go w f 293 [some (rv w r0), none, some (.int x2), some (.int xs0), some (.long y503), none, some (.int y507), some (.int y510), some (.int y513), some (.int y516), some (.int y519), some (.int y520), none, none, none, none] [.int y524] M522
  refine g_istore C dL_pleads_293 (by decide) rfl (L2 := [some (rv w r0), none, some (.int x2), some (.int xs0), some (.long y503), none, some (.int y507), some (.int y510), some (.int y513), some (.int y516), some (.int y519), some (.int y520), some (.int y524), none, none, none]) rfl ?_
  refine g_aload_n C dL_pleads_295 rfl rfl ?_
  obtain ⟨y527, M525, e526, h⟩ := of_opp h
  refine g_callV (As := []) C (ct_X5_clear C.wf e526) g504 lk_RL_69 mi_X5_clear (by decide) cs_0 (by decide) dL_pleads_296 rfl ?_
  show Go w f 299 [some (rv w r0), none, some (.int x2), some (.int xs0), some (.long y503), none, some (.int y507), some (.int y510), some (.int y513), some (.int y516), some (.int y519), some (.int y520), some (.int y524), none, none, none] [.int y527] M525
  refine g_istore C dL_pleads_299 (by decide) rfl (L2 := [some (rv w r0), none, some (.int x2), some (.int xs0), some (.long y503), none, some (.int y507), some (.int y510), some (.int y513), some (.int y516), some (.int y519), some (.int y520), some (.int y524), some (.int y527), none, none]) rfl ?_
  refine g_iload_n C dL_pleads_301 rfl rfl ?_
  refine g_if_eq 336 C dL_pleads_302 (by decide) (fun c528 => ?_) (fun c528 => ?_)
  · replace h := of_ift h c528
    refine g_mask (bs := [true, false, true, false, true, false, true, true, true, true, true, true, true, true, false, false]) (L2 := [some (rv w r0), none, some (.int x2), none, some (.long y503), none, some (.int y507), some (.int y510), some (.int y513), some (.int y516), some (.int y519), some (.int y520), some (.int y524), some (.int y527), none, none]) rfl ?_
    exact t_L_pleads_336 C hR r0 x2 y503 y507 y510 y513 y516 y519 y520 y524 y527 M525 h
  · replace h := of_iff h c528
    refine g_iload C dL_pleads_305 rfl ?_
    refine g_bipush (v := -2) C dL_pleads_307 rfl ?_
    refine g_icmp_ne 316 C dL_pleads_309 (by decide) (fun c529 => ?_) (fun c529 => ?_)
    · replace h := of_iff h c529
      refine g_iconst (v := 0) C dL_pleads_316 rfl ?_
      refine g_mask (bs := [true, false, true, false, true, false, true, true, true, true, true, true, true, true, false, false]) (L2 := [some (rv w r0), none, some (.int x2), none, some (.long y503), none, some (.int y507), some (.int y510), some (.int y513), some (.int y516), some (.int y519), some (.int y520), some (.int y524), some (.int y527), none, none]) rfl ?_
      exact t_L_pleads_317 C hR r0 x2 y503 y507 y510 y513 y516 y519 y520 y524 y527 (0 : Int32) M525 h
    · replace h := of_ift h c529
      refine g_iconst (v := 1) C dL_pleads_312 rfl ?_
      refine g_goto 317 C dL_pleads_313 (by decide) ?_
      refine g_mask (bs := [true, false, true, false, true, false, true, true, true, true, true, true, true, true, false, false]) (L2 := [some (rv w r0), none, some (.int x2), none, some (.long y503), none, some (.int y507), some (.int y510), some (.int y513), some (.int y516), some (.int y519), some (.int y520), some (.int y524), some (.int y527), none, none]) rfl ?_
      exact t_L_pleads_317 C hR r0 x2 y503 y507 y510 y513 y516 y519 y520 y524 y527 (1 : Int32) M525 h
def f_L_pleads_235 (r0 : Nat) (x2 : Int32) (M : Mem) : Option (Int32 × Mem) := f_L_pleads_236 r0 x2 (0 : Int32) M
set_option maxRecDepth 100000 in
set_option maxHeartbeats 4000000 in
theorem t_L_pleads_235 {w : Om} {f : Fr} {r : Int32} {M2 : Mem} (C : Cx w f RL cL_pleads 16 8) (hR : Rt w f cL_pleads (some .boolean) (some (.int r)) M2)   : ∀ (r0 : Nat) (x2 : Int32) (M : Mem), f_L_pleads_235 r0 x2 M = some (r, M2) → Go w f 235 [some (rv w r0), none, some (.int x2), none, none, none, none, none, none, none, none, none, none, none, none, none] [] M := by
  intro r0 x2 M h
  unfold f_L_pleads_235 at h
  refine g_iconst (v := 0) C dL_pleads_235 rfl ?_
  exact t_L_pleads_236 C hR r0 x2 (0 : Int32) M h
def f_L_pleads_231 (r0 : Nat) (x2 : Int32) (M : Mem) : Option (Int32 × Mem) := f_L_pleads_236 r0 x2 (1 : Int32) M
set_option maxRecDepth 100000 in
set_option maxHeartbeats 4000000 in
theorem t_L_pleads_231 {w : Om} {f : Fr} {r : Int32} {M2 : Mem} (C : Cx w f RL cL_pleads 16 8) (hR : Rt w f cL_pleads (some .boolean) (some (.int r)) M2)   : ∀ (r0 : Nat) (x2 : Int32) (M : Mem), f_L_pleads_231 r0 x2 M = some (r, M2) → Go w f 231 [some (rv w r0), none, some (.int x2), none, none, none, none, none, none, none, none, none, none, none, none, none] [] M := by
  intro r0 x2 M h
  unfold f_L_pleads_231 at h
  refine g_iconst (v := 1) C dL_pleads_231 rfl ?_
  refine g_goto 236 C dL_pleads_232 (by decide) ?_
  exact t_L_pleads_236 C hR r0 x2 (1 : Int32) M h
def f_L_pleads_199 (k23 : Nat → Int32 → Int32 → Int32 → Int32 → Mem → Option (Int32 × Mem)) (r0 : Nat) (x1 : Int32) (x2 : Int32) (x4 : Int32) (xs0 : Int32) (M : Mem) : Option (Int32 × Mem) := bvv (x4 + (1 : Int32)) fun y1801 => k23 r0 x1 x2 xs0 y1801 M
set_option maxRecDepth 100000 in
set_option maxHeartbeats 4000000 in
theorem t_L_pleads_199 {w : Om} {f : Fr} {r : Int32} {M2 : Mem} (C : Cx w f RL cL_pleads 16 8) (hR : Rt w f cL_pleads (some .boolean) (some (.int r)) M2) {k23 : Nat → Int32 → Int32 → Int32 → Int32 → Mem → Option (Int32 × Mem)} (hk23 : ∀ (r0' : Nat) (x1' : Int32) (x2' : Int32) (x3' : Int32) (x4' : Int32) (M' : Mem), k23 r0' x1' x2' x3' x4' M' = some (r, M2) → Go w f 23 [some (rv w r0'), some (.int x1'), some (.int x2'), some (.int x3'), some (.int x4'), none, none, none, none, none, none, none, none, none, none, none] [] M') : ∀ (r0 : Nat) (x1 : Int32) (x2 : Int32) (x4 : Int32) (xs0 : Int32) (M : Mem), f_L_pleads_199 k23 r0 x1 x2 x4 xs0 M = some (r, M2) → Go w f 199 [some (rv w r0), some (.int x1), some (.int x2), none, some (.int x4), none, none, none, none, none, none, none, none, none, none, none] [.int xs0] M := by
  intro r0 x1 x2 x4 xs0 M h
  unfold f_L_pleads_199 at h
  refine g_istore_n C dL_pleads_199 rfl (by decide) rfl (L2 := [some (rv w r0), some (.int x1), some (.int x2), some (.int xs0), some (.int x4), none, none, none, none, none, none, none, none, none, none, none]) rfl ?_
  obtain ⟨y1801, e1802, h⟩ := of_bvv h
  refine g_iinc (v := y1801) C dL_pleads_200 rfl e1802.symm (by decide) rfl (L2 := [some (rv w r0), some (.int x1), some (.int x2), some (.int xs0), some (.int y1801), none, none, none, none, none, none, none, none, none, none, none]) rfl ?_
  refine g_goto 23 C dL_pleads_203 (by decide) ?_
  exact hk23 r0 x1 x2 xs0 y1801 M h
def f_L_pleads_198 (k23 : Nat → Int32 → Int32 → Int32 → Int32 → Mem → Option (Int32 × Mem)) (r0 : Nat) (x1 : Int32) (x2 : Int32) (x4 : Int32) (M : Mem) : Option (Int32 × Mem) := f_L_pleads_199 k23 r0 x1 x2 x4 (0 : Int32) M
set_option maxRecDepth 100000 in
set_option maxHeartbeats 4000000 in
theorem t_L_pleads_198 {w : Om} {f : Fr} {r : Int32} {M2 : Mem} (C : Cx w f RL cL_pleads 16 8) (hR : Rt w f cL_pleads (some .boolean) (some (.int r)) M2) {k23 : Nat → Int32 → Int32 → Int32 → Int32 → Mem → Option (Int32 × Mem)} (hk23 : ∀ (r0' : Nat) (x1' : Int32) (x2' : Int32) (x3' : Int32) (x4' : Int32) (M' : Mem), k23 r0' x1' x2' x3' x4' M' = some (r, M2) → Go w f 23 [some (rv w r0'), some (.int x1'), some (.int x2'), some (.int x3'), some (.int x4'), none, none, none, none, none, none, none, none, none, none, none] [] M') : ∀ (r0 : Nat) (x1 : Int32) (x2 : Int32) (x4 : Int32) (M : Mem), f_L_pleads_198 k23 r0 x1 x2 x4 M = some (r, M2) → Go w f 198 [some (rv w r0), some (.int x1), some (.int x2), none, some (.int x4), none, none, none, none, none, none, none, none, none, none, none] [] M := by
  intro r0 x1 x2 x4 M h
  unfold f_L_pleads_198 at h
  refine g_iconst (v := 0) C dL_pleads_198 rfl ?_
  exact t_L_pleads_199 C hR (fun r0' x1' x2' x3' x4' M' h => hk23 r0' x1' x2' x3' x4' M' h) r0 x1 x2 x4 (0 : Int32) M h
def f_L_pleads_194 (k23 : Nat → Int32 → Int32 → Int32 → Int32 → Mem → Option (Int32 × Mem)) (r0 : Nat) (x1 : Int32) (x2 : Int32) (x4 : Int32) (M : Mem) : Option (Int32 × Mem) := f_L_pleads_199 k23 r0 x1 x2 x4 (1 : Int32) M
set_option maxRecDepth 100000 in
set_option maxHeartbeats 4000000 in
theorem t_L_pleads_194 {w : Om} {f : Fr} {r : Int32} {M2 : Mem} (C : Cx w f RL cL_pleads 16 8) (hR : Rt w f cL_pleads (some .boolean) (some (.int r)) M2) {k23 : Nat → Int32 → Int32 → Int32 → Int32 → Mem → Option (Int32 × Mem)} (hk23 : ∀ (r0' : Nat) (x1' : Int32) (x2' : Int32) (x3' : Int32) (x4' : Int32) (M' : Mem), k23 r0' x1' x2' x3' x4' M' = some (r, M2) → Go w f 23 [some (rv w r0'), some (.int x1'), some (.int x2'), some (.int x3'), some (.int x4'), none, none, none, none, none, none, none, none, none, none, none] [] M') : ∀ (r0 : Nat) (x1 : Int32) (x2 : Int32) (x4 : Int32) (M : Mem), f_L_pleads_194 k23 r0 x1 x2 x4 M = some (r, M2) → Go w f 194 [some (rv w r0), some (.int x1), some (.int x2), none, some (.int x4), none, none, none, none, none, none, none, none, none, none, none] [] M := by
  intro r0 x1 x2 x4 M h
  unfold f_L_pleads_194 at h
  refine g_iconst (v := 1) C dL_pleads_194 rfl ?_
  refine g_goto 199 C dL_pleads_195 (by decide) ?_
  exact t_L_pleads_199 C hR (fun r0' x1' x2' x3' x4' M' h => hk23 r0' x1' x2' x3' x4' M' h) r0 x1 x2 x4 (1 : Int32) M h
def f_L_pleads_179 (k23 : Nat → Int32 → Int32 → Int32 → Int32 → Mem → Option (Int32 × Mem)) (r0 : Nat) (x1 : Int32) (x2 : Int32) (x4 : Int32) (x6 : Int32) (M : Mem) : Option (Int32 × Mem) := gdd (kd r0 = 6) <| opp (f_X5_append r0 ((48 : Int32) + (x6 - x6 / (10 : Int32) * (10 : Int32))) M) fun y2104 M2102 => if y2104 ≤ 0 then (f_L_pleads_198 k23 r0 x1 x2 x4 M2102) else (f_L_pleads_194 k23 r0 x1 x2 x4 M2102)
set_option maxRecDepth 100000 in
set_option maxHeartbeats 4000000 in
theorem t_L_pleads_179 {w : Om} {f : Fr} {r : Int32} {M2 : Mem} (C : Cx w f RL cL_pleads 16 8) (hR : Rt w f cL_pleads (some .boolean) (some (.int r)) M2) {k23 : Nat → Int32 → Int32 → Int32 → Int32 → Mem → Option (Int32 × Mem)} (hk23 : ∀ (r0' : Nat) (x1' : Int32) (x2' : Int32) (x3' : Int32) (x4' : Int32) (M' : Mem), k23 r0' x1' x2' x3' x4' M' = some (r, M2) → Go w f 23 [some (rv w r0'), some (.int x1'), some (.int x2'), some (.int x3'), some (.int x4'), none, none, none, none, none, none, none, none, none, none, none] [] M') : ∀ (r0 : Nat) (x1 : Int32) (x2 : Int32) (x4 : Int32) (x6 : Int32) (M : Mem), f_L_pleads_179 k23 r0 x1 x2 x4 x6 M = some (r, M2) → Go w f 179 [some (rv w r0), some (.int x1), some (.int x2), none, some (.int x4), none, some (.int x6), none, none, none, none, none, none, none, none, none] [] M := by
  intro r0 x1 x2 x4 x6 M h
  unfold f_L_pleads_179 at h
  refine g_aload_n C dL_pleads_179 rfl rfl ?_
  refine g_bipush (v := 48) C dL_pleads_180 rfl ?_
  refine g_iload C dL_pleads_182 rfl ?_
  refine g_bipush (v := 10) C dL_pleads_184 rfl ?_
  refine g_irem C dL_pleads_186 (by decide) ?_
  refine g_iadd C dL_pleads_187 ?_
  obtain ⟨g2101, h⟩ := of_gdd h
  obtain ⟨y2104, M2102, e2103, h⟩ := of_opp h
  refine g_callV (As := [.int ((48 : Int32) + (x6 - x6 / (10 : Int32) * (10 : Int32)))]) C (ct_X5_append C.wf e2103) g2101 lk_RL_73 mi_X5_append (by decide) cs_0 (by decide) dL_pleads_188 rfl ?_
  show Go w f 191 [some (rv w r0), some (.int x1), some (.int x2), none, some (.int x4), none, some (.int x6), none, none, none, none, none, none, none, none, none] [.int y2104] M2102
  refine g_if_le 198 C dL_pleads_191 (by decide) (fun c2105 => ?_) (fun c2105 => ?_)
  · replace h := of_ift h c2105
    refine g_mask (bs := [true, true, true, false, true, false, false, false, false, false, false, false, false, false, false, false]) (L2 := [some (rv w r0), some (.int x1), some (.int x2), none, some (.int x4), none, none, none, none, none, none, none, none, none, none, none]) rfl ?_
    exact t_L_pleads_198 C hR (fun r0' x1' x2' x3' x4' M' h => hk23 r0' x1' x2' x3' x4' M' h) r0 x1 x2 x4 M2102 h
  · replace h := of_iff h c2105
    refine g_mask (bs := [true, true, true, false, true, false, false, false, false, false, false, false, false, false, false, false]) (L2 := [some (rv w r0), some (.int x1), some (.int x2), none, some (.int x4), none, none, none, none, none, none, none, none, none, none, none]) rfl ?_
    exact t_L_pleads_194 C hR (fun r0' x1' x2' x3' x4' M' h => hk23 r0' x1' x2' x3' x4' M' h) r0 x1 x2 x4 M2102 h
def f_L_pleads_144 (k23 : Nat → Int32 → Int32 → Int32 → Int32 → Mem → Option (Int32 × Mem)) (r0 : Nat) (x1 : Int32) (x2 : Int32) (x4 : Int32) (x6 : Int32) (rs0 : Nat) (xs1 : Int32) (xs2 : Int32) (xs3 : Int32) (M : Mem) : Option (Int32 × Mem) := obb (f_L_low xs2 xs3) fun y2001 => gdd (kd rs0 = 6) <| opp (f_X5_append rs0 (xs1 + y2001) M) fun y2006 M2004 => if y2006 ≤ 0 then (f_L_pleads_198 k23 r0 x1 x2 x4 M2004) else (gdd (kd r0 = 6) <| opp (f_X5_append r0 (58 : Int32) M2004) fun y2011 M2009 => if y2011 ≤ 0 then (f_L_pleads_198 k23 r0 x1 x2 x4 M2009) else (if x6 < (10 : Int32) then (f_L_pleads_179 k23 r0 x1 x2 x4 x6 M2009) else (opp (f_X5_append r0 (49 : Int32) M2009) fun y2016 M2014 => if y2016 ≤ 0 then (f_L_pleads_198 k23 r0 x1 x2 x4 M2014) else (f_L_pleads_179 k23 r0 x1 x2 x4 x6 M2014))))
set_option maxRecDepth 100000 in
set_option maxHeartbeats 4000000 in
theorem t_L_pleads_144 {w : Om} {f : Fr} {r : Int32} {M2 : Mem} (C : Cx w f RL cL_pleads 16 8) (hR : Rt w f cL_pleads (some .boolean) (some (.int r)) M2) {k23 : Nat → Int32 → Int32 → Int32 → Int32 → Mem → Option (Int32 × Mem)} (hk23 : ∀ (r0' : Nat) (x1' : Int32) (x2' : Int32) (x3' : Int32) (x4' : Int32) (M' : Mem), k23 r0' x1' x2' x3' x4' M' = some (r, M2) → Go w f 23 [some (rv w r0'), some (.int x1'), some (.int x2'), some (.int x3'), some (.int x4'), none, none, none, none, none, none, none, none, none, none, none] [] M') : ∀ (r0 : Nat) (x1 : Int32) (x2 : Int32) (x4 : Int32) (x6 : Int32) (rs0 : Nat) (xs1 : Int32) (xs2 : Int32) (xs3 : Int32) (M : Mem), f_L_pleads_144 k23 r0 x1 x2 x4 x6 rs0 xs1 xs2 xs3 M = some (r, M2) → Go w f 144 [some (rv w r0), some (.int x1), some (.int x2), none, some (.int x4), none, some (.int x6), none, none, none, none, none, none, none, none, none] [.int xs3, .int xs2, .int xs1, rv w rs0] M := by
  intro r0 x1 x2 x4 x6 rs0 xs1 xs2 xs3 M h
  unfold f_L_pleads_144 at h
  obtain ⟨y2001, e2002, h⟩ := of_obb h
  refine g_callS (As := [.int xs2, .int xs3]) C (ct_L_low C.wf e2002) lk_RL_56 mi_L_low (by decide) (cs_i (cs_r cs_0)) (by decide) dL_pleads_144 rfl ?_
  show Go w f 147 [some (rv w r0), some (.int x1), some (.int x2), none, some (.int x4), none, some (.int x6), none, none, none, none, none, none, none, none, none] [.int y2001, .int xs1, rv w rs0] M
  refine g_iadd C dL_pleads_147 ?_
  obtain ⟨g2003, h⟩ := of_gdd h
  obtain ⟨y2006, M2004, e2005, h⟩ := of_opp h
  refine g_callV (As := [.int (xs1 + y2001)]) C (ct_X5_append C.wf e2005) g2003 lk_RL_73 mi_X5_append (by decide) cs_0 (by decide) dL_pleads_148 rfl ?_
  show Go w f 151 [some (rv w r0), some (.int x1), some (.int x2), none, some (.int x4), none, some (.int x6), none, none, none, none, none, none, none, none, none] [.int y2006] M2004
  refine g_if_le 198 C dL_pleads_151 (by decide) (fun c2007 => ?_) (fun c2007 => ?_)
  · replace h := of_ift h c2007
    refine g_mask (bs := [true, true, true, false, true, false, false, false, false, false, false, false, false, false, false, false]) (L2 := [some (rv w r0), some (.int x1), some (.int x2), none, some (.int x4), none, none, none, none, none, none, none, none, none, none, none]) rfl ?_
    exact t_L_pleads_198 C hR (fun r0' x1' x2' x3' x4' M' h => hk23 r0' x1' x2' x3' x4' M' h) r0 x1 x2 x4 M2004 h
  · replace h := of_iff h c2007
    refine g_aload_n C dL_pleads_154 rfl rfl ?_
    refine g_bipush (v := 58) C dL_pleads_155 rfl ?_
    obtain ⟨g2008, h⟩ := of_gdd h
    obtain ⟨y2011, M2009, e2010, h⟩ := of_opp h
    refine g_callV (As := [.int (58 : Int32)]) C (ct_X5_append C.wf e2010) g2008 lk_RL_73 mi_X5_append (by decide) cs_0 (by decide) dL_pleads_157 rfl ?_
    show Go w f 160 [some (rv w r0), some (.int x1), some (.int x2), none, some (.int x4), none, some (.int x6), none, none, none, none, none, none, none, none, none] [.int y2011] M2009
    refine g_if_le 198 C dL_pleads_160 (by decide) (fun c2012 => ?_) (fun c2012 => ?_)
    · replace h := of_ift h c2012
      refine g_mask (bs := [true, true, true, false, true, false, false, false, false, false, false, false, false, false, false, false]) (L2 := [some (rv w r0), some (.int x1), some (.int x2), none, some (.int x4), none, none, none, none, none, none, none, none, none, none, none]) rfl ?_
      exact t_L_pleads_198 C hR (fun r0' x1' x2' x3' x4' M' h => hk23 r0' x1' x2' x3' x4' M' h) r0 x1 x2 x4 M2009 h
    · replace h := of_iff h c2012
      refine g_iload C dL_pleads_163 rfl ?_
      refine g_bipush (v := 10) C dL_pleads_165 rfl ?_
      refine g_icmp_lt 179 C dL_pleads_167 (by decide) (fun c2013 => ?_) (fun c2013 => ?_)
      · replace h := of_ift h c2013
        exact t_L_pleads_179 C hR (fun r0' x1' x2' x3' x4' M' h => hk23 r0' x1' x2' x3' x4' M' h) r0 x1 x2 x4 x6 M2009 h
      · replace h := of_iff h c2013
        refine g_aload_n C dL_pleads_170 rfl rfl ?_
        refine g_bipush (v := 49) C dL_pleads_171 rfl ?_
        obtain ⟨y2016, M2014, e2015, h⟩ := of_opp h
        refine g_callV (As := [.int (49 : Int32)]) C (ct_X5_append C.wf e2015) g2008 lk_RL_73 mi_X5_append (by decide) cs_0 (by decide) dL_pleads_173 rfl ?_
        show Go w f 176 [some (rv w r0), some (.int x1), some (.int x2), none, some (.int x4), none, some (.int x6), none, none, none, none, none, none, none, none, none] [.int y2016] M2014
        refine g_if_le 198 C dL_pleads_176 (by decide) (fun c2017 => ?_) (fun c2017 => ?_)
        · replace h := of_ift h c2017
          refine g_mask (bs := [true, true, true, false, true, false, false, false, false, false, false, false, false, false, false, false]) (L2 := [some (rv w r0), some (.int x1), some (.int x2), none, some (.int x4), none, none, none, none, none, none, none, none, none, none, none]) rfl ?_
          exact t_L_pleads_198 C hR (fun r0' x1' x2' x3' x4' M' h => hk23 r0' x1' x2' x3' x4' M' h) r0 x1 x2 x4 M2014 h
        · replace h := of_iff h c2017
          exact t_L_pleads_179 C hR (fun r0' x1' x2' x3' x4' M' h => hk23 r0' x1' x2' x3' x4' M' h) r0 x1 x2 x4 x6 M2014 h
def f_L_pleads_83 (k23 : Nat → Int32 → Int32 → Int32 → Int32 → Mem → Option (Int32 × Mem)) (r0 : Nat) (x1 : Int32) (x2 : Int32) (x4 : Int32) (x5 : Int32) (x6 : Int32) (M : Mem) : Option (Int32 × Mem) := obb (f_L_low x5 (5 : Int32)) fun y1901 => if y1901 = 0 then (gdd (kd r0 = 6) <| opp (f_X5_append r0 (43 : Int32) M) fun y1918 M1916 => if y1918 ≤ 0 then (f_L_pleads_198 k23 r0 x1 x2 x4 M1916) else (f_L_pleads_194 k23 r0 x1 x2 x4 M1916)) else (obb (f_L_low (x1 >>> ((23 : Int32) &&& 31)) (9 : Int32)) fun y1904 => if y1904 = 0 then (f_L_pleads_144 k23 r0 x1 x2 x4 x6 r0 (48 : Int32) (x5 >>> ((2 : Int32) &&& 31)) (5 : Int32) M) else (gdd (kd r0 = 6) <| opp (f_X5_count r0 (1 : Int32) M) fun y1910 M1908 => if y1910 = 0 then (f_L_pleads_144 k23 r0 x1 x2 x4 x6 r0 (48 : Int32) (x5 >>> ((2 : Int32) &&& 31)) (1 : Int32) M1908) else (opp (f_X5_count r0 (1 : Int32) M1908) fun y1914 M1912 => f_L_pleads_144 k23 r0 x1 x2 x4 x6 r0 (48 : Int32) (x5 >>> ((2 : Int32) &&& 31)) y1914 M1912)))
set_option maxRecDepth 100000 in
set_option maxHeartbeats 4000000 in
theorem t_L_pleads_83 {w : Om} {f : Fr} {r : Int32} {M2 : Mem} (C : Cx w f RL cL_pleads 16 8) (hR : Rt w f cL_pleads (some .boolean) (some (.int r)) M2) {k23 : Nat → Int32 → Int32 → Int32 → Int32 → Mem → Option (Int32 × Mem)} (hk23 : ∀ (r0' : Nat) (x1' : Int32) (x2' : Int32) (x3' : Int32) (x4' : Int32) (M' : Mem), k23 r0' x1' x2' x3' x4' M' = some (r, M2) → Go w f 23 [some (rv w r0'), some (.int x1'), some (.int x2'), some (.int x3'), some (.int x4'), none, none, none, none, none, none, none, none, none, none, none] [] M') : ∀ (r0 : Nat) (x1 : Int32) (x2 : Int32) (x4 : Int32) (x5 : Int32) (x6 : Int32) (M : Mem), f_L_pleads_83 k23 r0 x1 x2 x4 x5 x6 M = some (r, M2) → Go w f 83 [some (rv w r0), some (.int x1), some (.int x2), none, some (.int x4), some (.int x5), some (.int x6), none, none, none, none, none, none, none, none, none] [] M := by
  intro r0 x1 x2 x4 x5 x6 M h
  unfold f_L_pleads_83 at h
  refine g_iload C dL_pleads_83 rfl ?_
  refine g_iconst (v := 5) C dL_pleads_85 rfl ?_
  obtain ⟨y1901, e1902, h⟩ := of_obb h
  refine g_callS (As := [.int x5, .int (5 : Int32)]) C (ct_L_low C.wf e1902) lk_RL_56 mi_L_low (by decide) cs_0 (by decide) dL_pleads_86 rfl ?_
  show Go w f 89 [some (rv w r0), some (.int x1), some (.int x2), none, some (.int x4), some (.int x5), some (.int x6), none, none, none, none, none, none, none, none, none] [.int y1901] M
  refine g_if_ne 104 C dL_pleads_89 (by decide) (fun c1903 => ?_) (fun c1903 => ?_)
  · replace h := of_iff h c1903
    refine g_aload_n C dL_pleads_104 rfl rfl ?_
    refine g_bipush (v := 48) C dL_pleads_105 rfl ?_
    refine g_iload C dL_pleads_107 rfl ?_
    refine g_iconst (v := 2) C dL_pleads_109 rfl ?_
    refine g_ishr C dL_pleads_110 ?_
    refine g_iload_n C dL_pleads_111 rfl rfl ?_
    refine g_bipush (v := 23) C dL_pleads_112 rfl ?_
    refine g_ishr C dL_pleads_114 ?_
    refine g_bipush (v := 9) C dL_pleads_115 rfl ?_
    obtain ⟨y1904, e1905, h⟩ := of_obb h
    refine g_callS (As := [.int (x1 >>> ((23 : Int32) &&& 31)), .int (9 : Int32)]) C (ct_L_low C.wf e1905) lk_RL_56 mi_L_low (by decide) (cs_i (cs_i (cs_r cs_0))) (by decide) dL_pleads_117 rfl ?_
    show Go w f 120 [some (rv w r0), some (.int x1), some (.int x2), none, some (.int x4), some (.int x5), some (.int x6), none, none, none, none, none, none, none, none, none] [.int y1904, .int (x5 >>> ((2 : Int32) &&& 31)), .int (48 : Int32), rv w r0] M
    refine g_if_ne 127 C dL_pleads_120 (by decide) (fun c1906 => ?_) (fun c1906 => ?_)
    · replace h := of_iff h c1906
      refine g_aload_n C dL_pleads_127 rfl rfl ?_
      refine g_iconst (v := 1) C dL_pleads_128 rfl ?_
      obtain ⟨g1907, h⟩ := of_gdd h
      obtain ⟨y1910, M1908, e1909, h⟩ := of_opp h
      refine g_callV (As := [.int (1 : Int32)]) C (ct_X5_count C.wf e1909) g1907 lk_RL_13 mi_X5_count (by decide) (cs_i (cs_i (cs_r cs_0))) (by decide) dL_pleads_129 rfl ?_
      show Go w f 132 [some (rv w r0), some (.int x1), some (.int x2), none, some (.int x4), some (.int x5), some (.int x6), none, none, none, none, none, none, none, none, none] [.int y1910, .int (x5 >>> ((2 : Int32) &&& 31)), .int (48 : Int32), rv w r0] M1908
      refine g_if_ne 139 C dL_pleads_132 (by decide) (fun c1911 => ?_) (fun c1911 => ?_)
      · replace h := of_iff h c1911
        refine g_aload_n C dL_pleads_139 rfl rfl ?_
        refine g_iconst (v := 1) C dL_pleads_140 rfl ?_
        obtain ⟨y1914, M1912, e1913, h⟩ := of_opp h
        refine g_callV (As := [.int (1 : Int32)]) C (ct_X5_count C.wf e1913) g1907 lk_RL_13 mi_X5_count (by decide) (cs_i (cs_i (cs_r cs_0))) (by decide) dL_pleads_141 rfl ?_
        show Go w f 144 [some (rv w r0), some (.int x1), some (.int x2), none, some (.int x4), some (.int x5), some (.int x6), none, none, none, none, none, none, none, none, none] [.int y1914, .int (x5 >>> ((2 : Int32) &&& 31)), .int (48 : Int32), rv w r0] M1912
        refine g_mask (bs := [true, true, true, false, true, false, true, false, false, false, false, false, false, false, false, false]) (L2 := [some (rv w r0), some (.int x1), some (.int x2), none, some (.int x4), none, some (.int x6), none, none, none, none, none, none, none, none, none]) rfl ?_
        exact t_L_pleads_144 C hR (fun r0' x1' x2' x3' x4' M' h => hk23 r0' x1' x2' x3' x4' M' h) r0 x1 x2 x4 x6 r0 (48 : Int32) (x5 >>> ((2 : Int32) &&& 31)) y1914 M1912 h
      · replace h := of_ift h c1911
        refine g_iconst (v := 1) C dL_pleads_135 rfl ?_
        refine g_goto 144 C dL_pleads_136 (by decide) ?_
        refine g_mask (bs := [true, true, true, false, true, false, true, false, false, false, false, false, false, false, false, false]) (L2 := [some (rv w r0), some (.int x1), some (.int x2), none, some (.int x4), none, some (.int x6), none, none, none, none, none, none, none, none, none]) rfl ?_
        exact t_L_pleads_144 C hR (fun r0' x1' x2' x3' x4' M' h => hk23 r0' x1' x2' x3' x4' M' h) r0 x1 x2 x4 x6 r0 (48 : Int32) (x5 >>> ((2 : Int32) &&& 31)) (1 : Int32) M1908 h
    · replace h := of_ift h c1906
      refine g_iconst (v := 5) C dL_pleads_123 rfl ?_
      refine g_goto 144 C dL_pleads_124 (by decide) ?_
      refine g_mask (bs := [true, true, true, false, true, false, true, false, false, false, false, false, false, false, false, false]) (L2 := [some (rv w r0), some (.int x1), some (.int x2), none, some (.int x4), none, some (.int x6), none, none, none, none, none, none, none, none, none]) rfl ?_
      exact t_L_pleads_144 C hR (fun r0' x1' x2' x3' x4' M' h => hk23 r0' x1' x2' x3' x4' M' h) r0 x1 x2 x4 x6 r0 (48 : Int32) (x5 >>> ((2 : Int32) &&& 31)) (5 : Int32) M h
  · replace h := of_ift h c1903
    refine g_aload_n C dL_pleads_92 rfl rfl ?_
    refine g_bipush (v := 43) C dL_pleads_93 rfl ?_
    obtain ⟨g1915, h⟩ := of_gdd h
    obtain ⟨y1918, M1916, e1917, h⟩ := of_opp h
    refine g_callV (As := [.int (43 : Int32)]) C (ct_X5_append C.wf e1917) g1915 lk_RL_73 mi_X5_append (by decide) cs_0 (by decide) dL_pleads_95 rfl ?_
    show Go w f 98 [some (rv w r0), some (.int x1), some (.int x2), none, some (.int x4), some (.int x5), some (.int x6), none, none, none, none, none, none, none, none, none] [.int y1918] M1916
    refine g_if_le 198 C dL_pleads_98 (by decide) (fun c1919 => ?_) (fun c1919 => ?_)
    · replace h := of_ift h c1919
      refine g_mask (bs := [true, true, true, false, true, false, false, false, false, false, false, false, false, false, false, false]) (L2 := [some (rv w r0), some (.int x1), some (.int x2), none, some (.int x4), none, none, none, none, none, none, none, none, none, none, none]) rfl ?_
      exact t_L_pleads_198 C hR (fun r0' x1' x2' x3' x4' M' h => hk23 r0' x1' x2' x3' x4' M' h) r0 x1 x2 x4 M1916 h
    · replace h := of_iff h c1919
      refine g_goto 194 C dL_pleads_101 (by decide) ?_
      refine g_mask (bs := [true, true, true, false, true, false, false, false, false, false, false, false, false, false, false, false]) (L2 := [some (rv w r0), some (.int x1), some (.int x2), none, some (.int x4), none, none, none, none, none, none, none, none, none, none, none]) rfl ?_
      exact t_L_pleads_194 C hR (fun r0' x1' x2' x3' x4' M' h => hk23 r0' x1' x2' x3' x4' M' h) r0 x1 x2 x4 M1916 h
def f_L_pleads_60 (k23 : Nat → Int32 → Int32 → Int32 → Int32 → Mem → Option (Int32 × Mem)) (r0 : Nat) (x1 : Int32) (x2 : Int32) (x3 : Int32) (x4 : Int32) (x5 : Int32) (xs0 : Int32) (xs1 : Int32) (M : Mem) : Option (Int32 × Mem) := obb (f_L_low xs0 xs1) fun y1601 => if x3 = 0 then (f_L_pleads_198 k23 r0 x1 x2 x4 M) else (if x4 = 0 then (f_L_pleads_83 k23 r0 x1 x2 x4 x5 y1601 M) else (gdd (kd r0 = 6) <| opp (f_X5_append r0 (59 : Int32) M) fun y1608 M1606 => if y1608 ≤ 0 then (f_L_pleads_198 k23 r0 x1 x2 x4 M1606) else (f_L_pleads_83 k23 r0 x1 x2 x4 x5 y1601 M1606)))
set_option maxRecDepth 100000 in
set_option maxHeartbeats 4000000 in
theorem t_L_pleads_60 {w : Om} {f : Fr} {r : Int32} {M2 : Mem} (C : Cx w f RL cL_pleads 16 8) (hR : Rt w f cL_pleads (some .boolean) (some (.int r)) M2) {k23 : Nat → Int32 → Int32 → Int32 → Int32 → Mem → Option (Int32 × Mem)} (hk23 : ∀ (r0' : Nat) (x1' : Int32) (x2' : Int32) (x3' : Int32) (x4' : Int32) (M' : Mem), k23 r0' x1' x2' x3' x4' M' = some (r, M2) → Go w f 23 [some (rv w r0'), some (.int x1'), some (.int x2'), some (.int x3'), some (.int x4'), none, none, none, none, none, none, none, none, none, none, none] [] M') : ∀ (r0 : Nat) (x1 : Int32) (x2 : Int32) (x3 : Int32) (x4 : Int32) (x5 : Int32) (xs0 : Int32) (xs1 : Int32) (M : Mem), f_L_pleads_60 k23 r0 x1 x2 x3 x4 x5 xs0 xs1 M = some (r, M2) → Go w f 60 [some (rv w r0), some (.int x1), some (.int x2), some (.int x3), some (.int x4), some (.int x5), none, none, none, none, none, none, none, none, none, none] [.int xs1, .int xs0] M := by
  intro r0 x1 x2 x3 x4 x5 xs0 xs1 M h
  unfold f_L_pleads_60 at h
  obtain ⟨y1601, e1602, h⟩ := of_obb h
  refine g_callS (As := [.int xs0, .int xs1]) C (ct_L_low C.wf e1602) lk_RL_56 mi_L_low (by decide) cs_0 (by decide) dL_pleads_60 rfl ?_
  show Go w f 63 [some (rv w r0), some (.int x1), some (.int x2), some (.int x3), some (.int x4), some (.int x5), none, none, none, none, none, none, none, none, none, none] [.int y1601] M
  refine g_istore C dL_pleads_63 (by decide) rfl (L2 := [some (rv w r0), some (.int x1), some (.int x2), some (.int x3), some (.int x4), some (.int x5), some (.int y1601), none, none, none, none, none, none, none, none, none]) rfl ?_
  refine g_iload_n C dL_pleads_65 rfl rfl ?_
  refine g_if_eq 198 C dL_pleads_66 (by decide) (fun c1603 => ?_) (fun c1603 => ?_)
  · replace h := of_ift h c1603
    refine g_mask (bs := [true, true, true, false, true, false, false, false, false, false, false, false, false, false, false, false]) (L2 := [some (rv w r0), some (.int x1), some (.int x2), none, some (.int x4), none, none, none, none, none, none, none, none, none, none, none]) rfl ?_
    exact t_L_pleads_198 C hR (fun r0' x1' x2' x3' x4' M' h => hk23 r0' x1' x2' x3' x4' M' h) r0 x1 x2 x4 M h
  · replace h := of_iff h c1603
    refine g_iload C dL_pleads_69 rfl ?_
    refine g_if_eq 83 C dL_pleads_71 (by decide) (fun c1604 => ?_) (fun c1604 => ?_)
    · replace h := of_ift h c1604
      refine g_mask (bs := [true, true, true, false, true, true, true, false, false, false, false, false, false, false, false, false]) (L2 := [some (rv w r0), some (.int x1), some (.int x2), none, some (.int x4), some (.int x5), some (.int y1601), none, none, none, none, none, none, none, none, none]) rfl ?_
      exact t_L_pleads_83 C hR (fun r0' x1' x2' x3' x4' M' h => hk23 r0' x1' x2' x3' x4' M' h) r0 x1 x2 x4 x5 y1601 M h
    · replace h := of_iff h c1604
      refine g_aload_n C dL_pleads_74 rfl rfl ?_
      refine g_bipush (v := 59) C dL_pleads_75 rfl ?_
      obtain ⟨g1605, h⟩ := of_gdd h
      obtain ⟨y1608, M1606, e1607, h⟩ := of_opp h
      refine g_callV (As := [.int (59 : Int32)]) C (ct_X5_append C.wf e1607) g1605 lk_RL_73 mi_X5_append (by decide) cs_0 (by decide) dL_pleads_77 rfl ?_
      show Go w f 80 [some (rv w r0), some (.int x1), some (.int x2), some (.int x3), some (.int x4), some (.int x5), some (.int y1601), none, none, none, none, none, none, none, none, none] [.int y1608] M1606
      refine g_if_le 198 C dL_pleads_80 (by decide) (fun c1609 => ?_) (fun c1609 => ?_)
      · replace h := of_ift h c1609
        refine g_mask (bs := [true, true, true, false, true, false, false, false, false, false, false, false, false, false, false, false]) (L2 := [some (rv w r0), some (.int x1), some (.int x2), none, some (.int x4), none, none, none, none, none, none, none, none, none, none, none]) rfl ?_
        exact t_L_pleads_198 C hR (fun r0' x1' x2' x3' x4' M' h => hk23 r0' x1' x2' x3' x4' M' h) r0 x1 x2 x4 M1606 h
      · replace h := of_iff h c1609
        refine g_mask (bs := [true, true, true, false, true, true, true, false, false, false, false, false, false, false, false, false]) (L2 := [some (rv w r0), some (.int x1), some (.int x2), none, some (.int x4), some (.int x5), some (.int y1601), none, none, none, none, none, none, none, none, none]) rfl ?_
        exact t_L_pleads_83 C hR (fun r0' x1' x2' x3' x4' M' h => hk23 r0' x1' x2' x3' x4' M' h) r0 x1 x2 x4 x5 y1601 M1606 h
def f_L_pleads_23 : Nat → Nat → Int32 → Int32 → Int32 → Int32 → Mem → Option (Int32 × Mem)
  | 0, _, _, _, _, _, _ => none
  | n + 1, r0, x1, x2, x3, x4, M => if x2 ≤ x4 then (if x3 = 0 then (f_L_pleads_235 r0 x2 M) else (obb (f_L_low (x1 >>> ((26 : Int32) &&& 31)) (7 : Int32)) fun y303 => if 0 < y303 then (f_L_pleads_231 r0 x2 M) else (gdd (kd r0 = 6) <| opp (f_X5_append r0 (59 : Int32) M) fun y309 M307 => if y309 ≤ 0 then (f_L_pleads_235 r0 x2 M307) else (f_L_pleads_231 r0 x2 M307)))) else (bvv (x1 >>> (((1 : Int32) + ((2 : Int32) * x4)) &&& 31)) fun y311 => obb (f_L_low (x1 >>> ((22 : Int32) &&& 31)) (5 : Int32)) fun y313 => if y313 = 0 then (f_L_pleads_60 (f_L_pleads_23 n) r0 x1 x2 x3 x4 y311 (y311 >>> ((4 : Int32) &&& 31)) (12 : Int32) M) else (f_L_pleads_60 (f_L_pleads_23 n) r0 x1 x2 x3 x4 y311 (y311 >>> ((4 : Int32) &&& 31)) (5 : Int32) M))
set_option maxRecDepth 100000 in
set_option maxHeartbeats 4000000 in
theorem t_L_pleads_23 {w : Om} {f : Fr} {r : Int32} {M2 : Mem} (C : Cx w f RL cL_pleads 16 8) (hR : Rt w f cL_pleads (some .boolean) (some (.int r)) M2)   : ∀ (n : Nat) (r0 : Nat) (x1 : Int32) (x2 : Int32) (x3 : Int32) (x4 : Int32) (M : Mem), f_L_pleads_23 n r0 x1 x2 x3 x4 M = some (r, M2) → Go w f 23 [some (rv w r0), some (.int x1), some (.int x2), some (.int x3), some (.int x4), none, none, none, none, none, none, none, none, none, none, none] [] M := by
  intro n
  induction n with
  | zero =>
    intro r0 x1 x2 x3 x4 M h
    cases h
  | succ n ih =>
    intro r0 x1 x2 x3 x4 M h
    rw [f_L_pleads_23] at h
    refine g_iload C dL_pleads_23 rfl ?_
    refine g_iload_n C dL_pleads_25 rfl rfl ?_
    refine g_icmp_ge 206 C dL_pleads_26 (by decide) (fun c301 => ?_) (fun c301 => ?_)
    · replace h := of_ift h c301
      refine g_iload_n C dL_pleads_206 rfl rfl ?_
      refine g_if_eq 235 C dL_pleads_207 (by decide) (fun c302 => ?_) (fun c302 => ?_)
      · replace h := of_ift h c302
        refine g_mask (bs := [true, false, true, false, false, false, false, false, false, false, false, false, false, false, false, false]) (L2 := [some (rv w r0), none, some (.int x2), none, none, none, none, none, none, none, none, none, none, none, none, none]) rfl ?_
        exact t_L_pleads_235 C hR r0 x2 M h
      · replace h := of_iff h c302
        refine g_iload_n C dL_pleads_210 rfl rfl ?_
        refine g_bipush (v := 26) C dL_pleads_211 rfl ?_
        refine g_ishr C dL_pleads_213 ?_
        refine g_bipush (v := 7) C dL_pleads_214 rfl ?_
        obtain ⟨y303, e304, h⟩ := of_obb h
        refine g_callS (As := [.int (x1 >>> ((26 : Int32) &&& 31)), .int (7 : Int32)]) C (ct_L_low C.wf e304) lk_RL_56 mi_L_low (by decide) cs_0 (by decide) dL_pleads_216 rfl ?_
        show Go w f 219 [some (rv w r0), some (.int x1), some (.int x2), some (.int x3), some (.int x4), none, none, none, none, none, none, none, none, none, none, none] [.int y303] M
        refine g_if_gt 231 C dL_pleads_219 (by decide) (fun c305 => ?_) (fun c305 => ?_)
        · replace h := of_ift h c305
          refine g_mask (bs := [true, false, true, false, false, false, false, false, false, false, false, false, false, false, false, false]) (L2 := [some (rv w r0), none, some (.int x2), none, none, none, none, none, none, none, none, none, none, none, none, none]) rfl ?_
          exact t_L_pleads_231 C hR r0 x2 M h
        · replace h := of_iff h c305
          refine g_aload_n C dL_pleads_222 rfl rfl ?_
          refine g_bipush (v := 59) C dL_pleads_223 rfl ?_
          obtain ⟨g306, h⟩ := of_gdd h
          obtain ⟨y309, M307, e308, h⟩ := of_opp h
          refine g_callV (As := [.int (59 : Int32)]) C (ct_X5_append C.wf e308) g306 lk_RL_73 mi_X5_append (by decide) cs_0 (by decide) dL_pleads_225 rfl ?_
          show Go w f 228 [some (rv w r0), some (.int x1), some (.int x2), some (.int x3), some (.int x4), none, none, none, none, none, none, none, none, none, none, none] [.int y309] M307
          refine g_if_le 235 C dL_pleads_228 (by decide) (fun c310 => ?_) (fun c310 => ?_)
          · replace h := of_ift h c310
            refine g_mask (bs := [true, false, true, false, false, false, false, false, false, false, false, false, false, false, false, false]) (L2 := [some (rv w r0), none, some (.int x2), none, none, none, none, none, none, none, none, none, none, none, none, none]) rfl ?_
            exact t_L_pleads_235 C hR r0 x2 M307 h
          · replace h := of_iff h c310
            refine g_mask (bs := [true, false, true, false, false, false, false, false, false, false, false, false, false, false, false, false]) (L2 := [some (rv w r0), none, some (.int x2), none, none, none, none, none, none, none, none, none, none, none, none, none]) rfl ?_
            exact t_L_pleads_231 C hR r0 x2 M307 h
    · replace h := of_iff h c301
      refine g_iload_n C dL_pleads_29 rfl rfl ?_
      refine g_iconst (v := 1) C dL_pleads_30 rfl ?_
      refine g_iconst (v := 2) C dL_pleads_31 rfl ?_
      refine g_iload C dL_pleads_32 rfl ?_
      refine g_imul C dL_pleads_34 ?_
      refine g_iadd C dL_pleads_35 ?_
      refine g_ishr C dL_pleads_36 ?_
      obtain ⟨y311, e312, h⟩ := of_bvv h
      refine g_topi e312 ?_
      refine g_istore C dL_pleads_37 (by decide) rfl (L2 := [some (rv w r0), some (.int x1), some (.int x2), some (.int x3), some (.int x4), some (.int y311), none, none, none, none, none, none, none, none, none, none]) rfl ?_
      refine g_iload C dL_pleads_39 rfl ?_
      refine g_iconst (v := 4) C dL_pleads_41 rfl ?_
      refine g_ishr C dL_pleads_42 ?_
      refine g_iload_n C dL_pleads_43 rfl rfl ?_
      refine g_bipush (v := 22) C dL_pleads_44 rfl ?_
      refine g_ishr C dL_pleads_46 ?_
      refine g_iconst (v := 5) C dL_pleads_47 rfl ?_
      obtain ⟨y313, e314, h⟩ := of_obb h
      refine g_callS (As := [.int (x1 >>> ((22 : Int32) &&& 31)), .int (5 : Int32)]) C (ct_L_low C.wf e314) lk_RL_56 mi_L_low (by decide) (cs_i cs_0) (by decide) dL_pleads_48 rfl ?_
      show Go w f 51 [some (rv w r0), some (.int x1), some (.int x2), some (.int x3), some (.int x4), some (.int y311), none, none, none, none, none, none, none, none, none, none] [.int y313, .int (y311 >>> ((4 : Int32) &&& 31))] M
      refine g_if_ne 59 C dL_pleads_51 (by decide) (fun c315 => ?_) (fun c315 => ?_)
      · replace h := of_iff h c315
        refine g_iconst (v := 5) C dL_pleads_59 rfl ?_
        exact t_L_pleads_60 C hR (fun r0' x1' x2' x3' x4' M' h => ih r0' x1' x2' x3' x4' M' h) r0 x1 x2 x3 x4 y311 (y311 >>> ((4 : Int32) &&& 31)) (5 : Int32) M h
      · replace h := of_ift h c315
        refine g_bipush (v := 12) C dL_pleads_54 rfl ?_
        refine g_goto 60 C dL_pleads_56 (by decide) ?_
        exact t_L_pleads_60 C hR (fun r0' x1' x2' x3' x4' M' h => ih r0' x1' x2' x3' x4' M' h) r0 x1 x2 x3 x4 y311 (y311 >>> ((4 : Int32) &&& 31)) (12 : Int32) M h
def f_L_pleads_19 (r0 : Nat) (x1 : Int32) (x2 : Int32) (xs0 : Int32) (M : Mem) : Option (Int32 × Mem) := f_L_pleads_23 FU r0 x1 x2 xs0 (0 : Int32) M
set_option maxRecDepth 100000 in
set_option maxHeartbeats 4000000 in
theorem t_L_pleads_19 {w : Om} {f : Fr} {r : Int32} {M2 : Mem} (C : Cx w f RL cL_pleads 16 8) (hR : Rt w f cL_pleads (some .boolean) (some (.int r)) M2)   : ∀ (r0 : Nat) (x1 : Int32) (x2 : Int32) (xs0 : Int32) (M : Mem), f_L_pleads_19 r0 x1 x2 xs0 M = some (r, M2) → Go w f 19 [some (rv w r0), some (.int x1), some (.int x2), none, none, none, none, none, none, none, none, none, none, none, none, none] [.int xs0] M := by
  intro r0 x1 x2 xs0 M h
  unfold f_L_pleads_19 at h
  refine g_istore_n C dL_pleads_19 rfl (by decide) rfl (L2 := [some (rv w r0), some (.int x1), some (.int x2), some (.int xs0), none, none, none, none, none, none, none, none, none, none, none, none]) rfl ?_
  refine g_iconst (v := 0) C dL_pleads_20 rfl ?_
  refine g_istore C dL_pleads_21 (by decide) rfl (L2 := [some (rv w r0), some (.int x1), some (.int x2), some (.int xs0), some (.int (0 : Int32)), none, none, none, none, none, none, none, none, none, none, none]) rfl ?_
  exact t_L_pleads_23 C hR _ r0 x1 x2 xs0 (0 : Int32) M h
def f_L_pleads (r0 : Nat) (x1 : Int32) (M : Mem) : Option (Int32 × Mem) := obb (f_L_low x1 (11 : Int32)) fun y1 => gdd (kd r0 = 6) <| opp (f_X5_clear r0 M) fun y6 M4 => if y6 < 0 then (f_L_pleads_19 r0 x1 y1 (0 : Int32) M4) else (f_L_pleads_19 r0 x1 y1 (1 : Int32) M4)
set_option maxRecDepth 100000 in
set_option maxHeartbeats 4000000 in
theorem ct_L_pleads {l : Launch} {w : Om} (hw : Wf w) {r0 : Nat} {x1 : Int32} {M : Mem} {r : Int32} {M2 : Mem} (h : f_L_pleads r0 x1 M = some (r, M2)) : Ct l w yL_pleads cL_pleads 16 (some .boolean) 8 [rv w r0, .int x1] M (some (.int r)) M2 := by
  refine ct_of hw (by decide) (cat_s (rv_cat _ _) (cat_s rfl cat_0)) (Nat.le_of_ble_eq_true rfl) (fun f _ C hR => ?_)
  show Go w f 0 [some (rv w r0), some (.int x1), none, none, none, none, none, none, none, none, none, none, none, none, none, none] [] M
  unfold f_L_pleads at h
  refine g_iload_n C dL_pleads_0 rfl rfl ?_
  refine g_bipush (v := 11) C dL_pleads_1 rfl ?_
  obtain ⟨y1, e2, h⟩ := of_obb h
  refine g_callS (As := [.int x1, .int (11 : Int32)]) C (ct_L_low C.wf e2) lk_RL_56 mi_L_low (by decide) cs_0 (by decide) dL_pleads_3 rfl ?_
  show Go w f 6 [some (rv w r0), some (.int x1), none, none, none, none, none, none, none, none, none, none, none, none, none, none] [.int y1] M
  refine g_istore_n C dL_pleads_6 rfl (by decide) rfl (L2 := [some (rv w r0), some (.int x1), some (.int y1), none, none, none, none, none, none, none, none, none, none, none, none, none]) rfl ?_
  refine g_aload_n C dL_pleads_7 rfl rfl ?_
  obtain ⟨g3, h⟩ := of_gdd h
  obtain ⟨y6, M4, e5, h⟩ := of_opp h
  refine g_callV (As := []) C (ct_X5_clear C.wf e5) g3 lk_RL_69 mi_X5_clear (by decide) cs_0 (by decide) dL_pleads_8 rfl ?_
  show Go w f 11 [some (rv w r0), some (.int x1), some (.int y1), none, none, none, none, none, none, none, none, none, none, none, none, none] [.int y6] M4
  refine g_if_lt 18 C dL_pleads_11 (by decide) (fun c7 => ?_) (fun c7 => ?_)
  · replace h := of_ift h c7
    refine g_iconst (v := 0) C dL_pleads_18 rfl ?_
    exact t_L_pleads_19 C hR r0 x1 y1 (0 : Int32) M4 h
  · replace h := of_iff h c7
    refine g_iconst (v := 1) C dL_pleads_14 rfl ?_
    refine g_goto 19 C dL_pleads_15 (by decide) ?_
    exact t_L_pleads_19 C hR r0 x1 y1 (1 : Int32) M4 h
def f_L_acts_755 (xs0 : Int32) (xs1 : Int32) (M : Mem) : Option (Int32 × Mem) := if xs0 = xs1 then (some ((1 : Int32), M)) else (some ((0 : Int32), M))
set_option maxRecDepth 100000 in
set_option maxHeartbeats 4000000 in
theorem t_L_acts_755 {w : Om} {f : Fr} {r : Int32} {M2 : Mem} (C : Cx w f RL cL_acts 12 9) (hR : Rt w f cL_acts (some .boolean) (some (.int r)) M2)   : ∀ (xs0 : Int32) (xs1 : Int32) (M : Mem), f_L_acts_755 xs0 xs1 M = some (r, M2) → Go w f 755 [none, none, none, none, none, none, none, none, none, none, none, none] [.int xs1, .int xs0] M := by
  intro xs0 xs1 M h
  unfold f_L_acts_755 at h
  refine g_icmp_ne 762 C dL_acts_755 (by decide) (fun c601 => ?_) (fun c601 => ?_)
  · replace h := of_iff h c601
    refine g_iconst (v := 0) C dL_acts_762 rfl ?_
    cases h
    exact hR 763 _ ⟨.boolean, rfl, rfl⟩ dL_acts_763
  · replace h := of_ift h c601
    refine g_iconst (v := 1) C dL_acts_758 rfl ?_
    refine g_goto 763 C dL_acts_759 (by decide) ?_
    cases h
    exact hR 763 _ ⟨.boolean, rfl, rfl⟩ dL_acts_763
def f_L_acts_725 (r0 : Nat) (x5 : Int32) (x6 : Int32) (x7 : Int32) (x8 : Int32) (xs0 : Int32) (xs1 : Int32) (M : Mem) : Option (Int32 × Mem) := if xs0 = xs1 then (if x5 = (2 : Int32) then (some ((1 : Int32), M)) else (gdd (kd r0 = 6) <| opp (f_X5_count r0 ((10 : Int32) + x5) M) fun y506 M504 => if x7 = 0 then (f_L_acts_755 y506 x6 M504) else (f_L_acts_755 y506 x8 M504))) else (some ((0 : Int32), M))
set_option maxRecDepth 100000 in
set_option maxHeartbeats 4000000 in
theorem t_L_acts_725 {w : Om} {f : Fr} {r : Int32} {M2 : Mem} (C : Cx w f RL cL_acts 12 9) (hR : Rt w f cL_acts (some .boolean) (some (.int r)) M2)   : ∀ (r0 : Nat) (x5 : Int32) (x6 : Int32) (x7 : Int32) (x8 : Int32) (xs0 : Int32) (xs1 : Int32) (M : Mem), f_L_acts_725 r0 x5 x6 x7 x8 xs0 xs1 M = some (r, M2) → Go w f 725 [some (rv w r0), none, none, none, none, some (.int x5), some (.int x6), some (.int x7), some (.int x8), none, none, none] [.int xs1, .int xs0] M := by
  intro r0 x5 x6 x7 x8 xs0 xs1 M h
  unfold f_L_acts_725 at h
  refine g_icmp_ne 762 C dL_acts_725 (by decide) (fun c501 => ?_) (fun c501 => ?_)
  · replace h := of_iff h c501
    refine g_iconst (v := 0) C dL_acts_762 rfl ?_
    cases h
    exact hR 763 _ ⟨.boolean, rfl, rfl⟩ dL_acts_763
  · replace h := of_ift h c501
    refine g_iload C dL_acts_728 rfl ?_
    refine g_iconst (v := 2) C dL_acts_730 rfl ?_
    refine g_icmp_eq 758 C dL_acts_731 (by decide) (fun c502 => ?_) (fun c502 => ?_)
    · replace h := of_ift h c502
      refine g_iconst (v := 1) C dL_acts_758 rfl ?_
      refine g_goto 763 C dL_acts_759 (by decide) ?_
      cases h
      exact hR 763 _ ⟨.boolean, rfl, rfl⟩ dL_acts_763
    · replace h := of_iff h c502
      refine g_aload_n C dL_acts_734 rfl rfl ?_
      refine g_bipush (v := 10) C dL_acts_735 rfl ?_
      refine g_iload C dL_acts_737 rfl ?_
      refine g_iadd C dL_acts_739 ?_
      obtain ⟨g503, h⟩ := of_gdd h
      obtain ⟨y506, M504, e505, h⟩ := of_opp h
      refine g_callV (As := [.int ((10 : Int32) + x5)]) C (ct_X5_count C.wf e505) g503 lk_RL_13 mi_X5_count (by decide) cs_0 (by decide) dL_acts_740 rfl ?_
      show Go w f 743 [some (rv w r0), none, none, none, none, some (.int x5), some (.int x6), some (.int x7), some (.int x8), none, none, none] [.int y506] M504
      refine g_iload C dL_acts_743 rfl ?_
      refine g_if_eq 753 C dL_acts_745 (by decide) (fun c507 => ?_) (fun c507 => ?_)
      · replace h := of_ift h c507
        refine g_iload C dL_acts_753 rfl ?_
        refine g_mask (bs := [false, false, false, false, false, false, false, false, false, false, false, false]) (L2 := [none, none, none, none, none, none, none, none, none, none, none, none]) rfl ?_
        exact t_L_acts_755 C hR y506 x6 M504 h
      · replace h := of_iff h c507
        refine g_iload C dL_acts_748 rfl ?_
        refine g_goto 755 C dL_acts_750 (by decide) ?_
        refine g_mask (bs := [false, false, false, false, false, false, false, false, false, false, false, false]) (L2 := [none, none, none, none, none, none, none, none, none, none, none, none]) rfl ?_
        exact t_L_acts_755 C hR y506 x8 M504 h
def f_L_acts_704 (r0 : Nat) (x5 : Int32) (x6 : Int32) (x7 : Int32) (xs0 : Int32) (M : Mem) : Option (Int32 × Mem) := gdd (kd r0 = 6) <| opp (f_X5_set r0 x5 x6 M) fun y404 M402 => if x7 = 0 then (f_L_acts_725 r0 x5 x6 x7 xs0 y404 xs0 M402) else (f_L_acts_725 r0 x5 x6 x7 xs0 y404 (-1 : Int32) M402)
set_option maxRecDepth 100000 in
set_option maxHeartbeats 4000000 in
theorem t_L_acts_704 {w : Om} {f : Fr} {r : Int32} {M2 : Mem} (C : Cx w f RL cL_acts 12 9) (hR : Rt w f cL_acts (some .boolean) (some (.int r)) M2)   : ∀ (r0 : Nat) (x5 : Int32) (x6 : Int32) (x7 : Int32) (xs0 : Int32) (M : Mem), f_L_acts_704 r0 x5 x6 x7 xs0 M = some (r, M2) → Go w f 704 [some (rv w r0), none, none, none, none, some (.int x5), some (.int x6), some (.int x7), none, none, none, none] [.int xs0] M := by
  intro r0 x5 x6 x7 xs0 M h
  unfold f_L_acts_704 at h
  refine g_istore C dL_acts_704 (by decide) rfl (L2 := [some (rv w r0), none, none, none, none, some (.int x5), some (.int x6), some (.int x7), some (.int xs0), none, none, none]) rfl ?_
  refine g_aload_n C dL_acts_706 rfl rfl ?_
  refine g_iload C dL_acts_707 rfl ?_
  refine g_iload C dL_acts_709 rfl ?_
  obtain ⟨g401, h⟩ := of_gdd h
  obtain ⟨y404, M402, e403, h⟩ := of_opp h
  refine g_callV (As := [.int x5, .int x6]) C (ct_X5_set C.wf e403) g401 lk_RL_122 mi_X5_set (by decide) cs_0 (by decide) dL_acts_711 rfl ?_
  show Go w f 714 [some (rv w r0), none, none, none, none, some (.int x5), some (.int x6), some (.int x7), some (.int xs0), none, none, none] [.int y404] M402
  refine g_iload C dL_acts_714 rfl ?_
  refine g_if_eq 723 C dL_acts_716 (by decide) (fun c405 => ?_) (fun c405 => ?_)
  · replace h := of_ift h c405
    refine g_iload C dL_acts_723 rfl ?_
    exact t_L_acts_725 C hR r0 x5 x6 x7 xs0 y404 xs0 M402 h
  · replace h := of_iff h c405
    refine g_iconst (v := -1) C dL_acts_719 rfl ?_
    refine g_goto 725 C dL_acts_720 (by decide) ?_
    exact t_L_acts_725 C hR r0 x5 x6 x7 xs0 y404 (-1 : Int32) M402 h
def f_L_acts_683 (r0 : Nat) (x5 : Int32) (x6 : Int32) (xs0 : Int32) (M : Mem) : Option (Int32 × Mem) := if x5 = (2 : Int32) then (f_L_acts_704 r0 x5 x6 xs0 (0 : Int32) M) else (gdd (kd r0 = 6) <| opp (f_X5_count r0 ((10 : Int32) + x5) M) fun y305 M303 => f_L_acts_704 r0 x5 x6 xs0 y305 M303)
set_option maxRecDepth 100000 in
set_option maxHeartbeats 4000000 in
theorem t_L_acts_683 {w : Om} {f : Fr} {r : Int32} {M2 : Mem} (C : Cx w f RL cL_acts 12 9) (hR : Rt w f cL_acts (some .boolean) (some (.int r)) M2)   : ∀ (r0 : Nat) (x5 : Int32) (x6 : Int32) (xs0 : Int32) (M : Mem), f_L_acts_683 r0 x5 x6 xs0 M = some (r, M2) → Go w f 683 [some (rv w r0), none, none, none, none, some (.int x5), some (.int x6), none, none, none, none, none] [.int xs0] M := by
  intro r0 x5 x6 xs0 M h
  unfold f_L_acts_683 at h
  refine g_istore C dL_acts_683 (by decide) rfl (L2 := [some (rv w r0), none, none, none, none, some (.int x5), some (.int x6), some (.int xs0), none, none, none, none]) rfl ?_
  refine g_iload C dL_acts_685 rfl ?_
  refine g_iconst (v := 2) C dL_acts_687 rfl ?_
  refine g_icmp_ne 695 C dL_acts_688 (by decide) (fun c301 => ?_) (fun c301 => ?_)
  · replace h := of_iff h c301
    refine g_aload_n C dL_acts_695 rfl rfl ?_
    refine g_bipush (v := 10) C dL_acts_696 rfl ?_
    refine g_iload C dL_acts_698 rfl ?_
    refine g_iadd C dL_acts_700 ?_
    obtain ⟨g302, h⟩ := of_gdd h
    obtain ⟨y305, M303, e304, h⟩ := of_opp h
    refine g_callV (As := [.int ((10 : Int32) + x5)]) C (ct_X5_count C.wf e304) g302 lk_RL_13 mi_X5_count (by decide) cs_0 (by decide) dL_acts_701 rfl ?_
    show Go w f 704 [some (rv w r0), none, none, none, none, some (.int x5), some (.int x6), some (.int xs0), none, none, none, none] [.int y305] M303
    exact t_L_acts_704 C hR r0 x5 x6 xs0 y305 M303 h
  · replace h := of_ift h c301
    refine g_iconst (v := 0) C dL_acts_691 rfl ?_
    refine g_goto 704 C dL_acts_692 (by decide) ?_
    exact t_L_acts_704 C hR r0 x5 x6 xs0 (0 : Int32) M h
def f_L_acts_678 (r0 : Nat) (x5 : Int32) (x6 : Int32) (M : Mem) : Option (Int32 × Mem) := f_L_acts_683 r0 x5 x6 (1 : Int32) M
set_option maxRecDepth 100000 in
set_option maxHeartbeats 4000000 in
theorem t_L_acts_678 {w : Om} {f : Fr} {r : Int32} {M2 : Mem} (C : Cx w f RL cL_acts 12 9) (hR : Rt w f cL_acts (some .boolean) (some (.int r)) M2)   : ∀ (r0 : Nat) (x5 : Int32) (x6 : Int32) (M : Mem), f_L_acts_678 r0 x5 x6 M = some (r, M2) → Go w f 678 [some (rv w r0), none, none, none, none, some (.int x5), some (.int x6), none, none, none, none, none] [] M := by
  intro r0 x5 x6 M h
  unfold f_L_acts_678 at h
  refine g_iconst (v := 1) C dL_acts_678 rfl ?_
  refine g_goto 683 C dL_acts_679 (by decide) ?_
  exact t_L_acts_683 C hR r0 x5 x6 (1 : Int32) M h
def f_L_acts_650 (r0 : Nat) (x5 : Int32) (x6 : Int32) (M : Mem) : Option (Int32 × Mem) := f_L_acts_683 r0 x5 x6 (1 : Int32) M
set_option maxRecDepth 100000 in
set_option maxHeartbeats 4000000 in
theorem t_L_acts_650 {w : Om} {f : Fr} {r : Int32} {M2 : Mem} (C : Cx w f RL cL_acts 12 9) (hR : Rt w f cL_acts (some .boolean) (some (.int r)) M2)   : ∀ (r0 : Nat) (x5 : Int32) (x6 : Int32) (M : Mem), f_L_acts_650 r0 x5 x6 M = some (r, M2) → Go w f 650 [some (rv w r0), none, none, none, none, some (.int x5), some (.int x6), none, none, none, none, none] [] M := by
  intro r0 x5 x6 M h
  unfold f_L_acts_650 at h
  refine g_iconst (v := 1) C dL_acts_650 rfl ?_
  refine g_goto 683 C dL_acts_651 (by decide) ?_
  exact t_L_acts_683 C hR r0 x5 x6 (1 : Int32) M h
def f_L_acts_576 (x7 : Int32) (M : Mem) : Option (Int32 × Mem) := if x7 = (-1 : Int32) then (some ((1 : Int32), M)) else (some ((0 : Int32), M))
set_option maxRecDepth 100000 in
set_option maxHeartbeats 4000000 in
theorem t_L_acts_576 {w : Om} {f : Fr} {r : Int32} {M2 : Mem} (C : Cx w f RL cL_acts 12 9) (hR : Rt w f cL_acts (some .boolean) (some (.int r)) M2)   : ∀ (x7 : Int32) (M : Mem), f_L_acts_576 x7 M = some (r, M2) → Go w f 576 [none, none, none, none, none, none, none, some (.int x7), none, none, none, none] [] M := by
  intro x7 M h
  unfold f_L_acts_576 at h
  refine g_iload C dL_acts_576 rfl ?_
  refine g_iconst (v := -1) C dL_acts_578 rfl ?_
  refine g_icmp_ne 586 C dL_acts_579 (by decide) (fun c801 => ?_) (fun c801 => ?_)
  · replace h := of_iff h c801
    refine g_iconst (v := 0) C dL_acts_586 rfl ?_
    refine g_goto 608 C dL_acts_587 (by decide) ?_
    cases h
    exact hR 608 _ ⟨.boolean, rfl, rfl⟩ dL_acts_608
  · replace h := of_ift h c801
    refine g_iconst (v := 1) C dL_acts_582 rfl ?_
    refine g_goto 608 C dL_acts_583 (by decide) ?_
    cases h
    exact hR 608 _ ⟨.boolean, rfl, rfl⟩ dL_acts_608
def f_L_acts_393 (r0 : Nat) (x4 : Int32) (x5 : Int32) (x6 : Int32) (xs0 : Int32) (M : Mem) : Option (Int32 × Mem) := gdd (kd r0 = 6) <| opp (f_X5_overrule r0 x5 M) fun y904 M902 => if x5 = x4 then (if y904 = (-1 : Int32) then (some ((1 : Int32), M902)) else (some ((0 : Int32), M902))) else (if y904 = (-2 : Int32) then (if xs0 = 0 then (opp (f_X5_count r0 (5 : Int32) M902) fun y918 M916 => if y918 = x6 then (some ((1 : Int32), M916)) else (some ((0 : Int32), M916))) else (some ((0 : Int32), M902))) else (if y904 < xs0 then (some ((0 : Int32), M902)) else (opp (f_X5_count r0 (5 : Int32) M902) fun y910 M908 => if y910 = (x6 - y904) then (obb (f_X5_ruling r0 x5 (5 : Int32) M908) fun y912 => if y912 = 0 then (some ((1 : Int32), M908)) else (some ((0 : Int32), M908))) else (some ((0 : Int32), M908)))))
set_option maxRecDepth 100000 in
set_option maxHeartbeats 4000000 in
theorem t_L_acts_393 {w : Om} {f : Fr} {r : Int32} {M2 : Mem} (C : Cx w f RL cL_acts 12 9) (hR : Rt w f cL_acts (some .boolean) (some (.int r)) M2)   : ∀ (r0 : Nat) (x4 : Int32) (x5 : Int32) (x6 : Int32) (xs0 : Int32) (M : Mem), f_L_acts_393 r0 x4 x5 x6 xs0 M = some (r, M2) → Go w f 393 [some (rv w r0), none, none, none, some (.int x4), some (.int x5), some (.int x6), none, none, none, none, none] [.int xs0] M := by
  intro r0 x4 x5 x6 xs0 M h
  unfold f_L_acts_393 at h
  refine g_istore C dL_acts_393 (by decide) rfl (L2 := [some (rv w r0), none, none, none, some (.int x4), some (.int x5), some (.int x6), some (.int xs0), none, none, none, none]) rfl ?_
  refine g_aload_n C dL_acts_395 rfl rfl ?_
  refine g_iload C dL_acts_396 rfl ?_
  obtain ⟨g901, h⟩ := of_gdd h
  obtain ⟨y904, M902, e903, h⟩ := of_opp h
  refine g_callV (As := [.int x5]) C (ct_X5_overrule C.wf e903) g901 lk_RL_112 mi_X5_overrule (by decide) cs_0 (by decide) dL_acts_398 rfl ?_
  show Go w f 401 [some (rv w r0), none, none, none, some (.int x4), some (.int x5), some (.int x6), some (.int xs0), none, none, none, none] [.int y904] M902
  refine g_istore C dL_acts_401 (by decide) rfl (L2 := [some (rv w r0), none, none, none, some (.int x4), some (.int x5), some (.int x6), some (.int xs0), some (.int y904), none, none, none]) rfl ?_
  refine g_iload C dL_acts_403 rfl ?_
  refine g_iload C dL_acts_405 rfl ?_
  refine g_icmp_ne 424 C dL_acts_407 (by decide) (fun c905 => ?_) (fun c905 => ?_)
  · replace h := of_iff h c905
    refine g_iload C dL_acts_424 rfl ?_
    refine g_bipush (v := -2) C dL_acts_426 rfl ?_
    refine g_icmp_ne 454 C dL_acts_428 (by decide) (fun c906 => ?_) (fun c906 => ?_)
    · replace h := of_iff h c906
      refine g_iload C dL_acts_454 rfl ?_
      refine g_iload C dL_acts_456 rfl ?_
      refine g_icmp_lt 488 C dL_acts_458 (by decide) (fun c907 => ?_) (fun c907 => ?_)
      · replace h := of_ift h c907
        refine g_iconst (v := 0) C dL_acts_488 rfl ?_
        cases h
        exact hR 489 _ ⟨.boolean, rfl, rfl⟩ dL_acts_489
      · replace h := of_iff h c907
        refine g_aload_n C dL_acts_461 rfl rfl ?_
        refine g_iconst (v := 5) C dL_acts_462 rfl ?_
        obtain ⟨y910, M908, e909, h⟩ := of_opp h
        refine g_callV (As := [.int (5 : Int32)]) C (ct_X5_count C.wf e909) g901 lk_RL_13 mi_X5_count (by decide) cs_0 (by decide) dL_acts_463 rfl ?_
        show Go w f 466 [some (rv w r0), none, none, none, some (.int x4), some (.int x5), some (.int x6), some (.int xs0), some (.int y904), none, none, none] [.int y910] M908
        refine g_iload C dL_acts_466 rfl ?_
        refine g_iload C dL_acts_468 rfl ?_
        refine g_isub C dL_acts_470 ?_
        refine g_icmp_ne 488 C dL_acts_471 (by decide) (fun c911 => ?_) (fun c911 => ?_)
        · replace h := of_iff h c911
          refine g_iconst (v := 0) C dL_acts_488 rfl ?_
          cases h
          exact hR 489 _ ⟨.boolean, rfl, rfl⟩ dL_acts_489
        · replace h := of_ift h c911
          refine g_aload_n C dL_acts_474 rfl rfl ?_
          refine g_iload C dL_acts_475 rfl ?_
          refine g_iconst (v := 5) C dL_acts_477 rfl ?_
          obtain ⟨y912, e913, h⟩ := of_obb h
          refine g_callV (As := [.int x5, .int (5 : Int32)]) C (ct_X5_ruling C.wf e913) g901 lk_RL_26 mi_X5_ruling (by decide) cs_0 (by decide) dL_acts_478 rfl ?_
          show Go w f 481 [some (rv w r0), none, none, none, some (.int x4), some (.int x5), some (.int x6), some (.int xs0), some (.int y904), none, none, none] [.int y912] M908
          refine g_if_ne 488 C dL_acts_481 (by decide) (fun c914 => ?_) (fun c914 => ?_)
          · replace h := of_iff h c914
            refine g_iconst (v := 0) C dL_acts_488 rfl ?_
            cases h
            exact hR 489 _ ⟨.boolean, rfl, rfl⟩ dL_acts_489
          · replace h := of_ift h c914
            refine g_iconst (v := 1) C dL_acts_484 rfl ?_
            refine g_goto 489 C dL_acts_485 (by decide) ?_
            cases h
            exact hR 489 _ ⟨.boolean, rfl, rfl⟩ dL_acts_489
    · replace h := of_ift h c906
      refine g_iload C dL_acts_431 rfl ?_
      refine g_if_ne 450 C dL_acts_433 (by decide) (fun c915 => ?_) (fun c915 => ?_)
      · replace h := of_iff h c915
        refine g_iconst (v := 0) C dL_acts_450 rfl ?_
        refine g_goto 489 C dL_acts_451 (by decide) ?_
        cases h
        exact hR 489 _ ⟨.boolean, rfl, rfl⟩ dL_acts_489
      · replace h := of_ift h c915
        refine g_aload_n C dL_acts_436 rfl rfl ?_
        refine g_iconst (v := 5) C dL_acts_437 rfl ?_
        obtain ⟨y918, M916, e917, h⟩ := of_opp h
        refine g_callV (As := [.int (5 : Int32)]) C (ct_X5_count C.wf e917) g901 lk_RL_13 mi_X5_count (by decide) cs_0 (by decide) dL_acts_438 rfl ?_
        show Go w f 441 [some (rv w r0), none, none, none, some (.int x4), some (.int x5), some (.int x6), some (.int xs0), some (.int y904), none, none, none] [.int y918] M916
        refine g_iload C dL_acts_441 rfl ?_
        refine g_icmp_ne 450 C dL_acts_443 (by decide) (fun c919 => ?_) (fun c919 => ?_)
        · replace h := of_iff h c919
          refine g_iconst (v := 0) C dL_acts_450 rfl ?_
          refine g_goto 489 C dL_acts_451 (by decide) ?_
          cases h
          exact hR 489 _ ⟨.boolean, rfl, rfl⟩ dL_acts_489
        · replace h := of_ift h c919
          refine g_iconst (v := 1) C dL_acts_446 rfl ?_
          refine g_goto 489 C dL_acts_447 (by decide) ?_
          cases h
          exact hR 489 _ ⟨.boolean, rfl, rfl⟩ dL_acts_489
  · replace h := of_ift h c905
    refine g_iload C dL_acts_410 rfl ?_
    refine g_iconst (v := -1) C dL_acts_412 rfl ?_
    refine g_icmp_ne 420 C dL_acts_413 (by decide) (fun c920 => ?_) (fun c920 => ?_)
    · replace h := of_iff h c920
      refine g_iconst (v := 0) C dL_acts_420 rfl ?_
      refine g_goto 489 C dL_acts_421 (by decide) ?_
      cases h
      exact hR 489 _ ⟨.boolean, rfl, rfl⟩ dL_acts_489
    · replace h := of_ift h c920
      refine g_iconst (v := 1) C dL_acts_416 rfl ?_
      refine g_goto 489 C dL_acts_417 (by decide) ?_
      cases h
      exact hR 489 _ ⟨.boolean, rfl, rfl⟩ dL_acts_489
def f_L_acts_343 (xs0 : Int32) (xs1 : Int32) (M : Mem) : Option (Int32 × Mem) := if xs0 = xs1 then (some ((1 : Int32), M)) else (some ((0 : Int32), M))
set_option maxRecDepth 100000 in
set_option maxHeartbeats 4000000 in
theorem t_L_acts_343 {w : Om} {f : Fr} {r : Int32} {M2 : Mem} (C : Cx w f RL cL_acts 12 9) (hR : Rt w f cL_acts (some .boolean) (some (.int r)) M2)   : ∀ (xs0 : Int32) (xs1 : Int32) (M : Mem), f_L_acts_343 xs0 xs1 M = some (r, M2) → Go w f 343 [none, none, none, none, none, none, none, none, none, none, none, none] [.int xs1, .int xs0] M := by
  intro xs0 xs1 M h
  unfold f_L_acts_343 at h
  refine g_icmp_ne 350 C dL_acts_343 (by decide) (fun c1901 => ?_) (fun c1901 => ?_)
  · replace h := of_iff h c1901
    refine g_iconst (v := 0) C dL_acts_350 rfl ?_
    cases h
    exact hR 351 _ ⟨.boolean, rfl, rfl⟩ dL_acts_351
  · replace h := of_ift h c1901
    refine g_iconst (v := 1) C dL_acts_346 rfl ?_
    refine g_goto 351 C dL_acts_347 (by decide) ?_
    cases h
    exact hR 351 _ ⟨.boolean, rfl, rfl⟩ dL_acts_351
def f_L_acts_317 (r0 : Nat) (x8 : Int32) (x11 : Int32) (xs0 : Int32) (xs1 : Int32) (M : Mem) : Option (Int32 × Mem) := if xs0 = xs1 then (gdd (kd r0 = 6) <| obb (f_X5_ruling r0 x11 (5 : Int32) M) fun y1803 => if 0 ≤ x8 then (obb (f_X5_ruling r0 x8 (5 : Int32) M) fun y1806 => f_L_acts_343 y1803 y1806 M) else (f_L_acts_343 y1803 (1 : Int32) M)) else (some ((0 : Int32), M))
set_option maxRecDepth 100000 in
set_option maxHeartbeats 4000000 in
theorem t_L_acts_317 {w : Om} {f : Fr} {r : Int32} {M2 : Mem} (C : Cx w f RL cL_acts 12 9) (hR : Rt w f cL_acts (some .boolean) (some (.int r)) M2)   : ∀ (r0 : Nat) (x8 : Int32) (x11 : Int32) (xs0 : Int32) (xs1 : Int32) (M : Mem), f_L_acts_317 r0 x8 x11 xs0 xs1 M = some (r, M2) → Go w f 317 [some (rv w r0), none, none, none, none, none, none, none, some (.int x8), none, none, some (.int x11)] [.int xs1, .int xs0] M := by
  intro r0 x8 x11 xs0 xs1 M h
  unfold f_L_acts_317 at h
  refine g_icmp_ne 350 C dL_acts_317 (by decide) (fun c1801 => ?_) (fun c1801 => ?_)
  · replace h := of_iff h c1801
    refine g_iconst (v := 0) C dL_acts_350 rfl ?_
    cases h
    exact hR 351 _ ⟨.boolean, rfl, rfl⟩ dL_acts_351
  · replace h := of_ift h c1801
    refine g_aload_n C dL_acts_320 rfl rfl ?_
    refine g_iload C dL_acts_321 rfl ?_
    refine g_iconst (v := 5) C dL_acts_323 rfl ?_
    obtain ⟨g1802, h⟩ := of_gdd h
    obtain ⟨y1803, e1804, h⟩ := of_obb h
    refine g_callV (As := [.int x11, .int (5 : Int32)]) C (ct_X5_ruling C.wf e1804) g1802 lk_RL_26 mi_X5_ruling (by decide) cs_0 (by decide) dL_acts_324 rfl ?_
    show Go w f 327 [some (rv w r0), none, none, none, none, none, none, none, some (.int x8), none, none, some (.int x11)] [.int y1803] M
    refine g_iload C dL_acts_327 rfl ?_
    refine g_if_ge 336 C dL_acts_329 (by decide) (fun c1805 => ?_) (fun c1805 => ?_)
    · replace h := of_ift h c1805
      refine g_aload_n C dL_acts_336 rfl rfl ?_
      refine g_iload C dL_acts_337 rfl ?_
      refine g_iconst (v := 5) C dL_acts_339 rfl ?_
      obtain ⟨y1806, e1807, h⟩ := of_obb h
      refine g_callV (As := [.int x8, .int (5 : Int32)]) C (ct_X5_ruling C.wf e1807) g1802 lk_RL_26 mi_X5_ruling (by decide) (cs_i cs_0) (by decide) dL_acts_340 rfl ?_
      show Go w f 343 [some (rv w r0), none, none, none, none, none, none, none, some (.int x8), none, none, some (.int x11)] [.int y1806, .int y1803] M
      refine g_mask (bs := [false, false, false, false, false, false, false, false, false, false, false, false]) (L2 := [none, none, none, none, none, none, none, none, none, none, none, none]) rfl ?_
      exact t_L_acts_343 C hR y1803 y1806 M h
    · replace h := of_iff h c1805
      refine g_iconst (v := 1) C dL_acts_332 rfl ?_
      refine g_goto 343 C dL_acts_333 (by decide) ?_
      refine g_mask (bs := [false, false, false, false, false, false, false, false, false, false, false, false]) (L2 := [none, none, none, none, none, none, none, none, none, none, none, none]) rfl ?_
      exact t_L_acts_343 C hR y1803 (1 : Int32) M h
def f_L_acts_283 (r0 : Nat) (x7 : Int32) (x8 : Int32) (x11 : Int32) (xs0 : Int32) (xs1 : Int32) (M : Mem) : Option (Int32 × Mem) := if xs0 = xs1 then (gdd (kd r0 = 6) <| obb (f_X5_ruling r0 x11 (3 : Int32) M) fun y1703 => if y1703 = x7 then (obb (f_X5_ruling r0 x11 (4 : Int32) M) fun y1706 => if 0 ≤ x8 then (f_L_acts_317 r0 x8 x11 y1706 x8 M) else (f_L_acts_317 r0 x8 x11 y1706 (-4 : Int32) M)) else (some ((0 : Int32), M))) else (some ((0 : Int32), M))
set_option maxRecDepth 100000 in
set_option maxHeartbeats 4000000 in
theorem t_L_acts_283 {w : Om} {f : Fr} {r : Int32} {M2 : Mem} (C : Cx w f RL cL_acts 12 9) (hR : Rt w f cL_acts (some .boolean) (some (.int r)) M2)   : ∀ (r0 : Nat) (x7 : Int32) (x8 : Int32) (x11 : Int32) (xs0 : Int32) (xs1 : Int32) (M : Mem), f_L_acts_283 r0 x7 x8 x11 xs0 xs1 M = some (r, M2) → Go w f 283 [some (rv w r0), none, none, none, none, none, none, some (.int x7), some (.int x8), none, none, some (.int x11)] [.int xs1, .int xs0] M := by
  intro r0 x7 x8 x11 xs0 xs1 M h
  unfold f_L_acts_283 at h
  refine g_icmp_ne 350 C dL_acts_283 (by decide) (fun c1701 => ?_) (fun c1701 => ?_)
  · replace h := of_iff h c1701
    refine g_iconst (v := 0) C dL_acts_350 rfl ?_
    cases h
    exact hR 351 _ ⟨.boolean, rfl, rfl⟩ dL_acts_351
  · replace h := of_ift h c1701
    refine g_aload_n C dL_acts_286 rfl rfl ?_
    refine g_iload C dL_acts_287 rfl ?_
    refine g_iconst (v := 3) C dL_acts_289 rfl ?_
    obtain ⟨g1702, h⟩ := of_gdd h
    obtain ⟨y1703, e1704, h⟩ := of_obb h
    refine g_callV (As := [.int x11, .int (3 : Int32)]) C (ct_X5_ruling C.wf e1704) g1702 lk_RL_26 mi_X5_ruling (by decide) cs_0 (by decide) dL_acts_290 rfl ?_
    show Go w f 293 [some (rv w r0), none, none, none, none, none, none, some (.int x7), some (.int x8), none, none, some (.int x11)] [.int y1703] M
    refine g_iload C dL_acts_293 rfl ?_
    refine g_icmp_ne 350 C dL_acts_295 (by decide) (fun c1705 => ?_) (fun c1705 => ?_)
    · replace h := of_iff h c1705
      refine g_iconst (v := 0) C dL_acts_350 rfl ?_
      cases h
      exact hR 351 _ ⟨.boolean, rfl, rfl⟩ dL_acts_351
    · replace h := of_ift h c1705
      refine g_aload_n C dL_acts_298 rfl rfl ?_
      refine g_iload C dL_acts_299 rfl ?_
      refine g_iconst (v := 4) C dL_acts_301 rfl ?_
      obtain ⟨y1706, e1707, h⟩ := of_obb h
      refine g_callV (As := [.int x11, .int (4 : Int32)]) C (ct_X5_ruling C.wf e1707) g1702 lk_RL_26 mi_X5_ruling (by decide) cs_0 (by decide) dL_acts_302 rfl ?_
      show Go w f 305 [some (rv w r0), none, none, none, none, none, none, some (.int x7), some (.int x8), none, none, some (.int x11)] [.int y1706] M
      refine g_iload C dL_acts_305 rfl ?_
      refine g_if_ge 315 C dL_acts_307 (by decide) (fun c1708 => ?_) (fun c1708 => ?_)
      · replace h := of_ift h c1708
        refine g_iload C dL_acts_315 rfl ?_
        refine g_mask (bs := [true, false, false, false, false, false, false, false, true, false, false, true]) (L2 := [some (rv w r0), none, none, none, none, none, none, none, some (.int x8), none, none, some (.int x11)]) rfl ?_
        exact t_L_acts_317 C hR r0 x8 x11 y1706 x8 M h
      · replace h := of_iff h c1708
        refine g_bipush (v := -4) C dL_acts_310 rfl ?_
        refine g_goto 317 C dL_acts_312 (by decide) ?_
        refine g_mask (bs := [true, false, false, false, false, false, false, false, true, false, false, true]) (L2 := [some (rv w r0), none, none, none, none, none, none, none, some (.int x8), none, none, some (.int x11)]) rfl ?_
        exact t_L_acts_317 C hR r0 x8 x11 y1706 (-4 : Int32) M h
def f_L_acts_233 (r0 : Nat) (x5 : Int32) (x6 : Int32) (x7 : Int32) (x8 : Int32) (x9 : Int32) (x11 : Int32) (xs0 : Int32) (xs1 : Int32) (xs2 : Int32) (M : Mem) : Option (Int32 × Mem) := if xs0 = (xs1 + xs2) then (if x11 < 0 then (some ((1 : Int32), M)) else (gdd (kd r0 = 6) <| obb (f_X5_ruling r0 x11 (0 : Int32) M) fun y1604 => if y1604 = x5 then (obb (f_X5_ruling r0 x11 (1 : Int32) M) fun y1607 => if y1607 = x6 then (obb (f_X5_ruling r0 x11 (2 : Int32) M) fun y1610 => if x9 = 0 then (f_L_acts_283 r0 x7 x8 x11 y1610 (0 : Int32) M) else (f_L_acts_283 r0 x7 x8 x11 y1610 (1 : Int32) M)) else (some ((0 : Int32), M))) else (some ((0 : Int32), M)))) else (some ((0 : Int32), M))
set_option maxRecDepth 100000 in
set_option maxHeartbeats 4000000 in
theorem t_L_acts_233 {w : Om} {f : Fr} {r : Int32} {M2 : Mem} (C : Cx w f RL cL_acts 12 9) (hR : Rt w f cL_acts (some .boolean) (some (.int r)) M2)   : ∀ (r0 : Nat) (x5 : Int32) (x6 : Int32) (x7 : Int32) (x8 : Int32) (x9 : Int32) (x11 : Int32) (xs0 : Int32) (xs1 : Int32) (xs2 : Int32) (M : Mem), f_L_acts_233 r0 x5 x6 x7 x8 x9 x11 xs0 xs1 xs2 M = some (r, M2) → Go w f 233 [some (rv w r0), none, none, none, none, some (.int x5), some (.int x6), some (.int x7), some (.int x8), some (.int x9), none, some (.int x11)] [.int xs2, .int xs1, .int xs0] M := by
  intro r0 x5 x6 x7 x8 x9 x11 xs0 xs1 xs2 M h
  unfold f_L_acts_233 at h
  refine g_iadd C dL_acts_233 ?_
  refine g_icmp_ne 350 C dL_acts_234 (by decide) (fun c1601 => ?_) (fun c1601 => ?_)
  · replace h := of_iff h c1601
    refine g_iconst (v := 0) C dL_acts_350 rfl ?_
    cases h
    exact hR 351 _ ⟨.boolean, rfl, rfl⟩ dL_acts_351
  · replace h := of_ift h c1601
    refine g_iload C dL_acts_237 rfl ?_
    refine g_if_lt 346 C dL_acts_239 (by decide) (fun c1602 => ?_) (fun c1602 => ?_)
    · replace h := of_ift h c1602
      refine g_iconst (v := 1) C dL_acts_346 rfl ?_
      refine g_goto 351 C dL_acts_347 (by decide) ?_
      cases h
      exact hR 351 _ ⟨.boolean, rfl, rfl⟩ dL_acts_351
    · replace h := of_iff h c1602
      refine g_aload_n C dL_acts_242 rfl rfl ?_
      refine g_iload C dL_acts_243 rfl ?_
      refine g_iconst (v := 0) C dL_acts_245 rfl ?_
      obtain ⟨g1603, h⟩ := of_gdd h
      obtain ⟨y1604, e1605, h⟩ := of_obb h
      refine g_callV (As := [.int x11, .int (0 : Int32)]) C (ct_X5_ruling C.wf e1605) g1603 lk_RL_26 mi_X5_ruling (by decide) cs_0 (by decide) dL_acts_246 rfl ?_
      show Go w f 249 [some (rv w r0), none, none, none, none, some (.int x5), some (.int x6), some (.int x7), some (.int x8), some (.int x9), none, some (.int x11)] [.int y1604] M
      refine g_iload C dL_acts_249 rfl ?_
      refine g_icmp_ne 350 C dL_acts_251 (by decide) (fun c1606 => ?_) (fun c1606 => ?_)
      · replace h := of_iff h c1606
        refine g_iconst (v := 0) C dL_acts_350 rfl ?_
        cases h
        exact hR 351 _ ⟨.boolean, rfl, rfl⟩ dL_acts_351
      · replace h := of_ift h c1606
        refine g_aload_n C dL_acts_254 rfl rfl ?_
        refine g_iload C dL_acts_255 rfl ?_
        refine g_iconst (v := 1) C dL_acts_257 rfl ?_
        obtain ⟨y1607, e1608, h⟩ := of_obb h
        refine g_callV (As := [.int x11, .int (1 : Int32)]) C (ct_X5_ruling C.wf e1608) g1603 lk_RL_26 mi_X5_ruling (by decide) cs_0 (by decide) dL_acts_258 rfl ?_
        show Go w f 261 [some (rv w r0), none, none, none, none, some (.int x5), some (.int x6), some (.int x7), some (.int x8), some (.int x9), none, some (.int x11)] [.int y1607] M
        refine g_iload C dL_acts_261 rfl ?_
        refine g_icmp_ne 350 C dL_acts_263 (by decide) (fun c1609 => ?_) (fun c1609 => ?_)
        · replace h := of_iff h c1609
          refine g_iconst (v := 0) C dL_acts_350 rfl ?_
          cases h
          exact hR 351 _ ⟨.boolean, rfl, rfl⟩ dL_acts_351
        · replace h := of_ift h c1609
          refine g_aload_n C dL_acts_266 rfl rfl ?_
          refine g_iload C dL_acts_267 rfl ?_
          refine g_iconst (v := 2) C dL_acts_269 rfl ?_
          obtain ⟨y1610, e1611, h⟩ := of_obb h
          refine g_callV (As := [.int x11, .int (2 : Int32)]) C (ct_X5_ruling C.wf e1611) g1603 lk_RL_26 mi_X5_ruling (by decide) cs_0 (by decide) dL_acts_270 rfl ?_
          show Go w f 273 [some (rv w r0), none, none, none, none, some (.int x5), some (.int x6), some (.int x7), some (.int x8), some (.int x9), none, some (.int x11)] [.int y1610] M
          refine g_iload C dL_acts_273 rfl ?_
          refine g_if_eq 282 C dL_acts_275 (by decide) (fun c1612 => ?_) (fun c1612 => ?_)
          · replace h := of_ift h c1612
            refine g_iconst (v := 0) C dL_acts_282 rfl ?_
            refine g_mask (bs := [true, false, false, false, false, false, false, true, true, false, false, true]) (L2 := [some (rv w r0), none, none, none, none, none, none, some (.int x7), some (.int x8), none, none, some (.int x11)]) rfl ?_
            exact t_L_acts_283 C hR r0 x7 x8 x11 y1610 (0 : Int32) M h
          · replace h := of_iff h c1612
            refine g_iconst (v := 1) C dL_acts_278 rfl ?_
            refine g_goto 283 C dL_acts_279 (by decide) ?_
            refine g_mask (bs := [true, false, false, false, false, false, false, true, true, false, false, true]) (L2 := [some (rv w r0), none, none, none, none, none, none, some (.int x7), some (.int x8), none, none, some (.int x11)]) rfl ?_
            exact t_L_acts_283 C hR r0 x7 x8 x11 y1610 (1 : Int32) M h
def f_L_acts_213 (r0 : Nat) (x4 : Int32) (x5 : Int32) (x6 : Int32) (x7 : Int32) (x8 : Int32) (x9 : Int32) (x11 : Int32) (xs0 : Int32) (xs1 : Int32) (M : Mem) : Option (Int32 × Mem) := if xs0 = xs1 then (gdd (kd r0 = 6) <| opp (f_X5_count r0 (4 : Int32) M) fun y1505 M1503 => if 0 ≤ x11 then (f_L_acts_233 r0 x5 x6 x7 x8 x9 x11 y1505 x4 (1 : Int32) M1503) else (f_L_acts_233 r0 x5 x6 x7 x8 x9 x11 y1505 x4 (0 : Int32) M1503)) else (some ((0 : Int32), M))
set_option maxRecDepth 100000 in
set_option maxHeartbeats 4000000 in
theorem t_L_acts_213 {w : Om} {f : Fr} {r : Int32} {M2 : Mem} (C : Cx w f RL cL_acts 12 9) (hR : Rt w f cL_acts (some .boolean) (some (.int r)) M2)   : ∀ (r0 : Nat) (x4 : Int32) (x5 : Int32) (x6 : Int32) (x7 : Int32) (x8 : Int32) (x9 : Int32) (x11 : Int32) (xs0 : Int32) (xs1 : Int32) (M : Mem), f_L_acts_213 r0 x4 x5 x6 x7 x8 x9 x11 xs0 xs1 M = some (r, M2) → Go w f 213 [some (rv w r0), none, none, none, some (.int x4), some (.int x5), some (.int x6), some (.int x7), some (.int x8), some (.int x9), none, some (.int x11)] [.int xs1, .int xs0] M := by
  intro r0 x4 x5 x6 x7 x8 x9 x11 xs0 xs1 M h
  unfold f_L_acts_213 at h
  refine g_icmp_ne 350 C dL_acts_213 (by decide) (fun c1501 => ?_) (fun c1501 => ?_)
  · replace h := of_iff h c1501
    refine g_iconst (v := 0) C dL_acts_350 rfl ?_
    cases h
    exact hR 351 _ ⟨.boolean, rfl, rfl⟩ dL_acts_351
  · replace h := of_ift h c1501
    refine g_aload_n C dL_acts_216 rfl rfl ?_
    refine g_iconst (v := 4) C dL_acts_217 rfl ?_
    obtain ⟨g1502, h⟩ := of_gdd h
    obtain ⟨y1505, M1503, e1504, h⟩ := of_opp h
    refine g_callV (As := [.int (4 : Int32)]) C (ct_X5_count C.wf e1504) g1502 lk_RL_13 mi_X5_count (by decide) cs_0 (by decide) dL_acts_218 rfl ?_
    show Go w f 221 [some (rv w r0), none, none, none, some (.int x4), some (.int x5), some (.int x6), some (.int x7), some (.int x8), some (.int x9), none, some (.int x11)] [.int y1505] M1503
    refine g_iload C dL_acts_221 rfl ?_
    refine g_iload C dL_acts_223 rfl ?_
    refine g_if_ge 232 C dL_acts_225 (by decide) (fun c1506 => ?_) (fun c1506 => ?_)
    · replace h := of_ift h c1506
      refine g_iconst (v := 1) C dL_acts_232 rfl ?_
      refine g_mask (bs := [true, false, false, false, false, true, true, true, true, true, false, true]) (L2 := [some (rv w r0), none, none, none, none, some (.int x5), some (.int x6), some (.int x7), some (.int x8), some (.int x9), none, some (.int x11)]) rfl ?_
      exact t_L_acts_233 C hR r0 x5 x6 x7 x8 x9 x11 y1505 x4 (1 : Int32) M1503 h
    · replace h := of_iff h c1506
      refine g_iconst (v := 0) C dL_acts_228 rfl ?_
      refine g_goto 233 C dL_acts_229 (by decide) ?_
      refine g_mask (bs := [true, false, false, false, false, true, true, true, true, true, false, true]) (L2 := [some (rv w r0), none, none, none, none, some (.int x5), some (.int x6), some (.int x7), some (.int x8), some (.int x9), none, some (.int x11)]) rfl ?_
      exact t_L_acts_233 C hR r0 x5 x6 x7 x8 x9 x11 y1505 x4 (0 : Int32) M1503 h
def f_L_acts_170 (r0 : Nat) (x4 : Int32) (x5 : Int32) (x6 : Int32) (x7 : Int32) (x8 : Int32) (x9 : Int32) (xs0 : Int32) (M : Mem) : Option (Int32 × Mem) := gdd (kd r0 = 6) <| opp (f_X5_rule r0 x5 x6 x9 x7 x8 M) fun y1404 M1402 => if xs0 = 0 then (if x4 = (10 : Int32) then (f_L_acts_213 r0 x4 x5 x6 x7 x8 x9 y1404 y1404 (-3 : Int32) M1402) else (f_L_acts_213 r0 x4 x5 x6 x7 x8 x9 y1404 y1404 x4 M1402)) else (f_L_acts_213 r0 x4 x5 x6 x7 x8 x9 y1404 y1404 (-1 : Int32) M1402)
set_option maxRecDepth 100000 in
set_option maxHeartbeats 4000000 in
theorem t_L_acts_170 {w : Om} {f : Fr} {r : Int32} {M2 : Mem} (C : Cx w f RL cL_acts 12 9) (hR : Rt w f cL_acts (some .boolean) (some (.int r)) M2)   : ∀ (r0 : Nat) (x4 : Int32) (x5 : Int32) (x6 : Int32) (x7 : Int32) (x8 : Int32) (x9 : Int32) (xs0 : Int32) (M : Mem), f_L_acts_170 r0 x4 x5 x6 x7 x8 x9 xs0 M = some (r, M2) → Go w f 170 [some (rv w r0), none, none, none, some (.int x4), some (.int x5), some (.int x6), some (.int x7), some (.int x8), some (.int x9), none, none] [.int xs0] M := by
  intro r0 x4 x5 x6 x7 x8 x9 xs0 M h
  unfold f_L_acts_170 at h
  refine g_istore C dL_acts_170 (by decide) rfl (L2 := [some (rv w r0), none, none, none, some (.int x4), some (.int x5), some (.int x6), some (.int x7), some (.int x8), some (.int x9), some (.int xs0), none]) rfl ?_
  refine g_aload_n C dL_acts_172 rfl rfl ?_
  refine g_iload C dL_acts_173 rfl ?_
  refine g_iload C dL_acts_175 rfl ?_
  refine g_iload C dL_acts_177 rfl ?_
  refine g_iload C dL_acts_179 rfl ?_
  refine g_iload C dL_acts_181 rfl ?_
  obtain ⟨g1401, h⟩ := of_gdd h
  obtain ⟨y1404, M1402, e1403, h⟩ := of_opp h
  refine g_callV (As := [.int x5, .int x6, .int x9, .int x7, .int x8]) C (ct_X5_rule C.wf e1403) g1401 lk_RL_108 mi_X5_rule (by decide) cs_0 (by decide) dL_acts_183 rfl ?_
  show Go w f 186 [some (rv w r0), none, none, none, some (.int x4), some (.int x5), some (.int x6), some (.int x7), some (.int x8), some (.int x9), some (.int xs0), none] [.int y1404] M1402
  refine g_istore C dL_acts_186 (by decide) rfl (L2 := [some (rv w r0), none, none, none, some (.int x4), some (.int x5), some (.int x6), some (.int x7), some (.int x8), some (.int x9), some (.int xs0), some (.int y1404)]) rfl ?_
  refine g_iload C dL_acts_188 rfl ?_
  refine g_iload C dL_acts_190 rfl ?_
  refine g_if_eq 199 C dL_acts_192 (by decide) (fun c1405 => ?_) (fun c1405 => ?_)
  · replace h := of_ift h c1405
    refine g_iload C dL_acts_199 rfl ?_
    refine g_bipush (v := 10) C dL_acts_201 rfl ?_
    refine g_icmp_ne 211 C dL_acts_203 (by decide) (fun c1406 => ?_) (fun c1406 => ?_)
    · replace h := of_iff h c1406
      refine g_iload C dL_acts_211 rfl ?_
      refine g_mask (bs := [true, false, false, false, true, true, true, true, true, true, false, true]) (L2 := [some (rv w r0), none, none, none, some (.int x4), some (.int x5), some (.int x6), some (.int x7), some (.int x8), some (.int x9), none, some (.int y1404)]) rfl ?_
      exact t_L_acts_213 C hR r0 x4 x5 x6 x7 x8 x9 y1404 y1404 x4 M1402 h
    · replace h := of_ift h c1406
      refine g_bipush (v := -3) C dL_acts_206 rfl ?_
      refine g_goto 213 C dL_acts_208 (by decide) ?_
      refine g_mask (bs := [true, false, false, false, true, true, true, true, true, true, false, true]) (L2 := [some (rv w r0), none, none, none, some (.int x4), some (.int x5), some (.int x6), some (.int x7), some (.int x8), some (.int x9), none, some (.int y1404)]) rfl ?_
      exact t_L_acts_213 C hR r0 x4 x5 x6 x7 x8 x9 y1404 y1404 (-3 : Int32) M1402 h
  · replace h := of_iff h c1405
    refine g_iconst (v := -1) C dL_acts_195 rfl ?_
    refine g_goto 213 C dL_acts_196 (by decide) ?_
    refine g_mask (bs := [true, false, false, false, true, true, true, true, true, true, false, true]) (L2 := [some (rv w r0), none, none, none, some (.int x4), some (.int x5), some (.int x6), some (.int x7), some (.int x8), some (.int x9), none, some (.int y1404)]) rfl ?_
    exact t_L_acts_213 C hR r0 x4 x5 x6 x7 x8 x9 y1404 y1404 (-1 : Int32) M1402 h
def f_L_acts_165 (r0 : Nat) (x4 : Int32) (x5 : Int32) (x6 : Int32) (x7 : Int32) (x8 : Int32) (x9 : Int32) (M : Mem) : Option (Int32 × Mem) := f_L_acts_170 r0 x4 x5 x6 x7 x8 x9 (1 : Int32) M
set_option maxRecDepth 100000 in
set_option maxHeartbeats 4000000 in
theorem t_L_acts_165 {w : Om} {f : Fr} {r : Int32} {M2 : Mem} (C : Cx w f RL cL_acts 12 9) (hR : Rt w f cL_acts (some .boolean) (some (.int r)) M2)   : ∀ (r0 : Nat) (x4 : Int32) (x5 : Int32) (x6 : Int32) (x7 : Int32) (x8 : Int32) (x9 : Int32) (M : Mem), f_L_acts_165 r0 x4 x5 x6 x7 x8 x9 M = some (r, M2) → Go w f 165 [some (rv w r0), none, none, none, some (.int x4), some (.int x5), some (.int x6), some (.int x7), some (.int x8), some (.int x9), none, none] [] M := by
  intro r0 x4 x5 x6 x7 x8 x9 M h
  unfold f_L_acts_165 at h
  refine g_iconst (v := 1) C dL_acts_165 rfl ?_
  refine g_goto 170 C dL_acts_166 (by decide) ?_
  exact t_L_acts_170 C hR r0 x4 x5 x6 x7 x8 x9 (1 : Int32) M h
def f_L_acts_123 (r0 : Nat) (x4 : Int32) (x5 : Int32) (x6 : Int32) (x7 : Int32) (x8 : Int32) (xs0 : Int32) (M : Mem) : Option (Int32 × Mem) := if x5 = (6 : Int32) then (f_L_acts_165 r0 x4 x5 x6 x7 x8 xs0 M) else (if x6 = (6 : Int32) then (f_L_acts_165 r0 x4 x5 x6 x7 x8 xs0 M) else (if x7 = 0 then (f_L_acts_165 r0 x4 x5 x6 x7 x8 xs0 M) else (if x7 = (21 : Int32) then (f_L_acts_165 r0 x4 x5 x6 x7 x8 xs0 M) else (if x8 = (-2 : Int32) then (f_L_acts_165 r0 x4 x5 x6 x7 x8 xs0 M) else (if x8 = x4 then (f_L_acts_165 r0 x4 x5 x6 x7 x8 xs0 M) else (f_L_acts_170 r0 x4 x5 x6 x7 x8 xs0 (0 : Int32) M))))))
set_option maxRecDepth 100000 in
set_option maxHeartbeats 4000000 in
theorem t_L_acts_123 {w : Om} {f : Fr} {r : Int32} {M2 : Mem} (C : Cx w f RL cL_acts 12 9) (hR : Rt w f cL_acts (some .boolean) (some (.int r)) M2)   : ∀ (r0 : Nat) (x4 : Int32) (x5 : Int32) (x6 : Int32) (x7 : Int32) (x8 : Int32) (xs0 : Int32) (M : Mem), f_L_acts_123 r0 x4 x5 x6 x7 x8 xs0 M = some (r, M2) → Go w f 123 [some (rv w r0), none, none, none, some (.int x4), some (.int x5), some (.int x6), some (.int x7), some (.int x8), none, none, none] [.int xs0] M := by
  intro r0 x4 x5 x6 x7 x8 xs0 M h
  unfold f_L_acts_123 at h
  refine g_istore C dL_acts_123 (by decide) rfl (L2 := [some (rv w r0), none, none, none, some (.int x4), some (.int x5), some (.int x6), some (.int x7), some (.int x8), some (.int xs0), none, none]) rfl ?_
  refine g_iload C dL_acts_125 rfl ?_
  refine g_bipush (v := 6) C dL_acts_127 rfl ?_
  refine g_icmp_eq 165 C dL_acts_129 (by decide) (fun c1201 => ?_) (fun c1201 => ?_)
  · replace h := of_ift h c1201
    exact t_L_acts_165 C hR r0 x4 x5 x6 x7 x8 xs0 M h
  · replace h := of_iff h c1201
    refine g_iload C dL_acts_132 rfl ?_
    refine g_bipush (v := 6) C dL_acts_134 rfl ?_
    refine g_icmp_eq 165 C dL_acts_136 (by decide) (fun c1202 => ?_) (fun c1202 => ?_)
    · replace h := of_ift h c1202
      exact t_L_acts_165 C hR r0 x4 x5 x6 x7 x8 xs0 M h
    · replace h := of_iff h c1202
      refine g_iload C dL_acts_139 rfl ?_
      refine g_if_eq 165 C dL_acts_141 (by decide) (fun c1203 => ?_) (fun c1203 => ?_)
      · replace h := of_ift h c1203
        exact t_L_acts_165 C hR r0 x4 x5 x6 x7 x8 xs0 M h
      · replace h := of_iff h c1203
        refine g_iload C dL_acts_144 rfl ?_
        refine g_bipush (v := 21) C dL_acts_146 rfl ?_
        refine g_icmp_eq 165 C dL_acts_148 (by decide) (fun c1204 => ?_) (fun c1204 => ?_)
        · replace h := of_ift h c1204
          exact t_L_acts_165 C hR r0 x4 x5 x6 x7 x8 xs0 M h
        · replace h := of_iff h c1204
          refine g_iload C dL_acts_151 rfl ?_
          refine g_bipush (v := -2) C dL_acts_153 rfl ?_
          refine g_icmp_eq 165 C dL_acts_155 (by decide) (fun c1205 => ?_) (fun c1205 => ?_)
          · replace h := of_ift h c1205
            exact t_L_acts_165 C hR r0 x4 x5 x6 x7 x8 xs0 M h
          · replace h := of_iff h c1205
            refine g_iload C dL_acts_158 rfl ?_
            refine g_iload C dL_acts_160 rfl ?_
            refine g_icmp_ne 169 C dL_acts_162 (by decide) (fun c1206 => ?_) (fun c1206 => ?_)
            · replace h := of_iff h c1206
              refine g_iconst (v := 0) C dL_acts_169 rfl ?_
              exact t_L_acts_170 C hR r0 x4 x5 x6 x7 x8 xs0 (0 : Int32) M h
            · replace h := of_ift h c1206
              exact t_L_acts_165 C hR r0 x4 x5 x6 x7 x8 xs0 M h
def f_L_acts_76 (r0 : Nat) (x2 : Int32) (x4 : Int32) (x5 : Int32) (xs0 : Int32) (xs1 : Int32) (M : Mem) : Option (Int32 × Mem) := obb (f_L_low xs0 xs1) fun y1101 => obb (f_L_low (x2 >>> ((6 : Int32) &&& 31)) (22 : Int32)) fun y1103 => obb (f_L_low (x2 >>> ((10 : Int32) &&& 31)) (x4 + (3 : Int32))) fun y1105 => bvv (y1105 - (2 : Int32)) fun y1107 => obb (f_L_low (x2 >>> ((9 : Int32) &&& 31)) (2 : Int32)) fun y1109 => if y1109 = 0 then (f_L_acts_123 r0 x4 x5 y1101 y1103 y1107 (1 : Int32) M) else (f_L_acts_123 r0 x4 x5 y1101 y1103 y1107 (0 : Int32) M)
set_option maxRecDepth 100000 in
set_option maxHeartbeats 4000000 in
theorem t_L_acts_76 {w : Om} {f : Fr} {r : Int32} {M2 : Mem} (C : Cx w f RL cL_acts 12 9) (hR : Rt w f cL_acts (some .boolean) (some (.int r)) M2)   : ∀ (r0 : Nat) (x2 : Int32) (x4 : Int32) (x5 : Int32) (xs0 : Int32) (xs1 : Int32) (M : Mem), f_L_acts_76 r0 x2 x4 x5 xs0 xs1 M = some (r, M2) → Go w f 76 [some (rv w r0), none, some (.int x2), none, some (.int x4), some (.int x5), none, none, none, none, none, none] [.int xs1, .int xs0] M := by
  intro r0 x2 x4 x5 xs0 xs1 M h
  unfold f_L_acts_76 at h
  obtain ⟨y1101, e1102, h⟩ := of_obb h
  refine g_callS (As := [.int xs0, .int xs1]) C (ct_L_low C.wf e1102) lk_RL_56 mi_L_low (by decide) cs_0 (by decide) dL_acts_76 rfl ?_
  show Go w f 79 [some (rv w r0), none, some (.int x2), none, some (.int x4), some (.int x5), none, none, none, none, none, none] [.int y1101] M
  refine g_istore C dL_acts_79 (by decide) rfl (L2 := [some (rv w r0), none, some (.int x2), none, some (.int x4), some (.int x5), some (.int y1101), none, none, none, none, none]) rfl ?_
  refine g_iload_n C dL_acts_81 rfl rfl ?_
  refine g_bipush (v := 6) C dL_acts_82 rfl ?_
  refine g_ishr C dL_acts_84 ?_
  refine g_bipush (v := 22) C dL_acts_85 rfl ?_
  obtain ⟨y1103, e1104, h⟩ := of_obb h
  refine g_callS (As := [.int (x2 >>> ((6 : Int32) &&& 31)), .int (22 : Int32)]) C (ct_L_low C.wf e1104) lk_RL_56 mi_L_low (by decide) cs_0 (by decide) dL_acts_87 rfl ?_
  show Go w f 90 [some (rv w r0), none, some (.int x2), none, some (.int x4), some (.int x5), some (.int y1101), none, none, none, none, none] [.int y1103] M
  refine g_istore C dL_acts_90 (by decide) rfl (L2 := [some (rv w r0), none, some (.int x2), none, some (.int x4), some (.int x5), some (.int y1101), some (.int y1103), none, none, none, none]) rfl ?_
  refine g_iload_n C dL_acts_92 rfl rfl ?_
  refine g_bipush (v := 10) C dL_acts_93 rfl ?_
  refine g_ishr C dL_acts_95 ?_
  refine g_iload C dL_acts_96 rfl ?_
  refine g_iconst (v := 3) C dL_acts_98 rfl ?_
  refine g_iadd C dL_acts_99 ?_
  obtain ⟨y1105, e1106, h⟩ := of_obb h
  refine g_callS (As := [.int (x2 >>> ((10 : Int32) &&& 31)), .int (x4 + (3 : Int32))]) C (ct_L_low C.wf e1106) lk_RL_56 mi_L_low (by decide) cs_0 (by decide) dL_acts_100 rfl ?_
  show Go w f 103 [some (rv w r0), none, some (.int x2), none, some (.int x4), some (.int x5), some (.int y1101), some (.int y1103), none, none, none, none] [.int y1105] M
  refine g_iconst (v := 2) C dL_acts_103 rfl ?_
  refine g_isub C dL_acts_104 ?_
  obtain ⟨y1107, e1108, h⟩ := of_bvv h
  refine g_topi e1108 ?_
  refine g_istore C dL_acts_105 (by decide) rfl (L2 := [some (rv w r0), none, some (.int x2), none, some (.int x4), some (.int x5), some (.int y1101), some (.int y1103), some (.int y1107), none, none, none]) rfl ?_
  refine g_iload_n C dL_acts_107 rfl rfl ?_
  refine g_bipush (v := 9) C dL_acts_108 rfl ?_
  refine g_ishr C dL_acts_110 ?_
  refine g_iconst (v := 2) C dL_acts_111 rfl ?_
  obtain ⟨y1109, e1110, h⟩ := of_obb h
  refine g_callS (As := [.int (x2 >>> ((9 : Int32) &&& 31)), .int (2 : Int32)]) C (ct_L_low C.wf e1110) lk_RL_56 mi_L_low (by decide) cs_0 (by decide) dL_acts_112 rfl ?_
  show Go w f 115 [some (rv w r0), none, some (.int x2), none, some (.int x4), some (.int x5), some (.int y1101), some (.int y1103), some (.int y1107), none, none, none] [.int y1109] M
  refine g_if_ne 122 C dL_acts_115 (by decide) (fun c1111 => ?_) (fun c1111 => ?_)
  · replace h := of_iff h c1111
    refine g_iconst (v := 0) C dL_acts_122 rfl ?_
    refine g_mask (bs := [true, false, false, false, true, true, true, true, true, false, false, false]) (L2 := [some (rv w r0), none, none, none, some (.int x4), some (.int x5), some (.int y1101), some (.int y1103), some (.int y1107), none, none, none]) rfl ?_
    exact t_L_acts_123 C hR r0 x4 x5 y1101 y1103 y1107 (0 : Int32) M h
  · replace h := of_ift h c1111
    refine g_iconst (v := 1) C dL_acts_118 rfl ?_
    refine g_goto 123 C dL_acts_119 (by decide) ?_
    refine g_mask (bs := [true, false, false, false, true, true, true, true, true, false, false, false]) (L2 := [some (rv w r0), none, none, none, some (.int x4), some (.int x5), some (.int y1101), some (.int y1103), some (.int y1107), none, none, none]) rfl ?_
    exact t_L_acts_123 C hR r0 x4 x5 y1101 y1103 y1107 (1 : Int32) M h
def f_L_acts_50 (r0 : Nat) (x2 : Int32) (x4 : Int32) (xs0 : Int32) (xs1 : Int32) (M : Mem) : Option (Int32 × Mem) := obb (f_L_low xs0 xs1) fun y1001 => obb (f_L_low (x2 >>> ((15 : Int32) &&& 31)) (7 : Int32)) fun y1003 => if y1003 = 0 then (f_L_acts_76 r0 x2 x4 y1001 (x2 >>> ((3 : Int32) &&& 31)) (7 : Int32) M) else (f_L_acts_76 r0 x2 x4 y1001 (x2 >>> ((3 : Int32) &&& 31)) (5 : Int32) M)
set_option maxRecDepth 100000 in
set_option maxHeartbeats 4000000 in
theorem t_L_acts_50 {w : Om} {f : Fr} {r : Int32} {M2 : Mem} (C : Cx w f RL cL_acts 12 9) (hR : Rt w f cL_acts (some .boolean) (some (.int r)) M2)   : ∀ (r0 : Nat) (x2 : Int32) (x4 : Int32) (xs0 : Int32) (xs1 : Int32) (M : Mem), f_L_acts_50 r0 x2 x4 xs0 xs1 M = some (r, M2) → Go w f 50 [some (rv w r0), none, some (.int x2), none, some (.int x4), none, none, none, none, none, none, none] [.int xs1, .int xs0] M := by
  intro r0 x2 x4 xs0 xs1 M h
  unfold f_L_acts_50 at h
  obtain ⟨y1001, e1002, h⟩ := of_obb h
  refine g_callS (As := [.int xs0, .int xs1]) C (ct_L_low C.wf e1002) lk_RL_56 mi_L_low (by decide) cs_0 (by decide) dL_acts_50 rfl ?_
  show Go w f 53 [some (rv w r0), none, some (.int x2), none, some (.int x4), none, none, none, none, none, none, none] [.int y1001] M
  refine g_istore C dL_acts_53 (by decide) rfl (L2 := [some (rv w r0), none, some (.int x2), none, some (.int x4), some (.int y1001), none, none, none, none, none, none]) rfl ?_
  refine g_iload_n C dL_acts_55 rfl rfl ?_
  refine g_iconst (v := 3) C dL_acts_56 rfl ?_
  refine g_ishr C dL_acts_57 ?_
  refine g_iload_n C dL_acts_58 rfl rfl ?_
  refine g_bipush (v := 15) C dL_acts_59 rfl ?_
  refine g_ishr C dL_acts_61 ?_
  refine g_bipush (v := 7) C dL_acts_62 rfl ?_
  obtain ⟨y1003, e1004, h⟩ := of_obb h
  refine g_callS (As := [.int (x2 >>> ((15 : Int32) &&& 31)), .int (7 : Int32)]) C (ct_L_low C.wf e1004) lk_RL_56 mi_L_low (by decide) (cs_i cs_0) (by decide) dL_acts_64 rfl ?_
  show Go w f 67 [some (rv w r0), none, some (.int x2), none, some (.int x4), some (.int y1001), none, none, none, none, none, none] [.int y1003, .int (x2 >>> ((3 : Int32) &&& 31))] M
  refine g_if_ne 75 C dL_acts_67 (by decide) (fun c1005 => ?_) (fun c1005 => ?_)
  · replace h := of_iff h c1005
    refine g_iconst (v := 5) C dL_acts_75 rfl ?_
    exact t_L_acts_76 C hR r0 x2 x4 y1001 (x2 >>> ((3 : Int32) &&& 31)) (5 : Int32) M h
  · replace h := of_ift h c1005
    refine g_bipush (v := 7) C dL_acts_70 rfl ?_
    refine g_goto 76 C dL_acts_72 (by decide) ?_
    exact t_L_acts_76 C hR r0 x2 x4 y1001 (x2 >>> ((3 : Int32) &&& 31)) (7 : Int32) M h
def f_L_acts (r0 : Nat) (x1 : Int32) (x2 : Int32) (M : Mem) : Option (Int32 × Mem) := obb (f_L_low x1 (30 : Int32)) fun y1 => gdd (kd r0 = 6) <| opp (f_X5_count r0 (4 : Int32) M) fun y6 M4 => if (5 : Int32) ≤ y1 then (if (9 : Int32) ≤ y1 then (if (11 : Int32) ≤ y1 then (if (23 : Int32) ≤ y1 then (if y1 = (23 : Int32) then (obb (f_L_low x2 (7 : Int32)) fun y39 => obb (f_L_low (x2 >>> ((3 : Int32) &&& 31)) (11 : Int32)) fun y41 => opp (f_X5_weight r0 y39 y41 M4) fun y45 M43 => if y39 = (6 : Int32) then (f_L_acts_576 y45 M43) else (if y41 = 0 then (f_L_acts_576 y45 M43) else (if y41 = (10 : Int32) then (f_L_acts_576 y45 M43) else (if y45 < (1 : Int32) then (some ((0 : Int32), M43)) else (if (9 : Int32) < y45 then (some ((0 : Int32), M43)) else (some ((1 : Int32), M43))))))) else (if (26 : Int32) ≤ y1 then (if y1 = (26 : Int32) then (opp (f_X5_count r0 (0 : Int32) M4) fun y20 M18 => opp (f_X5_day r0 M18) fun y23 M21 => if y23 = (y20 + (1 : Int32)) then (opp (f_X5_count r0 (0 : Int32) M21) fun y27 M25 => if y27 = (y20 + (1 : Int32)) then (some ((1 : Int32), M25)) else (some ((0 : Int32), M25))) else (some ((0 : Int32), M21))) else (opp (f_L_pleads r0 x2 M4) fun y16 M14 => gdd (isb y16 = true) <| some (y16, M14))) else (obb (f_L_low x2 (3 : Int32)) fun y29 => obb (f_L_low (x2 >>> ((2 : Int32) &&& 31)) (63 : Int32)) fun y31 => if y29 = 0 then (if y31 < (1 : Int32) then (f_L_acts_650 r0 y29 y31 M4) else (if y31 ≤ (30 : Int32) then (f_L_acts_683 r0 y29 y31 (0 : Int32) M4) else (f_L_acts_650 r0 y29 y31 M4))) else (if y29 = (2 : Int32) then (f_L_acts_678 r0 y29 y31 M4) else (if y31 < (9 : Int32) then (f_L_acts_678 r0 y29 y31 M4) else (if y31 ≤ (60 : Int32) then (f_L_acts_683 r0 y29 y31 (0 : Int32) M4) else (f_L_acts_678 r0 y29 y31 M4))))))) else (if (20 : Int32) ≤ y1 then (if (22 : Int32) ≤ y1 then (opp (f_L_suits r0 (2 : Int32) x2 M4) fun y55 M53 => gdd (isb y55 = true) <| some (y55, M53)) else (opp (f_L_suits r0 (1 : Int32) x2 M4) fun y59 M57 => gdd (isb y59 = true) <| some (y59, M57))) else (opp (f_L_suits r0 (0 : Int32) x2 M4) fun y63 M61 => gdd (isb y63 = true) <| some (y63, M61)))) else (obb (f_L_low x2 (y6 + (1 : Int32))) fun y65 => opp (f_X5_count r0 (5 : Int32) M4) fun y69 M67 => if y65 = y6 then (f_L_acts_393 r0 y6 y65 y69 (0 : Int32) M67) else (obb (f_X5_ruling r0 y65 (5 : Int32) M67) fun y71 => f_L_acts_393 r0 y6 y65 y69 y71 M67))) else (obb (f_L_low (x2 >>> ((14 : Int32) &&& 31)) (7 : Int32)) fun y73 => if y73 = 0 then (f_L_acts_50 r0 x2 y6 x2 (7 : Int32) M4) else (f_L_acts_50 r0 x2 y6 x2 (5 : Int32) M4))) else (opp (f_L_prints r0 x2 M4) fun y78 M76 => gdd (isb y78 = true) <| some (y78, M76))
set_option maxRecDepth 100000 in
set_option maxHeartbeats 4000000 in
theorem ct_L_acts {l : Launch} {w : Om} (hw : Wf w) {r0 : Nat} {x1 : Int32} {x2 : Int32} {M : Mem} {r : Int32} {M2 : Mem} (h : f_L_acts r0 x1 x2 M = some (r, M2)) : Ct l w yL_acts cL_acts 12 (some .boolean) 9 [rv w r0, .int x1, .int x2] M (some (.int r)) M2 := by
  refine ct_of hw (by decide) (cat_s (rv_cat _ _) (cat_s rfl (cat_s rfl cat_0))) (Nat.le_of_ble_eq_true rfl) (fun f _ C hR => ?_)
  show Go w f 0 [some (rv w r0), some (.int x1), some (.int x2), none, none, none, none, none, none, none, none, none] [] M
  unfold f_L_acts at h
  refine g_iload_n C dL_acts_0 rfl rfl ?_
  refine g_bipush (v := 30) C dL_acts_1 rfl ?_
  obtain ⟨y1, e2, h⟩ := of_obb h
  refine g_callS (As := [.int x1, .int (30 : Int32)]) C (ct_L_low C.wf e2) lk_RL_56 mi_L_low (by decide) cs_0 (by decide) dL_acts_3 rfl ?_
  show Go w f 6 [some (rv w r0), some (.int x1), some (.int x2), none, none, none, none, none, none, none, none, none] [.int y1] M
  refine g_istore_n C dL_acts_6 rfl (by decide) rfl (L2 := [some (rv w r0), some (.int x1), some (.int x2), some (.int y1), none, none, none, none, none, none, none, none]) rfl ?_
  refine g_aload_n C dL_acts_7 rfl rfl ?_
  refine g_iconst (v := 4) C dL_acts_8 rfl ?_
  obtain ⟨g3, h⟩ := of_gdd h
  obtain ⟨y6, M4, e5, h⟩ := of_opp h
  refine g_callV (As := [.int (4 : Int32)]) C (ct_X5_count C.wf e5) g3 lk_RL_13 mi_X5_count (by decide) cs_0 (by decide) dL_acts_9 rfl ?_
  show Go w f 12 [some (rv w r0), some (.int x1), some (.int x2), some (.int y1), none, none, none, none, none, none, none, none] [.int y6] M4
  refine g_istore C dL_acts_12 (by decide) rfl (L2 := [some (rv w r0), some (.int x1), some (.int x2), some (.int y1), some (.int y6), none, none, none, none, none, none, none]) rfl ?_
  refine g_iload_n C dL_acts_14 rfl rfl ?_
  refine g_iconst (v := 5) C dL_acts_15 rfl ?_
  refine g_icmp_ge 25 C dL_acts_16 (by decide) (fun c7 => ?_) (fun c7 => ?_)
  · replace h := of_ift h c7
    refine g_iload_n C dL_acts_25 rfl rfl ?_
    refine g_bipush (v := 9) C dL_acts_26 rfl ?_
    refine g_icmp_ge 352 C dL_acts_28 (by decide) (fun c8 => ?_) (fun c8 => ?_)
    · replace h := of_ift h c8
      refine g_iload_n C dL_acts_352 rfl rfl ?_
      refine g_bipush (v := 11) C dL_acts_353 rfl ?_
      refine g_icmp_ge 490 C dL_acts_355 (by decide) (fun c9 => ?_) (fun c9 => ?_)
      · replace h := of_ift h c9
        refine g_iload_n C dL_acts_490 rfl rfl ?_
        refine g_bipush (v := 23) C dL_acts_491 rfl ?_
        refine g_icmp_ge 523 C dL_acts_493 (by decide) (fun c10 => ?_) (fun c10 => ?_)
        · replace h := of_ift h c10
          refine g_iload_n C dL_acts_523 rfl rfl ?_
          refine g_bipush (v := 23) C dL_acts_524 rfl ?_
          refine g_icmp_ne 609 C dL_acts_526 (by decide) (fun c11 => ?_) (fun c11 => ?_)
          · replace h := of_iff h c11
            refine g_iload_n C dL_acts_609 rfl rfl ?_
            refine g_bipush (v := 26) C dL_acts_610 rfl ?_
            refine g_icmp_ge 764 C dL_acts_612 (by decide) (fun c12 => ?_) (fun c12 => ?_)
            · replace h := of_ift h c12
              refine g_iload_n C dL_acts_764 rfl rfl ?_
              refine g_bipush (v := 26) C dL_acts_765 rfl ?_
              refine g_icmp_ne 806 C dL_acts_767 (by decide) (fun c13 => ?_) (fun c13 => ?_)
              · replace h := of_iff h c13
                refine g_aload_n C dL_acts_806 rfl rfl ?_
                refine g_iload_n C dL_acts_807 rfl rfl ?_
                obtain ⟨y16, M14, e15, h⟩ := of_opp h
                refine g_callS (As := [rv w r0, .int x2]) C (ct_L_pleads C.wf e15) lk_RL_128 mi_L_pleads (by decide) cs_0 (by decide) dL_acts_808 rfl ?_
                show Go w f 811 [some (rv w r0), some (.int x1), some (.int x2), some (.int y1), some (.int y6), none, none, none, none, none, none, none] [.int y16] M14
                obtain ⟨g17, h⟩ := of_gdd h
                cases h
                exact hR 811 _ ⟨.boolean, rfl, nb_use g17⟩ dL_acts_811
              · replace h := of_ift h c13
                refine g_aload_n C dL_acts_770 rfl rfl ?_
                refine g_iconst (v := 0) C dL_acts_771 rfl ?_
                obtain ⟨y20, M18, e19, h⟩ := of_opp h
                refine g_callV (As := [.int (0 : Int32)]) C (ct_X5_count C.wf e19) g3 lk_RL_13 mi_X5_count (by decide) cs_0 (by decide) dL_acts_772 rfl ?_
                show Go w f 775 [some (rv w r0), some (.int x1), some (.int x2), some (.int y1), some (.int y6), none, none, none, none, none, none, none] [.int y20] M18
                refine g_istore C dL_acts_775 (by decide) rfl (L2 := [some (rv w r0), some (.int x1), some (.int x2), some (.int y1), some (.int y6), some (.int y20), none, none, none, none, none, none]) rfl ?_
                refine g_aload_n C dL_acts_777 rfl rfl ?_
                obtain ⟨y23, M21, e22, h⟩ := of_opp h
                refine g_callV (As := []) C (ct_X5_day C.wf e22) g3 lk_RL_125 mi_X5_day (by decide) cs_0 (by decide) dL_acts_778 rfl ?_
                show Go w f 781 [some (rv w r0), some (.int x1), some (.int x2), some (.int y1), some (.int y6), some (.int y20), none, none, none, none, none, none] [.int y23] M21
                refine g_iload C dL_acts_781 rfl ?_
                refine g_iconst (v := 1) C dL_acts_783 rfl ?_
                refine g_iadd C dL_acts_784 ?_
                refine g_icmp_ne 804 C dL_acts_785 (by decide) (fun c24 => ?_) (fun c24 => ?_)
                · replace h := of_iff h c24
                  refine g_iconst (v := 0) C dL_acts_804 rfl ?_
                  cases h
                  exact hR 805 _ ⟨.boolean, rfl, rfl⟩ dL_acts_805
                · replace h := of_ift h c24
                  refine g_aload_n C dL_acts_788 rfl rfl ?_
                  refine g_iconst (v := 0) C dL_acts_789 rfl ?_
                  obtain ⟨y27, M25, e26, h⟩ := of_opp h
                  refine g_callV (As := [.int (0 : Int32)]) C (ct_X5_count C.wf e26) g3 lk_RL_13 mi_X5_count (by decide) cs_0 (by decide) dL_acts_790 rfl ?_
                  show Go w f 793 [some (rv w r0), some (.int x1), some (.int x2), some (.int y1), some (.int y6), some (.int y20), none, none, none, none, none, none] [.int y27] M25
                  refine g_iload C dL_acts_793 rfl ?_
                  refine g_iconst (v := 1) C dL_acts_795 rfl ?_
                  refine g_iadd C dL_acts_796 ?_
                  refine g_icmp_ne 804 C dL_acts_797 (by decide) (fun c28 => ?_) (fun c28 => ?_)
                  · replace h := of_iff h c28
                    refine g_iconst (v := 0) C dL_acts_804 rfl ?_
                    cases h
                    exact hR 805 _ ⟨.boolean, rfl, rfl⟩ dL_acts_805
                  · replace h := of_ift h c28
                    refine g_iconst (v := 1) C dL_acts_800 rfl ?_
                    refine g_goto 805 C dL_acts_801 (by decide) ?_
                    cases h
                    exact hR 805 _ ⟨.boolean, rfl, rfl⟩ dL_acts_805
            · replace h := of_iff h c12
              refine g_iload_n C dL_acts_615 rfl rfl ?_
              refine g_iconst (v := 3) C dL_acts_616 rfl ?_
              obtain ⟨y29, e30, h⟩ := of_obb h
              refine g_callS (As := [.int x2, .int (3 : Int32)]) C (ct_L_low C.wf e30) lk_RL_56 mi_L_low (by decide) cs_0 (by decide) dL_acts_617 rfl ?_
              show Go w f 620 [some (rv w r0), some (.int x1), some (.int x2), some (.int y1), some (.int y6), none, none, none, none, none, none, none] [.int y29] M4
              refine g_istore C dL_acts_620 (by decide) rfl (L2 := [some (rv w r0), some (.int x1), some (.int x2), some (.int y1), some (.int y6), some (.int y29), none, none, none, none, none, none]) rfl ?_
              refine g_iload_n C dL_acts_622 rfl rfl ?_
              refine g_iconst (v := 2) C dL_acts_623 rfl ?_
              refine g_ishr C dL_acts_624 ?_
              refine g_bipush (v := 63) C dL_acts_625 rfl ?_
              obtain ⟨y31, e32, h⟩ := of_obb h
              refine g_callS (As := [.int (x2 >>> ((2 : Int32) &&& 31)), .int (63 : Int32)]) C (ct_L_low C.wf e32) lk_RL_56 mi_L_low (by decide) cs_0 (by decide) dL_acts_627 rfl ?_
              show Go w f 630 [some (rv w r0), some (.int x1), some (.int x2), some (.int y1), some (.int y6), some (.int y29), none, none, none, none, none, none] [.int y31] M4
              refine g_istore C dL_acts_630 (by decide) rfl (L2 := [some (rv w r0), some (.int x1), some (.int x2), some (.int y1), some (.int y6), some (.int y29), some (.int y31), none, none, none, none, none]) rfl ?_
              refine g_iload C dL_acts_632 rfl ?_
              refine g_if_ne 658 C dL_acts_634 (by decide) (fun c33 => ?_) (fun c33 => ?_)
              · replace h := of_iff h c33
                refine g_iload C dL_acts_658 rfl ?_
                refine g_iconst (v := 2) C dL_acts_660 rfl ?_
                refine g_icmp_eq 678 C dL_acts_661 (by decide) (fun c34 => ?_) (fun c34 => ?_)
                · replace h := of_ift h c34
                  refine g_mask (bs := [true, false, false, false, false, true, true, false, false, false, false, false]) (L2 := [some (rv w r0), none, none, none, none, some (.int y29), some (.int y31), none, none, none, none, none]) rfl ?_
                  exact t_L_acts_678 C hR r0 y29 y31 M4 h
                · replace h := of_iff h c34
                  refine g_iload C dL_acts_664 rfl ?_
                  refine g_bipush (v := 9) C dL_acts_666 rfl ?_
                  refine g_icmp_lt 678 C dL_acts_668 (by decide) (fun c35 => ?_) (fun c35 => ?_)
                  · replace h := of_ift h c35
                    refine g_mask (bs := [true, false, false, false, false, true, true, false, false, false, false, false]) (L2 := [some (rv w r0), none, none, none, none, some (.int y29), some (.int y31), none, none, none, none, none]) rfl ?_
                    exact t_L_acts_678 C hR r0 y29 y31 M4 h
                  · replace h := of_iff h c35
                    refine g_iload C dL_acts_671 rfl ?_
                    refine g_bipush (v := 60) C dL_acts_673 rfl ?_
                    refine g_icmp_le 682 C dL_acts_675 (by decide) (fun c36 => ?_) (fun c36 => ?_)
                    · replace h := of_ift h c36
                      refine g_iconst (v := 0) C dL_acts_682 rfl ?_
                      refine g_mask (bs := [true, false, false, false, false, true, true, false, false, false, false, false]) (L2 := [some (rv w r0), none, none, none, none, some (.int y29), some (.int y31), none, none, none, none, none]) rfl ?_
                      exact t_L_acts_683 C hR r0 y29 y31 (0 : Int32) M4 h
                    · replace h := of_iff h c36
                      refine g_mask (bs := [true, false, false, false, false, true, true, false, false, false, false, false]) (L2 := [some (rv w r0), none, none, none, none, some (.int y29), some (.int y31), none, none, none, none, none]) rfl ?_
                      exact t_L_acts_678 C hR r0 y29 y31 M4 h
              · replace h := of_ift h c33
                refine g_iload C dL_acts_637 rfl ?_
                refine g_iconst (v := 1) C dL_acts_639 rfl ?_
                refine g_icmp_lt 650 C dL_acts_640 (by decide) (fun c37 => ?_) (fun c37 => ?_)
                · replace h := of_ift h c37
                  refine g_mask (bs := [true, false, false, false, false, true, true, false, false, false, false, false]) (L2 := [some (rv w r0), none, none, none, none, some (.int y29), some (.int y31), none, none, none, none, none]) rfl ?_
                  exact t_L_acts_650 C hR r0 y29 y31 M4 h
                · replace h := of_iff h c37
                  refine g_iload C dL_acts_643 rfl ?_
                  refine g_bipush (v := 30) C dL_acts_645 rfl ?_
                  refine g_icmp_le 654 C dL_acts_647 (by decide) (fun c38 => ?_) (fun c38 => ?_)
                  · replace h := of_ift h c38
                    refine g_iconst (v := 0) C dL_acts_654 rfl ?_
                    refine g_goto 683 C dL_acts_655 (by decide) ?_
                    refine g_mask (bs := [true, false, false, false, false, true, true, false, false, false, false, false]) (L2 := [some (rv w r0), none, none, none, none, some (.int y29), some (.int y31), none, none, none, none, none]) rfl ?_
                    exact t_L_acts_683 C hR r0 y29 y31 (0 : Int32) M4 h
                  · replace h := of_iff h c38
                    refine g_mask (bs := [true, false, false, false, false, true, true, false, false, false, false, false]) (L2 := [some (rv w r0), none, none, none, none, some (.int y29), some (.int y31), none, none, none, none, none]) rfl ?_
                    exact t_L_acts_650 C hR r0 y29 y31 M4 h
          · replace h := of_ift h c11
            refine g_iload_n C dL_acts_529 rfl rfl ?_
            refine g_bipush (v := 7) C dL_acts_530 rfl ?_
            obtain ⟨y39, e40, h⟩ := of_obb h
            refine g_callS (As := [.int x2, .int (7 : Int32)]) C (ct_L_low C.wf e40) lk_RL_56 mi_L_low (by decide) cs_0 (by decide) dL_acts_532 rfl ?_
            show Go w f 535 [some (rv w r0), some (.int x1), some (.int x2), some (.int y1), some (.int y6), none, none, none, none, none, none, none] [.int y39] M4
            refine g_istore C dL_acts_535 (by decide) rfl (L2 := [some (rv w r0), some (.int x1), some (.int x2), some (.int y1), some (.int y6), some (.int y39), none, none, none, none, none, none]) rfl ?_
            refine g_iload_n C dL_acts_537 rfl rfl ?_
            refine g_iconst (v := 3) C dL_acts_538 rfl ?_
            refine g_ishr C dL_acts_539 ?_
            refine g_bipush (v := 11) C dL_acts_540 rfl ?_
            obtain ⟨y41, e42, h⟩ := of_obb h
            refine g_callS (As := [.int (x2 >>> ((3 : Int32) &&& 31)), .int (11 : Int32)]) C (ct_L_low C.wf e42) lk_RL_56 mi_L_low (by decide) cs_0 (by decide) dL_acts_542 rfl ?_
            show Go w f 545 [some (rv w r0), some (.int x1), some (.int x2), some (.int y1), some (.int y6), some (.int y39), none, none, none, none, none, none] [.int y41] M4
            refine g_istore C dL_acts_545 (by decide) rfl (L2 := [some (rv w r0), some (.int x1), some (.int x2), some (.int y1), some (.int y6), some (.int y39), some (.int y41), none, none, none, none, none]) rfl ?_
            refine g_aload_n C dL_acts_547 rfl rfl ?_
            refine g_iload C dL_acts_548 rfl ?_
            refine g_iload C dL_acts_550 rfl ?_
            obtain ⟨y45, M43, e44, h⟩ := of_opp h
            refine g_callV (As := [.int y39, .int y41]) C (ct_X5_weight C.wf e44) g3 lk_RL_119 mi_X5_weight (by decide) cs_0 (by decide) dL_acts_552 rfl ?_
            show Go w f 555 [some (rv w r0), some (.int x1), some (.int x2), some (.int y1), some (.int y6), some (.int y39), some (.int y41), none, none, none, none, none] [.int y45] M43
            refine g_istore C dL_acts_555 (by decide) rfl (L2 := [some (rv w r0), some (.int x1), some (.int x2), some (.int y1), some (.int y6), some (.int y39), some (.int y41), some (.int y45), none, none, none, none]) rfl ?_
            refine g_iload C dL_acts_557 rfl ?_
            refine g_bipush (v := 6) C dL_acts_559 rfl ?_
            refine g_icmp_eq 576 C dL_acts_561 (by decide) (fun c46 => ?_) (fun c46 => ?_)
            · replace h := of_ift h c46
              refine g_mask (bs := [false, false, false, false, false, false, false, true, false, false, false, false]) (L2 := [none, none, none, none, none, none, none, some (.int y45), none, none, none, none]) rfl ?_
              exact t_L_acts_576 C hR y45 M43 h
            · replace h := of_iff h c46
              refine g_iload C dL_acts_564 rfl ?_
              refine g_if_eq 576 C dL_acts_566 (by decide) (fun c47 => ?_) (fun c47 => ?_)
              · replace h := of_ift h c47
                refine g_mask (bs := [false, false, false, false, false, false, false, true, false, false, false, false]) (L2 := [none, none, none, none, none, none, none, some (.int y45), none, none, none, none]) rfl ?_
                exact t_L_acts_576 C hR y45 M43 h
              · replace h := of_iff h c47
                refine g_iload C dL_acts_569 rfl ?_
                refine g_bipush (v := 10) C dL_acts_571 rfl ?_
                refine g_icmp_ne 590 C dL_acts_573 (by decide) (fun c48 => ?_) (fun c48 => ?_)
                · replace h := of_iff h c48
                  refine g_iload C dL_acts_590 rfl ?_
                  refine g_iconst (v := 1) C dL_acts_592 rfl ?_
                  refine g_icmp_lt 607 C dL_acts_593 (by decide) (fun c49 => ?_) (fun c49 => ?_)
                  · replace h := of_ift h c49
                    refine g_iconst (v := 0) C dL_acts_607 rfl ?_
                    cases h
                    exact hR 608 _ ⟨.boolean, rfl, rfl⟩ dL_acts_608
                  · replace h := of_iff h c49
                    refine g_iload C dL_acts_596 rfl ?_
                    refine g_bipush (v := 9) C dL_acts_598 rfl ?_
                    refine g_icmp_gt 607 C dL_acts_600 (by decide) (fun c50 => ?_) (fun c50 => ?_)
                    · replace h := of_ift h c50
                      refine g_iconst (v := 0) C dL_acts_607 rfl ?_
                      cases h
                      exact hR 608 _ ⟨.boolean, rfl, rfl⟩ dL_acts_608
                    · replace h := of_iff h c50
                      refine g_iconst (v := 1) C dL_acts_603 rfl ?_
                      refine g_goto 608 C dL_acts_604 (by decide) ?_
                      cases h
                      exact hR 608 _ ⟨.boolean, rfl, rfl⟩ dL_acts_608
                · replace h := of_ift h c48
                  refine g_mask (bs := [false, false, false, false, false, false, false, true, false, false, false, false]) (L2 := [none, none, none, none, none, none, none, some (.int y45), none, none, none, none]) rfl ?_
                  exact t_L_acts_576 C hR y45 M43 h
        · replace h := of_iff h c10
          refine g_aload_n C dL_acts_496 rfl rfl ?_
          refine g_iload_n C dL_acts_497 rfl rfl ?_
          refine g_bipush (v := 20) C dL_acts_498 rfl ?_
          refine g_icmp_ge 507 C dL_acts_500 (by decide) (fun c51 => ?_) (fun c51 => ?_)
          · replace h := of_ift h c51
            refine g_iload_n C dL_acts_507 rfl rfl ?_
            refine g_bipush (v := 22) C dL_acts_508 rfl ?_
            refine g_icmp_ge 517 C dL_acts_510 (by decide) (fun c52 => ?_) (fun c52 => ?_)
            · replace h := of_ift h c52
              refine g_iconst (v := 2) C dL_acts_517 rfl ?_
              refine g_iload_n C dL_acts_518 rfl rfl ?_
              obtain ⟨y55, M53, e54, h⟩ := of_opp h
              refine g_callS (As := [rv w r0, .int (2 : Int32), .int x2]) C (ct_L_suits C.wf e54) lk_RL_115 mi_L_suits (by decide) cs_0 (by decide) dL_acts_519 rfl ?_
              show Go w f 522 [some (rv w r0), some (.int x1), some (.int x2), some (.int y1), some (.int y6), none, none, none, none, none, none, none] [.int y55] M53
              obtain ⟨g56, h⟩ := of_gdd h
              cases h
              exact hR 522 _ ⟨.boolean, rfl, nb_use g56⟩ dL_acts_522
            · replace h := of_iff h c52
              refine g_iconst (v := 1) C dL_acts_513 rfl ?_
              refine g_goto 518 C dL_acts_514 (by decide) ?_
              refine g_iload_n C dL_acts_518 rfl rfl ?_
              obtain ⟨y59, M57, e58, h⟩ := of_opp h
              refine g_callS (As := [rv w r0, .int (1 : Int32), .int x2]) C (ct_L_suits C.wf e58) lk_RL_115 mi_L_suits (by decide) cs_0 (by decide) dL_acts_519 rfl ?_
              show Go w f 522 [some (rv w r0), some (.int x1), some (.int x2), some (.int y1), some (.int y6), none, none, none, none, none, none, none] [.int y59] M57
              obtain ⟨g60, h⟩ := of_gdd h
              cases h
              exact hR 522 _ ⟨.boolean, rfl, nb_use g60⟩ dL_acts_522
          · replace h := of_iff h c51
            refine g_iconst (v := 0) C dL_acts_503 rfl ?_
            refine g_goto 518 C dL_acts_504 (by decide) ?_
            refine g_iload_n C dL_acts_518 rfl rfl ?_
            obtain ⟨y63, M61, e62, h⟩ := of_opp h
            refine g_callS (As := [rv w r0, .int (0 : Int32), .int x2]) C (ct_L_suits C.wf e62) lk_RL_115 mi_L_suits (by decide) cs_0 (by decide) dL_acts_519 rfl ?_
            show Go w f 522 [some (rv w r0), some (.int x1), some (.int x2), some (.int y1), some (.int y6), none, none, none, none, none, none, none] [.int y63] M61
            obtain ⟨g64, h⟩ := of_gdd h
            cases h
            exact hR 522 _ ⟨.boolean, rfl, nb_use g64⟩ dL_acts_522
      · replace h := of_iff h c9
        refine g_iload_n C dL_acts_358 rfl rfl ?_
        refine g_iload C dL_acts_359 rfl ?_
        refine g_iconst (v := 1) C dL_acts_361 rfl ?_
        refine g_iadd C dL_acts_362 ?_
        obtain ⟨y65, e66, h⟩ := of_obb h
        refine g_callS (As := [.int x2, .int (y6 + (1 : Int32))]) C (ct_L_low C.wf e66) lk_RL_56 mi_L_low (by decide) cs_0 (by decide) dL_acts_363 rfl ?_
        show Go w f 366 [some (rv w r0), some (.int x1), some (.int x2), some (.int y1), some (.int y6), none, none, none, none, none, none, none] [.int y65] M4
        refine g_istore C dL_acts_366 (by decide) rfl (L2 := [some (rv w r0), some (.int x1), some (.int x2), some (.int y1), some (.int y6), some (.int y65), none, none, none, none, none, none]) rfl ?_
        refine g_aload_n C dL_acts_368 rfl rfl ?_
        refine g_iconst (v := 5) C dL_acts_369 rfl ?_
        obtain ⟨y69, M67, e68, h⟩ := of_opp h
        refine g_callV (As := [.int (5 : Int32)]) C (ct_X5_count C.wf e68) g3 lk_RL_13 mi_X5_count (by decide) cs_0 (by decide) dL_acts_370 rfl ?_
        show Go w f 373 [some (rv w r0), some (.int x1), some (.int x2), some (.int y1), some (.int y6), some (.int y65), none, none, none, none, none, none] [.int y69] M67
        refine g_istore C dL_acts_373 (by decide) rfl (L2 := [some (rv w r0), some (.int x1), some (.int x2), some (.int y1), some (.int y6), some (.int y65), some (.int y69), none, none, none, none, none]) rfl ?_
        refine g_iload C dL_acts_375 rfl ?_
        refine g_iload C dL_acts_377 rfl ?_
        refine g_icmp_ne 386 C dL_acts_379 (by decide) (fun c70 => ?_) (fun c70 => ?_)
        · replace h := of_iff h c70
          refine g_aload_n C dL_acts_386 rfl rfl ?_
          refine g_iload C dL_acts_387 rfl ?_
          refine g_iconst (v := 5) C dL_acts_389 rfl ?_
          obtain ⟨y71, e72, h⟩ := of_obb h
          refine g_callV (As := [.int y65, .int (5 : Int32)]) C (ct_X5_ruling C.wf e72) g3 lk_RL_26 mi_X5_ruling (by decide) cs_0 (by decide) dL_acts_390 rfl ?_
          show Go w f 393 [some (rv w r0), some (.int x1), some (.int x2), some (.int y1), some (.int y6), some (.int y65), some (.int y69), none, none, none, none, none] [.int y71] M67
          refine g_mask (bs := [true, false, false, false, true, true, true, false, false, false, false, false]) (L2 := [some (rv w r0), none, none, none, some (.int y6), some (.int y65), some (.int y69), none, none, none, none, none]) rfl ?_
          exact t_L_acts_393 C hR r0 y6 y65 y69 y71 M67 h
        · replace h := of_ift h c70
          refine g_iconst (v := 0) C dL_acts_382 rfl ?_
          refine g_goto 393 C dL_acts_383 (by decide) ?_
          refine g_mask (bs := [true, false, false, false, true, true, true, false, false, false, false, false]) (L2 := [some (rv w r0), none, none, none, some (.int y6), some (.int y65), some (.int y69), none, none, none, none, none]) rfl ?_
          exact t_L_acts_393 C hR r0 y6 y65 y69 (0 : Int32) M67 h
    · replace h := of_iff h c8
      refine g_iload_n C dL_acts_31 rfl rfl ?_
      refine g_iload_n C dL_acts_32 rfl rfl ?_
      refine g_bipush (v := 14) C dL_acts_33 rfl ?_
      refine g_ishr C dL_acts_35 ?_
      refine g_bipush (v := 7) C dL_acts_36 rfl ?_
      obtain ⟨y73, e74, h⟩ := of_obb h
      refine g_callS (As := [.int (x2 >>> ((14 : Int32) &&& 31)), .int (7 : Int32)]) C (ct_L_low C.wf e74) lk_RL_56 mi_L_low (by decide) (cs_i cs_0) (by decide) dL_acts_38 rfl ?_
      show Go w f 41 [some (rv w r0), some (.int x1), some (.int x2), some (.int y1), some (.int y6), none, none, none, none, none, none, none] [.int y73, .int x2] M4
      refine g_if_ne 49 C dL_acts_41 (by decide) (fun c75 => ?_) (fun c75 => ?_)
      · replace h := of_iff h c75
        refine g_iconst (v := 5) C dL_acts_49 rfl ?_
        refine g_mask (bs := [true, false, true, false, true, false, false, false, false, false, false, false]) (L2 := [some (rv w r0), none, some (.int x2), none, some (.int y6), none, none, none, none, none, none, none]) rfl ?_
        exact t_L_acts_50 C hR r0 x2 y6 x2 (5 : Int32) M4 h
      · replace h := of_ift h c75
        refine g_bipush (v := 7) C dL_acts_44 rfl ?_
        refine g_goto 50 C dL_acts_46 (by decide) ?_
        refine g_mask (bs := [true, false, true, false, true, false, false, false, false, false, false, false]) (L2 := [some (rv w r0), none, some (.int x2), none, some (.int y6), none, none, none, none, none, none, none]) rfl ?_
        exact t_L_acts_50 C hR r0 x2 y6 x2 (7 : Int32) M4 h
  · replace h := of_iff h c7
    refine g_aload_n C dL_acts_19 rfl rfl ?_
    refine g_iload_n C dL_acts_20 rfl rfl ?_
    obtain ⟨y78, M76, e77, h⟩ := of_opp h
    refine g_callS (As := [rv w r0, .int x2]) C (ct_L_prints C.wf e77) lk_RL_105 mi_L_prints (by decide) cs_0 (by decide) dL_acts_21 rfl ?_
    show Go w f 24 [some (rv w r0), some (.int x1), some (.int x2), some (.int y1), some (.int y6), none, none, none, none, none, none, none] [.int y78] M76
    obtain ⟨g79, h⟩ := of_gdd h
    cases h
    exact hR 24 _ ⟨.boolean, rfl, nb_use g79⟩ dL_acts_24
