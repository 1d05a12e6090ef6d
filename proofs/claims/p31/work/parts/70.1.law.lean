def f_L_would_435 (x12 : Int32) (M : Mem) : Option (Int32 × Mem) := if x12 = (-1 : Int32) then (some ((1 : Int32), M)) else (some ((0 : Int32), M))
set_option maxRecDepth 100000 in
set_option maxHeartbeats 4000000 in
theorem t_L_would_435 {w : Om} {f : Fr} {r : Int32} {M2 : Mem} (C : Cx w f RL cL_would 17 7) (hR : Rt w f cL_would (some .boolean) (some (.int r)) M2)   : ∀ (x12 : Int32) (M : Mem), f_L_would_435 x12 M = some (r, M2) → Go w f 435 [none, none, none, none, none, none, none, none, none, none, none, none, some (.int x12), none, none, none, none] [] M := by
  intro x12 M h
  unfold f_L_would_435 at h
  refine g_iload C dL_would_435 rfl ?_
  refine g_iconst (v := -1) C dL_would_437 rfl ?_
  refine g_icmp_ne 490 C dL_would_438 (by decide) (fun c1101 => ?_) (fun c1101 => ?_)
  · replace h := of_iff h c1101
    refine g_iconst (v := 0) C dL_would_490 rfl ?_
    cases h
    exact hR 491 _ ⟨.boolean, rfl, rfl⟩ dL_would_491
  · replace h := of_ift h c1101
    refine g_goto 486 C dL_would_441 (by decide) ?_
    refine g_iconst (v := 1) C dL_would_486 rfl ?_
    refine g_goto 491 C dL_would_487 (by decide) ?_
    cases h
    exact hR 491 _ ⟨.boolean, rfl, rfl⟩ dL_would_491
def f_L_would_469 (r0 : Nat) (x3 : Int32) (x11 : Int32) (x12 : Int32) (M : Mem) : Option (Int32 × Mem) := if x11 = (2 : Int32) then (gdd (kd r0 = 6) <| opp (f_X5_edition r0 x3 (0 : Int32) M) fun y1205 M1203 => if y1205 ≤ x12 then (some ((0 : Int32), M1203)) else (some ((1 : Int32), M1203))) else (some ((1 : Int32), M))
set_option maxRecDepth 100000 in
set_option maxHeartbeats 4000000 in
theorem t_L_would_469 {w : Om} {f : Fr} {r : Int32} {M2 : Mem} (C : Cx w f RL cL_would 17 7) (hR : Rt w f cL_would (some .boolean) (some (.int r)) M2)   : ∀ (r0 : Nat) (x3 : Int32) (x11 : Int32) (x12 : Int32) (M : Mem), f_L_would_469 r0 x3 x11 x12 M = some (r, M2) → Go w f 469 [some (rv w r0), none, none, some (.int x3), none, none, none, none, none, none, none, some (.int x11), some (.int x12), none, none, none, none] [] M := by
  intro r0 x3 x11 x12 M h
  unfold f_L_would_469 at h
  refine g_iload C dL_would_469 rfl ?_
  refine g_iconst (v := 2) C dL_would_471 rfl ?_
  refine g_icmp_ne 486 C dL_would_472 (by decide) (fun c1201 => ?_) (fun c1201 => ?_)
  · replace h := of_iff h c1201
    refine g_iconst (v := 1) C dL_would_486 rfl ?_
    refine g_goto 491 C dL_would_487 (by decide) ?_
    cases h
    exact hR 491 _ ⟨.boolean, rfl, rfl⟩ dL_would_491
  · replace h := of_ift h c1201
    refine g_iload C dL_would_475 rfl ?_
    refine g_aload_n C dL_would_477 rfl rfl ?_
    refine g_iload_n C dL_would_478 rfl rfl ?_
    refine g_iconst (v := 0) C dL_would_479 rfl ?_
    obtain ⟨g1202, h⟩ := of_gdd h
    obtain ⟨y1205, M1203, e1204, h⟩ := of_opp h
    refine g_callV (As := [.int x3, .int (0 : Int32)]) C (ct_X5_edition C.wf e1204) g1202 lk_RL_19 mi_X5_edition (by decide) (cs_i cs_0) (by decide) dL_would_480 rfl ?_
    show Go w f 483 [some (rv w r0), none, none, some (.int x3), none, none, none, none, none, none, none, some (.int x11), some (.int x12), none, none, none, none] [.int y1205, .int x12] M1203
    refine g_icmp_ge 490 C dL_would_483 (by decide) (fun c1206 => ?_) (fun c1206 => ?_)
    · replace h := of_ift h c1206
      refine g_iconst (v := 0) C dL_would_490 rfl ?_
      cases h
      exact hR 491 _ ⟨.boolean, rfl, rfl⟩ dL_would_491
    · replace h := of_iff h c1206
      refine g_iconst (v := 1) C dL_would_486 rfl ?_
      refine g_goto 491 C dL_would_487 (by decide) ?_
      cases h
      exact hR 491 _ ⟨.boolean, rfl, rfl⟩ dL_would_491
def f_L_would_419 (r0 : Nat) (x3 : Int32) (x11 : Int32) (x12 : Int32) (x13 : Int32) (M : Mem) : Option (Int32 × Mem) := if x13 = 0 then (if x11 < 0 then (f_L_would_435 x12 M) else (if x11 ≤ (2 : Int32) then (if x12 < 0 then (some ((0 : Int32), M)) else (if x11 = 0 then (gdd (kd r0 = 6) <| opp (f_X5_edition r0 x3 (0 : Int32) M) fun y1009 M1007 => if ((1 : Int32) <<< ((y1009 - (1 : Int32)) &&& 31)) ≤ x12 then (some ((0 : Int32), M1007)) else (f_L_would_469 r0 x3 x11 x12 M1007)) else (f_L_would_469 r0 x3 x11 x12 M))) else (f_L_would_435 x12 M))) else (f_L_would_435 x12 M)
set_option maxRecDepth 100000 in
set_option maxHeartbeats 4000000 in
theorem t_L_would_419 {w : Om} {f : Fr} {r : Int32} {M2 : Mem} (C : Cx w f RL cL_would 17 7) (hR : Rt w f cL_would (some .boolean) (some (.int r)) M2)   : ∀ (r0 : Nat) (x3 : Int32) (x11 : Int32) (x12 : Int32) (x13 : Int32) (M : Mem), f_L_would_419 r0 x3 x11 x12 x13 M = some (r, M2) → Go w f 419 [some (rv w r0), none, none, some (.int x3), none, none, none, none, none, none, none, some (.int x11), some (.int x12), some (.int x13), none, none, none] [] M := by
  intro r0 x3 x11 x12 x13 M h
  unfold f_L_would_419 at h
  refine g_iload C dL_would_419 rfl ?_
  refine g_if_ne 435 C dL_would_421 (by decide) (fun c1001 => ?_) (fun c1001 => ?_)
  · replace h := of_iff h c1001
    refine g_mask (bs := [false, false, false, false, false, false, false, false, false, false, false, false, true, false, false, false, false]) (L2 := [none, none, none, none, none, none, none, none, none, none, none, none, some (.int x12), none, none, none, none]) rfl ?_
    exact t_L_would_435 C hR x12 M h
  · replace h := of_ift h c1001
    refine g_iload C dL_would_424 rfl ?_
    refine g_if_lt 435 C dL_would_426 (by decide) (fun c1002 => ?_) (fun c1002 => ?_)
    · replace h := of_ift h c1002
      refine g_mask (bs := [false, false, false, false, false, false, false, false, false, false, false, false, true, false, false, false, false]) (L2 := [none, none, none, none, none, none, none, none, none, none, none, none, some (.int x12), none, none, none, none]) rfl ?_
      exact t_L_would_435 C hR x12 M h
    · replace h := of_iff h c1002
      refine g_iload C dL_would_429 rfl ?_
      refine g_iconst (v := 2) C dL_would_431 rfl ?_
      refine g_icmp_le 444 C dL_would_432 (by decide) (fun c1003 => ?_) (fun c1003 => ?_)
      · replace h := of_ift h c1003
        refine g_iload C dL_would_444 rfl ?_
        refine g_if_lt 490 C dL_would_446 (by decide) (fun c1004 => ?_) (fun c1004 => ?_)
        · replace h := of_ift h c1004
          refine g_iconst (v := 0) C dL_would_490 rfl ?_
          cases h
          exact hR 491 _ ⟨.boolean, rfl, rfl⟩ dL_would_491
        · replace h := of_iff h c1004
          refine g_iload C dL_would_449 rfl ?_
          refine g_if_ne 469 C dL_would_451 (by decide) (fun c1005 => ?_) (fun c1005 => ?_)
          · replace h := of_iff h c1005
            refine g_mask (bs := [true, false, false, true, false, false, false, false, false, false, false, true, true, false, false, false, false]) (L2 := [some (rv w r0), none, none, some (.int x3), none, none, none, none, none, none, none, some (.int x11), some (.int x12), none, none, none, none]) rfl ?_
            exact t_L_would_469 C hR r0 x3 x11 x12 M h
          · replace h := of_ift h c1005
            refine g_iload C dL_would_454 rfl ?_
            refine g_iconst (v := 1) C dL_would_456 rfl ?_
            refine g_aload_n C dL_would_457 rfl rfl ?_
            refine g_iload_n C dL_would_458 rfl rfl ?_
            refine g_iconst (v := 0) C dL_would_459 rfl ?_
            obtain ⟨g1006, h⟩ := of_gdd h
            obtain ⟨y1009, M1007, e1008, h⟩ := of_opp h
            refine g_callV (As := [.int x3, .int (0 : Int32)]) C (ct_X5_edition C.wf e1008) g1006 lk_RL_19 mi_X5_edition (by decide) (cs_i (cs_i cs_0)) (by decide) dL_would_460 rfl ?_
            show Go w f 463 [some (rv w r0), none, none, some (.int x3), none, none, none, none, none, none, none, some (.int x11), some (.int x12), some (.int x13), none, none, none] [.int y1009, .int (1 : Int32), .int x12] M1007
            refine g_iconst (v := 1) C dL_would_463 rfl ?_
            refine g_isub C dL_would_464 ?_
            refine g_ishl C dL_would_465 ?_
            refine g_icmp_ge 490 C dL_would_466 (by decide) (fun c1010 => ?_) (fun c1010 => ?_)
            · replace h := of_ift h c1010
              refine g_iconst (v := 0) C dL_would_490 rfl ?_
              cases h
              exact hR 491 _ ⟨.boolean, rfl, rfl⟩ dL_would_491
            · replace h := of_iff h c1010
              refine g_mask (bs := [true, false, false, true, false, false, false, false, false, false, false, true, true, false, false, false, false]) (L2 := [some (rv w r0), none, none, some (.int x3), none, none, none, none, none, none, none, some (.int x11), some (.int x12), none, none, none, none]) rfl ?_
              exact t_L_would_469 C hR r0 x3 x11 x12 M1007 h
      · replace h := of_iff h c1003
        refine g_mask (bs := [false, false, false, false, false, false, false, false, false, false, false, false, true, false, false, false, false]) (L2 := [none, none, none, none, none, none, none, none, none, none, none, none, some (.int x12), none, none, none, none]) rfl ?_
        exact t_L_would_435 C hR x12 M h
def f_L_would_383 (r0 : Nat) (x3 : Int32) (x10 : Int32) (x11 : Int32) (x12 : Int32) (x13 : Int32) (x15 : Int32) (xs0 : Int32) (M : Mem) : Option (Int32 × Mem) := if xs0 = 0 then (some ((0 : Int32), M)) else (if x15 = 0 then (if x10 < (120 : Int32) then (some ((0 : Int32), M)) else (if (1880 : Int32) < x10 then (some ((0 : Int32), M)) else (f_L_would_419 r0 x3 x11 x12 x13 M))) else (if x10 = (-1 : Int32) then (f_L_would_419 r0 x3 x11 x12 x13 M) else (some ((0 : Int32), M))))
set_option maxRecDepth 100000 in
set_option maxHeartbeats 4000000 in
theorem t_L_would_383 {w : Om} {f : Fr} {r : Int32} {M2 : Mem} (C : Cx w f RL cL_would 17 7) (hR : Rt w f cL_would (some .boolean) (some (.int r)) M2)   : ∀ (r0 : Nat) (x3 : Int32) (x10 : Int32) (x11 : Int32) (x12 : Int32) (x13 : Int32) (x15 : Int32) (xs0 : Int32) (M : Mem), f_L_would_383 r0 x3 x10 x11 x12 x13 x15 xs0 M = some (r, M2) → Go w f 383 [some (rv w r0), none, none, some (.int x3), none, none, none, none, none, none, some (.int x10), some (.int x11), some (.int x12), some (.int x13), none, some (.int x15), none] [.int xs0] M := by
  intro r0 x3 x10 x11 x12 x13 x15 xs0 M h
  unfold f_L_would_383 at h
  refine g_istore C dL_would_383 (by decide) rfl (L2 := [some (rv w r0), none, none, some (.int x3), none, none, none, none, none, none, some (.int x10), some (.int x11), some (.int x12), some (.int x13), none, some (.int x15), some (.int xs0)]) rfl ?_
  refine g_iload C dL_would_385 rfl ?_
  refine g_if_eq 490 C dL_would_387 (by decide) (fun c901 => ?_) (fun c901 => ?_)
  · replace h := of_ift h c901
    refine g_iconst (v := 0) C dL_would_490 rfl ?_
    cases h
    exact hR 491 _ ⟨.boolean, rfl, rfl⟩ dL_would_491
  · replace h := of_iff h c901
    refine g_iload C dL_would_390 rfl ?_
    refine g_if_eq 404 C dL_would_392 (by decide) (fun c902 => ?_) (fun c902 => ?_)
    · replace h := of_ift h c902
      refine g_iload C dL_would_404 rfl ?_
      refine g_bipush (v := 120) C dL_would_406 rfl ?_
      refine g_icmp_lt 490 C dL_would_408 (by decide) (fun c903 => ?_) (fun c903 => ?_)
      · replace h := of_ift h c903
        refine g_iconst (v := 0) C dL_would_490 rfl ?_
        cases h
        exact hR 491 _ ⟨.boolean, rfl, rfl⟩ dL_would_491
      · replace h := of_iff h c903
        refine g_iload C dL_would_411 rfl ?_
        refine g_sipush (v := 1880) C dL_would_413 rfl ?_
        refine g_icmp_gt 490 C dL_would_416 (by decide) (fun c904 => ?_) (fun c904 => ?_)
        · replace h := of_ift h c904
          refine g_iconst (v := 0) C dL_would_490 rfl ?_
          cases h
          exact hR 491 _ ⟨.boolean, rfl, rfl⟩ dL_would_491
        · replace h := of_iff h c904
          refine g_mask (bs := [true, false, false, true, false, false, false, false, false, false, false, true, true, true, false, false, false]) (L2 := [some (rv w r0), none, none, some (.int x3), none, none, none, none, none, none, none, some (.int x11), some (.int x12), some (.int x13), none, none, none]) rfl ?_
          exact t_L_would_419 C hR r0 x3 x11 x12 x13 M h
    · replace h := of_iff h c902
      refine g_iload C dL_would_395 rfl ?_
      refine g_iconst (v := -1) C dL_would_397 rfl ?_
      refine g_icmp_ne 490 C dL_would_398 (by decide) (fun c905 => ?_) (fun c905 => ?_)
      · replace h := of_iff h c905
        refine g_iconst (v := 0) C dL_would_490 rfl ?_
        cases h
        exact hR 491 _ ⟨.boolean, rfl, rfl⟩ dL_would_491
      · replace h := of_ift h c905
        refine g_goto 419 C dL_would_401 (by decide) ?_
        refine g_mask (bs := [true, false, false, true, false, false, false, false, false, false, false, true, true, true, false, false, false]) (L2 := [some (rv w r0), none, none, some (.int x3), none, none, none, none, none, none, none, some (.int x11), some (.int x12), some (.int x13), none, none, none]) rfl ?_
        exact t_L_would_419 C hR r0 x3 x11 x12 x13 M h
def f_L_would_382 (r0 : Nat) (x3 : Int32) (x10 : Int32) (x11 : Int32) (x12 : Int32) (x13 : Int32) (x15 : Int32) (M : Mem) : Option (Int32 × Mem) := f_L_would_383 r0 x3 x10 x11 x12 x13 x15 (0 : Int32) M
set_option maxRecDepth 100000 in
set_option maxHeartbeats 4000000 in
theorem t_L_would_382 {w : Om} {f : Fr} {r : Int32} {M2 : Mem} (C : Cx w f RL cL_would 17 7) (hR : Rt w f cL_would (some .boolean) (some (.int r)) M2)   : ∀ (r0 : Nat) (x3 : Int32) (x10 : Int32) (x11 : Int32) (x12 : Int32) (x13 : Int32) (x15 : Int32) (M : Mem), f_L_would_382 r0 x3 x10 x11 x12 x13 x15 M = some (r, M2) → Go w f 382 [some (rv w r0), none, none, some (.int x3), none, none, none, none, none, none, some (.int x10), some (.int x11), some (.int x12), some (.int x13), none, some (.int x15), none] [] M := by
  intro r0 x3 x10 x11 x12 x13 x15 M h
  unfold f_L_would_382 at h
  refine g_iconst (v := 0) C dL_would_382 rfl ?_
  exact t_L_would_383 C hR r0 x3 x10 x11 x12 x13 x15 (0 : Int32) M h
def f_L_would_378 (r0 : Nat) (x3 : Int32) (x10 : Int32) (x11 : Int32) (x12 : Int32) (x13 : Int32) (x15 : Int32) (M : Mem) : Option (Int32 × Mem) := f_L_would_383 r0 x3 x10 x11 x12 x13 x15 (1 : Int32) M
set_option maxRecDepth 100000 in
set_option maxHeartbeats 4000000 in
theorem t_L_would_378 {w : Om} {f : Fr} {r : Int32} {M2 : Mem} (C : Cx w f RL cL_would 17 7) (hR : Rt w f cL_would (some .boolean) (some (.int r)) M2)   : ∀ (r0 : Nat) (x3 : Int32) (x10 : Int32) (x11 : Int32) (x12 : Int32) (x13 : Int32) (x15 : Int32) (M : Mem), f_L_would_378 r0 x3 x10 x11 x12 x13 x15 M = some (r, M2) → Go w f 378 [some (rv w r0), none, none, some (.int x3), none, none, none, none, none, none, some (.int x10), some (.int x11), some (.int x12), some (.int x13), none, some (.int x15), none] [] M := by
  intro r0 x3 x10 x11 x12 x13 x15 M h
  unfold f_L_would_378 at h
  refine g_iconst (v := 1) C dL_would_378 rfl ?_
  refine g_goto 383 C dL_would_379 (by decide) ?_
  exact t_L_would_383 C hR r0 x3 x10 x11 x12 x13 x15 (1 : Int32) M h
def f_L_would_329 (r0 : Nat) (x3 : Int32) (x6 : Int32) (x10 : Int32) (x11 : Int32) (x12 : Int32) (x13 : Int32) (x15 : Int32) (M : Mem) : Option (Int32 × Mem) := if x13 = 0 then (if x6 = (-4 : Int32) then (f_L_would_378 r0 x3 x10 x11 x12 x13 x15 M) else (if x6 < 0 then (f_L_would_382 r0 x3 x10 x11 x12 x13 x15 M) else (gdd (kd r0 = 6) <| opp (f_X5_edition r0 x3 (0 : Int32) M) fun y1707 M1705 => if (y1707 - (1 : Int32)) ≤ x6 then (f_L_would_382 r0 x3 x10 x11 x12 x13 x15 M1705) else (opp (f_X5_whyNot r0 x3 x6 M1705) fun y1711 M1709 => if y1711 = 0 then (f_L_would_378 r0 x3 x10 x11 x12 x13 x15 M1709) else (f_L_would_382 r0 x3 x10 x11 x12 x13 x15 M1709))))) else (if x6 = (-1 : Int32) then (f_L_would_378 r0 x3 x10 x11 x12 x13 x15 M) else (f_L_would_382 r0 x3 x10 x11 x12 x13 x15 M))
set_option maxRecDepth 100000 in
set_option maxHeartbeats 4000000 in
theorem t_L_would_329 {w : Om} {f : Fr} {r : Int32} {M2 : Mem} (C : Cx w f RL cL_would 17 7) (hR : Rt w f cL_would (some .boolean) (some (.int r)) M2)   : ∀ (r0 : Nat) (x3 : Int32) (x6 : Int32) (x10 : Int32) (x11 : Int32) (x12 : Int32) (x13 : Int32) (x15 : Int32) (M : Mem), f_L_would_329 r0 x3 x6 x10 x11 x12 x13 x15 M = some (r, M2) → Go w f 329 [some (rv w r0), none, none, some (.int x3), none, none, some (.int x6), none, none, none, some (.int x10), some (.int x11), some (.int x12), some (.int x13), none, some (.int x15), none] [] M := by
  intro r0 x3 x6 x10 x11 x12 x13 x15 M h
  unfold f_L_would_329 at h
  refine g_iload C dL_would_329 rfl ?_
  refine g_if_eq 343 C dL_would_331 (by decide) (fun c1701 => ?_) (fun c1701 => ?_)
  · replace h := of_ift h c1701
    refine g_iload C dL_would_343 rfl ?_
    refine g_bipush (v := -4) C dL_would_345 rfl ?_
    refine g_icmp_eq 378 C dL_would_347 (by decide) (fun c1702 => ?_) (fun c1702 => ?_)
    · replace h := of_ift h c1702
      refine g_mask (bs := [true, false, false, true, false, false, false, false, false, false, true, true, true, true, false, true, false]) (L2 := [some (rv w r0), none, none, some (.int x3), none, none, none, none, none, none, some (.int x10), some (.int x11), some (.int x12), some (.int x13), none, some (.int x15), none]) rfl ?_
      exact t_L_would_378 C hR r0 x3 x10 x11 x12 x13 x15 M h
    · replace h := of_iff h c1702
      refine g_iload C dL_would_350 rfl ?_
      refine g_if_lt 382 C dL_would_352 (by decide) (fun c1703 => ?_) (fun c1703 => ?_)
      · replace h := of_ift h c1703
        refine g_mask (bs := [true, false, false, true, false, false, false, false, false, false, true, true, true, true, false, true, false]) (L2 := [some (rv w r0), none, none, some (.int x3), none, none, none, none, none, none, some (.int x10), some (.int x11), some (.int x12), some (.int x13), none, some (.int x15), none]) rfl ?_
        exact t_L_would_382 C hR r0 x3 x10 x11 x12 x13 x15 M h
      · replace h := of_iff h c1703
        refine g_iload C dL_would_355 rfl ?_
        refine g_aload_n C dL_would_357 rfl rfl ?_
        refine g_iload_n C dL_would_358 rfl rfl ?_
        refine g_iconst (v := 0) C dL_would_359 rfl ?_
        obtain ⟨g1704, h⟩ := of_gdd h
        obtain ⟨y1707, M1705, e1706, h⟩ := of_opp h
        refine g_callV (As := [.int x3, .int (0 : Int32)]) C (ct_X5_edition C.wf e1706) g1704 lk_RL_19 mi_X5_edition (by decide) (cs_i cs_0) (by decide) dL_would_360 rfl ?_
        show Go w f 363 [some (rv w r0), none, none, some (.int x3), none, none, some (.int x6), none, none, none, some (.int x10), some (.int x11), some (.int x12), some (.int x13), none, some (.int x15), none] [.int y1707, .int x6] M1705
        refine g_iconst (v := 1) C dL_would_363 rfl ?_
        refine g_isub C dL_would_364 ?_
        refine g_icmp_ge 382 C dL_would_365 (by decide) (fun c1708 => ?_) (fun c1708 => ?_)
        · replace h := of_ift h c1708
          refine g_mask (bs := [true, false, false, true, false, false, false, false, false, false, true, true, true, true, false, true, false]) (L2 := [some (rv w r0), none, none, some (.int x3), none, none, none, none, none, none, some (.int x10), some (.int x11), some (.int x12), some (.int x13), none, some (.int x15), none]) rfl ?_
          exact t_L_would_382 C hR r0 x3 x10 x11 x12 x13 x15 M1705 h
        · replace h := of_iff h c1708
          refine g_aload_n C dL_would_368 rfl rfl ?_
          refine g_iload_n C dL_would_369 rfl rfl ?_
          refine g_iload C dL_would_370 rfl ?_
          obtain ⟨y1711, M1709, e1710, h⟩ := of_opp h
          refine g_callV (As := [.int x3, .int x6]) C (ct_X5_whyNot C.wf e1710) g1704 lk_RL_59 mi_X5_whyNot (by decide) cs_0 (by decide) dL_would_372 rfl ?_
          show Go w f 375 [some (rv w r0), none, none, some (.int x3), none, none, some (.int x6), none, none, none, some (.int x10), some (.int x11), some (.int x12), some (.int x13), none, some (.int x15), none] [.int y1711] M1709
          refine g_if_ne 382 C dL_would_375 (by decide) (fun c1712 => ?_) (fun c1712 => ?_)
          · replace h := of_iff h c1712
            refine g_mask (bs := [true, false, false, true, false, false, false, false, false, false, true, true, true, true, false, true, false]) (L2 := [some (rv w r0), none, none, some (.int x3), none, none, none, none, none, none, some (.int x10), some (.int x11), some (.int x12), some (.int x13), none, some (.int x15), none]) rfl ?_
            exact t_L_would_382 C hR r0 x3 x10 x11 x12 x13 x15 M1709 h
          · replace h := of_ift h c1712
            refine g_mask (bs := [true, false, false, true, false, false, false, false, false, false, true, true, true, true, false, true, false]) (L2 := [some (rv w r0), none, none, some (.int x3), none, none, none, none, none, none, some (.int x10), some (.int x11), some (.int x12), some (.int x13), none, some (.int x15), none]) rfl ?_
            exact t_L_would_378 C hR r0 x3 x10 x11 x12 x13 x15 M1709 h
  · replace h := of_iff h c1701
    refine g_iload C dL_would_334 rfl ?_
    refine g_iconst (v := -1) C dL_would_336 rfl ?_
    refine g_icmp_ne 382 C dL_would_337 (by decide) (fun c1713 => ?_) (fun c1713 => ?_)
    · replace h := of_iff h c1713
      refine g_mask (bs := [true, false, false, true, false, false, false, false, false, false, true, true, true, true, false, true, false]) (L2 := [some (rv w r0), none, none, some (.int x3), none, none, none, none, none, none, some (.int x10), some (.int x11), some (.int x12), some (.int x13), none, some (.int x15), none]) rfl ?_
      exact t_L_would_382 C hR r0 x3 x10 x11 x12 x13 x15 M h
    · replace h := of_ift h c1713
      refine g_goto 378 C dL_would_340 (by decide) ?_
      refine g_mask (bs := [true, false, false, true, false, false, false, false, false, false, true, true, true, true, false, true, false]) (L2 := [some (rv w r0), none, none, some (.int x3), none, none, none, none, none, none, some (.int x10), some (.int x11), some (.int x12), some (.int x13), none, some (.int x15), none]) rfl ?_
      exact t_L_would_378 C hR r0 x3 x10 x11 x12 x13 x15 M h
def f_L_would_315 (r0 : Nat) (x3 : Int32) (x4 : Int32) (x6 : Int32) (x10 : Int32) (x11 : Int32) (x12 : Int32) (x13 : Int32) (x15 : Int32) (M : Mem) : Option (Int32 × Mem) := gdd (kd r0 = 6) <| opp (f_X5_gap r0 x3 x4 (3 : Int32) M) fun y1604 M1602 => if (1000 : Int32) ≤ y1604 then (f_L_would_382 r0 x3 x10 x11 x12 x13 x15 M1602) else (f_L_would_329 r0 x3 x6 x10 x11 x12 x13 x15 M1602)
set_option maxRecDepth 100000 in
set_option maxHeartbeats 4000000 in
theorem t_L_would_315 {w : Om} {f : Fr} {r : Int32} {M2 : Mem} (C : Cx w f RL cL_would 17 7) (hR : Rt w f cL_would (some .boolean) (some (.int r)) M2)   : ∀ (r0 : Nat) (x3 : Int32) (x4 : Int32) (x6 : Int32) (x10 : Int32) (x11 : Int32) (x12 : Int32) (x13 : Int32) (x15 : Int32) (M : Mem), f_L_would_315 r0 x3 x4 x6 x10 x11 x12 x13 x15 M = some (r, M2) → Go w f 315 [some (rv w r0), none, none, some (.int x3), some (.int x4), none, some (.int x6), none, none, none, some (.int x10), some (.int x11), some (.int x12), some (.int x13), none, some (.int x15), none] [] M := by
  intro r0 x3 x4 x6 x10 x11 x12 x13 x15 M h
  unfold f_L_would_315 at h
  refine g_aload_n C dL_would_315 rfl rfl ?_
  refine g_iload_n C dL_would_316 rfl rfl ?_
  refine g_iload C dL_would_317 rfl ?_
  refine g_iconst (v := 3) C dL_would_319 rfl ?_
  obtain ⟨g1601, h⟩ := of_gdd h
  obtain ⟨y1604, M1602, e1603, h⟩ := of_opp h
  refine g_callV (As := [.int x3, .int x4, .int (3 : Int32)]) C (ct_X5_gap C.wf e1603) g1601 lk_RL_42 mi_X5_gap (by decide) cs_0 (by decide) dL_would_320 rfl ?_
  show Go w f 323 [some (rv w r0), none, none, some (.int x3), some (.int x4), none, some (.int x6), none, none, none, some (.int x10), some (.int x11), some (.int x12), some (.int x13), none, some (.int x15), none] [.int y1604] M1602
  refine g_sipush (v := 1000) C dL_would_323 rfl ?_
  refine g_icmp_ge 382 C dL_would_326 (by decide) (fun c1605 => ?_) (fun c1605 => ?_)
  · replace h := of_ift h c1605
    refine g_mask (bs := [true, false, false, true, false, false, false, false, false, false, true, true, true, true, false, true, false]) (L2 := [some (rv w r0), none, none, some (.int x3), none, none, none, none, none, none, some (.int x10), some (.int x11), some (.int x12), some (.int x13), none, some (.int x15), none]) rfl ?_
    exact t_L_would_382 C hR r0 x3 x10 x11 x12 x13 x15 M1602 h
  · replace h := of_iff h c1605
    refine g_mask (bs := [true, false, false, true, false, false, true, false, false, false, true, true, true, true, false, true, false]) (L2 := [some (rv w r0), none, none, some (.int x3), none, none, some (.int x6), none, none, none, some (.int x10), some (.int x11), some (.int x12), some (.int x13), none, some (.int x15), none]) rfl ?_
    exact t_L_would_329 C hR r0 x3 x6 x10 x11 x12 x13 x15 M1602 h
def f_L_would_304 (r0 : Nat) (x3 : Int32) (x4 : Int32) (x5 : Int32) (x6 : Int32) (x10 : Int32) (x11 : Int32) (x12 : Int32) (x13 : Int32) (x15 : Int32) (M : Mem) : Option (Int32 × Mem) := if x5 = 0 then (f_L_would_315 r0 x3 x4 x6 x10 x11 x12 x13 x15 M) else (if x5 = (3 : Int32) then (f_L_would_315 r0 x3 x4 x6 x10 x11 x12 x13 x15 M) else (f_L_would_329 r0 x3 x6 x10 x11 x12 x13 x15 M))
set_option maxRecDepth 100000 in
set_option maxHeartbeats 4000000 in
theorem t_L_would_304 {w : Om} {f : Fr} {r : Int32} {M2 : Mem} (C : Cx w f RL cL_would 17 7) (hR : Rt w f cL_would (some .boolean) (some (.int r)) M2)   : ∀ (r0 : Nat) (x3 : Int32) (x4 : Int32) (x5 : Int32) (x6 : Int32) (x10 : Int32) (x11 : Int32) (x12 : Int32) (x13 : Int32) (x15 : Int32) (M : Mem), f_L_would_304 r0 x3 x4 x5 x6 x10 x11 x12 x13 x15 M = some (r, M2) → Go w f 304 [some (rv w r0), none, none, some (.int x3), some (.int x4), some (.int x5), some (.int x6), none, none, none, some (.int x10), some (.int x11), some (.int x12), some (.int x13), none, some (.int x15), none] [] M := by
  intro r0 x3 x4 x5 x6 x10 x11 x12 x13 x15 M h
  unfold f_L_would_304 at h
  refine g_iload C dL_would_304 rfl ?_
  refine g_if_eq 315 C dL_would_306 (by decide) (fun c1501 => ?_) (fun c1501 => ?_)
  · replace h := of_ift h c1501
    refine g_mask (bs := [true, false, false, true, true, false, true, false, false, false, true, true, true, true, false, true, false]) (L2 := [some (rv w r0), none, none, some (.int x3), some (.int x4), none, some (.int x6), none, none, none, some (.int x10), some (.int x11), some (.int x12), some (.int x13), none, some (.int x15), none]) rfl ?_
    exact t_L_would_315 C hR r0 x3 x4 x6 x10 x11 x12 x13 x15 M h
  · replace h := of_iff h c1501
    refine g_iload C dL_would_309 rfl ?_
    refine g_iconst (v := 3) C dL_would_311 rfl ?_
    refine g_icmp_ne 329 C dL_would_312 (by decide) (fun c1502 => ?_) (fun c1502 => ?_)
    · replace h := of_iff h c1502
      refine g_mask (bs := [true, false, false, true, false, false, true, false, false, false, true, true, true, true, false, true, false]) (L2 := [some (rv w r0), none, none, some (.int x3), none, none, some (.int x6), none, none, none, some (.int x10), some (.int x11), some (.int x12), some (.int x13), none, some (.int x15), none]) rfl ?_
      exact t_L_would_329 C hR r0 x3 x6 x10 x11 x12 x13 x15 M h
    · replace h := of_ift h c1502
      refine g_mask (bs := [true, false, false, true, true, false, true, false, false, false, true, true, true, true, false, true, false]) (L2 := [some (rv w r0), none, none, some (.int x3), some (.int x4), none, some (.int x6), none, none, none, some (.int x10), some (.int x11), some (.int x12), some (.int x13), none, some (.int x15), none]) rfl ?_
      exact t_L_would_315 C hR r0 x3 x4 x6 x10 x11 x12 x13 x15 M h
def f_L_would_281 (r0 : Nat) (x3 : Int32) (x4 : Int32) (x5 : Int32) (x6 : Int32) (x10 : Int32) (x11 : Int32) (x12 : Int32) (x13 : Int32) (x15 : Int32) (xs0 : Int32) (xs1 : Int32) (M : Mem) : Option (Int32 × Mem) := if xs0 = xs1 then (if x5 = (2 : Int32) then (gdd (kd r0 = 6) <| opp (f_X5_gap r0 x3 x4 (3 : Int32) M) fun y1406 M1404 => if y1406 < (1000 : Int32) then (f_L_would_382 r0 x3 x10 x11 x12 x13 x15 M1404) else (f_L_would_304 r0 x3 x4 x5 x6 x10 x11 x12 x13 x15 M1404)) else (f_L_would_304 r0 x3 x4 x5 x6 x10 x11 x12 x13 x15 M)) else (f_L_would_382 r0 x3 x10 x11 x12 x13 x15 M)
set_option maxRecDepth 100000 in
set_option maxHeartbeats 4000000 in
theorem t_L_would_281 {w : Om} {f : Fr} {r : Int32} {M2 : Mem} (C : Cx w f RL cL_would 17 7) (hR : Rt w f cL_would (some .boolean) (some (.int r)) M2)   : ∀ (r0 : Nat) (x3 : Int32) (x4 : Int32) (x5 : Int32) (x6 : Int32) (x10 : Int32) (x11 : Int32) (x12 : Int32) (x13 : Int32) (x15 : Int32) (xs0 : Int32) (xs1 : Int32) (M : Mem), f_L_would_281 r0 x3 x4 x5 x6 x10 x11 x12 x13 x15 xs0 xs1 M = some (r, M2) → Go w f 281 [some (rv w r0), none, none, some (.int x3), some (.int x4), some (.int x5), some (.int x6), none, none, none, some (.int x10), some (.int x11), some (.int x12), some (.int x13), none, some (.int x15), none] [.int xs1, .int xs0] M := by
  intro r0 x3 x4 x5 x6 x10 x11 x12 x13 x15 xs0 xs1 M h
  unfold f_L_would_281 at h
  refine g_icmp_ne 382 C dL_would_281 (by decide) (fun c1401 => ?_) (fun c1401 => ?_)
  · replace h := of_iff h c1401
    refine g_mask (bs := [true, false, false, true, false, false, false, false, false, false, true, true, true, true, false, true, false]) (L2 := [some (rv w r0), none, none, some (.int x3), none, none, none, none, none, none, some (.int x10), some (.int x11), some (.int x12), some (.int x13), none, some (.int x15), none]) rfl ?_
    exact t_L_would_382 C hR r0 x3 x10 x11 x12 x13 x15 M h
  · replace h := of_ift h c1401
    refine g_iload C dL_would_284 rfl ?_
    refine g_iconst (v := 2) C dL_would_286 rfl ?_
    refine g_icmp_ne 304 C dL_would_287 (by decide) (fun c1402 => ?_) (fun c1402 => ?_)
    · replace h := of_iff h c1402
      exact t_L_would_304 C hR r0 x3 x4 x5 x6 x10 x11 x12 x13 x15 M h
    · replace h := of_ift h c1402
      refine g_aload_n C dL_would_290 rfl rfl ?_
      refine g_iload_n C dL_would_291 rfl rfl ?_
      refine g_iload C dL_would_292 rfl ?_
      refine g_iconst (v := 3) C dL_would_294 rfl ?_
      obtain ⟨g1403, h⟩ := of_gdd h
      obtain ⟨y1406, M1404, e1405, h⟩ := of_opp h
      refine g_callV (As := [.int x3, .int x4, .int (3 : Int32)]) C (ct_X5_gap C.wf e1405) g1403 lk_RL_42 mi_X5_gap (by decide) cs_0 (by decide) dL_would_295 rfl ?_
      show Go w f 298 [some (rv w r0), none, none, some (.int x3), some (.int x4), some (.int x5), some (.int x6), none, none, none, some (.int x10), some (.int x11), some (.int x12), some (.int x13), none, some (.int x15), none] [.int y1406] M1404
      refine g_sipush (v := 1000) C dL_would_298 rfl ?_
      refine g_icmp_lt 382 C dL_would_301 (by decide) (fun c1407 => ?_) (fun c1407 => ?_)
      · replace h := of_ift h c1407
        refine g_mask (bs := [true, false, false, true, false, false, false, false, false, false, true, true, true, true, false, true, false]) (L2 := [some (rv w r0), none, none, some (.int x3), none, none, none, none, none, none, some (.int x10), some (.int x11), some (.int x12), some (.int x13), none, some (.int x15), none]) rfl ?_
        exact t_L_would_382 C hR r0 x3 x10 x11 x12 x13 x15 M1404 h
      · replace h := of_iff h c1407
        exact t_L_would_304 C hR r0 x3 x4 x5 x6 x10 x11 x12 x13 x15 M1404 h
def f_L_would_265 (r0 : Nat) (x3 : Int32) (x4 : Int32) (x5 : Int32) (x6 : Int32) (x10 : Int32) (x11 : Int32) (x12 : Int32) (x13 : Int32) (x15 : Int32) (xs0 : Int32) (M : Mem) : Option (Int32 × Mem) := gdd (kd r0 = 6) <| opp (f_X5_edition r0 x3 (7 : Int32) M) fun y1304 M1302 => if y1304 = (1 : Int32) then (f_L_would_281 r0 x3 x4 x5 x6 x10 x11 x12 x13 x15 xs0 (1 : Int32) M1302) else (f_L_would_281 r0 x3 x4 x5 x6 x10 x11 x12 x13 x15 xs0 (0 : Int32) M1302)
set_option maxRecDepth 100000 in
set_option maxHeartbeats 4000000 in
theorem t_L_would_265 {w : Om} {f : Fr} {r : Int32} {M2 : Mem} (C : Cx w f RL cL_would 17 7) (hR : Rt w f cL_would (some .boolean) (some (.int r)) M2)   : ∀ (r0 : Nat) (x3 : Int32) (x4 : Int32) (x5 : Int32) (x6 : Int32) (x10 : Int32) (x11 : Int32) (x12 : Int32) (x13 : Int32) (x15 : Int32) (xs0 : Int32) (M : Mem), f_L_would_265 r0 x3 x4 x5 x6 x10 x11 x12 x13 x15 xs0 M = some (r, M2) → Go w f 265 [some (rv w r0), none, none, some (.int x3), some (.int x4), some (.int x5), some (.int x6), none, none, none, some (.int x10), some (.int x11), some (.int x12), some (.int x13), none, some (.int x15), none] [.int xs0] M := by
  intro r0 x3 x4 x5 x6 x10 x11 x12 x13 x15 xs0 M h
  unfold f_L_would_265 at h
  refine g_aload_n C dL_would_265 rfl rfl ?_
  refine g_iload_n C dL_would_266 rfl rfl ?_
  refine g_bipush (v := 7) C dL_would_267 rfl ?_
  obtain ⟨g1301, h⟩ := of_gdd h
  obtain ⟨y1304, M1302, e1303, h⟩ := of_opp h
  refine g_callV (As := [.int x3, .int (7 : Int32)]) C (ct_X5_edition C.wf e1303) g1301 lk_RL_19 mi_X5_edition (by decide) (cs_i cs_0) (by decide) dL_would_269 rfl ?_
  show Go w f 272 [some (rv w r0), none, none, some (.int x3), some (.int x4), some (.int x5), some (.int x6), none, none, none, some (.int x10), some (.int x11), some (.int x12), some (.int x13), none, some (.int x15), none] [.int y1304, .int xs0] M1302
  refine g_iconst (v := 1) C dL_would_272 rfl ?_
  refine g_icmp_ne 280 C dL_would_273 (by decide) (fun c1305 => ?_) (fun c1305 => ?_)
  · replace h := of_iff h c1305
    refine g_iconst (v := 0) C dL_would_280 rfl ?_
    exact t_L_would_281 C hR r0 x3 x4 x5 x6 x10 x11 x12 x13 x15 xs0 (0 : Int32) M1302 h
  · replace h := of_ift h c1305
    refine g_iconst (v := 1) C dL_would_276 rfl ?_
    refine g_goto 281 C dL_would_277 (by decide) ?_
    exact t_L_would_281 C hR r0 x3 x4 x5 x6 x10 x11 x12 x13 x15 xs0 (1 : Int32) M1302 h
def f_L_would_215 (r0 : Nat) (x3 : Int32) (x4 : Int32) (x5 : Int32) (x6 : Int32) (x10 : Int32) (x11 : Int32) (x12 : Int32) (x13 : Int32) (x14 : Int32) (xs0 : Int32) (M : Mem) : Option (Int32 × Mem) := if x14 = 0 then (if x5 < 0 then (f_L_would_382 r0 x3 x10 x11 x12 x13 xs0 M) else (if (3 : Int32) < x5 then (f_L_would_382 r0 x3 x10 x11 x12 x13 xs0 M) else (if x5 = (1 : Int32) then (f_L_would_265 r0 x3 x4 x5 x6 x10 x11 x12 x13 xs0 (1 : Int32) M) else (f_L_would_265 r0 x3 x4 x5 x6 x10 x11 x12 x13 xs0 (0 : Int32) M)))) else (if x5 = (-1 : Int32) then (gdd (kd r0 = 6) <| opp (f_X5_gap r0 x3 x4 (0 : Int32) M) fun y709 M707 => if y709 = (-1 : Int32) then (f_L_would_329 r0 x3 x6 x10 x11 x12 x13 xs0 M707) else (f_L_would_382 r0 x3 x10 x11 x12 x13 xs0 M707)) else (f_L_would_382 r0 x3 x10 x11 x12 x13 xs0 M))
set_option maxRecDepth 100000 in
set_option maxHeartbeats 4000000 in
theorem t_L_would_215 {w : Om} {f : Fr} {r : Int32} {M2 : Mem} (C : Cx w f RL cL_would 17 7) (hR : Rt w f cL_would (some .boolean) (some (.int r)) M2)   : ∀ (r0 : Nat) (x3 : Int32) (x4 : Int32) (x5 : Int32) (x6 : Int32) (x10 : Int32) (x11 : Int32) (x12 : Int32) (x13 : Int32) (x14 : Int32) (xs0 : Int32) (M : Mem), f_L_would_215 r0 x3 x4 x5 x6 x10 x11 x12 x13 x14 xs0 M = some (r, M2) → Go w f 215 [some (rv w r0), none, none, some (.int x3), some (.int x4), some (.int x5), some (.int x6), none, none, none, some (.int x10), some (.int x11), some (.int x12), some (.int x13), some (.int x14), none, none] [.int xs0] M := by
  intro r0 x3 x4 x5 x6 x10 x11 x12 x13 x14 xs0 M h
  unfold f_L_would_215 at h
  refine g_istore C dL_would_215 (by decide) rfl (L2 := [some (rv w r0), none, none, some (.int x3), some (.int x4), some (.int x5), some (.int x6), none, none, none, some (.int x10), some (.int x11), some (.int x12), some (.int x13), some (.int x14), some (.int xs0), none]) rfl ?_
  refine g_iload C dL_would_217 rfl ?_
  refine g_if_eq 243 C dL_would_219 (by decide) (fun c701 => ?_) (fun c701 => ?_)
  · replace h := of_ift h c701
    refine g_iload C dL_would_243 rfl ?_
    refine g_if_lt 382 C dL_would_245 (by decide) (fun c702 => ?_) (fun c702 => ?_)
    · replace h := of_ift h c702
      refine g_mask (bs := [true, false, false, true, false, false, false, false, false, false, true, true, true, true, false, true, false]) (L2 := [some (rv w r0), none, none, some (.int x3), none, none, none, none, none, none, some (.int x10), some (.int x11), some (.int x12), some (.int x13), none, some (.int xs0), none]) rfl ?_
      exact t_L_would_382 C hR r0 x3 x10 x11 x12 x13 xs0 M h
    · replace h := of_iff h c702
      refine g_iload C dL_would_248 rfl ?_
      refine g_iconst (v := 3) C dL_would_250 rfl ?_
      refine g_icmp_gt 382 C dL_would_251 (by decide) (fun c703 => ?_) (fun c703 => ?_)
      · replace h := of_ift h c703
        refine g_mask (bs := [true, false, false, true, false, false, false, false, false, false, true, true, true, true, false, true, false]) (L2 := [some (rv w r0), none, none, some (.int x3), none, none, none, none, none, none, some (.int x10), some (.int x11), some (.int x12), some (.int x13), none, some (.int xs0), none]) rfl ?_
        exact t_L_would_382 C hR r0 x3 x10 x11 x12 x13 xs0 M h
      · replace h := of_iff h c703
        refine g_iload C dL_would_254 rfl ?_
        refine g_iconst (v := 1) C dL_would_256 rfl ?_
        refine g_icmp_ne 264 C dL_would_257 (by decide) (fun c704 => ?_) (fun c704 => ?_)
        · replace h := of_iff h c704
          refine g_iconst (v := 0) C dL_would_264 rfl ?_
          refine g_mask (bs := [true, false, false, true, true, true, true, false, false, false, true, true, true, true, false, true, false]) (L2 := [some (rv w r0), none, none, some (.int x3), some (.int x4), some (.int x5), some (.int x6), none, none, none, some (.int x10), some (.int x11), some (.int x12), some (.int x13), none, some (.int xs0), none]) rfl ?_
          exact t_L_would_265 C hR r0 x3 x4 x5 x6 x10 x11 x12 x13 xs0 (0 : Int32) M h
        · replace h := of_ift h c704
          refine g_iconst (v := 1) C dL_would_260 rfl ?_
          refine g_goto 265 C dL_would_261 (by decide) ?_
          refine g_mask (bs := [true, false, false, true, true, true, true, false, false, false, true, true, true, true, false, true, false]) (L2 := [some (rv w r0), none, none, some (.int x3), some (.int x4), some (.int x5), some (.int x6), none, none, none, some (.int x10), some (.int x11), some (.int x12), some (.int x13), none, some (.int xs0), none]) rfl ?_
          exact t_L_would_265 C hR r0 x3 x4 x5 x6 x10 x11 x12 x13 xs0 (1 : Int32) M h
  · replace h := of_iff h c701
    refine g_iload C dL_would_222 rfl ?_
    refine g_iconst (v := -1) C dL_would_224 rfl ?_
    refine g_icmp_ne 382 C dL_would_225 (by decide) (fun c705 => ?_) (fun c705 => ?_)
    · replace h := of_iff h c705
      refine g_mask (bs := [true, false, false, true, false, false, false, false, false, false, true, true, true, true, false, true, false]) (L2 := [some (rv w r0), none, none, some (.int x3), none, none, none, none, none, none, some (.int x10), some (.int x11), some (.int x12), some (.int x13), none, some (.int xs0), none]) rfl ?_
      exact t_L_would_382 C hR r0 x3 x10 x11 x12 x13 xs0 M h
    · replace h := of_ift h c705
      refine g_aload_n C dL_would_228 rfl rfl ?_
      refine g_iload_n C dL_would_229 rfl rfl ?_
      refine g_iload C dL_would_230 rfl ?_
      refine g_iconst (v := 0) C dL_would_232 rfl ?_
      obtain ⟨g706, h⟩ := of_gdd h
      obtain ⟨y709, M707, e708, h⟩ := of_opp h
      refine g_callV (As := [.int x3, .int x4, .int (0 : Int32)]) C (ct_X5_gap C.wf e708) g706 lk_RL_42 mi_X5_gap (by decide) cs_0 (by decide) dL_would_233 rfl ?_
      show Go w f 236 [some (rv w r0), none, none, some (.int x3), some (.int x4), some (.int x5), some (.int x6), none, none, none, some (.int x10), some (.int x11), some (.int x12), some (.int x13), some (.int x14), some (.int xs0), none] [.int y709] M707
      refine g_iconst (v := -1) C dL_would_236 rfl ?_
      refine g_icmp_ne 382 C dL_would_237 (by decide) (fun c710 => ?_) (fun c710 => ?_)
      · replace h := of_iff h c710
        refine g_mask (bs := [true, false, false, true, false, false, false, false, false, false, true, true, true, true, false, true, false]) (L2 := [some (rv w r0), none, none, some (.int x3), none, none, none, none, none, none, some (.int x10), some (.int x11), some (.int x12), some (.int x13), none, some (.int xs0), none]) rfl ?_
        exact t_L_would_382 C hR r0 x3 x10 x11 x12 x13 xs0 M707 h
      · replace h := of_ift h c710
        refine g_goto 329 C dL_would_240 (by decide) ?_
        refine g_mask (bs := [true, false, false, true, false, false, true, false, false, false, true, true, true, true, false, true, false]) (L2 := [some (rv w r0), none, none, some (.int x3), none, none, some (.int x6), none, none, none, some (.int x10), some (.int x11), some (.int x12), some (.int x13), none, some (.int xs0), none]) rfl ?_
        exact t_L_would_329 C hR r0 x3 x6 x10 x11 x12 x13 xs0 M707 h
def f_L_would_210 (r0 : Nat) (x3 : Int32) (x4 : Int32) (x5 : Int32) (x6 : Int32) (x10 : Int32) (x11 : Int32) (x12 : Int32) (x13 : Int32) (x14 : Int32) (M : Mem) : Option (Int32 × Mem) := f_L_would_215 r0 x3 x4 x5 x6 x10 x11 x12 x13 x14 (1 : Int32) M
set_option maxRecDepth 100000 in
set_option maxHeartbeats 4000000 in
theorem t_L_would_210 {w : Om} {f : Fr} {r : Int32} {M2 : Mem} (C : Cx w f RL cL_would 17 7) (hR : Rt w f cL_would (some .boolean) (some (.int r)) M2)   : ∀ (r0 : Nat) (x3 : Int32) (x4 : Int32) (x5 : Int32) (x6 : Int32) (x10 : Int32) (x11 : Int32) (x12 : Int32) (x13 : Int32) (x14 : Int32) (M : Mem), f_L_would_210 r0 x3 x4 x5 x6 x10 x11 x12 x13 x14 M = some (r, M2) → Go w f 210 [some (rv w r0), none, none, some (.int x3), some (.int x4), some (.int x5), some (.int x6), none, none, none, some (.int x10), some (.int x11), some (.int x12), some (.int x13), some (.int x14), none, none] [] M := by
  intro r0 x3 x4 x5 x6 x10 x11 x12 x13 x14 M h
  unfold f_L_would_210 at h
  refine g_iconst (v := 1) C dL_would_210 rfl ?_
  refine g_goto 215 C dL_would_211 (by decide) ?_
  exact t_L_would_215 C hR r0 x3 x4 x5 x6 x10 x11 x12 x13 x14 (1 : Int32) M h
def f_L_would_174 (r0 : Nat) (x3 : Int32) (x4 : Int32) (x5 : Int32) (x6 : Int32) (x7 : Int32) (x8 : Int32) (x9 : Int32) (x10 : Int32) (x11 : Int32) (x12 : Int32) (x13 : Int32) (xs0 : Int32) (M : Mem) : Option (Int32 × Mem) := if x7 < 0 then (f_L_would_210 r0 x3 x4 x5 x6 x10 x11 x12 x13 xs0 M) else (if (5 : Int32) < x7 then (f_L_would_210 r0 x3 x4 x5 x6 x10 x11 x12 x13 xs0 M) else (if x8 < 0 then (f_L_would_210 r0 x3 x4 x5 x6 x10 x11 x12 x13 xs0 M) else (if (5 : Int32) < x8 then (f_L_would_210 r0 x3 x4 x5 x6 x10 x11 x12 x13 xs0 M) else (if x9 = 0 then (f_L_would_210 r0 x3 x4 x5 x6 x10 x11 x12 x13 xs0 M) else (if x9 = (21 : Int32) then (f_L_would_210 r0 x3 x4 x5 x6 x10 x11 x12 x13 xs0 M) else (f_L_would_215 r0 x3 x4 x5 x6 x10 x11 x12 x13 xs0 (0 : Int32) M))))))
set_option maxRecDepth 100000 in
set_option maxHeartbeats 4000000 in
theorem t_L_would_174 {w : Om} {f : Fr} {r : Int32} {M2 : Mem} (C : Cx w f RL cL_would 17 7) (hR : Rt w f cL_would (some .boolean) (some (.int r)) M2)   : ∀ (r0 : Nat) (x3 : Int32) (x4 : Int32) (x5 : Int32) (x6 : Int32) (x7 : Int32) (x8 : Int32) (x9 : Int32) (x10 : Int32) (x11 : Int32) (x12 : Int32) (x13 : Int32) (xs0 : Int32) (M : Mem), f_L_would_174 r0 x3 x4 x5 x6 x7 x8 x9 x10 x11 x12 x13 xs0 M = some (r, M2) → Go w f 174 [some (rv w r0), none, none, some (.int x3), some (.int x4), some (.int x5), some (.int x6), some (.int x7), some (.int x8), some (.int x9), some (.int x10), some (.int x11), some (.int x12), some (.int x13), none, none, none] [.int xs0] M := by
  intro r0 x3 x4 x5 x6 x7 x8 x9 x10 x11 x12 x13 xs0 M h
  unfold f_L_would_174 at h
  refine g_istore C dL_would_174 (by decide) rfl (L2 := [some (rv w r0), none, none, some (.int x3), some (.int x4), some (.int x5), some (.int x6), some (.int x7), some (.int x8), some (.int x9), some (.int x10), some (.int x11), some (.int x12), some (.int x13), some (.int xs0), none, none]) rfl ?_
  refine g_iload C dL_would_176 rfl ?_
  refine g_if_lt 210 C dL_would_178 (by decide) (fun c501 => ?_) (fun c501 => ?_)
  · replace h := of_ift h c501
    refine g_mask (bs := [true, false, false, true, true, true, true, false, false, false, true, true, true, true, true, false, false]) (L2 := [some (rv w r0), none, none, some (.int x3), some (.int x4), some (.int x5), some (.int x6), none, none, none, some (.int x10), some (.int x11), some (.int x12), some (.int x13), some (.int xs0), none, none]) rfl ?_
    exact t_L_would_210 C hR r0 x3 x4 x5 x6 x10 x11 x12 x13 xs0 M h
  · replace h := of_iff h c501
    refine g_iload C dL_would_181 rfl ?_
    refine g_iconst (v := 5) C dL_would_183 rfl ?_
    refine g_icmp_gt 210 C dL_would_184 (by decide) (fun c502 => ?_) (fun c502 => ?_)
    · replace h := of_ift h c502
      refine g_mask (bs := [true, false, false, true, true, true, true, false, false, false, true, true, true, true, true, false, false]) (L2 := [some (rv w r0), none, none, some (.int x3), some (.int x4), some (.int x5), some (.int x6), none, none, none, some (.int x10), some (.int x11), some (.int x12), some (.int x13), some (.int xs0), none, none]) rfl ?_
      exact t_L_would_210 C hR r0 x3 x4 x5 x6 x10 x11 x12 x13 xs0 M h
    · replace h := of_iff h c502
      refine g_iload C dL_would_187 rfl ?_
      refine g_if_lt 210 C dL_would_189 (by decide) (fun c503 => ?_) (fun c503 => ?_)
      · replace h := of_ift h c503
        refine g_mask (bs := [true, false, false, true, true, true, true, false, false, false, true, true, true, true, true, false, false]) (L2 := [some (rv w r0), none, none, some (.int x3), some (.int x4), some (.int x5), some (.int x6), none, none, none, some (.int x10), some (.int x11), some (.int x12), some (.int x13), some (.int xs0), none, none]) rfl ?_
        exact t_L_would_210 C hR r0 x3 x4 x5 x6 x10 x11 x12 x13 xs0 M h
      · replace h := of_iff h c503
        refine g_iload C dL_would_192 rfl ?_
        refine g_iconst (v := 5) C dL_would_194 rfl ?_
        refine g_icmp_gt 210 C dL_would_195 (by decide) (fun c504 => ?_) (fun c504 => ?_)
        · replace h := of_ift h c504
          refine g_mask (bs := [true, false, false, true, true, true, true, false, false, false, true, true, true, true, true, false, false]) (L2 := [some (rv w r0), none, none, some (.int x3), some (.int x4), some (.int x5), some (.int x6), none, none, none, some (.int x10), some (.int x11), some (.int x12), some (.int x13), some (.int xs0), none, none]) rfl ?_
          exact t_L_would_210 C hR r0 x3 x4 x5 x6 x10 x11 x12 x13 xs0 M h
        · replace h := of_iff h c504
          refine g_iload C dL_would_198 rfl ?_
          refine g_if_eq 210 C dL_would_200 (by decide) (fun c505 => ?_) (fun c505 => ?_)
          · replace h := of_ift h c505
            refine g_mask (bs := [true, false, false, true, true, true, true, false, false, false, true, true, true, true, true, false, false]) (L2 := [some (rv w r0), none, none, some (.int x3), some (.int x4), some (.int x5), some (.int x6), none, none, none, some (.int x10), some (.int x11), some (.int x12), some (.int x13), some (.int xs0), none, none]) rfl ?_
            exact t_L_would_210 C hR r0 x3 x4 x5 x6 x10 x11 x12 x13 xs0 M h
          · replace h := of_iff h c505
            refine g_iload C dL_would_203 rfl ?_
            refine g_bipush (v := 21) C dL_would_205 rfl ?_
            refine g_icmp_ne 214 C dL_would_207 (by decide) (fun c506 => ?_) (fun c506 => ?_)
            · replace h := of_iff h c506
              refine g_iconst (v := 0) C dL_would_214 rfl ?_
              refine g_mask (bs := [true, false, false, true, true, true, true, false, false, false, true, true, true, true, true, false, false]) (L2 := [some (rv w r0), none, none, some (.int x3), some (.int x4), some (.int x5), some (.int x6), none, none, none, some (.int x10), some (.int x11), some (.int x12), some (.int x13), some (.int xs0), none, none]) rfl ?_
              exact t_L_would_215 C hR r0 x3 x4 x5 x6 x10 x11 x12 x13 xs0 (0 : Int32) M h
            · replace h := of_ift h c506
              refine g_mask (bs := [true, false, false, true, true, true, true, false, false, false, true, true, true, true, true, false, false]) (L2 := [some (rv w r0), none, none, some (.int x3), some (.int x4), some (.int x5), some (.int x6), none, none, none, some (.int x10), some (.int x11), some (.int x12), some (.int x13), some (.int xs0), none, none]) rfl ?_
              exact t_L_would_210 C hR r0 x3 x4 x5 x6 x10 x11 x12 x13 xs0 M h
def f_L_would_169 (r0 : Nat) (x3 : Int32) (x4 : Int32) (x5 : Int32) (x6 : Int32) (x7 : Int32) (x8 : Int32) (x9 : Int32) (x10 : Int32) (x11 : Int32) (x12 : Int32) (x13 : Int32) (M : Mem) : Option (Int32 × Mem) := f_L_would_174 r0 x3 x4 x5 x6 x7 x8 x9 x10 x11 x12 x13 (1 : Int32) M
set_option maxRecDepth 100000 in
set_option maxHeartbeats 4000000 in
theorem t_L_would_169 {w : Om} {f : Fr} {r : Int32} {M2 : Mem} (C : Cx w f RL cL_would 17 7) (hR : Rt w f cL_would (some .boolean) (some (.int r)) M2)   : ∀ (r0 : Nat) (x3 : Int32) (x4 : Int32) (x5 : Int32) (x6 : Int32) (x7 : Int32) (x8 : Int32) (x9 : Int32) (x10 : Int32) (x11 : Int32) (x12 : Int32) (x13 : Int32) (M : Mem), f_L_would_169 r0 x3 x4 x5 x6 x7 x8 x9 x10 x11 x12 x13 M = some (r, M2) → Go w f 169 [some (rv w r0), none, none, some (.int x3), some (.int x4), some (.int x5), some (.int x6), some (.int x7), some (.int x8), some (.int x9), some (.int x10), some (.int x11), some (.int x12), some (.int x13), none, none, none] [] M := by
  intro r0 x3 x4 x5 x6 x7 x8 x9 x10 x11 x12 x13 M h
  unfold f_L_would_169 at h
  refine g_iconst (v := 1) C dL_would_169 rfl ?_
  refine g_goto 174 C dL_would_170 (by decide) ?_
  exact t_L_would_174 C hR r0 x3 x4 x5 x6 x7 x8 x9 x10 x11 x12 x13 (1 : Int32) M h
def f_L_would_144 (r0 : Nat) (x3 : Int32) (x4 : Int32) (x5 : Int32) (x6 : Int32) (x7 : Int32) (x8 : Int32) (x9 : Int32) (x10 : Int32) (x11 : Int32) (x12 : Int32) (xs0 : Int32) (M : Mem) : Option (Int32 × Mem) := if xs0 = 0 then (if x4 < 0 then (f_L_would_169 r0 x3 x4 x5 x6 x7 x8 x9 x10 x11 x12 xs0 M) else (gdd (kd r0 = 6) <| opp (f_X5_edition r0 x3 (0 : Int32) M) fun y306 M304 => if x4 < (y306 - (1 : Int32)) then (f_L_would_174 r0 x3 x4 x5 x6 x7 x8 x9 x10 x11 x12 xs0 (0 : Int32) M304) else (f_L_would_169 r0 x3 x4 x5 x6 x7 x8 x9 x10 x11 x12 xs0 M304))) else (f_L_would_169 r0 x3 x4 x5 x6 x7 x8 x9 x10 x11 x12 xs0 M)
set_option maxRecDepth 100000 in
set_option maxHeartbeats 4000000 in
theorem t_L_would_144 {w : Om} {f : Fr} {r : Int32} {M2 : Mem} (C : Cx w f RL cL_would 17 7) (hR : Rt w f cL_would (some .boolean) (some (.int r)) M2)   : ∀ (r0 : Nat) (x3 : Int32) (x4 : Int32) (x5 : Int32) (x6 : Int32) (x7 : Int32) (x8 : Int32) (x9 : Int32) (x10 : Int32) (x11 : Int32) (x12 : Int32) (xs0 : Int32) (M : Mem), f_L_would_144 r0 x3 x4 x5 x6 x7 x8 x9 x10 x11 x12 xs0 M = some (r, M2) → Go w f 144 [some (rv w r0), none, none, some (.int x3), some (.int x4), some (.int x5), some (.int x6), some (.int x7), some (.int x8), some (.int x9), some (.int x10), some (.int x11), some (.int x12), none, none, none, none] [.int xs0] M := by
  intro r0 x3 x4 x5 x6 x7 x8 x9 x10 x11 x12 xs0 M h
  unfold f_L_would_144 at h
  refine g_istore C dL_would_144 (by decide) rfl (L2 := [some (rv w r0), none, none, some (.int x3), some (.int x4), some (.int x5), some (.int x6), some (.int x7), some (.int x8), some (.int x9), some (.int x10), some (.int x11), some (.int x12), some (.int xs0), none, none, none]) rfl ?_
  refine g_iload C dL_would_146 rfl ?_
  refine g_if_ne 169 C dL_would_148 (by decide) (fun c301 => ?_) (fun c301 => ?_)
  · replace h := of_iff h c301
    exact t_L_would_169 C hR r0 x3 x4 x5 x6 x7 x8 x9 x10 x11 x12 xs0 M h
  · replace h := of_ift h c301
    refine g_iload C dL_would_151 rfl ?_
    refine g_if_lt 169 C dL_would_153 (by decide) (fun c302 => ?_) (fun c302 => ?_)
    · replace h := of_ift h c302
      exact t_L_would_169 C hR r0 x3 x4 x5 x6 x7 x8 x9 x10 x11 x12 xs0 M h
    · replace h := of_iff h c302
      refine g_iload C dL_would_156 rfl ?_
      refine g_aload_n C dL_would_158 rfl rfl ?_
      refine g_iload_n C dL_would_159 rfl rfl ?_
      refine g_iconst (v := 0) C dL_would_160 rfl ?_
      obtain ⟨g303, h⟩ := of_gdd h
      obtain ⟨y306, M304, e305, h⟩ := of_opp h
      refine g_callV (As := [.int x3, .int (0 : Int32)]) C (ct_X5_edition C.wf e305) g303 lk_RL_19 mi_X5_edition (by decide) (cs_i cs_0) (by decide) dL_would_161 rfl ?_
      show Go w f 164 [some (rv w r0), none, none, some (.int x3), some (.int x4), some (.int x5), some (.int x6), some (.int x7), some (.int x8), some (.int x9), some (.int x10), some (.int x11), some (.int x12), some (.int xs0), none, none, none] [.int y306, .int x4] M304
      refine g_iconst (v := 1) C dL_would_164 rfl ?_
      refine g_isub C dL_would_165 ?_
      refine g_icmp_lt 173 C dL_would_166 (by decide) (fun c307 => ?_) (fun c307 => ?_)
      · replace h := of_ift h c307
        refine g_iconst (v := 0) C dL_would_173 rfl ?_
        exact t_L_would_174 C hR r0 x3 x4 x5 x6 x7 x8 x9 x10 x11 x12 xs0 (0 : Int32) M304 h
      · replace h := of_iff h c307
        exact t_L_would_169 C hR r0 x3 x4 x5 x6 x7 x8 x9 x10 x11 x12 xs0 M304 h
def f_L_would_98 (r0 : Nat) (x1 : Int32) (x2 : Int32) (x3 : Int32) (x4 : Int32) (x5 : Int32) (x6 : Int32) (x7 : Int32) (x8 : Int32) (x9 : Int32) (rs0 : Nat) (xs1 : Int32) (xs2 : Int32) (xs3 : Int32) (M : Mem) : Option (Int32 × Mem) := gdd (kd rs0 = 6) <| obb (f_X5_ifRuled rs0 xs1 xs2 xs3 x9 M) fun y202 => obb (f_L_low (x1 >>> ((6 : Int32) &&& 31)) (5 : Int32)) fun y204 => bvv (y204 - (1 : Int32)) fun y206 => obb (f_L_low (x1 >>> ((9 : Int32) &&& 31)) (2 : Int32)) fun y208 => gdd (kd r0 = 6) <| opp (f_X5_best r0 x3 y206 y208 M) fun y213 M211 => if x3 = x2 then (f_L_would_144 r0 x3 x4 x5 x6 x7 x8 x9 y202 y206 y213 (1 : Int32) M211) else (f_L_would_144 r0 x3 x4 x5 x6 x7 x8 x9 y202 y206 y213 (0 : Int32) M211)
set_option maxRecDepth 100000 in
set_option maxHeartbeats 4000000 in
theorem t_L_would_98 {w : Om} {f : Fr} {r : Int32} {M2 : Mem} (C : Cx w f RL cL_would 17 7) (hR : Rt w f cL_would (some .boolean) (some (.int r)) M2)   : ∀ (r0 : Nat) (x1 : Int32) (x2 : Int32) (x3 : Int32) (x4 : Int32) (x5 : Int32) (x6 : Int32) (x7 : Int32) (x8 : Int32) (x9 : Int32) (rs0 : Nat) (xs1 : Int32) (xs2 : Int32) (xs3 : Int32) (M : Mem), f_L_would_98 r0 x1 x2 x3 x4 x5 x6 x7 x8 x9 rs0 xs1 xs2 xs3 M = some (r, M2) → Go w f 98 [some (rv w r0), some (.int x1), some (.int x2), some (.int x3), some (.int x4), some (.int x5), some (.int x6), some (.int x7), some (.int x8), some (.int x9), none, none, none, none, none, none, none] [.int xs3, .int xs2, .int xs1, rv w rs0] M := by
  intro r0 x1 x2 x3 x4 x5 x6 x7 x8 x9 rs0 xs1 xs2 xs3 M h
  unfold f_L_would_98 at h
  refine g_iload C dL_would_98 rfl ?_
  obtain ⟨g201, h⟩ := of_gdd h
  obtain ⟨y202, e203, h⟩ := of_obb h
  refine g_callV (As := [.int xs1, .int xs2, .int xs3, .int x9]) C (ct_X5_ifRuled C.wf e203) g201 lk_RL_65 mi_X5_ifRuled (by decide) cs_0 (by decide) dL_would_100 rfl ?_
  show Go w f 103 [some (rv w r0), some (.int x1), some (.int x2), some (.int x3), some (.int x4), some (.int x5), some (.int x6), some (.int x7), some (.int x8), some (.int x9), none, none, none, none, none, none, none] [.int y202] M
  refine g_istore C dL_would_103 (by decide) rfl (L2 := [some (rv w r0), some (.int x1), some (.int x2), some (.int x3), some (.int x4), some (.int x5), some (.int x6), some (.int x7), some (.int x8), some (.int x9), some (.int y202), none, none, none, none, none, none]) rfl ?_
  refine g_iload_n C dL_would_105 rfl rfl ?_
  refine g_bipush (v := 6) C dL_would_106 rfl ?_
  refine g_ishr C dL_would_108 ?_
  refine g_iconst (v := 5) C dL_would_109 rfl ?_
  obtain ⟨y204, e205, h⟩ := of_obb h
  refine g_callS (As := [.int (x1 >>> ((6 : Int32) &&& 31)), .int (5 : Int32)]) C (ct_L_low C.wf e205) lk_RL_56 mi_L_low (by decide) cs_0 (by decide) dL_would_110 rfl ?_
  show Go w f 113 [some (rv w r0), some (.int x1), some (.int x2), some (.int x3), some (.int x4), some (.int x5), some (.int x6), some (.int x7), some (.int x8), some (.int x9), some (.int y202), none, none, none, none, none, none] [.int y204] M
  refine g_iconst (v := 1) C dL_would_113 rfl ?_
  refine g_isub C dL_would_114 ?_
  obtain ⟨y206, e207, h⟩ := of_bvv h
  refine g_topi e207 ?_
  refine g_istore C dL_would_115 (by decide) rfl (L2 := [some (rv w r0), some (.int x1), some (.int x2), some (.int x3), some (.int x4), some (.int x5), some (.int x6), some (.int x7), some (.int x8), some (.int x9), some (.int y202), some (.int y206), none, none, none, none, none]) rfl ?_
  refine g_aload_n C dL_would_117 rfl rfl ?_
  refine g_iload_n C dL_would_118 rfl rfl ?_
  refine g_iload C dL_would_119 rfl ?_
  refine g_iload_n C dL_would_121 rfl rfl ?_
  refine g_bipush (v := 9) C dL_would_122 rfl ?_
  refine g_ishr C dL_would_124 ?_
  refine g_iconst (v := 2) C dL_would_125 rfl ?_
  obtain ⟨y208, e209, h⟩ := of_obb h
  refine g_callS (As := [.int (x1 >>> ((9 : Int32) &&& 31)), .int (2 : Int32)]) C (ct_L_low C.wf e209) lk_RL_56 mi_L_low (by decide) (cs_i (cs_i (cs_r cs_0))) (by decide) dL_would_126 rfl ?_
  show Go w f 129 [some (rv w r0), some (.int x1), some (.int x2), some (.int x3), some (.int x4), some (.int x5), some (.int x6), some (.int x7), some (.int x8), some (.int x9), some (.int y202), some (.int y206), none, none, none, none, none] [.int y208, .int y206, .int x3, rv w r0] M
  obtain ⟨g210, h⟩ := of_gdd h
  obtain ⟨y213, M211, e212, h⟩ := of_opp h
  refine g_callV (As := [.int x3, .int y206, .int y208]) C (ct_X5_best C.wf e212) g210 lk_RL_46 mi_X5_best (by decide) cs_0 (by decide) dL_would_129 rfl ?_
  show Go w f 132 [some (rv w r0), some (.int x1), some (.int x2), some (.int x3), some (.int x4), some (.int x5), some (.int x6), some (.int x7), some (.int x8), some (.int x9), some (.int y202), some (.int y206), none, none, none, none, none] [.int y213] M211
  refine g_istore C dL_would_132 (by decide) rfl (L2 := [some (rv w r0), some (.int x1), some (.int x2), some (.int x3), some (.int x4), some (.int x5), some (.int x6), some (.int x7), some (.int x8), some (.int x9), some (.int y202), some (.int y206), some (.int y213), none, none, none, none]) rfl ?_
  refine g_iload_n C dL_would_134 rfl rfl ?_
  refine g_iload_n C dL_would_135 rfl rfl ?_
  refine g_icmp_ne 143 C dL_would_136 (by decide) (fun c214 => ?_) (fun c214 => ?_)
  · replace h := of_iff h c214
    refine g_iconst (v := 0) C dL_would_143 rfl ?_
    refine g_mask (bs := [true, false, false, true, true, true, true, true, true, true, true, true, true, false, false, false, false]) (L2 := [some (rv w r0), none, none, some (.int x3), some (.int x4), some (.int x5), some (.int x6), some (.int x7), some (.int x8), some (.int x9), some (.int y202), some (.int y206), some (.int y213), none, none, none, none]) rfl ?_
    exact t_L_would_144 C hR r0 x3 x4 x5 x6 x7 x8 x9 y202 y206 y213 (0 : Int32) M211 h
  · replace h := of_ift h c214
    refine g_iconst (v := 1) C dL_would_139 rfl ?_
    refine g_goto 144 C dL_would_140 (by decide) ?_
    refine g_mask (bs := [true, false, false, true, true, true, true, true, true, true, true, true, true, false, false, false, false]) (L2 := [some (rv w r0), none, none, some (.int x3), some (.int x4), some (.int x5), some (.int x6), some (.int x7), some (.int x8), some (.int x9), some (.int y202), some (.int y206), some (.int y213), none, none, none, none]) rfl ?_
    exact t_L_would_144 C hR r0 x3 x4 x5 x6 x7 x8 x9 y202 y206 y213 (1 : Int32) M211 h
def f_L_would (r0 : Nat) (x1 : Int32) (M : Mem) : Option (Int32 × Mem) := gdd (kd r0 = 6) <| opp (f_X5_count r0 (1 : Int32) M) fun y4 M2 => obb (f_L_low x1 (y4 + (1 : Int32))) fun y5 => obb (f_L_low (x1 >>> ((3 : Int32) &&& 31)) (13 : Int32)) fun y7 => bvv (y7 - (1 : Int32)) fun y9 => opp (f_X5_whyNot r0 y5 y9 M2) fun y13 M11 => opp (f_X5_bestSuit r0 y5 M11) fun y16 M14 => obb (f_L_low (x1 >>> ((5 : Int32) &&& 31)) (8 : Int32)) fun y17 => bvv (y17 - (1 : Int32)) fun y19 => obb (f_L_low (x1 >>> ((8 : Int32) &&& 31)) (8 : Int32)) fun y21 => bvv (y21 - (1 : Int32)) fun y23 => obb (f_L_low (x1 >>> ((4 : Int32) &&& 31)) (22 : Int32)) fun y25 => obb (f_L_low (x1 >>> ((11 : Int32) &&& 31)) (2 : Int32)) fun y27 => if y27 = 0 then (f_L_would_98 r0 x1 y4 y5 y9 y13 y16 y19 y23 y25 r0 y19 y23 (1 : Int32) M14) else (f_L_would_98 r0 x1 y4 y5 y9 y13 y16 y19 y23 y25 r0 y19 y23 (0 : Int32) M14)
set_option maxRecDepth 100000 in
set_option maxHeartbeats 4000000 in
theorem ct_L_would {l : Launch} {w : Om} (hw : Wf w) {r0 : Nat} {x1 : Int32} {M : Mem} {r : Int32} {M2 : Mem} (h : f_L_would r0 x1 M = some (r, M2)) : Ct l w yL_would cL_would 17 (some .boolean) 7 [rv w r0, .int x1] M (some (.int r)) M2 := by
  refine ct_of hw (by decide) (cat_s (rv_cat _ _) (cat_s rfl cat_0)) (Nat.le_of_ble_eq_true rfl) (fun f _ C hR => ?_)
  show Go w f 0 [some (rv w r0), some (.int x1), none, none, none, none, none, none, none, none, none, none, none, none, none, none, none] [] M
  unfold f_L_would at h
  refine g_aload_n C dL_would_0 rfl rfl ?_
  refine g_iconst (v := 1) C dL_would_1 rfl ?_
  obtain ⟨g1, h⟩ := of_gdd h
  obtain ⟨y4, M2, e3, h⟩ := of_opp h
  refine g_callV (As := [.int (1 : Int32)]) C (ct_X5_count C.wf e3) g1 lk_RL_13 mi_X5_count (by decide) cs_0 (by decide) dL_would_2 rfl ?_
  show Go w f 5 [some (rv w r0), some (.int x1), none, none, none, none, none, none, none, none, none, none, none, none, none, none, none] [.int y4] M2
  refine g_istore_n C dL_would_5 rfl (by decide) rfl (L2 := [some (rv w r0), some (.int x1), some (.int y4), none, none, none, none, none, none, none, none, none, none, none, none, none, none]) rfl ?_
  refine g_iload_n C dL_would_6 rfl rfl ?_
  refine g_iload_n C dL_would_7 rfl rfl ?_
  refine g_iconst (v := 1) C dL_would_8 rfl ?_
  refine g_iadd C dL_would_9 ?_
  obtain ⟨y5, e6, h⟩ := of_obb h
  refine g_callS (As := [.int x1, .int (y4 + (1 : Int32))]) C (ct_L_low C.wf e6) lk_RL_56 mi_L_low (by decide) cs_0 (by decide) dL_would_10 rfl ?_
  show Go w f 13 [some (rv w r0), some (.int x1), some (.int y4), none, none, none, none, none, none, none, none, none, none, none, none, none, none] [.int y5] M2
  refine g_istore_n C dL_would_13 rfl (by decide) rfl (L2 := [some (rv w r0), some (.int x1), some (.int y4), some (.int y5), none, none, none, none, none, none, none, none, none, none, none, none, none]) rfl ?_
  refine g_iload_n C dL_would_14 rfl rfl ?_
  refine g_iconst (v := 3) C dL_would_15 rfl ?_
  refine g_ishr C dL_would_16 ?_
  refine g_bipush (v := 13) C dL_would_17 rfl ?_
  obtain ⟨y7, e8, h⟩ := of_obb h
  refine g_callS (As := [.int (x1 >>> ((3 : Int32) &&& 31)), .int (13 : Int32)]) C (ct_L_low C.wf e8) lk_RL_56 mi_L_low (by decide) cs_0 (by decide) dL_would_19 rfl ?_
  show Go w f 22 [some (rv w r0), some (.int x1), some (.int y4), some (.int y5), none, none, none, none, none, none, none, none, none, none, none, none, none] [.int y7] M2
  refine g_iconst (v := 1) C dL_would_22 rfl ?_
  refine g_isub C dL_would_23 ?_
  obtain ⟨y9, e10, h⟩ := of_bvv h
  refine g_topi e10 ?_
  refine g_istore C dL_would_24 (by decide) rfl (L2 := [some (rv w r0), some (.int x1), some (.int y4), some (.int y5), some (.int y9), none, none, none, none, none, none, none, none, none, none, none, none]) rfl ?_
  refine g_aload_n C dL_would_26 rfl rfl ?_
  refine g_iload_n C dL_would_27 rfl rfl ?_
  refine g_iload C dL_would_28 rfl ?_
  obtain ⟨y13, M11, e12, h⟩ := of_opp h
  refine g_callV (As := [.int y5, .int y9]) C (ct_X5_whyNot C.wf e12) g1 lk_RL_59 mi_X5_whyNot (by decide) cs_0 (by decide) dL_would_30 rfl ?_
  show Go w f 33 [some (rv w r0), some (.int x1), some (.int y4), some (.int y5), some (.int y9), none, none, none, none, none, none, none, none, none, none, none, none] [.int y13] M11
  refine g_istore C dL_would_33 (by decide) rfl (L2 := [some (rv w r0), some (.int x1), some (.int y4), some (.int y5), some (.int y9), some (.int y13), none, none, none, none, none, none, none, none, none, none, none]) rfl ?_
  refine g_aload_n C dL_would_35 rfl rfl ?_
  refine g_iload_n C dL_would_36 rfl rfl ?_
  obtain ⟨y16, M14, e15, h⟩ := of_opp h
  refine g_callV (As := [.int y5]) C (ct_X5_bestSuit C.wf e15) g1 lk_RL_62 mi_X5_bestSuit (by decide) cs_0 (by decide) dL_would_37 rfl ?_
  show Go w f 40 [some (rv w r0), some (.int x1), some (.int y4), some (.int y5), some (.int y9), some (.int y13), none, none, none, none, none, none, none, none, none, none, none] [.int y16] M14
  refine g_istore C dL_would_40 (by decide) rfl (L2 := [some (rv w r0), some (.int x1), some (.int y4), some (.int y5), some (.int y9), some (.int y13), some (.int y16), none, none, none, none, none, none, none, none, none, none]) rfl ?_
  refine g_iload_n C dL_would_42 rfl rfl ?_
  refine g_iconst (v := 5) C dL_would_43 rfl ?_
  refine g_ishr C dL_would_44 ?_
  refine g_bipush (v := 8) C dL_would_45 rfl ?_
  obtain ⟨y17, e18, h⟩ := of_obb h
  refine g_callS (As := [.int (x1 >>> ((5 : Int32) &&& 31)), .int (8 : Int32)]) C (ct_L_low C.wf e18) lk_RL_56 mi_L_low (by decide) cs_0 (by decide) dL_would_47 rfl ?_
  show Go w f 50 [some (rv w r0), some (.int x1), some (.int y4), some (.int y5), some (.int y9), some (.int y13), some (.int y16), none, none, none, none, none, none, none, none, none, none] [.int y17] M14
  refine g_iconst (v := 1) C dL_would_50 rfl ?_
  refine g_isub C dL_would_51 ?_
  obtain ⟨y19, e20, h⟩ := of_bvv h
  refine g_topi e20 ?_
  refine g_istore C dL_would_52 (by decide) rfl (L2 := [some (rv w r0), some (.int x1), some (.int y4), some (.int y5), some (.int y9), some (.int y13), some (.int y16), some (.int y19), none, none, none, none, none, none, none, none, none]) rfl ?_
  refine g_iload_n C dL_would_54 rfl rfl ?_
  refine g_bipush (v := 8) C dL_would_55 rfl ?_
  refine g_ishr C dL_would_57 ?_
  refine g_bipush (v := 8) C dL_would_58 rfl ?_
  obtain ⟨y21, e22, h⟩ := of_obb h
  refine g_callS (As := [.int (x1 >>> ((8 : Int32) &&& 31)), .int (8 : Int32)]) C (ct_L_low C.wf e22) lk_RL_56 mi_L_low (by decide) cs_0 (by decide) dL_would_60 rfl ?_
  show Go w f 63 [some (rv w r0), some (.int x1), some (.int y4), some (.int y5), some (.int y9), some (.int y13), some (.int y16), some (.int y19), none, none, none, none, none, none, none, none, none] [.int y21] M14
  refine g_iconst (v := 1) C dL_would_63 rfl ?_
  refine g_isub C dL_would_64 ?_
  obtain ⟨y23, e24, h⟩ := of_bvv h
  refine g_topi e24 ?_
  refine g_istore C dL_would_65 (by decide) rfl (L2 := [some (rv w r0), some (.int x1), some (.int y4), some (.int y5), some (.int y9), some (.int y13), some (.int y16), some (.int y19), some (.int y23), none, none, none, none, none, none, none, none]) rfl ?_
  refine g_iload_n C dL_would_67 rfl rfl ?_
  refine g_iconst (v := 4) C dL_would_68 rfl ?_
  refine g_ishr C dL_would_69 ?_
  refine g_bipush (v := 22) C dL_would_70 rfl ?_
  obtain ⟨y25, e26, h⟩ := of_obb h
  refine g_callS (As := [.int (x1 >>> ((4 : Int32) &&& 31)), .int (22 : Int32)]) C (ct_L_low C.wf e26) lk_RL_56 mi_L_low (by decide) cs_0 (by decide) dL_would_72 rfl ?_
  show Go w f 75 [some (rv w r0), some (.int x1), some (.int y4), some (.int y5), some (.int y9), some (.int y13), some (.int y16), some (.int y19), some (.int y23), none, none, none, none, none, none, none, none] [.int y25] M14
  refine g_istore C dL_would_75 (by decide) rfl (L2 := [some (rv w r0), some (.int x1), some (.int y4), some (.int y5), some (.int y9), some (.int y13), some (.int y16), some (.int y19), some (.int y23), some (.int y25), none, none, none, none, none, none, none]) rfl ?_
  refine g_aload_n C dL_would_77 rfl rfl ?_
  refine g_iload C dL_would_78 rfl ?_
  refine g_iload C dL_would_80 rfl ?_
  refine g_iload_n C dL_would_82 rfl rfl ?_
  refine g_bipush (v := 11) C dL_would_83 rfl ?_
  refine g_ishr C dL_would_85 ?_
  refine g_iconst (v := 2) C dL_would_86 rfl ?_
  obtain ⟨y27, e28, h⟩ := of_obb h
  refine g_callS (As := [.int (x1 >>> ((11 : Int32) &&& 31)), .int (2 : Int32)]) C (ct_L_low C.wf e28) lk_RL_56 mi_L_low (by decide) (cs_i (cs_i (cs_r cs_0))) (by decide) dL_would_87 rfl ?_
  show Go w f 90 [some (rv w r0), some (.int x1), some (.int y4), some (.int y5), some (.int y9), some (.int y13), some (.int y16), some (.int y19), some (.int y23), some (.int y25), none, none, none, none, none, none, none] [.int y27, .int y23, .int y19, rv w r0] M14
  refine g_if_ne 97 C dL_would_90 (by decide) (fun c29 => ?_) (fun c29 => ?_)
  · replace h := of_iff h c29
    refine g_iconst (v := 0) C dL_would_97 rfl ?_
    exact t_L_would_98 C hR r0 x1 y4 y5 y9 y13 y16 y19 y23 y25 r0 y19 y23 (0 : Int32) M14 h
  · replace h := of_ift h c29
    refine g_iconst (v := 1) C dL_would_93 rfl ?_
    refine g_goto 98 C dL_would_94 (by decide) ?_
    exact t_L_would_98 C hR r0 x1 y4 y5 y9 y13 y16 y19 y23 y25 r0 y19 y23 (1 : Int32) M14 h
def f_L_words_121 (k39 : Nat → Int32 → Int32 → Int32 → Int32 → Mem → Option (Int32 × Mem)) (r0 : Nat) (x1 : Int32) (x2 : Int32) (x4 : Int32) (xs0 : Int32) (M : Mem) : Option (Int32 × Mem) := bvv (x4 + (1 : Int32)) fun y601 => k39 r0 x1 x2 xs0 y601 M
set_option maxRecDepth 100000 in
set_option maxHeartbeats 4000000 in
theorem t_L_words_121 {w : Om} {f : Fr} {r : Int32} {M2 : Mem} (C : Cx w f RL cL_words 5 2) (hR : Rt w f cL_words (some .boolean) (some (.int r)) M2) {k39 : Nat → Int32 → Int32 → Int32 → Int32 → Mem → Option (Int32 × Mem)} (hk39 : ∀ (r0' : Nat) (x1' : Int32) (x2' : Int32) (x3' : Int32) (x4' : Int32) (M' : Mem), k39 r0' x1' x2' x3' x4' M' = some (r, M2) → Go w f 39 [some (rv w r0'), some (.int x1'), some (.int x2'), some (.int x3'), some (.int x4')] [] M') : ∀ (r0 : Nat) (x1 : Int32) (x2 : Int32) (x4 : Int32) (xs0 : Int32) (M : Mem), f_L_words_121 k39 r0 x1 x2 x4 xs0 M = some (r, M2) → Go w f 121 [some (rv w r0), some (.int x1), some (.int x2), none, some (.int x4)] [.int xs0] M := by
  intro r0 x1 x2 x4 xs0 M h
  unfold f_L_words_121 at h
  refine g_istore_n C dL_words_121 rfl (by decide) rfl (L2 := [some (rv w r0), some (.int x1), some (.int x2), some (.int xs0), some (.int x4)]) rfl ?_
  obtain ⟨y601, e602, h⟩ := of_bvv h
  refine g_iinc (v := y601) C dL_words_122 rfl e602.symm (by decide) rfl (L2 := [some (rv w r0), some (.int x1), some (.int x2), some (.int xs0), some (.int y601)]) rfl ?_
  refine g_goto 39 C dL_words_125 (by decide) ?_
  exact hk39 r0 x1 x2 xs0 y601 M h
def f_L_words_120 (k39 : Nat → Int32 → Int32 → Int32 → Int32 → Mem → Option (Int32 × Mem)) (r0 : Nat) (x1 : Int32) (x2 : Int32) (x4 : Int32) (M : Mem) : Option (Int32 × Mem) := f_L_words_121 k39 r0 x1 x2 x4 (0 : Int32) M
set_option maxRecDepth 100000 in
set_option maxHeartbeats 4000000 in
theorem t_L_words_120 {w : Om} {f : Fr} {r : Int32} {M2 : Mem} (C : Cx w f RL cL_words 5 2) (hR : Rt w f cL_words (some .boolean) (some (.int r)) M2) {k39 : Nat → Int32 → Int32 → Int32 → Int32 → Mem → Option (Int32 × Mem)} (hk39 : ∀ (r0' : Nat) (x1' : Int32) (x2' : Int32) (x3' : Int32) (x4' : Int32) (M' : Mem), k39 r0' x1' x2' x3' x4' M' = some (r, M2) → Go w f 39 [some (rv w r0'), some (.int x1'), some (.int x2'), some (.int x3'), some (.int x4')] [] M') : ∀ (r0 : Nat) (x1 : Int32) (x2 : Int32) (x4 : Int32) (M : Mem), f_L_words_120 k39 r0 x1 x2 x4 M = some (r, M2) → Go w f 120 [some (rv w r0), some (.int x1), some (.int x2), none, some (.int x4)] [] M := by
  intro r0 x1 x2 x4 M h
  unfold f_L_words_120 at h
  refine g_iconst (v := 0) C dL_words_120 rfl ?_
  exact t_L_words_121 C hR (fun r0' x1' x2' x3' x4' M' h => hk39 r0' x1' x2' x3' x4' M' h) r0 x1 x2 x4 (0 : Int32) M h
def f_L_words_116 (k39 : Nat → Int32 → Int32 → Int32 → Int32 → Mem → Option (Int32 × Mem)) (r0 : Nat) (x1 : Int32) (x2 : Int32) (x4 : Int32) (M : Mem) : Option (Int32 × Mem) := f_L_words_121 k39 r0 x1 x2 x4 (1 : Int32) M
set_option maxRecDepth 100000 in
set_option maxHeartbeats 4000000 in
theorem t_L_words_116 {w : Om} {f : Fr} {r : Int32} {M2 : Mem} (C : Cx w f RL cL_words 5 2) (hR : Rt w f cL_words (some .boolean) (some (.int r)) M2) {k39 : Nat → Int32 → Int32 → Int32 → Int32 → Mem → Option (Int32 × Mem)} (hk39 : ∀ (r0' : Nat) (x1' : Int32) (x2' : Int32) (x3' : Int32) (x4' : Int32) (M' : Mem), k39 r0' x1' x2' x3' x4' M' = some (r, M2) → Go w f 39 [some (rv w r0'), some (.int x1'), some (.int x2'), some (.int x3'), some (.int x4')] [] M') : ∀ (r0 : Nat) (x1 : Int32) (x2 : Int32) (x4 : Int32) (M : Mem), f_L_words_116 k39 r0 x1 x2 x4 M = some (r, M2) → Go w f 116 [some (rv w r0), some (.int x1), some (.int x2), none, some (.int x4)] [] M := by
  intro r0 x1 x2 x4 M h
  unfold f_L_words_116 at h
  refine g_iconst (v := 1) C dL_words_116 rfl ?_
  refine g_goto 121 C dL_words_117 (by decide) ?_
  exact t_L_words_121 C hR (fun r0' x1' x2' x3' x4' M' h => hk39 r0' x1' x2' x3' x4' M' h) r0 x1 x2 x4 (1 : Int32) M h
def f_L_words_76 (k39 : Nat → Int32 → Int32 → Int32 → Int32 → Mem → Option (Int32 × Mem)) (r0 : Nat) (x1 : Int32) (x2 : Int32) (x4 : Int32) (rs0 : Nat) (xs1 : Int32) (xs2 : Int32) (xs3 : Int32) (M : Mem) : Option (Int32 × Mem) := obb (f_L_low xs2 xs3) fun y701 => gdd (kd rs0 = 6) <| opp (f_X5_append rs0 (xs1 + y701) M) fun y706 M704 => if y706 ≤ 0 then (f_L_words_120 k39 r0 x1 x2 x4 M704) else (if (x4 + (1 : Int32)) = x2 then (f_L_words_116 k39 r0 x1 x2 x4 M704) else (obb (f_L_low (x1 >>> (((1 : Int32) + x4) &&& 31)) (4 : Int32)) fun y709 => if 0 < y709 then (f_L_words_116 k39 r0 x1 x2 x4 M704) else (gdd (kd r0 = 6) <| opp (f_X5_append r0 (44 : Int32) M704) fun y715 M713 => if y715 ≤ 0 then (f_L_words_120 k39 r0 x1 x2 x4 M713) else (f_L_words_116 k39 r0 x1 x2 x4 M713))))
set_option maxRecDepth 100000 in
set_option maxHeartbeats 4000000 in
theorem t_L_words_76 {w : Om} {f : Fr} {r : Int32} {M2 : Mem} (C : Cx w f RL cL_words 5 2) (hR : Rt w f cL_words (some .boolean) (some (.int r)) M2) {k39 : Nat → Int32 → Int32 → Int32 → Int32 → Mem → Option (Int32 × Mem)} (hk39 : ∀ (r0' : Nat) (x1' : Int32) (x2' : Int32) (x3' : Int32) (x4' : Int32) (M' : Mem), k39 r0' x1' x2' x3' x4' M' = some (r, M2) → Go w f 39 [some (rv w r0'), some (.int x1'), some (.int x2'), some (.int x3'), some (.int x4')] [] M') : ∀ (r0 : Nat) (x1 : Int32) (x2 : Int32) (x4 : Int32) (rs0 : Nat) (xs1 : Int32) (xs2 : Int32) (xs3 : Int32) (M : Mem), f_L_words_76 k39 r0 x1 x2 x4 rs0 xs1 xs2 xs3 M = some (r, M2) → Go w f 76 [some (rv w r0), some (.int x1), some (.int x2), none, some (.int x4)] [.int xs3, .int xs2, .int xs1, rv w rs0] M := by
  intro r0 x1 x2 x4 rs0 xs1 xs2 xs3 M h
  unfold f_L_words_76 at h
  obtain ⟨y701, e702, h⟩ := of_obb h
  refine g_callS (As := [.int xs2, .int xs3]) C (ct_L_low C.wf e702) lk_RL_56 mi_L_low (by decide) (cs_i (cs_r cs_0)) (by decide) dL_words_76 rfl ?_
  show Go w f 79 [some (rv w r0), some (.int x1), some (.int x2), none, some (.int x4)] [.int y701, .int xs1, rv w rs0] M
  refine g_iadd C dL_words_79 ?_
  obtain ⟨g703, h⟩ := of_gdd h
  obtain ⟨y706, M704, e705, h⟩ := of_opp h
  refine g_callV (As := [.int (xs1 + y701)]) C (ct_X5_append C.wf e705) g703 lk_RL_73 mi_X5_append (by decide) cs_0 (by decide) dL_words_80 rfl ?_
  show Go w f 83 [some (rv w r0), some (.int x1), some (.int x2), none, some (.int x4)] [.int y706] M704
  refine g_if_le 120 C dL_words_83 (by decide) (fun c707 => ?_) (fun c707 => ?_)
  · replace h := of_ift h c707
    exact t_L_words_120 C hR (fun r0' x1' x2' x3' x4' M' h => hk39 r0' x1' x2' x3' x4' M' h) r0 x1 x2 x4 M704 h
  · replace h := of_iff h c707
    refine g_iload C dL_words_86 rfl ?_
    refine g_iconst (v := 1) C dL_words_88 rfl ?_
    refine g_iadd C dL_words_89 ?_
    refine g_iload_n C dL_words_90 rfl rfl ?_
    refine g_icmp_eq 116 C dL_words_91 (by decide) (fun c708 => ?_) (fun c708 => ?_)
    · replace h := of_ift h c708
      exact t_L_words_116 C hR (fun r0' x1' x2' x3' x4' M' h => hk39 r0' x1' x2' x3' x4' M' h) r0 x1 x2 x4 M704 h
    · replace h := of_iff h c708
      refine g_iload_n C dL_words_94 rfl rfl ?_
      refine g_iconst (v := 1) C dL_words_95 rfl ?_
      refine g_iload C dL_words_96 rfl ?_
      refine g_iadd C dL_words_98 ?_
      refine g_ishr C dL_words_99 ?_
      refine g_iconst (v := 4) C dL_words_100 rfl ?_
      obtain ⟨y709, e710, h⟩ := of_obb h
      refine g_callS (As := [.int (x1 >>> (((1 : Int32) + x4) &&& 31)), .int (4 : Int32)]) C (ct_L_low C.wf e710) lk_RL_56 mi_L_low (by decide) cs_0 (by decide) dL_words_101 rfl ?_
      show Go w f 104 [some (rv w r0), some (.int x1), some (.int x2), none, some (.int x4)] [.int y709] M704
      refine g_if_gt 116 C dL_words_104 (by decide) (fun c711 => ?_) (fun c711 => ?_)
      · replace h := of_ift h c711
        exact t_L_words_116 C hR (fun r0' x1' x2' x3' x4' M' h => hk39 r0' x1' x2' x3' x4' M' h) r0 x1 x2 x4 M704 h
      · replace h := of_iff h c711
        refine g_aload_n C dL_words_107 rfl rfl ?_
        refine g_bipush (v := 44) C dL_words_108 rfl ?_
        obtain ⟨g712, h⟩ := of_gdd h
        obtain ⟨y715, M713, e714, h⟩ := of_opp h
        refine g_callV (As := [.int (44 : Int32)]) C (ct_X5_append C.wf e714) g712 lk_RL_73 mi_X5_append (by decide) cs_0 (by decide) dL_words_110 rfl ?_
        show Go w f 113 [some (rv w r0), some (.int x1), some (.int x2), none, some (.int x4)] [.int y715] M713
        refine g_if_le 120 C dL_words_113 (by decide) (fun c716 => ?_) (fun c716 => ?_)
        · replace h := of_ift h c716
          exact t_L_words_120 C hR (fun r0' x1' x2' x3' x4' M' h => hk39 r0' x1' x2' x3' x4' M' h) r0 x1 x2 x4 M713 h
        · replace h := of_iff h c716
          exact t_L_words_116 C hR (fun r0' x1' x2' x3' x4' M' h => hk39 r0' x1' x2' x3' x4' M' h) r0 x1 x2 x4 M713 h
def f_L_words_39 : Nat → Nat → Int32 → Int32 → Int32 → Int32 → Mem → Option (Int32 × Mem)
  | 0, _, _, _, _, _, _ => none
  | n + 1, r0, x1, x2, x3, x4, M => if x2 ≤ x4 then (if x3 = 0 then (some ((0 : Int32), M)) else (obb (f_L_low (x1 >>> ((26 : Int32) &&& 31)) (7 : Int32)) fun y403 => if 0 < y403 then (some ((1 : Int32), M)) else (gdd (kd r0 = 6) <| opp (f_X5_append r0 (44 : Int32) M) fun y409 M407 => if y409 ≤ 0 then (some ((0 : Int32), M407)) else (some ((1 : Int32), M407))))) else (if x3 = 0 then (f_L_words_120 (f_L_words_39 n) r0 x1 x2 x4 M) else (obb (f_L_low (x1 >>> ((23 : Int32) &&& 31)) (9 : Int32)) fun y412 => if y412 = 0 then (f_L_words_76 (f_L_words_39 n) r0 x1 x2 x4 r0 (97 : Int32) (x1 >>> (((2 : Int32) + x4) &&& 31)) (7 : Int32) M) else (f_L_words_76 (f_L_words_39 n) r0 x1 x2 x4 r0 (97 : Int32) (x1 >>> (((2 : Int32) + x4) &&& 31)) (5 : Int32) M)))
set_option maxRecDepth 100000 in
set_option maxHeartbeats 4000000 in
theorem t_L_words_39 {w : Om} {f : Fr} {r : Int32} {M2 : Mem} (C : Cx w f RL cL_words 5 2) (hR : Rt w f cL_words (some .boolean) (some (.int r)) M2)   : ∀ (n : Nat) (r0 : Nat) (x1 : Int32) (x2 : Int32) (x3 : Int32) (x4 : Int32) (M : Mem), f_L_words_39 n r0 x1 x2 x3 x4 M = some (r, M2) → Go w f 39 [some (rv w r0), some (.int x1), some (.int x2), some (.int x3), some (.int x4)] [] M := by
  intro n
  induction n with
  | zero =>
    intro r0 x1 x2 x3 x4 M h
    cases h
  | succ n ih =>
    intro r0 x1 x2 x3 x4 M h
    rw [f_L_words_39] at h
    refine g_iload C dL_words_39 rfl ?_
    refine g_iload_n C dL_words_41 rfl rfl ?_
    refine g_icmp_ge 128 C dL_words_42 (by decide) (fun c401 => ?_) (fun c401 => ?_)
    · replace h := of_ift h c401
      refine g_iload_n C dL_words_128 rfl rfl ?_
      refine g_if_eq 157 C dL_words_129 (by decide) (fun c402 => ?_) (fun c402 => ?_)
      · replace h := of_ift h c402
        refine g_iconst (v := 0) C dL_words_157 rfl ?_
        cases h
        exact hR 158 _ ⟨.boolean, rfl, rfl⟩ dL_words_158
      · replace h := of_iff h c402
        refine g_iload_n C dL_words_132 rfl rfl ?_
        refine g_bipush (v := 26) C dL_words_133 rfl ?_
        refine g_ishr C dL_words_135 ?_
        refine g_bipush (v := 7) C dL_words_136 rfl ?_
        obtain ⟨y403, e404, h⟩ := of_obb h
        refine g_callS (As := [.int (x1 >>> ((26 : Int32) &&& 31)), .int (7 : Int32)]) C (ct_L_low C.wf e404) lk_RL_56 mi_L_low (by decide) cs_0 (by decide) dL_words_138 rfl ?_
        show Go w f 141 [some (rv w r0), some (.int x1), some (.int x2), some (.int x3), some (.int x4)] [.int y403] M
        refine g_if_gt 153 C dL_words_141 (by decide) (fun c405 => ?_) (fun c405 => ?_)
        · replace h := of_ift h c405
          refine g_iconst (v := 1) C dL_words_153 rfl ?_
          refine g_goto 158 C dL_words_154 (by decide) ?_
          cases h
          exact hR 158 _ ⟨.boolean, rfl, rfl⟩ dL_words_158
        · replace h := of_iff h c405
          refine g_aload_n C dL_words_144 rfl rfl ?_
          refine g_bipush (v := 44) C dL_words_145 rfl ?_
          obtain ⟨g406, h⟩ := of_gdd h
          obtain ⟨y409, M407, e408, h⟩ := of_opp h
          refine g_callV (As := [.int (44 : Int32)]) C (ct_X5_append C.wf e408) g406 lk_RL_73 mi_X5_append (by decide) cs_0 (by decide) dL_words_147 rfl ?_
          show Go w f 150 [some (rv w r0), some (.int x1), some (.int x2), some (.int x3), some (.int x4)] [.int y409] M407
          refine g_if_le 157 C dL_words_150 (by decide) (fun c410 => ?_) (fun c410 => ?_)
          · replace h := of_ift h c410
            refine g_iconst (v := 0) C dL_words_157 rfl ?_
            cases h
            exact hR 158 _ ⟨.boolean, rfl, rfl⟩ dL_words_158
          · replace h := of_iff h c410
            refine g_iconst (v := 1) C dL_words_153 rfl ?_
            refine g_goto 158 C dL_words_154 (by decide) ?_
            cases h
            exact hR 158 _ ⟨.boolean, rfl, rfl⟩ dL_words_158
    · replace h := of_iff h c401
      refine g_iload_n C dL_words_45 rfl rfl ?_
      refine g_if_eq 120 C dL_words_46 (by decide) (fun c411 => ?_) (fun c411 => ?_)
      · replace h := of_ift h c411
        refine g_mask (bs := [true, true, true, false, true]) (L2 := [some (rv w r0), some (.int x1), some (.int x2), none, some (.int x4)]) rfl ?_
        exact t_L_words_120 C hR (fun r0' x1' x2' x3' x4' M' h => ih r0' x1' x2' x3' x4' M' h) r0 x1 x2 x4 M h
      · replace h := of_iff h c411
        refine g_aload_n C dL_words_49 rfl rfl ?_
        refine g_bipush (v := 97) C dL_words_50 rfl ?_
        refine g_iload_n C dL_words_52 rfl rfl ?_
        refine g_iconst (v := 2) C dL_words_53 rfl ?_
        refine g_iload C dL_words_54 rfl ?_
        refine g_iadd C dL_words_56 ?_
        refine g_ishr C dL_words_57 ?_
        refine g_iload_n C dL_words_58 rfl rfl ?_
        refine g_bipush (v := 23) C dL_words_59 rfl ?_
        refine g_ishr C dL_words_61 ?_
        refine g_bipush (v := 9) C dL_words_62 rfl ?_
        obtain ⟨y412, e413, h⟩ := of_obb h
        refine g_callS (As := [.int (x1 >>> ((23 : Int32) &&& 31)), .int (9 : Int32)]) C (ct_L_low C.wf e413) lk_RL_56 mi_L_low (by decide) (cs_i (cs_i (cs_r cs_0))) (by decide) dL_words_64 rfl ?_
        show Go w f 67 [some (rv w r0), some (.int x1), some (.int x2), some (.int x3), some (.int x4)] [.int y412, .int (x1 >>> (((2 : Int32) + x4) &&& 31)), .int (97 : Int32), rv w r0] M
        refine g_if_ne 75 C dL_words_67 (by decide) (fun c414 => ?_) (fun c414 => ?_)
        · replace h := of_iff h c414
          refine g_iconst (v := 5) C dL_words_75 rfl ?_
          refine g_mask (bs := [true, true, true, false, true]) (L2 := [some (rv w r0), some (.int x1), some (.int x2), none, some (.int x4)]) rfl ?_
          exact t_L_words_76 C hR (fun r0' x1' x2' x3' x4' M' h => ih r0' x1' x2' x3' x4' M' h) r0 x1 x2 x4 r0 (97 : Int32) (x1 >>> (((2 : Int32) + x4) &&& 31)) (5 : Int32) M h
        · replace h := of_ift h c414
          refine g_bipush (v := 7) C dL_words_70 rfl ?_
          refine g_goto 76 C dL_words_72 (by decide) ?_
          refine g_mask (bs := [true, true, true, false, true]) (L2 := [some (rv w r0), some (.int x1), some (.int x2), none, some (.int x4)]) rfl ?_
          exact t_L_words_76 C hR (fun r0' x1' x2' x3' x4' M' h => ih r0' x1' x2' x3' x4' M' h) r0 x1 x2 x4 r0 (97 : Int32) (x1 >>> (((2 : Int32) + x4) &&& 31)) (7 : Int32) M h
def f_L_words_35 (r0 : Nat) (x1 : Int32) (x2 : Int32) (xs0 : Int32) (M : Mem) : Option (Int32 × Mem) := f_L_words_39 FU r0 x1 x2 xs0 (0 : Int32) M
set_option maxRecDepth 100000 in
set_option maxHeartbeats 4000000 in
theorem t_L_words_35 {w : Om} {f : Fr} {r : Int32} {M2 : Mem} (C : Cx w f RL cL_words 5 2) (hR : Rt w f cL_words (some .boolean) (some (.int r)) M2)   : ∀ (r0 : Nat) (x1 : Int32) (x2 : Int32) (xs0 : Int32) (M : Mem), f_L_words_35 r0 x1 x2 xs0 M = some (r, M2) → Go w f 35 [some (rv w r0), some (.int x1), some (.int x2), none, none] [.int xs0] M := by
  intro r0 x1 x2 xs0 M h
  unfold f_L_words_35 at h
  refine g_istore_n C dL_words_35 rfl (by decide) rfl (L2 := [some (rv w r0), some (.int x1), some (.int x2), some (.int xs0), none]) rfl ?_
  refine g_iconst (v := 0) C dL_words_36 rfl ?_
  refine g_istore C dL_words_37 (by decide) rfl (L2 := [some (rv w r0), some (.int x1), some (.int x2), some (.int xs0), some (.int (0 : Int32))]) rfl ?_
  exact t_L_words_39 C hR _ r0 x1 x2 xs0 (0 : Int32) M h
def f_L_words_19 (r0 : Nat) (x1 : Int32) (xs0 : Int32) (xs1 : Int32) (M : Mem) : Option (Int32 × Mem) := obb (f_L_low xs0 xs1) fun y201 => gdd (kd r0 = 6) <| opp (f_X5_clear r0 M) fun y206 M204 => if y206 < 0 then (f_L_words_35 r0 x1 y201 (0 : Int32) M204) else (f_L_words_35 r0 x1 y201 (1 : Int32) M204)
set_option maxRecDepth 100000 in
set_option maxHeartbeats 4000000 in
theorem t_L_words_19 {w : Om} {f : Fr} {r : Int32} {M2 : Mem} (C : Cx w f RL cL_words 5 2) (hR : Rt w f cL_words (some .boolean) (some (.int r)) M2)   : ∀ (r0 : Nat) (x1 : Int32) (xs0 : Int32) (xs1 : Int32) (M : Mem), f_L_words_19 r0 x1 xs0 xs1 M = some (r, M2) → Go w f 19 [some (rv w r0), some (.int x1), none, none, none] [.int xs1, .int xs0] M := by
  intro r0 x1 xs0 xs1 M h
  unfold f_L_words_19 at h
  obtain ⟨y201, e202, h⟩ := of_obb h
  refine g_callS (As := [.int xs0, .int xs1]) C (ct_L_low C.wf e202) lk_RL_56 mi_L_low (by decide) cs_0 (by decide) dL_words_19 rfl ?_
  show Go w f 22 [some (rv w r0), some (.int x1), none, none, none] [.int y201] M
  refine g_istore_n C dL_words_22 rfl (by decide) rfl (L2 := [some (rv w r0), some (.int x1), some (.int y201), none, none]) rfl ?_
  refine g_aload_n C dL_words_23 rfl rfl ?_
  obtain ⟨g203, h⟩ := of_gdd h
  obtain ⟨y206, M204, e205, h⟩ := of_opp h
  refine g_callV (As := []) C (ct_X5_clear C.wf e205) g203 lk_RL_69 mi_X5_clear (by decide) cs_0 (by decide) dL_words_24 rfl ?_
  show Go w f 27 [some (rv w r0), some (.int x1), some (.int y201), none, none] [.int y206] M204
  refine g_if_lt 34 C dL_words_27 (by decide) (fun c207 => ?_) (fun c207 => ?_)
  · replace h := of_ift h c207
    refine g_iconst (v := 0) C dL_words_34 rfl ?_
    exact t_L_words_35 C hR r0 x1 y201 (0 : Int32) M204 h
  · replace h := of_iff h c207
    refine g_iconst (v := 1) C dL_words_30 rfl ?_
    refine g_goto 35 C dL_words_31 (by decide) ?_
    exact t_L_words_35 C hR r0 x1 y201 (1 : Int32) M204 h
def f_L_words (r0 : Nat) (x1 : Int32) (M : Mem) : Option (Int32 × Mem) := obb (f_L_low (x1 >>> ((22 : Int32) &&& 31)) (4 : Int32)) fun y1 => if y1 = 0 then (f_L_words_19 r0 x1 x1 (14 : Int32) M) else (f_L_words_19 r0 x1 x1 (7 : Int32) M)
set_option maxRecDepth 100000 in
set_option maxHeartbeats 4000000 in
theorem ct_L_words {l : Launch} {w : Om} (hw : Wf w) {r0 : Nat} {x1 : Int32} {M : Mem} {r : Int32} {M2 : Mem} (h : f_L_words r0 x1 M = some (r, M2)) : Ct l w yL_words cL_words 5 (some .boolean) 2 [rv w r0, .int x1] M (some (.int r)) M2 := by
  refine ct_of hw (by decide) (cat_s (rv_cat _ _) (cat_s rfl cat_0)) (Nat.le_of_ble_eq_true rfl) (fun f _ C hR => ?_)
  show Go w f 0 [some (rv w r0), some (.int x1), none, none, none] [] M
  unfold f_L_words at h
  refine g_iload_n C dL_words_0 rfl rfl ?_
  refine g_iload_n C dL_words_1 rfl rfl ?_
  refine g_bipush (v := 22) C dL_words_2 rfl ?_
  refine g_ishr C dL_words_4 ?_
  refine g_iconst (v := 4) C dL_words_5 rfl ?_
  obtain ⟨y1, e2, h⟩ := of_obb h
  refine g_callS (As := [.int (x1 >>> ((22 : Int32) &&& 31)), .int (4 : Int32)]) C (ct_L_low C.wf e2) lk_RL_56 mi_L_low (by decide) (cs_i cs_0) (by decide) dL_words_6 rfl ?_
  show Go w f 9 [some (rv w r0), some (.int x1), none, none, none] [.int y1, .int x1] M
  refine g_if_ne 17 C dL_words_9 (by decide) (fun c3 => ?_) (fun c3 => ?_)
  · replace h := of_iff h c3
    refine g_bipush (v := 7) C dL_words_17 rfl ?_
    exact t_L_words_19 C hR r0 x1 x1 (7 : Int32) M h
  · replace h := of_ift h c3
    refine g_bipush (v := 14) C dL_words_12 rfl ?_
    refine g_goto 19 C dL_words_14 (by decide) ?_
    exact t_L_words_19 C hR r0 x1 x1 (14 : Int32) M h
def f_L_prints_127 (r0 : Nat) (x4 : Int32) (x6 : Int32) (xs0 : Int32) (xs1 : Int32) (xs2 : Int32) (M : Mem) : Option (Int32 × Mem) := if xs0 = (xs1 + xs2) then (if x6 < 0 then (some ((1 : Int32), M)) else (gdd (kd r0 = 6) <| opp (f_X5_edition r0 x6 (0 : Int32) M) fun y406 M404 => opp (f_X5_edition r0 x6 (2 : Int32) M404) fun y409 M407 => if ((y406 + y409) - (1 : Int32)) = x4 then (opp (f_X5_edition r0 x6 (7 : Int32) M407) fun y413 M411 => if y413 = 0 then (opp (f_X5_edition r0 x6 (8 : Int32) M411) fun y417 M415 => if y417 = 0 then (opp (f_X5_edition r0 x6 (9 : Int32) M415) fun y421 M419 => if y421 = 0 then (some ((1 : Int32), M419)) else (some ((0 : Int32), M419))) else (some ((0 : Int32), M415))) else (some ((0 : Int32), M411))) else (some ((0 : Int32), M407)))) else (some ((0 : Int32), M))
set_option maxRecDepth 100000 in
set_option maxHeartbeats 4000000 in
theorem t_L_prints_127 {w : Om} {f : Fr} {r : Int32} {M2 : Mem} (C : Cx w f RL cL_prints 8 7) (hR : Rt w f cL_prints (some .boolean) (some (.int r)) M2)   : ∀ (r0 : Nat) (x4 : Int32) (x6 : Int32) (xs0 : Int32) (xs1 : Int32) (xs2 : Int32) (M : Mem), f_L_prints_127 r0 x4 x6 xs0 xs1 xs2 M = some (r, M2) → Go w f 127 [some (rv w r0), none, none, none, some (.int x4), none, some (.int x6), none] [.int xs2, .int xs1, .int xs0] M := by
  intro r0 x4 x6 xs0 xs1 xs2 M h
  unfold f_L_prints_127 at h
  refine g_iadd C dL_prints_127 ?_
  refine g_icmp_ne 195 C dL_prints_128 (by decide) (fun c401 => ?_) (fun c401 => ?_)
  · replace h := of_iff h c401
    refine g_iconst (v := 0) C dL_prints_195 rfl ?_
    cases h
    exact hR 196 _ ⟨.boolean, rfl, rfl⟩ dL_prints_196
  · replace h := of_ift h c401
    refine g_iload C dL_prints_131 rfl ?_
    refine g_if_lt 191 C dL_prints_133 (by decide) (fun c402 => ?_) (fun c402 => ?_)
    · replace h := of_ift h c402
      refine g_iconst (v := 1) C dL_prints_191 rfl ?_
      refine g_goto 196 C dL_prints_192 (by decide) ?_
      cases h
      exact hR 196 _ ⟨.boolean, rfl, rfl⟩ dL_prints_196
    · replace h := of_iff h c402
      refine g_aload_n C dL_prints_136 rfl rfl ?_
      refine g_iload C dL_prints_137 rfl ?_
      refine g_iconst (v := 0) C dL_prints_139 rfl ?_
      obtain ⟨g403, h⟩ := of_gdd h
      obtain ⟨y406, M404, e405, h⟩ := of_opp h
      refine g_callV (As := [.int x6, .int (0 : Int32)]) C (ct_X5_edition C.wf e405) g403 lk_RL_19 mi_X5_edition (by decide) cs_0 (by decide) dL_prints_140 rfl ?_
      show Go w f 143 [some (rv w r0), none, none, none, some (.int x4), none, some (.int x6), none] [.int y406] M404
      refine g_aload_n C dL_prints_143 rfl rfl ?_
      refine g_iload C dL_prints_144 rfl ?_
      refine g_iconst (v := 2) C dL_prints_146 rfl ?_
      obtain ⟨y409, M407, e408, h⟩ := of_opp h
      refine g_callV (As := [.int x6, .int (2 : Int32)]) C (ct_X5_edition C.wf e408) g403 lk_RL_19 mi_X5_edition (by decide) (cs_i cs_0) (by decide) dL_prints_147 rfl ?_
      show Go w f 150 [some (rv w r0), none, none, none, some (.int x4), none, some (.int x6), none] [.int y409, .int y406] M407
      refine g_iadd C dL_prints_150 ?_
      refine g_iconst (v := 1) C dL_prints_151 rfl ?_
      refine g_isub C dL_prints_152 ?_
      refine g_iload C dL_prints_153 rfl ?_
      refine g_icmp_ne 195 C dL_prints_155 (by decide) (fun c410 => ?_) (fun c410 => ?_)
      · replace h := of_iff h c410
        refine g_iconst (v := 0) C dL_prints_195 rfl ?_
        cases h
        exact hR 196 _ ⟨.boolean, rfl, rfl⟩ dL_prints_196
      · replace h := of_ift h c410
        refine g_aload_n C dL_prints_158 rfl rfl ?_
        refine g_iload C dL_prints_159 rfl ?_
        refine g_bipush (v := 7) C dL_prints_161 rfl ?_
        obtain ⟨y413, M411, e412, h⟩ := of_opp h
        refine g_callV (As := [.int x6, .int (7 : Int32)]) C (ct_X5_edition C.wf e412) g403 lk_RL_19 mi_X5_edition (by decide) cs_0 (by decide) dL_prints_163 rfl ?_
        show Go w f 166 [some (rv w r0), none, none, none, some (.int x4), none, some (.int x6), none] [.int y413] M411
        refine g_if_ne 195 C dL_prints_166 (by decide) (fun c414 => ?_) (fun c414 => ?_)
        · replace h := of_iff h c414
          refine g_iconst (v := 0) C dL_prints_195 rfl ?_
          cases h
          exact hR 196 _ ⟨.boolean, rfl, rfl⟩ dL_prints_196
        · replace h := of_ift h c414
          refine g_aload_n C dL_prints_169 rfl rfl ?_
          refine g_iload C dL_prints_170 rfl ?_
          refine g_bipush (v := 8) C dL_prints_172 rfl ?_
          obtain ⟨y417, M415, e416, h⟩ := of_opp h
          refine g_callV (As := [.int x6, .int (8 : Int32)]) C (ct_X5_edition C.wf e416) g403 lk_RL_19 mi_X5_edition (by decide) cs_0 (by decide) dL_prints_174 rfl ?_
          show Go w f 177 [some (rv w r0), none, none, none, some (.int x4), none, some (.int x6), none] [.int y417] M415
          refine g_if_ne 195 C dL_prints_177 (by decide) (fun c418 => ?_) (fun c418 => ?_)
          · replace h := of_iff h c418
            refine g_iconst (v := 0) C dL_prints_195 rfl ?_
            cases h
            exact hR 196 _ ⟨.boolean, rfl, rfl⟩ dL_prints_196
          · replace h := of_ift h c418
            refine g_aload_n C dL_prints_180 rfl rfl ?_
            refine g_iload C dL_prints_181 rfl ?_
            refine g_bipush (v := 9) C dL_prints_183 rfl ?_
            obtain ⟨y421, M419, e420, h⟩ := of_opp h
            refine g_callV (As := [.int x6, .int (9 : Int32)]) C (ct_X5_edition C.wf e420) g403 lk_RL_19 mi_X5_edition (by decide) cs_0 (by decide) dL_prints_185 rfl ?_
            show Go w f 188 [some (rv w r0), none, none, none, some (.int x4), none, some (.int x6), none] [.int y421] M419
            refine g_if_ne 195 C dL_prints_188 (by decide) (fun c422 => ?_) (fun c422 => ?_)
            · replace h := of_iff h c422
              refine g_iconst (v := 0) C dL_prints_195 rfl ?_
              cases h
              exact hR 196 _ ⟨.boolean, rfl, rfl⟩ dL_prints_196
            · replace h := of_ift h c422
              refine g_iconst (v := 1) C dL_prints_191 rfl ?_
              refine g_goto 196 C dL_prints_192 (by decide) ?_
              cases h
              exact hR 196 _ ⟨.boolean, rfl, rfl⟩ dL_prints_196
def f_L_prints_107 (r0 : Nat) (x4 : Int32) (x5 : Int32) (x6 : Int32) (xs0 : Int32) (xs1 : Int32) (M : Mem) : Option (Int32 × Mem) := if xs0 = xs1 then (gdd (kd r0 = 6) <| opp (f_X5_count r0 (1 : Int32) M) fun y305 M303 => if 0 ≤ x6 then (f_L_prints_127 r0 x4 x6 y305 x5 (1 : Int32) M303) else (f_L_prints_127 r0 x4 x6 y305 x5 (0 : Int32) M303)) else (some ((0 : Int32), M))
set_option maxRecDepth 100000 in
set_option maxHeartbeats 4000000 in
theorem t_L_prints_107 {w : Om} {f : Fr} {r : Int32} {M2 : Mem} (C : Cx w f RL cL_prints 8 7) (hR : Rt w f cL_prints (some .boolean) (some (.int r)) M2)   : ∀ (r0 : Nat) (x4 : Int32) (x5 : Int32) (x6 : Int32) (xs0 : Int32) (xs1 : Int32) (M : Mem), f_L_prints_107 r0 x4 x5 x6 xs0 xs1 M = some (r, M2) → Go w f 107 [some (rv w r0), none, none, none, some (.int x4), some (.int x5), some (.int x6), none] [.int xs1, .int xs0] M := by
  intro r0 x4 x5 x6 xs0 xs1 M h
  unfold f_L_prints_107 at h
  refine g_icmp_ne 195 C dL_prints_107 (by decide) (fun c301 => ?_) (fun c301 => ?_)
  · replace h := of_iff h c301
    refine g_iconst (v := 0) C dL_prints_195 rfl ?_
    cases h
    exact hR 196 _ ⟨.boolean, rfl, rfl⟩ dL_prints_196
  · replace h := of_ift h c301
    refine g_aload_n C dL_prints_110 rfl rfl ?_
    refine g_iconst (v := 1) C dL_prints_111 rfl ?_
    obtain ⟨g302, h⟩ := of_gdd h
    obtain ⟨y305, M303, e304, h⟩ := of_opp h
    refine g_callV (As := [.int (1 : Int32)]) C (ct_X5_count C.wf e304) g302 lk_RL_13 mi_X5_count (by decide) cs_0 (by decide) dL_prints_112 rfl ?_
    show Go w f 115 [some (rv w r0), none, none, none, some (.int x4), some (.int x5), some (.int x6), none] [.int y305] M303
    refine g_iload C dL_prints_115 rfl ?_
    refine g_iload C dL_prints_117 rfl ?_
    refine g_if_ge 126 C dL_prints_119 (by decide) (fun c306 => ?_) (fun c306 => ?_)
    · replace h := of_ift h c306
      refine g_iconst (v := 1) C dL_prints_126 rfl ?_
      refine g_mask (bs := [true, false, false, false, true, false, true, false]) (L2 := [some (rv w r0), none, none, none, some (.int x4), none, some (.int x6), none]) rfl ?_
      exact t_L_prints_127 C hR r0 x4 x6 y305 x5 (1 : Int32) M303 h
    · replace h := of_iff h c306
      refine g_iconst (v := 0) C dL_prints_122 rfl ?_
      refine g_goto 127 C dL_prints_123 (by decide) ?_
      refine g_mask (bs := [true, false, false, false, true, false, true, false]) (L2 := [some (rv w r0), none, none, none, some (.int x4), none, some (.int x6), none]) rfl ?_
      exact t_L_prints_127 C hR r0 x4 x6 y305 x5 (0 : Int32) M303 h
def f_L_prints_94 (r0 : Nat) (x4 : Int32) (x5 : Int32) (x6 : Int32) (x7 : Int32) (M : Mem) : Option (Int32 × Mem) := if 0 ≤ x6 then (f_L_prints_107 r0 x4 x5 x6 x7 (0 : Int32) M) else (f_L_prints_107 r0 x4 x5 x6 x7 x4 M)
set_option maxRecDepth 100000 in
set_option maxHeartbeats 4000000 in
theorem t_L_prints_94 {w : Om} {f : Fr} {r : Int32} {M2 : Mem} (C : Cx w f RL cL_prints 8 7) (hR : Rt w f cL_prints (some .boolean) (some (.int r)) M2)   : ∀ (r0 : Nat) (x4 : Int32) (x5 : Int32) (x6 : Int32) (x7 : Int32) (M : Mem), f_L_prints_94 r0 x4 x5 x6 x7 M = some (r, M2) → Go w f 94 [some (rv w r0), none, none, none, some (.int x4), some (.int x5), some (.int x6), some (.int x7)] [] M := by
  intro r0 x4 x5 x6 x7 M h
  unfold f_L_prints_94 at h
  refine g_iload C dL_prints_94 rfl ?_
  refine g_iload C dL_prints_96 rfl ?_
  refine g_if_ge 106 C dL_prints_98 (by decide) (fun c201 => ?_) (fun c201 => ?_)
  · replace h := of_ift h c201
    refine g_iconst (v := 0) C dL_prints_106 rfl ?_
    refine g_mask (bs := [true, false, false, false, true, true, true, false]) (L2 := [some (rv w r0), none, none, none, some (.int x4), some (.int x5), some (.int x6), none]) rfl ?_
    exact t_L_prints_107 C hR r0 x4 x5 x6 x7 (0 : Int32) M h
  · replace h := of_iff h c201
    refine g_iload C dL_prints_101 rfl ?_
    refine g_goto 107 C dL_prints_103 (by decide) ?_
    refine g_mask (bs := [true, false, false, false, true, true, true, false]) (L2 := [some (rv w r0), none, none, none, some (.int x4), some (.int x5), some (.int x6), none]) rfl ?_
    exact t_L_prints_107 C hR r0 x4 x5 x6 x7 x4 M h
def f_L_prints_71 (r0 : Nat) (x4 : Int32) (x5 : Int32) (x6 : Int32) (x7 : Int32) (xs0 : Int32) (xs1 : Int32) (M : Mem) : Option (Int32 × Mem) := if xs0 = xs1 then (f_L_prints_94 r0 x4 x5 x6 x7 M) else (some ((0 : Int32), M))
set_option maxRecDepth 100000 in
set_option maxHeartbeats 4000000 in
theorem t_L_prints_71 {w : Om} {f : Fr} {r : Int32} {M2 : Mem} (C : Cx w f RL cL_prints 8 7) (hR : Rt w f cL_prints (some .boolean) (some (.int r)) M2)   : ∀ (r0 : Nat) (x4 : Int32) (x5 : Int32) (x6 : Int32) (x7 : Int32) (xs0 : Int32) (xs1 : Int32) (M : Mem), f_L_prints_71 r0 x4 x5 x6 x7 xs0 xs1 M = some (r, M2) → Go w f 71 [some (rv w r0), none, none, none, some (.int x4), some (.int x5), some (.int x6), some (.int x7)] [.int xs1, .int xs0] M := by
  intro r0 x4 x5 x6 x7 xs0 xs1 M h
  unfold f_L_prints_71 at h
  refine g_icmp_ne 195 C dL_prints_71 (by decide) (fun c501 => ?_) (fun c501 => ?_)
  · replace h := of_iff h c501
    refine g_iconst (v := 0) C dL_prints_195 rfl ?_
    cases h
    exact hR 196 _ ⟨.boolean, rfl, rfl⟩ dL_prints_196
  · replace h := of_ift h c501
    refine g_goto 94 C dL_prints_74 (by decide) ?_
    exact t_L_prints_94 C hR r0 x4 x5 x6 x7 M h
def f_L_prints (r0 : Nat) (x1 : Int32) (M : Mem) : Option (Int32 × Mem) := opp (f_L_words r0 x1 M) fun y3 M1 => gdd (kd r0 = 6) <| obb (f_X5_fault r0 (0 : Int32) M1) fun y5 => opp (f_X5_count r0 (13 : Int32) M1) fun y9 M7 => opp (f_X5_count r0 (1 : Int32) M7) fun y12 M10 => opp (f_X5_print r0 M10) fun y15 M13 => opp (f_X5_clear r0 M13) fun y18 M16 => if y3 = 0 then (some ((0 : Int32), M16)) else (if y5 = (-4 : Int32) then (if y15 = (-2 : Int32) then (f_L_prints_94 r0 y9 y12 y15 y18 M16) else (if y12 = (4 : Int32) then (f_L_prints_71 r0 y9 y12 y15 y18 y15 (-3 : Int32) M16) else (f_L_prints_71 r0 y9 y12 y15 y18 y15 y12 M16))) else (if y15 = (-2 : Int32) then (if y5 < 0 then (some ((0 : Int32), M16)) else (if y9 < y5 then (some ((0 : Int32), M16)) else (f_L_prints_94 r0 y9 y12 y15 y18 M16))) else (some ((0 : Int32), M16))))
set_option maxRecDepth 100000 in
set_option maxHeartbeats 4000000 in
theorem ct_L_prints {l : Launch} {w : Om} (hw : Wf w) {r0 : Nat} {x1 : Int32} {M : Mem} {r : Int32} {M2 : Mem} (h : f_L_prints r0 x1 M = some (r, M2)) : Ct l w yL_prints cL_prints 8 (some .boolean) 7 [rv w r0, .int x1] M (some (.int r)) M2 := by
  refine ct_of hw (by decide) (cat_s (rv_cat _ _) (cat_s rfl cat_0)) (Nat.le_of_ble_eq_true rfl) (fun f _ C hR => ?_)
  show Go w f 0 [some (rv w r0), some (.int x1), none, none, none, none, none, none] [] M
  unfold f_L_prints at h
  refine g_aload_n C dL_prints_0 rfl rfl ?_
  refine g_iload_n C dL_prints_1 rfl rfl ?_
  obtain ⟨y3, M1, e2, h⟩ := of_opp h
  refine g_callS (As := [rv w r0, .int x1]) C (ct_L_words C.wf e2) lk_RL_76 mi_L_words (by decide) cs_0 (by decide) dL_prints_2 rfl ?_
  show Go w f 5 [some (rv w r0), some (.int x1), none, none, none, none, none, none] [.int y3] M1
  refine g_istore_n C dL_prints_5 rfl (by decide) rfl (L2 := [some (rv w r0), some (.int x1), some (.int y3), none, none, none, none, none]) rfl ?_
  refine g_aload_n C dL_prints_6 rfl rfl ?_
  refine g_iconst (v := 0) C dL_prints_7 rfl ?_
  obtain ⟨g4, h⟩ := of_gdd h
  obtain ⟨y5, e6, h⟩ := of_obb h
  refine g_callV (As := [.int (0 : Int32)]) C (ct_X5_fault C.wf e6) g4 lk_RL_80 mi_X5_fault (by decide) cs_0 (by decide) dL_prints_8 rfl ?_
  show Go w f 11 [some (rv w r0), some (.int x1), some (.int y3), none, none, none, none, none] [.int y5] M1
  refine g_istore_n C dL_prints_11 rfl (by decide) rfl (L2 := [some (rv w r0), some (.int x1), some (.int y3), some (.int y5), none, none, none, none]) rfl ?_
  refine g_aload_n C dL_prints_12 rfl rfl ?_
  refine g_bipush (v := 13) C dL_prints_13 rfl ?_
  obtain ⟨y9, M7, e8, h⟩ := of_opp h
  refine g_callV (As := [.int (13 : Int32)]) C (ct_X5_count C.wf e8) g4 lk_RL_13 mi_X5_count (by decide) cs_0 (by decide) dL_prints_15 rfl ?_
  show Go w f 18 [some (rv w r0), some (.int x1), some (.int y3), some (.int y5), none, none, none, none] [.int y9] M7
  refine g_istore C dL_prints_18 (by decide) rfl (L2 := [some (rv w r0), some (.int x1), some (.int y3), some (.int y5), some (.int y9), none, none, none]) rfl ?_
  refine g_aload_n C dL_prints_20 rfl rfl ?_
  refine g_iconst (v := 1) C dL_prints_21 rfl ?_
  obtain ⟨y12, M10, e11, h⟩ := of_opp h
  refine g_callV (As := [.int (1 : Int32)]) C (ct_X5_count C.wf e11) g4 lk_RL_13 mi_X5_count (by decide) cs_0 (by decide) dL_prints_22 rfl ?_
  show Go w f 25 [some (rv w r0), some (.int x1), some (.int y3), some (.int y5), some (.int y9), none, none, none] [.int y12] M10
  refine g_istore C dL_prints_25 (by decide) rfl (L2 := [some (rv w r0), some (.int x1), some (.int y3), some (.int y5), some (.int y9), some (.int y12), none, none]) rfl ?_
  refine g_aload_n C dL_prints_27 rfl rfl ?_
  obtain ⟨y15, M13, e14, h⟩ := of_opp h
  refine g_callV (As := []) C (ct_X5_print C.wf e14) g4 lk_RL_83 mi_X5_print (by decide) cs_0 (by decide) dL_prints_28 rfl ?_
  show Go w f 31 [some (rv w r0), some (.int x1), some (.int y3), some (.int y5), some (.int y9), some (.int y12), none, none] [.int y15] M13
  refine g_istore C dL_prints_31 (by decide) rfl (L2 := [some (rv w r0), some (.int x1), some (.int y3), some (.int y5), some (.int y9), some (.int y12), some (.int y15), none]) rfl ?_
  refine g_aload_n C dL_prints_33 rfl rfl ?_
  obtain ⟨y18, M16, e17, h⟩ := of_opp h
  refine g_callV (As := []) C (ct_X5_clear C.wf e17) g4 lk_RL_69 mi_X5_clear (by decide) cs_0 (by decide) dL_prints_34 rfl ?_
  show Go w f 37 [some (rv w r0), some (.int x1), some (.int y3), some (.int y5), some (.int y9), some (.int y12), some (.int y15), none] [.int y18] M16
  refine g_istore C dL_prints_37 (by decide) rfl (L2 := [some (rv w r0), some (.int x1), some (.int y3), some (.int y5), some (.int y9), some (.int y12), some (.int y15), some (.int y18)]) rfl ?_
  refine g_iload_n C dL_prints_39 rfl rfl ?_
  refine g_if_eq 195 C dL_prints_40 (by decide) (fun c19 => ?_) (fun c19 => ?_)
  · replace h := of_ift h c19
    refine g_iconst (v := 0) C dL_prints_195 rfl ?_
    cases h
    exact hR 196 _ ⟨.boolean, rfl, rfl⟩ dL_prints_196
  · replace h := of_iff h c19
    refine g_iload_n C dL_prints_43 rfl rfl ?_
    refine g_bipush (v := -4) C dL_prints_44 rfl ?_
    refine g_icmp_ne 77 C dL_prints_46 (by decide) (fun c20 => ?_) (fun c20 => ?_)
    · replace h := of_iff h c20
      refine g_iload C dL_prints_77 rfl ?_
      refine g_bipush (v := -2) C dL_prints_79 rfl ?_
      refine g_icmp_ne 195 C dL_prints_81 (by decide) (fun c21 => ?_) (fun c21 => ?_)
      · replace h := of_iff h c21
        refine g_iconst (v := 0) C dL_prints_195 rfl ?_
        cases h
        exact hR 196 _ ⟨.boolean, rfl, rfl⟩ dL_prints_196
      · replace h := of_ift h c21
        refine g_iload_n C dL_prints_84 rfl rfl ?_
        refine g_if_lt 195 C dL_prints_85 (by decide) (fun c22 => ?_) (fun c22 => ?_)
        · replace h := of_ift h c22
          refine g_iconst (v := 0) C dL_prints_195 rfl ?_
          cases h
          exact hR 196 _ ⟨.boolean, rfl, rfl⟩ dL_prints_196
        · replace h := of_iff h c22
          refine g_iload_n C dL_prints_88 rfl rfl ?_
          refine g_iload C dL_prints_89 rfl ?_
          refine g_icmp_gt 195 C dL_prints_91 (by decide) (fun c23 => ?_) (fun c23 => ?_)
          · replace h := of_ift h c23
            refine g_iconst (v := 0) C dL_prints_195 rfl ?_
            cases h
            exact hR 196 _ ⟨.boolean, rfl, rfl⟩ dL_prints_196
          · replace h := of_iff h c23
            refine g_mask (bs := [true, false, false, false, true, true, true, true]) (L2 := [some (rv w r0), none, none, none, some (.int y9), some (.int y12), some (.int y15), some (.int y18)]) rfl ?_
            exact t_L_prints_94 C hR r0 y9 y12 y15 y18 M16 h
    · replace h := of_ift h c20
      refine g_iload C dL_prints_49 rfl ?_
      refine g_bipush (v := -2) C dL_prints_51 rfl ?_
      refine g_icmp_eq 94 C dL_prints_53 (by decide) (fun c24 => ?_) (fun c24 => ?_)
      · replace h := of_ift h c24
        refine g_mask (bs := [true, false, false, false, true, true, true, true]) (L2 := [some (rv w r0), none, none, none, some (.int y9), some (.int y12), some (.int y15), some (.int y18)]) rfl ?_
        exact t_L_prints_94 C hR r0 y9 y12 y15 y18 M16 h
      · replace h := of_iff h c24
        refine g_iload C dL_prints_56 rfl ?_
        refine g_iload C dL_prints_58 rfl ?_
        refine g_iconst (v := 4) C dL_prints_60 rfl ?_
        refine g_icmp_ne 69 C dL_prints_61 (by decide) (fun c25 => ?_) (fun c25 => ?_)
        · replace h := of_iff h c25
          refine g_iload C dL_prints_69 rfl ?_
          refine g_mask (bs := [true, false, false, false, true, true, true, true]) (L2 := [some (rv w r0), none, none, none, some (.int y9), some (.int y12), some (.int y15), some (.int y18)]) rfl ?_
          exact t_L_prints_71 C hR r0 y9 y12 y15 y18 y15 y12 M16 h
        · replace h := of_ift h c25
          refine g_bipush (v := -3) C dL_prints_64 rfl ?_
          refine g_goto 71 C dL_prints_66 (by decide) ?_
          refine g_mask (bs := [true, false, false, false, true, true, true, true]) (L2 := [some (rv w r0), none, none, none, some (.int y9), some (.int y12), some (.int y15), some (.int y18)]) rfl ?_
          exact t_L_prints_71 C hR r0 y9 y12 y15 y18 y15 (-3 : Int32) M16 h
def f_L_suits_496 (xs0 : Int32) (xs1 : Int32) (xs2 : Int32) (M : Mem) : Option (Int32 × Mem) := if xs0 = (xs1 - xs2) then (some ((1 : Int32), M)) else (some ((0 : Int32), M))
set_option maxRecDepth 100000 in
set_option maxHeartbeats 4000000 in
theorem t_L_suits_496 {w : Om} {f : Fr} {r : Int32} {M2 : Mem} (C : Cx w f RL cL_suits 17 7) (hR : Rt w f cL_suits (some .boolean) (some (.int r)) M2)   : ∀ (xs0 : Int32) (xs1 : Int32) (xs2 : Int32) (M : Mem), f_L_suits_496 xs0 xs1 xs2 M = some (r, M2) → Go w f 496 [none, none, none, none, none, none, none, none, none, none, none, none, none, none, none, none, none] [.int xs2, .int xs1, .int xs0] M := by
  intro xs0 xs1 xs2 M h
  unfold f_L_suits_496 at h
  refine g_isub C dL_suits_496 ?_
  refine g_icmp_ne 504 C dL_suits_497 (by decide) (fun c601 => ?_) (fun c601 => ?_)
  · replace h := of_iff h c601
    refine g_iconst (v := 0) C dL_suits_504 rfl ?_
    cases h
    exact hR 505 _ ⟨.boolean, rfl, rfl⟩ dL_suits_505
  · replace h := of_ift h c601
    refine g_iconst (v := 1) C dL_suits_500 rfl ?_
    refine g_goto 505 C dL_suits_501 (by decide) ?_
    cases h
    exact hR 505 _ ⟨.boolean, rfl, rfl⟩ dL_suits_505
def f_L_suits_477 (r0 : Nat) (x3 : Int32) (x5 : Int32) (xs0 : Int32) (xs1 : Int32) (M : Mem) : Option (Int32 × Mem) := if xs0 = xs1 then (gdd (kd r0 = 6) <| opp (f_X5_count r0 (1 : Int32) M) fun y505 M503 => if x5 = 0 then (f_L_suits_496 y505 x3 (1 : Int32) M503) else (f_L_suits_496 y505 x3 (0 : Int32) M503)) else (some ((0 : Int32), M))
set_option maxRecDepth 100000 in
set_option maxHeartbeats 4000000 in
theorem t_L_suits_477 {w : Om} {f : Fr} {r : Int32} {M2 : Mem} (C : Cx w f RL cL_suits 17 7) (hR : Rt w f cL_suits (some .boolean) (some (.int r)) M2)   : ∀ (r0 : Nat) (x3 : Int32) (x5 : Int32) (xs0 : Int32) (xs1 : Int32) (M : Mem), f_L_suits_477 r0 x3 x5 xs0 xs1 M = some (r, M2) → Go w f 477 [some (rv w r0), none, none, some (.int x3), none, some (.int x5), none, none, none, none, none, none, none, none, none, none, none] [.int xs1, .int xs0] M := by
  intro r0 x3 x5 xs0 xs1 M h
  unfold f_L_suits_477 at h
  refine g_icmp_ne 504 C dL_suits_477 (by decide) (fun c501 => ?_) (fun c501 => ?_)
  · replace h := of_iff h c501
    refine g_iconst (v := 0) C dL_suits_504 rfl ?_
    cases h
    exact hR 505 _ ⟨.boolean, rfl, rfl⟩ dL_suits_505
  · replace h := of_ift h c501
    refine g_aload_n C dL_suits_480 rfl rfl ?_
    refine g_iconst (v := 1) C dL_suits_481 rfl ?_
    obtain ⟨g502, h⟩ := of_gdd h
    obtain ⟨y505, M503, e504, h⟩ := of_opp h
    refine g_callV (As := [.int (1 : Int32)]) C (ct_X5_count C.wf e504) g502 lk_RL_13 mi_X5_count (by decide) cs_0 (by decide) dL_suits_482 rfl ?_
    show Go w f 485 [some (rv w r0), none, none, some (.int x3), none, some (.int x5), none, none, none, none, none, none, none, none, none, none, none] [.int y505] M503
    refine g_iload_n C dL_suits_485 rfl rfl ?_
    refine g_iload C dL_suits_486 rfl ?_
    refine g_if_eq 495 C dL_suits_488 (by decide) (fun c506 => ?_) (fun c506 => ?_)
    · replace h := of_ift h c506
      refine g_iconst (v := 1) C dL_suits_495 rfl ?_
      refine g_mask (bs := [false, false, false, false, false, false, false, false, false, false, false, false, false, false, false, false, false]) (L2 := [none, none, none, none, none, none, none, none, none, none, none, none, none, none, none, none, none]) rfl ?_
      exact t_L_suits_496 C hR y505 x3 (1 : Int32) M503 h
    · replace h := of_iff h c506
      refine g_iconst (v := 0) C dL_suits_491 rfl ?_
      refine g_goto 496 C dL_suits_492 (by decide) ?_
      refine g_mask (bs := [false, false, false, false, false, false, false, false, false, false, false, false, false, false, false, false, false]) (L2 := [none, none, none, none, none, none, none, none, none, none, none, none, none, none, none, none, none]) rfl ?_
      exact t_L_suits_496 C hR y505 x3 (0 : Int32) M503 h
def f_L_suits_450 (xs0 : Int32) (xs1 : Int32) (M : Mem) : Option (Int32 × Mem) := if xs0 = xs1 then (some ((1 : Int32), M)) else (some ((0 : Int32), M))
set_option maxRecDepth 100000 in
set_option maxHeartbeats 4000000 in
theorem t_L_suits_450 {w : Om} {f : Fr} {r : Int32} {M2 : Mem} (C : Cx w f RL cL_suits 17 7) (hR : Rt w f cL_suits (some .boolean) (some (.int r)) M2)   : ∀ (xs0 : Int32) (xs1 : Int32) (M : Mem), f_L_suits_450 xs0 xs1 M = some (r, M2) → Go w f 450 [none, none, none, none, none, none, none, none, none, none, none, none, none, none, none, none, none] [.int xs1, .int xs0] M := by
  intro xs0 xs1 M h
  unfold f_L_suits_450 at h
  refine g_icmp_ne 457 C dL_suits_450 (by decide) (fun c1101 => ?_) (fun c1101 => ?_)
  · replace h := of_iff h c1101
    refine g_iconst (v := 0) C dL_suits_457 rfl ?_
    cases h
    exact hR 458 _ ⟨.boolean, rfl, rfl⟩ dL_suits_458
  · replace h := of_ift h c1101
    refine g_iconst (v := 1) C dL_suits_453 rfl ?_
    refine g_goto 458 C dL_suits_454 (by decide) ?_
    cases h
    exact hR 458 _ ⟨.boolean, rfl, rfl⟩ dL_suits_458
def f_L_suits_416 (r0 : Nat) (x4 : Int32) (x5 : Int32) (x7 : Int32) (x8 : Int32) (x9 : Int32) (xs0 : Int32) (xs1 : Int32) (M : Mem) : Option (Int32 × Mem) := if xs0 = xs1 then (if x5 = 0 then (gdd (kd r0 = 6) <| opp (f_X5_edition r0 x4 (8 : Int32) M) fun y1006 M1004 => if x9 = 0 then (opp (f_X5_count r0 (0 : Int32) M1004) fun y1010 M1008 => f_L_suits_450 y1006 (y1010 + x8) M1008) else (f_L_suits_450 y1006 x7 M1004)) else (some ((1 : Int32), M))) else (some ((0 : Int32), M))
set_option maxRecDepth 100000 in
set_option maxHeartbeats 4000000 in
theorem t_L_suits_416 {w : Om} {f : Fr} {r : Int32} {M2 : Mem} (C : Cx w f RL cL_suits 17 7) (hR : Rt w f cL_suits (some .boolean) (some (.int r)) M2)   : ∀ (r0 : Nat) (x4 : Int32) (x5 : Int32) (x7 : Int32) (x8 : Int32) (x9 : Int32) (xs0 : Int32) (xs1 : Int32) (M : Mem), f_L_suits_416 r0 x4 x5 x7 x8 x9 xs0 xs1 M = some (r, M2) → Go w f 416 [some (rv w r0), none, none, none, some (.int x4), some (.int x5), none, some (.int x7), some (.int x8), some (.int x9), none, none, none, none, none, none, none] [.int xs1, .int xs0] M := by
  intro r0 x4 x5 x7 x8 x9 xs0 xs1 M h
  unfold f_L_suits_416 at h
  refine g_icmp_ne 457 C dL_suits_416 (by decide) (fun c1001 => ?_) (fun c1001 => ?_)
  · replace h := of_iff h c1001
    refine g_iconst (v := 0) C dL_suits_457 rfl ?_
    cases h
    exact hR 458 _ ⟨.boolean, rfl, rfl⟩ dL_suits_458
  · replace h := of_ift h c1001
    refine g_iload C dL_suits_419 rfl ?_
    refine g_if_ne 453 C dL_suits_421 (by decide) (fun c1002 => ?_) (fun c1002 => ?_)
    · replace h := of_iff h c1002
      refine g_iconst (v := 1) C dL_suits_453 rfl ?_
      refine g_goto 458 C dL_suits_454 (by decide) ?_
      cases h
      exact hR 458 _ ⟨.boolean, rfl, rfl⟩ dL_suits_458
    · replace h := of_ift h c1002
      refine g_aload_n C dL_suits_424 rfl rfl ?_
      refine g_iload C dL_suits_425 rfl ?_
      refine g_bipush (v := 8) C dL_suits_427 rfl ?_
      obtain ⟨g1003, h⟩ := of_gdd h
      obtain ⟨y1006, M1004, e1005, h⟩ := of_opp h
      refine g_callV (As := [.int x4, .int (8 : Int32)]) C (ct_X5_edition C.wf e1005) g1003 lk_RL_19 mi_X5_edition (by decide) cs_0 (by decide) dL_suits_429 rfl ?_
      show Go w f 432 [some (rv w r0), none, none, none, some (.int x4), some (.int x5), none, some (.int x7), some (.int x8), some (.int x9), none, none, none, none, none, none, none] [.int y1006] M1004
      refine g_iload C dL_suits_432 rfl ?_
      refine g_if_eq 442 C dL_suits_434 (by decide) (fun c1007 => ?_) (fun c1007 => ?_)
      · replace h := of_ift h c1007
        refine g_aload_n C dL_suits_442 rfl rfl ?_
        refine g_iconst (v := 0) C dL_suits_443 rfl ?_
        obtain ⟨y1010, M1008, e1009, h⟩ := of_opp h
        refine g_callV (As := [.int (0 : Int32)]) C (ct_X5_count C.wf e1009) g1003 lk_RL_13 mi_X5_count (by decide) (cs_i cs_0) (by decide) dL_suits_444 rfl ?_
        show Go w f 447 [some (rv w r0), none, none, none, some (.int x4), some (.int x5), none, some (.int x7), some (.int x8), some (.int x9), none, none, none, none, none, none, none] [.int y1010, .int y1006] M1008
        refine g_iload C dL_suits_447 rfl ?_
        refine g_iadd C dL_suits_449 ?_
        refine g_mask (bs := [false, false, false, false, false, false, false, false, false, false, false, false, false, false, false, false, false]) (L2 := [none, none, none, none, none, none, none, none, none, none, none, none, none, none, none, none, none]) rfl ?_
        exact t_L_suits_450 C hR y1006 (y1010 + x8) M1008 h
      · replace h := of_iff h c1007
        refine g_iload C dL_suits_437 rfl ?_
        refine g_goto 450 C dL_suits_439 (by decide) ?_
        refine g_mask (bs := [false, false, false, false, false, false, false, false, false, false, false, false, false, false, false, false, false]) (L2 := [none, none, none, none, none, none, none, none, none, none, none, none, none, none, none, none, none]) rfl ?_
        exact t_L_suits_450 C hR y1006 x7 M1004 h
def f_L_suits_395 (r0 : Nat) (x4 : Int32) (x5 : Int32) (x7 : Int32) (x8 : Int32) (xs0 : Int32) (M : Mem) : Option (Int32 × Mem) := gdd (kd r0 = 6) <| opp (f_X5_stay r0 x4 x8 M) fun y904 M902 => if xs0 = 0 then (f_L_suits_416 r0 x4 x5 x7 x8 xs0 y904 x7 M902) else (f_L_suits_416 r0 x4 x5 x7 x8 xs0 y904 (-1 : Int32) M902)
set_option maxRecDepth 100000 in
set_option maxHeartbeats 4000000 in
theorem t_L_suits_395 {w : Om} {f : Fr} {r : Int32} {M2 : Mem} (C : Cx w f RL cL_suits 17 7) (hR : Rt w f cL_suits (some .boolean) (some (.int r)) M2)   : ∀ (r0 : Nat) (x4 : Int32) (x5 : Int32) (x7 : Int32) (x8 : Int32) (xs0 : Int32) (M : Mem), f_L_suits_395 r0 x4 x5 x7 x8 xs0 M = some (r, M2) → Go w f 395 [some (rv w r0), none, none, none, some (.int x4), some (.int x5), none, some (.int x7), some (.int x8), none, none, none, none, none, none, none, none] [.int xs0] M := by
  intro r0 x4 x5 x7 x8 xs0 M h
  unfold f_L_suits_395 at h
  refine g_istore C dL_suits_395 (by decide) rfl (L2 := [some (rv w r0), none, none, none, some (.int x4), some (.int x5), none, some (.int x7), some (.int x8), some (.int xs0), none, none, none, none, none, none, none]) rfl ?_
  refine g_aload_n C dL_suits_397 rfl rfl ?_
  refine g_iload C dL_suits_398 rfl ?_
  refine g_iload C dL_suits_400 rfl ?_
  obtain ⟨g901, h⟩ := of_gdd h
  obtain ⟨y904, M902, e903, h⟩ := of_opp h
  refine g_callV (As := [.int x4, .int x8]) C (ct_X5_stay C.wf e903) g901 lk_RL_99 mi_X5_stay (by decide) cs_0 (by decide) dL_suits_402 rfl ?_
  show Go w f 405 [some (rv w r0), none, none, none, some (.int x4), some (.int x5), none, some (.int x7), some (.int x8), some (.int xs0), none, none, none, none, none, none, none] [.int y904] M902
  refine g_iload C dL_suits_405 rfl ?_
  refine g_if_eq 414 C dL_suits_407 (by decide) (fun c905 => ?_) (fun c905 => ?_)
  · replace h := of_ift h c905
    refine g_iload C dL_suits_414 rfl ?_
    exact t_L_suits_416 C hR r0 x4 x5 x7 x8 xs0 y904 x7 M902 h
  · replace h := of_iff h c905
    refine g_iconst (v := -1) C dL_suits_410 rfl ?_
    refine g_goto 416 C dL_suits_411 (by decide) ?_
    exact t_L_suits_416 C hR r0 x4 x5 x7 x8 xs0 y904 (-1 : Int32) M902 h
def f_L_suits_390 (r0 : Nat) (x4 : Int32) (x5 : Int32) (x7 : Int32) (x8 : Int32) (M : Mem) : Option (Int32 × Mem) := f_L_suits_395 r0 x4 x5 x7 x8 (1 : Int32) M
set_option maxRecDepth 100000 in
set_option maxHeartbeats 4000000 in
theorem t_L_suits_390 {w : Om} {f : Fr} {r : Int32} {M2 : Mem} (C : Cx w f RL cL_suits 17 7) (hR : Rt w f cL_suits (some .boolean) (some (.int r)) M2)   : ∀ (r0 : Nat) (x4 : Int32) (x5 : Int32) (x7 : Int32) (x8 : Int32) (M : Mem), f_L_suits_390 r0 x4 x5 x7 x8 M = some (r, M2) → Go w f 390 [some (rv w r0), none, none, none, some (.int x4), some (.int x5), none, some (.int x7), some (.int x8), none, none, none, none, none, none, none, none] [] M := by
  intro r0 x4 x5 x7 x8 M h
  unfold f_L_suits_390 at h
  refine g_iconst (v := 1) C dL_suits_390 rfl ?_
  refine g_goto 395 C dL_suits_391 (by decide) ?_
  exact t_L_suits_395 C hR r0 x4 x5 x7 x8 (1 : Int32) M h
def f_L_suits_373 (r0 : Nat) (x4 : Int32) (x5 : Int32) (x7 : Int32) (xs0 : Int32) (xs1 : Int32) (M : Mem) : Option (Int32 × Mem) := obb (f_L_low xs0 xs1) fun y701 => if x5 = 0 then (if y701 = (31 : Int32) then (f_L_suits_390 r0 x4 x5 x7 y701 M) else (f_L_suits_395 r0 x4 x5 x7 y701 (0 : Int32) M)) else (f_L_suits_390 r0 x4 x5 x7 y701 M)
set_option maxRecDepth 100000 in
set_option maxHeartbeats 4000000 in
theorem t_L_suits_373 {w : Om} {f : Fr} {r : Int32} {M2 : Mem} (C : Cx w f RL cL_suits 17 7) (hR : Rt w f cL_suits (some .boolean) (some (.int r)) M2)   : ∀ (r0 : Nat) (x4 : Int32) (x5 : Int32) (x7 : Int32) (xs0 : Int32) (xs1 : Int32) (M : Mem), f_L_suits_373 r0 x4 x5 x7 xs0 xs1 M = some (r, M2) → Go w f 373 [some (rv w r0), none, none, none, some (.int x4), some (.int x5), none, some (.int x7), none, none, none, none, none, none, none, none, none] [.int xs1, .int xs0] M := by
  intro r0 x4 x5 x7 xs0 xs1 M h
  unfold f_L_suits_373 at h
  obtain ⟨y701, e702, h⟩ := of_obb h
  refine g_callS (As := [.int xs0, .int xs1]) C (ct_L_low C.wf e702) lk_RL_56 mi_L_low (by decide) cs_0 (by decide) dL_suits_373 rfl ?_
  show Go w f 376 [some (rv w r0), none, none, none, some (.int x4), some (.int x5), none, some (.int x7), none, none, none, none, none, none, none, none, none] [.int y701] M
  refine g_istore C dL_suits_376 (by decide) rfl (L2 := [some (rv w r0), none, none, none, some (.int x4), some (.int x5), none, some (.int x7), some (.int y701), none, none, none, none, none, none, none, none]) rfl ?_
  refine g_iload C dL_suits_378 rfl ?_
  refine g_if_ne 390 C dL_suits_380 (by decide) (fun c703 => ?_) (fun c703 => ?_)
  · replace h := of_iff h c703
    exact t_L_suits_390 C hR r0 x4 x5 x7 y701 M h
  · replace h := of_ift h c703
    refine g_iload C dL_suits_383 rfl ?_
    refine g_bipush (v := 31) C dL_suits_385 rfl ?_
    refine g_icmp_ne 394 C dL_suits_387 (by decide) (fun c704 => ?_) (fun c704 => ?_)
    · replace h := of_iff h c704
      refine g_iconst (v := 0) C dL_suits_394 rfl ?_
      exact t_L_suits_395 C hR r0 x4 x5 x7 y701 (0 : Int32) M h
    · replace h := of_ift h c704
      exact t_L_suits_390 C hR r0 x4 x5 x7 y701 M h
def f_L_suits_338 (xs0 : Int32) (xs1 : Int32) (xs2 : Int32) (M : Mem) : Option (Int32 × Mem) := if xs0 = (xs1 - xs2) then (some ((1 : Int32), M)) else (some ((0 : Int32), M))
set_option maxRecDepth 100000 in
set_option maxHeartbeats 4000000 in
theorem t_L_suits_338 {w : Om} {f : Fr} {r : Int32} {M2 : Mem} (C : Cx w f RL cL_suits 17 7) (hR : Rt w f cL_suits (some .boolean) (some (.int r)) M2)   : ∀ (xs0 : Int32) (xs1 : Int32) (xs2 : Int32) (M : Mem), f_L_suits_338 xs0 xs1 xs2 M = some (r, M2) → Go w f 338 [none, none, none, none, none, none, none, none, none, none, none, none, none, none, none, none, none] [.int xs2, .int xs1, .int xs0] M := by
  intro xs0 xs1 xs2 M h
  unfold f_L_suits_338 at h
  refine g_isub C dL_suits_338 ?_
  refine g_icmp_ne 346 C dL_suits_339 (by decide) (fun c2401 => ?_) (fun c2401 => ?_)
  · replace h := of_iff h c2401
    refine g_iconst (v := 0) C dL_suits_346 rfl ?_
    cases h
    exact hR 347 _ ⟨.boolean, rfl, rfl⟩ dL_suits_347
  · replace h := of_ift h c2401
    refine g_iconst (v := 1) C dL_suits_342 rfl ?_
    refine g_goto 347 C dL_suits_343 (by decide) ?_
    cases h
    exact hR 347 _ ⟨.boolean, rfl, rfl⟩ dL_suits_347
def f_L_suits_311 (r0 : Nat) (x15 : Int32) (x16 : Int32) (xs0 : Int32) (xs1 : Int32) (xs2 : Int32) (M : Mem) : Option (Int32 × Mem) := if xs0 = (xs1 + xs2) then (gdd (kd r0 = 6) <| opp (f_X5_count r0 (3 : Int32) M) fun y2305 M2303 => if x16 < (10 : Int32) then (f_L_suits_338 y2305 x15 (0 : Int32) M2303) else (f_L_suits_338 y2305 x15 (x16 - (10 : Int32)) M2303)) else (some ((0 : Int32), M))
set_option maxRecDepth 100000 in
set_option maxHeartbeats 4000000 in
theorem t_L_suits_311 {w : Om} {f : Fr} {r : Int32} {M2 : Mem} (C : Cx w f RL cL_suits 17 7) (hR : Rt w f cL_suits (some .boolean) (some (.int r)) M2)   : ∀ (r0 : Nat) (x15 : Int32) (x16 : Int32) (xs0 : Int32) (xs1 : Int32) (xs2 : Int32) (M : Mem), f_L_suits_311 r0 x15 x16 xs0 xs1 xs2 M = some (r, M2) → Go w f 311 [some (rv w r0), none, none, none, none, none, none, none, none, none, none, none, none, none, none, some (.int x15), some (.int x16)] [.int xs2, .int xs1, .int xs0] M := by
  intro r0 x15 x16 xs0 xs1 xs2 M h
  unfold f_L_suits_311 at h
  refine g_iadd C dL_suits_311 ?_
  refine g_icmp_ne 346 C dL_suits_312 (by decide) (fun c2301 => ?_) (fun c2301 => ?_)
  · replace h := of_iff h c2301
    refine g_iconst (v := 0) C dL_suits_346 rfl ?_
    cases h
    exact hR 347 _ ⟨.boolean, rfl, rfl⟩ dL_suits_347
  · replace h := of_ift h c2301
    refine g_aload_n C dL_suits_315 rfl rfl ?_
    refine g_iconst (v := 3) C dL_suits_316 rfl ?_
    obtain ⟨g2302, h⟩ := of_gdd h
    obtain ⟨y2305, M2303, e2304, h⟩ := of_opp h
    refine g_callV (As := [.int (3 : Int32)]) C (ct_X5_count C.wf e2304) g2302 lk_RL_13 mi_X5_count (by decide) cs_0 (by decide) dL_suits_317 rfl ?_
    show Go w f 320 [some (rv w r0), none, none, none, none, none, none, none, none, none, none, none, none, none, none, some (.int x15), some (.int x16)] [.int y2305] M2303
    refine g_iload C dL_suits_320 rfl ?_
    refine g_iload C dL_suits_322 rfl ?_
    refine g_bipush (v := 10) C dL_suits_324 rfl ?_
    refine g_icmp_lt 337 C dL_suits_326 (by decide) (fun c2306 => ?_) (fun c2306 => ?_)
    · replace h := of_ift h c2306
      refine g_iconst (v := 0) C dL_suits_337 rfl ?_
      refine g_mask (bs := [false, false, false, false, false, false, false, false, false, false, false, false, false, false, false, false, false]) (L2 := [none, none, none, none, none, none, none, none, none, none, none, none, none, none, none, none, none]) rfl ?_
      exact t_L_suits_338 C hR y2305 x15 (0 : Int32) M2303 h
    · replace h := of_iff h c2306
      refine g_iload C dL_suits_329 rfl ?_
      refine g_bipush (v := 10) C dL_suits_331 rfl ?_
      refine g_isub C dL_suits_333 ?_
      refine g_goto 338 C dL_suits_334 (by decide) ?_
      refine g_mask (bs := [false, false, false, false, false, false, false, false, false, false, false, false, false, false, false, false, false]) (L2 := [none, none, none, none, none, none, none, none, none, none, none, none, none, none, none, none, none]) rfl ?_
      exact t_L_suits_338 C hR y2305 x15 (x16 - (10 : Int32)) M2303 h
def f_L_suits_306 (r0 : Nat) (x15 : Int32) (x16 : Int32) (xs0 : Int32) (xs1 : Int32) (M : Mem) : Option (Int32 × Mem) := f_L_suits_311 r0 x15 x16 xs0 xs1 (0 : Int32) M
set_option maxRecDepth 100000 in
set_option maxHeartbeats 4000000 in
theorem t_L_suits_306 {w : Om} {f : Fr} {r : Int32} {M2 : Mem} (C : Cx w f RL cL_suits 17 7) (hR : Rt w f cL_suits (some .boolean) (some (.int r)) M2)   : ∀ (r0 : Nat) (x15 : Int32) (x16 : Int32) (xs0 : Int32) (xs1 : Int32) (M : Mem), f_L_suits_306 r0 x15 x16 xs0 xs1 M = some (r, M2) → Go w f 306 [some (rv w r0), none, none, none, none, none, none, none, none, none, none, none, none, none, none, some (.int x15), some (.int x16)] [.int xs1, .int xs0] M := by
  intro r0 x15 x16 xs0 xs1 M h
  unfold f_L_suits_306 at h
  refine g_iconst (v := 0) C dL_suits_306 rfl ?_
  refine g_goto 311 C dL_suits_307 (by decide) ?_
  exact t_L_suits_311 C hR r0 x15 x16 xs0 xs1 (0 : Int32) M h
def f_L_suits_284 (r0 : Nat) (x10 : Int32) (x11 : Int32) (x14 : Int32) (x15 : Int32) (x16 : Int32) (xs0 : Int32) (xs1 : Int32) (xs2 : Int32) (M : Mem) : Option (Int32 × Mem) := if xs0 = (xs1 + xs2) then (gdd (kd r0 = 6) <| opp (f_X5_count r0 (7 : Int32) M) fun y2105 M2103 => if x10 = 0 then (if x11 ≤ 0 then (f_L_suits_311 r0 x15 x16 y2105 x14 (1 : Int32) M2103) else (f_L_suits_306 r0 x15 x16 y2105 x14 M2103)) else (f_L_suits_306 r0 x15 x16 y2105 x14 M2103)) else (some ((0 : Int32), M))
set_option maxRecDepth 100000 in
set_option maxHeartbeats 4000000 in
theorem t_L_suits_284 {w : Om} {f : Fr} {r : Int32} {M2 : Mem} (C : Cx w f RL cL_suits 17 7) (hR : Rt w f cL_suits (some .boolean) (some (.int r)) M2)   : ∀ (r0 : Nat) (x10 : Int32) (x11 : Int32) (x14 : Int32) (x15 : Int32) (x16 : Int32) (xs0 : Int32) (xs1 : Int32) (xs2 : Int32) (M : Mem), f_L_suits_284 r0 x10 x11 x14 x15 x16 xs0 xs1 xs2 M = some (r, M2) → Go w f 284 [some (rv w r0), none, none, none, none, none, none, none, none, none, some (.int x10), some (.int x11), none, none, some (.int x14), some (.int x15), some (.int x16)] [.int xs2, .int xs1, .int xs0] M := by
  intro r0 x10 x11 x14 x15 x16 xs0 xs1 xs2 M h
  unfold f_L_suits_284 at h
  refine g_iadd C dL_suits_284 ?_
  refine g_icmp_ne 346 C dL_suits_285 (by decide) (fun c2101 => ?_) (fun c2101 => ?_)
  · replace h := of_iff h c2101
    refine g_iconst (v := 0) C dL_suits_346 rfl ?_
    cases h
    exact hR 347 _ ⟨.boolean, rfl, rfl⟩ dL_suits_347
  · replace h := of_ift h c2101
    refine g_aload_n C dL_suits_288 rfl rfl ?_
    refine g_bipush (v := 7) C dL_suits_289 rfl ?_
    obtain ⟨g2102, h⟩ := of_gdd h
    obtain ⟨y2105, M2103, e2104, h⟩ := of_opp h
    refine g_callV (As := [.int (7 : Int32)]) C (ct_X5_count C.wf e2104) g2102 lk_RL_13 mi_X5_count (by decide) cs_0 (by decide) dL_suits_291 rfl ?_
    show Go w f 294 [some (rv w r0), none, none, none, none, none, none, none, none, none, some (.int x10), some (.int x11), none, none, some (.int x14), some (.int x15), some (.int x16)] [.int y2105] M2103
    refine g_iload C dL_suits_294 rfl ?_
    refine g_iload C dL_suits_296 rfl ?_
    refine g_if_ne 306 C dL_suits_298 (by decide) (fun c2106 => ?_) (fun c2106 => ?_)
    · replace h := of_iff h c2106
      refine g_mask (bs := [true, false, false, false, false, false, false, false, false, false, false, false, false, false, false, true, true]) (L2 := [some (rv w r0), none, none, none, none, none, none, none, none, none, none, none, none, none, none, some (.int x15), some (.int x16)]) rfl ?_
      exact t_L_suits_306 C hR r0 x15 x16 y2105 x14 M2103 h
    · replace h := of_ift h c2106
      refine g_iload C dL_suits_301 rfl ?_
      refine g_if_le 310 C dL_suits_303 (by decide) (fun c2107 => ?_) (fun c2107 => ?_)
      · replace h := of_ift h c2107
        refine g_iconst (v := 1) C dL_suits_310 rfl ?_
        refine g_mask (bs := [true, false, false, false, false, false, false, false, false, false, false, false, false, false, false, true, true]) (L2 := [some (rv w r0), none, none, none, none, none, none, none, none, none, none, none, none, none, none, some (.int x15), some (.int x16)]) rfl ?_
        exact t_L_suits_311 C hR r0 x15 x16 y2105 x14 (1 : Int32) M2103 h
      · replace h := of_iff h c2107
        refine g_mask (bs := [true, false, false, false, false, false, false, false, false, false, false, false, false, false, false, true, true]) (L2 := [some (rv w r0), none, none, none, none, none, none, none, none, none, none, none, none, none, none, some (.int x15), some (.int x16)]) rfl ?_
        exact t_L_suits_306 C hR r0 x15 x16 y2105 x14 M2103 h
def f_L_suits_263 (r0 : Nat) (x10 : Int32) (x11 : Int32) (x13 : Int32) (x14 : Int32) (x15 : Int32) (x16 : Int32) (xs0 : Int32) (xs1 : Int32) (M : Mem) : Option (Int32 × Mem) := if xs0 = xs1 then (gdd (kd r0 = 6) <| opp (f_X5_count r0 (8 : Int32) M) fun y2005 M2003 => if x11 ≤ 0 then (f_L_suits_284 r0 x10 x11 x14 x15 x16 y2005 x13 (0 : Int32) M2003) else (f_L_suits_284 r0 x10 x11 x14 x15 x16 y2005 x13 (1 : Int32) M2003)) else (some ((0 : Int32), M))
set_option maxRecDepth 100000 in
set_option maxHeartbeats 4000000 in
theorem t_L_suits_263 {w : Om} {f : Fr} {r : Int32} {M2 : Mem} (C : Cx w f RL cL_suits 17 7) (hR : Rt w f cL_suits (some .boolean) (some (.int r)) M2)   : ∀ (r0 : Nat) (x10 : Int32) (x11 : Int32) (x13 : Int32) (x14 : Int32) (x15 : Int32) (x16 : Int32) (xs0 : Int32) (xs1 : Int32) (M : Mem), f_L_suits_263 r0 x10 x11 x13 x14 x15 x16 xs0 xs1 M = some (r, M2) → Go w f 263 [some (rv w r0), none, none, none, none, none, none, none, none, none, some (.int x10), some (.int x11), none, some (.int x13), some (.int x14), some (.int x15), some (.int x16)] [.int xs1, .int xs0] M := by
  intro r0 x10 x11 x13 x14 x15 x16 xs0 xs1 M h
  unfold f_L_suits_263 at h
  refine g_icmp_ne 346 C dL_suits_263 (by decide) (fun c2001 => ?_) (fun c2001 => ?_)
  · replace h := of_iff h c2001
    refine g_iconst (v := 0) C dL_suits_346 rfl ?_
    cases h
    exact hR 347 _ ⟨.boolean, rfl, rfl⟩ dL_suits_347
  · replace h := of_ift h c2001
    refine g_aload_n C dL_suits_266 rfl rfl ?_
    refine g_bipush (v := 8) C dL_suits_267 rfl ?_
    obtain ⟨g2002, h⟩ := of_gdd h
    obtain ⟨y2005, M2003, e2004, h⟩ := of_opp h
    refine g_callV (As := [.int (8 : Int32)]) C (ct_X5_count C.wf e2004) g2002 lk_RL_13 mi_X5_count (by decide) cs_0 (by decide) dL_suits_269 rfl ?_
    show Go w f 272 [some (rv w r0), none, none, none, none, none, none, none, none, none, some (.int x10), some (.int x11), none, some (.int x13), some (.int x14), some (.int x15), some (.int x16)] [.int y2005] M2003
    refine g_iload C dL_suits_272 rfl ?_
    refine g_iload C dL_suits_274 rfl ?_
    refine g_if_le 283 C dL_suits_276 (by decide) (fun c2006 => ?_) (fun c2006 => ?_)
    · replace h := of_ift h c2006
      refine g_iconst (v := 0) C dL_suits_283 rfl ?_
      refine g_mask (bs := [true, false, false, false, false, false, false, false, false, false, true, true, false, false, true, true, true]) (L2 := [some (rv w r0), none, none, none, none, none, none, none, none, none, some (.int x10), some (.int x11), none, none, some (.int x14), some (.int x15), some (.int x16)]) rfl ?_
      exact t_L_suits_284 C hR r0 x10 x11 x14 x15 x16 y2005 x13 (0 : Int32) M2003 h
    · replace h := of_iff h c2006
      refine g_iconst (v := 1) C dL_suits_279 rfl ?_
      refine g_goto 284 C dL_suits_280 (by decide) ?_
      refine g_mask (bs := [true, false, false, false, false, false, false, false, false, false, true, true, false, false, true, true, true]) (L2 := [some (rv w r0), none, none, none, none, none, none, none, none, none, some (.int x10), some (.int x11), none, none, some (.int x14), some (.int x15), some (.int x16)]) rfl ?_
      exact t_L_suits_284 C hR r0 x10 x11 x14 x15 x16 y2005 x13 (1 : Int32) M2003 h
def f_L_suits_201 (r0 : Nat) (x4 : Int32) (x9 : Int32) (x10 : Int32) (x11 : Int32) (xs0 : Int32) (M : Mem) : Option (Int32 × Mem) := gdd (kd r0 = 6) <| opp (f_X5_count r0 (8 : Int32) M) fun y1904 M1902 => opp (f_X5_count r0 (7 : Int32) M1902) fun y1907 M1905 => opp (f_X5_count r0 (3 : Int32) M1905) fun y1910 M1908 => opp (f_X5_sue r0 x4 x9 M1908) fun y1913 M1911 => if x10 = 0 then (if x11 ≤ 0 then (f_L_suits_263 r0 x10 x11 y1904 y1907 y1910 y1913 y1913 ((1010 : Int32) - xs0) M1911) else (f_L_suits_263 r0 x10 x11 y1904 y1907 y1910 y1913 y1913 x11 M1911)) else (f_L_suits_263 r0 x10 x11 y1904 y1907 y1910 y1913 y1913 (-1 : Int32) M1911)
set_option maxRecDepth 100000 in
set_option maxHeartbeats 4000000 in
theorem t_L_suits_201 {w : Om} {f : Fr} {r : Int32} {M2 : Mem} (C : Cx w f RL cL_suits 17 7) (hR : Rt w f cL_suits (some .boolean) (some (.int r)) M2)   : ∀ (r0 : Nat) (x4 : Int32) (x9 : Int32) (x10 : Int32) (x11 : Int32) (xs0 : Int32) (M : Mem), f_L_suits_201 r0 x4 x9 x10 x11 xs0 M = some (r, M2) → Go w f 201 [some (rv w r0), none, none, none, some (.int x4), none, none, none, none, some (.int x9), some (.int x10), some (.int x11), none, none, none, none, none] [.int xs0] M := by
  intro r0 x4 x9 x10 x11 xs0 M h
  unfold f_L_suits_201 at h
  refine g_istore C dL_suits_201 (by decide) rfl (L2 := [some (rv w r0), none, none, none, some (.int x4), none, none, none, none, some (.int x9), some (.int x10), some (.int x11), some (.int xs0), none, none, none, none]) rfl ?_
  refine g_aload_n C dL_suits_203 rfl rfl ?_
  refine g_bipush (v := 8) C dL_suits_204 rfl ?_
  obtain ⟨g1901, h⟩ := of_gdd h
  obtain ⟨y1904, M1902, e1903, h⟩ := of_opp h
  refine g_callV (As := [.int (8 : Int32)]) C (ct_X5_count C.wf e1903) g1901 lk_RL_13 mi_X5_count (by decide) cs_0 (by decide) dL_suits_206 rfl ?_
  show Go w f 209 [some (rv w r0), none, none, none, some (.int x4), none, none, none, none, some (.int x9), some (.int x10), some (.int x11), some (.int xs0), none, none, none, none] [.int y1904] M1902
  refine g_istore C dL_suits_209 (by decide) rfl (L2 := [some (rv w r0), none, none, none, some (.int x4), none, none, none, none, some (.int x9), some (.int x10), some (.int x11), some (.int xs0), some (.int y1904), none, none, none]) rfl ?_
  refine g_aload_n C dL_suits_211 rfl rfl ?_
  refine g_bipush (v := 7) C dL_suits_212 rfl ?_
  obtain ⟨y1907, M1905, e1906, h⟩ := of_opp h
  refine g_callV (As := [.int (7 : Int32)]) C (ct_X5_count C.wf e1906) g1901 lk_RL_13 mi_X5_count (by decide) cs_0 (by decide) dL_suits_214 rfl ?_
  show Go w f 217 [some (rv w r0), none, none, none, some (.int x4), none, none, none, none, some (.int x9), some (.int x10), some (.int x11), some (.int xs0), some (.int y1904), none, none, none] [.int y1907] M1905
  refine g_istore C dL_suits_217 (by decide) rfl (L2 := [some (rv w r0), none, none, none, some (.int x4), none, none, none, none, some (.int x9), some (.int x10), some (.int x11), some (.int xs0), some (.int y1904), some (.int y1907), none, none]) rfl ?_
  refine g_aload_n C dL_suits_219 rfl rfl ?_
  refine g_iconst (v := 3) C dL_suits_220 rfl ?_
  obtain ⟨y1910, M1908, e1909, h⟩ := of_opp h
  refine g_callV (As := [.int (3 : Int32)]) C (ct_X5_count C.wf e1909) g1901 lk_RL_13 mi_X5_count (by decide) cs_0 (by decide) dL_suits_221 rfl ?_
  show Go w f 224 [some (rv w r0), none, none, none, some (.int x4), none, none, none, none, some (.int x9), some (.int x10), some (.int x11), some (.int xs0), some (.int y1904), some (.int y1907), none, none] [.int y1910] M1908
  refine g_istore C dL_suits_224 (by decide) rfl (L2 := [some (rv w r0), none, none, none, some (.int x4), none, none, none, none, some (.int x9), some (.int x10), some (.int x11), some (.int xs0), some (.int y1904), some (.int y1907), some (.int y1910), none]) rfl ?_
  refine g_aload_n C dL_suits_226 rfl rfl ?_
  refine g_iload C dL_suits_227 rfl ?_
  refine g_iload C dL_suits_229 rfl ?_
  obtain ⟨y1913, M1911, e1912, h⟩ := of_opp h
  refine g_callV (As := [.int x4, .int x9]) C (ct_X5_sue C.wf e1912) g1901 lk_RL_96 mi_X5_sue (by decide) cs_0 (by decide) dL_suits_231 rfl ?_
  show Go w f 234 [some (rv w r0), none, none, none, some (.int x4), none, none, none, none, some (.int x9), some (.int x10), some (.int x11), some (.int xs0), some (.int y1904), some (.int y1907), some (.int y1910), none] [.int y1913] M1911
  refine g_istore C dL_suits_234 (by decide) rfl (L2 := [some (rv w r0), none, none, none, some (.int x4), none, none, none, none, some (.int x9), some (.int x10), some (.int x11), some (.int xs0), some (.int y1904), some (.int y1907), some (.int y1910), some (.int y1913)]) rfl ?_
  refine g_iload C dL_suits_236 rfl ?_
  refine g_iload C dL_suits_238 rfl ?_
  refine g_if_eq 247 C dL_suits_240 (by decide) (fun c1914 => ?_) (fun c1914 => ?_)
  · replace h := of_ift h c1914
    refine g_iload C dL_suits_247 rfl ?_
    refine g_if_le 257 C dL_suits_249 (by decide) (fun c1915 => ?_) (fun c1915 => ?_)
    · replace h := of_ift h c1915
      refine g_sipush (v := 1010) C dL_suits_257 rfl ?_
      refine g_iload C dL_suits_260 rfl ?_
      refine g_isub C dL_suits_262 ?_
      refine g_mask (bs := [true, false, false, false, false, false, false, false, false, false, true, true, false, true, true, true, true]) (L2 := [some (rv w r0), none, none, none, none, none, none, none, none, none, some (.int x10), some (.int x11), none, some (.int y1904), some (.int y1907), some (.int y1910), some (.int y1913)]) rfl ?_
      exact t_L_suits_263 C hR r0 x10 x11 y1904 y1907 y1910 y1913 y1913 ((1010 : Int32) - xs0) M1911 h
    · replace h := of_iff h c1915
      refine g_iload C dL_suits_252 rfl ?_
      refine g_goto 263 C dL_suits_254 (by decide) ?_
      refine g_mask (bs := [true, false, false, false, false, false, false, false, false, false, true, true, false, true, true, true, true]) (L2 := [some (rv w r0), none, none, none, none, none, none, none, none, none, some (.int x10), some (.int x11), none, some (.int y1904), some (.int y1907), some (.int y1910), some (.int y1913)]) rfl ?_
      exact t_L_suits_263 C hR r0 x10 x11 y1904 y1907 y1910 y1913 y1913 x11 M1911 h
  · replace h := of_iff h c1914
    refine g_iconst (v := -1) C dL_suits_243 rfl ?_
    refine g_goto 263 C dL_suits_244 (by decide) ?_
    refine g_mask (bs := [true, false, false, false, false, false, false, false, false, false, true, true, false, true, true, true, true]) (L2 := [some (rv w r0), none, none, none, none, none, none, none, none, none, some (.int x10), some (.int x11), none, some (.int y1904), some (.int y1907), some (.int y1910), some (.int y1913)]) rfl ?_
    exact t_L_suits_263 C hR r0 x10 x11 y1904 y1907 y1910 y1913 y1913 (-1 : Int32) M1911 h
def f_L_suits_181 (r0 : Nat) (x4 : Int32) (x9 : Int32) (x10 : Int32) (xs0 : Int32) (M : Mem) : Option (Int32 × Mem) := if x10 = 0 then (gdd (kd r0 = 6) <| opp (f_X5_gap r0 x4 x9 (3 : Int32) M) fun y1805 M1803 => f_L_suits_201 r0 x4 x9 x10 xs0 y1805 M1803) else (f_L_suits_201 r0 x4 x9 x10 xs0 (0 : Int32) M)
set_option maxRecDepth 100000 in
set_option maxHeartbeats 4000000 in
theorem t_L_suits_181 {w : Om} {f : Fr} {r : Int32} {M2 : Mem} (C : Cx w f RL cL_suits 17 7) (hR : Rt w f cL_suits (some .boolean) (some (.int r)) M2)   : ∀ (r0 : Nat) (x4 : Int32) (x9 : Int32) (x10 : Int32) (xs0 : Int32) (M : Mem), f_L_suits_181 r0 x4 x9 x10 xs0 M = some (r, M2) → Go w f 181 [some (rv w r0), none, none, none, some (.int x4), none, none, none, none, some (.int x9), some (.int x10), none, none, none, none, none, none] [.int xs0] M := by
  intro r0 x4 x9 x10 xs0 M h
  unfold f_L_suits_181 at h
  refine g_istore C dL_suits_181 (by decide) rfl (L2 := [some (rv w r0), none, none, none, some (.int x4), none, none, none, none, some (.int x9), some (.int x10), some (.int xs0), none, none, none, none, none]) rfl ?_
  refine g_iload C dL_suits_183 rfl ?_
  refine g_if_eq 192 C dL_suits_185 (by decide) (fun c1801 => ?_) (fun c1801 => ?_)
  · replace h := of_ift h c1801
    refine g_aload_n C dL_suits_192 rfl rfl ?_
    refine g_iload C dL_suits_193 rfl ?_
    refine g_iload C dL_suits_195 rfl ?_
    refine g_iconst (v := 3) C dL_suits_197 rfl ?_
    obtain ⟨g1802, h⟩ := of_gdd h
    obtain ⟨y1805, M1803, e1804, h⟩ := of_opp h
    refine g_callV (As := [.int x4, .int x9, .int (3 : Int32)]) C (ct_X5_gap C.wf e1804) g1802 lk_RL_42 mi_X5_gap (by decide) cs_0 (by decide) dL_suits_198 rfl ?_
    show Go w f 201 [some (rv w r0), none, none, none, some (.int x4), none, none, none, none, some (.int x9), some (.int x10), some (.int xs0), none, none, none, none, none] [.int y1805] M1803
    exact t_L_suits_201 C hR r0 x4 x9 x10 xs0 y1805 M1803 h
  · replace h := of_iff h c1801
    refine g_iconst (v := 0) C dL_suits_188 rfl ?_
    refine g_goto 201 C dL_suits_189 (by decide) ?_
    exact t_L_suits_201 C hR r0 x4 x9 x10 xs0 (0 : Int32) M h
def f_L_suits_162 (r0 : Nat) (x4 : Int32) (x9 : Int32) (xs0 : Int32) (M : Mem) : Option (Int32 × Mem) := if xs0 = 0 then (gdd (kd r0 = 6) <| opp (f_X5_whyNot r0 x4 x9 M) fun y1705 M1703 => f_L_suits_181 r0 x4 x9 xs0 y1705 M1703) else (f_L_suits_181 r0 x4 x9 xs0 (0 : Int32) M)
set_option maxRecDepth 100000 in
set_option maxHeartbeats 4000000 in
theorem t_L_suits_162 {w : Om} {f : Fr} {r : Int32} {M2 : Mem} (C : Cx w f RL cL_suits 17 7) (hR : Rt w f cL_suits (some .boolean) (some (.int r)) M2)   : ∀ (r0 : Nat) (x4 : Int32) (x9 : Int32) (xs0 : Int32) (M : Mem), f_L_suits_162 r0 x4 x9 xs0 M = some (r, M2) → Go w f 162 [some (rv w r0), none, none, none, some (.int x4), none, none, none, none, some (.int x9), none, none, none, none, none, none, none] [.int xs0] M := by
  intro r0 x4 x9 xs0 M h
  unfold f_L_suits_162 at h
  refine g_istore C dL_suits_162 (by decide) rfl (L2 := [some (rv w r0), none, none, none, some (.int x4), none, none, none, none, some (.int x9), some (.int xs0), none, none, none, none, none, none]) rfl ?_
  refine g_iload C dL_suits_164 rfl ?_
  refine g_if_eq 173 C dL_suits_166 (by decide) (fun c1701 => ?_) (fun c1701 => ?_)
  · replace h := of_ift h c1701
    refine g_aload_n C dL_suits_173 rfl rfl ?_
    refine g_iload C dL_suits_174 rfl ?_
    refine g_iload C dL_suits_176 rfl ?_
    obtain ⟨g1702, h⟩ := of_gdd h
    obtain ⟨y1705, M1703, e1704, h⟩ := of_opp h
    refine g_callV (As := [.int x4, .int x9]) C (ct_X5_whyNot C.wf e1704) g1702 lk_RL_59 mi_X5_whyNot (by decide) cs_0 (by decide) dL_suits_178 rfl ?_
    show Go w f 181 [some (rv w r0), none, none, none, some (.int x4), none, none, none, none, some (.int x9), some (.int xs0), none, none, none, none, none, none] [.int y1705] M1703
    exact t_L_suits_181 C hR r0 x4 x9 xs0 y1705 M1703 h
  · replace h := of_iff h c1701
    refine g_iconst (v := 0) C dL_suits_169 rfl ?_
    refine g_goto 181 C dL_suits_170 (by decide) ?_
    exact t_L_suits_181 C hR r0 x4 x9 xs0 (0 : Int32) M h
def f_L_suits_157 (r0 : Nat) (x4 : Int32) (x9 : Int32) (M : Mem) : Option (Int32 × Mem) := f_L_suits_162 r0 x4 x9 (1 : Int32) M
set_option maxRecDepth 100000 in
set_option maxHeartbeats 4000000 in
theorem t_L_suits_157 {w : Om} {f : Fr} {r : Int32} {M2 : Mem} (C : Cx w f RL cL_suits 17 7) (hR : Rt w f cL_suits (some .boolean) (some (.int r)) M2)   : ∀ (r0 : Nat) (x4 : Int32) (x9 : Int32) (M : Mem), f_L_suits_157 r0 x4 x9 M = some (r, M2) → Go w f 157 [some (rv w r0), none, none, none, some (.int x4), none, none, none, none, some (.int x9), none, none, none, none, none, none, none] [] M := by
  intro r0 x4 x9 M h
  unfold f_L_suits_157 at h
  refine g_iconst (v := 1) C dL_suits_157 rfl ?_
  refine g_goto 162 C dL_suits_158 (by decide) ?_
  exact t_L_suits_162 C hR r0 x4 x9 (1 : Int32) M h
def f_L_suits_136 (r0 : Nat) (x4 : Int32) (x5 : Int32) (x6 : Int32) (xs0 : Int32) (M : Mem) : Option (Int32 × Mem) := if x5 = 0 then (if xs0 < 0 then (f_L_suits_157 r0 x4 xs0 M) else (if xs0 < (x6 - (1 : Int32)) then (f_L_suits_162 r0 x4 xs0 (0 : Int32) M) else (f_L_suits_157 r0 x4 xs0 M))) else (f_L_suits_157 r0 x4 xs0 M)
set_option maxRecDepth 100000 in
set_option maxHeartbeats 4000000 in
theorem t_L_suits_136 {w : Om} {f : Fr} {r : Int32} {M2 : Mem} (C : Cx w f RL cL_suits 17 7) (hR : Rt w f cL_suits (some .boolean) (some (.int r)) M2)   : ∀ (r0 : Nat) (x4 : Int32) (x5 : Int32) (x6 : Int32) (xs0 : Int32) (M : Mem), f_L_suits_136 r0 x4 x5 x6 xs0 M = some (r, M2) → Go w f 136 [some (rv w r0), none, none, none, some (.int x4), some (.int x5), some (.int x6), none, none, none, none, none, none, none, none, none, none] [.int xs0] M := by
  intro r0 x4 x5 x6 xs0 M h
  unfold f_L_suits_136 at h
  refine g_istore C dL_suits_136 (by decide) trivial (L2 := [some (rv w r0), none, none, none, some (.int x4), some (.int x5), some (.int x6), none, none, some (.int xs0), none, none, none, none, none, none, none]) rfl ?_
  refine g_iload C dL_suits_138 rfl ?_
  refine g_if_ne 157 C dL_suits_140 (by decide) (fun c1501 => ?_) (fun c1501 => ?_)
  · replace h := of_iff h c1501
    refine g_mask (bs := [true, false, false, false, true, false, false, false, false, true, false, false, false, false, false, false, false]) (L2 := [some (rv w r0), none, none, none, some (.int x4), none, none, none, none, some (.int xs0), none, none, none, none, none, none, none]) rfl ?_
    exact t_L_suits_157 C hR r0 x4 xs0 M h
  · replace h := of_ift h c1501
    refine g_iload C dL_suits_143 rfl ?_
    refine g_if_lt 157 C dL_suits_145 (by decide) (fun c1502 => ?_) (fun c1502 => ?_)
    · replace h := of_ift h c1502
      refine g_mask (bs := [true, false, false, false, true, false, false, false, false, true, false, false, false, false, false, false, false]) (L2 := [some (rv w r0), none, none, none, some (.int x4), none, none, none, none, some (.int xs0), none, none, none, none, none, none, none]) rfl ?_
      exact t_L_suits_157 C hR r0 x4 xs0 M h
    · replace h := of_iff h c1502
      refine g_iload C dL_suits_148 rfl ?_
      refine g_iload C dL_suits_150 rfl ?_
      refine g_iconst (v := 1) C dL_suits_152 rfl ?_
      refine g_isub C dL_suits_153 ?_
      refine g_icmp_lt 161 C dL_suits_154 (by decide) (fun c1503 => ?_) (fun c1503 => ?_)
      · replace h := of_ift h c1503
        refine g_iconst (v := 0) C dL_suits_161 rfl ?_
        refine g_mask (bs := [true, false, false, false, true, false, false, false, false, true, false, false, false, false, false, false, false]) (L2 := [some (rv w r0), none, none, none, some (.int x4), none, none, none, none, some (.int xs0), none, none, none, none, none, none, none]) rfl ?_
        exact t_L_suits_162 C hR r0 x4 xs0 (0 : Int32) M h
      · replace h := of_iff h c1503
        refine g_mask (bs := [true, false, false, false, true, false, false, false, false, true, false, false, false, false, false, false, false]) (L2 := [some (rv w r0), none, none, none, some (.int x4), none, none, none, none, some (.int xs0), none, none, none, none, none, none, none]) rfl ?_
        exact t_L_suits_157 C hR r0 x4 xs0 M h
def f_L_suits_135 (r0 : Nat) (x4 : Int32) (x5 : Int32) (x6 : Int32) (xs0 : Int32) (xs1 : Int32) (M : Mem) : Option (Int32 × Mem) := f_L_suits_136 r0 x4 x5 x6 (xs0 - xs1) M
set_option maxRecDepth 100000 in
set_option maxHeartbeats 4000000 in
theorem t_L_suits_135 {w : Om} {f : Fr} {r : Int32} {M2 : Mem} (C : Cx w f RL cL_suits 17 7) (hR : Rt w f cL_suits (some .boolean) (some (.int r)) M2)   : ∀ (r0 : Nat) (x4 : Int32) (x5 : Int32) (x6 : Int32) (xs0 : Int32) (xs1 : Int32) (M : Mem), f_L_suits_135 r0 x4 x5 x6 xs0 xs1 M = some (r, M2) → Go w f 135 [some (rv w r0), none, none, none, some (.int x4), some (.int x5), some (.int x6), none, none, none, none, none, none, none, none, none, none] [.int xs1, .int xs0] M := by
  intro r0 x4 x5 x6 xs0 xs1 M h
  unfold f_L_suits_135 at h
  refine g_isub C dL_suits_135 ?_
  exact t_L_suits_136 C hR r0 x4 x5 x6 (xs0 - xs1) M h
def f_L_suits_108 (r0 : Nat) (x2 : Int32) (x4 : Int32) (x5 : Int32) (x6 : Int32) (M : Mem) : Option (Int32 × Mem) := obb (f_L_low (x2 >>> ((3 : Int32) &&& 31)) (x6 + (1 : Int32))) fun y1301 => obb (f_L_low (x2 >>> ((11 : Int32) &&& 31)) (9 : Int32)) fun y1303 => if y1303 = 0 then (f_L_suits_135 r0 x4 x5 x6 y1301 (1 : Int32) M) else (f_L_suits_135 r0 x4 x5 x6 y1301 (0 : Int32) M)
set_option maxRecDepth 100000 in
set_option maxHeartbeats 4000000 in
theorem t_L_suits_108 {w : Om} {f : Fr} {r : Int32} {M2 : Mem} (C : Cx w f RL cL_suits 17 7) (hR : Rt w f cL_suits (some .boolean) (some (.int r)) M2)   : ∀ (r0 : Nat) (x2 : Int32) (x4 : Int32) (x5 : Int32) (x6 : Int32) (M : Mem), f_L_suits_108 r0 x2 x4 x5 x6 M = some (r, M2) → Go w f 108 [some (rv w r0), none, some (.int x2), none, some (.int x4), some (.int x5), some (.int x6), none, none, none, none, none, none, none, none, none, none] [] M := by
  intro r0 x2 x4 x5 x6 M h
  unfold f_L_suits_108 at h
  refine g_iload_n C dL_suits_108 rfl rfl ?_
  refine g_iconst (v := 3) C dL_suits_109 rfl ?_
  refine g_ishr C dL_suits_110 ?_
  refine g_iload C dL_suits_111 rfl ?_
  refine g_iconst (v := 1) C dL_suits_113 rfl ?_
  refine g_iadd C dL_suits_114 ?_
  obtain ⟨y1301, e1302, h⟩ := of_obb h
  refine g_callS (As := [.int (x2 >>> ((3 : Int32) &&& 31)), .int (x6 + (1 : Int32))]) C (ct_L_low C.wf e1302) lk_RL_56 mi_L_low (by decide) cs_0 (by decide) dL_suits_115 rfl ?_
  show Go w f 118 [some (rv w r0), none, some (.int x2), none, some (.int x4), some (.int x5), some (.int x6), none, none, none, none, none, none, none, none, none, none] [.int y1301] M
  refine g_iload_n C dL_suits_118 rfl rfl ?_
  refine g_bipush (v := 11) C dL_suits_119 rfl ?_
  refine g_ishr C dL_suits_121 ?_
  refine g_bipush (v := 9) C dL_suits_122 rfl ?_
  obtain ⟨y1303, e1304, h⟩ := of_obb h
  refine g_callS (As := [.int (x2 >>> ((11 : Int32) &&& 31)), .int (9 : Int32)]) C (ct_L_low C.wf e1304) lk_RL_56 mi_L_low (by decide) (cs_i cs_0) (by decide) dL_suits_124 rfl ?_
  show Go w f 127 [some (rv w r0), none, some (.int x2), none, some (.int x4), some (.int x5), some (.int x6), none, none, none, none, none, none, none, none, none, none] [.int y1303, .int y1301] M
  refine g_if_ne 134 C dL_suits_127 (by decide) (fun c1305 => ?_) (fun c1305 => ?_)
  · replace h := of_iff h c1305
    refine g_iconst (v := 0) C dL_suits_134 rfl ?_
    refine g_mask (bs := [true, false, false, false, true, true, true, false, false, false, false, false, false, false, false, false, false]) (L2 := [some (rv w r0), none, none, none, some (.int x4), some (.int x5), some (.int x6), none, none, none, none, none, none, none, none, none, none]) rfl ?_
    exact t_L_suits_135 C hR r0 x4 x5 x6 y1301 (0 : Int32) M h
  · replace h := of_ift h c1305
    refine g_iconst (v := 1) C dL_suits_130 rfl ?_
    refine g_goto 135 C dL_suits_131 (by decide) ?_
    refine g_mask (bs := [true, false, false, false, true, true, true, false, false, false, false, false, false, false, false, false, false]) (L2 := [some (rv w r0), none, none, none, some (.int x4), some (.int x5), some (.int x6), none, none, none, none, none, none, none, none, none, none]) rfl ?_
    exact t_L_suits_135 C hR r0 x4 x5 x6 y1301 (1 : Int32) M h
def f_L_suits_85 (r0 : Nat) (x2 : Int32) (x4 : Int32) (x5 : Int32) (x6 : Int32) (xs0 : Int32) (M : Mem) : Option (Int32 × Mem) := obb (f_L_low (x2 >>> ((9 : Int32) &&& 31)) (2 : Int32)) fun y1201 => if y1201 = 0 then (if xs0 < 0 then (f_L_suits_108 r0 x2 x4 x5 x6 M) else (f_L_suits_136 r0 x4 x5 x6 xs0 M)) else (f_L_suits_108 r0 x2 x4 x5 x6 M)
set_option maxRecDepth 100000 in
set_option maxHeartbeats 4000000 in
theorem t_L_suits_85 {w : Om} {f : Fr} {r : Int32} {M2 : Mem} (C : Cx w f RL cL_suits 17 7) (hR : Rt w f cL_suits (some .boolean) (some (.int r)) M2)   : ∀ (r0 : Nat) (x2 : Int32) (x4 : Int32) (x5 : Int32) (x6 : Int32) (xs0 : Int32) (M : Mem), f_L_suits_85 r0 x2 x4 x5 x6 xs0 M = some (r, M2) → Go w f 85 [some (rv w r0), none, some (.int x2), none, some (.int x4), some (.int x5), some (.int x6), none, none, none, none, none, none, none, none, none, none] [.int xs0] M := by
  intro r0 x2 x4 x5 x6 xs0 M h
  unfold f_L_suits_85 at h
  refine g_istore C dL_suits_85 (by decide) trivial (L2 := [some (rv w r0), none, some (.int x2), none, some (.int x4), some (.int x5), some (.int x6), none, some (.int xs0), none, none, none, none, none, none, none, none]) rfl ?_
  refine g_iload_n C dL_suits_87 rfl rfl ?_
  refine g_bipush (v := 9) C dL_suits_88 rfl ?_
  refine g_ishr C dL_suits_90 ?_
  refine g_iconst (v := 2) C dL_suits_91 rfl ?_
  obtain ⟨y1201, e1202, h⟩ := of_obb h
  refine g_callS (As := [.int (x2 >>> ((9 : Int32) &&& 31)), .int (2 : Int32)]) C (ct_L_low C.wf e1202) lk_RL_56 mi_L_low (by decide) cs_0 (by decide) dL_suits_92 rfl ?_
  show Go w f 95 [some (rv w r0), none, some (.int x2), none, some (.int x4), some (.int x5), some (.int x6), none, some (.int xs0), none, none, none, none, none, none, none, none] [.int y1201] M
  refine g_if_ne 108 C dL_suits_95 (by decide) (fun c1203 => ?_) (fun c1203 => ?_)
  · replace h := of_iff h c1203
    refine g_mask (bs := [true, false, true, false, true, true, true, false, false, false, false, false, false, false, false, false, false]) (L2 := [some (rv w r0), none, some (.int x2), none, some (.int x4), some (.int x5), some (.int x6), none, none, none, none, none, none, none, none, none, none]) rfl ?_
    exact t_L_suits_108 C hR r0 x2 x4 x5 x6 M h
  · replace h := of_ift h c1203
    refine g_iload C dL_suits_98 rfl ?_
    refine g_if_lt 108 C dL_suits_100 (by decide) (fun c1204 => ?_) (fun c1204 => ?_)
    · replace h := of_ift h c1204
      refine g_mask (bs := [true, false, true, false, true, true, true, false, false, false, false, false, false, false, false, false, false]) (L2 := [some (rv w r0), none, some (.int x2), none, some (.int x4), some (.int x5), some (.int x6), none, none, none, none, none, none, none, none, none, none]) rfl ?_
      exact t_L_suits_108 C hR r0 x2 x4 x5 x6 M h
    · replace h := of_iff h c1204
      refine g_iload C dL_suits_103 rfl ?_
      refine g_goto 136 C dL_suits_105 (by decide) ?_
      refine g_mask (bs := [true, false, false, false, true, true, true, false, false, false, false, false, false, false, false, false, false]) (L2 := [some (rv w r0), none, none, none, some (.int x4), some (.int x5), some (.int x6), none, none, none, none, none, none, none, none, none, none]) rfl ?_
      exact t_L_suits_136 C hR r0 x4 x5 x6 xs0 M h
def f_L_suits_63 (r0 : Nat) (x1 : Int32) (x2 : Int32) (x3 : Int32) (x4 : Int32) (x5 : Int32) (x6 : Int32) (xs0 : Int32) (M : Mem) : Option (Int32 × Mem) := if x1 = 0 then (if x5 = 0 then (gdd (kd r0 = 6) <| opp (f_X5_bestSuit r0 x4 M) fun y415 M413 => f_L_suits_85 r0 x2 x4 x5 x6 y415 M413) else (f_L_suits_85 r0 x2 x4 x5 x6 (-4 : Int32) M)) else (if x1 = (1 : Int32) then (obb (f_L_low (x2 >>> ((9 : Int32) &&& 31)) (3 : Int32)) fun y408 => if y408 = 0 then (f_L_suits_373 r0 x4 x5 xs0 (x2 >>> ((3 : Int32) &&& 31)) (32 : Int32) M) else (f_L_suits_373 r0 x4 x5 xs0 (x2 >>> ((3 : Int32) &&& 31)) (4 : Int32) M)) else (gdd (kd r0 = 6) <| opp (f_X5_drop r0 x4 M) fun y406 M404 => if x5 = 0 then (f_L_suits_477 r0 x3 x5 y406 (x3 - (1 : Int32)) M404) else (f_L_suits_477 r0 x3 x5 y406 (-1 : Int32) M404)))
set_option maxRecDepth 100000 in
set_option maxHeartbeats 4000000 in
theorem t_L_suits_63 {w : Om} {f : Fr} {r : Int32} {M2 : Mem} (C : Cx w f RL cL_suits 17 7) (hR : Rt w f cL_suits (some .boolean) (some (.int r)) M2)   : ∀ (r0 : Nat) (x1 : Int32) (x2 : Int32) (x3 : Int32) (x4 : Int32) (x5 : Int32) (x6 : Int32) (xs0 : Int32) (M : Mem), f_L_suits_63 r0 x1 x2 x3 x4 x5 x6 xs0 M = some (r, M2) → Go w f 63 [some (rv w r0), some (.int x1), some (.int x2), some (.int x3), some (.int x4), some (.int x5), some (.int x6), none, none, none, none, none, none, none, none, none, none] [.int xs0] M := by
  intro r0 x1 x2 x3 x4 x5 x6 xs0 M h
  unfold f_L_suits_63 at h
  refine g_istore C dL_suits_63 (by decide) rfl (L2 := [some (rv w r0), some (.int x1), some (.int x2), some (.int x3), some (.int x4), some (.int x5), some (.int x6), some (.int xs0), none, none, none, none, none, none, none, none, none]) rfl ?_
  refine g_iload_n C dL_suits_65 rfl rfl ?_
  refine g_if_ne 348 C dL_suits_66 (by decide) (fun c401 => ?_) (fun c401 => ?_)
  · replace h := of_iff h c401
    refine g_iload_n C dL_suits_348 rfl rfl ?_
    refine g_iconst (v := 1) C dL_suits_349 rfl ?_
    refine g_icmp_ne 459 C dL_suits_350 (by decide) (fun c402 => ?_) (fun c402 => ?_)
    · replace h := of_iff h c402
      refine g_aload_n C dL_suits_459 rfl rfl ?_
      refine g_iload C dL_suits_460 rfl ?_
      obtain ⟨g403, h⟩ := of_gdd h
      obtain ⟨y406, M404, e405, h⟩ := of_opp h
      refine g_callV (As := [.int x4]) C (ct_X5_drop C.wf e405) g403 lk_RL_102 mi_X5_drop (by decide) cs_0 (by decide) dL_suits_462 rfl ?_
      show Go w f 465 [some (rv w r0), some (.int x1), some (.int x2), some (.int x3), some (.int x4), some (.int x5), some (.int x6), some (.int xs0), none, none, none, none, none, none, none, none, none] [.int y406] M404
      refine g_iload C dL_suits_465 rfl ?_
      refine g_if_eq 474 C dL_suits_467 (by decide) (fun c407 => ?_) (fun c407 => ?_)
      · replace h := of_ift h c407
        refine g_iload_n C dL_suits_474 rfl rfl ?_
        refine g_iconst (v := 1) C dL_suits_475 rfl ?_
        refine g_isub C dL_suits_476 ?_
        refine g_mask (bs := [true, false, false, true, false, true, false, false, false, false, false, false, false, false, false, false, false]) (L2 := [some (rv w r0), none, none, some (.int x3), none, some (.int x5), none, none, none, none, none, none, none, none, none, none, none]) rfl ?_
        exact t_L_suits_477 C hR r0 x3 x5 y406 (x3 - (1 : Int32)) M404 h
      · replace h := of_iff h c407
        refine g_iconst (v := -1) C dL_suits_470 rfl ?_
        refine g_goto 477 C dL_suits_471 (by decide) ?_
        refine g_mask (bs := [true, false, false, true, false, true, false, false, false, false, false, false, false, false, false, false, false]) (L2 := [some (rv w r0), none, none, some (.int x3), none, some (.int x5), none, none, none, none, none, none, none, none, none, none, none]) rfl ?_
        exact t_L_suits_477 C hR r0 x3 x5 y406 (-1 : Int32) M404 h
    · replace h := of_ift h c402
      refine g_iload_n C dL_suits_353 rfl rfl ?_
      refine g_iconst (v := 3) C dL_suits_354 rfl ?_
      refine g_ishr C dL_suits_355 ?_
      refine g_iload_n C dL_suits_356 rfl rfl ?_
      refine g_bipush (v := 9) C dL_suits_357 rfl ?_
      refine g_ishr C dL_suits_359 ?_
      refine g_iconst (v := 3) C dL_suits_360 rfl ?_
      obtain ⟨y408, e409, h⟩ := of_obb h
      refine g_callS (As := [.int (x2 >>> ((9 : Int32) &&& 31)), .int (3 : Int32)]) C (ct_L_low C.wf e409) lk_RL_56 mi_L_low (by decide) (cs_i cs_0) (by decide) dL_suits_361 rfl ?_
      show Go w f 364 [some (rv w r0), some (.int x1), some (.int x2), some (.int x3), some (.int x4), some (.int x5), some (.int x6), some (.int xs0), none, none, none, none, none, none, none, none, none] [.int y408, .int (x2 >>> ((3 : Int32) &&& 31))] M
      refine g_if_ne 372 C dL_suits_364 (by decide) (fun c410 => ?_) (fun c410 => ?_)
      · replace h := of_iff h c410
        refine g_iconst (v := 4) C dL_suits_372 rfl ?_
        refine g_mask (bs := [true, false, false, false, true, true, false, true, false, false, false, false, false, false, false, false, false]) (L2 := [some (rv w r0), none, none, none, some (.int x4), some (.int x5), none, some (.int xs0), none, none, none, none, none, none, none, none, none]) rfl ?_
        exact t_L_suits_373 C hR r0 x4 x5 xs0 (x2 >>> ((3 : Int32) &&& 31)) (4 : Int32) M h
      · replace h := of_ift h c410
        refine g_bipush (v := 32) C dL_suits_367 rfl ?_
        refine g_goto 373 C dL_suits_369 (by decide) ?_
        refine g_mask (bs := [true, false, false, false, true, true, false, true, false, false, false, false, false, false, false, false, false]) (L2 := [some (rv w r0), none, none, none, some (.int x4), some (.int x5), none, some (.int xs0), none, none, none, none, none, none, none, none, none]) rfl ?_
        exact t_L_suits_373 C hR r0 x4 x5 xs0 (x2 >>> ((3 : Int32) &&& 31)) (32 : Int32) M h
  · replace h := of_ift h c401
    refine g_iload C dL_suits_69 rfl ?_
    refine g_if_eq 79 C dL_suits_71 (by decide) (fun c411 => ?_) (fun c411 => ?_)
    · replace h := of_ift h c411
      refine g_aload_n C dL_suits_79 rfl rfl ?_
      refine g_iload C dL_suits_80 rfl ?_
      obtain ⟨g412, h⟩ := of_gdd h
      obtain ⟨y415, M413, e414, h⟩ := of_opp h
      refine g_callV (As := [.int x4]) C (ct_X5_bestSuit C.wf e414) g412 lk_RL_62 mi_X5_bestSuit (by decide) cs_0 (by decide) dL_suits_82 rfl ?_
      show Go w f 85 [some (rv w r0), some (.int x1), some (.int x2), some (.int x3), some (.int x4), some (.int x5), some (.int x6), some (.int xs0), none, none, none, none, none, none, none, none, none] [.int y415] M413
      refine g_mask (bs := [true, false, true, false, true, true, true, false, false, false, false, false, false, false, false, false, false]) (L2 := [some (rv w r0), none, some (.int x2), none, some (.int x4), some (.int x5), some (.int x6), none, none, none, none, none, none, none, none, none, none]) rfl ?_
      exact t_L_suits_85 C hR r0 x2 x4 x5 x6 y415 M413 h
    · replace h := of_iff h c411
      refine g_bipush (v := -4) C dL_suits_74 rfl ?_
      refine g_goto 85 C dL_suits_76 (by decide) ?_
      refine g_mask (bs := [true, false, true, false, true, true, true, false, false, false, false, false, false, false, false, false, false]) (L2 := [some (rv w r0), none, some (.int x2), none, some (.int x4), some (.int x5), some (.int x6), none, none, none, none, none, none, none, none, none, none]) rfl ?_
      exact t_L_suits_85 C hR r0 x2 x4 x5 x6 (-4 : Int32) M h
def f_L_suits_44 (r0 : Nat) (x1 : Int32) (x2 : Int32) (x3 : Int32) (x4 : Int32) (x5 : Int32) (xs0 : Int32) (M : Mem) : Option (Int32 × Mem) := if x5 = 0 then (gdd (kd r0 = 6) <| opp (f_X5_edition r0 x4 (8 : Int32) M) fun y305 M303 => f_L_suits_63 r0 x1 x2 x3 x4 x5 xs0 y305 M303) else (f_L_suits_63 r0 x1 x2 x3 x4 x5 xs0 (0 : Int32) M)
set_option maxRecDepth 100000 in
set_option maxHeartbeats 4000000 in
theorem t_L_suits_44 {w : Om} {f : Fr} {r : Int32} {M2 : Mem} (C : Cx w f RL cL_suits 17 7) (hR : Rt w f cL_suits (some .boolean) (some (.int r)) M2)   : ∀ (r0 : Nat) (x1 : Int32) (x2 : Int32) (x3 : Int32) (x4 : Int32) (x5 : Int32) (xs0 : Int32) (M : Mem), f_L_suits_44 r0 x1 x2 x3 x4 x5 xs0 M = some (r, M2) → Go w f 44 [some (rv w r0), some (.int x1), some (.int x2), some (.int x3), some (.int x4), some (.int x5), none, none, none, none, none, none, none, none, none, none, none] [.int xs0] M := by
  intro r0 x1 x2 x3 x4 x5 xs0 M h
  unfold f_L_suits_44 at h
  refine g_istore C dL_suits_44 (by decide) rfl (L2 := [some (rv w r0), some (.int x1), some (.int x2), some (.int x3), some (.int x4), some (.int x5), some (.int xs0), none, none, none, none, none, none, none, none, none, none]) rfl ?_
  refine g_iload C dL_suits_46 rfl ?_
  refine g_if_eq 55 C dL_suits_48 (by decide) (fun c301 => ?_) (fun c301 => ?_)
  · replace h := of_ift h c301
    refine g_aload_n C dL_suits_55 rfl rfl ?_
    refine g_iload C dL_suits_56 rfl ?_
    refine g_bipush (v := 8) C dL_suits_58 rfl ?_
    obtain ⟨g302, h⟩ := of_gdd h
    obtain ⟨y305, M303, e304, h⟩ := of_opp h
    refine g_callV (As := [.int x4, .int (8 : Int32)]) C (ct_X5_edition C.wf e304) g302 lk_RL_19 mi_X5_edition (by decide) cs_0 (by decide) dL_suits_60 rfl ?_
    show Go w f 63 [some (rv w r0), some (.int x1), some (.int x2), some (.int x3), some (.int x4), some (.int x5), some (.int xs0), none, none, none, none, none, none, none, none, none, none] [.int y305] M303
    exact t_L_suits_63 C hR r0 x1 x2 x3 x4 x5 xs0 y305 M303 h
  · replace h := of_iff h c301
    refine g_iconst (v := 0) C dL_suits_51 rfl ?_
    refine g_goto 63 C dL_suits_52 (by decide) ?_
    exact t_L_suits_63 C hR r0 x1 x2 x3 x4 x5 xs0 (0 : Int32) M h
def f_L_suits_26 (r0 : Nat) (x1 : Int32) (x2 : Int32) (x3 : Int32) (x4 : Int32) (xs0 : Int32) (M : Mem) : Option (Int32 × Mem) := if xs0 = 0 then (gdd (kd r0 = 6) <| opp (f_X5_edition r0 x4 (0 : Int32) M) fun y205 M203 => f_L_suits_44 r0 x1 x2 x3 x4 xs0 y205 M203) else (f_L_suits_44 r0 x1 x2 x3 x4 xs0 (0 : Int32) M)
set_option maxRecDepth 100000 in
set_option maxHeartbeats 4000000 in
theorem t_L_suits_26 {w : Om} {f : Fr} {r : Int32} {M2 : Mem} (C : Cx w f RL cL_suits 17 7) (hR : Rt w f cL_suits (some .boolean) (some (.int r)) M2)   : ∀ (r0 : Nat) (x1 : Int32) (x2 : Int32) (x3 : Int32) (x4 : Int32) (xs0 : Int32) (M : Mem), f_L_suits_26 r0 x1 x2 x3 x4 xs0 M = some (r, M2) → Go w f 26 [some (rv w r0), some (.int x1), some (.int x2), some (.int x3), some (.int x4), none, none, none, none, none, none, none, none, none, none, none, none] [.int xs0] M := by
  intro r0 x1 x2 x3 x4 xs0 M h
  unfold f_L_suits_26 at h
  refine g_istore C dL_suits_26 (by decide) rfl (L2 := [some (rv w r0), some (.int x1), some (.int x2), some (.int x3), some (.int x4), some (.int xs0), none, none, none, none, none, none, none, none, none, none, none]) rfl ?_
  refine g_iload C dL_suits_28 rfl ?_
  refine g_if_eq 37 C dL_suits_30 (by decide) (fun c201 => ?_) (fun c201 => ?_)
  · replace h := of_ift h c201
    refine g_aload_n C dL_suits_37 rfl rfl ?_
    refine g_iload C dL_suits_38 rfl ?_
    refine g_iconst (v := 0) C dL_suits_40 rfl ?_
    obtain ⟨g202, h⟩ := of_gdd h
    obtain ⟨y205, M203, e204, h⟩ := of_opp h
    refine g_callV (As := [.int x4, .int (0 : Int32)]) C (ct_X5_edition C.wf e204) g202 lk_RL_19 mi_X5_edition (by decide) cs_0 (by decide) dL_suits_41 rfl ?_
    show Go w f 44 [some (rv w r0), some (.int x1), some (.int x2), some (.int x3), some (.int x4), some (.int xs0), none, none, none, none, none, none, none, none, none, none, none] [.int y205] M203
    exact t_L_suits_44 C hR r0 x1 x2 x3 x4 xs0 y205 M203 h
  · replace h := of_iff h c201
    refine g_iconst (v := 0) C dL_suits_33 rfl ?_
    refine g_goto 44 C dL_suits_34 (by decide) ?_
    exact t_L_suits_44 C hR r0 x1 x2 x3 x4 xs0 (0 : Int32) M h
def f_L_suits (r0 : Nat) (x1 : Int32) (x2 : Int32) (M : Mem) : Option (Int32 × Mem) := gdd (kd r0 = 6) <| opp (f_X5_count r0 (1 : Int32) M) fun y4 M2 => obb (f_L_low x2 (y4 + (1 : Int32))) fun y5 => if y5 = y4 then (f_L_suits_26 r0 x1 x2 y4 y5 (1 : Int32) M2) else (f_L_suits_26 r0 x1 x2 y4 y5 (0 : Int32) M2)
set_option maxRecDepth 100000 in
set_option maxHeartbeats 4000000 in
theorem ct_L_suits {l : Launch} {w : Om} (hw : Wf w) {r0 : Nat} {x1 : Int32} {x2 : Int32} {M : Mem} {r : Int32} {M2 : Mem} (h : f_L_suits r0 x1 x2 M = some (r, M2)) : Ct l w yL_suits cL_suits 17 (some .boolean) 7 [rv w r0, .int x1, .int x2] M (some (.int r)) M2 := by
  refine ct_of hw (by decide) (cat_s (rv_cat _ _) (cat_s rfl (cat_s rfl cat_0))) (Nat.le_of_ble_eq_true rfl) (fun f _ C hR => ?_)
  show Go w f 0 [some (rv w r0), some (.int x1), some (.int x2), none, none, none, none, none, none, none, none, none, none, none, none, none, none] [] M
  unfold f_L_suits at h
  refine g_aload_n C dL_suits_0 rfl rfl ?_
  refine g_iconst (v := 1) C dL_suits_1 rfl ?_
  obtain ⟨g1, h⟩ := of_gdd h
  obtain ⟨y4, M2, e3, h⟩ := of_opp h
  refine g_callV (As := [.int (1 : Int32)]) C (ct_X5_count C.wf e3) g1 lk_RL_13 mi_X5_count (by decide) cs_0 (by decide) dL_suits_2 rfl ?_
  show Go w f 5 [some (rv w r0), some (.int x1), some (.int x2), none, none, none, none, none, none, none, none, none, none, none, none, none, none] [.int y4] M2
  refine g_istore_n C dL_suits_5 rfl (by decide) rfl (L2 := [some (rv w r0), some (.int x1), some (.int x2), some (.int y4), none, none, none, none, none, none, none, none, none, none, none, none, none]) rfl ?_
  refine g_iload_n C dL_suits_6 rfl rfl ?_
  refine g_iload_n C dL_suits_7 rfl rfl ?_
  refine g_iconst (v := 1) C dL_suits_8 rfl ?_
  refine g_iadd C dL_suits_9 ?_
  obtain ⟨y5, e6, h⟩ := of_obb h
  refine g_callS (As := [.int x2, .int (y4 + (1 : Int32))]) C (ct_L_low C.wf e6) lk_RL_56 mi_L_low (by decide) cs_0 (by decide) dL_suits_10 rfl ?_
  show Go w f 13 [some (rv w r0), some (.int x1), some (.int x2), some (.int y4), none, none, none, none, none, none, none, none, none, none, none, none, none] [.int y5] M2
  refine g_istore C dL_suits_13 (by decide) rfl (L2 := [some (rv w r0), some (.int x1), some (.int x2), some (.int y4), some (.int y5), none, none, none, none, none, none, none, none, none, none, none, none]) rfl ?_
  refine g_iload C dL_suits_15 rfl ?_
  refine g_iload_n C dL_suits_17 rfl rfl ?_
  refine g_icmp_ne 25 C dL_suits_18 (by decide) (fun c7 => ?_) (fun c7 => ?_)
  · replace h := of_iff h c7
    refine g_iconst (v := 0) C dL_suits_25 rfl ?_
    exact t_L_suits_26 C hR r0 x1 x2 y4 y5 (0 : Int32) M2 h
  · replace h := of_ift h c7
    refine g_iconst (v := 1) C dL_suits_21 rfl ?_
    refine g_goto 26 C dL_suits_22 (by decide) ?_
    exact t_L_suits_26 C hR r0 x1 x2 y4 y5 (1 : Int32) M2 h
