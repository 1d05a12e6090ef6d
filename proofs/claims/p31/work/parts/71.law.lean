def f_L_law_391 (L : Nat) (xs : Nat → Int32) (r1 : Nat) (x2 : Int32) (M : Mem) : Option (Int32 × Mem) := if x2 = 0 then (some ((0 : Int32), M)) else (opp (f_L_holds r1 M) fun y604 M602 => if y604 = 0 then (some ((0 : Int32), M602)) else (some ((1 : Int32), M602)))
set_option maxRecDepth 100000 in
set_option maxHeartbeats 4000000 in
theorem t_L_law_391 {w : Om} {f : Fr} {r : Int32} {M2 : Mem} (C : Cx w f RL cL_law 13 24) (hR : Rt w f cL_law (some .boolean) (some (.int r)) M2) {L : Nat} {xs : Nat → Int32} (hX : Sx w f L xs)   : ∀ (r1 : Nat) (x2 : Int32) (M : Mem), f_L_law_391 L xs r1 x2 M = some (r, M2) → Go w f 391 [none, some (rv w r1), some (.int x2), none, none, none, none, none, none, none, none, none, none] [] M := by
  intro r1 x2 M h
  unfold f_L_law_391 at h
  refine g_iload_n C dL_law_391 rfl rfl ?_
  refine g_if_eq 406 C dL_law_392 (by decide) (fun c601 => ?_) (fun c601 => ?_)
  · replace h := of_ift h c601
    refine g_iconst (v := 0) C dL_law_406 rfl ?_
    cases h
    exact hR 407 _ ⟨.boolean, rfl, rfl⟩ dL_law_407
  · replace h := of_iff h c601
    refine g_aload_n C dL_law_395 rfl rfl ?_
    obtain ⟨y604, M602, e603, h⟩ := of_opp h
    refine g_callS (As := [rv w r1]) C (ct_L_holds C.wf e603) lk_RL_132 mi_L_holds (by decide) cs_0 (by decide) dL_law_396 rfl ?_
    show Go w f 399 [none, some (rv w r1), some (.int x2), none, none, none, none, none, none, none, none, none, none] [.int y604] M602
    refine g_if_eq 406 C dL_law_399 (by decide) (fun c605 => ?_) (fun c605 => ?_)
    · replace h := of_ift h c605
      refine g_iconst (v := 0) C dL_law_406 rfl ?_
      cases h
      exact hR 407 _ ⟨.boolean, rfl, rfl⟩ dL_law_407
    · replace h := of_iff h c605
      refine g_iconst (v := 1) C dL_law_402 rfl ?_
      refine g_goto 407 C dL_law_403 (by decide) ?_
      cases h
      exact hR 407 _ ⟨.boolean, rfl, rfl⟩ dL_law_407
def f_L_law_385 (L : Nat) (xs : Nat → Int32) (k62 : Nat → Int32 → Int64 → Int32 → Mem → Option (Int32 × Mem)) (r1 : Nat) (x2 : Int32) (l3 : Int64) (x5 : Int32) (M : Mem) : Option (Int32 × Mem) := bvv (x5 + (1 : Int32)) fun y1401 => k62 r1 x2 l3 y1401 M
set_option maxRecDepth 100000 in
set_option maxHeartbeats 4000000 in
theorem t_L_law_385 {w : Om} {f : Fr} {r : Int32} {M2 : Mem} (C : Cx w f RL cL_law 13 24) (hR : Rt w f cL_law (some .boolean) (some (.int r)) M2) {L : Nat} {xs : Nat → Int32} (hX : Sx w f L xs) {k62 : Nat → Int32 → Int64 → Int32 → Mem → Option (Int32 × Mem)} (hk62 : ∀ (r1' : Nat) (x2' : Int32) (l3' : Int64) (x5' : Int32) (M' : Mem), k62 r1' x2' l3' x5' M' = some (r, M2) → Go w f 62 [some (rv w 159), some (rv w r1'), some (.int x2'), some (.long l3'), none, some (.int x5'), none, none, none, none, none, none, none] [] M') : ∀ (r1 : Nat) (x2 : Int32) (l3 : Int64) (x5 : Int32) (M : Mem), f_L_law_385 L xs k62 r1 x2 l3 x5 M = some (r, M2) → Go w f 385 [some (rv w 159), some (rv w r1), some (.int x2), some (.long l3), none, some (.int x5), none, none, none, none, none, none, none] [] M := by
  intro r1 x2 l3 x5 M h
  unfold f_L_law_385 at h
  obtain ⟨y1401, e1402, h⟩ := of_bvv h
  refine g_iinc (v := y1401) C dL_law_385 rfl e1402.symm (by decide) trivial (L2 := [some (rv w 159), some (rv w r1), some (.int x2), some (.long l3), none, some (.int y1401), none, none, none, none, none, none, none]) rfl ?_
  refine g_goto 62 C dL_law_388 (by decide) ?_
  exact hk62 r1 x2 l3 y1401 M h
def f_L_law_384 (L : Nat) (xs : Nat → Int32) (k62 : Nat → Int32 → Int64 → Int32 → Mem → Option (Int32 × Mem)) (r1 : Nat) (l3 : Int64) (x5 : Int32) (xs0 : Int32) (M : Mem) : Option (Int32 × Mem) := f_L_law_385 L xs k62 r1 xs0 l3 x5 M
set_option maxRecDepth 100000 in
set_option maxHeartbeats 4000000 in
theorem t_L_law_384 {w : Om} {f : Fr} {r : Int32} {M2 : Mem} (C : Cx w f RL cL_law 13 24) (hR : Rt w f cL_law (some .boolean) (some (.int r)) M2) {L : Nat} {xs : Nat → Int32} (hX : Sx w f L xs) {k62 : Nat → Int32 → Int64 → Int32 → Mem → Option (Int32 × Mem)} (hk62 : ∀ (r1' : Nat) (x2' : Int32) (l3' : Int64) (x5' : Int32) (M' : Mem), k62 r1' x2' l3' x5' M' = some (r, M2) → Go w f 62 [some (rv w 159), some (rv w r1'), some (.int x2'), some (.long l3'), none, some (.int x5'), none, none, none, none, none, none, none] [] M') : ∀ (r1 : Nat) (l3 : Int64) (x5 : Int32) (xs0 : Int32) (M : Mem), f_L_law_384 L xs k62 r1 l3 x5 xs0 M = some (r, M2) → Go w f 384 [some (rv w 159), some (rv w r1), none, some (.long l3), none, some (.int x5), none, none, none, none, none, none, none] [.int xs0] M := by
  intro r1 l3 x5 xs0 M h
  unfold f_L_law_384 at h
  refine g_istore_n C dL_law_384 rfl (by decide) (rv_cat _ _) (L2 := [some (rv w 159), some (rv w r1), some (.int xs0), some (.long l3), none, some (.int x5), none, none, none, none, none, none, none]) rfl ?_
  exact t_L_law_385 C hR hX (fun r1' x2' l3' x5' M' h => hk62 r1' x2' l3' x5' M' h) r1 xs0 l3 x5 M h
def f_L_law_376 (L : Nat) (xs : Nat → Int32) (k62 : Nat → Int32 → Int64 → Int32 → Mem → Option (Int32 × Mem)) (r1 : Nat) (l3 : Int64) (x5 : Int32) (xs0 : Int32) (xs1 : Int32) (M : Mem) : Option (Int32 × Mem) := if xs0 = xs1 then (f_L_law_384 L xs k62 r1 l3 x5 (1 : Int32) M) else (f_L_law_384 L xs k62 r1 l3 x5 (0 : Int32) M)
set_option maxRecDepth 100000 in
set_option maxHeartbeats 4000000 in
theorem t_L_law_376 {w : Om} {f : Fr} {r : Int32} {M2 : Mem} (C : Cx w f RL cL_law 13 24) (hR : Rt w f cL_law (some .boolean) (some (.int r)) M2) {L : Nat} {xs : Nat → Int32} (hX : Sx w f L xs) {k62 : Nat → Int32 → Int64 → Int32 → Mem → Option (Int32 × Mem)} (hk62 : ∀ (r1' : Nat) (x2' : Int32) (l3' : Int64) (x5' : Int32) (M' : Mem), k62 r1' x2' l3' x5' M' = some (r, M2) → Go w f 62 [some (rv w 159), some (rv w r1'), some (.int x2'), some (.long l3'), none, some (.int x5'), none, none, none, none, none, none, none] [] M') : ∀ (r1 : Nat) (l3 : Int64) (x5 : Int32) (xs0 : Int32) (xs1 : Int32) (M : Mem), f_L_law_376 L xs k62 r1 l3 x5 xs0 xs1 M = some (r, M2) → Go w f 376 [some (rv w 159), some (rv w r1), none, some (.long l3), none, some (.int x5), none, none, none, none, none, none, none] [.int xs1, .int xs0] M := by
  intro r1 l3 x5 xs0 xs1 M h
  unfold f_L_law_376 at h
  refine g_icmp_ne 383 C dL_law_376 (by decide) (fun c1501 => ?_) (fun c1501 => ?_)
  · replace h := of_iff h c1501
    refine g_iconst (v := 0) C dL_law_383 rfl ?_
    exact t_L_law_384 C hR hX (fun r1' x2' l3' x5' M' h => hk62 r1' x2' l3' x5' M' h) r1 l3 x5 (0 : Int32) M h
  · replace h := of_ift h c1501
    refine g_iconst (v := 1) C dL_law_379 rfl ?_
    refine g_goto 384 C dL_law_380 (by decide) ?_
    exact t_L_law_384 C hR hX (fun r1' x2' l3' x5' M' h => hk62 r1' x2' l3' x5' M' h) r1 l3 x5 (1 : Int32) M h
def f_L_law_336 (L : Nat) (xs : Nat → Int32) (k62 : Nat → Int32 → Int64 → Int32 → Mem → Option (Int32 × Mem)) (r1 : Nat) (x2 : Int32) (l3 : Int64) (x5 : Int32) (M : Mem) : Option (Int32 × Mem) := if x2 = 0 then (f_L_law_385 L xs k62 r1 x2 l3 x5 M) else (if (x5 - x5 / (11 : Int32) * (11 : Int32)) = (10 : Int32) then (gdd (kd r1 = 6) <| opp (f_X5_count r1 (14 : Int32) M) fun y1306 M1304 => opp (f_X5_undo r1 M1304) fun y1309 M1307 => if y1306 = 0 then (f_L_law_376 L xs k62 r1 l3 x5 y1309 (-2 : Int32) M1307) else (f_L_law_376 L xs k62 r1 l3 x5 y1309 (y1306 - (1 : Int32)) M1307)) else (f_L_law_385 L xs k62 r1 x2 l3 x5 M))
set_option maxRecDepth 100000 in
set_option maxHeartbeats 4000000 in
theorem t_L_law_336 {w : Om} {f : Fr} {r : Int32} {M2 : Mem} (C : Cx w f RL cL_law 13 24) (hR : Rt w f cL_law (some .boolean) (some (.int r)) M2) {L : Nat} {xs : Nat → Int32} (hX : Sx w f L xs) {k62 : Nat → Int32 → Int64 → Int32 → Mem → Option (Int32 × Mem)} (hk62 : ∀ (r1' : Nat) (x2' : Int32) (l3' : Int64) (x5' : Int32) (M' : Mem), k62 r1' x2' l3' x5' M' = some (r, M2) → Go w f 62 [some (rv w 159), some (rv w r1'), some (.int x2'), some (.long l3'), none, some (.int x5'), none, none, none, none, none, none, none] [] M') : ∀ (r1 : Nat) (x2 : Int32) (l3 : Int64) (x5 : Int32) (M : Mem), f_L_law_336 L xs k62 r1 x2 l3 x5 M = some (r, M2) → Go w f 336 [some (rv w 159), some (rv w r1), some (.int x2), some (.long l3), none, some (.int x5), none, none, none, none, none, none, none] [] M := by
  intro r1 x2 l3 x5 M h
  unfold f_L_law_336 at h
  refine g_iload_n C dL_law_336 rfl rfl ?_
  refine g_if_eq 385 C dL_law_337 (by decide) (fun c1301 => ?_) (fun c1301 => ?_)
  · replace h := of_ift h c1301
    exact t_L_law_385 C hR hX (fun r1' x2' l3' x5' M' h => hk62 r1' x2' l3' x5' M' h) r1 x2 l3 x5 M h
  · replace h := of_iff h c1301
    refine g_iload C dL_law_340 rfl ?_
    refine g_bipush (v := 11) C dL_law_342 rfl ?_
    refine g_irem C dL_law_344 (by decide) ?_
    refine g_bipush (v := 10) C dL_law_345 rfl ?_
    refine g_icmp_ne 385 C dL_law_347 (by decide) (fun c1302 => ?_) (fun c1302 => ?_)
    · replace h := of_iff h c1302
      exact t_L_law_385 C hR hX (fun r1' x2' l3' x5' M' h => hk62 r1' x2' l3' x5' M' h) r1 x2 l3 x5 M h
    · replace h := of_ift h c1302
      refine g_aload_n C dL_law_350 rfl rfl ?_
      refine g_bipush (v := 14) C dL_law_351 rfl ?_
      obtain ⟨g1303, h⟩ := of_gdd h
      obtain ⟨y1306, M1304, e1305, h⟩ := of_opp h
      refine g_callV (As := [.int (14 : Int32)]) C (ct_X5_count C.wf e1305) g1303 lk_RL_13 mi_X5_count (by decide) cs_0 (by decide) dL_law_353 rfl ?_
      show Go w f 356 [some (rv w 159), some (rv w r1), some (.int x2), some (.long l3), none, some (.int x5), none, none, none, none, none, none, none] [.int y1306] M1304
      refine g_istore C dL_law_356 (by decide) trivial (L2 := [some (rv w 159), some (rv w r1), some (.int x2), some (.long l3), none, some (.int x5), none, none, none, none, none, none, some (.int y1306)]) rfl ?_
      refine g_aload_n C dL_law_358 rfl rfl ?_
      obtain ⟨y1309, M1307, e1308, h⟩ := of_opp h
      refine g_callV (As := []) C (ct_X5_undo C.wf e1308) g1303 lk_RL_138 mi_X5_undo (by decide) cs_0 (by decide) dL_law_359 rfl ?_
      show Go w f 362 [some (rv w 159), some (rv w r1), some (.int x2), some (.long l3), none, some (.int x5), none, none, none, none, none, none, some (.int y1306)] [.int y1309] M1307
      refine g_iload C dL_law_362 rfl ?_
      refine g_if_ne 372 C dL_law_364 (by decide) (fun c1310 => ?_) (fun c1310 => ?_)
      · replace h := of_iff h c1310
        refine g_iload C dL_law_372 rfl ?_
        refine g_iconst (v := 1) C dL_law_374 rfl ?_
        refine g_isub C dL_law_375 ?_
        refine g_mask (bs := [true, true, false, true, false, true, false, false, false, false, false, false, false]) (L2 := [some (rv w 159), some (rv w r1), none, some (.long l3), none, some (.int x5), none, none, none, none, none, none, none]) rfl ?_
        exact t_L_law_376 C hR hX (fun r1' x2' l3' x5' M' h => hk62 r1' x2' l3' x5' M' h) r1 l3 x5 y1309 (y1306 - (1 : Int32)) M1307 h
      · replace h := of_ift h c1310
        refine g_bipush (v := -2) C dL_law_367 rfl ?_
        refine g_goto 376 C dL_law_369 (by decide) ?_
        refine g_mask (bs := [true, true, false, true, false, true, false, false, false, false, false, false, false]) (L2 := [some (rv w 159), some (rv w r1), none, some (.long l3), none, some (.int x5), none, none, none, none, none, none, none]) rfl ?_
        exact t_L_law_376 C hR hX (fun r1' x2' l3' x5' M' h => hk62 r1' x2' l3' x5' M' h) r1 l3 x5 y1309 (-2 : Int32) M1307 h
def f_L_law_330 (L : Nat) (xs : Nat → Int32) (k62 : Nat → Int32 → Int64 → Int32 → Mem → Option (Int32 × Mem)) (r1 : Nat) (x5 : Int32) (xs0 : Int32) (M : Mem) : Option (Int32 × Mem) := opp (f_L_look r1 M) fun y1803 M1801 => f_L_law_336 L xs k62 r1 xs0 y1803 x5 M1801
set_option maxRecDepth 100000 in
set_option maxHeartbeats 4000000 in
theorem t_L_law_330 {w : Om} {f : Fr} {r : Int32} {M2 : Mem} (C : Cx w f RL cL_law 13 24) (hR : Rt w f cL_law (some .boolean) (some (.int r)) M2) {L : Nat} {xs : Nat → Int32} (hX : Sx w f L xs) {k62 : Nat → Int32 → Int64 → Int32 → Mem → Option (Int32 × Mem)} (hk62 : ∀ (r1' : Nat) (x2' : Int32) (l3' : Int64) (x5' : Int32) (M' : Mem), k62 r1' x2' l3' x5' M' = some (r, M2) → Go w f 62 [some (rv w 159), some (rv w r1'), some (.int x2'), some (.long l3'), none, some (.int x5'), none, none, none, none, none, none, none] [] M') : ∀ (r1 : Nat) (x5 : Int32) (xs0 : Int32) (M : Mem), f_L_law_330 L xs k62 r1 x5 xs0 M = some (r, M2) → Go w f 330 [some (rv w 159), some (rv w r1), none, none, none, some (.int x5), none, none, none, none, none, none, none] [.int xs0] M := by
  intro r1 x5 xs0 M h
  unfold f_L_law_330 at h
  refine g_istore_n C dL_law_330 rfl (by decide) (rv_cat _ _) (L2 := [some (rv w 159), some (rv w r1), some (.int xs0), none, none, some (.int x5), none, none, none, none, none, none, none]) rfl ?_
  refine g_aload_n C dL_law_331 rfl rfl ?_
  obtain ⟨y1803, M1801, e1802, h⟩ := of_opp h
  refine g_callS (As := [rv w r1]) C (ct_L_look C.wf e1802) lk_RL_86 mi_L_look (by decide) cs_0 (by decide) dL_law_332 rfl ?_
  show Go w f 335 [some (rv w 159), some (rv w r1), some (.int xs0), none, none, some (.int x5), none, none, none, none, none, none, none] [.long y1803] M1801
  refine g_lstore_n C dL_law_335 rfl (by decide) rfl (L2 := [some (rv w 159), some (rv w r1), some (.int xs0), some (.long y1803), none, some (.int x5), none, none, none, none, none, none, none]) rfl ?_
  exact t_L_law_336 C hR hX (fun r1' x2' l3' x5' M' h => hk62 r1' x2' l3' x5' M' h) r1 xs0 y1803 x5 M1801 h
def f_L_law_329 (L : Nat) (xs : Nat → Int32) (k62 : Nat → Int32 → Int64 → Int32 → Mem → Option (Int32 × Mem)) (r1 : Nat) (x5 : Int32) (M : Mem) : Option (Int32 × Mem) := f_L_law_330 L xs k62 r1 x5 (0 : Int32) M
set_option maxRecDepth 100000 in
set_option maxHeartbeats 4000000 in
theorem t_L_law_329 {w : Om} {f : Fr} {r : Int32} {M2 : Mem} (C : Cx w f RL cL_law 13 24) (hR : Rt w f cL_law (some .boolean) (some (.int r)) M2) {L : Nat} {xs : Nat → Int32} (hX : Sx w f L xs) {k62 : Nat → Int32 → Int64 → Int32 → Mem → Option (Int32 × Mem)} (hk62 : ∀ (r1' : Nat) (x2' : Int32) (l3' : Int64) (x5' : Int32) (M' : Mem), k62 r1' x2' l3' x5' M' = some (r, M2) → Go w f 62 [some (rv w 159), some (rv w r1'), some (.int x2'), some (.long l3'), none, some (.int x5'), none, none, none, none, none, none, none] [] M') : ∀ (r1 : Nat) (x5 : Int32) (M : Mem), f_L_law_329 L xs k62 r1 x5 M = some (r, M2) → Go w f 329 [some (rv w 159), some (rv w r1), none, none, none, some (.int x5), none, none, none, none, none, none, none] [] M := by
  intro r1 x5 M h
  unfold f_L_law_329 at h
  refine g_iconst (v := 0) C dL_law_329 rfl ?_
  exact t_L_law_330 C hR hX (fun r1' x2' l3' x5' M' h => hk62 r1' x2' l3' x5' M' h) r1 x5 (0 : Int32) M h
def f_L_law_267 (L : Nat) (xs : Nat → Int32) (k62 : Nat → Int32 → Int64 → Int32 → Mem → Option (Int32 × Mem)) (r1 : Nat) (x2 : Int32) (l3 : Int64) (x5 : Int32) (M : Mem) : Option (Int32 × Mem) := if x2 = 0 then (f_L_law_336 L xs k62 r1 x2 l3 x5 M) else (if (x5 - x5 / (15 : Int32) * (15 : Int32)) = (14 : Int32) then (gdd (kd r1 = 6) <| opp (f_X5_restore r1 M) fun y1206 M1204 => opp (f_X5_count r1 (1 : Int32) M1204) fun y1209 M1207 => if y1206 = y1209 then (opp (f_L_look r1 M1207) fun y1213 M1211 => if (lg_cmp y1213 l3) = 0 then (opp (f_X5_undo r1 M1211) fun y1217 M1215 => if y1217 < 0 then (f_L_law_329 L xs k62 r1 x5 M1215) else (opp (f_X5_save r1 M1215) fun y1221 M1219 => opp (f_X5_count r1 (1 : Int32) M1219) fun y1224 M1222 => if y1221 = y1224 then (f_L_law_330 L xs k62 r1 x5 (1 : Int32) M1222) else (f_L_law_329 L xs k62 r1 x5 M1222))) else (f_L_law_329 L xs k62 r1 x5 M1211)) else (f_L_law_329 L xs k62 r1 x5 M1207)) else (f_L_law_336 L xs k62 r1 x2 l3 x5 M))
set_option maxRecDepth 100000 in
set_option maxHeartbeats 4000000 in
theorem t_L_law_267 {w : Om} {f : Fr} {r : Int32} {M2 : Mem} (C : Cx w f RL cL_law 13 24) (hR : Rt w f cL_law (some .boolean) (some (.int r)) M2) {L : Nat} {xs : Nat → Int32} (hX : Sx w f L xs) {k62 : Nat → Int32 → Int64 → Int32 → Mem → Option (Int32 × Mem)} (hk62 : ∀ (r1' : Nat) (x2' : Int32) (l3' : Int64) (x5' : Int32) (M' : Mem), k62 r1' x2' l3' x5' M' = some (r, M2) → Go w f 62 [some (rv w 159), some (rv w r1'), some (.int x2'), some (.long l3'), none, some (.int x5'), none, none, none, none, none, none, none] [] M') : ∀ (r1 : Nat) (x2 : Int32) (l3 : Int64) (x5 : Int32) (M : Mem), f_L_law_267 L xs k62 r1 x2 l3 x5 M = some (r, M2) → Go w f 267 [some (rv w 159), some (rv w r1), some (.int x2), some (.long l3), none, some (.int x5), none, none, none, none, none, none, none] [] M := by
  intro r1 x2 l3 x5 M h
  unfold f_L_law_267 at h
  refine g_iload_n C dL_law_267 rfl rfl ?_
  refine g_if_eq 336 C dL_law_268 (by decide) (fun c1201 => ?_) (fun c1201 => ?_)
  · replace h := of_ift h c1201
    exact t_L_law_336 C hR hX (fun r1' x2' l3' x5' M' h => hk62 r1' x2' l3' x5' M' h) r1 x2 l3 x5 M h
  · replace h := of_iff h c1201
    refine g_iload C dL_law_271 rfl ?_
    refine g_bipush (v := 15) C dL_law_273 rfl ?_
    refine g_irem C dL_law_275 (by decide) ?_
    refine g_bipush (v := 14) C dL_law_276 rfl ?_
    refine g_icmp_ne 336 C dL_law_278 (by decide) (fun c1202 => ?_) (fun c1202 => ?_)
    · replace h := of_iff h c1202
      exact t_L_law_336 C hR hX (fun r1' x2' l3' x5' M' h => hk62 r1' x2' l3' x5' M' h) r1 x2 l3 x5 M h
    · replace h := of_ift h c1202
      refine g_aload_n C dL_law_281 rfl rfl ?_
      obtain ⟨g1203, h⟩ := of_gdd h
      obtain ⟨y1206, M1204, e1205, h⟩ := of_opp h
      refine g_callV (As := []) C (ct_X5_restore C.wf e1205) g1203 lk_RL_141 mi_X5_restore (by decide) cs_0 (by decide) dL_law_282 rfl ?_
      show Go w f 285 [some (rv w 159), some (rv w r1), some (.int x2), some (.long l3), none, some (.int x5), none, none, none, none, none, none, none] [.int y1206] M1204
      refine g_istore C dL_law_285 (by decide) trivial (L2 := [some (rv w 159), some (rv w r1), some (.int x2), some (.long l3), none, some (.int x5), none, none, none, none, none, none, some (.int y1206)]) rfl ?_
      refine g_iload C dL_law_287 rfl ?_
      refine g_aload_n C dL_law_289 rfl rfl ?_
      refine g_iconst (v := 1) C dL_law_290 rfl ?_
      obtain ⟨y1209, M1207, e1208, h⟩ := of_opp h
      refine g_callV (As := [.int (1 : Int32)]) C (ct_X5_count C.wf e1208) g1203 lk_RL_13 mi_X5_count (by decide) (cs_i cs_0) (by decide) dL_law_291 rfl ?_
      show Go w f 294 [some (rv w 159), some (rv w r1), some (.int x2), some (.long l3), none, some (.int x5), none, none, none, none, none, none, some (.int y1206)] [.int y1209, .int y1206] M1207
      refine g_icmp_ne 329 C dL_law_294 (by decide) (fun c1210 => ?_) (fun c1210 => ?_)
      · replace h := of_iff h c1210
        refine g_mask (bs := [true, true, false, false, false, true, false, false, false, false, false, false, false]) (L2 := [some (rv w 159), some (rv w r1), none, none, none, some (.int x5), none, none, none, none, none, none, none]) rfl ?_
        exact t_L_law_329 C hR hX (fun r1' x2' l3' x5' M' h => hk62 r1' x2' l3' x5' M' h) r1 x5 M1207 h
      · replace h := of_ift h c1210
        refine g_aload_n C dL_law_297 rfl rfl ?_
        obtain ⟨y1213, M1211, e1212, h⟩ := of_opp h
        refine g_callS (As := [rv w r1]) C (ct_L_look C.wf e1212) lk_RL_86 mi_L_look (by decide) cs_0 (by decide) dL_law_298 rfl ?_
        show Go w f 301 [some (rv w 159), some (rv w r1), some (.int x2), some (.long l3), none, some (.int x5), none, none, none, none, none, none, some (.int y1206)] [.long y1213] M1211
        refine g_lload_n C dL_law_301 rfl rfl ?_
        refine g_lcmp C dL_law_302 ?_
        refine g_if_ne 329 C dL_law_303 (by decide) (fun c1214 => ?_) (fun c1214 => ?_)
        · replace h := of_iff h c1214
          refine g_mask (bs := [true, true, false, false, false, true, false, false, false, false, false, false, false]) (L2 := [some (rv w 159), some (rv w r1), none, none, none, some (.int x5), none, none, none, none, none, none, none]) rfl ?_
          exact t_L_law_329 C hR hX (fun r1' x2' l3' x5' M' h => hk62 r1' x2' l3' x5' M' h) r1 x5 M1211 h
        · replace h := of_ift h c1214
          refine g_aload_n C dL_law_306 rfl rfl ?_
          obtain ⟨y1217, M1215, e1216, h⟩ := of_opp h
          refine g_callV (As := []) C (ct_X5_undo C.wf e1216) g1203 lk_RL_138 mi_X5_undo (by decide) cs_0 (by decide) dL_law_307 rfl ?_
          show Go w f 310 [some (rv w 159), some (rv w r1), some (.int x2), some (.long l3), none, some (.int x5), none, none, none, none, none, none, some (.int y1206)] [.int y1217] M1215
          refine g_if_lt 329 C dL_law_310 (by decide) (fun c1218 => ?_) (fun c1218 => ?_)
          · replace h := of_ift h c1218
            refine g_mask (bs := [true, true, false, false, false, true, false, false, false, false, false, false, false]) (L2 := [some (rv w 159), some (rv w r1), none, none, none, some (.int x5), none, none, none, none, none, none, none]) rfl ?_
            exact t_L_law_329 C hR hX (fun r1' x2' l3' x5' M' h => hk62 r1' x2' l3' x5' M' h) r1 x5 M1215 h
          · replace h := of_iff h c1218
            refine g_aload_n C dL_law_313 rfl rfl ?_
            obtain ⟨y1221, M1219, e1220, h⟩ := of_opp h
            refine g_callV (As := []) C (ct_X5_save C.wf e1220) g1203 lk_RL_144 mi_X5_save (by decide) cs_0 (by decide) dL_law_314 rfl ?_
            show Go w f 317 [some (rv w 159), some (rv w r1), some (.int x2), some (.long l3), none, some (.int x5), none, none, none, none, none, none, some (.int y1206)] [.int y1221] M1219
            refine g_aload_n C dL_law_317 rfl rfl ?_
            refine g_iconst (v := 1) C dL_law_318 rfl ?_
            obtain ⟨y1224, M1222, e1223, h⟩ := of_opp h
            refine g_callV (As := [.int (1 : Int32)]) C (ct_X5_count C.wf e1223) g1203 lk_RL_13 mi_X5_count (by decide) (cs_i cs_0) (by decide) dL_law_319 rfl ?_
            show Go w f 322 [some (rv w 159), some (rv w r1), some (.int x2), some (.long l3), none, some (.int x5), none, none, none, none, none, none, some (.int y1206)] [.int y1224, .int y1221] M1222
            refine g_icmp_ne 329 C dL_law_322 (by decide) (fun c1225 => ?_) (fun c1225 => ?_)
            · replace h := of_iff h c1225
              refine g_mask (bs := [true, true, false, false, false, true, false, false, false, false, false, false, false]) (L2 := [some (rv w 159), some (rv w r1), none, none, none, some (.int x5), none, none, none, none, none, none, none]) rfl ?_
              exact t_L_law_329 C hR hX (fun r1' x2' l3' x5' M' h => hk62 r1' x2' l3' x5' M' h) r1 x5 M1222 h
            · replace h := of_ift h c1225
              refine g_iconst (v := 1) C dL_law_325 rfl ?_
              refine g_goto 330 C dL_law_326 (by decide) ?_
              refine g_mask (bs := [true, true, false, false, false, true, false, false, false, false, false, false, false]) (L2 := [some (rv w 159), some (rv w r1), none, none, none, some (.int x5), none, none, none, none, none, none, none]) rfl ?_
              exact t_L_law_330 C hR hX (fun r1' x2' l3' x5' M' h => hk62 r1' x2' l3' x5' M' h) r1 x5 (1 : Int32) M1222 h
def f_L_law_266 (L : Nat) (xs : Nat → Int32) (k62 : Nat → Int32 → Int64 → Int32 → Mem → Option (Int32 × Mem)) (r1 : Nat) (l3 : Int64) (x5 : Int32) (xs0 : Int32) (M : Mem) : Option (Int32 × Mem) := f_L_law_267 L xs k62 r1 xs0 l3 x5 M
set_option maxRecDepth 100000 in
set_option maxHeartbeats 4000000 in
theorem t_L_law_266 {w : Om} {f : Fr} {r : Int32} {M2 : Mem} (C : Cx w f RL cL_law 13 24) (hR : Rt w f cL_law (some .boolean) (some (.int r)) M2) {L : Nat} {xs : Nat → Int32} (hX : Sx w f L xs) {k62 : Nat → Int32 → Int64 → Int32 → Mem → Option (Int32 × Mem)} (hk62 : ∀ (r1' : Nat) (x2' : Int32) (l3' : Int64) (x5' : Int32) (M' : Mem), k62 r1' x2' l3' x5' M' = some (r, M2) → Go w f 62 [some (rv w 159), some (rv w r1'), some (.int x2'), some (.long l3'), none, some (.int x5'), none, none, none, none, none, none, none] [] M') : ∀ (r1 : Nat) (l3 : Int64) (x5 : Int32) (xs0 : Int32) (M : Mem), f_L_law_266 L xs k62 r1 l3 x5 xs0 M = some (r, M2) → Go w f 266 [some (rv w 159), some (rv w r1), none, some (.long l3), none, some (.int x5), none, none, none, none, none, none, none] [.int xs0] M := by
  intro r1 l3 x5 xs0 M h
  unfold f_L_law_266 at h
  refine g_istore_n C dL_law_266 rfl (by decide) (rv_cat _ _) (L2 := [some (rv w 159), some (rv w r1), some (.int xs0), some (.long l3), none, some (.int x5), none, none, none, none, none, none, none]) rfl ?_
  exact t_L_law_267 C hR hX (fun r1' x2' l3' x5' M' h => hk62 r1' x2' l3' x5' M' h) r1 xs0 l3 x5 M h
def f_L_law_265 (L : Nat) (xs : Nat → Int32) (k62 : Nat → Int32 → Int64 → Int32 → Mem → Option (Int32 × Mem)) (r1 : Nat) (l3 : Int64) (x5 : Int32) (M : Mem) : Option (Int32 × Mem) := f_L_law_266 L xs k62 r1 l3 x5 (0 : Int32) M
set_option maxRecDepth 100000 in
set_option maxHeartbeats 4000000 in
theorem t_L_law_265 {w : Om} {f : Fr} {r : Int32} {M2 : Mem} (C : Cx w f RL cL_law 13 24) (hR : Rt w f cL_law (some .boolean) (some (.int r)) M2) {L : Nat} {xs : Nat → Int32} (hX : Sx w f L xs) {k62 : Nat → Int32 → Int64 → Int32 → Mem → Option (Int32 × Mem)} (hk62 : ∀ (r1' : Nat) (x2' : Int32) (l3' : Int64) (x5' : Int32) (M' : Mem), k62 r1' x2' l3' x5' M' = some (r, M2) → Go w f 62 [some (rv w 159), some (rv w r1'), some (.int x2'), some (.long l3'), none, some (.int x5'), none, none, none, none, none, none, none] [] M') : ∀ (r1 : Nat) (l3 : Int64) (x5 : Int32) (M : Mem), f_L_law_265 L xs k62 r1 l3 x5 M = some (r, M2) → Go w f 265 [some (rv w 159), some (rv w r1), none, some (.long l3), none, some (.int x5), none, none, none, none, none, none, none] [] M := by
  intro r1 l3 x5 M h
  unfold f_L_law_265 at h
  refine g_iconst (v := 0) C dL_law_265 rfl ?_
  exact t_L_law_266 C hR hX (fun r1' x2' l3' x5' M' h => hk62 r1' x2' l3' x5' M' h) r1 l3 x5 (0 : Int32) M h
def f_L_law_216 (L : Nat) (xs : Nat → Int32) (k62 : Nat → Int32 → Int64 → Int32 → Mem → Option (Int32 × Mem)) (r1 : Nat) (l3 : Int64) (x5 : Int32) (x7 : Int32) (l8 : Int64) (x10 : Int32) (x11 : Int32) (xs0 : Int32) (M : Mem) : Option (Int32 × Mem) := if xs0 = 0 then (f_L_law_267 L xs k62 r1 xs0 l3 x5 M) else (if x11 = (x10 + (1 : Int32)) then (obb (f_L_low (x7 >>> ((8 : Int32) &&& 31)) (3 : Int32)) fun y1103 => if y1103 = 0 then (gdd (kd r1 = 6) <| opp (f_X5_undo r1 M) fun y1109 M1107 => if y1109 = x10 then (opp (f_L_look r1 M1107) fun y1113 M1111 => if (lg_cmp y1113 l8) = 0 then (f_L_law_266 L xs k62 r1 l3 x5 (1 : Int32) M1111) else (f_L_law_265 L xs k62 r1 l3 x5 M1111)) else (f_L_law_265 L xs k62 r1 l3 x5 M1107)) else (f_L_law_267 L xs k62 r1 xs0 l3 x5 M)) else (f_L_law_267 L xs k62 r1 xs0 l3 x5 M))
set_option maxRecDepth 100000 in
set_option maxHeartbeats 4000000 in
theorem t_L_law_216 {w : Om} {f : Fr} {r : Int32} {M2 : Mem} (C : Cx w f RL cL_law 13 24) (hR : Rt w f cL_law (some .boolean) (some (.int r)) M2) {L : Nat} {xs : Nat → Int32} (hX : Sx w f L xs) {k62 : Nat → Int32 → Int64 → Int32 → Mem → Option (Int32 × Mem)} (hk62 : ∀ (r1' : Nat) (x2' : Int32) (l3' : Int64) (x5' : Int32) (M' : Mem), k62 r1' x2' l3' x5' M' = some (r, M2) → Go w f 62 [some (rv w 159), some (rv w r1'), some (.int x2'), some (.long l3'), none, some (.int x5'), none, none, none, none, none, none, none] [] M') : ∀ (r1 : Nat) (l3 : Int64) (x5 : Int32) (x7 : Int32) (l8 : Int64) (x10 : Int32) (x11 : Int32) (xs0 : Int32) (M : Mem), f_L_law_216 L xs k62 r1 l3 x5 x7 l8 x10 x11 xs0 M = some (r, M2) → Go w f 216 [some (rv w 159), some (rv w r1), none, some (.long l3), none, some (.int x5), none, some (.int x7), some (.long l8), none, some (.int x10), some (.int x11), none] [.int xs0] M := by
  intro r1 l3 x5 x7 l8 x10 x11 xs0 M h
  unfold f_L_law_216 at h
  refine g_istore_n C dL_law_216 rfl (by decide) (rv_cat _ _) (L2 := [some (rv w 159), some (rv w r1), some (.int xs0), some (.long l3), none, some (.int x5), none, some (.int x7), some (.long l8), none, some (.int x10), some (.int x11), none]) rfl ?_
  refine g_iload_n C dL_law_217 rfl rfl ?_
  refine g_if_eq 267 C dL_law_218 (by decide) (fun c1101 => ?_) (fun c1101 => ?_)
  · replace h := of_ift h c1101
    refine g_mask (bs := [true, true, true, true, false, true, false, false, false, false, false, false, false]) (L2 := [some (rv w 159), some (rv w r1), some (.int xs0), some (.long l3), none, some (.int x5), none, none, none, none, none, none, none]) rfl ?_
    exact t_L_law_267 C hR hX (fun r1' x2' l3' x5' M' h => hk62 r1' x2' l3' x5' M' h) r1 xs0 l3 x5 M h
  · replace h := of_iff h c1101
    refine g_iload C dL_law_221 rfl ?_
    refine g_iload C dL_law_223 rfl ?_
    refine g_iconst (v := 1) C dL_law_225 rfl ?_
    refine g_iadd C dL_law_226 ?_
    refine g_icmp_ne 267 C dL_law_227 (by decide) (fun c1102 => ?_) (fun c1102 => ?_)
    · replace h := of_iff h c1102
      refine g_mask (bs := [true, true, true, true, false, true, false, false, false, false, false, false, false]) (L2 := [some (rv w 159), some (rv w r1), some (.int xs0), some (.long l3), none, some (.int x5), none, none, none, none, none, none, none]) rfl ?_
      exact t_L_law_267 C hR hX (fun r1' x2' l3' x5' M' h => hk62 r1' x2' l3' x5' M' h) r1 xs0 l3 x5 M h
    · replace h := of_ift h c1102
      refine g_iload C dL_law_230 rfl ?_
      refine g_bipush (v := 8) C dL_law_232 rfl ?_
      refine g_ishr C dL_law_234 ?_
      refine g_iconst (v := 3) C dL_law_235 rfl ?_
      obtain ⟨y1103, e1104, h⟩ := of_obb h
      refine g_callS (As := [.int (x7 >>> ((8 : Int32) &&& 31)), .int (3 : Int32)]) C (ct_L_low C.wf e1104) lk_RL_56 mi_L_low (by decide) cs_0 (by decide) dL_law_236 rfl ?_
      show Go w f 239 [some (rv w 159), some (rv w r1), some (.int xs0), some (.long l3), none, some (.int x5), none, some (.int x7), some (.long l8), none, some (.int x10), some (.int x11), none] [.int y1103] M
      refine g_if_ne 267 C dL_law_239 (by decide) (fun c1105 => ?_) (fun c1105 => ?_)
      · replace h := of_iff h c1105
        refine g_mask (bs := [true, true, true, true, false, true, false, false, false, false, false, false, false]) (L2 := [some (rv w 159), some (rv w r1), some (.int xs0), some (.long l3), none, some (.int x5), none, none, none, none, none, none, none]) rfl ?_
        exact t_L_law_267 C hR hX (fun r1' x2' l3' x5' M' h => hk62 r1' x2' l3' x5' M' h) r1 xs0 l3 x5 M h
      · replace h := of_ift h c1105
        refine g_aload_n C dL_law_242 rfl rfl ?_
        obtain ⟨g1106, h⟩ := of_gdd h
        obtain ⟨y1109, M1107, e1108, h⟩ := of_opp h
        refine g_callV (As := []) C (ct_X5_undo C.wf e1108) g1106 lk_RL_138 mi_X5_undo (by decide) cs_0 (by decide) dL_law_243 rfl ?_
        show Go w f 246 [some (rv w 159), some (rv w r1), some (.int xs0), some (.long l3), none, some (.int x5), none, some (.int x7), some (.long l8), none, some (.int x10), some (.int x11), none] [.int y1109] M1107
        refine g_iload C dL_law_246 rfl ?_
        refine g_icmp_ne 265 C dL_law_248 (by decide) (fun c1110 => ?_) (fun c1110 => ?_)
        · replace h := of_iff h c1110
          refine g_mask (bs := [true, true, false, true, false, true, false, false, false, false, false, false, false]) (L2 := [some (rv w 159), some (rv w r1), none, some (.long l3), none, some (.int x5), none, none, none, none, none, none, none]) rfl ?_
          exact t_L_law_265 C hR hX (fun r1' x2' l3' x5' M' h => hk62 r1' x2' l3' x5' M' h) r1 l3 x5 M1107 h
        · replace h := of_ift h c1110
          refine g_aload_n C dL_law_251 rfl rfl ?_
          obtain ⟨y1113, M1111, e1112, h⟩ := of_opp h
          refine g_callS (As := [rv w r1]) C (ct_L_look C.wf e1112) lk_RL_86 mi_L_look (by decide) cs_0 (by decide) dL_law_252 rfl ?_
          show Go w f 255 [some (rv w 159), some (rv w r1), some (.int xs0), some (.long l3), none, some (.int x5), none, some (.int x7), some (.long l8), none, some (.int x10), some (.int x11), none] [.long y1113] M1111
          refine g_lload C dL_law_255 rfl ?_
          refine g_lcmp C dL_law_257 ?_
          refine g_if_ne 265 C dL_law_258 (by decide) (fun c1114 => ?_) (fun c1114 => ?_)
          · replace h := of_iff h c1114
            refine g_mask (bs := [true, true, false, true, false, true, false, false, false, false, false, false, false]) (L2 := [some (rv w 159), some (rv w r1), none, some (.long l3), none, some (.int x5), none, none, none, none, none, none, none]) rfl ?_
            exact t_L_law_265 C hR hX (fun r1' x2' l3' x5' M' h => hk62 r1' x2' l3' x5' M' h) r1 l3 x5 M1111 h
          · replace h := of_ift h c1114
            refine g_iconst (v := 1) C dL_law_261 rfl ?_
            refine g_goto 266 C dL_law_262 (by decide) ?_
            refine g_mask (bs := [true, true, false, true, false, true, false, false, false, false, false, false, false]) (L2 := [some (rv w 159), some (rv w r1), none, some (.long l3), none, some (.int x5), none, none, none, none, none, none, none]) rfl ?_
            exact t_L_law_266 C hR hX (fun r1' x2' l3' x5' M' h => hk62 r1' x2' l3' x5' M' h) r1 l3 x5 (1 : Int32) M1111 h
def f_L_law_215 (L : Nat) (xs : Nat → Int32) (k62 : Nat → Int32 → Int64 → Int32 → Mem → Option (Int32 × Mem)) (r1 : Nat) (l3 : Int64) (x5 : Int32) (x7 : Int32) (l8 : Int64) (x10 : Int32) (x11 : Int32) (M : Mem) : Option (Int32 × Mem) := f_L_law_216 L xs k62 r1 l3 x5 x7 l8 x10 x11 (0 : Int32) M
set_option maxRecDepth 100000 in
set_option maxHeartbeats 4000000 in
theorem t_L_law_215 {w : Om} {f : Fr} {r : Int32} {M2 : Mem} (C : Cx w f RL cL_law 13 24) (hR : Rt w f cL_law (some .boolean) (some (.int r)) M2) {L : Nat} {xs : Nat → Int32} (hX : Sx w f L xs) {k62 : Nat → Int32 → Int64 → Int32 → Mem → Option (Int32 × Mem)} (hk62 : ∀ (r1' : Nat) (x2' : Int32) (l3' : Int64) (x5' : Int32) (M' : Mem), k62 r1' x2' l3' x5' M' = some (r, M2) → Go w f 62 [some (rv w 159), some (rv w r1'), some (.int x2'), some (.long l3'), none, some (.int x5'), none, none, none, none, none, none, none] [] M') : ∀ (r1 : Nat) (l3 : Int64) (x5 : Int32) (x7 : Int32) (l8 : Int64) (x10 : Int32) (x11 : Int32) (M : Mem), f_L_law_215 L xs k62 r1 l3 x5 x7 l8 x10 x11 M = some (r, M2) → Go w f 215 [some (rv w 159), some (rv w r1), none, some (.long l3), none, some (.int x5), none, some (.int x7), some (.long l8), none, some (.int x10), some (.int x11), none] [] M := by
  intro r1 l3 x5 x7 l8 x10 x11 M h
  unfold f_L_law_215 at h
  refine g_iconst (v := 0) C dL_law_215 rfl ?_
  exact t_L_law_216 C hR hX (fun r1' x2' l3' x5' M' h => hk62 r1' x2' l3' x5' M' h) r1 l3 x5 x7 l8 x10 x11 (0 : Int32) M h
def f_L_law_211 (L : Nat) (xs : Nat → Int32) (k62 : Nat → Int32 → Int64 → Int32 → Mem → Option (Int32 × Mem)) (r1 : Nat) (l3 : Int64) (x5 : Int32) (x7 : Int32) (l8 : Int64) (x10 : Int32) (x11 : Int32) (M : Mem) : Option (Int32 × Mem) := f_L_law_216 L xs k62 r1 l3 x5 x7 l8 x10 x11 (1 : Int32) M
set_option maxRecDepth 100000 in
set_option maxHeartbeats 4000000 in
theorem t_L_law_211 {w : Om} {f : Fr} {r : Int32} {M2 : Mem} (C : Cx w f RL cL_law 13 24) (hR : Rt w f cL_law (some .boolean) (some (.int r)) M2) {L : Nat} {xs : Nat → Int32} (hX : Sx w f L xs) {k62 : Nat → Int32 → Int64 → Int32 → Mem → Option (Int32 × Mem)} (hk62 : ∀ (r1' : Nat) (x2' : Int32) (l3' : Int64) (x5' : Int32) (M' : Mem), k62 r1' x2' l3' x5' M' = some (r, M2) → Go w f 62 [some (rv w 159), some (rv w r1'), some (.int x2'), some (.long l3'), none, some (.int x5'), none, none, none, none, none, none, none] [] M') : ∀ (r1 : Nat) (l3 : Int64) (x5 : Int32) (x7 : Int32) (l8 : Int64) (x10 : Int32) (x11 : Int32) (M : Mem), f_L_law_211 L xs k62 r1 l3 x5 x7 l8 x10 x11 M = some (r, M2) → Go w f 211 [some (rv w 159), some (rv w r1), none, some (.long l3), none, some (.int x5), none, some (.int x7), some (.long l8), none, some (.int x10), some (.int x11), none] [] M := by
  intro r1 l3 x5 x7 l8 x10 x11 M h
  unfold f_L_law_211 at h
  refine g_iconst (v := 1) C dL_law_211 rfl ?_
  refine g_goto 216 C dL_law_212 (by decide) ?_
  exact t_L_law_216 C hR hX (fun r1' x2' l3' x5' M' h => hk62 r1' x2' l3' x5' M' h) r1 l3 x5 x7 l8 x10 x11 (1 : Int32) M h
def f_L_law_202 (L : Nat) (xs : Nat → Int32) (k62 : Nat → Int32 → Int64 → Int32 → Mem → Option (Int32 × Mem)) (r1 : Nat) (l3 : Int64) (x5 : Int32) (x7 : Int32) (l8 : Int64) (x10 : Int32) (x11 : Int32) (M : Mem) : Option (Int32 × Mem) := if x11 = (x10 + (1 : Int32)) then (f_L_law_211 L xs k62 r1 l3 x5 x7 l8 x10 x11 M) else (f_L_law_215 L xs k62 r1 l3 x5 x7 l8 x10 x11 M)
set_option maxRecDepth 100000 in
set_option maxHeartbeats 4000000 in
theorem t_L_law_202 {w : Om} {f : Fr} {r : Int32} {M2 : Mem} (C : Cx w f RL cL_law 13 24) (hR : Rt w f cL_law (some .boolean) (some (.int r)) M2) {L : Nat} {xs : Nat → Int32} (hX : Sx w f L xs) {k62 : Nat → Int32 → Int64 → Int32 → Mem → Option (Int32 × Mem)} (hk62 : ∀ (r1' : Nat) (x2' : Int32) (l3' : Int64) (x5' : Int32) (M' : Mem), k62 r1' x2' l3' x5' M' = some (r, M2) → Go w f 62 [some (rv w 159), some (rv w r1'), some (.int x2'), some (.long l3'), none, some (.int x5'), none, none, none, none, none, none, none] [] M') : ∀ (r1 : Nat) (l3 : Int64) (x5 : Int32) (x7 : Int32) (l8 : Int64) (x10 : Int32) (x11 : Int32) (M : Mem), f_L_law_202 L xs k62 r1 l3 x5 x7 l8 x10 x11 M = some (r, M2) → Go w f 202 [some (rv w 159), some (rv w r1), none, some (.long l3), none, some (.int x5), none, some (.int x7), some (.long l8), none, some (.int x10), some (.int x11), none] [] M := by
  intro r1 l3 x5 x7 l8 x10 x11 M h
  unfold f_L_law_202 at h
  refine g_iload C dL_law_202 rfl ?_
  refine g_iload C dL_law_204 rfl ?_
  refine g_iconst (v := 1) C dL_law_206 rfl ?_
  refine g_iadd C dL_law_207 ?_
  refine g_icmp_ne 215 C dL_law_208 (by decide) (fun c2101 => ?_) (fun c2101 => ?_)
  · replace h := of_iff h c2101
    exact t_L_law_215 C hR hX (fun r1' x2' l3' x5' M' h => hk62 r1' x2' l3' x5' M' h) r1 l3 x5 x7 l8 x10 x11 M h
  · replace h := of_ift h c2101
    exact t_L_law_211 C hR hX (fun r1' x2' l3' x5' M' h => hk62 r1' x2' l3' x5' M' h) r1 l3 x5 x7 l8 x10 x11 M h
def f_L_law_166 (L : Nat) (xs : Nat → Int32) (k62 : Nat → Int32 → Int64 → Int32 → Mem → Option (Int32 × Mem)) (r1 : Nat) (l3 : Int64) (x5 : Int32) (x7 : Int32) (l8 : Int64) (x10 : Int32) (xs0 : Int32) (M : Mem) : Option (Int32 × Mem) := gdd (kd r1 = 6) <| opp (f_X5_count r1 (14 : Int32) M) fun y904 M902 => if xs0 = 0 then (f_L_law_215 L xs k62 r1 l3 x5 x7 l8 x10 y904 M902) else (if y904 = x10 then (if x10 = (4 : Int32) then (f_L_law_211 L xs k62 r1 l3 x5 x7 l8 x10 y904 M902) else (opp (f_L_look r1 M902) fun y910 M908 => if (lg_cmp y910 l8) = 0 then (f_L_law_211 L xs k62 r1 l3 x5 x7 l8 x10 y904 M908) else (f_L_law_202 L xs k62 r1 l3 x5 x7 l8 x10 y904 M908))) else (f_L_law_202 L xs k62 r1 l3 x5 x7 l8 x10 y904 M902))
set_option maxRecDepth 100000 in
set_option maxHeartbeats 4000000 in
theorem t_L_law_166 {w : Om} {f : Fr} {r : Int32} {M2 : Mem} (C : Cx w f RL cL_law 13 24) (hR : Rt w f cL_law (some .boolean) (some (.int r)) M2) {L : Nat} {xs : Nat → Int32} (hX : Sx w f L xs) {k62 : Nat → Int32 → Int64 → Int32 → Mem → Option (Int32 × Mem)} (hk62 : ∀ (r1' : Nat) (x2' : Int32) (l3' : Int64) (x5' : Int32) (M' : Mem), k62 r1' x2' l3' x5' M' = some (r, M2) → Go w f 62 [some (rv w 159), some (rv w r1'), some (.int x2'), some (.long l3'), none, some (.int x5'), none, none, none, none, none, none, none] [] M') : ∀ (r1 : Nat) (l3 : Int64) (x5 : Int32) (x7 : Int32) (l8 : Int64) (x10 : Int32) (xs0 : Int32) (M : Mem), f_L_law_166 L xs k62 r1 l3 x5 x7 l8 x10 xs0 M = some (r, M2) → Go w f 166 [some (rv w 159), some (rv w r1), none, some (.long l3), none, some (.int x5), none, some (.int x7), some (.long l8), none, some (.int x10), none, none] [.int xs0] M := by
  intro r1 l3 x5 x7 l8 x10 xs0 M h
  unfold f_L_law_166 at h
  refine g_istore_n C dL_law_166 rfl (by decide) (rv_cat _ _) (L2 := [some (rv w 159), some (rv w r1), some (.int xs0), some (.long l3), none, some (.int x5), none, some (.int x7), some (.long l8), none, some (.int x10), none, none]) rfl ?_
  refine g_aload_n C dL_law_167 rfl rfl ?_
  refine g_bipush (v := 14) C dL_law_168 rfl ?_
  obtain ⟨g901, h⟩ := of_gdd h
  obtain ⟨y904, M902, e903, h⟩ := of_opp h
  refine g_callV (As := [.int (14 : Int32)]) C (ct_X5_count C.wf e903) g901 lk_RL_13 mi_X5_count (by decide) cs_0 (by decide) dL_law_170 rfl ?_
  show Go w f 173 [some (rv w 159), some (rv w r1), some (.int xs0), some (.long l3), none, some (.int x5), none, some (.int x7), some (.long l8), none, some (.int x10), none, none] [.int y904] M902
  refine g_istore C dL_law_173 (by decide) rfl (L2 := [some (rv w 159), some (rv w r1), some (.int xs0), some (.long l3), none, some (.int x5), none, some (.int x7), some (.long l8), none, some (.int x10), some (.int y904), none]) rfl ?_
  refine g_iload_n C dL_law_175 rfl rfl ?_
  refine g_if_eq 215 C dL_law_176 (by decide) (fun c905 => ?_) (fun c905 => ?_)
  · replace h := of_ift h c905
    refine g_mask (bs := [true, true, false, true, false, true, false, true, true, false, true, true, false]) (L2 := [some (rv w 159), some (rv w r1), none, some (.long l3), none, some (.int x5), none, some (.int x7), some (.long l8), none, some (.int x10), some (.int y904), none]) rfl ?_
    exact t_L_law_215 C hR hX (fun r1' x2' l3' x5' M' h => hk62 r1' x2' l3' x5' M' h) r1 l3 x5 x7 l8 x10 y904 M902 h
  · replace h := of_iff h c905
    refine g_iload C dL_law_179 rfl ?_
    refine g_iload C dL_law_181 rfl ?_
    refine g_icmp_ne 202 C dL_law_183 (by decide) (fun c906 => ?_) (fun c906 => ?_)
    · replace h := of_iff h c906
      refine g_mask (bs := [true, true, false, true, false, true, false, true, true, false, true, true, false]) (L2 := [some (rv w 159), some (rv w r1), none, some (.long l3), none, some (.int x5), none, some (.int x7), some (.long l8), none, some (.int x10), some (.int y904), none]) rfl ?_
      exact t_L_law_202 C hR hX (fun r1' x2' l3' x5' M' h => hk62 r1' x2' l3' x5' M' h) r1 l3 x5 x7 l8 x10 y904 M902 h
    · replace h := of_ift h c906
      refine g_iload C dL_law_186 rfl ?_
      refine g_iconst (v := 4) C dL_law_188 rfl ?_
      refine g_icmp_eq 211 C dL_law_189 (by decide) (fun c907 => ?_) (fun c907 => ?_)
      · replace h := of_ift h c907
        refine g_mask (bs := [true, true, false, true, false, true, false, true, true, false, true, true, false]) (L2 := [some (rv w 159), some (rv w r1), none, some (.long l3), none, some (.int x5), none, some (.int x7), some (.long l8), none, some (.int x10), some (.int y904), none]) rfl ?_
        exact t_L_law_211 C hR hX (fun r1' x2' l3' x5' M' h => hk62 r1' x2' l3' x5' M' h) r1 l3 x5 x7 l8 x10 y904 M902 h
      · replace h := of_iff h c907
        refine g_aload_n C dL_law_192 rfl rfl ?_
        obtain ⟨y910, M908, e909, h⟩ := of_opp h
        refine g_callS (As := [rv w r1]) C (ct_L_look C.wf e909) lk_RL_86 mi_L_look (by decide) cs_0 (by decide) dL_law_193 rfl ?_
        show Go w f 196 [some (rv w 159), some (rv w r1), some (.int xs0), some (.long l3), none, some (.int x5), none, some (.int x7), some (.long l8), none, some (.int x10), some (.int y904), none] [.long y910] M908
        refine g_lload C dL_law_196 rfl ?_
        refine g_lcmp C dL_law_198 ?_
        refine g_if_eq 211 C dL_law_199 (by decide) (fun c911 => ?_) (fun c911 => ?_)
        · replace h := of_ift h c911
          refine g_mask (bs := [true, true, false, true, false, true, false, true, true, false, true, true, false]) (L2 := [some (rv w 159), some (rv w r1), none, some (.long l3), none, some (.int x5), none, some (.int x7), some (.long l8), none, some (.int x10), some (.int y904), none]) rfl ?_
          exact t_L_law_211 C hR hX (fun r1' x2' l3' x5' M' h => hk62 r1' x2' l3' x5' M' h) r1 l3 x5 x7 l8 x10 y904 M908 h
        · replace h := of_iff h c911
          refine g_mask (bs := [true, true, false, true, false, true, false, true, true, false, true, true, false]) (L2 := [some (rv w 159), some (rv w r1), none, some (.long l3), none, some (.int x5), none, some (.int x7), some (.long l8), none, some (.int x10), some (.int y904), none]) rfl ?_
          exact t_L_law_202 C hR hX (fun r1' x2' l3' x5' M' h => hk62 r1' x2' l3' x5' M' h) r1 l3 x5 x7 l8 x10 y904 M908 h
def f_L_law_165 (L : Nat) (xs : Nat → Int32) (k62 : Nat → Int32 → Int64 → Int32 → Mem → Option (Int32 × Mem)) (r1 : Nat) (l3 : Int64) (x5 : Int32) (x7 : Int32) (l8 : Int64) (x10 : Int32) (M : Mem) : Option (Int32 × Mem) := f_L_law_166 L xs k62 r1 l3 x5 x7 l8 x10 (0 : Int32) M
set_option maxRecDepth 100000 in
set_option maxHeartbeats 4000000 in
theorem t_L_law_165 {w : Om} {f : Fr} {r : Int32} {M2 : Mem} (C : Cx w f RL cL_law 13 24) (hR : Rt w f cL_law (some .boolean) (some (.int r)) M2) {L : Nat} {xs : Nat → Int32} (hX : Sx w f L xs) {k62 : Nat → Int32 → Int64 → Int32 → Mem → Option (Int32 × Mem)} (hk62 : ∀ (r1' : Nat) (x2' : Int32) (l3' : Int64) (x5' : Int32) (M' : Mem), k62 r1' x2' l3' x5' M' = some (r, M2) → Go w f 62 [some (rv w 159), some (rv w r1'), some (.int x2'), some (.long l3'), none, some (.int x5'), none, none, none, none, none, none, none] [] M') : ∀ (r1 : Nat) (l3 : Int64) (x5 : Int32) (x7 : Int32) (l8 : Int64) (x10 : Int32) (M : Mem), f_L_law_165 L xs k62 r1 l3 x5 x7 l8 x10 M = some (r, M2) → Go w f 165 [some (rv w 159), some (rv w r1), none, some (.long l3), none, some (.int x5), none, some (.int x7), some (.long l8), none, some (.int x10), none, none] [] M := by
  intro r1 l3 x5 x7 l8 x10 M h
  unfold f_L_law_165 at h
  refine g_iconst (v := 0) C dL_law_165 rfl ?_
  exact t_L_law_166 C hR hX (fun r1' x2' l3' x5' M' h => hk62 r1' x2' l3' x5' M' h) r1 l3 x5 x7 l8 x10 (0 : Int32) M h
def f_L_law_161 (L : Nat) (xs : Nat → Int32) (k62 : Nat → Int32 → Int64 → Int32 → Mem → Option (Int32 × Mem)) (r1 : Nat) (l3 : Int64) (x5 : Int32) (x7 : Int32) (l8 : Int64) (x10 : Int32) (M : Mem) : Option (Int32 × Mem) := f_L_law_166 L xs k62 r1 l3 x5 x7 l8 x10 (1 : Int32) M
set_option maxRecDepth 100000 in
set_option maxHeartbeats 4000000 in
theorem t_L_law_161 {w : Om} {f : Fr} {r : Int32} {M2 : Mem} (C : Cx w f RL cL_law 13 24) (hR : Rt w f cL_law (some .boolean) (some (.int r)) M2) {L : Nat} {xs : Nat → Int32} (hX : Sx w f L xs) {k62 : Nat → Int32 → Int64 → Int32 → Mem → Option (Int32 × Mem)} (hk62 : ∀ (r1' : Nat) (x2' : Int32) (l3' : Int64) (x5' : Int32) (M' : Mem), k62 r1' x2' l3' x5' M' = some (r, M2) → Go w f 62 [some (rv w 159), some (rv w r1'), some (.int x2'), some (.long l3'), none, some (.int x5'), none, none, none, none, none, none, none] [] M') : ∀ (r1 : Nat) (l3 : Int64) (x5 : Int32) (x7 : Int32) (l8 : Int64) (x10 : Int32) (M : Mem), f_L_law_161 L xs k62 r1 l3 x5 x7 l8 x10 M = some (r, M2) → Go w f 161 [some (rv w 159), some (rv w r1), none, some (.long l3), none, some (.int x5), none, some (.int x7), some (.long l8), none, some (.int x10), none, none] [] M := by
  intro r1 l3 x5 x7 l8 x10 M h
  unfold f_L_law_161 at h
  refine g_iconst (v := 1) C dL_law_161 rfl ?_
  refine g_goto 166 C dL_law_162 (by decide) ?_
  exact t_L_law_166 C hR hX (fun r1' x2' l3' x5' M' h => hk62 r1' x2' l3' x5' M' h) r1 l3 x5 x7 l8 x10 (1 : Int32) M h
def f_L_law_144 (L : Nat) (xs : Nat → Int32) (k62 : Nat → Int32 → Int64 → Int32 → Mem → Option (Int32 × Mem)) (r1 : Nat) (l3 : Int64) (x5 : Int32) (x7 : Int32) (l8 : Int64) (x10 : Int32) (M : Mem) : Option (Int32 × Mem) := if (x5 - x5 / (4 : Int32) * (4 : Int32)) = (2 : Int32) then (opp (f_L_would r1 x7 M) fun y2304 M2302 => if y2304 = 0 then (f_L_law_165 L xs k62 r1 l3 x5 x7 l8 x10 M2302) else (f_L_law_161 L xs k62 r1 l3 x5 x7 l8 x10 M2302)) else (f_L_law_161 L xs k62 r1 l3 x5 x7 l8 x10 M)
set_option maxRecDepth 100000 in
set_option maxHeartbeats 4000000 in
theorem t_L_law_144 {w : Om} {f : Fr} {r : Int32} {M2 : Mem} (C : Cx w f RL cL_law 13 24) (hR : Rt w f cL_law (some .boolean) (some (.int r)) M2) {L : Nat} {xs : Nat → Int32} (hX : Sx w f L xs) {k62 : Nat → Int32 → Int64 → Int32 → Mem → Option (Int32 × Mem)} (hk62 : ∀ (r1' : Nat) (x2' : Int32) (l3' : Int64) (x5' : Int32) (M' : Mem), k62 r1' x2' l3' x5' M' = some (r, M2) → Go w f 62 [some (rv w 159), some (rv w r1'), some (.int x2'), some (.long l3'), none, some (.int x5'), none, none, none, none, none, none, none] [] M') : ∀ (r1 : Nat) (l3 : Int64) (x5 : Int32) (x7 : Int32) (l8 : Int64) (x10 : Int32) (M : Mem), f_L_law_144 L xs k62 r1 l3 x5 x7 l8 x10 M = some (r, M2) → Go w f 144 [some (rv w 159), some (rv w r1), none, some (.long l3), none, some (.int x5), none, some (.int x7), some (.long l8), none, some (.int x10), none, none] [] M := by
  intro r1 l3 x5 x7 l8 x10 M h
  unfold f_L_law_144 at h
  refine g_iload C dL_law_144 rfl ?_
  refine g_iconst (v := 4) C dL_law_146 rfl ?_
  refine g_irem C dL_law_147 (by decide) ?_
  refine g_iconst (v := 2) C dL_law_148 rfl ?_
  refine g_icmp_ne 161 C dL_law_149 (by decide) (fun c2301 => ?_) (fun c2301 => ?_)
  · replace h := of_iff h c2301
    exact t_L_law_161 C hR hX (fun r1' x2' l3' x5' M' h => hk62 r1' x2' l3' x5' M' h) r1 l3 x5 x7 l8 x10 M h
  · replace h := of_ift h c2301
    refine g_aload_n C dL_law_152 rfl rfl ?_
    refine g_iload C dL_law_153 rfl ?_
    obtain ⟨y2304, M2302, e2303, h⟩ := of_opp h
    refine g_callS (As := [rv w r1, .int x7]) C (ct_L_would C.wf e2303) lk_RL_135 mi_L_would (by decide) cs_0 (by decide) dL_law_155 rfl ?_
    show Go w f 158 [some (rv w 159), some (rv w r1), none, some (.long l3), none, some (.int x5), none, some (.int x7), some (.long l8), none, some (.int x10), none, none] [.int y2304] M2302
    refine g_if_eq 165 C dL_law_158 (by decide) (fun c2305 => ?_) (fun c2305 => ?_)
    · replace h := of_ift h c2305
      exact t_L_law_165 C hR hX (fun r1' x2' l3' x5' M' h => hk62 r1' x2' l3' x5' M' h) r1 l3 x5 x7 l8 x10 M2302 h
    · replace h := of_iff h c2305
      exact t_L_law_161 C hR hX (fun r1' x2' l3' x5' M' h => hk62 r1' x2' l3' x5' M' h) r1 l3 x5 x7 l8 x10 M2302 h
def f_L_law_91 (L : Nat) (xs : Nat → Int32) (k62 : Nat → Int32 → Int64 → Int32 → Mem → Option (Int32 × Mem)) (r1 : Nat) (l3 : Int64) (x5 : Int32) (xs0 : Int32) (M : Mem) : Option (Int32 × Mem) := obb (f_L_lot L xs (((2 : Int32) * x5) + (1 : Int32))) fun y701 => opp (f_L_look r1 M) fun y705 M703 => gdd (kd r1 = 6) <| opp (f_X5_count r1 (14 : Int32) M703) fun y709 M707 => opp (f_L_acts r1 xs0 y701 M707) fun y712 M710 => if y712 = 0 then (f_L_law_165 L xs k62 r1 l3 x5 y701 y705 y709 M710) else (if 0 < (x5 - x5 / (5 : Int32) * (5 : Int32)) then (f_L_law_144 L xs k62 r1 l3 x5 y701 y705 y709 M710) else (opp (f_L_holds r1 M710) fun y717 M715 => if y717 = 0 then (f_L_law_165 L xs k62 r1 l3 x5 y701 y705 y709 M715) else (f_L_law_144 L xs k62 r1 l3 x5 y701 y705 y709 M715)))
set_option maxRecDepth 100000 in
set_option maxHeartbeats 4000000 in
theorem t_L_law_91 {w : Om} {f : Fr} {r : Int32} {M2 : Mem} (C : Cx w f RL cL_law 13 24) (hR : Rt w f cL_law (some .boolean) (some (.int r)) M2) {L : Nat} {xs : Nat → Int32} (hX : Sx w f L xs) {k62 : Nat → Int32 → Int64 → Int32 → Mem → Option (Int32 × Mem)} (hk62 : ∀ (r1' : Nat) (x2' : Int32) (l3' : Int64) (x5' : Int32) (M' : Mem), k62 r1' x2' l3' x5' M' = some (r, M2) → Go w f 62 [some (rv w 159), some (rv w r1'), some (.int x2'), some (.long l3'), none, some (.int x5'), none, none, none, none, none, none, none] [] M') : ∀ (r1 : Nat) (l3 : Int64) (x5 : Int32) (xs0 : Int32) (M : Mem), f_L_law_91 L xs k62 r1 l3 x5 xs0 M = some (r, M2) → Go w f 91 [some (rv w 159), some (rv w r1), none, some (.long l3), none, some (.int x5), none, none, none, none, none, none, none] [.int xs0] M := by
  intro r1 l3 x5 xs0 M h
  unfold f_L_law_91 at h
  refine g_istore C dL_law_91 (by decide) rfl (L2 := [some (rv w 159), some (rv w r1), none, some (.long l3), none, some (.int x5), some (.int xs0), none, none, none, none, none, none]) rfl ?_
  refine g_aload_n C dL_law_93 rfl rfl ?_
  refine g_iconst (v := 2) C dL_law_94 rfl ?_
  refine g_iload C dL_law_95 rfl ?_
  refine g_imul C dL_law_97 ?_
  refine g_iconst (v := 1) C dL_law_98 rfl ?_
  refine g_iadd C dL_law_99 ?_
  obtain ⟨y701, e702, h⟩ := of_obb h
  refine g_callX hX (As := [rv w 159, .int (((2 : Int32) * x5) + (1 : Int32))]) C (ct_L_lot C.wf e702) lk_RL_147 mi_L_lot (by decide) cs_0 (by decide) dL_law_100 rfl ?_
  show Go w f 103 [some (rv w 159), some (rv w r1), none, some (.long l3), none, some (.int x5), some (.int xs0), none, none, none, none, none, none] [.int y701] M
  refine g_istore C dL_law_103 (by decide) rfl (L2 := [some (rv w 159), some (rv w r1), none, some (.long l3), none, some (.int x5), some (.int xs0), some (.int y701), none, none, none, none, none]) rfl ?_
  refine g_aload_n C dL_law_105 rfl rfl ?_
  obtain ⟨y705, M703, e704, h⟩ := of_opp h
  refine g_callS (As := [rv w r1]) C (ct_L_look C.wf e704) lk_RL_86 mi_L_look (by decide) cs_0 (by decide) dL_law_106 rfl ?_
  show Go w f 109 [some (rv w 159), some (rv w r1), none, some (.long l3), none, some (.int x5), some (.int xs0), some (.int y701), none, none, none, none, none] [.long y705] M703
  refine g_lstore C dL_law_109 (by decide) rfl (L2 := [some (rv w 159), some (rv w r1), none, some (.long l3), none, some (.int x5), some (.int xs0), some (.int y701), some (.long y705), none, none, none, none]) rfl ?_
  refine g_aload_n C dL_law_111 rfl rfl ?_
  refine g_bipush (v := 14) C dL_law_112 rfl ?_
  obtain ⟨g706, h⟩ := of_gdd h
  obtain ⟨y709, M707, e708, h⟩ := of_opp h
  refine g_callV (As := [.int (14 : Int32)]) C (ct_X5_count C.wf e708) g706 lk_RL_13 mi_X5_count (by decide) cs_0 (by decide) dL_law_114 rfl ?_
  show Go w f 117 [some (rv w 159), some (rv w r1), none, some (.long l3), none, some (.int x5), some (.int xs0), some (.int y701), some (.long y705), none, none, none, none] [.int y709] M707
  refine g_istore C dL_law_117 (by decide) trivial (L2 := [some (rv w 159), some (rv w r1), none, some (.long l3), none, some (.int x5), some (.int xs0), some (.int y701), some (.long y705), none, some (.int y709), none, none]) rfl ?_
  refine g_aload_n C dL_law_119 rfl rfl ?_
  refine g_iload C dL_law_120 rfl ?_
  refine g_iload C dL_law_122 rfl ?_
  obtain ⟨y712, M710, e711, h⟩ := of_opp h
  refine g_callS (As := [rv w r1, .int xs0, .int y701]) C (ct_L_acts C.wf e711) lk_RL_151 mi_L_acts (by decide) cs_0 (by decide) dL_law_124 rfl ?_
  show Go w f 127 [some (rv w 159), some (rv w r1), none, some (.long l3), none, some (.int x5), some (.int xs0), some (.int y701), some (.long y705), none, some (.int y709), none, none] [.int y712] M710
  refine g_if_eq 165 C dL_law_127 (by decide) (fun c713 => ?_) (fun c713 => ?_)
  · replace h := of_ift h c713
    refine g_mask (bs := [true, true, false, true, false, true, false, true, true, false, true, false, false]) (L2 := [some (rv w 159), some (rv w r1), none, some (.long l3), none, some (.int x5), none, some (.int y701), some (.long y705), none, some (.int y709), none, none]) rfl ?_
    exact t_L_law_165 C hR hX (fun r1' x2' l3' x5' M' h => hk62 r1' x2' l3' x5' M' h) r1 l3 x5 y701 y705 y709 M710 h
  · replace h := of_iff h c713
    refine g_iload C dL_law_130 rfl ?_
    refine g_iconst (v := 5) C dL_law_132 rfl ?_
    refine g_irem C dL_law_133 (by decide) ?_
    refine g_if_gt 144 C dL_law_134 (by decide) (fun c714 => ?_) (fun c714 => ?_)
    · replace h := of_ift h c714
      refine g_mask (bs := [true, true, false, true, false, true, false, true, true, false, true, false, false]) (L2 := [some (rv w 159), some (rv w r1), none, some (.long l3), none, some (.int x5), none, some (.int y701), some (.long y705), none, some (.int y709), none, none]) rfl ?_
      exact t_L_law_144 C hR hX (fun r1' x2' l3' x5' M' h => hk62 r1' x2' l3' x5' M' h) r1 l3 x5 y701 y705 y709 M710 h
    · replace h := of_iff h c714
      refine g_aload_n C dL_law_137 rfl rfl ?_
      obtain ⟨y717, M715, e716, h⟩ := of_opp h
      refine g_callS (As := [rv w r1]) C (ct_L_holds C.wf e716) lk_RL_132 mi_L_holds (by decide) cs_0 (by decide) dL_law_138 rfl ?_
      show Go w f 141 [some (rv w 159), some (rv w r1), none, some (.long l3), none, some (.int x5), some (.int xs0), some (.int y701), some (.long y705), none, some (.int y709), none, none] [.int y717] M715
      refine g_if_eq 165 C dL_law_141 (by decide) (fun c718 => ?_) (fun c718 => ?_)
      · replace h := of_ift h c718
        refine g_mask (bs := [true, true, false, true, false, true, false, true, true, false, true, false, false]) (L2 := [some (rv w 159), some (rv w r1), none, some (.long l3), none, some (.int x5), none, some (.int y701), some (.long y705), none, some (.int y709), none, none]) rfl ?_
        exact t_L_law_165 C hR hX (fun r1' x2' l3' x5' M' h => hk62 r1' x2' l3' x5' M' h) r1 l3 x5 y701 y705 y709 M715 h
      · replace h := of_iff h c718
        refine g_mask (bs := [true, true, false, true, false, true, false, true, true, false, true, false, false]) (L2 := [some (rv w 159), some (rv w r1), none, some (.long l3), none, some (.int x5), none, some (.int y701), some (.long y705), none, some (.int y709), none, none]) rfl ?_
        exact t_L_law_144 C hR hX (fun r1' x2' l3' x5' M' h => hk62 r1' x2' l3' x5' M' h) r1 l3 x5 y701 y705 y709 M715 h
def f_L_law_62 (L : Nat) (xs : Nat → Int32) : Nat → Nat → Int32 → Int64 → Int32 → Mem → Option (Int32 × Mem)
  | 0, _, _, _, _, _ => none
  | n + 1, r1, x2, l3, x5, M => if (54 : Int32) ≤ x5 then (f_L_law_391 L xs r1 x2 M) else (if x2 = 0 then (f_L_law_391 L xs r1 x2 M) else (if (3 : Int32) ≤ x5 then (obb (f_L_lot L xs ((2 : Int32) * x5)) fun y504 => f_L_law_91 L xs (f_L_law_62 L xs n) r1 l3 x5 y504 M) else (f_L_law_91 L xs (f_L_law_62 L xs n) r1 l3 x5 (0 : Int32) M)))
set_option maxRecDepth 100000 in
set_option maxHeartbeats 4000000 in
theorem t_L_law_62 {w : Om} {f : Fr} {r : Int32} {M2 : Mem} (C : Cx w f RL cL_law 13 24) (hR : Rt w f cL_law (some .boolean) (some (.int r)) M2) {L : Nat} {xs : Nat → Int32} (hX : Sx w f L xs)   : ∀ (n : Nat) (r1 : Nat) (x2 : Int32) (l3 : Int64) (x5 : Int32) (M : Mem), f_L_law_62 L xs n r1 x2 l3 x5 M = some (r, M2) → Go w f 62 [some (rv w 159), some (rv w r1), some (.int x2), some (.long l3), none, some (.int x5), none, none, none, none, none, none, none] [] M := by
  intro n
  induction n with
  | zero =>
    intro r1 x2 l3 x5 M h
    cases h
  | succ n ih =>
    intro r1 x2 l3 x5 M h
    rw [f_L_law_62] at h
    refine g_iload C dL_law_62 rfl ?_
    refine g_bipush (v := 54) C dL_law_64 rfl ?_
    refine g_icmp_ge 391 C dL_law_66 (by decide) (fun c501 => ?_) (fun c501 => ?_)
    · replace h := of_ift h c501
      refine g_mask (bs := [false, true, true, false, false, false, false, false, false, false, false, false, false]) (L2 := [none, some (rv w r1), some (.int x2), none, none, none, none, none, none, none, none, none, none]) rfl ?_
      exact t_L_law_391 C hR hX r1 x2 M h
    · replace h := of_iff h c501
      refine g_iload_n C dL_law_69 rfl rfl ?_
      refine g_if_eq 391 C dL_law_70 (by decide) (fun c502 => ?_) (fun c502 => ?_)
      · replace h := of_ift h c502
        refine g_mask (bs := [false, true, true, false, false, false, false, false, false, false, false, false, false]) (L2 := [none, some (rv w r1), some (.int x2), none, none, none, none, none, none, none, none, none, none]) rfl ?_
        exact t_L_law_391 C hR hX r1 x2 M h
      · replace h := of_iff h c502
        refine g_iload C dL_law_73 rfl ?_
        refine g_iconst (v := 3) C dL_law_75 rfl ?_
        refine g_icmp_ge 83 C dL_law_76 (by decide) (fun c503 => ?_) (fun c503 => ?_)
        · replace h := of_ift h c503
          refine g_aload_n C dL_law_83 rfl rfl ?_
          refine g_iconst (v := 2) C dL_law_84 rfl ?_
          refine g_iload C dL_law_85 rfl ?_
          refine g_imul C dL_law_87 ?_
          obtain ⟨y504, e505, h⟩ := of_obb h
          refine g_callX hX (As := [rv w 159, .int ((2 : Int32) * x5)]) C (ct_L_lot C.wf e505) lk_RL_147 mi_L_lot (by decide) cs_0 (by decide) dL_law_88 rfl ?_
          show Go w f 91 [some (rv w 159), some (rv w r1), some (.int x2), some (.long l3), none, some (.int x5), none, none, none, none, none, none, none] [.int y504] M
          refine g_mask (bs := [true, true, false, true, false, true, false, false, false, false, false, false, false]) (L2 := [some (rv w 159), some (rv w r1), none, some (.long l3), none, some (.int x5), none, none, none, none, none, none, none]) rfl ?_
          exact t_L_law_91 C hR hX (fun r1' x2' l3' x5' M' h => ih r1' x2' l3' x5' M' h) r1 l3 x5 y504 M h
        · replace h := of_iff h c503
          refine g_iconst (v := 0) C dL_law_79 rfl ?_
          refine g_goto 91 C dL_law_80 (by decide) ?_
          refine g_mask (bs := [true, true, false, true, false, true, false, false, false, false, false, false, false]) (L2 := [some (rv w 159), some (rv w r1), none, some (.long l3), none, some (.int x5), none, none, none, none, none, none, none]) rfl ?_
          exact t_L_law_91 C hR hX (fun r1' x2' l3' x5' M' h => ih r1' x2' l3' x5' M' h) r1 l3 x5 (0 : Int32) M h
def f_L_law_53 (L : Nat) (xs : Nat → Int32) (r1 : Nat) (xs0 : Int32) (M : Mem) : Option (Int32 × Mem) := opp (f_L_look r1 M) fun y403 M401 => f_L_law_62 L xs FU r1 xs0 y403 (0 : Int32) M401
set_option maxRecDepth 100000 in
set_option maxHeartbeats 4000000 in
theorem t_L_law_53 {w : Om} {f : Fr} {r : Int32} {M2 : Mem} (C : Cx w f RL cL_law 13 24) (hR : Rt w f cL_law (some .boolean) (some (.int r)) M2) {L : Nat} {xs : Nat → Int32} (hX : Sx w f L xs)   : ∀ (r1 : Nat) (xs0 : Int32) (M : Mem), f_L_law_53 L xs r1 xs0 M = some (r, M2) → Go w f 53 [some (rv w 159), some (rv w r1), none, none, none, none, none, none, none, none, none, none, none] [.int xs0] M := by
  intro r1 xs0 M h
  unfold f_L_law_53 at h
  refine g_istore_n C dL_law_53 rfl (by decide) (rv_cat _ _) (L2 := [some (rv w 159), some (rv w r1), some (.int xs0), none, none, none, none, none, none, none, none, none, none]) rfl ?_
  refine g_aload_n C dL_law_54 rfl rfl ?_
  obtain ⟨y403, M401, e402, h⟩ := of_opp h
  refine g_callS (As := [rv w r1]) C (ct_L_look C.wf e402) lk_RL_86 mi_L_look (by decide) cs_0 (by decide) dL_law_55 rfl ?_
  show Go w f 58 [some (rv w 159), some (rv w r1), some (.int xs0), none, none, none, none, none, none, none, none, none, none] [.long y403] M401
  refine g_lstore_n C dL_law_58 rfl (by decide) rfl (L2 := [some (rv w 159), some (rv w r1), some (.int xs0), some (.long y403), none, none, none, none, none, none, none, none, none]) rfl ?_
  refine g_iconst (v := 0) C dL_law_59 rfl ?_
  refine g_istore C dL_law_60 (by decide) trivial (L2 := [some (rv w 159), some (rv w r1), some (.int xs0), some (.long y403), none, some (.int (0 : Int32)), none, none, none, none, none, none, none]) rfl ?_
  exact t_L_law_62 C hR hX _ r1 xs0 y403 (0 : Int32) M401 h
def f_L_law_52 (L : Nat) (xs : Nat → Int32) (r1 : Nat) (M : Mem) : Option (Int32 × Mem) := f_L_law_53 L xs r1 (0 : Int32) M
set_option maxRecDepth 100000 in
set_option maxHeartbeats 4000000 in
theorem t_L_law_52 {w : Om} {f : Fr} {r : Int32} {M2 : Mem} (C : Cx w f RL cL_law 13 24) (hR : Rt w f cL_law (some .boolean) (some (.int r)) M2) {L : Nat} {xs : Nat → Int32} (hX : Sx w f L xs)   : ∀ (r1 : Nat) (M : Mem), f_L_law_52 L xs r1 M = some (r, M2) → Go w f 52 [some (rv w 159), some (rv w r1), none, none, none, none, none, none, none, none, none, none, none] [] M := by
  intro r1 M h
  unfold f_L_law_52 at h
  refine g_iconst (v := 0) C dL_law_52 rfl ?_
  exact t_L_law_53 C hR hX r1 (0 : Int32) M h
def f_L_law_8 (L : Nat) (xs : Nat → Int32) (r1 : Nat) (M : Mem) : Option (Int32 × Mem) := opp (f_L_holds r1 M) fun y203 M201 => if y203 = 0 then (f_L_law_52 L xs r1 M201) else (opp (f_L_would r1 (0 : Int32) M201) fun y207 M205 => if y207 = 0 then (f_L_law_52 L xs r1 M205) else (gdd (kd r1 = 6) <| opp (f_X5_undo r1 M205) fun y212 M210 => if y212 = (-2 : Int32) then (opp (f_X5_restore r1 M210) fun y216 M214 => if y216 = (-2 : Int32) then (opp (f_X5_save r1 M214) fun y220 M218 => if y220 = 0 then (f_L_law_53 L xs r1 (1 : Int32) M218) else (f_L_law_52 L xs r1 M218)) else (f_L_law_52 L xs r1 M214)) else (f_L_law_52 L xs r1 M210)))
set_option maxRecDepth 100000 in
set_option maxHeartbeats 4000000 in
theorem t_L_law_8 {w : Om} {f : Fr} {r : Int32} {M2 : Mem} (C : Cx w f RL cL_law 13 24) (hR : Rt w f cL_law (some .boolean) (some (.int r)) M2) {L : Nat} {xs : Nat → Int32} (hX : Sx w f L xs)   : ∀ (r1 : Nat) (M : Mem), f_L_law_8 L xs r1 M = some (r, M2) → Go w f 8 [some (rv w 159), some (rv w r1), none, none, none, none, none, none, none, none, none, none, none] [] M := by
  intro r1 M h
  unfold f_L_law_8 at h
  refine g_aload_n C dL_law_8 rfl rfl ?_
  obtain ⟨y203, M201, e202, h⟩ := of_opp h
  refine g_callS (As := [rv w r1]) C (ct_L_holds C.wf e202) lk_RL_132 mi_L_holds (by decide) cs_0 (by decide) dL_law_9 rfl ?_
  show Go w f 12 [some (rv w 159), some (rv w r1), none, none, none, none, none, none, none, none, none, none, none] [.int y203] M201
  refine g_if_eq 52 C dL_law_12 (by decide) (fun c204 => ?_) (fun c204 => ?_)
  · replace h := of_ift h c204
    exact t_L_law_52 C hR hX r1 M201 h
  · replace h := of_iff h c204
    refine g_aload_n C dL_law_15 rfl rfl ?_
    refine g_iconst (v := 0) C dL_law_16 rfl ?_
    obtain ⟨y207, M205, e206, h⟩ := of_opp h
    refine g_callS (As := [rv w r1, .int (0 : Int32)]) C (ct_L_would C.wf e206) lk_RL_135 mi_L_would (by decide) cs_0 (by decide) dL_law_17 rfl ?_
    show Go w f 20 [some (rv w 159), some (rv w r1), none, none, none, none, none, none, none, none, none, none, none] [.int y207] M205
    refine g_if_eq 52 C dL_law_20 (by decide) (fun c208 => ?_) (fun c208 => ?_)
    · replace h := of_ift h c208
      exact t_L_law_52 C hR hX r1 M205 h
    · replace h := of_iff h c208
      refine g_aload_n C dL_law_23 rfl rfl ?_
      obtain ⟨g209, h⟩ := of_gdd h
      obtain ⟨y212, M210, e211, h⟩ := of_opp h
      refine g_callV (As := []) C (ct_X5_undo C.wf e211) g209 lk_RL_138 mi_X5_undo (by decide) cs_0 (by decide) dL_law_24 rfl ?_
      show Go w f 27 [some (rv w 159), some (rv w r1), none, none, none, none, none, none, none, none, none, none, none] [.int y212] M210
      refine g_bipush (v := -2) C dL_law_27 rfl ?_
      refine g_icmp_ne 52 C dL_law_29 (by decide) (fun c213 => ?_) (fun c213 => ?_)
      · replace h := of_iff h c213
        exact t_L_law_52 C hR hX r1 M210 h
      · replace h := of_ift h c213
        refine g_aload_n C dL_law_32 rfl rfl ?_
        obtain ⟨y216, M214, e215, h⟩ := of_opp h
        refine g_callV (As := []) C (ct_X5_restore C.wf e215) g209 lk_RL_141 mi_X5_restore (by decide) cs_0 (by decide) dL_law_33 rfl ?_
        show Go w f 36 [some (rv w 159), some (rv w r1), none, none, none, none, none, none, none, none, none, none, none] [.int y216] M214
        refine g_bipush (v := -2) C dL_law_36 rfl ?_
        refine g_icmp_ne 52 C dL_law_38 (by decide) (fun c217 => ?_) (fun c217 => ?_)
        · replace h := of_iff h c217
          exact t_L_law_52 C hR hX r1 M214 h
        · replace h := of_ift h c217
          refine g_aload_n C dL_law_41 rfl rfl ?_
          obtain ⟨y220, M218, e219, h⟩ := of_opp h
          refine g_callV (As := []) C (ct_X5_save C.wf e219) g209 lk_RL_144 mi_X5_save (by decide) cs_0 (by decide) dL_law_42 rfl ?_
          show Go w f 45 [some (rv w 159), some (rv w r1), none, none, none, none, none, none, none, none, none, none, none] [.int y220] M218
          refine g_if_ne 52 C dL_law_45 (by decide) (fun c221 => ?_) (fun c221 => ?_)
          · replace h := of_iff h c221
            exact t_L_law_52 C hR hX r1 M218 h
          · replace h := of_ift h c221
            refine g_iconst (v := 1) C dL_law_48 rfl ?_
            refine g_goto 53 C dL_law_49 (by decide) ?_
            exact t_L_law_53 C hR hX r1 (1 : Int32) M218 h
