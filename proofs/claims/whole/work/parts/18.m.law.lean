def f_L_law_18 (L : Nat) (xs : Nat → Int32) : Nat → Nat → Nat → Int32 → Mem → Option (Int32 × Mem)
  | 0, _, _, _, _ => none
  | n + 1, r1, r2, x3, M => if ((nI L) - (6 : Int32)) < x3 then (some ((1 : Int32), M)) else (gdd (inb x3 L = true) <| bvv ((xs (x3).toNatClampNeg) &&& (31 : Int32)) fun y203 => if y203 = nI 0 then (gdd (inb (x3 + (1 : Int32)) L = true) <| gdd (inb (x3 + (2 : Int32)) L = true) <| gdd (kd r1 = 6) <| opp (f_X5_weight r1 (xs (x3 + (1 : Int32)).toNatClampNeg) (xs (x3 + (2 : Int32)).toNatClampNeg) M) fun y211 M209 => gdd (inb (x3 + (1 : Int32)) L = true) <| gdd (inb (x3 + (2 : Int32)) L = true) <| gdd (kd r2 = 7) <| opp (f_X6_weight r2 (xs (x3 + (1 : Int32)).toNatClampNeg) (xs (x3 + (2 : Int32)).toNatClampNeg) M209) fun y217 M215 => if y211 = y217 then (bvv (x3 + (6 : Int32)) fun y219 => (f_L_law_18 L xs n) r1 r2 y219 M215) else (some ((0 : Int32), M215))) else if y203 = nI 1 then (gdd (inb (x3 + (1 : Int32)) L = true) <| gdd (inb (x3 + (2 : Int32)) L = true) <| gdd (kd r1 = 6) <| opp (f_X5_set r1 (xs (x3 + (1 : Int32)).toNatClampNeg) (xs (x3 + (2 : Int32)).toNatClampNeg) M) fun y227 M225 => gdd (inb (x3 + (1 : Int32)) L = true) <| gdd (inb (x3 + (2 : Int32)) L = true) <| gdd (kd r2 = 7) <| opp (f_X6_set r2 (xs (x3 + (1 : Int32)).toNatClampNeg) (xs (x3 + (2 : Int32)).toNatClampNeg) M225) fun y233 M231 => if y227 = y233 then (bvv (x3 + (6 : Int32)) fun y235 => (f_L_law_18 L xs n) r1 r2 y235 M231) else (some ((0 : Int32), M231))) else if y203 = nI 2 then (gdd (inb (x3 + (1 : Int32)) L = true) <| gdd (inb (x3 + (2 : Int32)) L = true) <| gdd (inb (x3 + (3 : Int32)) L = true) <| if (xs (x3 + (3 : Int32)).toNatClampNeg) = 0 then (gdd (inb (x3 + (4 : Int32)) L = true) <| gdd (inb (x3 + (5 : Int32)) L = true) <| gdd (kd r1 = 6) <| opp (f_X5_rule r1 (xs (x3 + (1 : Int32)).toNatClampNeg) (xs (x3 + (2 : Int32)).toNatClampNeg) (0 : Int32) (xs (x3 + (4 : Int32)).toNatClampNeg) (xs (x3 + (5 : Int32)).toNatClampNeg) M) fun y247 M245 => gdd (inb (x3 + (1 : Int32)) L = true) <| gdd (inb (x3 + (2 : Int32)) L = true) <| gdd (inb (x3 + (3 : Int32)) L = true) <| if (xs (x3 + (3 : Int32)).toNatClampNeg) = 0 then (gdd (inb (x3 + (4 : Int32)) L = true) <| gdd (inb (x3 + (5 : Int32)) L = true) <| gdd (kd r2 = 7) <| opp (f_X6_rule r2 (xs (x3 + (1 : Int32)).toNatClampNeg) (xs (x3 + (2 : Int32)).toNatClampNeg) (0 : Int32) (xs (x3 + (4 : Int32)).toNatClampNeg) (xs (x3 + (5 : Int32)).toNatClampNeg) M245) fun y257 M255 => if y247 = y257 then (bvv (x3 + (6 : Int32)) fun y259 => (f_L_law_18 L xs n) r1 r2 y259 M255) else (some ((0 : Int32), M255))) else (gdd (inb (x3 + (4 : Int32)) L = true) <| gdd (inb (x3 + (5 : Int32)) L = true) <| gdd (kd r2 = 7) <| opp (f_X6_rule r2 (xs (x3 + (1 : Int32)).toNatClampNeg) (xs (x3 + (2 : Int32)).toNatClampNeg) (1 : Int32) (xs (x3 + (4 : Int32)).toNatClampNeg) (xs (x3 + (5 : Int32)).toNatClampNeg) M245) fun y266 M264 => if y247 = y266 then (bvv (x3 + (6 : Int32)) fun y268 => (f_L_law_18 L xs n) r1 r2 y268 M264) else (some ((0 : Int32), M264)))) else (gdd (inb (x3 + (4 : Int32)) L = true) <| gdd (inb (x3 + (5 : Int32)) L = true) <| gdd (kd r1 = 6) <| opp (f_X5_rule r1 (xs (x3 + (1 : Int32)).toNatClampNeg) (xs (x3 + (2 : Int32)).toNatClampNeg) (1 : Int32) (xs (x3 + (4 : Int32)).toNatClampNeg) (xs (x3 + (5 : Int32)).toNatClampNeg) M) fun y275 M273 => gdd (inb (x3 + (1 : Int32)) L = true) <| gdd (inb (x3 + (2 : Int32)) L = true) <| gdd (inb (x3 + (3 : Int32)) L = true) <| if (xs (x3 + (3 : Int32)).toNatClampNeg) = 0 then (gdd (inb (x3 + (4 : Int32)) L = true) <| gdd (inb (x3 + (5 : Int32)) L = true) <| gdd (kd r2 = 7) <| opp (f_X6_rule r2 (xs (x3 + (1 : Int32)).toNatClampNeg) (xs (x3 + (2 : Int32)).toNatClampNeg) (0 : Int32) (xs (x3 + (4 : Int32)).toNatClampNeg) (xs (x3 + (5 : Int32)).toNatClampNeg) M273) fun y285 M283 => if y275 = y285 then (bvv (x3 + (6 : Int32)) fun y287 => (f_L_law_18 L xs n) r1 r2 y287 M283) else (some ((0 : Int32), M283))) else (gdd (inb (x3 + (4 : Int32)) L = true) <| gdd (inb (x3 + (5 : Int32)) L = true) <| gdd (kd r2 = 7) <| opp (f_X6_rule r2 (xs (x3 + (1 : Int32)).toNatClampNeg) (xs (x3 + (2 : Int32)).toNatClampNeg) (1 : Int32) (xs (x3 + (4 : Int32)).toNatClampNeg) (xs (x3 + (5 : Int32)).toNatClampNeg) M273) fun y294 M292 => if y275 = y294 then (bvv (x3 + (6 : Int32)) fun y296 => (f_L_law_18 L xs n) r1 r2 y296 M292) else (some ((0 : Int32), M292))))) else if y203 = nI 3 then (gdd (inb (x3 + (1 : Int32)) L = true) <| gdd (kd r1 = 6) <| opp (f_X5_overrule r1 (xs (x3 + (1 : Int32)).toNatClampNeg) M) fun y303 M301 => gdd (inb (x3 + (1 : Int32)) L = true) <| gdd (kd r2 = 7) <| opp (f_X6_overrule r2 (xs (x3 + (1 : Int32)).toNatClampNeg) M301) fun y308 M306 => if y303 = y308 then (bvv (x3 + (6 : Int32)) fun y310 => (f_L_law_18 L xs n) r1 r2 y310 M306) else (some ((0 : Int32), M306))) else if y203 = nI 4 then (gdd (kd r1 = 6) <| opp (f_X5_print r1 M) fun y316 M314 => gdd (kd r2 = 7) <| opp (f_X6_print r2 M314) fun y320 M318 => if y316 = y320 then (bvv (x3 + (6 : Int32)) fun y322 => (f_L_law_18 L xs n) r1 r2 y322 M318) else (some ((0 : Int32), M318))) else if y203 = nI 5 then (gdd (inb (x3 + (1 : Int32)) L = true) <| gdd (kd r1 = 6) <| opp (f_X5_drop r1 (xs (x3 + (1 : Int32)).toNatClampNeg) M) fun y329 M327 => gdd (inb (x3 + (1 : Int32)) L = true) <| gdd (kd r2 = 7) <| opp (f_X6_drop r2 (xs (x3 + (1 : Int32)).toNatClampNeg) M327) fun y334 M332 => if y329 = y334 then (bvv (x3 + (6 : Int32)) fun y336 => (f_L_law_18 L xs n) r1 r2 y336 M332) else (some ((0 : Int32), M332))) else if y203 = nI 6 then (gdd (inb (x3 + (1 : Int32)) L = true) <| gdd (inb (x3 + (2 : Int32)) L = true) <| gdd (kd r1 = 6) <| opp (f_X5_sue r1 (xs (x3 + (1 : Int32)).toNatClampNeg) (xs (x3 + (2 : Int32)).toNatClampNeg) M) fun y344 M342 => gdd (inb (x3 + (1 : Int32)) L = true) <| gdd (inb (x3 + (2 : Int32)) L = true) <| gdd (kd r2 = 7) <| opp (f_X6_sue r2 (xs (x3 + (1 : Int32)).toNatClampNeg) (xs (x3 + (2 : Int32)).toNatClampNeg) M342) fun y350 M348 => if y344 = y350 then (bvv (x3 + (6 : Int32)) fun y352 => (f_L_law_18 L xs n) r1 r2 y352 M348) else (some ((0 : Int32), M348))) else if y203 = nI 7 then (gdd (inb (x3 + (1 : Int32)) L = true) <| gdd (inb (x3 + (2 : Int32)) L = true) <| gdd (kd r1 = 6) <| opp (f_X5_stay r1 (xs (x3 + (1 : Int32)).toNatClampNeg) (xs (x3 + (2 : Int32)).toNatClampNeg) M) fun y360 M358 => gdd (inb (x3 + (1 : Int32)) L = true) <| gdd (inb (x3 + (2 : Int32)) L = true) <| gdd (kd r2 = 7) <| opp (f_X6_stay r2 (xs (x3 + (1 : Int32)).toNatClampNeg) (xs (x3 + (2 : Int32)).toNatClampNeg) M358) fun y366 M364 => if y360 = y366 then (bvv (x3 + (6 : Int32)) fun y368 => (f_L_law_18 L xs n) r1 r2 y368 M364) else (some ((0 : Int32), M364))) else if y203 = nI 8 then (gdd (kd r1 = 6) <| opp (f_X5_day r1 M) fun y374 M372 => gdd (kd r2 = 7) <| opp (f_X6_day r2 M372) fun y378 M376 => if y374 = y378 then (bvv (x3 + (6 : Int32)) fun y380 => (f_L_law_18 L xs n) r1 r2 y380 M376) else (some ((0 : Int32), M376))) else if y203 = nI 9 then (gdd (inb (x3 + (1 : Int32)) L = true) <| gdd (kd r1 = 6) <| opp (f_X5_append r1 (xs (x3 + (1 : Int32)).toNatClampNeg) M) fun y387 M385 => gdd (inb (x3 + (1 : Int32)) L = true) <| gdd (kd r2 = 7) <| opp (f_X6_append r2 (xs (x3 + (1 : Int32)).toNatClampNeg) M385) fun y392 M390 => if y387 = y392 then (bvv (x3 + (6 : Int32)) fun y394 => (f_L_law_18 L xs n) r1 r2 y394 M390) else (some ((0 : Int32), M390))) else if y203 = nI 10 then (gdd (kd r1 = 6) <| opp (f_X5_clear r1 M) fun y400 M398 => gdd (kd r2 = 7) <| opp (f_X6_clear r2 M398) fun y404 M402 => if y400 = y404 then (bvv (x3 + (6 : Int32)) fun y406 => (f_L_law_18 L xs n) r1 r2 y406 M402) else (some ((0 : Int32), M402))) else if y203 = nI 11 then (gdd (inb (x3 + (1 : Int32)) L = true) <| gdd (kd r1 = 6) <| obb (f_X5_fault r1 (xs (x3 + (1 : Int32)).toNatClampNeg) M) fun y411 => gdd (inb (x3 + (1 : Int32)) L = true) <| gdd (kd r2 = 7) <| opp (f_X6_fault r2 (xs (x3 + (1 : Int32)).toNatClampNeg) M) fun y417 M415 => if y411 = y417 then (bvv (x3 + (6 : Int32)) fun y419 => (f_L_law_18 L xs n) r1 r2 y419 M415) else (some ((0 : Int32), M415))) else if y203 = nI 12 then (gdd (kd r1 = 6) <| opp (f_X5_plead r1 M) fun y425 M423 => gdd (kd r2 = 7) <| opp (f_X6_plead r2 M423) fun y429 M427 => if y425 = y429 then (bvv (x3 + (6 : Int32)) fun y431 => (f_L_law_18 L xs n) r1 r2 y431 M427) else (some ((0 : Int32), M427))) else if y203 = nI 13 then (gdd (inb (x3 + (1 : Int32)) L = true) <| gdd (kd r1 = 6) <| obb (f_X5_why r1 (xs (x3 + (1 : Int32)).toNatClampNeg) M) fun y436 => gdd (inb (x3 + (1 : Int32)) L = true) <| gdd (kd r2 = 7) <| obb (f_X6_why r2 (xs (x3 + (1 : Int32)).toNatClampNeg) M) fun y440 => if y436 = y440 then (bvv (x3 + (6 : Int32)) fun y443 => (f_L_law_18 L xs n) r1 r2 y443 M) else (some ((0 : Int32), M))) else if y203 = nI 14 then (gdd (inb (x3 + (1 : Int32)) L = true) <| gdd (inb (x3 + (2 : Int32)) L = true) <| gdd (kd r1 = 6) <| obb (f_X5_sign r1 (xs (x3 + (1 : Int32)).toNatClampNeg) (xs (x3 + (2 : Int32)).toNatClampNeg) M) fun y449 => gdd (inb (x3 + (1 : Int32)) L = true) <| gdd (inb (x3 + (2 : Int32)) L = true) <| gdd (kd r2 = 7) <| obb (f_X6_sign r2 (xs (x3 + (1 : Int32)).toNatClampNeg) (xs (x3 + (2 : Int32)).toNatClampNeg) M) fun y454 => if y449 = y454 then (bvv (x3 + (6 : Int32)) fun y457 => (f_L_law_18 L xs n) r1 r2 y457 M) else (some ((0 : Int32), M))) else if y203 = nI 15 then (gdd (inb (x3 + (1 : Int32)) L = true) <| gdd (inb (x3 + (2 : Int32)) L = true) <| gdd (kd r1 = 6) <| opp (f_X5_edition r1 (xs (x3 + (1 : Int32)).toNatClampNeg) (xs (x3 + (2 : Int32)).toNatClampNeg) M) fun y465 M463 => gdd (inb (x3 + (1 : Int32)) L = true) <| gdd (inb (x3 + (2 : Int32)) L = true) <| gdd (kd r2 = 7) <| obb (f_X6_edition r2 (xs (x3 + (1 : Int32)).toNatClampNeg) (xs (x3 + (2 : Int32)).toNatClampNeg) M463) fun y469 => if y465 = y469 then (bvv (x3 + (6 : Int32)) fun y472 => (f_L_law_18 L xs n) r1 r2 y472 M463) else (some ((0 : Int32), M463))) else if y203 = nI 16 then (gdd (inb (x3 + (1 : Int32)) L = true) <| gdd (inb (x3 + (2 : Int32)) L = true) <| gdd (inb (x3 + (3 : Int32)) L = true) <| gdd (kd r1 = 6) <| opp (f_X5_gap r1 (xs (x3 + (1 : Int32)).toNatClampNeg) (xs (x3 + (2 : Int32)).toNatClampNeg) (xs (x3 + (3 : Int32)).toNatClampNeg) M) fun y481 M479 => gdd (inb (x3 + (1 : Int32)) L = true) <| gdd (inb (x3 + (2 : Int32)) L = true) <| gdd (inb (x3 + (3 : Int32)) L = true) <| gdd (kd r2 = 7) <| obb (f_X6_gap r2 (xs (x3 + (1 : Int32)).toNatClampNeg) (xs (x3 + (2 : Int32)).toNatClampNeg) (xs (x3 + (3 : Int32)).toNatClampNeg) M479) fun y486 => if y481 = y486 then (bvv (x3 + (6 : Int32)) fun y489 => (f_L_law_18 L xs n) r1 r2 y489 M479) else (some ((0 : Int32), M479))) else if y203 = nI 17 then (gdd (inb (x3 + (1 : Int32)) L = true) <| gdd (inb (x3 + (2 : Int32)) L = true) <| gdd (kd r1 = 6) <| obb (f_X5_ruling r1 (xs (x3 + (1 : Int32)).toNatClampNeg) (xs (x3 + (2 : Int32)).toNatClampNeg) M) fun y495 => gdd (inb (x3 + (1 : Int32)) L = true) <| gdd (inb (x3 + (2 : Int32)) L = true) <| gdd (kd r2 = 7) <| obb (f_X6_ruling r2 (xs (x3 + (1 : Int32)).toNatClampNeg) (xs (x3 + (2 : Int32)).toNatClampNeg) M) fun y500 => if y495 = y500 then (bvv (x3 + (6 : Int32)) fun y503 => (f_L_law_18 L xs n) r1 r2 y503 M) else (some ((0 : Int32), M))) else if y203 = nI 18 then (gdd (inb (x3 + (1 : Int32)) L = true) <| gdd (inb (x3 + (2 : Int32)) L = true) <| gdd (kd r1 = 6) <| opp (f_X5_whyNot r1 (xs (x3 + (1 : Int32)).toNatClampNeg) (xs (x3 + (2 : Int32)).toNatClampNeg) M) fun y511 M509 => gdd (inb (x3 + (1 : Int32)) L = true) <| gdd (inb (x3 + (2 : Int32)) L = true) <| gdd (kd r2 = 7) <| obb (f_X6_whyNot r2 (xs (x3 + (1 : Int32)).toNatClampNeg) (xs (x3 + (2 : Int32)).toNatClampNeg) M509) fun y515 => if y511 = y515 then (bvv (x3 + (6 : Int32)) fun y518 => (f_L_law_18 L xs n) r1 r2 y518 M509) else (some ((0 : Int32), M509))) else if y203 = nI 19 then (gdd (inb (x3 + (1 : Int32)) L = true) <| gdd (inb (x3 + (2 : Int32)) L = true) <| gdd (inb (x3 + (3 : Int32)) L = true) <| gdd (kd r1 = 6) <| opp (f_X5_best r1 (xs (x3 + (1 : Int32)).toNatClampNeg) (xs (x3 + (2 : Int32)).toNatClampNeg) (xs (x3 + (3 : Int32)).toNatClampNeg) M) fun y527 M525 => gdd (inb (x3 + (1 : Int32)) L = true) <| gdd (inb (x3 + (2 : Int32)) L = true) <| gdd (inb (x3 + (3 : Int32)) L = true) <| gdd (kd r2 = 7) <| opp (f_X6_best r2 (xs (x3 + (1 : Int32)).toNatClampNeg) (xs (x3 + (2 : Int32)).toNatClampNeg) (xs (x3 + (3 : Int32)).toNatClampNeg) M525) fun y534 M532 => if y527 = y534 then (bvv (x3 + (6 : Int32)) fun y536 => (f_L_law_18 L xs n) r1 r2 y536 M532) else (some ((0 : Int32), M532))) else if y203 = nI 20 then (gdd (inb (x3 + (1 : Int32)) L = true) <| gdd (inb (x3 + (2 : Int32)) L = true) <| gdd (kd r1 = 6) <| opp (f_X5_ways r1 (xs (x3 + (1 : Int32)).toNatClampNeg) (xs (x3 + (2 : Int32)).toNatClampNeg) M) fun y544 M542 => gdd (inb (x3 + (1 : Int32)) L = true) <| gdd (inb (x3 + (2 : Int32)) L = true) <| gdd (kd r2 = 7) <| opp (f_X6_ways r2 (xs (x3 + (1 : Int32)).toNatClampNeg) (xs (x3 + (2 : Int32)).toNatClampNeg) M542) fun y550 M548 => if y544 = y550 then (bvv (x3 + (6 : Int32)) fun y552 => (f_L_law_18 L xs n) r1 r2 y552 M548) else (some ((0 : Int32), M548))) else if y203 = nI 21 then (gdd (inb (x3 + (1 : Int32)) L = true) <| gdd (kd r1 = 6) <| opp (f_X5_count r1 (xs (x3 + (1 : Int32)).toNatClampNeg) M) fun y559 M557 => gdd (inb (x3 + (1 : Int32)) L = true) <| gdd (kd r2 = 7) <| obb (f_X6_count r2 (xs (x3 + (1 : Int32)).toNatClampNeg) M557) fun y562 => if y559 = y562 then (bvv (x3 + (6 : Int32)) fun y565 => (f_L_law_18 L xs n) r1 r2 y565 M557) else (some ((0 : Int32), M557))) else if y203 = nI 22 then (gdd (kd r1 = 6) <| obb (f_X5_length r1 M) fun y569 => gdd (kd r2 = 7) <| obb (f_X6_length r2 M) fun y572 => if (Op.cmpValue (FP.dcmp y569 y572) .l) = 0 then (bvv (x3 + (6 : Int32)) fun y575 => (f_L_law_18 L xs n) r1 r2 y575 M) else (if (Op.cmpValue (FP.dcmp y569 y569) .l) = 0 then (some ((0 : Int32), M)) else (if (Op.cmpValue (FP.dcmp y572 y572) .l) = 0 then (some ((0 : Int32), M)) else (bvv (x3 + (6 : Int32)) fun y579 => (f_L_law_18 L xs n) r1 r2 y579 M)))) else if y203 = nI 23 then (gdd (inb (x3 + (1 : Int32)) L = true) <| gdd (inb (x3 + (2 : Int32)) L = true) <| gdd (inb (x3 + (3 : Int32)) L = true) <| if (xs (x3 + (3 : Int32)).toNatClampNeg) = 0 then (gdd (inb (x3 + (4 : Int32)) L = true) <| gdd (kd r1 = 6) <| obb (f_X5_ifRuled r1 (xs (x3 + (1 : Int32)).toNatClampNeg) (xs (x3 + (2 : Int32)).toNatClampNeg) (0 : Int32) (xs (x3 + (4 : Int32)).toNatClampNeg) M) fun y588 => gdd (inb (x3 + (1 : Int32)) L = true) <| gdd (inb (x3 + (2 : Int32)) L = true) <| gdd (inb (x3 + (3 : Int32)) L = true) <| if (xs (x3 + (3 : Int32)).toNatClampNeg) = 0 then (gdd (inb (x3 + (4 : Int32)) L = true) <| gdd (kd r2 = 7) <| obb (f_X6_ifRuled r2 (xs (x3 + (1 : Int32)).toNatClampNeg) (xs (x3 + (2 : Int32)).toNatClampNeg) (0 : Int32) (xs (x3 + (4 : Int32)).toNatClampNeg) M) fun y596 => if y588 = y596 then (bvv (x3 + (6 : Int32)) fun y599 => (f_L_law_18 L xs n) r1 r2 y599 M) else (some ((0 : Int32), M))) else (gdd (inb (x3 + (4 : Int32)) L = true) <| gdd (kd r2 = 7) <| obb (f_X6_ifRuled r2 (xs (x3 + (1 : Int32)).toNatClampNeg) (xs (x3 + (2 : Int32)).toNatClampNeg) (1 : Int32) (xs (x3 + (4 : Int32)).toNatClampNeg) M) fun y603 => if y588 = y603 then (bvv (x3 + (6 : Int32)) fun y606 => (f_L_law_18 L xs n) r1 r2 y606 M) else (some ((0 : Int32), M)))) else (gdd (inb (x3 + (4 : Int32)) L = true) <| gdd (kd r1 = 6) <| obb (f_X5_ifRuled r1 (xs (x3 + (1 : Int32)).toNatClampNeg) (xs (x3 + (2 : Int32)).toNatClampNeg) (1 : Int32) (xs (x3 + (4 : Int32)).toNatClampNeg) M) fun y610 => gdd (inb (x3 + (1 : Int32)) L = true) <| gdd (inb (x3 + (2 : Int32)) L = true) <| gdd (inb (x3 + (3 : Int32)) L = true) <| if (xs (x3 + (3 : Int32)).toNatClampNeg) = 0 then (gdd (inb (x3 + (4 : Int32)) L = true) <| gdd (kd r2 = 7) <| obb (f_X6_ifRuled r2 (xs (x3 + (1 : Int32)).toNatClampNeg) (xs (x3 + (2 : Int32)).toNatClampNeg) (0 : Int32) (xs (x3 + (4 : Int32)).toNatClampNeg) M) fun y618 => if y610 = y618 then (bvv (x3 + (6 : Int32)) fun y621 => (f_L_law_18 L xs n) r1 r2 y621 M) else (some ((0 : Int32), M))) else (gdd (inb (x3 + (4 : Int32)) L = true) <| gdd (kd r2 = 7) <| obb (f_X6_ifRuled r2 (xs (x3 + (1 : Int32)).toNatClampNeg) (xs (x3 + (2 : Int32)).toNatClampNeg) (1 : Int32) (xs (x3 + (4 : Int32)).toNatClampNeg) M) fun y625 => if y610 = y625 then (bvv (x3 + (6 : Int32)) fun y628 => (f_L_law_18 L xs n) r1 r2 y628 M) else (some ((0 : Int32), M))))) else if y203 = nI 24 then (gdd (inb (x3 + (1 : Int32)) L = true) <| gdd (kd r1 = 6) <| opp (f_X5_bestSuit r1 (xs (x3 + (1 : Int32)).toNatClampNeg) M) fun y635 M633 => gdd (inb (x3 + (1 : Int32)) L = true) <| gdd (kd r2 = 7) <| obb (f_X6_bestSuit r2 (xs (x3 + (1 : Int32)).toNatClampNeg) M633) fun y638 => if y635 = y638 then (bvv (x3 + (6 : Int32)) fun y641 => (f_L_law_18 L xs n) r1 r2 y641 M633) else (some ((0 : Int32), M633))) else if y203 = nI 25 then (gdd (kd r1 = 6) <| opp (f_X5_undo r1 M) fun y647 M645 => gdd (kd r2 = 7) <| opp (f_X6_undo r2 M645) fun y651 M649 => if y647 = y651 then (bvv (x3 + (6 : Int32)) fun y653 => (f_L_law_18 L xs n) r1 r2 y653 M649) else (some ((0 : Int32), M649))) else if y203 = nI 26 then (gdd (kd r1 = 6) <| opp (f_X5_save r1 M) fun y659 M657 => gdd (kd r2 = 7) <| opp (f_X6_save r2 M657) fun y663 M661 => if y659 = y663 then (bvv (x3 + (6 : Int32)) fun y665 => (f_L_law_18 L xs n) r1 r2 y665 M661) else (some ((0 : Int32), M661))) else if y203 = nI 27 then (gdd (kd r1 = 6) <| opp (f_X5_restore r1 M) fun y671 M669 => gdd (kd r2 = 7) <| opp (f_X6_restore r2 M669) fun y675 M673 => if y671 = y675 then (bvv (x3 + (6 : Int32)) fun y677 => (f_L_law_18 L xs n) r1 r2 y677 M673) else (some ((0 : Int32), M673))) else (bvv (x3 + (6 : Int32)) fun y679 => (f_L_law_18 L xs n) r1 r2 y679 M))
set_option maxRecDepth 100000 in
set_option maxHeartbeats 4000000 in
theorem t_L_law_18 {w : Om} {f : Fr} {r : Int32} {M2 : Mem} (C : Cx w f RL cL_law 8 23) (hR : Rt w f cL_law (some .boolean) (some (.int r)) M2) {L : Nat} {xs : Nat → Int32} (hX : Sx w f L xs)   : ∀ (n : Nat) (r1 : Nat) (r2 : Nat) (x3 : Int32) (M : Mem), f_L_law_18 L xs n r1 r2 x3 M = some (r, M2) → Go w f 18 [some (rv w 159), some (rv w r1), some (rv w r2), some (.int x3), none, none, none, none] [] M := by
  intro n
  induction n with
  | zero =>
    intro r1 r2 x3 M h
    cases h
  | succ n ih =>
    intro r1 r2 x3 M h
    rw [f_L_law_18] at h
    refine g_iload_n C dL_law_18 rfl rfl ?_
    refine g_aload_n C dL_law_19 rfl rfl ?_
    refine g_slen C hX dL_law_20 ?_
    refine g_bipush (v := 6) C dL_law_21 rfl ?_
    refine g_isub C dL_law_23 ?_
    refine g_icmp_gt 990 C dL_law_24 (by decide) (fun c201 => ?_) (fun c201 => ?_)
    · replace h := of_ift h c201
      refine g_iconst (v := 1) C dL_law_990 rfl ?_
      cases h
      exact hR 991 _ ⟨.boolean, rfl, rfl⟩ dL_law_991
    · replace h := of_iff h c201
      refine g_aload_n C dL_law_27 rfl rfl ?_
      refine g_iload_n C dL_law_28 rfl rfl ?_
      obtain ⟨g202, h⟩ := of_gdd h
      refine g_sld C hX g202 dL_law_29 ?_
      refine g_bipush (v := 31) C dL_law_30 rfl ?_
      refine g_iand C dL_law_32 ?_
      obtain ⟨y203, e204, h⟩ := of_bvv h
      refine g_topi e204 ?_
      by_cases c205 : y203 = nI 0
      · replace h := of_ift h c205
        refine g_tsI (nI 0) (127) 160 C dL_law_33 c205 (by decide) (by decide) rfl (by decide) ?_
        refine g_aload_n C dL_law_160 rfl rfl ?_
        refine g_aload_n C dL_law_161 rfl rfl ?_
        refine g_iload_n C dL_law_162 rfl rfl ?_
        refine g_iconst (v := 1) C dL_law_163 rfl ?_
        refine g_iadd C dL_law_164 ?_
        obtain ⟨g206, h⟩ := of_gdd h
        refine g_sld C hX g206 dL_law_165 ?_
        refine g_aload_n C dL_law_166 rfl rfl ?_
        refine g_iload_n C dL_law_167 rfl rfl ?_
        refine g_iconst (v := 2) C dL_law_168 rfl ?_
        refine g_iadd C dL_law_169 ?_
        obtain ⟨g207, h⟩ := of_gdd h
        refine g_sld C hX g207 dL_law_170 ?_
        obtain ⟨g208, h⟩ := of_gdd h
        obtain ⟨y211, M209, e210, h⟩ := of_opp h
        refine g_callV (As := [.int (xs (x3 + (1 : Int32)).toNatClampNeg), .int (xs (x3 + (2 : Int32)).toNatClampNeg)]) C (ct_X5_weight C.wf e210) g208 lk_RL_13 mi_X5_weight (by decide) cs_0 (by decide) dL_law_171 rfl ?_
        show Go w f 174 [some (rv w 159), some (rv w r1), some (rv w r2), some (.int x3), none, none, none, none] [.int y211] M209
        refine g_aload_n C dL_law_174 rfl rfl ?_
        refine g_aload_n C dL_law_175 rfl rfl ?_
        refine g_iload_n C dL_law_176 rfl rfl ?_
        refine g_iconst (v := 1) C dL_law_177 rfl ?_
        refine g_iadd C dL_law_178 ?_
        obtain ⟨g212, h⟩ := of_gdd h
        refine g_sld C hX g212 dL_law_179 ?_
        refine g_aload_n C dL_law_180 rfl rfl ?_
        refine g_iload_n C dL_law_181 rfl rfl ?_
        refine g_iconst (v := 2) C dL_law_182 rfl ?_
        refine g_iadd C dL_law_183 ?_
        obtain ⟨g213, h⟩ := of_gdd h
        refine g_sld C hX g213 dL_law_184 ?_
        obtain ⟨g214, h⟩ := of_gdd h
        obtain ⟨y217, M215, e216, h⟩ := of_opp h
        refine g_callV (As := [.int (xs (x3 + (1 : Int32)).toNatClampNeg), .int (xs (x3 + (2 : Int32)).toNatClampNeg)]) C (ct_X6_weight C.wf e216) g214 lk_RL_17 mi_X6_weight (by decide) (cs_i cs_0) (by decide) dL_law_185 rfl ?_
        show Go w f 188 [some (rv w 159), some (rv w r1), some (rv w r2), some (.int x3), none, none, none, none] [.int y217, .int y211] M215
        refine g_icmp_eq 984 C dL_law_188 (by decide) (fun c218 => ?_) (fun c218 => ?_)
        · replace h := of_ift h c218
          obtain ⟨y219, e220, h⟩ := of_bvv h
          refine g_iinc (v := y219) C dL_law_984 rfl e220.symm (by decide) (rv_cat _ _) (L2 := [some (rv w 159), some (rv w r1), some (rv w r2), some (.int y219), none, none, none, none]) rfl ?_
          refine g_goto 18 C dL_law_987 (by decide) ?_
          exact ih r1 r2 y219 M215 h
        · replace h := of_iff h c218
          refine g_iconst (v := 0) C dL_law_191 rfl ?_
          cases h
          exact hR 192 _ ⟨.boolean, rfl, rfl⟩ dL_law_192
      replace h := of_iff h c205
      by_cases c221 : y203 = nI 1
      · replace h := of_ift h c221
        refine g_tsI (nI 1) (160) 193 C dL_law_33 c221 (by decide) (by decide) rfl (by decide) ?_
        refine g_aload_n C dL_law_193 rfl rfl ?_
        refine g_aload_n C dL_law_194 rfl rfl ?_
        refine g_iload_n C dL_law_195 rfl rfl ?_
        refine g_iconst (v := 1) C dL_law_196 rfl ?_
        refine g_iadd C dL_law_197 ?_
        obtain ⟨g222, h⟩ := of_gdd h
        refine g_sld C hX g222 dL_law_198 ?_
        refine g_aload_n C dL_law_199 rfl rfl ?_
        refine g_iload_n C dL_law_200 rfl rfl ?_
        refine g_iconst (v := 2) C dL_law_201 rfl ?_
        refine g_iadd C dL_law_202 ?_
        obtain ⟨g223, h⟩ := of_gdd h
        refine g_sld C hX g223 dL_law_203 ?_
        obtain ⟨g224, h⟩ := of_gdd h
        obtain ⟨y227, M225, e226, h⟩ := of_opp h
        refine g_callV (As := [.int (xs (x3 + (1 : Int32)).toNatClampNeg), .int (xs (x3 + (2 : Int32)).toNatClampNeg)]) C (ct_X5_set C.wf e226) g224 lk_RL_18 mi_X5_set (by decide) cs_0 (by decide) dL_law_204 rfl ?_
        show Go w f 207 [some (rv w 159), some (rv w r1), some (rv w r2), some (.int x3), none, none, none, none] [.int y227] M225
        refine g_aload_n C dL_law_207 rfl rfl ?_
        refine g_aload_n C dL_law_208 rfl rfl ?_
        refine g_iload_n C dL_law_209 rfl rfl ?_
        refine g_iconst (v := 1) C dL_law_210 rfl ?_
        refine g_iadd C dL_law_211 ?_
        obtain ⟨g228, h⟩ := of_gdd h
        refine g_sld C hX g228 dL_law_212 ?_
        refine g_aload_n C dL_law_213 rfl rfl ?_
        refine g_iload_n C dL_law_214 rfl rfl ?_
        refine g_iconst (v := 2) C dL_law_215 rfl ?_
        refine g_iadd C dL_law_216 ?_
        obtain ⟨g229, h⟩ := of_gdd h
        refine g_sld C hX g229 dL_law_217 ?_
        obtain ⟨g230, h⟩ := of_gdd h
        obtain ⟨y233, M231, e232, h⟩ := of_opp h
        refine g_callV (As := [.int (xs (x3 + (1 : Int32)).toNatClampNeg), .int (xs (x3 + (2 : Int32)).toNatClampNeg)]) C (ct_X6_set C.wf e232) g230 lk_RL_21 mi_X6_set (by decide) (cs_i cs_0) (by decide) dL_law_218 rfl ?_
        show Go w f 221 [some (rv w 159), some (rv w r1), some (rv w r2), some (.int x3), none, none, none, none] [.int y233, .int y227] M231
        refine g_icmp_eq 984 C dL_law_221 (by decide) (fun c234 => ?_) (fun c234 => ?_)
        · replace h := of_ift h c234
          obtain ⟨y235, e236, h⟩ := of_bvv h
          refine g_iinc (v := y235) C dL_law_984 rfl e236.symm (by decide) (rv_cat _ _) (L2 := [some (rv w 159), some (rv w r1), some (rv w r2), some (.int y235), none, none, none, none]) rfl ?_
          refine g_goto 18 C dL_law_987 (by decide) ?_
          exact ih r1 r2 y235 M231 h
        · replace h := of_iff h c234
          refine g_iconst (v := 0) C dL_law_224 rfl ?_
          cases h
          exact hR 225 _ ⟨.boolean, rfl, rfl⟩ dL_law_225
      replace h := of_iff h c221
      by_cases c237 : y203 = nI 2
      · replace h := of_ift h c237
        refine g_tsI (nI 2) (193) 226 C dL_law_33 c237 (by decide) (by decide) rfl (by decide) ?_
        refine g_aload_n C dL_law_226 rfl rfl ?_
        refine g_aload_n C dL_law_227 rfl rfl ?_
        refine g_iload_n C dL_law_228 rfl rfl ?_
        refine g_iconst (v := 1) C dL_law_229 rfl ?_
        refine g_iadd C dL_law_230 ?_
        obtain ⟨g238, h⟩ := of_gdd h
        refine g_sld C hX g238 dL_law_231 ?_
        refine g_aload_n C dL_law_232 rfl rfl ?_
        refine g_iload_n C dL_law_233 rfl rfl ?_
        refine g_iconst (v := 2) C dL_law_234 rfl ?_
        refine g_iadd C dL_law_235 ?_
        obtain ⟨g239, h⟩ := of_gdd h
        refine g_sld C hX g239 dL_law_236 ?_
        refine g_aload_n C dL_law_237 rfl rfl ?_
        refine g_iload_n C dL_law_238 rfl rfl ?_
        refine g_iconst (v := 3) C dL_law_239 rfl ?_
        refine g_iadd C dL_law_240 ?_
        obtain ⟨g240, h⟩ := of_gdd h
        refine g_sld C hX g240 dL_law_241 ?_
        refine g_if_eq 249 C dL_law_242 (by decide) (fun c241 => ?_) (fun c241 => ?_)
        · replace h := of_ift h c241
          refine g_iconst (v := 0) C dL_law_249 rfl ?_
          refine g_aload_n C dL_law_250 rfl rfl ?_
          refine g_iload_n C dL_law_251 rfl rfl ?_
          refine g_iconst (v := 4) C dL_law_252 rfl ?_
          refine g_iadd C dL_law_253 ?_
          obtain ⟨g242, h⟩ := of_gdd h
          refine g_sld C hX g242 dL_law_254 ?_
          refine g_aload_n C dL_law_255 rfl rfl ?_
          refine g_iload_n C dL_law_256 rfl rfl ?_
          refine g_iconst (v := 5) C dL_law_257 rfl ?_
          refine g_iadd C dL_law_258 ?_
          obtain ⟨g243, h⟩ := of_gdd h
          refine g_sld C hX g243 dL_law_259 ?_
          obtain ⟨g244, h⟩ := of_gdd h
          obtain ⟨y247, M245, e246, h⟩ := of_opp h
          refine g_callV (As := [.int (xs (x3 + (1 : Int32)).toNatClampNeg), .int (xs (x3 + (2 : Int32)).toNatClampNeg), .int (0 : Int32), .int (xs (x3 + (4 : Int32)).toNatClampNeg), .int (xs (x3 + (5 : Int32)).toNatClampNeg)]) C (ct_X5_rule C.wf e246) g244 lk_RL_22 mi_X5_rule (by decide) cs_0 (by decide) dL_law_260 rfl ?_
          show Go w f 263 [some (rv w 159), some (rv w r1), some (rv w r2), some (.int x3), none, none, none, none] [.int y247] M245
          refine g_aload_n C dL_law_263 rfl rfl ?_
          refine g_aload_n C dL_law_264 rfl rfl ?_
          refine g_iload_n C dL_law_265 rfl rfl ?_
          refine g_iconst (v := 1) C dL_law_266 rfl ?_
          refine g_iadd C dL_law_267 ?_
          obtain ⟨g248, h⟩ := of_gdd h
          refine g_sld C hX g248 dL_law_268 ?_
          refine g_aload_n C dL_law_269 rfl rfl ?_
          refine g_iload_n C dL_law_270 rfl rfl ?_
          refine g_iconst (v := 2) C dL_law_271 rfl ?_
          refine g_iadd C dL_law_272 ?_
          obtain ⟨g249, h⟩ := of_gdd h
          refine g_sld C hX g249 dL_law_273 ?_
          refine g_aload_n C dL_law_274 rfl rfl ?_
          refine g_iload_n C dL_law_275 rfl rfl ?_
          refine g_iconst (v := 3) C dL_law_276 rfl ?_
          refine g_iadd C dL_law_277 ?_
          obtain ⟨g250, h⟩ := of_gdd h
          refine g_sld C hX g250 dL_law_278 ?_
          refine g_if_eq 286 C dL_law_279 (by decide) (fun c251 => ?_) (fun c251 => ?_)
          · replace h := of_ift h c251
            refine g_iconst (v := 0) C dL_law_286 rfl ?_
            refine g_aload_n C dL_law_287 rfl rfl ?_
            refine g_iload_n C dL_law_288 rfl rfl ?_
            refine g_iconst (v := 4) C dL_law_289 rfl ?_
            refine g_iadd C dL_law_290 ?_
            obtain ⟨g252, h⟩ := of_gdd h
            refine g_sld C hX g252 dL_law_291 ?_
            refine g_aload_n C dL_law_292 rfl rfl ?_
            refine g_iload_n C dL_law_293 rfl rfl ?_
            refine g_iconst (v := 5) C dL_law_294 rfl ?_
            refine g_iadd C dL_law_295 ?_
            obtain ⟨g253, h⟩ := of_gdd h
            refine g_sld C hX g253 dL_law_296 ?_
            obtain ⟨g254, h⟩ := of_gdd h
            obtain ⟨y257, M255, e256, h⟩ := of_opp h
            refine g_callV (As := [.int (xs (x3 + (1 : Int32)).toNatClampNeg), .int (xs (x3 + (2 : Int32)).toNatClampNeg), .int (0 : Int32), .int (xs (x3 + (4 : Int32)).toNatClampNeg), .int (xs (x3 + (5 : Int32)).toNatClampNeg)]) C (ct_X6_rule C.wf e256) g254 lk_RL_26 mi_X6_rule (by decide) (cs_i cs_0) (by decide) dL_law_297 rfl ?_
            show Go w f 300 [some (rv w 159), some (rv w r1), some (rv w r2), some (.int x3), none, none, none, none] [.int y257, .int y247] M255
            refine g_icmp_eq 984 C dL_law_300 (by decide) (fun c258 => ?_) (fun c258 => ?_)
            · replace h := of_ift h c258
              obtain ⟨y259, e260, h⟩ := of_bvv h
              refine g_iinc (v := y259) C dL_law_984 rfl e260.symm (by decide) (rv_cat _ _) (L2 := [some (rv w 159), some (rv w r1), some (rv w r2), some (.int y259), none, none, none, none]) rfl ?_
              refine g_goto 18 C dL_law_987 (by decide) ?_
              exact ih r1 r2 y259 M255 h
            · replace h := of_iff h c258
              refine g_iconst (v := 0) C dL_law_303 rfl ?_
              cases h
              exact hR 304 _ ⟨.boolean, rfl, rfl⟩ dL_law_304
          · replace h := of_iff h c251
            refine g_iconst (v := 1) C dL_law_282 rfl ?_
            refine g_goto 287 C dL_law_283 (by decide) ?_
            refine g_aload_n C dL_law_287 rfl rfl ?_
            refine g_iload_n C dL_law_288 rfl rfl ?_
            refine g_iconst (v := 4) C dL_law_289 rfl ?_
            refine g_iadd C dL_law_290 ?_
            obtain ⟨g261, h⟩ := of_gdd h
            refine g_sld C hX g261 dL_law_291 ?_
            refine g_aload_n C dL_law_292 rfl rfl ?_
            refine g_iload_n C dL_law_293 rfl rfl ?_
            refine g_iconst (v := 5) C dL_law_294 rfl ?_
            refine g_iadd C dL_law_295 ?_
            obtain ⟨g262, h⟩ := of_gdd h
            refine g_sld C hX g262 dL_law_296 ?_
            obtain ⟨g263, h⟩ := of_gdd h
            obtain ⟨y266, M264, e265, h⟩ := of_opp h
            refine g_callV (As := [.int (xs (x3 + (1 : Int32)).toNatClampNeg), .int (xs (x3 + (2 : Int32)).toNatClampNeg), .int (1 : Int32), .int (xs (x3 + (4 : Int32)).toNatClampNeg), .int (xs (x3 + (5 : Int32)).toNatClampNeg)]) C (ct_X6_rule C.wf e265) g263 lk_RL_26 mi_X6_rule (by decide) (cs_i cs_0) (by decide) dL_law_297 rfl ?_
            show Go w f 300 [some (rv w 159), some (rv w r1), some (rv w r2), some (.int x3), none, none, none, none] [.int y266, .int y247] M264
            refine g_icmp_eq 984 C dL_law_300 (by decide) (fun c267 => ?_) (fun c267 => ?_)
            · replace h := of_ift h c267
              obtain ⟨y268, e269, h⟩ := of_bvv h
              refine g_iinc (v := y268) C dL_law_984 rfl e269.symm (by decide) (rv_cat _ _) (L2 := [some (rv w 159), some (rv w r1), some (rv w r2), some (.int y268), none, none, none, none]) rfl ?_
              refine g_goto 18 C dL_law_987 (by decide) ?_
              exact ih r1 r2 y268 M264 h
            · replace h := of_iff h c267
              refine g_iconst (v := 0) C dL_law_303 rfl ?_
              cases h
              exact hR 304 _ ⟨.boolean, rfl, rfl⟩ dL_law_304
        · replace h := of_iff h c241
          refine g_iconst (v := 1) C dL_law_245 rfl ?_
          refine g_goto 250 C dL_law_246 (by decide) ?_
          refine g_aload_n C dL_law_250 rfl rfl ?_
          refine g_iload_n C dL_law_251 rfl rfl ?_
          refine g_iconst (v := 4) C dL_law_252 rfl ?_
          refine g_iadd C dL_law_253 ?_
          obtain ⟨g270, h⟩ := of_gdd h
          refine g_sld C hX g270 dL_law_254 ?_
          refine g_aload_n C dL_law_255 rfl rfl ?_
          refine g_iload_n C dL_law_256 rfl rfl ?_
          refine g_iconst (v := 5) C dL_law_257 rfl ?_
          refine g_iadd C dL_law_258 ?_
          obtain ⟨g271, h⟩ := of_gdd h
          refine g_sld C hX g271 dL_law_259 ?_
          obtain ⟨g272, h⟩ := of_gdd h
          obtain ⟨y275, M273, e274, h⟩ := of_opp h
          refine g_callV (As := [.int (xs (x3 + (1 : Int32)).toNatClampNeg), .int (xs (x3 + (2 : Int32)).toNatClampNeg), .int (1 : Int32), .int (xs (x3 + (4 : Int32)).toNatClampNeg), .int (xs (x3 + (5 : Int32)).toNatClampNeg)]) C (ct_X5_rule C.wf e274) g272 lk_RL_22 mi_X5_rule (by decide) cs_0 (by decide) dL_law_260 rfl ?_
          show Go w f 263 [some (rv w 159), some (rv w r1), some (rv w r2), some (.int x3), none, none, none, none] [.int y275] M273
          refine g_aload_n C dL_law_263 rfl rfl ?_
          refine g_aload_n C dL_law_264 rfl rfl ?_
          refine g_iload_n C dL_law_265 rfl rfl ?_
          refine g_iconst (v := 1) C dL_law_266 rfl ?_
          refine g_iadd C dL_law_267 ?_
          obtain ⟨g276, h⟩ := of_gdd h
          refine g_sld C hX g276 dL_law_268 ?_
          refine g_aload_n C dL_law_269 rfl rfl ?_
          refine g_iload_n C dL_law_270 rfl rfl ?_
          refine g_iconst (v := 2) C dL_law_271 rfl ?_
          refine g_iadd C dL_law_272 ?_
          obtain ⟨g277, h⟩ := of_gdd h
          refine g_sld C hX g277 dL_law_273 ?_
          refine g_aload_n C dL_law_274 rfl rfl ?_
          refine g_iload_n C dL_law_275 rfl rfl ?_
          refine g_iconst (v := 3) C dL_law_276 rfl ?_
          refine g_iadd C dL_law_277 ?_
          obtain ⟨g278, h⟩ := of_gdd h
          refine g_sld C hX g278 dL_law_278 ?_
          refine g_if_eq 286 C dL_law_279 (by decide) (fun c279 => ?_) (fun c279 => ?_)
          · replace h := of_ift h c279
            refine g_iconst (v := 0) C dL_law_286 rfl ?_
            refine g_aload_n C dL_law_287 rfl rfl ?_
            refine g_iload_n C dL_law_288 rfl rfl ?_
            refine g_iconst (v := 4) C dL_law_289 rfl ?_
            refine g_iadd C dL_law_290 ?_
            obtain ⟨g280, h⟩ := of_gdd h
            refine g_sld C hX g280 dL_law_291 ?_
            refine g_aload_n C dL_law_292 rfl rfl ?_
            refine g_iload_n C dL_law_293 rfl rfl ?_
            refine g_iconst (v := 5) C dL_law_294 rfl ?_
            refine g_iadd C dL_law_295 ?_
            obtain ⟨g281, h⟩ := of_gdd h
            refine g_sld C hX g281 dL_law_296 ?_
            obtain ⟨g282, h⟩ := of_gdd h
            obtain ⟨y285, M283, e284, h⟩ := of_opp h
            refine g_callV (As := [.int (xs (x3 + (1 : Int32)).toNatClampNeg), .int (xs (x3 + (2 : Int32)).toNatClampNeg), .int (0 : Int32), .int (xs (x3 + (4 : Int32)).toNatClampNeg), .int (xs (x3 + (5 : Int32)).toNatClampNeg)]) C (ct_X6_rule C.wf e284) g282 lk_RL_26 mi_X6_rule (by decide) (cs_i cs_0) (by decide) dL_law_297 rfl ?_
            show Go w f 300 [some (rv w 159), some (rv w r1), some (rv w r2), some (.int x3), none, none, none, none] [.int y285, .int y275] M283
            refine g_icmp_eq 984 C dL_law_300 (by decide) (fun c286 => ?_) (fun c286 => ?_)
            · replace h := of_ift h c286
              obtain ⟨y287, e288, h⟩ := of_bvv h
              refine g_iinc (v := y287) C dL_law_984 rfl e288.symm (by decide) (rv_cat _ _) (L2 := [some (rv w 159), some (rv w r1), some (rv w r2), some (.int y287), none, none, none, none]) rfl ?_
              refine g_goto 18 C dL_law_987 (by decide) ?_
              exact ih r1 r2 y287 M283 h
            · replace h := of_iff h c286
              refine g_iconst (v := 0) C dL_law_303 rfl ?_
              cases h
              exact hR 304 _ ⟨.boolean, rfl, rfl⟩ dL_law_304
          · replace h := of_iff h c279
            refine g_iconst (v := 1) C dL_law_282 rfl ?_
            refine g_goto 287 C dL_law_283 (by decide) ?_
            refine g_aload_n C dL_law_287 rfl rfl ?_
            refine g_iload_n C dL_law_288 rfl rfl ?_
            refine g_iconst (v := 4) C dL_law_289 rfl ?_
            refine g_iadd C dL_law_290 ?_
            obtain ⟨g289, h⟩ := of_gdd h
            refine g_sld C hX g289 dL_law_291 ?_
            refine g_aload_n C dL_law_292 rfl rfl ?_
            refine g_iload_n C dL_law_293 rfl rfl ?_
            refine g_iconst (v := 5) C dL_law_294 rfl ?_
            refine g_iadd C dL_law_295 ?_
            obtain ⟨g290, h⟩ := of_gdd h
            refine g_sld C hX g290 dL_law_296 ?_
            obtain ⟨g291, h⟩ := of_gdd h
            obtain ⟨y294, M292, e293, h⟩ := of_opp h
            refine g_callV (As := [.int (xs (x3 + (1 : Int32)).toNatClampNeg), .int (xs (x3 + (2 : Int32)).toNatClampNeg), .int (1 : Int32), .int (xs (x3 + (4 : Int32)).toNatClampNeg), .int (xs (x3 + (5 : Int32)).toNatClampNeg)]) C (ct_X6_rule C.wf e293) g291 lk_RL_26 mi_X6_rule (by decide) (cs_i cs_0) (by decide) dL_law_297 rfl ?_
            show Go w f 300 [some (rv w 159), some (rv w r1), some (rv w r2), some (.int x3), none, none, none, none] [.int y294, .int y275] M292
            refine g_icmp_eq 984 C dL_law_300 (by decide) (fun c295 => ?_) (fun c295 => ?_)
            · replace h := of_ift h c295
              obtain ⟨y296, e297, h⟩ := of_bvv h
              refine g_iinc (v := y296) C dL_law_984 rfl e297.symm (by decide) (rv_cat _ _) (L2 := [some (rv w 159), some (rv w r1), some (rv w r2), some (.int y296), none, none, none, none]) rfl ?_
              refine g_goto 18 C dL_law_987 (by decide) ?_
              exact ih r1 r2 y296 M292 h
            · replace h := of_iff h c295
              refine g_iconst (v := 0) C dL_law_303 rfl ?_
              cases h
              exact hR 304 _ ⟨.boolean, rfl, rfl⟩ dL_law_304
      replace h := of_iff h c237
      by_cases c298 : y203 = nI 3
      · replace h := of_ift h c298
        refine g_tsI (nI 3) (272) 305 C dL_law_33 c298 (by decide) (by decide) rfl (by decide) ?_
        refine g_aload_n C dL_law_305 rfl rfl ?_
        refine g_aload_n C dL_law_306 rfl rfl ?_
        refine g_iload_n C dL_law_307 rfl rfl ?_
        refine g_iconst (v := 1) C dL_law_308 rfl ?_
        refine g_iadd C dL_law_309 ?_
        obtain ⟨g299, h⟩ := of_gdd h
        refine g_sld C hX g299 dL_law_310 ?_
        obtain ⟨g300, h⟩ := of_gdd h
        obtain ⟨y303, M301, e302, h⟩ := of_opp h
        refine g_callV (As := [.int (xs (x3 + (1 : Int32)).toNatClampNeg)]) C (ct_X5_overrule C.wf e302) g300 lk_RL_27 mi_X5_overrule (by decide) cs_0 (by decide) dL_law_311 rfl ?_
        show Go w f 314 [some (rv w 159), some (rv w r1), some (rv w r2), some (.int x3), none, none, none, none] [.int y303] M301
        refine g_aload_n C dL_law_314 rfl rfl ?_
        refine g_aload_n C dL_law_315 rfl rfl ?_
        refine g_iload_n C dL_law_316 rfl rfl ?_
        refine g_iconst (v := 1) C dL_law_317 rfl ?_
        refine g_iadd C dL_law_318 ?_
        obtain ⟨g304, h⟩ := of_gdd h
        refine g_sld C hX g304 dL_law_319 ?_
        obtain ⟨g305, h⟩ := of_gdd h
        obtain ⟨y308, M306, e307, h⟩ := of_opp h
        refine g_callV (As := [.int (xs (x3 + (1 : Int32)).toNatClampNeg)]) C (ct_X6_overrule C.wf e307) g305 lk_RL_31 mi_X6_overrule (by decide) (cs_i cs_0) (by decide) dL_law_320 rfl ?_
        show Go w f 323 [some (rv w 159), some (rv w r1), some (rv w r2), some (.int x3), none, none, none, none] [.int y308, .int y303] M306
        refine g_icmp_eq 984 C dL_law_323 (by decide) (fun c309 => ?_) (fun c309 => ?_)
        · replace h := of_ift h c309
          obtain ⟨y310, e311, h⟩ := of_bvv h
          refine g_iinc (v := y310) C dL_law_984 rfl e311.symm (by decide) (rv_cat _ _) (L2 := [some (rv w 159), some (rv w r1), some (rv w r2), some (.int y310), none, none, none, none]) rfl ?_
          refine g_goto 18 C dL_law_987 (by decide) ?_
          exact ih r1 r2 y310 M306 h
        · replace h := of_iff h c309
          refine g_iconst (v := 0) C dL_law_326 rfl ?_
          cases h
          exact hR 327 _ ⟨.boolean, rfl, rfl⟩ dL_law_327
      replace h := of_iff h c298
      by_cases c312 : y203 = nI 4
      · replace h := of_ift h c312
        refine g_tsI (nI 4) (295) 328 C dL_law_33 c312 (by decide) (by decide) rfl (by decide) ?_
        refine g_aload_n C dL_law_328 rfl rfl ?_
        obtain ⟨g313, h⟩ := of_gdd h
        obtain ⟨y316, M314, e315, h⟩ := of_opp h
        refine g_callV (As := []) C (ct_X5_print C.wf e315) g313 lk_RL_32 mi_X5_print (by decide) cs_0 (by decide) dL_law_329 rfl ?_
        show Go w f 332 [some (rv w 159), some (rv w r1), some (rv w r2), some (.int x3), none, none, none, none] [.int y316] M314
        refine g_aload_n C dL_law_332 rfl rfl ?_
        obtain ⟨g317, h⟩ := of_gdd h
        obtain ⟨y320, M318, e319, h⟩ := of_opp h
        refine g_callV (As := []) C (ct_X6_print C.wf e319) g317 lk_RL_36 mi_X6_print (by decide) (cs_i cs_0) (by decide) dL_law_333 rfl ?_
        show Go w f 336 [some (rv w 159), some (rv w r1), some (rv w r2), some (.int x3), none, none, none, none] [.int y320, .int y316] M318
        refine g_icmp_eq 984 C dL_law_336 (by decide) (fun c321 => ?_) (fun c321 => ?_)
        · replace h := of_ift h c321
          obtain ⟨y322, e323, h⟩ := of_bvv h
          refine g_iinc (v := y322) C dL_law_984 rfl e323.symm (by decide) (rv_cat _ _) (L2 := [some (rv w 159), some (rv w r1), some (rv w r2), some (.int y322), none, none, none, none]) rfl ?_
          refine g_goto 18 C dL_law_987 (by decide) ?_
          exact ih r1 r2 y322 M318 h
        · replace h := of_iff h c321
          refine g_iconst (v := 0) C dL_law_339 rfl ?_
          cases h
          exact hR 340 _ ⟨.boolean, rfl, rfl⟩ dL_law_340
      replace h := of_iff h c312
      by_cases c324 : y203 = nI 5
      · replace h := of_ift h c324
        refine g_tsI (nI 5) (308) 341 C dL_law_33 c324 (by decide) (by decide) rfl (by decide) ?_
        refine g_aload_n C dL_law_341 rfl rfl ?_
        refine g_aload_n C dL_law_342 rfl rfl ?_
        refine g_iload_n C dL_law_343 rfl rfl ?_
        refine g_iconst (v := 1) C dL_law_344 rfl ?_
        refine g_iadd C dL_law_345 ?_
        obtain ⟨g325, h⟩ := of_gdd h
        refine g_sld C hX g325 dL_law_346 ?_
        obtain ⟨g326, h⟩ := of_gdd h
        obtain ⟨y329, M327, e328, h⟩ := of_opp h
        refine g_callV (As := [.int (xs (x3 + (1 : Int32)).toNatClampNeg)]) C (ct_X5_drop C.wf e328) g326 lk_RL_37 mi_X5_drop (by decide) cs_0 (by decide) dL_law_347 rfl ?_
        show Go w f 350 [some (rv w 159), some (rv w r1), some (rv w r2), some (.int x3), none, none, none, none] [.int y329] M327
        refine g_aload_n C dL_law_350 rfl rfl ?_
        refine g_aload_n C dL_law_351 rfl rfl ?_
        refine g_iload_n C dL_law_352 rfl rfl ?_
        refine g_iconst (v := 1) C dL_law_353 rfl ?_
        refine g_iadd C dL_law_354 ?_
        obtain ⟨g330, h⟩ := of_gdd h
        refine g_sld C hX g330 dL_law_355 ?_
        obtain ⟨g331, h⟩ := of_gdd h
        obtain ⟨y334, M332, e333, h⟩ := of_opp h
        refine g_callV (As := [.int (xs (x3 + (1 : Int32)).toNatClampNeg)]) C (ct_X6_drop C.wf e333) g331 lk_RL_40 mi_X6_drop (by decide) (cs_i cs_0) (by decide) dL_law_356 rfl ?_
        show Go w f 359 [some (rv w 159), some (rv w r1), some (rv w r2), some (.int x3), none, none, none, none] [.int y334, .int y329] M332
        refine g_icmp_eq 984 C dL_law_359 (by decide) (fun c335 => ?_) (fun c335 => ?_)
        · replace h := of_ift h c335
          obtain ⟨y336, e337, h⟩ := of_bvv h
          refine g_iinc (v := y336) C dL_law_984 rfl e337.symm (by decide) (rv_cat _ _) (L2 := [some (rv w 159), some (rv w r1), some (rv w r2), some (.int y336), none, none, none, none]) rfl ?_
          refine g_goto 18 C dL_law_987 (by decide) ?_
          exact ih r1 r2 y336 M332 h
        · replace h := of_iff h c335
          refine g_iconst (v := 0) C dL_law_362 rfl ?_
          cases h
          exact hR 363 _ ⟨.boolean, rfl, rfl⟩ dL_law_363
      replace h := of_iff h c324
      by_cases c338 : y203 = nI 6
      · replace h := of_ift h c338
        refine g_tsI (nI 6) (331) 364 C dL_law_33 c338 (by decide) (by decide) rfl (by decide) ?_
        refine g_aload_n C dL_law_364 rfl rfl ?_
        refine g_aload_n C dL_law_365 rfl rfl ?_
        refine g_iload_n C dL_law_366 rfl rfl ?_
        refine g_iconst (v := 1) C dL_law_367 rfl ?_
        refine g_iadd C dL_law_368 ?_
        obtain ⟨g339, h⟩ := of_gdd h
        refine g_sld C hX g339 dL_law_369 ?_
        refine g_aload_n C dL_law_370 rfl rfl ?_
        refine g_iload_n C dL_law_371 rfl rfl ?_
        refine g_iconst (v := 2) C dL_law_372 rfl ?_
        refine g_iadd C dL_law_373 ?_
        obtain ⟨g340, h⟩ := of_gdd h
        refine g_sld C hX g340 dL_law_374 ?_
        obtain ⟨g341, h⟩ := of_gdd h
        obtain ⟨y344, M342, e343, h⟩ := of_opp h
        refine g_callV (As := [.int (xs (x3 + (1 : Int32)).toNatClampNeg), .int (xs (x3 + (2 : Int32)).toNatClampNeg)]) C (ct_X5_sue C.wf e343) g341 lk_RL_41 mi_X5_sue (by decide) cs_0 (by decide) dL_law_375 rfl ?_
        show Go w f 378 [some (rv w 159), some (rv w r1), some (rv w r2), some (.int x3), none, none, none, none] [.int y344] M342
        refine g_aload_n C dL_law_378 rfl rfl ?_
        refine g_aload_n C dL_law_379 rfl rfl ?_
        refine g_iload_n C dL_law_380 rfl rfl ?_
        refine g_iconst (v := 1) C dL_law_381 rfl ?_
        refine g_iadd C dL_law_382 ?_
        obtain ⟨g345, h⟩ := of_gdd h
        refine g_sld C hX g345 dL_law_383 ?_
        refine g_aload_n C dL_law_384 rfl rfl ?_
        refine g_iload_n C dL_law_385 rfl rfl ?_
        refine g_iconst (v := 2) C dL_law_386 rfl ?_
        refine g_iadd C dL_law_387 ?_
        obtain ⟨g346, h⟩ := of_gdd h
        refine g_sld C hX g346 dL_law_388 ?_
        obtain ⟨g347, h⟩ := of_gdd h
        obtain ⟨y350, M348, e349, h⟩ := of_opp h
        refine g_callV (As := [.int (xs (x3 + (1 : Int32)).toNatClampNeg), .int (xs (x3 + (2 : Int32)).toNatClampNeg)]) C (ct_X6_sue C.wf e349) g347 lk_RL_44 mi_X6_sue (by decide) (cs_i cs_0) (by decide) dL_law_389 rfl ?_
        show Go w f 392 [some (rv w 159), some (rv w r1), some (rv w r2), some (.int x3), none, none, none, none] [.int y350, .int y344] M348
        refine g_icmp_eq 984 C dL_law_392 (by decide) (fun c351 => ?_) (fun c351 => ?_)
        · replace h := of_ift h c351
          obtain ⟨y352, e353, h⟩ := of_bvv h
          refine g_iinc (v := y352) C dL_law_984 rfl e353.symm (by decide) (rv_cat _ _) (L2 := [some (rv w 159), some (rv w r1), some (rv w r2), some (.int y352), none, none, none, none]) rfl ?_
          refine g_goto 18 C dL_law_987 (by decide) ?_
          exact ih r1 r2 y352 M348 h
        · replace h := of_iff h c351
          refine g_iconst (v := 0) C dL_law_395 rfl ?_
          cases h
          exact hR 396 _ ⟨.boolean, rfl, rfl⟩ dL_law_396
      replace h := of_iff h c338
      by_cases c354 : y203 = nI 7
      · replace h := of_ift h c354
        refine g_tsI (nI 7) (364) 397 C dL_law_33 c354 (by decide) (by decide) rfl (by decide) ?_
        refine g_aload_n C dL_law_397 rfl rfl ?_
        refine g_aload_n C dL_law_398 rfl rfl ?_
        refine g_iload_n C dL_law_399 rfl rfl ?_
        refine g_iconst (v := 1) C dL_law_400 rfl ?_
        refine g_iadd C dL_law_401 ?_
        obtain ⟨g355, h⟩ := of_gdd h
        refine g_sld C hX g355 dL_law_402 ?_
        refine g_aload_n C dL_law_403 rfl rfl ?_
        refine g_iload_n C dL_law_404 rfl rfl ?_
        refine g_iconst (v := 2) C dL_law_405 rfl ?_
        refine g_iadd C dL_law_406 ?_
        obtain ⟨g356, h⟩ := of_gdd h
        refine g_sld C hX g356 dL_law_407 ?_
        obtain ⟨g357, h⟩ := of_gdd h
        obtain ⟨y360, M358, e359, h⟩ := of_opp h
        refine g_callV (As := [.int (xs (x3 + (1 : Int32)).toNatClampNeg), .int (xs (x3 + (2 : Int32)).toNatClampNeg)]) C (ct_X5_stay C.wf e359) g357 lk_RL_45 mi_X5_stay (by decide) cs_0 (by decide) dL_law_408 rfl ?_
        show Go w f 411 [some (rv w 159), some (rv w r1), some (rv w r2), some (.int x3), none, none, none, none] [.int y360] M358
        refine g_aload_n C dL_law_411 rfl rfl ?_
        refine g_aload_n C dL_law_412 rfl rfl ?_
        refine g_iload_n C dL_law_413 rfl rfl ?_
        refine g_iconst (v := 1) C dL_law_414 rfl ?_
        refine g_iadd C dL_law_415 ?_
        obtain ⟨g361, h⟩ := of_gdd h
        refine g_sld C hX g361 dL_law_416 ?_
        refine g_aload_n C dL_law_417 rfl rfl ?_
        refine g_iload_n C dL_law_418 rfl rfl ?_
        refine g_iconst (v := 2) C dL_law_419 rfl ?_
        refine g_iadd C dL_law_420 ?_
        obtain ⟨g362, h⟩ := of_gdd h
        refine g_sld C hX g362 dL_law_421 ?_
        obtain ⟨g363, h⟩ := of_gdd h
        obtain ⟨y366, M364, e365, h⟩ := of_opp h
        refine g_callV (As := [.int (xs (x3 + (1 : Int32)).toNatClampNeg), .int (xs (x3 + (2 : Int32)).toNatClampNeg)]) C (ct_X6_stay C.wf e365) g363 lk_RL_48 mi_X6_stay (by decide) (cs_i cs_0) (by decide) dL_law_422 rfl ?_
        show Go w f 425 [some (rv w 159), some (rv w r1), some (rv w r2), some (.int x3), none, none, none, none] [.int y366, .int y360] M364
        refine g_icmp_eq 984 C dL_law_425 (by decide) (fun c367 => ?_) (fun c367 => ?_)
        · replace h := of_ift h c367
          obtain ⟨y368, e369, h⟩ := of_bvv h
          refine g_iinc (v := y368) C dL_law_984 rfl e369.symm (by decide) (rv_cat _ _) (L2 := [some (rv w 159), some (rv w r1), some (rv w r2), some (.int y368), none, none, none, none]) rfl ?_
          refine g_goto 18 C dL_law_987 (by decide) ?_
          exact ih r1 r2 y368 M364 h
        · replace h := of_iff h c367
          refine g_iconst (v := 0) C dL_law_428 rfl ?_
          cases h
          exact hR 429 _ ⟨.boolean, rfl, rfl⟩ dL_law_429
      replace h := of_iff h c354
      by_cases c370 : y203 = nI 8
      · replace h := of_ift h c370
        refine g_tsI (nI 8) (397) 430 C dL_law_33 c370 (by decide) (by decide) rfl (by decide) ?_
        refine g_aload_n C dL_law_430 rfl rfl ?_
        obtain ⟨g371, h⟩ := of_gdd h
        obtain ⟨y374, M372, e373, h⟩ := of_opp h
        refine g_callV (As := []) C (ct_X5_day C.wf e373) g371 lk_RL_49 mi_X5_day (by decide) cs_0 (by decide) dL_law_431 rfl ?_
        show Go w f 434 [some (rv w 159), some (rv w r1), some (rv w r2), some (.int x3), none, none, none, none] [.int y374] M372
        refine g_aload_n C dL_law_434 rfl rfl ?_
        obtain ⟨g375, h⟩ := of_gdd h
        obtain ⟨y378, M376, e377, h⟩ := of_opp h
        refine g_callV (As := []) C (ct_X6_day C.wf e377) g375 lk_RL_52 mi_X6_day (by decide) (cs_i cs_0) (by decide) dL_law_435 rfl ?_
        show Go w f 438 [some (rv w 159), some (rv w r1), some (rv w r2), some (.int x3), none, none, none, none] [.int y378, .int y374] M376
        refine g_icmp_eq 984 C dL_law_438 (by decide) (fun c379 => ?_) (fun c379 => ?_)
        · replace h := of_ift h c379
          obtain ⟨y380, e381, h⟩ := of_bvv h
          refine g_iinc (v := y380) C dL_law_984 rfl e381.symm (by decide) (rv_cat _ _) (L2 := [some (rv w 159), some (rv w r1), some (rv w r2), some (.int y380), none, none, none, none]) rfl ?_
          refine g_goto 18 C dL_law_987 (by decide) ?_
          exact ih r1 r2 y380 M376 h
        · replace h := of_iff h c379
          refine g_iconst (v := 0) C dL_law_441 rfl ?_
          cases h
          exact hR 442 _ ⟨.boolean, rfl, rfl⟩ dL_law_442
      replace h := of_iff h c370
      by_cases c382 : y203 = nI 9
      · replace h := of_ift h c382
        refine g_tsI (nI 9) (410) 443 C dL_law_33 c382 (by decide) (by decide) rfl (by decide) ?_
        refine g_aload_n C dL_law_443 rfl rfl ?_
        refine g_aload_n C dL_law_444 rfl rfl ?_
        refine g_iload_n C dL_law_445 rfl rfl ?_
        refine g_iconst (v := 1) C dL_law_446 rfl ?_
        refine g_iadd C dL_law_447 ?_
        obtain ⟨g383, h⟩ := of_gdd h
        refine g_sld C hX g383 dL_law_448 ?_
        obtain ⟨g384, h⟩ := of_gdd h
        obtain ⟨y387, M385, e386, h⟩ := of_opp h
        refine g_callV (As := [.int (xs (x3 + (1 : Int32)).toNatClampNeg)]) C (ct_X5_append C.wf e386) g384 lk_RL_53 mi_X5_append (by decide) cs_0 (by decide) dL_law_449 rfl ?_
        show Go w f 452 [some (rv w 159), some (rv w r1), some (rv w r2), some (.int x3), none, none, none, none] [.int y387] M385
        refine g_aload_n C dL_law_452 rfl rfl ?_
        refine g_aload_n C dL_law_453 rfl rfl ?_
        refine g_iload_n C dL_law_454 rfl rfl ?_
        refine g_iconst (v := 1) C dL_law_455 rfl ?_
        refine g_iadd C dL_law_456 ?_
        obtain ⟨g388, h⟩ := of_gdd h
        refine g_sld C hX g388 dL_law_457 ?_
        obtain ⟨g389, h⟩ := of_gdd h
        obtain ⟨y392, M390, e391, h⟩ := of_opp h
        refine g_callV (As := [.int (xs (x3 + (1 : Int32)).toNatClampNeg)]) C (ct_X6_append C.wf e391) g389 lk_RL_56 mi_X6_append (by decide) (cs_i cs_0) (by decide) dL_law_458 rfl ?_
        show Go w f 461 [some (rv w 159), some (rv w r1), some (rv w r2), some (.int x3), none, none, none, none] [.int y392, .int y387] M390
        refine g_icmp_eq 984 C dL_law_461 (by decide) (fun c393 => ?_) (fun c393 => ?_)
        · replace h := of_ift h c393
          obtain ⟨y394, e395, h⟩ := of_bvv h
          refine g_iinc (v := y394) C dL_law_984 rfl e395.symm (by decide) (rv_cat _ _) (L2 := [some (rv w 159), some (rv w r1), some (rv w r2), some (.int y394), none, none, none, none]) rfl ?_
          refine g_goto 18 C dL_law_987 (by decide) ?_
          exact ih r1 r2 y394 M390 h
        · replace h := of_iff h c393
          refine g_iconst (v := 0) C dL_law_464 rfl ?_
          cases h
          exact hR 465 _ ⟨.boolean, rfl, rfl⟩ dL_law_465
      replace h := of_iff h c382
      by_cases c396 : y203 = nI 10
      · replace h := of_ift h c396
        refine g_tsI (nI 10) (433) 466 C dL_law_33 c396 (by decide) (by decide) rfl (by decide) ?_
        refine g_aload_n C dL_law_466 rfl rfl ?_
        obtain ⟨g397, h⟩ := of_gdd h
        obtain ⟨y400, M398, e399, h⟩ := of_opp h
        refine g_callV (As := []) C (ct_X5_clear C.wf e399) g397 lk_RL_57 mi_X5_clear (by decide) cs_0 (by decide) dL_law_467 rfl ?_
        show Go w f 470 [some (rv w 159), some (rv w r1), some (rv w r2), some (.int x3), none, none, none, none] [.int y400] M398
        refine g_aload_n C dL_law_470 rfl rfl ?_
        obtain ⟨g401, h⟩ := of_gdd h
        obtain ⟨y404, M402, e403, h⟩ := of_opp h
        refine g_callV (As := []) C (ct_X6_clear C.wf e403) g401 lk_RL_60 mi_X6_clear (by decide) (cs_i cs_0) (by decide) dL_law_471 rfl ?_
        show Go w f 474 [some (rv w 159), some (rv w r1), some (rv w r2), some (.int x3), none, none, none, none] [.int y404, .int y400] M402
        refine g_icmp_eq 984 C dL_law_474 (by decide) (fun c405 => ?_) (fun c405 => ?_)
        · replace h := of_ift h c405
          obtain ⟨y406, e407, h⟩ := of_bvv h
          refine g_iinc (v := y406) C dL_law_984 rfl e407.symm (by decide) (rv_cat _ _) (L2 := [some (rv w 159), some (rv w r1), some (rv w r2), some (.int y406), none, none, none, none]) rfl ?_
          refine g_goto 18 C dL_law_987 (by decide) ?_
          exact ih r1 r2 y406 M402 h
        · replace h := of_iff h c405
          refine g_iconst (v := 0) C dL_law_477 rfl ?_
          cases h
          exact hR 478 _ ⟨.boolean, rfl, rfl⟩ dL_law_478
      replace h := of_iff h c396
      by_cases c408 : y203 = nI 11
      · replace h := of_ift h c408
        refine g_tsI (nI 11) (446) 479 C dL_law_33 c408 (by decide) (by decide) rfl (by decide) ?_
        refine g_aload_n C dL_law_479 rfl rfl ?_
        refine g_aload_n C dL_law_480 rfl rfl ?_
        refine g_iload_n C dL_law_481 rfl rfl ?_
        refine g_iconst (v := 1) C dL_law_482 rfl ?_
        refine g_iadd C dL_law_483 ?_
        obtain ⟨g409, h⟩ := of_gdd h
        refine g_sld C hX g409 dL_law_484 ?_
        obtain ⟨g410, h⟩ := of_gdd h
        obtain ⟨y411, e412, h⟩ := of_obb h
        refine g_callV (As := [.int (xs (x3 + (1 : Int32)).toNatClampNeg)]) C (ct_X5_fault C.wf e412) g410 lk_RL_61 mi_X5_fault (by decide) cs_0 (by decide) dL_law_485 rfl ?_
        show Go w f 488 [some (rv w 159), some (rv w r1), some (rv w r2), some (.int x3), none, none, none, none] [.int y411] M
        refine g_aload_n C dL_law_488 rfl rfl ?_
        refine g_aload_n C dL_law_489 rfl rfl ?_
        refine g_iload_n C dL_law_490 rfl rfl ?_
        refine g_iconst (v := 1) C dL_law_491 rfl ?_
        refine g_iadd C dL_law_492 ?_
        obtain ⟨g413, h⟩ := of_gdd h
        refine g_sld C hX g413 dL_law_493 ?_
        obtain ⟨g414, h⟩ := of_gdd h
        obtain ⟨y417, M415, e416, h⟩ := of_opp h
        refine g_callV (As := [.int (xs (x3 + (1 : Int32)).toNatClampNeg)]) C (ct_X6_fault C.wf e416) g414 lk_RL_64 mi_X6_fault (by decide) (cs_i cs_0) (by decide) dL_law_494 rfl ?_
        show Go w f 497 [some (rv w 159), some (rv w r1), some (rv w r2), some (.int x3), none, none, none, none] [.int y417, .int y411] M415
        refine g_icmp_eq 984 C dL_law_497 (by decide) (fun c418 => ?_) (fun c418 => ?_)
        · replace h := of_ift h c418
          obtain ⟨y419, e420, h⟩ := of_bvv h
          refine g_iinc (v := y419) C dL_law_984 rfl e420.symm (by decide) (rv_cat _ _) (L2 := [some (rv w 159), some (rv w r1), some (rv w r2), some (.int y419), none, none, none, none]) rfl ?_
          refine g_goto 18 C dL_law_987 (by decide) ?_
          exact ih r1 r2 y419 M415 h
        · replace h := of_iff h c418
          refine g_iconst (v := 0) C dL_law_500 rfl ?_
          cases h
          exact hR 501 _ ⟨.boolean, rfl, rfl⟩ dL_law_501
      replace h := of_iff h c408
      by_cases c421 : y203 = nI 12
      · replace h := of_ift h c421
        refine g_tsI (nI 12) (469) 502 C dL_law_33 c421 (by decide) (by decide) rfl (by decide) ?_
        refine g_aload_n C dL_law_502 rfl rfl ?_
        obtain ⟨g422, h⟩ := of_gdd h
        obtain ⟨y425, M423, e424, h⟩ := of_opp h
        refine g_callV (As := []) C (ct_X5_plead C.wf e424) g422 lk_RL_65 mi_X5_plead (by decide) cs_0 (by decide) dL_law_503 rfl ?_
        show Go w f 506 [some (rv w 159), some (rv w r1), some (rv w r2), some (.int x3), none, none, none, none] [.int y425] M423
        refine g_aload_n C dL_law_506 rfl rfl ?_
        obtain ⟨g426, h⟩ := of_gdd h
        obtain ⟨y429, M427, e428, h⟩ := of_opp h
        refine g_callV (As := []) C (ct_X6_plead C.wf e428) g426 lk_RL_68 mi_X6_plead (by decide) (cs_i cs_0) (by decide) dL_law_507 rfl ?_
        show Go w f 510 [some (rv w 159), some (rv w r1), some (rv w r2), some (.int x3), none, none, none, none] [.int y429, .int y425] M427
        refine g_icmp_eq 984 C dL_law_510 (by decide) (fun c430 => ?_) (fun c430 => ?_)
        · replace h := of_ift h c430
          obtain ⟨y431, e432, h⟩ := of_bvv h
          refine g_iinc (v := y431) C dL_law_984 rfl e432.symm (by decide) (rv_cat _ _) (L2 := [some (rv w 159), some (rv w r1), some (rv w r2), some (.int y431), none, none, none, none]) rfl ?_
          refine g_goto 18 C dL_law_987 (by decide) ?_
          exact ih r1 r2 y431 M427 h
        · replace h := of_iff h c430
          refine g_iconst (v := 0) C dL_law_513 rfl ?_
          cases h
          exact hR 514 _ ⟨.boolean, rfl, rfl⟩ dL_law_514
      replace h := of_iff h c421
      by_cases c433 : y203 = nI 13
      · replace h := of_ift h c433
        refine g_tsI (nI 13) (482) 515 C dL_law_33 c433 (by decide) (by decide) rfl (by decide) ?_
        refine g_aload_n C dL_law_515 rfl rfl ?_
        refine g_aload_n C dL_law_516 rfl rfl ?_
        refine g_iload_n C dL_law_517 rfl rfl ?_
        refine g_iconst (v := 1) C dL_law_518 rfl ?_
        refine g_iadd C dL_law_519 ?_
        obtain ⟨g434, h⟩ := of_gdd h
        refine g_sld C hX g434 dL_law_520 ?_
        obtain ⟨g435, h⟩ := of_gdd h
        obtain ⟨y436, e437, h⟩ := of_obb h
        refine g_callV (As := [.int (xs (x3 + (1 : Int32)).toNatClampNeg)]) C (ct_X5_why C.wf e437) g435 lk_RL_69 mi_X5_why (by decide) cs_0 (by decide) dL_law_521 rfl ?_
        show Go w f 524 [some (rv w 159), some (rv w r1), some (rv w r2), some (.int x3), none, none, none, none] [.int y436] M
        refine g_aload_n C dL_law_524 rfl rfl ?_
        refine g_aload_n C dL_law_525 rfl rfl ?_
        refine g_iload_n C dL_law_526 rfl rfl ?_
        refine g_iconst (v := 1) C dL_law_527 rfl ?_
        refine g_iadd C dL_law_528 ?_
        obtain ⟨g438, h⟩ := of_gdd h
        refine g_sld C hX g438 dL_law_529 ?_
        obtain ⟨g439, h⟩ := of_gdd h
        obtain ⟨y440, e441, h⟩ := of_obb h
        refine g_callV (As := [.int (xs (x3 + (1 : Int32)).toNatClampNeg)]) C (ct_X6_why C.wf e441) g439 lk_RL_72 mi_X6_why (by decide) (cs_i cs_0) (by decide) dL_law_530 rfl ?_
        show Go w f 533 [some (rv w 159), some (rv w r1), some (rv w r2), some (.int x3), none, none, none, none] [.int y440, .int y436] M
        refine g_icmp_eq 984 C dL_law_533 (by decide) (fun c442 => ?_) (fun c442 => ?_)
        · replace h := of_ift h c442
          obtain ⟨y443, e444, h⟩ := of_bvv h
          refine g_iinc (v := y443) C dL_law_984 rfl e444.symm (by decide) (rv_cat _ _) (L2 := [some (rv w 159), some (rv w r1), some (rv w r2), some (.int y443), none, none, none, none]) rfl ?_
          refine g_goto 18 C dL_law_987 (by decide) ?_
          exact ih r1 r2 y443 M h
        · replace h := of_iff h c442
          refine g_iconst (v := 0) C dL_law_536 rfl ?_
          cases h
          exact hR 537 _ ⟨.boolean, rfl, rfl⟩ dL_law_537
      replace h := of_iff h c433
      by_cases c445 : y203 = nI 14
      · replace h := of_ift h c445
        refine g_tsI (nI 14) (505) 538 C dL_law_33 c445 (by decide) (by decide) rfl (by decide) ?_
        refine g_aload_n C dL_law_538 rfl rfl ?_
        refine g_aload_n C dL_law_539 rfl rfl ?_
        refine g_iload_n C dL_law_540 rfl rfl ?_
        refine g_iconst (v := 1) C dL_law_541 rfl ?_
        refine g_iadd C dL_law_542 ?_
        obtain ⟨g446, h⟩ := of_gdd h
        refine g_sld C hX g446 dL_law_543 ?_
        refine g_aload_n C dL_law_544 rfl rfl ?_
        refine g_iload_n C dL_law_545 rfl rfl ?_
        refine g_iconst (v := 2) C dL_law_546 rfl ?_
        refine g_iadd C dL_law_547 ?_
        obtain ⟨g447, h⟩ := of_gdd h
        refine g_sld C hX g447 dL_law_548 ?_
        obtain ⟨g448, h⟩ := of_gdd h
        obtain ⟨y449, e450, h⟩ := of_obb h
        refine g_callV (As := [.int (xs (x3 + (1 : Int32)).toNatClampNeg), .int (xs (x3 + (2 : Int32)).toNatClampNeg)]) C (ct_X5_sign C.wf e450) g448 lk_RL_73 mi_X5_sign (by decide) cs_0 (by decide) dL_law_549 rfl ?_
        show Go w f 552 [some (rv w 159), some (rv w r1), some (rv w r2), some (.int x3), none, none, none, none] [.int y449] M
        refine g_aload_n C dL_law_552 rfl rfl ?_
        refine g_aload_n C dL_law_553 rfl rfl ?_
        refine g_iload_n C dL_law_554 rfl rfl ?_
        refine g_iconst (v := 1) C dL_law_555 rfl ?_
        refine g_iadd C dL_law_556 ?_
        obtain ⟨g451, h⟩ := of_gdd h
        refine g_sld C hX g451 dL_law_557 ?_
        refine g_aload_n C dL_law_558 rfl rfl ?_
        refine g_iload_n C dL_law_559 rfl rfl ?_
        refine g_iconst (v := 2) C dL_law_560 rfl ?_
        refine g_iadd C dL_law_561 ?_
        obtain ⟨g452, h⟩ := of_gdd h
        refine g_sld C hX g452 dL_law_562 ?_
        obtain ⟨g453, h⟩ := of_gdd h
        obtain ⟨y454, e455, h⟩ := of_obb h
        refine g_callV (As := [.int (xs (x3 + (1 : Int32)).toNatClampNeg), .int (xs (x3 + (2 : Int32)).toNatClampNeg)]) C (ct_X6_sign C.wf e455) g453 lk_RL_76 mi_X6_sign (by decide) (cs_i cs_0) (by decide) dL_law_563 rfl ?_
        show Go w f 566 [some (rv w 159), some (rv w r1), some (rv w r2), some (.int x3), none, none, none, none] [.int y454, .int y449] M
        refine g_icmp_eq 984 C dL_law_566 (by decide) (fun c456 => ?_) (fun c456 => ?_)
        · replace h := of_ift h c456
          obtain ⟨y457, e458, h⟩ := of_bvv h
          refine g_iinc (v := y457) C dL_law_984 rfl e458.symm (by decide) (rv_cat _ _) (L2 := [some (rv w 159), some (rv w r1), some (rv w r2), some (.int y457), none, none, none, none]) rfl ?_
          refine g_goto 18 C dL_law_987 (by decide) ?_
          exact ih r1 r2 y457 M h
        · replace h := of_iff h c456
          refine g_iconst (v := 0) C dL_law_569 rfl ?_
          cases h
          exact hR 570 _ ⟨.boolean, rfl, rfl⟩ dL_law_570
      replace h := of_iff h c445
      by_cases c459 : y203 = nI 15
      · replace h := of_ift h c459
        refine g_tsI (nI 15) (538) 571 C dL_law_33 c459 (by decide) (by decide) rfl (by decide) ?_
        refine g_aload_n C dL_law_571 rfl rfl ?_
        refine g_aload_n C dL_law_572 rfl rfl ?_
        refine g_iload_n C dL_law_573 rfl rfl ?_
        refine g_iconst (v := 1) C dL_law_574 rfl ?_
        refine g_iadd C dL_law_575 ?_
        obtain ⟨g460, h⟩ := of_gdd h
        refine g_sld C hX g460 dL_law_576 ?_
        refine g_aload_n C dL_law_577 rfl rfl ?_
        refine g_iload_n C dL_law_578 rfl rfl ?_
        refine g_iconst (v := 2) C dL_law_579 rfl ?_
        refine g_iadd C dL_law_580 ?_
        obtain ⟨g461, h⟩ := of_gdd h
        refine g_sld C hX g461 dL_law_581 ?_
        obtain ⟨g462, h⟩ := of_gdd h
        obtain ⟨y465, M463, e464, h⟩ := of_opp h
        refine g_callV (As := [.int (xs (x3 + (1 : Int32)).toNatClampNeg), .int (xs (x3 + (2 : Int32)).toNatClampNeg)]) C (ct_X5_edition C.wf e464) g462 lk_RL_77 mi_X5_edition (by decide) cs_0 (by decide) dL_law_582 rfl ?_
        show Go w f 585 [some (rv w 159), some (rv w r1), some (rv w r2), some (.int x3), none, none, none, none] [.int y465] M463
        refine g_aload_n C dL_law_585 rfl rfl ?_
        refine g_aload_n C dL_law_586 rfl rfl ?_
        refine g_iload_n C dL_law_587 rfl rfl ?_
        refine g_iconst (v := 1) C dL_law_588 rfl ?_
        refine g_iadd C dL_law_589 ?_
        obtain ⟨g466, h⟩ := of_gdd h
        refine g_sld C hX g466 dL_law_590 ?_
        refine g_aload_n C dL_law_591 rfl rfl ?_
        refine g_iload_n C dL_law_592 rfl rfl ?_
        refine g_iconst (v := 2) C dL_law_593 rfl ?_
        refine g_iadd C dL_law_594 ?_
        obtain ⟨g467, h⟩ := of_gdd h
        refine g_sld C hX g467 dL_law_595 ?_
        obtain ⟨g468, h⟩ := of_gdd h
        obtain ⟨y469, e470, h⟩ := of_obb h
        refine g_callV (As := [.int (xs (x3 + (1 : Int32)).toNatClampNeg), .int (xs (x3 + (2 : Int32)).toNatClampNeg)]) C (ct_X6_edition C.wf e470) g468 lk_RL_80 mi_X6_edition (by decide) (cs_i cs_0) (by decide) dL_law_596 rfl ?_
        show Go w f 599 [some (rv w 159), some (rv w r1), some (rv w r2), some (.int x3), none, none, none, none] [.int y469, .int y465] M463
        refine g_icmp_eq 984 C dL_law_599 (by decide) (fun c471 => ?_) (fun c471 => ?_)
        · replace h := of_ift h c471
          obtain ⟨y472, e473, h⟩ := of_bvv h
          refine g_iinc (v := y472) C dL_law_984 rfl e473.symm (by decide) (rv_cat _ _) (L2 := [some (rv w 159), some (rv w r1), some (rv w r2), some (.int y472), none, none, none, none]) rfl ?_
          refine g_goto 18 C dL_law_987 (by decide) ?_
          exact ih r1 r2 y472 M463 h
        · replace h := of_iff h c471
          refine g_iconst (v := 0) C dL_law_602 rfl ?_
          cases h
          exact hR 603 _ ⟨.boolean, rfl, rfl⟩ dL_law_603
      replace h := of_iff h c459
      by_cases c474 : y203 = nI 16
      · replace h := of_ift h c474
        refine g_tsI (nI 16) (571) 604 C dL_law_33 c474 (by decide) (by decide) rfl (by decide) ?_
        refine g_aload_n C dL_law_604 rfl rfl ?_
        refine g_aload_n C dL_law_605 rfl rfl ?_
        refine g_iload_n C dL_law_606 rfl rfl ?_
        refine g_iconst (v := 1) C dL_law_607 rfl ?_
        refine g_iadd C dL_law_608 ?_
        obtain ⟨g475, h⟩ := of_gdd h
        refine g_sld C hX g475 dL_law_609 ?_
        refine g_aload_n C dL_law_610 rfl rfl ?_
        refine g_iload_n C dL_law_611 rfl rfl ?_
        refine g_iconst (v := 2) C dL_law_612 rfl ?_
        refine g_iadd C dL_law_613 ?_
        obtain ⟨g476, h⟩ := of_gdd h
        refine g_sld C hX g476 dL_law_614 ?_
        refine g_aload_n C dL_law_615 rfl rfl ?_
        refine g_iload_n C dL_law_616 rfl rfl ?_
        refine g_iconst (v := 3) C dL_law_617 rfl ?_
        refine g_iadd C dL_law_618 ?_
        obtain ⟨g477, h⟩ := of_gdd h
        refine g_sld C hX g477 dL_law_619 ?_
        obtain ⟨g478, h⟩ := of_gdd h
        obtain ⟨y481, M479, e480, h⟩ := of_opp h
        refine g_callV (As := [.int (xs (x3 + (1 : Int32)).toNatClampNeg), .int (xs (x3 + (2 : Int32)).toNatClampNeg), .int (xs (x3 + (3 : Int32)).toNatClampNeg)]) C (ct_X5_gap C.wf e480) g478 lk_RL_81 mi_X5_gap (by decide) cs_0 (by decide) dL_law_620 rfl ?_
        show Go w f 623 [some (rv w 159), some (rv w r1), some (rv w r2), some (.int x3), none, none, none, none] [.int y481] M479
        refine g_aload_n C dL_law_623 rfl rfl ?_
        refine g_aload_n C dL_law_624 rfl rfl ?_
        refine g_iload_n C dL_law_625 rfl rfl ?_
        refine g_iconst (v := 1) C dL_law_626 rfl ?_
        refine g_iadd C dL_law_627 ?_
        obtain ⟨g482, h⟩ := of_gdd h
        refine g_sld C hX g482 dL_law_628 ?_
        refine g_aload_n C dL_law_629 rfl rfl ?_
        refine g_iload_n C dL_law_630 rfl rfl ?_
        refine g_iconst (v := 2) C dL_law_631 rfl ?_
        refine g_iadd C dL_law_632 ?_
        obtain ⟨g483, h⟩ := of_gdd h
        refine g_sld C hX g483 dL_law_633 ?_
        refine g_aload_n C dL_law_634 rfl rfl ?_
        refine g_iload_n C dL_law_635 rfl rfl ?_
        refine g_iconst (v := 3) C dL_law_636 rfl ?_
        refine g_iadd C dL_law_637 ?_
        obtain ⟨g484, h⟩ := of_gdd h
        refine g_sld C hX g484 dL_law_638 ?_
        obtain ⟨g485, h⟩ := of_gdd h
        obtain ⟨y486, e487, h⟩ := of_obb h
        refine g_callV (As := [.int (xs (x3 + (1 : Int32)).toNatClampNeg), .int (xs (x3 + (2 : Int32)).toNatClampNeg), .int (xs (x3 + (3 : Int32)).toNatClampNeg)]) C (ct_X6_gap C.wf e487) g485 lk_RL_85 mi_X6_gap (by decide) (cs_i cs_0) (by decide) dL_law_639 rfl ?_
        show Go w f 642 [some (rv w 159), some (rv w r1), some (rv w r2), some (.int x3), none, none, none, none] [.int y486, .int y481] M479
        refine g_icmp_eq 984 C dL_law_642 (by decide) (fun c488 => ?_) (fun c488 => ?_)
        · replace h := of_ift h c488
          obtain ⟨y489, e490, h⟩ := of_bvv h
          refine g_iinc (v := y489) C dL_law_984 rfl e490.symm (by decide) (rv_cat _ _) (L2 := [some (rv w 159), some (rv w r1), some (rv w r2), some (.int y489), none, none, none, none]) rfl ?_
          refine g_goto 18 C dL_law_987 (by decide) ?_
          exact ih r1 r2 y489 M479 h
        · replace h := of_iff h c488
          refine g_iconst (v := 0) C dL_law_645 rfl ?_
          cases h
          exact hR 646 _ ⟨.boolean, rfl, rfl⟩ dL_law_646
      replace h := of_iff h c474
      by_cases c491 : y203 = nI 17
      · replace h := of_ift h c491
        refine g_tsI (nI 17) (614) 647 C dL_law_33 c491 (by decide) (by decide) rfl (by decide) ?_
        refine g_aload_n C dL_law_647 rfl rfl ?_
        refine g_aload_n C dL_law_648 rfl rfl ?_
        refine g_iload_n C dL_law_649 rfl rfl ?_
        refine g_iconst (v := 1) C dL_law_650 rfl ?_
        refine g_iadd C dL_law_651 ?_
        obtain ⟨g492, h⟩ := of_gdd h
        refine g_sld C hX g492 dL_law_652 ?_
        refine g_aload_n C dL_law_653 rfl rfl ?_
        refine g_iload_n C dL_law_654 rfl rfl ?_
        refine g_iconst (v := 2) C dL_law_655 rfl ?_
        refine g_iadd C dL_law_656 ?_
        obtain ⟨g493, h⟩ := of_gdd h
        refine g_sld C hX g493 dL_law_657 ?_
        obtain ⟨g494, h⟩ := of_gdd h
        obtain ⟨y495, e496, h⟩ := of_obb h
        refine g_callV (As := [.int (xs (x3 + (1 : Int32)).toNatClampNeg), .int (xs (x3 + (2 : Int32)).toNatClampNeg)]) C (ct_X5_ruling C.wf e496) g494 lk_RL_86 mi_X5_ruling (by decide) cs_0 (by decide) dL_law_658 rfl ?_
        show Go w f 661 [some (rv w 159), some (rv w r1), some (rv w r2), some (.int x3), none, none, none, none] [.int y495] M
        refine g_aload_n C dL_law_661 rfl rfl ?_
        refine g_aload_n C dL_law_662 rfl rfl ?_
        refine g_iload_n C dL_law_663 rfl rfl ?_
        refine g_iconst (v := 1) C dL_law_664 rfl ?_
        refine g_iadd C dL_law_665 ?_
        obtain ⟨g497, h⟩ := of_gdd h
        refine g_sld C hX g497 dL_law_666 ?_
        refine g_aload_n C dL_law_667 rfl rfl ?_
        refine g_iload_n C dL_law_668 rfl rfl ?_
        refine g_iconst (v := 2) C dL_law_669 rfl ?_
        refine g_iadd C dL_law_670 ?_
        obtain ⟨g498, h⟩ := of_gdd h
        refine g_sld C hX g498 dL_law_671 ?_
        obtain ⟨g499, h⟩ := of_gdd h
        obtain ⟨y500, e501, h⟩ := of_obb h
        refine g_callV (As := [.int (xs (x3 + (1 : Int32)).toNatClampNeg), .int (xs (x3 + (2 : Int32)).toNatClampNeg)]) C (ct_X6_ruling C.wf e501) g499 lk_RL_89 mi_X6_ruling (by decide) (cs_i cs_0) (by decide) dL_law_672 rfl ?_
        show Go w f 675 [some (rv w 159), some (rv w r1), some (rv w r2), some (.int x3), none, none, none, none] [.int y500, .int y495] M
        refine g_icmp_eq 984 C dL_law_675 (by decide) (fun c502 => ?_) (fun c502 => ?_)
        · replace h := of_ift h c502
          obtain ⟨y503, e504, h⟩ := of_bvv h
          refine g_iinc (v := y503) C dL_law_984 rfl e504.symm (by decide) (rv_cat _ _) (L2 := [some (rv w 159), some (rv w r1), some (rv w r2), some (.int y503), none, none, none, none]) rfl ?_
          refine g_goto 18 C dL_law_987 (by decide) ?_
          exact ih r1 r2 y503 M h
        · replace h := of_iff h c502
          refine g_iconst (v := 0) C dL_law_678 rfl ?_
          cases h
          exact hR 679 _ ⟨.boolean, rfl, rfl⟩ dL_law_679
      replace h := of_iff h c491
      by_cases c505 : y203 = nI 18
      · replace h := of_ift h c505
        refine g_tsI (nI 18) (647) 680 C dL_law_33 c505 (by decide) (by decide) rfl (by decide) ?_
        refine g_aload_n C dL_law_680 rfl rfl ?_
        refine g_aload_n C dL_law_681 rfl rfl ?_
        refine g_iload_n C dL_law_682 rfl rfl ?_
        refine g_iconst (v := 1) C dL_law_683 rfl ?_
        refine g_iadd C dL_law_684 ?_
        obtain ⟨g506, h⟩ := of_gdd h
        refine g_sld C hX g506 dL_law_685 ?_
        refine g_aload_n C dL_law_686 rfl rfl ?_
        refine g_iload_n C dL_law_687 rfl rfl ?_
        refine g_iconst (v := 2) C dL_law_688 rfl ?_
        refine g_iadd C dL_law_689 ?_
        obtain ⟨g507, h⟩ := of_gdd h
        refine g_sld C hX g507 dL_law_690 ?_
        obtain ⟨g508, h⟩ := of_gdd h
        obtain ⟨y511, M509, e510, h⟩ := of_opp h
        refine g_callV (As := [.int (xs (x3 + (1 : Int32)).toNatClampNeg), .int (xs (x3 + (2 : Int32)).toNatClampNeg)]) C (ct_X5_whyNot C.wf e510) g508 lk_RL_90 mi_X5_whyNot (by decide) cs_0 (by decide) dL_law_691 rfl ?_
        show Go w f 694 [some (rv w 159), some (rv w r1), some (rv w r2), some (.int x3), none, none, none, none] [.int y511] M509
        refine g_aload_n C dL_law_694 rfl rfl ?_
        refine g_aload_n C dL_law_695 rfl rfl ?_
        refine g_iload_n C dL_law_696 rfl rfl ?_
        refine g_iconst (v := 1) C dL_law_697 rfl ?_
        refine g_iadd C dL_law_698 ?_
        obtain ⟨g512, h⟩ := of_gdd h
        refine g_sld C hX g512 dL_law_699 ?_
        refine g_aload_n C dL_law_700 rfl rfl ?_
        refine g_iload_n C dL_law_701 rfl rfl ?_
        refine g_iconst (v := 2) C dL_law_702 rfl ?_
        refine g_iadd C dL_law_703 ?_
        obtain ⟨g513, h⟩ := of_gdd h
        refine g_sld C hX g513 dL_law_704 ?_
        obtain ⟨g514, h⟩ := of_gdd h
        obtain ⟨y515, e516, h⟩ := of_obb h
        refine g_callV (As := [.int (xs (x3 + (1 : Int32)).toNatClampNeg), .int (xs (x3 + (2 : Int32)).toNatClampNeg)]) C (ct_X6_whyNot C.wf e516) g514 lk_RL_93 mi_X6_whyNot (by decide) (cs_i cs_0) (by decide) dL_law_705 rfl ?_
        show Go w f 708 [some (rv w 159), some (rv w r1), some (rv w r2), some (.int x3), none, none, none, none] [.int y515, .int y511] M509
        refine g_icmp_eq 984 C dL_law_708 (by decide) (fun c517 => ?_) (fun c517 => ?_)
        · replace h := of_ift h c517
          obtain ⟨y518, e519, h⟩ := of_bvv h
          refine g_iinc (v := y518) C dL_law_984 rfl e519.symm (by decide) (rv_cat _ _) (L2 := [some (rv w 159), some (rv w r1), some (rv w r2), some (.int y518), none, none, none, none]) rfl ?_
          refine g_goto 18 C dL_law_987 (by decide) ?_
          exact ih r1 r2 y518 M509 h
        · replace h := of_iff h c517
          refine g_iconst (v := 0) C dL_law_711 rfl ?_
          cases h
          exact hR 712 _ ⟨.boolean, rfl, rfl⟩ dL_law_712
      replace h := of_iff h c505
      by_cases c520 : y203 = nI 19
      · replace h := of_ift h c520
        refine g_tsI (nI 19) (680) 713 C dL_law_33 c520 (by decide) (by decide) rfl (by decide) ?_
        refine g_aload_n C dL_law_713 rfl rfl ?_
        refine g_aload_n C dL_law_714 rfl rfl ?_
        refine g_iload_n C dL_law_715 rfl rfl ?_
        refine g_iconst (v := 1) C dL_law_716 rfl ?_
        refine g_iadd C dL_law_717 ?_
        obtain ⟨g521, h⟩ := of_gdd h
        refine g_sld C hX g521 dL_law_718 ?_
        refine g_aload_n C dL_law_719 rfl rfl ?_
        refine g_iload_n C dL_law_720 rfl rfl ?_
        refine g_iconst (v := 2) C dL_law_721 rfl ?_
        refine g_iadd C dL_law_722 ?_
        obtain ⟨g522, h⟩ := of_gdd h
        refine g_sld C hX g522 dL_law_723 ?_
        refine g_aload_n C dL_law_724 rfl rfl ?_
        refine g_iload_n C dL_law_725 rfl rfl ?_
        refine g_iconst (v := 3) C dL_law_726 rfl ?_
        refine g_iadd C dL_law_727 ?_
        obtain ⟨g523, h⟩ := of_gdd h
        refine g_sld C hX g523 dL_law_728 ?_
        obtain ⟨g524, h⟩ := of_gdd h
        obtain ⟨y527, M525, e526, h⟩ := of_opp h
        refine g_callV (As := [.int (xs (x3 + (1 : Int32)).toNatClampNeg), .int (xs (x3 + (2 : Int32)).toNatClampNeg), .int (xs (x3 + (3 : Int32)).toNatClampNeg)]) C (ct_X5_best C.wf e526) g524 lk_RL_94 mi_X5_best (by decide) cs_0 (by decide) dL_law_729 rfl ?_
        show Go w f 732 [some (rv w 159), some (rv w r1), some (rv w r2), some (.int x3), none, none, none, none] [.int y527] M525
        refine g_aload_n C dL_law_732 rfl rfl ?_
        refine g_aload_n C dL_law_733 rfl rfl ?_
        refine g_iload_n C dL_law_734 rfl rfl ?_
        refine g_iconst (v := 1) C dL_law_735 rfl ?_
        refine g_iadd C dL_law_736 ?_
        obtain ⟨g528, h⟩ := of_gdd h
        refine g_sld C hX g528 dL_law_737 ?_
        refine g_aload_n C dL_law_738 rfl rfl ?_
        refine g_iload_n C dL_law_739 rfl rfl ?_
        refine g_iconst (v := 2) C dL_law_740 rfl ?_
        refine g_iadd C dL_law_741 ?_
        obtain ⟨g529, h⟩ := of_gdd h
        refine g_sld C hX g529 dL_law_742 ?_
        refine g_aload_n C dL_law_743 rfl rfl ?_
        refine g_iload_n C dL_law_744 rfl rfl ?_
        refine g_iconst (v := 3) C dL_law_745 rfl ?_
        refine g_iadd C dL_law_746 ?_
        obtain ⟨g530, h⟩ := of_gdd h
        refine g_sld C hX g530 dL_law_747 ?_
        obtain ⟨g531, h⟩ := of_gdd h
        obtain ⟨y534, M532, e533, h⟩ := of_opp h
        refine g_callV (As := [.int (xs (x3 + (1 : Int32)).toNatClampNeg), .int (xs (x3 + (2 : Int32)).toNatClampNeg), .int (xs (x3 + (3 : Int32)).toNatClampNeg)]) C (ct_X6_best C.wf e533) g531 lk_RL_97 mi_X6_best (by decide) (cs_i cs_0) (by decide) dL_law_748 rfl ?_
        show Go w f 751 [some (rv w 159), some (rv w r1), some (rv w r2), some (.int x3), none, none, none, none] [.int y534, .int y527] M532
        refine g_icmp_eq 984 C dL_law_751 (by decide) (fun c535 => ?_) (fun c535 => ?_)
        · replace h := of_ift h c535
          obtain ⟨y536, e537, h⟩ := of_bvv h
          refine g_iinc (v := y536) C dL_law_984 rfl e537.symm (by decide) (rv_cat _ _) (L2 := [some (rv w 159), some (rv w r1), some (rv w r2), some (.int y536), none, none, none, none]) rfl ?_
          refine g_goto 18 C dL_law_987 (by decide) ?_
          exact ih r1 r2 y536 M532 h
        · replace h := of_iff h c535
          refine g_iconst (v := 0) C dL_law_754 rfl ?_
          cases h
          exact hR 755 _ ⟨.boolean, rfl, rfl⟩ dL_law_755
      replace h := of_iff h c520
      by_cases c538 : y203 = nI 20
      · replace h := of_ift h c538
        refine g_tsI (nI 20) (723) 756 C dL_law_33 c538 (by decide) (by decide) rfl (by decide) ?_
        refine g_aload_n C dL_law_756 rfl rfl ?_
        refine g_aload_n C dL_law_757 rfl rfl ?_
        refine g_iload_n C dL_law_758 rfl rfl ?_
        refine g_iconst (v := 1) C dL_law_759 rfl ?_
        refine g_iadd C dL_law_760 ?_
        obtain ⟨g539, h⟩ := of_gdd h
        refine g_sld C hX g539 dL_law_761 ?_
        refine g_aload_n C dL_law_762 rfl rfl ?_
        refine g_iload_n C dL_law_763 rfl rfl ?_
        refine g_iconst (v := 2) C dL_law_764 rfl ?_
        refine g_iadd C dL_law_765 ?_
        obtain ⟨g540, h⟩ := of_gdd h
        refine g_sld C hX g540 dL_law_766 ?_
        obtain ⟨g541, h⟩ := of_gdd h
        obtain ⟨y544, M542, e543, h⟩ := of_opp h
        refine g_callV (As := [.int (xs (x3 + (1 : Int32)).toNatClampNeg), .int (xs (x3 + (2 : Int32)).toNatClampNeg)]) C (ct_X5_ways C.wf e543) g541 lk_RL_98 mi_X5_ways (by decide) cs_0 (by decide) dL_law_767 rfl ?_
        show Go w f 770 [some (rv w 159), some (rv w r1), some (rv w r2), some (.int x3), none, none, none, none] [.int y544] M542
        refine g_aload_n C dL_law_770 rfl rfl ?_
        refine g_aload_n C dL_law_771 rfl rfl ?_
        refine g_iload_n C dL_law_772 rfl rfl ?_
        refine g_iconst (v := 1) C dL_law_773 rfl ?_
        refine g_iadd C dL_law_774 ?_
        obtain ⟨g545, h⟩ := of_gdd h
        refine g_sld C hX g545 dL_law_775 ?_
        refine g_aload_n C dL_law_776 rfl rfl ?_
        refine g_iload_n C dL_law_777 rfl rfl ?_
        refine g_iconst (v := 2) C dL_law_778 rfl ?_
        refine g_iadd C dL_law_779 ?_
        obtain ⟨g546, h⟩ := of_gdd h
        refine g_sld C hX g546 dL_law_780 ?_
        obtain ⟨g547, h⟩ := of_gdd h
        obtain ⟨y550, M548, e549, h⟩ := of_opp h
        refine g_callV (As := [.int (xs (x3 + (1 : Int32)).toNatClampNeg), .int (xs (x3 + (2 : Int32)).toNatClampNeg)]) C (ct_X6_ways C.wf e549) g547 lk_RL_101 mi_X6_ways (by decide) (cs_i cs_0) (by decide) dL_law_781 rfl ?_
        show Go w f 784 [some (rv w 159), some (rv w r1), some (rv w r2), some (.int x3), none, none, none, none] [.int y550, .int y544] M548
        refine g_icmp_eq 984 C dL_law_784 (by decide) (fun c551 => ?_) (fun c551 => ?_)
        · replace h := of_ift h c551
          obtain ⟨y552, e553, h⟩ := of_bvv h
          refine g_iinc (v := y552) C dL_law_984 rfl e553.symm (by decide) (rv_cat _ _) (L2 := [some (rv w 159), some (rv w r1), some (rv w r2), some (.int y552), none, none, none, none]) rfl ?_
          refine g_goto 18 C dL_law_987 (by decide) ?_
          exact ih r1 r2 y552 M548 h
        · replace h := of_iff h c551
          refine g_iconst (v := 0) C dL_law_787 rfl ?_
          cases h
          exact hR 788 _ ⟨.boolean, rfl, rfl⟩ dL_law_788
      replace h := of_iff h c538
      by_cases c554 : y203 = nI 21
      · replace h := of_ift h c554
        refine g_tsI (nI 21) (756) 789 C dL_law_33 c554 (by decide) (by decide) rfl (by decide) ?_
        refine g_aload_n C dL_law_789 rfl rfl ?_
        refine g_aload_n C dL_law_790 rfl rfl ?_
        refine g_iload_n C dL_law_791 rfl rfl ?_
        refine g_iconst (v := 1) C dL_law_792 rfl ?_
        refine g_iadd C dL_law_793 ?_
        obtain ⟨g555, h⟩ := of_gdd h
        refine g_sld C hX g555 dL_law_794 ?_
        obtain ⟨g556, h⟩ := of_gdd h
        obtain ⟨y559, M557, e558, h⟩ := of_opp h
        refine g_callV (As := [.int (xs (x3 + (1 : Int32)).toNatClampNeg)]) C (ct_X5_count C.wf e558) g556 lk_RL_102 mi_X5_count (by decide) cs_0 (by decide) dL_law_795 rfl ?_
        show Go w f 798 [some (rv w 159), some (rv w r1), some (rv w r2), some (.int x3), none, none, none, none] [.int y559] M557
        refine g_aload_n C dL_law_798 rfl rfl ?_
        refine g_aload_n C dL_law_799 rfl rfl ?_
        refine g_iload_n C dL_law_800 rfl rfl ?_
        refine g_iconst (v := 1) C dL_law_801 rfl ?_
        refine g_iadd C dL_law_802 ?_
        obtain ⟨g560, h⟩ := of_gdd h
        refine g_sld C hX g560 dL_law_803 ?_
        obtain ⟨g561, h⟩ := of_gdd h
        obtain ⟨y562, e563, h⟩ := of_obb h
        refine g_callV (As := [.int (xs (x3 + (1 : Int32)).toNatClampNeg)]) C (ct_X6_count C.wf e563) g561 lk_RL_105 mi_X6_count (by decide) (cs_i cs_0) (by decide) dL_law_804 rfl ?_
        show Go w f 807 [some (rv w 159), some (rv w r1), some (rv w r2), some (.int x3), none, none, none, none] [.int y562, .int y559] M557
        refine g_icmp_eq 984 C dL_law_807 (by decide) (fun c564 => ?_) (fun c564 => ?_)
        · replace h := of_ift h c564
          obtain ⟨y565, e566, h⟩ := of_bvv h
          refine g_iinc (v := y565) C dL_law_984 rfl e566.symm (by decide) (rv_cat _ _) (L2 := [some (rv w 159), some (rv w r1), some (rv w r2), some (.int y565), none, none, none, none]) rfl ?_
          refine g_goto 18 C dL_law_987 (by decide) ?_
          exact ih r1 r2 y565 M557 h
        · replace h := of_iff h c564
          refine g_iconst (v := 0) C dL_law_810 rfl ?_
          cases h
          exact hR 811 _ ⟨.boolean, rfl, rfl⟩ dL_law_811
      replace h := of_iff h c554
      by_cases c567 : y203 = nI 22
      · replace h := of_ift h c567
        refine g_tsI (nI 22) (779) 812 C dL_law_33 c567 (by decide) (by decide) rfl (by decide) ?_
        refine g_aload_n C dL_law_812 rfl rfl ?_
        obtain ⟨g568, h⟩ := of_gdd h
        obtain ⟨y569, e570, h⟩ := of_obb h
        refine g_callV (As := []) C (ct_X5_length C.wf e570) g568 lk_RL_106 mi_X5_length (by decide) cs_0 (by decide) dL_law_813 rfl ?_
        show Go w f 816 [some (rv w 159), some (rv w r1), some (rv w r2), some (.int x3), none, none, none, none] [.double y569] M
        refine g_dstore C dL_law_816 (by decide) rfl (L2 := [some (rv w 159), some (rv w r1), some (rv w r2), some (.int x3), some (.double y569), none, none, none]) rfl ?_
        refine g_aload_n C dL_law_818 rfl rfl ?_
        obtain ⟨g571, h⟩ := of_gdd h
        obtain ⟨y572, e573, h⟩ := of_obb h
        refine g_callV (As := []) C (ct_X6_length C.wf e573) g571 lk_RL_110 mi_X6_length (by decide) cs_0 (by decide) dL_law_819 rfl ?_
        show Go w f 822 [some (rv w 159), some (rv w r1), some (rv w r2), some (.int x3), some (.double y569), none, none, none] [.double y572] M
        refine g_dstore C dL_law_822 (by decide) trivial (L2 := [some (rv w 159), some (rv w r1), some (rv w r2), some (.int x3), some (.double y569), none, some (.double y572), none]) rfl ?_
        refine g_dload C dL_law_824 rfl ?_
        refine g_dload C dL_law_826 rfl ?_
        refine g_dcmp C dL_law_828 ?_
        refine g_if_eq 850 C dL_law_829 (by decide) (fun c574 => ?_) (fun c574 => ?_)
        · replace h := of_ift h c574
          refine g_goto 984 C dL_law_850 (by decide) ?_
          obtain ⟨y575, e576, h⟩ := of_bvv h
          refine g_iinc (v := y575) C dL_law_984 rfl e576.symm (by decide) (rv_cat _ _) (L2 := [some (rv w 159), some (rv w r1), some (rv w r2), some (.int y575), some (.double y569), none, some (.double y572), none]) rfl ?_
          refine g_goto 18 C dL_law_987 (by decide) ?_
          refine g_mask (bs := [true, true, true, true, false, false, false, false]) (L2 := [some (rv w 159), some (rv w r1), some (rv w r2), some (.int y575), none, none, none, none]) rfl ?_
          exact ih r1 r2 y575 M h
        · replace h := of_iff h c574
          refine g_dload C dL_law_832 rfl ?_
          refine g_dload C dL_law_834 rfl ?_
          refine g_dcmp C dL_law_836 ?_
          refine g_if_eq 848 C dL_law_837 (by decide) (fun c577 => ?_) (fun c577 => ?_)
          · replace h := of_ift h c577
            refine g_iconst (v := 0) C dL_law_848 rfl ?_
            cases h
            exact hR 849 _ ⟨.boolean, rfl, rfl⟩ dL_law_849
          · replace h := of_iff h c577
            refine g_dload C dL_law_840 rfl ?_
            refine g_dload C dL_law_842 rfl ?_
            refine g_dcmp C dL_law_844 ?_
            refine g_if_ne 850 C dL_law_845 (by decide) (fun c578 => ?_) (fun c578 => ?_)
            · replace h := of_iff h c578
              refine g_goto 984 C dL_law_850 (by decide) ?_
              obtain ⟨y579, e580, h⟩ := of_bvv h
              refine g_iinc (v := y579) C dL_law_984 rfl e580.symm (by decide) (rv_cat _ _) (L2 := [some (rv w 159), some (rv w r1), some (rv w r2), some (.int y579), some (.double y569), none, some (.double y572), none]) rfl ?_
              refine g_goto 18 C dL_law_987 (by decide) ?_
              refine g_mask (bs := [true, true, true, true, false, false, false, false]) (L2 := [some (rv w 159), some (rv w r1), some (rv w r2), some (.int y579), none, none, none, none]) rfl ?_
              exact ih r1 r2 y579 M h
            · replace h := of_ift h c578
              refine g_iconst (v := 0) C dL_law_848 rfl ?_
              cases h
              exact hR 849 _ ⟨.boolean, rfl, rfl⟩ dL_law_849
      replace h := of_iff h c567
      by_cases c581 : y203 = nI 23
      · replace h := of_ift h c581
        refine g_tsI (nI 23) (820) 853 C dL_law_33 c581 (by decide) (by decide) rfl (by decide) ?_
        refine g_aload_n C dL_law_853 rfl rfl ?_
        refine g_aload_n C dL_law_854 rfl rfl ?_
        refine g_iload_n C dL_law_855 rfl rfl ?_
        refine g_iconst (v := 1) C dL_law_856 rfl ?_
        refine g_iadd C dL_law_857 ?_
        obtain ⟨g582, h⟩ := of_gdd h
        refine g_sld C hX g582 dL_law_858 ?_
        refine g_aload_n C dL_law_859 rfl rfl ?_
        refine g_iload_n C dL_law_860 rfl rfl ?_
        refine g_iconst (v := 2) C dL_law_861 rfl ?_
        refine g_iadd C dL_law_862 ?_
        obtain ⟨g583, h⟩ := of_gdd h
        refine g_sld C hX g583 dL_law_863 ?_
        refine g_aload_n C dL_law_864 rfl rfl ?_
        refine g_iload_n C dL_law_865 rfl rfl ?_
        refine g_iconst (v := 3) C dL_law_866 rfl ?_
        refine g_iadd C dL_law_867 ?_
        obtain ⟨g584, h⟩ := of_gdd h
        refine g_sld C hX g584 dL_law_868 ?_
        refine g_if_eq 876 C dL_law_869 (by decide) (fun c585 => ?_) (fun c585 => ?_)
        · replace h := of_ift h c585
          refine g_iconst (v := 0) C dL_law_876 rfl ?_
          refine g_aload_n C dL_law_877 rfl rfl ?_
          refine g_iload_n C dL_law_878 rfl rfl ?_
          refine g_iconst (v := 4) C dL_law_879 rfl ?_
          refine g_iadd C dL_law_880 ?_
          obtain ⟨g586, h⟩ := of_gdd h
          refine g_sld C hX g586 dL_law_881 ?_
          obtain ⟨g587, h⟩ := of_gdd h
          obtain ⟨y588, e589, h⟩ := of_obb h
          refine g_callV (As := [.int (xs (x3 + (1 : Int32)).toNatClampNeg), .int (xs (x3 + (2 : Int32)).toNatClampNeg), .int (0 : Int32), .int (xs (x3 + (4 : Int32)).toNatClampNeg)]) C (ct_X5_ifRuled C.wf e589) g587 lk_RL_111 mi_X5_ifRuled (by decide) cs_0 (by decide) dL_law_882 rfl ?_
          show Go w f 885 [some (rv w 159), some (rv w r1), some (rv w r2), some (.int x3), none, none, none, none] [.int y588] M
          refine g_aload_n C dL_law_885 rfl rfl ?_
          refine g_aload_n C dL_law_886 rfl rfl ?_
          refine g_iload_n C dL_law_887 rfl rfl ?_
          refine g_iconst (v := 1) C dL_law_888 rfl ?_
          refine g_iadd C dL_law_889 ?_
          obtain ⟨g590, h⟩ := of_gdd h
          refine g_sld C hX g590 dL_law_890 ?_
          refine g_aload_n C dL_law_891 rfl rfl ?_
          refine g_iload_n C dL_law_892 rfl rfl ?_
          refine g_iconst (v := 2) C dL_law_893 rfl ?_
          refine g_iadd C dL_law_894 ?_
          obtain ⟨g591, h⟩ := of_gdd h
          refine g_sld C hX g591 dL_law_895 ?_
          refine g_aload_n C dL_law_896 rfl rfl ?_
          refine g_iload_n C dL_law_897 rfl rfl ?_
          refine g_iconst (v := 3) C dL_law_898 rfl ?_
          refine g_iadd C dL_law_899 ?_
          obtain ⟨g592, h⟩ := of_gdd h
          refine g_sld C hX g592 dL_law_900 ?_
          refine g_if_eq 908 C dL_law_901 (by decide) (fun c593 => ?_) (fun c593 => ?_)
          · replace h := of_ift h c593
            refine g_iconst (v := 0) C dL_law_908 rfl ?_
            refine g_aload_n C dL_law_909 rfl rfl ?_
            refine g_iload_n C dL_law_910 rfl rfl ?_
            refine g_iconst (v := 4) C dL_law_911 rfl ?_
            refine g_iadd C dL_law_912 ?_
            obtain ⟨g594, h⟩ := of_gdd h
            refine g_sld C hX g594 dL_law_913 ?_
            obtain ⟨g595, h⟩ := of_gdd h
            obtain ⟨y596, e597, h⟩ := of_obb h
            refine g_callV (As := [.int (xs (x3 + (1 : Int32)).toNatClampNeg), .int (xs (x3 + (2 : Int32)).toNatClampNeg), .int (0 : Int32), .int (xs (x3 + (4 : Int32)).toNatClampNeg)]) C (ct_X6_ifRuled C.wf e597) g595 lk_RL_115 mi_X6_ifRuled (by decide) (cs_i cs_0) (by decide) dL_law_914 rfl ?_
            show Go w f 917 [some (rv w 159), some (rv w r1), some (rv w r2), some (.int x3), none, none, none, none] [.int y596, .int y588] M
            refine g_icmp_eq 984 C dL_law_917 (by decide) (fun c598 => ?_) (fun c598 => ?_)
            · replace h := of_ift h c598
              obtain ⟨y599, e600, h⟩ := of_bvv h
              refine g_iinc (v := y599) C dL_law_984 rfl e600.symm (by decide) (rv_cat _ _) (L2 := [some (rv w 159), some (rv w r1), some (rv w r2), some (.int y599), none, none, none, none]) rfl ?_
              refine g_goto 18 C dL_law_987 (by decide) ?_
              exact ih r1 r2 y599 M h
            · replace h := of_iff h c598
              refine g_iconst (v := 0) C dL_law_920 rfl ?_
              cases h
              exact hR 921 _ ⟨.boolean, rfl, rfl⟩ dL_law_921
          · replace h := of_iff h c593
            refine g_iconst (v := 1) C dL_law_904 rfl ?_
            refine g_goto 909 C dL_law_905 (by decide) ?_
            refine g_aload_n C dL_law_909 rfl rfl ?_
            refine g_iload_n C dL_law_910 rfl rfl ?_
            refine g_iconst (v := 4) C dL_law_911 rfl ?_
            refine g_iadd C dL_law_912 ?_
            obtain ⟨g601, h⟩ := of_gdd h
            refine g_sld C hX g601 dL_law_913 ?_
            obtain ⟨g602, h⟩ := of_gdd h
            obtain ⟨y603, e604, h⟩ := of_obb h
            refine g_callV (As := [.int (xs (x3 + (1 : Int32)).toNatClampNeg), .int (xs (x3 + (2 : Int32)).toNatClampNeg), .int (1 : Int32), .int (xs (x3 + (4 : Int32)).toNatClampNeg)]) C (ct_X6_ifRuled C.wf e604) g602 lk_RL_115 mi_X6_ifRuled (by decide) (cs_i cs_0) (by decide) dL_law_914 rfl ?_
            show Go w f 917 [some (rv w 159), some (rv w r1), some (rv w r2), some (.int x3), none, none, none, none] [.int y603, .int y588] M
            refine g_icmp_eq 984 C dL_law_917 (by decide) (fun c605 => ?_) (fun c605 => ?_)
            · replace h := of_ift h c605
              obtain ⟨y606, e607, h⟩ := of_bvv h
              refine g_iinc (v := y606) C dL_law_984 rfl e607.symm (by decide) (rv_cat _ _) (L2 := [some (rv w 159), some (rv w r1), some (rv w r2), some (.int y606), none, none, none, none]) rfl ?_
              refine g_goto 18 C dL_law_987 (by decide) ?_
              exact ih r1 r2 y606 M h
            · replace h := of_iff h c605
              refine g_iconst (v := 0) C dL_law_920 rfl ?_
              cases h
              exact hR 921 _ ⟨.boolean, rfl, rfl⟩ dL_law_921
        · replace h := of_iff h c585
          refine g_iconst (v := 1) C dL_law_872 rfl ?_
          refine g_goto 877 C dL_law_873 (by decide) ?_
          refine g_aload_n C dL_law_877 rfl rfl ?_
          refine g_iload_n C dL_law_878 rfl rfl ?_
          refine g_iconst (v := 4) C dL_law_879 rfl ?_
          refine g_iadd C dL_law_880 ?_
          obtain ⟨g608, h⟩ := of_gdd h
          refine g_sld C hX g608 dL_law_881 ?_
          obtain ⟨g609, h⟩ := of_gdd h
          obtain ⟨y610, e611, h⟩ := of_obb h
          refine g_callV (As := [.int (xs (x3 + (1 : Int32)).toNatClampNeg), .int (xs (x3 + (2 : Int32)).toNatClampNeg), .int (1 : Int32), .int (xs (x3 + (4 : Int32)).toNatClampNeg)]) C (ct_X5_ifRuled C.wf e611) g609 lk_RL_111 mi_X5_ifRuled (by decide) cs_0 (by decide) dL_law_882 rfl ?_
          show Go w f 885 [some (rv w 159), some (rv w r1), some (rv w r2), some (.int x3), none, none, none, none] [.int y610] M
          refine g_aload_n C dL_law_885 rfl rfl ?_
          refine g_aload_n C dL_law_886 rfl rfl ?_
          refine g_iload_n C dL_law_887 rfl rfl ?_
          refine g_iconst (v := 1) C dL_law_888 rfl ?_
          refine g_iadd C dL_law_889 ?_
          obtain ⟨g612, h⟩ := of_gdd h
          refine g_sld C hX g612 dL_law_890 ?_
          refine g_aload_n C dL_law_891 rfl rfl ?_
          refine g_iload_n C dL_law_892 rfl rfl ?_
          refine g_iconst (v := 2) C dL_law_893 rfl ?_
          refine g_iadd C dL_law_894 ?_
          obtain ⟨g613, h⟩ := of_gdd h
          refine g_sld C hX g613 dL_law_895 ?_
          refine g_aload_n C dL_law_896 rfl rfl ?_
          refine g_iload_n C dL_law_897 rfl rfl ?_
          refine g_iconst (v := 3) C dL_law_898 rfl ?_
          refine g_iadd C dL_law_899 ?_
          obtain ⟨g614, h⟩ := of_gdd h
          refine g_sld C hX g614 dL_law_900 ?_
          refine g_if_eq 908 C dL_law_901 (by decide) (fun c615 => ?_) (fun c615 => ?_)
          · replace h := of_ift h c615
            refine g_iconst (v := 0) C dL_law_908 rfl ?_
            refine g_aload_n C dL_law_909 rfl rfl ?_
            refine g_iload_n C dL_law_910 rfl rfl ?_
            refine g_iconst (v := 4) C dL_law_911 rfl ?_
            refine g_iadd C dL_law_912 ?_
            obtain ⟨g616, h⟩ := of_gdd h
            refine g_sld C hX g616 dL_law_913 ?_
            obtain ⟨g617, h⟩ := of_gdd h
            obtain ⟨y618, e619, h⟩ := of_obb h
            refine g_callV (As := [.int (xs (x3 + (1 : Int32)).toNatClampNeg), .int (xs (x3 + (2 : Int32)).toNatClampNeg), .int (0 : Int32), .int (xs (x3 + (4 : Int32)).toNatClampNeg)]) C (ct_X6_ifRuled C.wf e619) g617 lk_RL_115 mi_X6_ifRuled (by decide) (cs_i cs_0) (by decide) dL_law_914 rfl ?_
            show Go w f 917 [some (rv w 159), some (rv w r1), some (rv w r2), some (.int x3), none, none, none, none] [.int y618, .int y610] M
            refine g_icmp_eq 984 C dL_law_917 (by decide) (fun c620 => ?_) (fun c620 => ?_)
            · replace h := of_ift h c620
              obtain ⟨y621, e622, h⟩ := of_bvv h
              refine g_iinc (v := y621) C dL_law_984 rfl e622.symm (by decide) (rv_cat _ _) (L2 := [some (rv w 159), some (rv w r1), some (rv w r2), some (.int y621), none, none, none, none]) rfl ?_
              refine g_goto 18 C dL_law_987 (by decide) ?_
              exact ih r1 r2 y621 M h
            · replace h := of_iff h c620
              refine g_iconst (v := 0) C dL_law_920 rfl ?_
              cases h
              exact hR 921 _ ⟨.boolean, rfl, rfl⟩ dL_law_921
          · replace h := of_iff h c615
            refine g_iconst (v := 1) C dL_law_904 rfl ?_
            refine g_goto 909 C dL_law_905 (by decide) ?_
            refine g_aload_n C dL_law_909 rfl rfl ?_
            refine g_iload_n C dL_law_910 rfl rfl ?_
            refine g_iconst (v := 4) C dL_law_911 rfl ?_
            refine g_iadd C dL_law_912 ?_
            obtain ⟨g623, h⟩ := of_gdd h
            refine g_sld C hX g623 dL_law_913 ?_
            obtain ⟨g624, h⟩ := of_gdd h
            obtain ⟨y625, e626, h⟩ := of_obb h
            refine g_callV (As := [.int (xs (x3 + (1 : Int32)).toNatClampNeg), .int (xs (x3 + (2 : Int32)).toNatClampNeg), .int (1 : Int32), .int (xs (x3 + (4 : Int32)).toNatClampNeg)]) C (ct_X6_ifRuled C.wf e626) g624 lk_RL_115 mi_X6_ifRuled (by decide) (cs_i cs_0) (by decide) dL_law_914 rfl ?_
            show Go w f 917 [some (rv w 159), some (rv w r1), some (rv w r2), some (.int x3), none, none, none, none] [.int y625, .int y610] M
            refine g_icmp_eq 984 C dL_law_917 (by decide) (fun c627 => ?_) (fun c627 => ?_)
            · replace h := of_ift h c627
              obtain ⟨y628, e629, h⟩ := of_bvv h
              refine g_iinc (v := y628) C dL_law_984 rfl e629.symm (by decide) (rv_cat _ _) (L2 := [some (rv w 159), some (rv w r1), some (rv w r2), some (.int y628), none, none, none, none]) rfl ?_
              refine g_goto 18 C dL_law_987 (by decide) ?_
              exact ih r1 r2 y628 M h
            · replace h := of_iff h c627
              refine g_iconst (v := 0) C dL_law_920 rfl ?_
              cases h
              exact hR 921 _ ⟨.boolean, rfl, rfl⟩ dL_law_921
      replace h := of_iff h c581
      by_cases c630 : y203 = nI 24
      · replace h := of_ift h c630
        refine g_tsI (nI 24) (889) 922 C dL_law_33 c630 (by decide) (by decide) rfl (by decide) ?_
        refine g_aload_n C dL_law_922 rfl rfl ?_
        refine g_aload_n C dL_law_923 rfl rfl ?_
        refine g_iload_n C dL_law_924 rfl rfl ?_
        refine g_iconst (v := 1) C dL_law_925 rfl ?_
        refine g_iadd C dL_law_926 ?_
        obtain ⟨g631, h⟩ := of_gdd h
        refine g_sld C hX g631 dL_law_927 ?_
        obtain ⟨g632, h⟩ := of_gdd h
        obtain ⟨y635, M633, e634, h⟩ := of_opp h
        refine g_callV (As := [.int (xs (x3 + (1 : Int32)).toNatClampNeg)]) C (ct_X5_bestSuit C.wf e634) g632 lk_RL_116 mi_X5_bestSuit (by decide) cs_0 (by decide) dL_law_928 rfl ?_
        show Go w f 931 [some (rv w 159), some (rv w r1), some (rv w r2), some (.int x3), none, none, none, none] [.int y635] M633
        refine g_aload_n C dL_law_931 rfl rfl ?_
        refine g_aload_n C dL_law_932 rfl rfl ?_
        refine g_iload_n C dL_law_933 rfl rfl ?_
        refine g_iconst (v := 1) C dL_law_934 rfl ?_
        refine g_iadd C dL_law_935 ?_
        obtain ⟨g636, h⟩ := of_gdd h
        refine g_sld C hX g636 dL_law_936 ?_
        obtain ⟨g637, h⟩ := of_gdd h
        obtain ⟨y638, e639, h⟩ := of_obb h
        refine g_callV (As := [.int (xs (x3 + (1 : Int32)).toNatClampNeg)]) C (ct_X6_bestSuit C.wf e639) g637 lk_RL_119 mi_X6_bestSuit (by decide) (cs_i cs_0) (by decide) dL_law_937 rfl ?_
        show Go w f 940 [some (rv w 159), some (rv w r1), some (rv w r2), some (.int x3), none, none, none, none] [.int y638, .int y635] M633
        refine g_icmp_eq 984 C dL_law_940 (by decide) (fun c640 => ?_) (fun c640 => ?_)
        · replace h := of_ift h c640
          obtain ⟨y641, e642, h⟩ := of_bvv h
          refine g_iinc (v := y641) C dL_law_984 rfl e642.symm (by decide) (rv_cat _ _) (L2 := [some (rv w 159), some (rv w r1), some (rv w r2), some (.int y641), none, none, none, none]) rfl ?_
          refine g_goto 18 C dL_law_987 (by decide) ?_
          exact ih r1 r2 y641 M633 h
        · replace h := of_iff h c640
          refine g_iconst (v := 0) C dL_law_943 rfl ?_
          cases h
          exact hR 944 _ ⟨.boolean, rfl, rfl⟩ dL_law_944
      replace h := of_iff h c630
      by_cases c643 : y203 = nI 25
      · replace h := of_ift h c643
        refine g_tsI (nI 25) (912) 945 C dL_law_33 c643 (by decide) (by decide) rfl (by decide) ?_
        refine g_aload_n C dL_law_945 rfl rfl ?_
        obtain ⟨g644, h⟩ := of_gdd h
        obtain ⟨y647, M645, e646, h⟩ := of_opp h
        refine g_callV (As := []) C (ct_X5_undo C.wf e646) g644 lk_RL_120 mi_X5_undo (by decide) cs_0 (by decide) dL_law_946 rfl ?_
        show Go w f 949 [some (rv w 159), some (rv w r1), some (rv w r2), some (.int x3), none, none, none, none] [.int y647] M645
        refine g_aload_n C dL_law_949 rfl rfl ?_
        obtain ⟨g648, h⟩ := of_gdd h
        obtain ⟨y651, M649, e650, h⟩ := of_opp h
        refine g_callV (As := []) C (ct_X6_undo C.wf e650) g648 lk_RL_123 mi_X6_undo (by decide) (cs_i cs_0) (by decide) dL_law_950 rfl ?_
        show Go w f 953 [some (rv w 159), some (rv w r1), some (rv w r2), some (.int x3), none, none, none, none] [.int y651, .int y647] M649
        refine g_icmp_eq 984 C dL_law_953 (by decide) (fun c652 => ?_) (fun c652 => ?_)
        · replace h := of_ift h c652
          obtain ⟨y653, e654, h⟩ := of_bvv h
          refine g_iinc (v := y653) C dL_law_984 rfl e654.symm (by decide) (rv_cat _ _) (L2 := [some (rv w 159), some (rv w r1), some (rv w r2), some (.int y653), none, none, none, none]) rfl ?_
          refine g_goto 18 C dL_law_987 (by decide) ?_
          exact ih r1 r2 y653 M649 h
        · replace h := of_iff h c652
          refine g_iconst (v := 0) C dL_law_956 rfl ?_
          cases h
          exact hR 957 _ ⟨.boolean, rfl, rfl⟩ dL_law_957
      replace h := of_iff h c643
      by_cases c655 : y203 = nI 26
      · replace h := of_ift h c655
        refine g_tsI (nI 26) (925) 958 C dL_law_33 c655 (by decide) (by decide) rfl (by decide) ?_
        refine g_aload_n C dL_law_958 rfl rfl ?_
        obtain ⟨g656, h⟩ := of_gdd h
        obtain ⟨y659, M657, e658, h⟩ := of_opp h
        refine g_callV (As := []) C (ct_X5_save C.wf e658) g656 lk_RL_124 mi_X5_save (by decide) cs_0 (by decide) dL_law_959 rfl ?_
        show Go w f 962 [some (rv w 159), some (rv w r1), some (rv w r2), some (.int x3), none, none, none, none] [.int y659] M657
        refine g_aload_n C dL_law_962 rfl rfl ?_
        obtain ⟨g660, h⟩ := of_gdd h
        obtain ⟨y663, M661, e662, h⟩ := of_opp h
        refine g_callV (As := []) C (ct_X6_save C.wf e662) g660 lk_RL_127 mi_X6_save (by decide) (cs_i cs_0) (by decide) dL_law_963 rfl ?_
        show Go w f 966 [some (rv w 159), some (rv w r1), some (rv w r2), some (.int x3), none, none, none, none] [.int y663, .int y659] M661
        refine g_icmp_eq 984 C dL_law_966 (by decide) (fun c664 => ?_) (fun c664 => ?_)
        · replace h := of_ift h c664
          obtain ⟨y665, e666, h⟩ := of_bvv h
          refine g_iinc (v := y665) C dL_law_984 rfl e666.symm (by decide) (rv_cat _ _) (L2 := [some (rv w 159), some (rv w r1), some (rv w r2), some (.int y665), none, none, none, none]) rfl ?_
          refine g_goto 18 C dL_law_987 (by decide) ?_
          exact ih r1 r2 y665 M661 h
        · replace h := of_iff h c664
          refine g_iconst (v := 0) C dL_law_969 rfl ?_
          cases h
          exact hR 970 _ ⟨.boolean, rfl, rfl⟩ dL_law_970
      replace h := of_iff h c655
      by_cases c667 : y203 = nI 27
      · replace h := of_ift h c667
        refine g_tsI (nI 27) (938) 971 C dL_law_33 c667 (by decide) (by decide) rfl (by decide) ?_
        refine g_aload_n C dL_law_971 rfl rfl ?_
        obtain ⟨g668, h⟩ := of_gdd h
        obtain ⟨y671, M669, e670, h⟩ := of_opp h
        refine g_callV (As := []) C (ct_X5_restore C.wf e670) g668 lk_RL_128 mi_X5_restore (by decide) cs_0 (by decide) dL_law_972 rfl ?_
        show Go w f 975 [some (rv w 159), some (rv w r1), some (rv w r2), some (.int x3), none, none, none, none] [.int y671] M669
        refine g_aload_n C dL_law_975 rfl rfl ?_
        obtain ⟨g672, h⟩ := of_gdd h
        obtain ⟨y675, M673, e674, h⟩ := of_opp h
        refine g_callV (As := []) C (ct_X6_restore C.wf e674) g672 lk_RL_131 mi_X6_restore (by decide) (cs_i cs_0) (by decide) dL_law_976 rfl ?_
        show Go w f 979 [some (rv w 159), some (rv w r1), some (rv w r2), some (.int x3), none, none, none, none] [.int y675, .int y671] M673
        refine g_icmp_eq 984 C dL_law_979 (by decide) (fun c676 => ?_) (fun c676 => ?_)
        · replace h := of_ift h c676
          obtain ⟨y677, e678, h⟩ := of_bvv h
          refine g_iinc (v := y677) C dL_law_984 rfl e678.symm (by decide) (rv_cat _ _) (L2 := [some (rv w 159), some (rv w r1), some (rv w r2), some (.int y677), none, none, none, none]) rfl ?_
          refine g_goto 18 C dL_law_987 (by decide) ?_
          exact ih r1 r2 y677 M673 h
        · replace h := of_iff h c676
          refine g_iconst (v := 0) C dL_law_982 rfl ?_
          cases h
          exact hR 983 _ ⟨.boolean, rfl, rfl⟩ dL_law_983
      replace h := of_iff h c667
      refine g_tsD 28 984 C dL_law_33 (by decide) rfl rfl (p_lt (lt_s (lt_s (lt_s (lt_s (lt_s (lt_s (lt_s (lt_s (lt_s (lt_s (lt_s (lt_s (lt_s (lt_s (lt_s (lt_s (lt_s (lt_s (lt_s (lt_s (lt_s (lt_s (lt_s (lt_s (lt_s (lt_s (lt_s (lt_s lt_0 c205) c221) c237) c298) c312) c324) c338) c354) c370) c382) c396) c408) c421) c433) c445) c459) c474) c491) c505) c520) c538) c554) c567) c581) c630) c643) c655) c667)) (by decide) ?_
      obtain ⟨y679, e680, h⟩ := of_bvv h
      refine g_iinc (v := y679) C dL_law_984 rfl e680.symm (by decide) (rv_cat _ _) (L2 := [some (rv w 159), some (rv w r1), some (rv w r2), some (.int y679), none, none, none, none]) rfl ?_
      refine g_goto 18 C dL_law_987 (by decide) ?_
      exact ih r1 r2 y679 M h
