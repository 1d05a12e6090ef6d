set_option maxRecDepth 100000 in
set_option maxHeartbeats 4000000 in
theorem law_go {L : Nat} {xs : Nat → Int32} (hL : L ≤ 3072) : ∀ (n i : Nat) (M : Mem) (w : Wd), OkW w → CI M w → MI M w → 6 * i ≤ L + 6 → L + 6 - 6 * i < n → ∃ M2, f_L_law_18 L xs n 1 150 (nI (6 * i)) M = some (1, M2) := by
  intro n
  induction n with
  | zero => intro _ _ _ _ _ _ _ h; omega
  | succ n ih =>
    intro i M w hO hC hM hi hn
    rw [f_L_law_18]
    by_cases hd : 6 * i + 6 ≤ L
    · have i0 : inb (nI (6 * i)) L = true := inb_nI (by omega) (by omega)
      have i1 : inb (nI (6 * i) + (1 : Int32)) L = true := by rw [nI_1]; exact inb_nI (by omega) (by omega)
      have i2 : inb (nI (6 * i) + (2 : Int32)) L = true := by rw [show (2 : Int32) = nI 2 from rfl, nI_add]; exact inb_nI (by omega) (by omega)
      have i3 : inb (nI (6 * i) + (3 : Int32)) L = true := by rw [show (3 : Int32) = nI 3 from rfl, nI_add]; exact inb_nI (by omega) (by omega)
      have i4 : inb (nI (6 * i) + (4 : Int32)) L = true := by rw [show (4 : Int32) = nI 4 from rfl, nI_add]; exact inb_nI (by omega) (by omega)
      have i5 : inb (nI (6 * i) + (5 : Int32)) L = true := by rw [show (5 : Int32) = nI 5 from rfl, nI_add]; exact inb_nI (by omega) (by omega)
      have e0 : (nI (6 * i)).toNatClampNeg = 6 * i := nI_clamp (by omega)
      have e1 : (nI (6 * i) + (1 : Int32)).toNatClampNeg = 6 * i + 1 := by rw [nI_1]; exact nI_clamp (by omega)
      have e2 : (nI (6 * i) + (2 : Int32)).toNatClampNeg = 6 * i + 2 := by rw [show (2 : Int32) = nI 2 from rfl, nI_add]; exact nI_clamp (by omega)
      have e3 : (nI (6 * i) + (3 : Int32)).toNatClampNeg = 6 * i + 3 := by rw [show (3 : Int32) = nI 3 from rfl, nI_add]; exact nI_clamp (by omega)
      have e4 : (nI (6 * i) + (4 : Int32)).toNatClampNeg = 6 * i + 4 := by rw [show (4 : Int32) = nI 4 from rfl, nI_add]; exact nI_clamp (by omega)
      have e5 : (nI (6 * i) + (5 : Int32)).toNatClampNeg = 6 * i + 5 := by rw [show (5 : Int32) = nI 5 from rfl, nI_add]; exact nI_clamp (by omega)
      have e6 : nI (6 * i) + (6 : Int32) = nI (6 * (i + 1)) := by rw [show (6 : Int32) = nI 6 from rfl, nI_add, show 6 * i + 6 = 6 * (i + 1) by omega]
      have go : ∀ (M2 : Mem) (w2 : Wd), OkW w2 → CI M2 w2 → MI M2 w2 → ∃ M3, f_L_law_18 L xs n 1 150 (nI (6 * (i + 1))) M2 = some (1, M3) := fun M2 w2 h1 h2 h3 => ih (i + 1) M2 w2 h1 h2 h3 (by omega) (by omega)
      rw [if_neg (show ¬ nI L - 6 < nI (6 * i) from by rw [show (6 : Int32) = nI 6 from rfl, pk_sub (by omega)]; exact fun z => by have := (nI_ltI (by omega) (by omega)).mp z; omega), gdd_t i0, bvv_e, e0]
      generalize xs (6 * i) &&& (31 : Int32) = y
      by_cases h0 : y = nI 0
      · rw [if_pos h0]
        simp only [e1, e2, e3, e4, e5, gdd_t i1, gdd_t i2, gdd_t i3, gdd_t i4, gdd_t i5, gdd_t lay1.1, gdd_t mk.1]
        obtain ⟨M1, r1, r2, r3⟩ := c_weight hO hC (xs (6 * i + 1)) (xs (6 * i + 2))
        obtain ⟨M2, s1, s2, s3⟩ := m_weight hO (hM.si r3) (xs (6 * i + 1)) (xs (6 * i + 2))
        rw [r1, opp_s, s1, opp_s, if_pos rfl, bvv_e, e6]
        exact go M2 _ (okw_weight hO (xs (6 * i + 1)) (xs (6 * i + 2))) (CI.mx (okw_weight hO (xs (6 * i + 1)) (xs (6 * i + 2))) r2 s3) s2
      rw [if_neg h0]
      by_cases h1 : y = nI 1
      · rw [if_pos h1]
        simp only [e1, e2, e3, e4, e5, gdd_t i1, gdd_t i2, gdd_t i3, gdd_t i4, gdd_t i5, gdd_t lay1.1, gdd_t mk.1]
        obtain ⟨M1, r1, r2, r3⟩ := c_set hO hC (xs (6 * i + 1)) (xs (6 * i + 2))
        obtain ⟨M2, s1, s2, s3⟩ := m_set hO (hM.si r3) (xs (6 * i + 1)) (xs (6 * i + 2))
        rw [r1, opp_s, s1, opp_s, if_pos rfl, bvv_e, e6]
        exact go M2 _ (okw_set hO (xs (6 * i + 1)) (xs (6 * i + 2))) (CI.mx (okw_set hO (xs (6 * i + 1)) (xs (6 * i + 2))) r2 s3) s2
      rw [if_neg h1]
      by_cases h2 : y = nI 2
      · rw [if_pos h2]
        simp only [e1, e2, e3, e4, e5, gdd_t i1, gdd_t i2, gdd_t i3, gdd_t i4, gdd_t i5, gdd_t lay1.1, gdd_t mk.1]
        have fin : ∀ (c : Nat) (v : Int32), c ≤ 1 → v = nI c → ∃ M3, (opp (f_X5_rule 1 (xs (6 * i + 1)) (xs (6 * i + 2)) v (xs (6 * i + 4)) (xs (6 * i + 5)) M) fun y1 M1 => opp (f_X6_rule 150 (xs (6 * i + 1)) (xs (6 * i + 2)) v (xs (6 * i + 4)) (xs (6 * i + 5)) M1) fun y2 M2 => if y1 = y2 then (bvv (nI (6 * i) + (6 : Int32)) fun y3 => (f_L_law_18 L xs n) 1 150 y3 M2) else (some ((0 : Int32), M2))) = some (1, M3) := by
          intro c v hc hv
          subst hv
          obtain ⟨M1, r1, r2, r3⟩ := c_rule hO hC (xs (6 * i + 1)) (xs (6 * i + 2)) hc (xs (6 * i + 4)) (xs (6 * i + 5))
          obtain ⟨M2, s1, s2, s3⟩ := m_rule hO (hM.si r3) (xs (6 * i + 1)) (xs (6 * i + 2)) hc (xs (6 * i + 4)) (xs (6 * i + 5))
          rw [r1, opp_s, s1, opp_s, if_pos rfl, bvv_e, e6]
          exact go M2 _ (okw_rule hO (xs (6 * i + 1)) (xs (6 * i + 2)) hc (xs (6 * i + 4)) (xs (6 * i + 5))) (CI.mx (okw_rule hO (xs (6 * i + 1)) (xs (6 * i + 2)) hc (xs (6 * i + 4)) (xs (6 * i + 5))) r2 s3) s2
        by_cases hb : xs (6 * i + 3) = 0
        · simp only [if_pos hb]
          exact fin 0 0 (by decide) rfl
        · simp only [if_neg hb]
          exact fin 1 1 (by decide) rfl
      rw [if_neg h2]
      by_cases h3 : y = nI 3
      · rw [if_pos h3]
        simp only [e1, e2, e3, e4, e5, gdd_t i1, gdd_t i2, gdd_t i3, gdd_t i4, gdd_t i5, gdd_t lay1.1, gdd_t mk.1]
        obtain ⟨M1, r1, r2, r3⟩ := c_overrule hO hC (xs (6 * i + 1))
        obtain ⟨M2, s1, s2, s3⟩ := m_overrule hO (hM.si r3) (xs (6 * i + 1))
        rw [r1, opp_s, s1, opp_s, if_pos rfl, bvv_e, e6]
        exact go M2 _ (okw_over hO (xs (6 * i + 1))) (CI.mx (okw_over hO (xs (6 * i + 1))) r2 s3) s2
      rw [if_neg h3]
      by_cases h4 : y = nI 4
      · rw [if_pos h4]
        simp only [e1, e2, e3, e4, e5, gdd_t i1, gdd_t i2, gdd_t i3, gdd_t i4, gdd_t i5, gdd_t lay1.1, gdd_t mk.1]
        obtain ⟨M1, r1, r2, r3⟩ := c_print hO hC
        obtain ⟨M2, s1, s2, s3⟩ := m_print hO (hM.si r3)
        rw [r1, opp_s, s1, opp_s, if_pos rfl, bvv_e, e6]
        exact go M2 _ (okw_print hO) (CI.mx (okw_print hO) r2 s3) s2
      rw [if_neg h4]
      by_cases h5 : y = nI 5
      · rw [if_pos h5]
        simp only [e1, e2, e3, e4, e5, gdd_t i1, gdd_t i2, gdd_t i3, gdd_t i4, gdd_t i5, gdd_t lay1.1, gdd_t mk.1]
        obtain ⟨M1, r1, r2, r3⟩ := c_drop hO hC (xs (6 * i + 1))
        obtain ⟨M2, s1, s2, s3⟩ := m_drop hO (hM.si r3) (xs (6 * i + 1))
        rw [r1, opp_s, s1, opp_s, if_pos rfl, bvv_e, e6]
        exact go M2 _ (okw_drop hO (xs (6 * i + 1))) (CI.mx (okw_drop hO (xs (6 * i + 1))) r2 s3) s2
      rw [if_neg h5]
      by_cases h6 : y = nI 6
      · rw [if_pos h6]
        simp only [e1, e2, e3, e4, e5, gdd_t i1, gdd_t i2, gdd_t i3, gdd_t i4, gdd_t i5, gdd_t lay1.1, gdd_t mk.1]
        obtain ⟨M1, r1, r2, r3⟩ := c_sue hO hC (xs (6 * i + 1)) (xs (6 * i + 2))
        obtain ⟨M2, s1, s2, s3⟩ := m_sue hO (hM.si r3) (xs (6 * i + 1)) (xs (6 * i + 2))
        rw [r1, opp_s, s1, opp_s, if_pos rfl, bvv_e, e6]
        exact go M2 _ (okw_sue hO (xs (6 * i + 1)) (xs (6 * i + 2))) (CI.mx (okw_sue hO (xs (6 * i + 1)) (xs (6 * i + 2))) r2 s3) s2
      rw [if_neg h6]
      by_cases h7 : y = nI 7
      · rw [if_pos h7]
        simp only [e1, e2, e3, e4, e5, gdd_t i1, gdd_t i2, gdd_t i3, gdd_t i4, gdd_t i5, gdd_t lay1.1, gdd_t mk.1]
        obtain ⟨M1, r1, r2, r3⟩ := c_stay hO hC (xs (6 * i + 1)) (xs (6 * i + 2))
        obtain ⟨M2, s1, s2, s3⟩ := m_stay hO (hM.si r3) (xs (6 * i + 1)) (xs (6 * i + 2))
        rw [r1, opp_s, s1, opp_s, if_pos rfl, bvv_e, e6]
        exact go M2 _ (okw_stay hO (xs (6 * i + 1)) (xs (6 * i + 2))) (CI.mx (okw_stay hO (xs (6 * i + 1)) (xs (6 * i + 2))) r2 s3) s2
      rw [if_neg h7]
      by_cases h8 : y = nI 8
      · rw [if_pos h8]
        simp only [e1, e2, e3, e4, e5, gdd_t i1, gdd_t i2, gdd_t i3, gdd_t i4, gdd_t i5, gdd_t lay1.1, gdd_t mk.1]
        obtain ⟨M1, r1, r2, r3⟩ := c_day hO hC
        obtain ⟨M2, s1, s2, s3⟩ := m_day hO (hM.si r3)
        rw [r1, opp_s, s1, opp_s, if_pos rfl, bvv_e, e6]
        exact go M2 _ (okw_day hO) (CI.mx (okw_day hO) r2 s3) s2
      rw [if_neg h8]
      by_cases h9 : y = nI 9
      · rw [if_pos h9]
        simp only [e1, e2, e3, e4, e5, gdd_t i1, gdd_t i2, gdd_t i3, gdd_t i4, gdd_t i5, gdd_t lay1.1, gdd_t mk.1]
        obtain ⟨M1, r1, r2, r3⟩ := c_append hO hC (xs (6 * i + 1))
        obtain ⟨M2, s1, s2, s3⟩ := m_append hO (hM.si r3) (xs (6 * i + 1))
        rw [r1, opp_s, s1, opp_s, if_pos rfl, bvv_e, e6]
        exact go M2 _ (okw_append hO (xs (6 * i + 1))) (CI.mx (okw_append hO (xs (6 * i + 1))) r2 s3) s2
      rw [if_neg h9]
      by_cases h10 : y = nI 10
      · rw [if_pos h10]
        simp only [e1, e2, e3, e4, e5, gdd_t i1, gdd_t i2, gdd_t i3, gdd_t i4, gdd_t i5, gdd_t lay1.1, gdd_t mk.1]
        obtain ⟨M1, r1, r2, r3⟩ := c_clear hO hC
        obtain ⟨M2, s1, s2, s3⟩ := m_clear (hM.si r3)
        rw [r1, opp_s, s1, opp_s, if_pos rfl, bvv_e, e6]
        exact go M2 _ (okw_clear hO) (CI.mx (okw_clear hO) r2 s3) s2
      rw [if_neg h10]
      by_cases h11 : y = nI 11
      · rw [if_pos h11]
        simp only [e1, e2, e3, e4, e5, gdd_t i1, gdd_t i2, gdd_t i3, gdd_t i4, gdd_t i5, gdd_t lay1.1, gdd_t mk.1]
        obtain ⟨M2, s1, s2, s3⟩ := m_fault hO hM (xs (6 * i + 1))
        rw [c_fault hO hC (xs (6 * i + 1)), obb_s, s1, opp_s, if_pos rfl, bvv_e, e6]
        exact go M2 w hO (CI.mx hO hC s3) s2
      rw [if_neg h11]
      by_cases h12 : y = nI 12
      · rw [if_pos h12]
        simp only [e1, e2, e3, e4, e5, gdd_t i1, gdd_t i2, gdd_t i3, gdd_t i4, gdd_t i5, gdd_t lay1.1, gdd_t mk.1]
        obtain ⟨M1, r1, r2, r3⟩ := c_plead hO hC
        obtain ⟨M2, s1, s2, s3⟩ := m_plead hO (hM.si r3)
        rw [r1, opp_s, s1, opp_s, if_pos rfl, bvv_e, e6]
        exact go M2 _ (okw_plead hO) (CI.mx (okw_plead hO) r2 s3) s2
      rw [if_neg h12]
      by_cases h13 : y = nI 13
      · rw [if_pos h13]
        simp only [e1, e2, e3, e4, e5, gdd_t i1, gdd_t i2, gdd_t i3, gdd_t i4, gdd_t i5, gdd_t lay1.1, gdd_t mk.1]
        have s1 := m_why hO hM (xs (6 * i + 1))
        rw [c_why hO hC (xs (6 * i + 1)), obb_s, s1, obb_s, if_pos rfl, bvv_e, e6]
        exact go M w hO hC hM
      rw [if_neg h13]
      by_cases h14 : y = nI 14
      · rw [if_pos h14]
        simp only [e1, e2, e3, e4, e5, gdd_t i1, gdd_t i2, gdd_t i3, gdd_t i4, gdd_t i5, gdd_t lay1.1, gdd_t mk.1]
        have s1 := m_sign hM.1 hO.1 (xs (6 * i + 1)) (xs (6 * i + 2))
        rw [c_sign hO hC (xs (6 * i + 1)) (xs (6 * i + 2)), obb_s, s1, obb_s, if_pos rfl, bvv_e, e6]
        exact go M w hO hC hM
      rw [if_neg h14]
      by_cases h15 : y = nI 15
      · rw [if_pos h15]
        simp only [e1, e2, e3, e4, e5, gdd_t i1, gdd_t i2, gdd_t i3, gdd_t i4, gdd_t i5, gdd_t lay1.1, gdd_t mk.1]
        obtain ⟨M1, r1, r2, r3⟩ := c_edition hO hC (xs (6 * i + 1)) (xs (6 * i + 2))
        have s1 := m_edition (hM.si r3).1 hO.1 (xs (6 * i + 1)) (xs (6 * i + 2))
        rw [r1, opp_s, s1, obb_s, if_pos rfl, bvv_e, e6]
        exact go M1 w hO r2 (hM.si r3)
      rw [if_neg h15]
      by_cases h16 : y = nI 16
      · rw [if_pos h16]
        simp only [e1, e2, e3, e4, e5, gdd_t i1, gdd_t i2, gdd_t i3, gdd_t i4, gdd_t i5, gdd_t lay1.1, gdd_t mk.1]
        obtain ⟨M1, r1, r2, r3⟩ := c_gap hO hC (xs (6 * i + 1)) (xs (6 * i + 2)) (xs (6 * i + 3))
        have s1 := m_gap (hM.si r3).1 hO.1 (xs (6 * i + 1)) (xs (6 * i + 2)) (xs (6 * i + 3))
        rw [r1, opp_s, s1, obb_s, if_pos rfl, bvv_e, e6]
        exact go M1 w hO r2 (hM.si r3)
      rw [if_neg h16]
      by_cases h17 : y = nI 17
      · rw [if_pos h17]
        simp only [e1, e2, e3, e4, e5, gdd_t i1, gdd_t i2, gdd_t i3, gdd_t i4, gdd_t i5, gdd_t lay1.1, gdd_t mk.1]
        have s1 := m_ruling hM.1 hO.1 (xs (6 * i + 1)) (xs (6 * i + 2))
        rw [c_ruling hO hC (xs (6 * i + 1)) (xs (6 * i + 2)), obb_s, s1, obb_s, if_pos rfl, bvv_e, e6]
        exact go M w hO hC hM
      rw [if_neg h17]
      by_cases h18 : y = nI 18
      · rw [if_pos h18]
        simp only [e1, e2, e3, e4, e5, gdd_t i1, gdd_t i2, gdd_t i3, gdd_t i4, gdd_t i5, gdd_t lay1.1, gdd_t mk.1]
        obtain ⟨M1, r1, r2, r3⟩ := c_whyNot hO hC (xs (6 * i + 1)) (xs (6 * i + 2))
        have s1 := m_whyNot (hM.si r3).1 hO.1 (xs (6 * i + 1)) (xs (6 * i + 2))
        rw [r1, opp_s, s1, obb_s, if_pos rfl, bvv_e, e6]
        exact go M1 w hO r2 (hM.si r3)
      rw [if_neg h18]
      by_cases h19 : y = nI 19
      · rw [if_pos h19]
        simp only [e1, e2, e3, e4, e5, gdd_t i1, gdd_t i2, gdd_t i3, gdd_t i4, gdd_t i5, gdd_t lay1.1, gdd_t mk.1]
        obtain ⟨M1, r1, r2, r3⟩ := c_best hO hC (xs (6 * i + 1)) (xs (6 * i + 2)) (xs (6 * i + 3))
        obtain ⟨M2, s1, s2, s3⟩ := m_best hO (hM.si r3) (xs (6 * i + 1)) (xs (6 * i + 2)) (xs (6 * i + 3))
        rw [r1, opp_s, s1, opp_s, if_pos rfl, bvv_e, e6]
        exact go M2 w hO (CI.mx hO r2 s3) s2
      rw [if_neg h19]
      by_cases h20 : y = nI 20
      · rw [if_pos h20]
        simp only [e1, e2, e3, e4, e5, gdd_t i1, gdd_t i2, gdd_t i3, gdd_t i4, gdd_t i5, gdd_t lay1.1, gdd_t mk.1]
        obtain ⟨M1, r1, r2, r3⟩ := c_ways hO hC (xs (6 * i + 1)) (xs (6 * i + 2))
        obtain ⟨M2, s1, s2, s3⟩ := m_ways hO (hM.si r3) (xs (6 * i + 1)) (xs (6 * i + 2))
        rw [r1, opp_s, s1, opp_s, if_pos rfl, bvv_e, e6]
        exact go M2 w hO (CI.mx hO r2 s3) s2
      rw [if_neg h20]
      by_cases h21 : y = nI 21
      · rw [if_pos h21]
        simp only [e1, e2, e3, e4, e5, gdd_t i1, gdd_t i2, gdd_t i3, gdd_t i4, gdd_t i5, gdd_t lay1.1, gdd_t mk.1]
        obtain ⟨M1, r1, r2, r3⟩ := c_count hO hC (xs (6 * i + 1))
        have s1 := m_count hO (hM.si r3) (xs (6 * i + 1))
        rw [r1, opp_s, s1, obb_s, if_pos rfl, bvv_e, e6]
        exact go M1 w hO r2 (hM.si r3)
      rw [if_neg h21]
      by_cases h22 : y = nI 22
      · rw [if_pos h22]
        simp only [e1, e2, e3, e4, e5, gdd_t i1, gdd_t i2, gdd_t i3, gdd_t i4, gdd_t i5, gdd_t lay1.1, gdd_t mk.1]
        rw [c_length hO hC, obb_s, m_length hM.1 hO.1, obb_s]
        simp only [bvv_e, e6]
        by_cases hz : Op.cmpValue (FP.dcmp (lkLen w.A) (lkLen w.A)) .l = 0
        · rw [if_pos hz]
          exact go M w hO hC hM
        · rw [if_neg hz, if_neg hz, if_neg hz]
          exact go M w hO hC hM
      rw [if_neg h22]
      by_cases h23 : y = nI 23
      · rw [if_pos h23]
        simp only [e1, e2, e3, e4, e5, gdd_t i1, gdd_t i2, gdd_t i3, gdd_t i4, gdd_t i5, gdd_t lay1.1, gdd_t mk.1]
        have fin : ∀ (c : Nat) (v : Int32), c ≤ 1 → v = nI c → ∃ M3, (obb (f_X5_ifRuled 1 (xs (6 * i + 1)) (xs (6 * i + 2)) v (xs (6 * i + 4)) M) fun y1 => obb (f_X6_ifRuled 150 (xs (6 * i + 1)) (xs (6 * i + 2)) v (xs (6 * i + 4)) M) fun y2 => if y1 = y2 then (bvv (nI (6 * i) + (6 : Int32)) fun y3 => (f_L_law_18 L xs n) 1 150 y3 M) else (some ((0 : Int32), M))) = some (1, M3) := by
          intro c v hc hv
          subst hv
          rw [c_ifRuled hO hC (xs (6 * i + 1)) (xs (6 * i + 2)) hc (xs (6 * i + 4)), obb_s, m_ifRuled hM.1 hO.1 (xs (6 * i + 1)) (xs (6 * i + 2)) hc (xs (6 * i + 4)), obb_s, if_pos rfl, bvv_e, e6]
          exact go M w hO hC hM
        by_cases hb : xs (6 * i + 3) = 0
        · simp only [if_pos hb]
          exact fin 0 0 (by decide) rfl
        · simp only [if_neg hb]
          exact fin 1 1 (by decide) rfl
      rw [if_neg h23]
      by_cases h24 : y = nI 24
      · rw [if_pos h24]
        simp only [e1, e2, e3, e4, e5, gdd_t i1, gdd_t i2, gdd_t i3, gdd_t i4, gdd_t i5, gdd_t lay1.1, gdd_t mk.1]
        obtain ⟨M1, r1, r2, r3⟩ := c_bestSuit hO hC (xs (6 * i + 1))
        have s1 := m_bestSuit (hM.si r3).1 hO.1 (xs (6 * i + 1))
        rw [r1, opp_s, s1, obb_s, if_pos rfl, bvv_e, e6]
        exact go M1 w hO r2 (hM.si r3)
      rw [if_neg h24]
      by_cases h25 : y = nI 25
      · rw [if_pos h25]
        simp only [e1, e2, e3, e4, e5, gdd_t i1, gdd_t i2, gdd_t i3, gdd_t i4, gdd_t i5, gdd_t lay1.1, gdd_t mk.1]
        obtain ⟨M1, r1, r2, r3⟩ := c_undo hO hC
        obtain ⟨M2, s1, s2, s3⟩ := m_undo hO (hM.si r3)
        rw [r1, opp_s, s1, opp_s, if_pos rfl, bvv_e, e6]
        exact go M2 _ (okw_undo hO) (CI.mx (okw_undo hO) r2 s3) s2
      rw [if_neg h25]
      by_cases h26 : y = nI 26
      · rw [if_pos h26]
        simp only [e1, e2, e3, e4, e5, gdd_t i1, gdd_t i2, gdd_t i3, gdd_t i4, gdd_t i5, gdd_t lay1.1, gdd_t mk.1]
        obtain ⟨M1, r1, r2, r3⟩ := c_save hO hC
        obtain ⟨M2, s1, s2, s3⟩ := m_save (hM.si r3)
        rw [r1, opp_s, s1, opp_s, if_pos rfl, bvv_e, e6]
        exact go M2 _ (okw_save hO) (CI.mx (okw_save hO) r2 s3) s2
      rw [if_neg h26]
      by_cases h27 : y = nI 27
      · rw [if_pos h27]
        simp only [e1, e2, e3, e4, e5, gdd_t i1, gdd_t i2, gdd_t i3, gdd_t i4, gdd_t i5, gdd_t lay1.1, gdd_t mk.1]
        obtain ⟨M1, r1, r2, r3⟩ := c_restore hO hC
        obtain ⟨M2, s1, s2, s3⟩ := m_restore hO (hM.si r3)
        rw [r1, opp_s, s1, opp_s, if_pos rfl, bvv_e, e6]
        exact go M2 _ (okw_restore hO) (CI.mx (okw_restore hO) r2 s3) s2
      rw [if_neg h27]
      rw [bvv_e, e6]
      exact go M w hO hC hM
    · have all : ∀ l, l < 6 → nI l - 6 < 0 := by decide
      refine ⟨M, if_pos ?_⟩
      by_cases h6 : L < 6
      · exact Int32.lt_of_lt_of_le (all L h6) (nI_pos' (by omega))
      · rw [show (6 : Int32) = nI 6 from rfl, pk_sub (by omega)]
        exact (nI_ltI (by omega) (by omega)).mpr (by omega)
