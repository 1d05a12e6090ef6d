/-! PURE: the reference: count -/
theorem m_count {M : Mem} {w : Wd} (hO : OkW w) (hM : MI M w) (f : Int32) : f_X6_count 150 f M = some (lkCount f w) := by
  have hn := hO.1.n
  have hm := hO.1.m
  have hR : RowR M 151 0 w.A := hM.1
  unfold f_X6_count lkCount
  rw [mk.2.1, ml.1]
  have G1 : ∀ {α : Type} {x : Option α}, gdd (kd 150 = 7) x = x := gdd_t mk.1
  have G2 : ∀ {α : Type} {x : Option α}, gdd (kd 151 = 8) x = x := gdd_t mr.1
  simp only [G1, G2]
  by_cases h0 : f = nI 0
  · rw [if_pos h0, if_pos h0, gdd_t (by decide), show (0 : Int32).toNatClampNeg = 0 from rfl, hR.get (by decide)]
  rw [if_neg h0, if_neg h0]
  by_cases h1 : f = nI 1
  · rw [if_pos h1, if_pos h1, gdd_t (by decide), show (3 : Int32).toNatClampNeg = 3 from rfl, hR.get (by decide)]
  rw [if_neg h1, if_neg h1]
  by_cases h2 : f = nI 2
  · rw [if_pos h2, if_pos h2, show f_X6_stayed 150 M = _ from m_stayL hR hO.1 FU 0 (by omega) (by unfold FU; omega), obb_s]
  rw [if_neg h2, if_neg h2]
  by_cases h3 : f = nI 3
  · rw [if_pos h3, if_pos h3, show f_X6_allCost 150 M = _ from m_acL hR hO.1 FU 0 (by omega) (by unfold FU; omega), obb_s]
  rw [if_neg h3, if_neg h3]
  by_cases h4 : f = nI 4
  · rw [if_pos h4, if_pos h4, gdd_t (by decide), show (4 : Int32).toNatClampNeg = 4 from rfl, hR.get (by decide)]
  rw [if_neg h4, if_neg h4]
  by_cases h5 : f = nI 5
  · rw [if_pos h5, if_pos h5, m_inForce hR hO.1, obb_s]
  rw [if_neg h5, if_neg h5]
  by_cases h6 : f = nI 6
  · rw [if_pos h6, if_pos h6, show f_X6_countingOnes 150 M = _ from m_coL hR hO.1 FU 0 (by omega) (by unfold FU; omega), obb_s]
  rw [if_neg h6, if_neg h6]
  by_cases h7 : f = nI 7
  · rw [if_pos h7, if_pos h7, gdd_t (by decide), show (5 : Int32).toNatClampNeg = 5 from rfl, hR.get (by decide)]
  rw [if_neg h7, if_neg h7]
  by_cases h8 : f = nI 8
  · rw [if_pos h8, if_pos h8, gdd_t (by decide), show (6 : Int32).toNatClampNeg = 6 from rfl, hR.get (by decide)]
  rw [if_neg h8, if_neg h8]
  by_cases h9 : f = nI 9
  · rw [if_pos h9, if_pos h9, m_allCommas hR hO.1, obb_s]; rfl
  rw [if_neg h9, if_neg h9]
  by_cases h10 : f = nI 10
  · rw [if_pos h10, if_pos h10, h10, gdd_t (by decide), show ((1 : Int32) + nI 10 - 10).toNatClampNeg = 1 from by decide, hR.get (by decide)]
  rw [if_neg h10, if_neg h10]
  by_cases h11 : f = nI 11
  · rw [if_pos h11, if_pos h11, h11, gdd_t (by decide), show ((1 : Int32) + nI 11 - 10).toNatClampNeg = 2 from by decide, hR.get (by decide)]
  rw [if_neg h11, if_neg h11]
  by_cases h12 : f = nI 12
  · rw [if_pos h12, if_pos h12, m_cheap hR hO.1, obb_s]
  rw [if_neg h12, if_neg h12]
  by_cases h13 : f = nI 13
  · rw [if_pos h13, if_pos h13, hM.2.2.2.1.1]
  rw [if_neg h13, if_neg h13]
  by_cases h14 : f = nI 14
  · rw [if_pos h14, if_pos h14, hM.2.1.1]
  rw [if_neg h14, if_neg h14]
