/-! PURE: the reference: looks at rulings -/
section MR
variable {M : Mem} {A : Nat → Nat}
theorem m_doesCount (hR : RowR M 151 0 A) (hO : Ok A) {r : Nat} (hr : r < A 4) : f_X6_doesCount 150 (nI r) M = some (nI (ctsN A r)) := by
  have hm := hO.m
  have hk := hO.r r hr
  unfold f_X6_doesCount ctsN
  rw [gdd_t mk.1, show f_X6_ofRuling 150 (nI r) 0 M = some (nI (A (13 + 6 * r))) from m_ofR hR (by omega) (by decide), obb_s, show (1 : Int32) = nI 1 from rfl, m_ofR hR (by omega) (by decide), obb_s, show 13 + 6 * r + 1 = 14 + 6 * r by omega, m_counting hR hO (by have := hk.1; omega) (by have := hk.2.1; omega), obb_s]
  by_cases h : cnt A (A (13 + 6 * r)) (A (14 + 6 * r)) = some r
  · rw [if_pos ((enc_eq (fun k h => by have := cnt_lt h; omega) (by omega)).mpr h), if_pos h]
  · rw [if_neg (fun z => h ((enc_eq (fun k h => by have := cnt_lt h; omega) (by omega)).mp z)), if_neg h]; rfl
theorem m_citL (hR : RowR M 151 0 A) (hO : Ok A) {r : Nat} (hr : r < A 4) : ∀ (n j : Nat), j ≤ A 4 → A 4 - j < n → f_X6_citing_4 M n 150 (nI r) (nI (sumN (citN A r) j)) (nI j) = some (nI (sumN (citN A r) (A 4))) := by
  have hm := hO.m
  intro n
  induction n with
  | zero => intro _ _ h; omega
  | succ n ih =>
    intro j hj hn
    rw [f_X6_citing_4, gdd_t mk.1, mk.2.1, gdd_t mr.1, ml.1, gdd_t (by decide), show (4 : Int32).toNatClampNeg = 4 from rfl, hR.get (by decide)]
    by_cases h : j = A 4
    · subst h
      rw [if_pos (nI_le' (by omega) (by omega) (by omega))]
    · have hlt : j < A 4 := by omega
      have hq := hO.q j hlt
      have h2 := ih (j + 1) (by omega) (by omega)
      rw [sumN] at h2
      rw [if_neg (nI_nle' (by omega) (by omega) hlt), show f_X6_ofRuling 150 (nI j) 4 M = some (nI (A (17 + 6 * j))) from (m_ofR (j := 4) hR (by omega) (by decide)).trans (by rw [show 13 + 6 * j + 4 = 17 + 6 * j by omega]), obb_s, nI_1]
      simp only [bvv_e]
      rw [nI_1, nI_1]
      by_cases hF : A (17 + 6 * j) = r + 1
      · rw [show citN A r j = 1 by unfold citN; rw [if_pos hF]] at h2
        rw [if_pos (by rw [hF])]
        exact h2
      · rw [show citN A r j = 0 by unfold citN; rw [if_neg hF]] at h2
        rw [if_neg (nI_ne (by omega) (by omega) hF), Int32.add_zero]
        exact h2
theorem m_brgG (hR : RowR M 151 0 A) (hO : Ok A) {r e : Nat} (hr : r < A 4) (he : e < A 3) (k4 : Nat → Int32 → Int32 → Int32 → Option Int32) (s : Nat) : ∀ (n j : Nat), j ≤ A (73 + 16 * e) - 1 → A (73 + 16 * e) - 1 - j < n → f_X6_finesBy_17 M k4 n 150 (nI r) (nI (s + sumN (brgG A r (73 + 16 * e)) j)) (nI e) (nI j) = k4 150 (nI r) (nI (s + brgN A r e)) (nI (e + 1)) := by
  have hm := hO.m
  have hn3 := hO.n
  have hK := hO.e e he
  have hc := hK.c
  have h1 := hK.1
  have h12 := hK.2.1
  intro n
  induction n with
  | zero => intro _ _ h; omega
  | succ n ih =>
    intro j hj hn
    rw [f_X6_finesBy_17, gdd_t mk.1, show f_X6_of 150 (nI e) 0 M = some (nI (A (73 + 16 * e))) from m_of hR (by omega) (by decide), obb_s, nI_1]
    by_cases h : j = A (73 + 16 * e) - 1
    · subst h
      rw [if_pos (nI_le' (by omega) (by omega) (by omega)), bvv_e, nI_1]; rfl
    · have h2 := ih (j + 1) (by omega) (by omega)
      rw [sumN, ← Nat.add_assoc] at h2
      rw [if_neg (nI_nle' (by omega) (by omega) (by omega)), m_rulingOf hR hO he (by omega), obb_s, show f_X6_of 150 (nI e) 1 M = some (nI (A (73 + 16 * e + 1))) from m_of hR (by omega) (by decide), obb_s, m_fineOf hR hO he (by omega) (by omega), obb_s, nI_add]
      simp only [bvv_e]
      by_cases hF : cnt A (A (73 + 16 * e + 4 + j)) (A (73 + 16 * e + 5 + j)) = some r
      · rw [show brgG A r (73 + 16 * e) j = fineN A (73 + 16 * e) j (bitN (A (73 + 16 * e + 1)) j) by unfold brgG; rw [if_pos hF]] at h2
        rw [if_pos ((enc_eq (fun k h => by have := cnt_lt h; omega) (by omega)).mpr hF)]
        exact h2
      · rw [show brgG A r (73 + 16 * e) j = 0 by unfold brgG; rw [if_neg hF]] at h2
        rw [if_neg (fun z => hF ((enc_eq (fun k h => by have := cnt_lt h; omega) (by omega)).mp z)), Int32.add_zero]
        exact h2
theorem m_brgL (hR : RowR M 151 0 A) (hO : Ok A) {r : Nat} (hr : r < A 4) : ∀ (n j : Nat), j ≤ A 3 → A 3 - j < n → f_X6_finesBy_4 M n 150 (nI r) (nI (sumN (brgN A r) j)) (nI j) = some (nI (sumN (brgN A r) (A 3))) := by
  have hn3 := hO.n
  intro n
  induction n with
  | zero => intro _ _ h; omega
  | succ n ih =>
    intro j hj hn
    rw [f_X6_finesBy_4, gdd_t mk.1, mk.2.1, gdd_t mr.1, ml.1, gdd_t (by decide), show (3 : Int32).toNatClampNeg = 3 from rfl, hR.get (by decide)]
    by_cases h : j = A 3
    · subst h
      rw [if_pos (nI_le' (by omega) (by omega) (by omega))]
    · have hlt : j < A 3 := by omega
      have h12 := (hO.e j hlt).2.1
      have h2 := ih (j + 1) (by omega) (by omega)
      have h3 := m_brgG hR hO hr hlt (f_X6_finesBy_4 M n) (sumN (brgN A r) j) FU 0 (by omega) (by unfold FU; omega)
      rw [show sumN (brgG A r (73 + 16 * j)) 0 = 0 from rfl, Nat.add_zero] at h3
      rw [if_neg (nI_nle' (by omega) (by omega) hlt)]
      exact h3.trans h2
theorem m_ruling (hR : RowR M 151 0 A) (hO : Ok A) (x f : Int32) : f_X6_ruling 150 x f M = some (lkRu x f A) := by
  have hm := hO.m
  have hn := hO.n
  unfold f_X6_ruling lkRu
  rw [gdd_t mk.1]
  rcases ix_cases x (n := A 4) (by omega) with ⟨r, hr, rfl⟩ | ⟨hx, hx2⟩
  · have hk := hO.r r hr
    have hq := hO.q r hr
    rw [m_isRu hR hm hr, obb_s, if_neg (by decide), ixO_s (by omega) hr]
    show _ = some (lkRuA f A r)
    unfold lkRuA
    by_cases h0 : f = nI 0
    · rw [if_pos h0, if_pos h0, h0, m_ofR hR (by omega) (by decide), obb_s, Nat.add_zero]
    rw [if_neg h0, if_neg h0]
    by_cases h1 : f = nI 1
    · rw [if_pos h1, if_pos h1, h1, m_ofR hR (by omega) (by decide), obb_s, show 13 + 6 * r + 1 = 14 + 6 * r by omega]
    rw [if_neg h1, if_neg h1]
    by_cases h2 : f = nI 2
    · rw [if_pos h2, if_pos h2, h2, m_ofR hR (by omega) (by decide), obb_s, show 13 + 6 * r + 2 = 15 + 6 * r by omega]
    rw [if_neg h2, if_neg h2]
    by_cases h3 : f = nI 3
    · rw [if_pos h3, if_pos h3, h3, m_ofR hR (by omega) (by decide), obb_s, show 13 + 6 * r + 3 = 16 + 6 * r by omega]
    rw [if_neg h3, if_neg h3]
    by_cases h4 : f = nI 4
    · rw [if_pos h4, if_pos h4, show f_X6_ofRuling 150 (nI r) 4 M = some (nI (A (17 + 6 * r))) from (m_ofR (j := 4) hR (by omega) (by decide)).trans (by rw [show 13 + 6 * r + 4 = 17 + 6 * r by omega]), obb_s, obb_s]
      by_cases hz : A (17 + 6 * r) = 0
      · rw [if_pos ((nI_z (by omega)).mpr hz), if_pos hz]
      · rw [if_neg (fun e => hz ((nI_z (by omega)).mp e)), if_neg hz, nI_sub1 (by omega)]
    rw [if_neg h4, if_neg h4]
    by_cases h5 : f = nI 5
    · rw [if_pos h5, if_pos h5, m_isForce hR hO hr, obb_s, b01 (by cases inF A r <;> decide) (fun v => some v)]
    rw [if_neg h5, if_neg h5]
    by_cases h6 : f = nI 6
    · rw [if_pos h6, if_pos h6, m_doesCount hR hO hr, obb_s, b01 (ctsN_lt r) (fun v => some v)]
    rw [if_neg h6, if_neg h6]
    by_cases h7 : f = nI 7
    · rw [if_pos h7, if_pos h7, show f_X6_citing 150 (nI r) M = _ from m_citL hR hO hr FU 0 (by omega) (by unfold FU; omega), obb_s]
    rw [if_neg h7, if_neg h7]
    by_cases h8 : f = nI 8
    · rw [if_pos h8, if_pos h8, show f_X6_finesBy 150 (nI r) M = _ from m_brgL hR hO hr FU 0 (by omega) (by unfold FU; omega), obb_s]
    rw [if_neg h8, if_neg h8]
  · rw [m_isRuO hR hm hx, obb_s, if_pos rfl, hx2]
end MR
