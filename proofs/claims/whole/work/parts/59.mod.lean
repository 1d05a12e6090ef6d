/-! PURE: the reference: sums over editions and rulings -/
section MT
variable {M : Mem} {A : Nat → Nat}
theorem m_stayL (hR : RowR M 151 0 A) (hO : Ok A) : ∀ (n j : Nat), j ≤ A 3 → A 3 - j < n → f_X6_stayed_4 M n 150 (nI (sumN (fun k => styN A (73 + 16 * k)) j)) (nI j) = some (nI (sumN (fun k => styN A (73 + 16 * k)) (A 3))) := by
  have hn3 := hO.n
  intro n
  induction n with
  | zero => intro _ _ h; omega
  | succ n ih =>
    intro j hj hn
    rw [f_X6_stayed_4, gdd_t mk.1, mk.2.1, gdd_t mr.1, ml.1, gdd_t (by decide), show (3 : Int32).toNatClampNeg = 3 from rfl, hR.get (by decide)]
    by_cases h : j = A 3
    · subst h
      rw [if_pos (nI_le' (by omega) (by omega) (by omega))]
    · have h2 := ih (j + 1) (by omega) (by omega)
      have hs := styN_lt (A := A) (73 + 16 * j)
      rw [sumN] at h2
      rw [if_neg (nI_nle' (by omega) (by omega) (by omega)), m_stayed1 hR (by omega), obb_s]
      simp only [bvv_e]
      rw [nI_1, nI_1]
      by_cases z : styN A (73 + 16 * j) = 0
      · rw [z] at h2
        rw [if_pos (by rw [z]; rfl), Int32.add_zero]; exact h2
      · rw [show styN A (73 + 16 * j) = 1 by omega] at h2
        rw [if_neg (fun e => z ((nI_z (by omega)).mp e))]; exact h2
theorem m_acL (hR : RowR M 151 0 A) (hO : Ok A) : ∀ (n j : Nat), j ≤ A 3 → A 3 - j < n → f_X6_allCost_4 M n 150 (nI (sumN (ceN A) j)) (nI j) = some (nI (sumN (ceN A) (A 3))) := by
  have hn3 := hO.n
  intro n
  induction n with
  | zero => intro _ _ h; omega
  | succ n ih =>
    intro j hj hn
    rw [f_X6_allCost_4, gdd_t mk.1, mk.2.1, gdd_t mr.1, ml.1, gdd_t (by decide), show (3 : Int32).toNatClampNeg = 3 from rfl, hR.get (by decide)]
    by_cases h : j = A 3
    · subst h
      rw [if_pos (nI_le' (by omega) (by omega) (by omega))]
    · have h2 := ih (j + 1) (by omega) (by omega)
      rw [sumN] at h2
      rw [if_neg (nI_nle' (by omega) (by omega) (by omega)), m_costOf hR hO (by omega), obb_s, nI_add, bvv_e, bvv_e, nI_1]
      exact h2
theorem m_coL (hR : RowR M 151 0 A) (hO : Ok A) : ∀ (n j : Nat), j ≤ A 4 → A 4 - j < n → f_X6_countingOnes_4 M n 150 (nI (sumN (ctsN A) j)) (nI j) = some (nI (sumN (ctsN A) (A 4))) := by
  have hm := hO.m
  intro n
  induction n with
  | zero => intro _ _ h; omega
  | succ n ih =>
    intro j hj hn
    rw [f_X6_countingOnes_4, gdd_t mk.1, mk.2.1, gdd_t mr.1, ml.1, gdd_t (by decide), show (4 : Int32).toNatClampNeg = 4 from rfl, hR.get (by decide)]
    by_cases h : j = A 4
    · subst h
      rw [if_pos (nI_le' (by omega) (by omega) (by omega))]
    · have h2 := ih (j + 1) (by omega) (by omega)
      have hs := ctsN_lt (A := A) j
      rw [sumN] at h2
      rw [if_neg (nI_nle' (by omega) (by omega) (by omega)), m_doesCount hR hO (by omega), obb_s]
      simp only [bvv_e]
      rw [nI_1, nI_1]
      by_cases z : ctsN A j = 0
      · rw [z] at h2
        rw [if_pos (by rw [z]; rfl), Int32.add_zero]; exact h2
      · rw [show ctsN A j = 1 by omega] at h2
        rw [if_neg (fun e => z ((nI_z (by omega)).mp e))]; exact h2
theorem m_cmL (hR : RowR M 151 0 A) (hO : Ok A) : ∀ (n j : Nat), j ≤ A 3 → A 3 - j < n → f_X6_allCommas_4 M n 150 (nI (sumN (fun k => pcN (A (73 + 16 * k + 1))) j)) (nI j) = some (nI (cmC A)) := by
  have hn3 := hO.n
  intro n
  induction n with
  | zero => intro _ _ h; omega
  | succ n ih =>
    intro j hj hn
    rw [f_X6_allCommas_4, gdd_t mk.1, mk.2.1, gdd_t mr.1, ml.1, gdd_t (by decide), show (3 : Int32).toNatClampNeg = 3 from rfl, hR.get (by decide)]
    by_cases h : j = A 3
    · subst h
      rw [if_pos (nI_le' (by omega) (by omega) (by omega))]; rfl
    · have h2 := ih (j + 1) (by omega) (by omega)
      have hc := (hO.e j (by omega)).c
      rw [sumN] at h2
      rw [if_neg (nI_nle' (by omega) (by omega) (by omega)), show f_X6_of 150 (nI j) 1 M = some (nI (A (73 + 16 * j + 1))) from m_of hR (by omega) (by decide), obb_s, m_ones (by omega), obb_s, nI_add, bvv_e, bvv_e, nI_1]
      exact h2
theorem m_allCommas (hR : RowR M 151 0 A) (hO : Ok A) : f_X6_allCommas 150 M = some (nI (cmC A)) := by
  have hn3 := hO.n
  exact m_cmL hR hO FU 0 (by omega) (by unfold FU; omega)
end MT
