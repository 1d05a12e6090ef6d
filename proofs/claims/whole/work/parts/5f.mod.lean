/-! PURE: the reference: sign -/
section MG
variable {M : Mem} {A : Nat → Nat}
/-- behind the found sign nothing is found any more -/
theorem m_signP (hR : RowR M 151 0 A) (hO : Ok A) {e : Nat} (he : e < A 3) {x v : Int32} (y : Nat) (hxy : x = nI y) (hy : y < 2 ^ 30) : ∀ (n j t : Nat), j ≤ A (73 + 16 * e) → A (73 + 16 * e) - j < n → y < t → t < y + 100 - (A (73 + 16 * e) - j) * 3 + 3 → f_X6_sign_23 M n 150 (nI e) x v (nI t) (nI j) = some v := by
  have hn3 := hO.n
  have hK := hO.e e he
  have hc := hK.c
  have h12 := hK.2.1
  intro n
  induction n with
  | zero => intro _ _ _ h; omega
  | succ n ih =>
    intro j t hj hn ht ht2
    rw [f_X6_sign_23, gdd_t mk.1, show f_X6_of 150 (nI e) 0 M = some (nI (A (73 + 16 * e))) from m_of hR (by omega) (by decide), obb_s]
    by_cases h : j = A (73 + 16 * e)
    · rw [if_pos (nI_le' (by omega) (by omega) (by omega))]
    · rw [if_neg (nI_nle' (by omega) (by omega) (by omega)), hxy, if_neg (nI_ne (by omega) (by omega) (by omega)), nI_1, show f_X6_of 150 (nI e) 1 M = some (nI (A (73 + 16 * e + 1))) from m_of hR (by omega) (by decide)]
      simp only [obb_s, bvv_e]
      rw [p_bit (by omega) (by omega), nI_1, nI_1]
      by_cases hb : bitN (A (73 + 16 * e + 1)) j = 1
      · rw [if_pos ((nI_2 (bitN_lt _ _)).mpr hb), if_neg (nI_ne (by omega) (by omega) (by omega)), ← hxy]
        exact ih (j + 1) (t + 1 + 1) (by omega) (by omega) (by omega) (by omega)
      · rw [if_neg (fun z => hb ((nI_2 (bitN_lt _ _)).mp z)), ← hxy]
        exact ih (j + 1) (t + 1) (by omega) (by omega) (by omega) (by omega)
end MG
