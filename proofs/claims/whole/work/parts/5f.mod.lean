/-! PURE: the reference: sign -/
section MG
variable {M : Mem} {A : Nat → Nat}
/-- behind the found sign nothing is found any more -/
theorem m_signP (hR : RowR M 151 0 A) (hO : Ok A) {e : Nat} (he : e < A 3) {x v : Int32} (y : Nat) (hxy : x = nI y) (hy : y < 2 ^ 30) : ∀ (n j t : Nat), j ≤ A (73 + 16 * e) → A (73 + 16 * e) - j < n → y < t → t < y + 100 - (A (73 + 16 * e) - j) * 3 + 3 → f_X6_sign_23 M n 150 (nI e) x v (nI t) (nI j) = some v := by
  have hn3 := hO.n
  have hK := hO.e e he
  have hc := hK.c
  have h12 := hK.2.1
  intro n
  induction n with
  | zero => intro _ _ _ h; omega
  | succ n ih =>
    intro j t hj hn ht ht2
    rw [f_X6_sign_23, gdd_t mk.1, show f_X6_of 150 (nI e) 0 M = some (nI (A (73 + 16 * e))) from m_of hR (by omega) (by decide), obb_s]
    by_cases h : j = A (73 + 16 * e)
    · rw [if_pos (nI_le' (by omega) (by omega) (by omega))]
    · rw [if_neg (nI_nle' (by omega) (by omega) (by omega)), hxy, if_neg (nI_ne (by omega) (by omega) (by omega)), nI_1, show f_X6_of 150 (nI e) 1 M = some (nI (A (73 + 16 * e + 1))) from m_of hR (by omega) (by decide)]
      simp only [obb_s, bvv_e]
      rw [p_bit (by omega) (by omega), nI_1, nI_1]
      by_cases hb : bitN (A (73 + 16 * e + 1)) j = 1
      · rw [if_pos ((nI_2 (bitN_lt _ _)).mpr hb), if_neg (nI_ne (by omega) (by omega) (by omega)), ← hxy]
        exact ih (j + 1) (t + 1 + 1) (by omega) (by omega) (by omega) (by omega)
      · rw [if_neg (fun z => hb ((nI_2 (bitN_lt _ _)).mp z)), ← hxy]
        exact ih (j + 1) (t + 1) (by omega) (by omega) (by omega) (by omega)
theorem txA_le (A : Nat → Nat) (o : Nat) : ∀ j, txA A o j ≤ 2 * j := by
  intro j
  have h := sumN_leb (f := bitN (A (o + 1))) (b := 1) j (fun i _ => by have := bitN_lt (A (o + 1)) i; omega)
  unfold txA
  omega
theorem m_signL (hR : RowR M 151 0 A) (hO : Ok A) {e : Nat} (he : e < A 3) {x : Int32} : ∀ (n j : Nat), j ≤ A (73 + 16 * e) → A (73 + 16 * e) - j < n → f_X6_sign_23 M n 150 (nI e) x (-4) (nI (txA A (73 + 16 * e) j)) (nI j) = some (txF A (73 + 16 * e) x j (A (73 + 16 * e) - j)) := by
  have hn3 := hO.n
  have hK := hO.e e he
  have hc := hK.c
  have h12 := hK.2.1
  intro n
  induction n with
  | zero => intro _ _ h; omega
  | succ n ih =>
    intro j hj hn
    have ht := txA_le A (73 + 16 * e) j
    rw [f_X6_sign_23, gdd_t mk.1, show f_X6_of 150 (nI e) 0 M = some (nI (A (73 + 16 * e))) from m_of hR (by omega) (by decide), obb_s]
    by_cases h : j = A (73 + 16 * e)
    · rw [if_pos (nI_le' (by omega) (by omega) (by omega)), h, Nat.sub_self]; rfl
    · have h2 := ih (j + 1) (by omega) (by omega)
      have hts : txA A (73 + 16 * e) (j + 1) = txA A (73 + 16 * e) j + 1 + bitN (A (73 + 16 * e + 1)) j := by unfold txA; rw [sumN]; omega
      have hbl := bitN_lt (A (73 + 16 * e + 1)) j
      rw [if_neg (nI_nle' (by omega) (by omega) (by omega)), show A (73 + 16 * e) - j = A (73 + 16 * e) - (j + 1) + 1 by omega, txF, m_word hR (by omega) (by omega), show f_X6_of 150 (nI e) 1 M = some (nI (A (73 + 16 * e + 1))) from m_of hR (by omega) (by decide)]
      simp only [obb_s, bvv_e]
      rw [p_bit (by omega) (by omega), nI_1, nI_1, nI_1]
      by_cases hx : nI (txA A (73 + 16 * e) j) = x
      · rw [if_pos hx, if_pos hx]
        by_cases hb : bitN (A (73 + 16 * e + 1)) j = 1
        · rw [if_pos ((nI_2 hbl).mpr hb), if_neg (fun z => nI_ne (by omega) (by omega) (show txA A (73 + 16 * e) j + 1 ≠ txA A (73 + 16 * e) j by omega) (z.trans hx.symm))]
          exact m_signP hR hO he (txA A (73 + 16 * e) j) hx.symm (by omega) n (j + 1) (txA A (73 + 16 * e) j + 1 + 1) (by omega) (by omega) (by omega) (by omega)
        · rw [if_neg (fun z => hb ((nI_2 hbl).mp z))]
          exact m_signP hR hO he (txA A (73 + 16 * e) j) hx.symm (by omega) n (j + 1) (txA A (73 + 16 * e) j + 1) (by omega) (by omega) (by omega) (by omega)
      · rw [if_neg hx, if_neg hx]
        by_cases hb : bitN (A (73 + 16 * e + 1)) j = 1
        · rw [if_pos ((nI_2 hbl).mpr hb)]
          by_cases hx2 : nI (txA A (73 + 16 * e) j + 1) = x
          · rw [if_pos hx2, if_pos ⟨hb, hx2⟩]
            exact m_signP hR hO he (txA A (73 + 16 * e) j + 1) hx2.symm (by omega) n (j + 1) (txA A (73 + 16 * e) j + 1 + 1) (by omega) (by omega) (by omega) (by omega)
          · rw [if_neg hx2, if_neg (fun z => hx2 z.2)]
            rw [hts, hb] at h2
            exact h2
        · rw [if_neg (fun z => hb ((nI_2 hbl).mp z)), if_neg (fun z => hb z.1)]
          rw [hts, show bitN (A (73 + 16 * e + 1)) j = 0 by omega] at h2
          exact h2
theorem m_sign (hR : RowR M 151 0 A) (hO : Ok A) (x y : Int32) : f_X6_sign 150 x y M = some (lkSign x y A) := by
  have hn := hO.n
  unfold f_X6_sign lkSign
  rw [gdd_t mk.1]
  rcases ix_cases x (n := A 3) (by omega) with ⟨e, he, rfl⟩ | ⟨hx, hx2⟩
  · have h12 := (hO.e e he).2.1
    rw [m_isEd hR hn he, obb_s, if_neg (by decide), ixO_s (by omega) he]
    by_cases h : 0 ≤ y
    · rw [if_pos h]
      simp only [if_pos h]
      exact m_signL hR hO he FU 0 (by omega) (by unfold FU; omega)
    · rw [if_neg h]
      simp only [if_neg h]
  · rw [m_isEdO hR hn hx, obb_s, if_pos rfl, hx2]
end MG
