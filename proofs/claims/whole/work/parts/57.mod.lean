/-! PURE: the reference: looks at editions -/
section ML
variable {M : Mem} {A : Nat → Nat}
theorem m_allWL (hR : RowR M 151 0 A) (hO : Ok A) {e : Nat} (he : e < A 3) : ∀ (n j : Nat), j ≤ A (73 + 16 * e) → A (73 + 16 * e) - j < n → f_X6_allWeight_4 M n 150 (nI e) (nI (sumN (wtN A (73 + 16 * e)) j)) (nI j) = some (nI (sumN (wtN A (73 + 16 * e)) (A (73 + 16 * e)))) := by
  have hn := hO.n
  have h12 := (hO.e e he).2.1
  intro n
  induction n with
  | zero => intro _ _ h; omega
  | succ n ih =>
    intro j hj hn
    rw [f_X6_allWeight_4, gdd_t mk.1, show f_X6_of 150 (nI e) 0 M = some (nI (A (73 + 16 * e))) from m_of hR (by omega) (by decide), obb_s]
    by_cases h : j = A (73 + 16 * e)
    · subst h
      rw [if_pos (nI_le' (by omega) (by omega) (by omega))]
    · have h2 := ih (j + 1) (by omega) (by omega)
      rw [sumN] at h2
      rw [if_neg (nI_nle' (by omega) (by omega) (by omega)), m_wt hR hO he (by omega), obb_s, nI_add, bvv_e, bvv_e, nI_1]
      exact h2
theorem m_allW (hR : RowR M 151 0 A) (hO : Ok A) {e : Nat} (he : e < A 3) : f_X6_allWeight 150 (nI e) M = some (nI (sumN (wtN A (73 + 16 * e)) (A (73 + 16 * e)))) := by
  have h12 := (hO.e e he).2.1
  exact m_allWL hR hO he FU 0 (by omega) (by unfold FU; omega)
theorem m_edition (hR : RowR M 151 0 A) (hO : Ok A) (x f : Int32) : f_X6_edition 150 x f M = some (lkEd x f A) := by
  have hn := hO.n
  unfold f_X6_edition lkEd
  rw [gdd_t mk.1]
  rcases ix_cases x (n := A 3) (by omega) with ⟨e, he, rfl⟩ | ⟨hx, hx2⟩
  · have hK := hO.e e he
    have hc := hK.c
    rw [m_isEd hR hn he, obb_s, if_neg (by decide), ixO_s (by omega) he, show f_X6_of 150 (nI e) 1 M = some (nI (A (73 + 16 * e + 1))) from m_of hR (by omega) (by decide), obb_s]
    show _ = some (lkEdA f A (73 + 16 * e))
    unfold lkEdA
    by_cases h0 : f = nI 0
    · rw [if_pos h0, if_pos h0, show f_X6_of 150 (nI e) 0 M = some (nI (A (73 + 16 * e))) from m_of hR (by omega) (by decide), obb_s]
    rw [if_neg h0, if_neg h0]
    by_cases h1 : f = nI 1
    · rw [if_pos h1, if_pos h1]
    rw [if_neg h1, if_neg h1]
    by_cases h2 : f = nI 2
    · rw [if_pos h2, if_pos h2, m_ones (by omega), obb_s, nI_1]
    rw [if_neg h2, if_neg h2]
    by_cases h3 : f = nI 3
    · rw [if_pos h3, if_pos h3, m_allW hR hO he, obb_s]
    rw [if_neg h3, if_neg h3]
    by_cases h4 : f = nI 4
    · rw [if_pos h4, if_pos h4, m_clause hR hO he (by omega), obb_s]
    rw [if_neg h4, if_neg h4]
    by_cases h5 : f = nI 5
    · rw [if_pos h5, if_pos h5, m_fines hR hO he (by omega), obb_s]
    rw [if_neg h5, if_neg h5]
    by_cases h6 : f = nI 6
    · rw [if_pos h6, if_pos h6, m_costOf hR hO he, obb_s]; rfl
    rw [if_neg h6, if_neg h6]
    by_cases h7 : f = nI 7
    · rw [if_pos h7, if_pos h7, m_stayed1 hR (by omega), obb_s, b01 (styN_lt _) (fun v => some v)]
    rw [if_neg h7, if_neg h7]
    by_cases h8 : f = nI 8
    · rw [if_pos h8, if_pos h8, show f_X6_of 150 (nI e) 2 M = some (nI (A (73 + 16 * e + 2))) from m_of hR (by omega) (by decide), obb_s]
    rw [if_neg h8, if_neg h8]
    by_cases h9 : f = nI 9
    · rw [if_pos h9, if_pos h9, show f_X6_of 150 (nI e) 3 M = some (nI (A (73 + 16 * e + 3))) from m_of hR (by omega) (by decide), obb_s]
    rw [if_neg h9, if_neg h9]
  · rw [m_isEdO hR hn hx, obb_s, if_pos rfl, hx2]
theorem m_gapO (hR : RowR M 151 0 A) (h3 : A 3 ≤ 4) {x y : Int32} (hx : x < 0 ∨ nI (A 3) ≤ x) : f_X6_isGap 150 x y M = some 0 := by
  unfold f_X6_isGap
  rw [gdd_t mk.1, m_isEdO hR h3 hx, obb_s, if_pos rfl]
theorem m_gap (hR : RowR M 151 0 A) (hO : Ok A) (x y f : Int32) : f_X6_gap 150 x y f M = some (lkGap x y f A) := by
  have hn := hO.n
  unfold f_X6_gap lkGap
  rw [gdd_t mk.1]
  rcases ix_cases x (n := A 3) (by omega) with ⟨e, he, rfl⟩ | ⟨hx, hx2⟩
  · have hK := hO.e e he
    have hc := hK.c
    have h12 := hK.2.1
    rw [ixO_s (by omega) he]
    rcases m_isGap hR hO he y with ⟨g, g1, g2, g3, g4⟩ | ⟨g3, g4⟩
    · have hfl : flN (A (73 + 16 * e + 1)) g < 2 ^ 11 := flN_lt hc (by omega)
      rw [g4, obb_s, if_neg (by decide), show f_X6_of 150 (nI e) 1 M = some (nI (A (73 + 16 * e + 1))) from m_of hR (by omega) (by decide), obb_s]
      subst g2
      simp only [g3]
      unfold lkGapA
      by_cases h0 : f = nI 0
      · rw [if_pos h0, if_pos h0, p_bit (by omega) (by omega)]
      rw [if_neg h0, if_neg h0]
      by_cases h1 : f = nI 1
      · rw [if_pos h1, if_pos h1, m_rulingOf hR hO he g1, obb_s]
      rw [if_neg h1, if_neg h1]
      by_cases h2 : f = nI 2
      · rw [if_pos h2, if_pos h2, m_fineOf hR hO he g1 (by omega), obb_s]
      rw [if_neg h2, if_neg h2]
      by_cases h3 : f = nI 3
      · rw [if_pos h3, if_pos h3, p_shl1 (by omega), nx_xor, show A (73 + 16 * e + 1) ^^^ 2 ^ g = flN (A (73 + 16 * e + 1)) g from rfl, m_costBy hR hO he (by omega), obb_s, m_costOf hR hO he, obb_s]; rfl
      rw [if_neg h3, if_neg h3]
    · rw [g4, obb_s, if_pos rfl]
      simp only [g3]
  · rw [m_gapO hR hn hx, obb_s, if_pos rfl, hx2]
theorem m_whyNot (hR : RowR M 151 0 A) (hO : Ok A) (x y : Int32) : f_X6_whyNot 150 x y M = some (lkWhyNot x y A) := by
  have hn := hO.n
  unfold f_X6_whyNot lkWhyNot
  rw [gdd_t mk.1]
  rcases ix_cases x (n := A 3) (by omega) with ⟨e, he, rfl⟩ | ⟨hx, hx2⟩
  · rw [ixO_s (by omega) he]
    rcases m_isGap hR hO he y with ⟨g, g1, g2, g3, g4⟩ | ⟨g3, g4⟩
    · rw [g4, obb_s, if_neg (by decide), g2, m_reason hR hO he g1, obb_s]
      rw [g2] at g3
      simp only [g3]
    · rw [g4, obb_s, if_pos rfl]
      simp only [g3]
  · rw [m_gapO hR hn hx, obb_s, if_pos rfl, hx2]
end ML
