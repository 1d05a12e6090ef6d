/-! PURE: the reference: ifRuled -/
section MI5
variable {M : Mem} {A : Nat → Nat}
theorem m_fineBy (hR : RowR M 151 0 A) (hO : Ok A) {e g cm : Nat} {fine : Int32} (he : e < A 3) (hg : g < 31) (hcm : cm ≤ 1) : f_X6_fineBy 150 (nI e) (nI g) (nI cm) fine M = some (if bitN (A (73 + 16 * e + 1)) g = cm then 0 else fine) := by
  have hn := hO.n
  have hc := (hO.e e he).c
  have hb := bitN_lt (A (73 + 16 * e + 1)) g
  unfold f_X6_fineBy
  rw [gdd_t mk.1, show f_X6_of 150 (nI e) 1 M = some (nI (A (73 + 16 * e + 1))) from m_of hR (by omega) (by decide), obb_s, p_bit (by omega) (by omega)]
  by_cases h : bitN (A (73 + 16 * e + 1)) g = 1
  · rw [if_pos ((nI_2 hb).mpr h), h]
    by_cases z : cm = 1
    · rw [z, if_pos (by rfl), if_pos rfl]
    · rw [if_neg (show ¬ (1 : Int32) = nI cm from fun q => z ((nI_2 (by omega)).mp q.symm)), if_neg (by omega)]
  · rw [if_neg (fun q => h ((nI_2 hb).mp q)), show bitN (A (73 + 16 * e + 1)) g = 0 by omega]
    by_cases z : cm = 0
    · rw [z, if_pos (by rfl), if_pos rfl]
    · rw [if_neg (show ¬ (0 : Int32) = nI cm from fun q => z ((nI_z (by omega)).mp q.symm)), if_neg (by omega)]
theorem m_irG (hR : RowR M 151 0 A) (hO : Ok A) {x y cm : Nat} {fine : Int32} (hx : x < 6) (hy : y < 6) (hcm : cm ≤ 1) (k18 : Nat → Int32 → Int32 → Int32 → Int32 → Int32 → Int32 → Option Int32) {e : Nat} (he : e < A 3) (s : Int32) : ∀ (n j : Nat), j ≤ A (73 + 16 * e) - 1 → A (73 + 16 * e) - 1 - j < n → f_X6_ifRuled_32 M k18 n 150 (nI x) (nI y) (nI cm) fine (s + sumI (irG A x y cm fine (73 + 16 * e)) j) (nI e) (nI j) = k18 150 (nI x) (nI y) (nI cm) fine (s + irE A x y cm fine e) (nI (e + 1)) := by
  have hn3 := hO.n
  have hK := hO.e e he
  have hc := hK.c
  have h1 := hK.1
  have h12 := hK.2.1
  intro n
  induction n with
  | zero => intro _ _ h; omega
  | succ n ih =>
    intro j hj hn
    rw [f_X6_ifRuled_32, gdd_t mk.1, show f_X6_of 150 (nI e) 0 M = some (nI (A (73 + 16 * e))) from m_of hR (by omega) (by decide), obb_s, nI_1]
    by_cases h : j = A (73 + 16 * e) - 1
    · subst h
      rw [if_pos (nI_le' (by omega) (by omega) (by omega)), bvv_e, nI_1]; rfl
    · have h2 := ih (j + 1) (by omega) (by omega)
      have k1 := hK.2.2.2.1 j (by omega)
      have k2 := hK.2.2.2.1 (j + 1) (by omega)
      rw [show 73 + 16 * e + 4 + (j + 1) = 73 + 16 * e + 5 + j by omega] at k2
      rw [sumI, ← Int32.add_assoc] at h2
      rw [if_neg (nI_nle' (by omega) (by omega) (by omega)), m_word hR (by omega) (by omega), obb_s, m_word hR (by omega) (by omega), obb_s, show 73 + 16 * e + 4 + (j + 1) = 73 + 16 * e + 5 + j by omega, m_fineBy hR hO he (by omega) hcm, obb_s, show f_X6_of 150 (nI e) 1 M = some (nI (A (73 + 16 * e + 1))) from m_of hR (by omega) (by decide), obb_s, m_fineOf hR hO he (by omega) (by omega), obb_s]
      simp only [bvv_e]
      by_cases e1 : A (73 + 16 * e + 4 + j) = x
      · rw [if_pos (by rw [e1])]
        by_cases e2 : A (73 + 16 * e + 5 + j) = y
        · rw [if_pos (by rw [e2])]
          rw [show irG A x y cm fine (73 + 16 * e) j = (if bitN (A (73 + 16 * e + 1)) j = cm then 0 else fine) - nI (fineN A (73 + 16 * e) j (bitN (A (73 + 16 * e + 1)) j)) by unfold irG; rw [if_pos ⟨e1, e2⟩]] at h2
          exact h2
        · rw [if_neg (nI_ne (by omega) (by omega) e2), Int32.add_zero]
          rw [show irG A x y cm fine (73 + 16 * e) j = 0 by unfold irG; rw [if_neg (fun z => e2 z.2)], Int32.add_zero] at h2
          exact h2
      · rw [if_neg (nI_ne (by omega) (by omega) e1), Int32.add_zero]
        rw [show irG A x y cm fine (73 + 16 * e) j = 0 by unfold irG; rw [if_neg (fun z => e1 z.1)], Int32.add_zero] at h2
        exact h2
theorem m_irL (hR : RowR M 151 0 A) (hO : Ok A) {x y cm : Nat} {fine : Int32} (hx : x < 6) (hy : y < 6) (hcm : cm ≤ 1) : ∀ (n j : Nat), j ≤ A 3 → A 3 - j < n → f_X6_ifRuled_18 M n 150 (nI x) (nI y) (nI cm) fine (sumI (irE A x y cm fine) j) (nI j) = some (1000 + sumI (irE A x y cm fine) (A 3)) := by
  have hn3 := hO.n
  intro n
  induction n with
  | zero => intro _ _ h; omega
  | succ n ih =>
    intro j hj hn
    rw [f_X6_ifRuled_18, gdd_t mk.1, mk.2.1, gdd_t mr.1, ml.1, gdd_t (by decide), show (3 : Int32).toNatClampNeg = 3 from rfl, hR.get (by decide)]
    by_cases h : j = A 3
    · subst h
      rw [if_pos (nI_le' (by omega) (by omega) (by omega))]
    · have hlt : j < A 3 := by omega
      have h12 := (hO.e j hlt).2.1
      have h2 := ih (j + 1) (by omega) (by omega)
      have h3 := m_irG hR hO hx hy hcm (f_X6_ifRuled_18 M n) (fine := fine) hlt (sumI (irE A x y cm fine) j) FU 0 (by omega) (by unfold FU; omega)
      rw [show sumI (irG A x y cm fine (73 + 16 * j)) 0 = 0 from rfl, Int32.add_zero] at h3
      rw [if_neg (nI_nle' (by omega) (by omega) (by omega))]
      exact h3.trans h2
theorem m_ifRuled (hR : RowR M 151 0 A) (hO : Ok A) (x y : Int32) {c : Nat} (hc : c ≤ 1) (f : Int32) : f_X6_ifRuled 150 x y (nI c) f M = some (lkIf x y c f A) := by
  have hn := hO.n
  unfold f_X6_ifRuled lkIf
  rw [m_isRule]
  by_cases h1 : (0 ≤ x ∧ x ≤ 5) ∧ (0 ≤ y ∧ y ≤ 5) ∧ 1 ≤ f ∧ f ≤ 20
  · obtain ⟨i, i1, rfl⟩ := in_ex (b := 5) (by decide) h1.1.1 h1.1.2
    obtain ⟨j, j1, rfl⟩ := in_ex (b := 5) (by decide) h1.2.1.1 h1.2.1.2
    have h := m_irL hR hO (x := i) (y := j) (cm := c) (fine := f) (by omega) (by omega) hc FU 0 (by omega) (by unfold FU; omega)
    rw [if_pos h1, if_neg (by decide), if_pos h1, nI_clamp (by omega), nI_clamp (by omega)]
    exact h
  · rw [if_neg h1, if_pos rfl, if_neg h1]
end MI5
