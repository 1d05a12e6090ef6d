/-! PURE: the reference: best, the fines laid out -/
def FnR (M : Mem) (A : Nat → Nat) (o m : Nat) : Prop := ∀ g, g < m → gI M 156 g = nI (fineN A o g 0) ∧ gI M 157 g = nI (fineN A o g 1)
def FnX : Nat → Prop := fun r => r = 156 ∨ r = 157
theorem RowR.fx {M M2 : Mem} {A : Nat → Nat} (h : RowR M 151 0 A) (hS : Sm FnX M M2) : RowR M2 151 0 A := fun k hk => (hS.1 _ _ (by unfold FnX; decide)).trans (h k hk)
theorem m_laysL {A : Nat → Nat} (hO : Ok A) {e : Nat} (he : e < A 3) : ∀ (n j : Nat) (M : Mem), RowR M 151 0 A → j ≤ A (73 + 16 * e) - 1 → A (73 + 16 * e) - 1 - j < n → FnR M A (73 + 16 * e) j → ∃ M2, f_X6_laysFines_2 n 150 (nI e) (nI j) M = some M2 ∧ Sm FnX M M2 ∧ FnR M2 A (73 + 16 * e) (A (73 + 16 * e) - 1) := by
  have hn3 := hO.n
  have hK := hO.e e he
  have h1 := hK.1
  have h12 := hK.2.1
  intro n
  induction n with
  | zero => intro _ _ _ _ h; omega
  | succ n ih =>
    intro j M hR hj hn hF
    rw [f_X6_laysFines_2, gdd_t mk.1, show f_X6_of 150 (nI e) 0 M = some (nI (A (73 + 16 * e))) from m_of hR (by omega) (by decide), obb_s, nI_1]
    by_cases h : j = A (73 + 16 * e) - 1
    · subst h
      rw [if_pos (nI_le' (by omega) (by omega) (by omega))]
      exact ⟨M, rfl, Sm.rf, hF⟩
    · have hp : 2 ^ j < 2 ^ 31 := Nat.pow_lt_pow_right (by decide) (by omega)
      have b0 : bitN 0 j = 0 := by unfold bitN; rw [Nat.zero_div]
      have b1 : bitN (2 ^ j) j = 1 := by unfold bitN; rw [Nat.div_self (Nat.two_pow_pos j)]
      have hS1 : Sm FnX M (sI M 156 j (nI (fineN A (73 + 16 * e) j 0))) := Sm.put Sm.rf (Or.inl rfl)
      have hS2 : Sm FnX M (sI (sI M 156 j (nI (fineN A (73 + 16 * e) j 0))) 157 j (nI (fineN A (73 + 16 * e) j 1))) := hS1.put (Or.inr rfl)
      rw [if_neg (nI_nle' (by omega) (by omega) (by omega)), show f_X6_fineOf 150 (nI e) (nI j) 0 M = some (nI (fineN A (73 + 16 * e) j (bitN 0 j))) from m_fineOf hR hO he (by omega) (by decide), obb_s, b0, mk.2.2.2.2.2.2.1, gdd_t mr.2.2.2.2.2.1, ml.2.2.2.2.2.1, gdd_t (inb_nI (by omega) (by decide)), nI_clamp (by omega), bvv_e, p_shl1 (by omega), m_fineOf (hR.fx hS1) hO he (by omega) hp, obb_s, b1, mk.2.2.2.2.2.2.2.1, gdd_t mr.2.2.2.2.2.2.1, ml.2.2.2.2.2.2.1, gdd_t (inb_nI (by omega) (by decide)), bvv_e, bvv_e]
      obtain ⟨M2, r1, r2, r3⟩ := ih (j + 1) _ (hR.fx hS2) (by omega) (by omega) (fun g hg => by
        by_cases z : g = j
        · rw [z, gI_n (Or.inl (by decide)), gI_s, gI_s]; exact ⟨rfl, rfl⟩
        · rw [gI_n (Or.inl (by decide)), gI_n (Or.inr z), gI_n (Or.inr z), gI_n (Or.inl (by decide))]
          exact hF g (by omega))
      exact ⟨M2, r1, hS2.tr r2, r3⟩
