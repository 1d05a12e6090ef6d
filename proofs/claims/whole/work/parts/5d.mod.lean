/-! PURE: the reference: the cheapest edition -/
def isMn (A : Nat → Nat) (n s b : Nat) : Prop := (s ≤ b ∧ b < n) ∧ ∀ k, s ≤ k → k < n → ceN A b ≤ ceN A k ∧ (k < b → ceN A b < ceN A k)
theorem isMn_u {A : Nat → Nat} {n s b b2 : Nat} (h : isMn A n s b) (h2 : isMn A n s b2) : b = b2 := by
  have p := h.2 b2 h2.1.1 h2.1.2
  have q := h2.2 b h.1.1 h.1.2
  rcases Nat.lt_trichotomy b b2 with e | e | e
  · have := q.2 e; omega
  · exact e
  · have := p.2 e; omega
theorem chS_mn {A : Nat → Nat} : ∀ n, 0 < n → ∃ b, chS A n = some (b, ceN A b) ∧ isMn A n 0 b
  | 0, h => by omega
  | n + 1, _ => by
    rw [chS]
    rcases Nat.eq_zero_or_pos n with z | z
    · subst z
      refine ⟨0, rfl, ⟨by omega, by omega⟩, fun k _ hk => ?_⟩
      rw [show k = 0 by omega]
      exact ⟨Nat.le_refl _, fun h => by omega⟩
    · obtain ⟨b, b1, b2, b3⟩ := chS_mn n z
      rw [b1]
      simp only
      by_cases h : ceN A n < ceN A b
      · rw [if_pos h]
        refine ⟨n, rfl, ⟨by omega, by omega⟩, fun k _ hk => ?_⟩
        by_cases e : k = n
        · rw [e]; exact ⟨Nat.le_refl _, fun h => by omega⟩
        · have := (b3 k (by omega) (by omega)).1
          exact ⟨by omega, fun _ => by omega⟩
      · rw [if_neg h]
        refine ⟨b, rfl, ⟨by omega, by omega⟩, fun k _ hk => ?_⟩
        by_cases e : k = n
        · rw [e]; exact ⟨by omega, fun h => by omega⟩
        · exact b3 k (by omega) (by omega)
theorem m_chL {M : Mem} {A : Nat → Nat} (hR : RowR M 151 0 A) (hO : Ok A) : ∀ (j n b : Nat), j < n → j < A 3 → isMn A (A 3) j b → f_X6_cheapest_12 M n 150 (nI b) (nI j - 1) = some (bsE (chS A (A 3))) := by
  have hn3 := hO.n
  intro j
  induction j with
  | zero =>
    intro n b hn hj hb
    obtain ⟨n, rfl⟩ : ∃ m, n = m + 1 := ⟨n - 1, by omega⟩
    obtain ⟨b2, c1, c2⟩ := chS_mn (A := A) (A 3) (by omega)
    rw [f_X6_cheapest_12, nI_0s1, if_pos (by decide), c1, isMn_u hb c2]; rfl
  | succ j ih =>
    intro n b hn hj hb
    obtain ⟨n, rfl⟩ : ∃ m, n = m + 1 := ⟨n - 1, by omega⟩
    have hne : ¬ nI b = -4 := fun z => absurd (show (-4 : Int32) < 0 by decide) (by rw [← z]; exact nI_neg (by have := hb.1; omega))
    have c1 := ceN_le hO (show j < A 3 by omega)
    have c2 := ceN_le hO hb.1.2
    rw [f_X6_cheapest_12, nI_sub1 (by omega), Nat.add_sub_cancel, if_neg (nI_neg (by omega)), if_neg hne, gdd_t mk.1, m_costOf hR hO (by omega), obb_s, m_costOf hR hO hb.1.2, obb_s]
    simp only [bvv_e]
    rw [nI_pd]
    by_cases h : ceN A b < ceN A j
    · rw [if_pos ((nI_ltI (by omega) (by omega)).mpr h)]
      refine ih n b (by omega) (by omega) ⟨⟨by have := hb.1; omega, hb.1.2⟩, fun k k1 k2 => ?_⟩
      by_cases e : k = j
      · rw [e]; exact ⟨by omega, fun _ => h⟩
      · exact hb.2 k (by omega) k2
    · rw [if_neg (fun z => h ((nI_ltI (by omega) (by omega)).mp z))]
      refine ih n j (by omega) (by omega) ⟨⟨by omega, by omega⟩, fun k k1 k2 => ?_⟩
      by_cases e : k = j
      · rw [e]; exact ⟨Nat.le_refl _, fun h => by omega⟩
      · have := (hb.2 k (by omega) k2).1
        exact ⟨by omega, fun h => by omega⟩
theorem m_cheap {M : Mem} {A : Nat → Nat} (hR : RowR M 151 0 A) (hO : Ok A) : f_X6_cheapest 150 M = some (bsE (chS A (A 3))) := by
  have hn3 := hO.n
  unfold f_X6_cheapest
  rw [gdd_t mk.1, mk.2.1, gdd_t mr.1, ml.1, gdd_t (by decide), show (3 : Int32).toNatClampNeg = 3 from rfl, hR.get (by decide), bvv_e]
  rw [show FU = 4999 + 1 from rfl, f_X6_cheapest_12]
  by_cases h : A 3 = 0
  · rw [h, nI_0s1, if_pos (by decide)]; rfl
  · rw [nI_sub1 (by omega), if_neg (nI_neg (by omega)), if_pos rfl, bvv_e, nI_pd]
    refine m_chL hR hO (A 3 - 1) 4999 (A 3 - 1) (by omega) (by omega) ⟨⟨by omega, by omega⟩, fun k k1 k2 => ?_⟩
    rw [show k = A 3 - 1 by omega]
    exact ⟨Nat.le_refl _, fun h => by omega⟩
