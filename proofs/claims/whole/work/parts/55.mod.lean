/-! PURE: the reference: reasons to refuse, suits -/
theorem allF_iff {P : Nat → Bool} : ∀ (k j : Nat), allF P j k = true ↔ ∀ i, j ≤ i → i < j + k → P i = true
  | 0, j => ⟨fun _ i h1 h2 => by omega, fun _ => rfl⟩
  | k + 1, j => by
    rw [allF, Bool.and_eq_true, allF_iff k (j + 1)]
    refine ⟨fun h i h1 h2 => ?_, fun h => ⟨h j (by omega) (by omega), fun i h1 h2 => h i (by omega) (by omega)⟩⟩
    by_cases e : i = j
    · rw [e]; exact h.1
    · exact h.2 i (by omega) (by omega)
section MS
variable {M : Mem} {A : Nat → Nat}
theorem m_stayed1 (hR : RowR M 151 0 A) {e : Nat} (he : e < 4) : f_X6_isStayed 150 (nI e) M = some (nI (styN A (73 + 16 * e))) := by
  unfold f_X6_isStayed styN
  rw [gdd_t mk.1, mk.2.1, gdd_t mr.1, ml.1, gdd_t (by decide), show (2 : Int32) = nI 2 from rfl, m_of hR he (by decide), obb_s, show (0 : Int32).toNatClampNeg = 0 from rfl, hR.get (by decide)]
  by_cases h : nI (A 0) < nI (A (73 + 16 * e + 2))
  · rw [if_neg (Int32.not_le.mpr h), if_pos h]; rfl
  · rw [if_pos (Int32.not_lt.mp h), if_neg h]; rfl
theorem m_sameL (hR : RowR M 151 0 A) (hO : Ok A) {k e : Nat} (hk : k < A 3) (he : e < A 3) : ∀ (n j : Nat) (b : Bool), j ≤ 12 → 12 - j < n → f_X6_isSame_24 M n 150 (nI k) (nI e) (nI b.toNat) (nI j) = some (nI (b && allF (fun j => A (73 + 16 * k + 4 + j) == A (73 + 16 * e + 4 + j)) j (12 - j)).toNat) := by
  have hn := hO.n
  intro n
  induction n with
  | zero => intro _ _ _ h; omega
  | succ n ih =>
    intro j b hj hn
    rw [f_X6_isSame_24, show (12 : Int32) = nI 12 from rfl]
    by_cases h : j = 12
    · subst h
      rw [if_pos (nI_le' (by omega) (by omega) (by omega)), gdd_t (isb_nI (by cases b <;> decide))]
      cases b <;> rfl
    · have hlt : j < 12 := by omega
      have kb : ∀ i j, i < A 3 → j < 12 → A (73 + 16 * i + 4 + j) < 2 ^ 31 := fun i j hi hj => by
        rcases Nat.lt_or_ge j (A (73 + 16 * i)) with z | z
        · have := (hO.e i hi).2.2.2.1 j z; omega
        · have := (hO.e i hi).2.2.2.2 j z hj; omega
      rw [if_neg (nI_nle' (by omega) (by omega) hlt), gdd_t mk.1, m_word hR (by omega) hlt, obb_s, m_word hR (by omega) hlt, obb_s]
      simp only [bvv_e]
      rw [nI_1, show 12 - j = 12 - (j + 1) + 1 by omega, allF]
      cases b
      · rw [if_pos (by rfl)]
        exact ih (j + 1) false (by omega) (by omega)
      · rw [if_neg (by decide)]
        by_cases z : A (73 + 16 * k + 4 + j) = A (73 + 16 * e + 4 + j)
        · rw [if_pos (by rw [z]), beq_iff_eq.mpr z]
          exact ih (j + 1) true (by omega) (by omega)
        · rw [if_neg (nI_ne (kb k j hk hlt) (kb e j he hlt) z), beq_eq_false_iff_ne.mpr z]
          exact ih (j + 1) false (by omega) (by omega)
theorem m_same (hR : RowR M 151 0 A) (hO : Ok A) {k e : Nat} (hk : k < A 3) (he : e < A 3) : f_X6_isSame 150 (nI k) (nI e) M = some (nI (eqW A (73 + 16 * k) (A (73 + 16 * e)) (fun j => A (73 + 16 * e + 4 + j))).toNat) := by
  have hn := hO.n
  have hK := hO.e k hk
  have hE := hO.e e he
  have l1 := hK.2.1
  have l2 := hE.2.1
  unfold f_X6_isSame
  rw [gdd_t mk.1, show (0 : Int32) = nI 0 from rfl, m_of hR (by omega) (by decide), obb_s, m_of hR (by omega) (by decide), obb_s, Nat.add_zero, Nat.add_zero]
  by_cases h : A (73 + 16 * k) = A (73 + 16 * e)
  · rw [if_pos (by rw [h])]
    have h1 := m_sameL hR hO hk he FU 0 true (by omega) (by unfold FU; omega)
    rw [show (1 : Int32) = nI true.toNat from rfl, h1]
    congr 3
    unfold eqW
    rw [beq_iff_eq.mpr h, Bool.true_and, Bool.true_and, Bool.eq_iff_iff, allF_iff, allF_iff]
    refine ⟨fun g i i1 i2 => g i i1 (by omega), fun g i i1 i2 => ?_⟩
    rcases Nat.lt_or_ge i (A (73 + 16 * e)) with z | z
    · exact g i i1 (by omega)
    · rw [hK.2.2.2.2 i (by omega) (by omega), hE.2.2.2.2 i z (by omega)]; rfl
  · rw [if_neg (nI_ne (by omega) (by omega) h)]
    have h1 := m_sameL hR hO hk he FU 0 false (by omega) (by unfold FU; omega)
    refine Eq.trans h1 ?_
    unfold eqW
    rw [beq_eq_false_iff_ne.mpr h]; rfl
theorem m_takenL (hR : RowR M 151 0 A) (hO : Ok A) {e c : Nat} (he : e < A 3) (hc : c < 2 ^ 31) (hne : A (73 + 16 * e + 1) ≠ c) : ∀ (n j : Nat) (b : Bool), j ≤ A 3 → A 3 - j < n → f_X6_isTaken_5 M n 150 (nI e) (nI c) (nI b.toNat) (nI j) = some (nI (b || anyF (lkE A (A (73 + 16 * e)) (fun j => A (73 + 16 * e + 4 + j)) c) j (A 3 - j)).toNat) := by
  have hn3 := hO.n
  intro n
  induction n with
  | zero => intro _ _ _ h; omega
  | succ n ih =>
    intro j b hj hn
    rw [f_X6_isTaken_5, gdd_t mk.1, mk.2.1, gdd_t mr.1, ml.1, gdd_t (by decide), show (3 : Int32).toNatClampNeg = 3 from rfl, hR.get (by decide)]
    by_cases h : j = A 3
    · rw [if_pos (nI_le' (by omega) (by omega) (by omega)), gdd_t (isb_nI (by cases b <;> decide)), h, Nat.sub_self]
      cases b <;> rfl
    · have hlt : j < A 3 := by omega
      have hcj := (hO.e j hlt).c
      rw [if_neg (nI_nle' (by omega) (by omega) hlt), m_same hR hO hlt he, obb_s, show (1 : Int32) = nI 1 from rfl, m_of hR (by omega) (by decide), obb_s, show A 3 - j = A 3 - (j + 1) + 1 by omega, anyF]
      simp only [bvv_e]
      rw [show nI j + nI 1 = nI (j + 1) from nI_1 j]
      cases b
      · rw [if_pos (by rfl)]
        by_cases z : j = e
        · have hl : lkE A (A (73 + 16 * e)) (fun j => A (73 + 16 * e + 4 + j)) c j = false := by
            unfold lkE
            rw [show 74 + 16 * j = 73 + 16 * e + 1 by omega, beq_eq_false_iff_ne.mpr hne]; rfl
          rw [if_pos (by rw [z]), hl]
          exact ih (j + 1) false (by omega) (by omega)
        · rw [if_neg (nI_ne (by omega) (by omega) z)]
          unfold lkE
          rw [show 74 + 16 * j = 73 + 16 * j + 1 by omega]
          cases hs : eqW A (73 + 16 * j) (A (73 + 16 * e)) (fun j => A (73 + 16 * e + 4 + j))
          · rw [if_pos (by rfl), Bool.and_false]
            exact ih (j + 1) false (by omega) (by omega)
          · rw [if_neg (by decide), Bool.and_true]
            by_cases y : A (73 + 16 * j + 1) = c
            · rw [if_pos (by rw [y]), beq_iff_eq.mpr y]
              exact ih (j + 1) true (by omega) (by omega)
            · rw [if_neg (nI_ne (by omega) hc y), beq_eq_false_iff_ne.mpr y]
              exact ih (j + 1) false (by omega) (by omega)
      · rw [if_neg (by decide)]
        exact ih (j + 1) true (by omega) (by omega)
theorem flN_ne (c g : Nat) : c ≠ flN c g := by
  unfold flN
  intro h
  have e : c ^^^ (c ^^^ 2 ^ g) = 2 ^ g := by rw [← Nat.xor_assoc, Nat.xor_self, Nat.zero_xor]
  rw [← h, Nat.xor_self] at e
  have := Nat.two_pow_pos g
  omega
theorem m_reason (hR : RowR M 151 0 A) (hO : Ok A) {e g : Nat} (he : e < A 3) (hg : g + 1 < A (73 + 16 * e)) : f_X6_reasonToRefuse 150 (nI e) (nI g) M = some (nI (rsnN A (73 + 16 * e) g)) := by
  have hn := hO.n
  have hK := hO.e e he
  have hc := hK.c
  have h12 := hK.2.1
  have hfl : flN (A (73 + 16 * e + 1)) g < 2 ^ 11 := flN_lt hc (by omega)
  have c1 := costN_le hO hK (c := A (73 + 16 * e + 1))
  have c2 := costN_le hO hK (c := flN (A (73 + 16 * e + 1)) g)
  unfold f_X6_reasonToRefuse rsnN
  rw [gdd_t mk.1, m_stayed1 hR (by omega), obb_s]
  have hst := styN_lt (A := A) (73 + 16 * e)
  by_cases h : styN A (73 + 16 * e) = 1
  · rw [h, if_neg (by decide), if_pos rfl]; rfl
  · rw [show styN A (73 + 16 * e) = 0 by omega, if_pos (by rfl), if_neg (by decide), show f_X6_of 150 (nI e) 1 M = some (nI (A (73 + 16 * e + 1))) from m_of hR (by omega) (by decide), obb_s, p_shl1 (by omega), nx_xor, bvv_e, show A (73 + 16 * e + 1) ^^^ 2 ^ g = flN (A (73 + 16 * e + 1)) g from rfl, m_costBy hR hO he (by omega), obb_s, m_costOf hR hO he, obb_s]
    unfold ceN
    by_cases hcst : costN A (73 + 16 * e) (A (73 + 16 * e + 1)) ≤ costN A (73 + 16 * e) (flN (A (73 + 16 * e + 1)) g)
    · rw [if_neg (fun z => by have := (nI_ltI (by omega) (by omega)).mp z; omega), if_pos hcst]; rfl
    · rw [if_pos ((nI_ltI (by omega) (by omega)).mpr (by omega)), if_neg hcst]
      have ht := m_takenL hR hO he (c := flN (A (73 + 16 * e + 1)) g) (by omega) (flN_ne _ _) FU 0 false (by omega) (by unfold FU; omega)
      rw [show f_X6_isTaken 150 (nI e) (nI (flN (A (73 + 16 * e + 1)) g)) M = _ from ht, obb_s, Bool.false_or]
      cases anyF (lkE A (A (73 + 16 * e)) (fun j => A (73 + 16 * e + 4 + j)) (flN (A (73 + 16 * e + 1)) g)) 0 (A 3 - 0)
      · rw [if_pos (by rfl), if_neg (by decide)]; rfl
      · rw [if_neg (by decide), if_pos rfl]; rfl
end MS
