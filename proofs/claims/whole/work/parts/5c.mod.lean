/-! PURE: the reference: bestSuit -/
section MB
variable {M : Mem} {A : Nat → Nat}
theorem m_bsL (hR : RowR M 151 0 A) (hO : Ok A) {e : Nat} (he : e < A 3) : ∀ (n g : Nat), g ≤ A (73 + 16 * e) - 1 → A (73 + 16 * e) - 1 - g < n → f_X6_bestSuit_18 M n 150 (nI e) (bsE (bsS A (73 + 16 * e) g)) (bsL (bsS A (73 + 16 * e) g)) (nI g) = some (bsE (bsS A (73 + 16 * e) (A (73 + 16 * e) - 1))) := by
  have hn3 := hO.n
  have hK := hO.e e he
  have hc := hK.c
  have h1 := hK.1
  have h12 := hK.2.1
  intro n
  induction n with
  | zero => intro _ _ h; omega
  | succ n ih =>
    intro g hg hn
    rw [f_X6_bestSuit_18, gdd_t mk.1, show f_X6_of 150 (nI e) 0 M = some (nI (A (73 + 16 * e))) from m_of hR (by omega) (by decide), obb_s, nI_1]
    by_cases h : g = A (73 + 16 * e) - 1
    · subst h
      rw [if_pos (nI_le' (by omega) (by omega) (by omega))]
    · have h2 := ih (g + 1) (by omega) (by omega)
      have hfl : flN (A (73 + 16 * e + 1)) g < 2 ^ 11 := flN_lt hc (by omega)
      have hcl := costN_le hO hK (c := flN (A (73 + 16 * e + 1)) g)
      have hrl := rsnN_lt (A := A) (73 + 16 * e) g
      rw [if_neg (nI_nle' (by omega) (by omega) (by omega)), show f_X6_of 150 (nI e) 1 M = some (nI (A (73 + 16 * e + 1))) from m_of hR (by omega) (by decide), obb_s, p_shl1 (by omega), nx_xor, show A (73 + 16 * e + 1) ^^^ 2 ^ g = flN (A (73 + 16 * e + 1)) g from rfl, m_costBy hR hO he (by omega), obb_s, m_reason hR hO he (by omega), obb_s]
      simp only [bvv_e]
      rw [bsS] at h2
      by_cases hr : rsnN A (73 + 16 * e) g = 0
      · rw [if_pos ((nI_z (by omega)).mpr hr)]
        cases hb : bsS A (73 + 16 * e) g with
        | none =>
          rw [hb] at h2
          simp only [if_pos hr] at h2
          rw [if_pos (by rfl)]
          exact h2
        | some q =>
          obtain ⟨b, l⟩ := q
          obtain ⟨q1, q2⟩ := bsS_lt hO hK hb
          rw [hb] at h2
          have hne : ¬ bsE (some (b, l)) = -4 := fun z => absurd (show (-4 : Int32) < 0 by decide) (by rw [← z]; exact nI_neg (by omega))
          rw [if_neg hne]
          by_cases hl : costN A (73 + 16 * e) (flN (A (73 + 16 * e + 1)) g) < l
          · simp only [if_pos (And.intro hl hr)] at h2
            rw [if_neg (show ¬ bsL (some (b, l)) ≤ _ from nI_nle' (by omega) (by omega) hl)]
            exact h2
          · simp only [if_neg (show ¬ (costN A (73 + 16 * e) (flN (A (73 + 16 * e + 1)) g) < l ∧ rsnN A (73 + 16 * e) g = 0) from fun z => hl z.1)] at h2
            rw [if_pos (show bsL (some (b, l)) ≤ _ from nI_le' (by omega) (by omega) (by omega))]
            exact h2
      · rw [if_neg (fun z => hr ((nI_z (by omega)).mp z))]
        cases hb : bsS A (73 + 16 * e) g with
        | none =>
          rw [hb] at h2
          simp only [if_neg hr] at h2
          exact h2
        | some q =>
          obtain ⟨b, l⟩ := q
          rw [hb] at h2
          simp only [if_neg (show ¬ (costN A (73 + 16 * e) (flN (A (73 + 16 * e + 1)) g) < l ∧ rsnN A (73 + 16 * e) g = 0) from fun z => hr z.2)] at h2
          exact h2
theorem m_bestSuit (hR : RowR M 151 0 A) (hO : Ok A) (x : Int32) : f_X6_bestSuit 150 x M = some (lkBs x A) := by
  have hn := hO.n
  unfold f_X6_bestSuit lkBs
  rw [gdd_t mk.1]
  rcases ix_cases x (n := A 3) (by omega) with ⟨e, he, rfl⟩ | ⟨hx, hx2⟩
  · have h12 := (hO.e e he).2.1
    rw [m_isEd hR hn he, obb_s, if_neg (by decide), ixO_s (by omega) he]
    exact m_bsL hR hO he FU 0 (by omega) (by unfold FU; omega)
  · rw [m_isEdO hR hn hx, obb_s, if_pos rfl, hx2]
end MB
