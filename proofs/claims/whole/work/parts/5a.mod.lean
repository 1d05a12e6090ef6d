/-! PURE: the reference: the length -/
theorem m_lenL {M : Mem} {A : Nat → Nat} (hR : RowR M 151 0 A) (hO : Ok A) : ∀ (n j : Nat), j ≤ A 3 → A 3 - j < n → f_X6_length_4 M n 150 (nI (sumN (fun k => A (73 + 16 * k)) j)) (nI j) = some (lkLen A) := by
  have hn3 := hO.n
  have b1 := wdC_le hO
  have b2 := cmC_le hO
  intro n
  induction n with
  | zero => intro _ _ h; omega
  | succ n ih =>
    intro j hj hn
    rw [f_X6_length_4, gdd_t mk.1, mk.2.1, gdd_t mr.1, ml.1, gdd_t (by decide), show (3 : Int32).toNatClampNeg = 3 from rfl, hR.get (by decide)]
    by_cases h : j = A 3
    · rw [if_pos (nI_le' (by omega) (by omega) (by omega))]
      unfold lkLen
      by_cases h0 : A 3 = 0
      · rw [if_pos ((nI_z (by omega)).mpr h0), if_pos h0]
      · rw [if_neg (fun e => h0 ((nI_z (by omega)).mp e)), if_neg h0, m_allCommas hR hO, obb_s, nI_add, show sumN (fun k => A (73 + 16 * k)) j = wdC A by rw [h]; rfl, gdd_t (dv_ok _ (by omega) _ (by omega) (by omega))]
    · have h2 := ih (j + 1) (by omega) (by omega)
      rw [sumN] at h2
      rw [if_neg (nI_nle' (by omega) (by omega) (by omega)), show f_X6_of 150 (nI j) 0 M = some (nI (A (73 + 16 * j))) from m_of hR (by omega) (by decide), obb_s, nI_add, bvv_e, bvv_e, nI_1]
      exact h2
theorem m_length {M : Mem} {A : Nat → Nat} (hR : RowR M 151 0 A) (hO : Ok A) : f_X6_length 150 M = some (lkLen A) := by
  have hn3 := hO.n
  exact m_lenL hR hO FU 0 (by omega) (by unfold FU; omega)
theorem m_why {M : Mem} {w : Wd} (hO : OkW w) (hM : MI M w) (x : Int32) : f_X6_why 150 x M = some (lkWhy x w) := by
  have hs := hO.2.2.2.2.2.2.2
  unfold f_X6_why lkWhy
  by_cases h : 0 ≤ x ∧ x ≤ 2
  · rw [if_neg (in_1 h), if_pos h, gdd_t mk.1, hM.2.2.2.2.1]
    by_cases h0 : w.st = 0
    · rw [h0, if_pos (by rfl), if_pos rfl]
    · obtain ⟨y1, y2, y3⟩ := hM.2.2.2.2.2 (by omega)
      obtain ⟨i, i1, rfl⟩ := in_ex (b := 2) (by decide) h.1 h.2
      rw [if_neg (fun e => h0 ((nI_z (by omega)).mp e)), if_neg h0, mk.2.2.2.2.2.1, gdd_t mr.2.2.2.2.1, ml.2.2.2.2.1, gdd_t (inb_nI (by omega) (by decide)), nI_clamp (by omega)]
      by_cases e0 : i = 0
      · subst e0; rw [if_pos rfl, y1]
      rw [if_neg (nI_ne (by omega) (by omega) e0)]
      by_cases e1 : i = 1
      · subst e1; rw [if_pos rfl, y2]
      rw [if_neg (nI_ne (by omega) (by omega) e1), show i = 2 by omega, y3]
  · rw [if_pos (in_0 h), if_neg h]
