/-! PURE: the reference: best -/
theorem MI.fr {M M2 : Mem} {w : Wd} (hM : MI M w) (hS : Sm (fun r => r = 150 ∨ 156 ≤ r) M M2) (h0 : ∀ k, k = 2 ∨ k = 4 ∨ k = 6 ∨ k = 14 → gI M2 150 k = gI M 150 k) : MI M2 w := by
  obtain ⟨m1, m2, m3, m4, m5⟩ := hM
  have n : ∀ r, r ≠ 150 → r < 156 → ∀ k, gI M2 r k = gI M r k := fun r h1 h2 k => hS.1 r k (by omega)
  exact ⟨fun k hk => (n _ (by decide) (by decide) _).trans (m1 k hk), ⟨(h0 _ (by decide)).trans m2.1, fun i hi k hk => (n _ (by decide) (by decide) _).trans (m2.2 i hi k hk)⟩, ⟨(h0 _ (by decide)).trans m3.1, fun g k hk => (n _ (by decide) (by decide) _).trans (m3.2 g k hk)⟩, ⟨(h0 _ (by decide)).trans m4.1, fun i hi => (n _ (by decide) (by decide) _).trans (m4.2 i hi)⟩, ⟨(h0 _ (by decide)).trans m5.1, fun g => ⟨(n _ (by decide) (by decide) _).trans (m5.2 g).1, (n _ (by decide) (by decide) _).trans (m5.2 g).2.1, (n _ (by decide) (by decide) _).trans (m5.2 g).2.2⟩⟩⟩
section MB
variable {M : Mem} {A : Nat → Nat}
theorem m_fastL (hR : RowR M 151 0 A) (hO : Ok A) {e c : Nat} (he : e < A 3) (hc : c < 2 ^ 31) (hF : FnR M A (73 + 16 * e) (A (73 + 16 * e) - 1)) : ∀ (n j : Nat), j ≤ A (73 + 16 * e) - 1 → A (73 + 16 * e) - 1 - j < n → f_X6_fastCost_10 M n 150 (nI e) (nI c) (nI (clN A (73 + 16 * e) c + sumN (fun g => fineN A (73 + 16 * e) g (bitN c g)) j)) (nI j) = some (nI (costN A (73 + 16 * e) c)) := by
  have hn := hO.n
  have hK := hO.e e he
  have h1 := hK.1
  have h12 := hK.2.1
  intro n
  induction n with
  | zero => intro _ _ h; omega
  | succ n ih =>
    intro j hj hn
    rw [f_X6_fastCost_10, gdd_t mk.1, show f_X6_of 150 (nI e) 0 M = some (nI (A (73 + 16 * e))) from m_of hR (by omega) (by decide), obb_s, nI_1]
    by_cases h : j = A (73 + 16 * e) - 1
    · subst h
      rw [if_pos (nI_le' (by omega) (by omega) (by omega))]; rfl
    · have h2 := ih (j + 1) (by omega) (by omega)
      have hf := hF j (by omega)
      have hb := bitN_lt c j
      rw [sumN, ← Nat.add_assoc] at h2
      rw [if_neg (nI_nle' (by omega) (by omega) (by omega)), p_bit hc (by omega)]
      by_cases hz : bitN c j = 1
      · rw [if_pos (by rw [hz]; rfl), mk.2.2.2.2.2.2.2.1, gdd_t mr.2.2.2.2.2.2.1, ml.2.2.2.2.2.2.1, gdd_t (inb_nI (by omega) (by decide)), nI_clamp (by omega), hf.2, nI_add]
        simp only [bvv_e]
        rw [hz] at h2
        exact h2
      · have h0 : bitN c j = 0 := by omega
        rw [if_neg (by rw [h0]; decide), mk.2.2.2.2.2.2.1, gdd_t mr.2.2.2.2.2.1, ml.2.2.2.2.2.1, gdd_t (inb_nI (by omega) (by decide)), nI_clamp (by omega), hf.1, nI_add]
        simp only [bvv_e]
        rw [h0] at h2
        exact h2
theorem m_fast (hR : RowR M 151 0 A) (hO : Ok A) {e c : Nat} (he : e < A 3) (hc : c < 2 ^ 31) (hF : FnR M A (73 + 16 * e) (A (73 + 16 * e) - 1)) : f_X6_fastCost 150 (nI e) (nI c) M = some (nI (costN A (73 + 16 * e) c)) := by
  have h12 := (hO.e e he).2.1
  unfold f_X6_fastCost
  rw [gdd_t mk.1, m_clause hR hO he hc, obb_s]
  exact m_fastL hR hO he hc hF FU 0 (by omega) (by unfold FU; omega)
theorem m_bsetL (hR : RowR M 151 0 A) (hO : Ok A) {e : Nat} (he : e < A 3) (hF : FnR M A (73 + 16 * e) (A (73 + 16 * e) - 1)) : ∀ (n b j : Nat), b ≤ j → j < 2 ^ (A (73 + 16 * e) - 1) → 2 ^ (A (73 + 16 * e) - 1) - (j + 1) < n → rkN A (73 + 16 * e) b = mnS (rkN A (73 + 16 * e)) j → ∃ b2, f_X6_bestSet_17 n 150 (nI e) (nI b) (nI (costN A (73 + 16 * e) b)) (nI (j + 1)) M = some (nI b2, M) ∧ b2 < 2 ^ 11 ∧ rkN A (73 + 16 * e) b2 = rkM A (73 + 16 * e) := by
  have hn := hO.n
  have hK := hO.e e he
  have h1 := hK.1
  have h12 := hK.2.1
  have hp : 2 ^ (A (73 + 16 * e) - 1) ≤ 2 ^ 11 := Nat.pow_le_pow_right (by decide) (by omega)
  intro n
  induction n with
  | zero => intro _ _ _ _ h; omega
  | succ n ih =>
    intro b j hb hj hn hm
    rw [f_X6_bestSet_17, gdd_t mk.1, show f_X6_of 150 (nI e) 0 M = some (nI (A (73 + 16 * e))) from m_of hR (by omega) (by decide), obb_s, nI_sub1 h1, p_shl1 (by omega)]
    by_cases h : j + 1 = 2 ^ (A (73 + 16 * e) - 1)
    · rw [if_pos (nI_le' (by omega) (by omega) (by omega))]
      refine ⟨b, rfl, by omega, ?_⟩
      unfold rkM
      rw [← h, Nat.add_sub_cancel, hm]
    · have c1 := costN_le hO hK (c := j + 1)
      have c2 := costN_le hO hK (c := b)
      have q1 := pcN_le (j + 1)
      have q2 := pcN_le b
      have hmn : mnS (rkN A (73 + 16 * e)) (j + 1) = if rkN A (73 + 16 * e) (j + 1) < rkN A (73 + 16 * e) b then rkN A (73 + 16 * e) (j + 1) else rkN A (73 + 16 * e) b := by rw [mnS, ← hm]
      have r1 : rkN A (73 + 16 * e) (j + 1) = costN A (73 + 16 * e) (j + 1) * 32768 + pcN (j + 1) * 2048 + (j + 1) := rfl
      have r2 : rkN A (73 + 16 * e) b = costN A (73 + 16 * e) b * 32768 + pcN b * 2048 + b := rfl
      rw [if_neg (nI_nle' (by omega) (by omega) (by omega)), m_fast hR hO he (by omega) hF, obb_s]
      simp only [bvv_e]
      rw [nI_1]
      by_cases hl : costN A (73 + 16 * e) (j + 1) < costN A (73 + 16 * e) b
      · rw [if_pos ((nI_ltI (by omega) (by omega)).mpr hl)]
        rw [if_pos (by omega)] at hmn
        exact ih (j + 1) (j + 1) (by omega) (by omega) (by omega) hmn.symm
      · rw [if_neg (fun z => hl ((nI_ltI (by omega) (by omega)).mp z))]
        by_cases hq : costN A (73 + 16 * e) (j + 1) = costN A (73 + 16 * e) b
        · rw [if_pos (by rw [hq]), m_ones (by omega), obb_s, m_ones (by omega), obb_s]
          by_cases hw : pcN b ≤ pcN (j + 1)
          · rw [if_pos (nI_le' (by omega) (by omega) hw)]
            rw [if_neg (by omega)] at hmn
            exact ih b (j + 1) (by omega) (by omega) (by omega) hmn.symm
          · rw [if_neg (nI_nle' (by omega) (by omega) (by omega))]
            rw [if_pos (by omega)] at hmn
            exact ih (j + 1) (j + 1) (by omega) (by omega) (by omega) hmn.symm
        · rw [if_neg (nI_ne (by omega) (by omega) hq)]
          rw [if_neg (by omega)] at hmn
          exact ih b (j + 1) (by omega) (by omega) (by omega) hmn.symm
theorem m_bset (hR : RowR M 151 0 A) (hO : Ok A) {e : Nat} (he : e < A 3) : ∃ b M2, f_X6_bestSet 150 (nI e) M = some (nI b, M2) ∧ Sm FnX M M2 ∧ b < 2 ^ 11 ∧ rkN A (73 + 16 * e) b = rkM A (73 + 16 * e) := by
  have hK := hO.e e he
  have h12 := hK.2.1
  have hp : 2 ^ (A (73 + 16 * e) - 1) ≤ 2 ^ 11 := Nat.pow_le_pow_right (by decide) (by omega)
  obtain ⟨M2, r1, r2, r3⟩ := m_laysL hO he FU 0 M hR (by omega) (by unfold FU; omega) (fun g hg => by omega)
  obtain ⟨b, s1, s2, s3⟩ := m_bsetL (hR.fx r2) hO he r3 FU 0 0 (by omega) (Nat.two_pow_pos _) (by unfold FU; omega) rfl
  refine ⟨b, M2, ?_, r2, s2, s3⟩
  unfold f_X6_bestSet
  rw [gdd_t mk.1, show f_X6_laysFines 150 (nI e) M = some M2 from r1, obb_s, show (0 : Int32) = nI 0 from rfl, m_fast (hR.fx r2) hO he (by decide) r3, obb_s]
  exact s1
end MB
theorem m_best {M : Mem} {w : Wd} (hO : OkW w) (hM : MI M w) (x f z : Int32) : MRes (f_X6_best 150 x f z M) M (lkBest x f z w.A) w := by
  have hn := hO.1.n
  unfold f_X6_best lkBest
  rw [gdd_t mk.1]
  rcases ix_cases x (n := w.A 3) (by omega) with ⟨e, he, rfl⟩ | ⟨hx, hx2⟩
  · rw [m_isEd hM.1 hn he, obb_s, if_neg (by decide), ixO_s (by omega) he]
    by_cases h1 : 0 ≤ f ∧ f ≤ 2
    · rw [if_neg (in_1 h1)]
      simp only [if_pos h1]
      by_cases h2 : 0 ≤ z ∧ z ≤ 1
      · obtain ⟨b, M2, r1, r2, r3, r4⟩ := m_bset hM.1 hO.1 he
        have hM2 : MI M2 w := hM.fr (r2.mono (fun r h => by unfold FnX at h; omega)) (fun k _ => r2.1 _ _ (by unfold FnX; decide))
        have c2 := costN_le hO.1 (hO.1.e e he) (c := b)
        have q2 := pcN_le b
        have hr : rkM w.A (73 + 16 * e) = costN w.A (73 + 16 * e) b * 32768 + pcN b * 2048 + b := r4.symm
        have hS : Sm MX M M2 := r2.mono (fun r h => by unfold FnX at h; unfold MX; omega)
        rw [if_neg (in_1 h2), r1, opp_s]
        simp only [if_pos h2]
        unfold lkBestA
        rw [hr]
        by_cases g0 : f = nI 0
        · rw [if_pos (show f = 0 from g0), if_pos g0, show (costN w.A (73 + 16 * e) b * 32768 + pcN b * 2048 + b) % 2048 = b by omega]
          exact ⟨M2, rfl, hM2, hS⟩
        rw [if_neg (show ¬ f = 0 from g0), if_neg g0]
        by_cases g1 : f = nI 1
        · rw [if_pos (show f = 1 from g1), if_pos g1, m_costBy hM2.1 hO.1 he (by omega), obb_s, show (costN w.A (73 + 16 * e) b * 32768 + pcN b * 2048 + b) / 32768 = costN w.A (73 + 16 * e) b by omega]
          exact ⟨M2, rfl, hM2, hS⟩
        rw [if_neg (show ¬ f = 1 from g1), if_neg g1, m_ones (by omega), obb_s, show (costN w.A (73 + 16 * e) b * 32768 + pcN b * 2048 + b) % 32768 / 2048 = pcN b by omega]
        exact ⟨M2, rfl, hM2, hS⟩
      · rw [if_pos (in_0 h2)]
        simp only [if_neg h2]
        exact MRes.no hM
    · rw [if_pos (in_0 h1)]
      simp only [if_neg h1]
      exact MRes.no hM
  · rw [m_isEdO hM.1 hn hx, obb_s, if_pos rfl, hx2]
    exact MRes.no hM
