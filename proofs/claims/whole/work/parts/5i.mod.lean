/-! PURE: the reference: ways -/
def MyR (M : Mem) (A : Nat → Nat) (o m : Nat) : Prop := ∀ t, t < m → gI M 158 t = nI (wyP (wtN A o) (A 2) t)
theorem RowR.f8 {M M2 : Mem} {A : Nat → Nat} (h : RowR M 151 0 A) (hS : Sm (fun r => r = 158) M M2) : RowR M2 151 0 A := fun k hk => (hS.1 _ _ (by decide)).trans (h k hk)
section MY
variable {A : Nat → Nat}
theorem m_wyI (hO : Ok A) {e m : Nat} (he : e < A 3) (hm : m < A (73 + 16 * e)) (kk : Nat → Int32 → Int32 → Int32 → Mem → Option (Int32 × Mem)) : ∀ (n k : Nat) (M : Mem), RowR M 151 0 A → MyR M A (73 + 16 * e) (m + 1) → k ≤ m + 1 → m + 1 - k < n → gI M 158 (m + 1) = nI (sumN (wyG A (73 + 16 * e) m) k) →
    ∃ M2, Sm (fun r => r = 158) M M2 ∧ MyR M2 A (73 + 16 * e) (m + 2) ∧ f_X6_splits_36 kk n 150 (nI e) (nI (A (73 + 16 * e))) (nI (m + 1)) (nI (segN (wtN A (73 + 16 * e)) (m + 1 - k) k)) (nI (m + 1 - k) - 1) M = kk 150 (nI e) (nI (A (73 + 16 * e))) (nI (m + 2)) M2 := by
  have hK := hO.e e he
  have hw := hK.2.1
  have hh := hO.h
  intro n
  induction n with
  | zero => intro k _ _ _ _ h; omega
  | succ n ih =>
    intro k M hR hY hk hn hG
    rw [f_X6_splits_36]
    by_cases h : k = m + 1
    · subst h
      rw [if_pos (by rw [Nat.sub_self, nI_0s1]; decide), bvv_e, nI_1]
      refine ⟨M, Sm.rf, fun t ht => ?_, rfl⟩
      by_cases z : t = m + 1
      · rw [z, hG, wyP_s]; rfl
      · exact hY t (by omega)
    · obtain ⟨s, hs1⟩ : ∃ s, s + 1 = m + 1 - k := ⟨m + 1 - k - 1, by omega⟩
      have hl := segW_le hO hK (s := s) (k := k + 1) (by omega)
      have eW : segN (wtN A (73 + 16 * e)) (s + 1) k + wtN A (73 + 16 * e) s = segN (wtN A (73 + 16 * e)) s (k + 1) := by rw [segN_cons]; omega
      have step : ∀ v, v = sumN (wyG A (73 + 16 * e) m) (k + 1) → ∃ M2, Sm (fun r => r = 158) M M2 ∧ MyR M2 A (73 + 16 * e) (m + 2) ∧ f_X6_splits_36 kk n 150 (nI e) (nI (A (73 + 16 * e))) (nI (m + 1)) (nI (segN (wtN A (73 + 16 * e)) s (k + 1))) (nI s - 1) (sI M 158 (m + 1) (nI v)) = kk 150 (nI e) (nI (A (73 + 16 * e))) (nI (m + 2)) M2 := by
        intro v hv
        have hS : Sm (fun r => r = 158) M (sI M 158 (m + 1) (nI v)) := Sm.put Sm.rf rfl
        obtain ⟨M2, r1, r2, r3⟩ := ih (k + 1) _ (hR.f8 hS) (fun t ht => by rw [gI_n (Or.inr (by omega))]; exact hY t ht) (by omega) (by omega) (by rw [gI_s, hv])
        rw [show m + 1 - (k + 1) = s by omega] at r3
        exact ⟨M2, hS.tr r1, r2, r3⟩
      rw [← hs1, nI_sub1 (by omega), Nat.add_sub_cancel, if_neg (nI_neg (by omega)), gdd_t mk.1, m_wt hR hO he (by omega), obb_s, bvv_e, nI_add, eW, mk.2.2.2.2.2.2.2.2, gdd_t mr.2.2.2.2.2.2.2, ml.2.2.2.2.2.2.2, gdd_t (inb_nI (by omega) (by decide)), mk.2.1, gdd_t mr.1, ml.1, gdd_t (by decide), show (2 : Int32).toNatClampNeg = 2 from rfl, hR.get (by decide), nI_clamp (by omega), hG, Int32.add_zero]
      simp only [bvv_e]
      rw [nI_pd]
      by_cases h2 : segN (wtN A (73 + 16 * e)) s (k + 1) ≤ A 2
      · rw [if_neg (fun z => by have := (nI_ltI (by omega) (by omega)).mp z; omega), gdd_t (inb_nI (by omega) (by decide)), nI_clamp (by omega), hY s (by omega), nI_add]
        exact step _ (by rw [sumN, show wyG A (73 + 16 * e) m k = wyP (wtN A (73 + 16 * e)) (A 2) s by unfold wyG; rw [show m - k = s by omega, if_pos h2]])
      · rw [if_pos ((nI_ltI (by omega) (by omega)).mpr (by omega))]
        exact step _ (by rw [sumN, show wyG A (73 + 16 * e) m k = 0 by unfold wyG; rw [show m - k = s by omega, if_neg h2], Nat.add_zero])
theorem m_wyL (hO : Ok A) {e : Nat} (he : e < A 3) : ∀ (n m : Nat) (M : Mem), RowR M 151 0 A → MyR M A (73 + 16 * e) (m + 1) → m ≤ A (73 + 16 * e) → A (73 + 16 * e) - m < n → ∃ M2, f_X6_splits_16 n 150 (nI e) (nI (A (73 + 16 * e))) (nI (m + 1)) M = some (nI (wyP (wtN A (73 + 16 * e)) (A 2) (A (73 + 16 * e))), M2) ∧ Sm (fun r => r = 158) M M2 := by
  have hK := hO.e e he
  have hw := hK.2.1
  intro n
  induction n with
  | zero => intro m M _ _ _ h; omega
  | succ n ih =>
    intro m M hR hY hm hn
    rw [f_X6_splits_16]
    by_cases h : m = A (73 + 16 * e)
    · subst h
      rw [if_pos ((nI_ltI (by omega) (by omega)).mpr (by omega)), gdd_t mk.1, mk.2.2.2.2.2.2.2.2, gdd_t mr.2.2.2.2.2.2.2, ml.2.2.2.2.2.2.2, gdd_t (inb_nI (by omega) (by decide)), nI_clamp (by omega), hY _ (by omega)]
      exact ⟨M, rfl, Sm.rf⟩
    · have hS : Sm (fun r => r = 158) M (sI M 158 (m + 1) 0) := Sm.put Sm.rf rfl
      obtain ⟨M1, s1, s2, s3⟩ := m_wyI hO he (show m < A (73 + 16 * e) by omega) (f_X6_splits_16 n) FU 0 (sI M 158 (m + 1) 0) (hR.f8 hS) (fun t ht => by rw [gI_n (Or.inr (by omega))]; exact hY t ht) (by omega) (by unfold FU; omega) (by rw [gI_s]; rfl)
      have hS1 : Sm (fun r => r = 158) M M1 := hS.tr s1
      obtain ⟨M2, r1, r2⟩ := ih (m + 1) M1 (hR.f8 hS1) s2 (by omega) (by omega)
      refine ⟨M2, ?_, hS1.tr r2⟩
      rw [if_neg (fun z => by have := (nI_ltI (by omega) (by omega)).mp z; omega), gdd_t mk.1, mk.2.2.2.2.2.2.2.2, gdd_t mr.2.2.2.2.2.2.2, ml.2.2.2.2.2.2.2, gdd_t (inb_nI (by omega) (by decide)), nI_clamp (by omega), bvv_e, bvv_e]
      exact s3.trans r1
theorem m_splits {M : Mem} (hR : RowR M 151 0 A) (hO : Ok A) {e : Nat} (he : e < A 3) : ∃ M2, f_X6_splits 150 (nI e) M = some (nI (wyP (wtN A (73 + 16 * e)) (A 2) (A (73 + 16 * e))), M2) ∧ Sm (fun r => r = 158) M M2 := by
  have hn := hO.n
  have hK := hO.e e he
  have hw := hK.2.1
  have hS : Sm (fun r => r = 158) M (sI M 158 0 1) := Sm.put Sm.rf rfl
  obtain ⟨M2, r1, r2⟩ := m_wyL hO he FU 0 _ (hR.f8 hS) (fun t ht => by rw [show t = 0 by omega, gI_s]; rfl) (by omega) (by unfold FU; omega)
  refine ⟨M2, ?_, hS.tr r2⟩
  unfold f_X6_splits
  rw [gdd_t mk.1, show f_X6_of 150 (nI e) 0 M = some (nI (A (73 + 16 * e))) from m_of hR (by omega) (by decide), obb_s, mk.2.2.2.2.2.2.2.2, gdd_t mr.2.2.2.2.2.2.2, ml.2.2.2.2.2.2.2, gdd_t (by decide), show (0 : Int32).toNatClampNeg = 0 from rfl, bvv_e]
  exact r1
end MY
theorem m_ways {M : Mem} {w : Wd} (hO : OkW w) (hM : MI M w) (x z : Int32) : MRes (f_X6_ways 150 x z M) M (lkWays x z w.A) w := by
  have hn := hO.1.n
  unfold f_X6_ways lkWays
  rw [gdd_t mk.1]
  rcases ix_cases x (n := w.A 3) (by omega) with ⟨e, he, rfl⟩ | ⟨hx, hx2⟩
  · rw [m_isEd hM.1 hn he, obb_s, if_neg (by decide), ixO_s (by omega) he]
    by_cases h2 : 0 ≤ z ∧ z ≤ 1
    · obtain ⟨M2, r1, r2⟩ := m_splits hM.1 hO.1 he
      rw [if_neg (in_1 h2), r1, opp_s]
      simp only [if_pos h2]
      exact ⟨M2, rfl, hM.fr (r2.mono (fun r h => by omega)) (fun k _ => r2.1 _ _ (by decide)), r2.mono (fun r h => by unfold MX; omega)⟩
    · rw [if_pos (in_0 h2)]
      simp only [if_neg h2]
      exact MRes.no hM
  · rw [m_isEdO hM.1 hn hx, obb_s, if_pos rfl, hx2]
    exact MRes.no hM
