/-! PURE: the reference: costs and fines -/
section MC
variable {M : Mem} {A : Nat → Nat}
theorem m_word (hR : RowR M 151 0 A) {e j : Nat} (he : e < 4) (hj : j < 12) : f_X6_wordOf 150 (nI e) (nI j) M = some (nI (A (73 + 16 * e + 4 + j))) := by
  unfold f_X6_wordOf
  rw [gdd_t mk.1, show (4 : Int32) = nI 4 from rfl, nI_add, m_of hR he (by omega), obb_s, ← Nat.add_assoc]
theorem m_wt (hR : RowR M 151 0 A) (hO : Ok A) {e j : Nat} (he : e < A 3) (hj : j < A (73 + 16 * e)) : f_X6_weightOf 150 (nI e) (nI j) M = some (nI (wtN A (73 + 16 * e) j)) := by
  have hn := hO.n
  have hK := hO.e e he
  have h12 := hK.2.1
  have h6 := hK.2.2.2.1 j hj
  unfold f_X6_weightOf wtN
  rw [gdd_t mk.1, m_word hR (by omega) (by omega), obb_s, mk.2.1, gdd_t mr.1, show (7 : Int32) = nI 7 from rfl, nI_add, ml.1, gdd_t (inb_nI (by omega) (by decide)), nI_clamp (by omega), hR.get (by omega)]
theorem m_cntL (hR : RowR M 151 0 A) (hO : Ok A) {x y : Nat} (hx : x < 2 ^ 31) (hy : y < 2 ^ 31) : ∀ (n j : Nat), j ≤ A 4 → A 4 - j < n → f_X6_counting_6 M n 150 (nI x) (nI y) (enc (cntF A x y j)) (nI j) = some (enc (cnt A x y)) := by
  have h4 := hO.m
  intro n
  induction n with
  | zero => intro _ _ h; omega
  | succ n ih =>
    intro j hj hn
    rw [f_X6_counting_6, gdd_t mk.1, mk.2.1, gdd_t mr.1, ml.1, gdd_t (by decide), show (4 : Int32).toNatClampNeg = 4 from rfl, hR.get (by decide)]
    by_cases h : j = A 4
    · subst h
      rw [if_pos (nI_le' (by omega) (by omega) (by omega))]; rfl
    · have hlt : j < A 4 := by omega
      have hk := hO.r j hlt
      have h2 := ih (j + 1) (by omega) (by omega)
      rw [cntF] at h2
      rw [if_neg (nI_nle' (by omega) (by omega) hlt), show (0 : Int32) = nI 0 from rfl, show (1 : Int32) = nI 1 from rfl, m_ofR hR (by omega) (by decide), obb_s, m_ofR hR (by omega) (by decide), obb_s, m_isForce hR hO hlt, obb_s, Nat.add_zero, show 13 + 6 * j + 1 = 14 + 6 * j by omega]
      simp only [bvv_e]
      rw [show nI j + nI 1 = nI (j + 1) from nI_1 j]
      by_cases h1 : A (13 + 6 * j) = x
      · rw [if_pos (by rw [h1])]
        by_cases h3 : A (14 + 6 * j) = y
        · rw [if_pos (by rw [h3])]
          cases hF : inF A j
          · rw [if_pos (by rfl)]
            rw [if_neg (fun z => by rw [hF] at z; cases z.1)] at h2
            exact h2
          · rw [if_neg (by decide)]
            rw [if_pos ⟨hF, h1, h3⟩] at h2
            exact h2
        · rw [if_neg (nI_ne (by have := hk.2.1; omega) hy h3)]
          rw [if_neg (fun z => h3 z.2.2)] at h2
          exact h2
      · rw [if_neg (nI_ne (by have := hk.1; omega) hx h1)]
        rw [if_neg (fun z => h1 z.2.1)] at h2
        exact h2
theorem m_counting (hR : RowR M 151 0 A) (hO : Ok A) {x y : Nat} (hx : x < 2 ^ 31) (hy : y < 2 ^ 31) : f_X6_counting 150 (nI x) (nI y) M = some (enc (cnt A x y)) := by
  have h4 := hO.m
  exact m_cntL hR hO hx hy FU 0 (by omega) (by unfold FU; omega)
theorem m_rulingOf (hR : RowR M 151 0 A) (hO : Ok A) {e g : Nat} (he : e < A 3) (hg : g + 1 < A (73 + 16 * e)) : f_X6_rulingOf 150 (nI e) (nI g) M = some (enc (cnt A (A (73 + 16 * e + 4 + g)) (A (73 + 16 * e + 5 + g)))) := by
  have hn := hO.n
  have hK := hO.e e he
  have h12 := hK.2.1
  have k1 := hK.2.2.2.1 g (by omega)
  have k2 := hK.2.2.2.1 (g + 1) hg
  rw [show 73 + 16 * e + 4 + (g + 1) = 73 + 16 * e + 5 + g by omega] at k2
  unfold f_X6_rulingOf
  rw [gdd_t mk.1, m_word hR (by omega) (by omega), obb_s, nI_1, m_word hR (by omega) (by omega), obb_s, show 73 + 16 * e + 4 + (g + 1) = 73 + 16 * e + 5 + g by omega, m_counting hR hO (by omega) (by omega), obb_s]
theorem m_fineOf (hR : RowR M 151 0 A) (hO : Ok A) {e g c : Nat} (he : e < A 3) (hg : g + 1 < A (73 + 16 * e)) (hc : c < 2 ^ 31) : f_X6_fineOf 150 (nI e) (nI g) (nI c) M = some (nI (fineN A (73 + 16 * e) g (bitN c g))) := by
  have h12 := (hO.e e he).2.1
  have h4 := hO.m
  unfold f_X6_fineOf fineN
  rw [gdd_t mk.1, m_rulingOf hR hO he hg, obb_s]
  cases hr : cnt A (A (73 + 16 * e + 4 + g)) (A (73 + 16 * e + 5 + g)) with
  | none => rw [if_pos enc_neg]; rfl
  | some r =>
    have hlt := cnt_lt hr
    have hk := hO.r r hlt
    have hb := bitN_lt c g
    rw [show enc (some r) = nI r from rfl, if_neg (nI_neg (by omega)), show (2 : Int32) = nI 2 from rfl, show (3 : Int32) = nI 3 from rfl, m_ofR hR (by omega) (by decide), obb_s, p_bit hc (by omega), m_ofR hR (by omega) (by decide), obb_s, show 13 + 6 * r + 2 = 15 + 6 * r by omega, show 13 + 6 * r + 3 = 16 + 6 * r by omega]
    simp only
    by_cases h : A (15 + 6 * r) = bitN c g
    · rw [if_pos (by rw [h]), if_pos h]; rfl
    · rw [if_neg (nI_ne (by have := hk.2.2.1; omega) (by omega) h), if_neg h]
theorem m_finesL (hR : RowR M 151 0 A) (hO : Ok A) {e c : Nat} (he : e < A 3) (hc : c < 2 ^ 31) : ∀ (n j : Nat), j ≤ A (73 + 16 * e) - 1 → A (73 + 16 * e) - 1 - j < n → f_X6_finesOf_5 M n 150 (nI e) (nI c) (nI (sumN (fun g => fineN A (73 + 16 * e) g (bitN c g)) j)) (nI j) = some (nI (fnN A (73 + 16 * e) c)) := by
  have hn := hO.n
  have hK := hO.e e he
  have h1 := hK.1
  have h12 := hK.2.1
  intro n
  induction n with
  | zero => intro _ _ h; omega
  | succ n ih =>
    intro j hj hn
    rw [f_X6_finesOf_5, gdd_t mk.1, show (0 : Int32) = nI 0 from rfl, m_of hR (by omega) (by decide), obb_s, nI_1, Nat.add_zero]
    by_cases h : j = A (73 + 16 * e) - 1
    · subst h
      rw [if_pos (nI_le' (by omega) (by omega) (by omega))]; rfl
    · have h2 := ih (j + 1) (by omega) (by omega)
      rw [sumN] at h2
      rw [if_neg (nI_nle' (by omega) (by omega) (by omega)), m_fineOf hR hO he (by omega) hc, obb_s, nI_add]
      simp only [bvv_e]
      exact h2
theorem m_fines (hR : RowR M 151 0 A) (hO : Ok A) {e c : Nat} (he : e < A 3) (hc : c < 2 ^ 31) : f_X6_finesOf 150 (nI e) (nI c) M = some (nI (fnN A (73 + 16 * e) c)) := by
  have h12 := (hO.e e he).2.1
  exact m_finesL hR hO he hc FU 0 (by omega) (by unfold FU; omega)
theorem m_off (hR : RowR M 151 0 A) (hO : Ok A) {p : Nat} (hp : p < 2 ^ 30) : f_X6_off 150 (nI p) M = some (nI (dst p (A 1))) := by
  have hb := hO.b
  unfold f_X6_off dst
  rw [gdd_t mk.1, mk.2.1, gdd_t mr.1, ml.1, gdd_t (by decide), show (1 : Int32).toNatClampNeg = 1 from rfl, hR.get (by decide)]
  by_cases h : A 1 ≤ p
  · rw [if_pos (nI_le' (by omega) (by omega) h), pk_sub h, show A 1 - p = 0 by omega, Nat.add_zero]
  · rw [if_neg (nI_nle' (by omega) (by omega) (by omega)), pk_sub (by omega), show p - A 1 = 0 by omega, Nat.zero_add]
theorem m_clL (hR : RowR M 151 0 A) (hO : Ok A) {e c : Nat} (he : e < A 3) (hc : c < 2 ^ 31) : ∀ (n j : Nat), j ≤ A (73 + 16 * e) → A (73 + 16 * e) - j < n → f_X6_clauseCost_16 M n 150 (nI e) (nI c) (nI (ccS (wtN A (73 + 16 * e)) (A 1) (A (73 + 16 * e)) c j).1) (nI (ccS (wtN A (73 + 16 * e)) (A 1) (A (73 + 16 * e)) c j).2) (nI (A (73 + 16 * e))) (nI j) = some (nI (clN A (73 + 16 * e) c)) := by
  have hn := hO.n
  have hK := hO.e e he
  have h1 := hK.1
  have h12 := hK.2.1
  intro n
  induction n with
  | zero => intro _ _ h; omega
  | succ n ih =>
    intro j hj hn
    rw [f_X6_clauseCost_16]
    by_cases h : j = A (73 + 16 * e)
    · subst h
      rw [if_pos (nI_le' (by omega) (by omega) (by omega))]; rfl
    · have hlt : j < A (73 + 16 * e) := by omega
      have h2 := ih (j + 1) (by omega) (by omega)
      have hw := hK.wt hO hlt
      have hs := ccS_2 (bal := A 1) (w := A (73 + 16 * e)) (c := c) (fun i hi => (hK.wt hO hi).2) j (by omega)
      have hbt := bitN_lt c j
      rw [ccS] at h2
      rw [if_neg (nI_nle' (by omega) (by omega) hlt), gdd_t mk.1, m_wt hR hO he hlt, obb_s, nI_add, nI_sub1 h1]
      simp only [bvv_e]
      rw [m_off hR hO (by omega), obb_s, nI_add, nI_1, p_bit hc (by omega)]
      by_cases hz : j + 1 = A (73 + 16 * e)
      · rw [if_pos (by rw [show j = A (73 + 16 * e) - 1 by omega])]
        rw [if_pos (Or.inl hz)] at h2
        exact h2
      · rw [if_neg (nI_ne (by omega) (by omega) (by omega))]
        by_cases hb : bitN c j = 1
        · rw [if_pos ((nI_2 hbt).mpr hb)]
          rw [if_pos (Or.inr hb)] at h2
          exact h2
        · rw [if_neg (fun z => hb ((nI_2 hbt).mp z)), Int32.add_zero]
          rw [if_neg (by omega)] at h2
          exact h2
theorem m_clause (hR : RowR M 151 0 A) (hO : Ok A) {e c : Nat} (he : e < A 3) (hc : c < 2 ^ 31) : f_X6_clauseCost 150 (nI e) (nI c) M = some (nI (clN A (73 + 16 * e) c)) := by
  have hn := hO.n
  have h12 := (hO.e e he).2.1
  unfold f_X6_clauseCost
  rw [gdd_t mk.1, show (0 : Int32) = nI 0 from rfl, m_of hR (by omega) (by decide), obb_s]
  exact m_clL hR hO he hc FU 0 (by omega) (by unfold FU; omega)
theorem m_costBy (hR : RowR M 151 0 A) (hO : Ok A) {e c : Nat} (he : e < A 3) (hc : c < 2 ^ 31) : f_X6_costBy 150 (nI e) (nI c) M = some (nI (costN A (73 + 16 * e) c)) := by
  unfold f_X6_costBy costN
  rw [gdd_t mk.1, m_clause hR hO he hc, obb_s, m_fines hR hO he hc, obb_s, nI_add]
theorem m_costOf (hR : RowR M 151 0 A) (hO : Ok A) {e : Nat} (he : e < A 3) : f_X6_costOf 150 (nI e) M = some (nI (ceN A e)) := by
  have hn := hO.n
  have hc := (hO.e e he).c
  unfold f_X6_costOf ceN
  rw [gdd_t mk.1, show (1 : Int32) = nI 1 from rfl, m_of hR (by omega) (by decide), obb_s, m_costBy hR hO he (by omega), obb_s]
end MC
theorem m_onesL {c : Nat} (hc : c < 2 ^ 31) : ∀ (n j : Nat), j ≤ 12 → 12 - j < n → f_X6_ones_4 n (nI c) (nI (sumN (bitN c) j)) (nI j) = some (nI (pcN c)) := by
  intro n
  induction n with
  | zero => intro _ _ h; omega
  | succ n ih =>
    intro j hj hn
    rw [f_X6_ones_4, show (12 : Int32) = nI 12 from rfl]
    by_cases h : j = 12
    · subst h
      rw [if_pos (nI_le' (by omega) (by omega) (by omega))]; rfl
    · have h2 := ih (j + 1) (by omega) (by omega)
      rw [sumN] at h2
      rw [if_neg (nI_nle' (by omega) (by omega) (by omega)), p_bit hc (by omega), nI_add, bvv_e, bvv_e, nI_1]
      exact h2
theorem m_ones {c : Nat} (hc : c < 2 ^ 31) : f_X6_ones (nI c) = some (nI (pcN c)) := m_onesL hc FU 0 (by omega) (by unfold FU; omega)
