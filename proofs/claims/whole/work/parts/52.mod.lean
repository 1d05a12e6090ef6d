/-! PURE: the reference: editions and rulings of its row -/
section MO
variable {M : Mem} {A : Nat → Nat}
theorem m_of (hR : RowR M 151 0 A) {e j : Nat} (he : e < 4) (hj : j < 16) : f_X6_of 150 (nI e) (nI j) M = some (nI (A (73 + 16 * e + j))) := by
  unfold f_X6_of
  rw [gdd_t mk.1, mk.2.1, gdd_t mr.1, show (73 : Int32) = nI 73 from rfl, show (16 : Int32) = nI 16 from rfl, pk_mul, nI_add, nI_add, ml.1, gdd_t (inb_nI (by omega) (by decide)), nI_clamp (by omega), hR.get (by omega)]
theorem m_ofR (hR : RowR M 151 0 A) {r j : Nat} (hr : r < 10) (hj : j < 6) : f_X6_ofRuling 150 (nI r) (nI j) M = some (nI (A (13 + 6 * r + j))) := by
  unfold f_X6_ofRuling
  rw [gdd_t mk.1, mk.2.1, gdd_t mr.1, show (13 : Int32) = nI 13 from rfl, show (6 : Int32) = nI 6 from rfl, pk_mul, nI_add, nI_add, ml.1, gdd_t (inb_nI (by omega) (by decide)), nI_clamp (by omega), hR.get (by omega)]
theorem in_ix {x : Int32} {n : Nat} (hn : n < 100) (h : x < 0 ∨ nI n ≤ x) : f_X6_in x 0 (nI n - 1) = 0 := by
  refine in_0 (fun z => ?_)
  rcases h with h | h
  · exact absurd h (Int32.not_lt.mpr z.1)
  · rcases Nat.eq_zero_or_pos n with e | e
    · subst e
      have := Int32.le_trans z.1 z.2
      rw [nI_0s1] at this
      exact absurd this (by decide)
    · rw [nI_sub1 e] at z
      exact nI_nle' (by omega) (by omega) (show n - 1 < n by omega) (Int32.le_trans h z.2)
theorem in_is {j n : Nat} (hn : n < 100) (h : j < n) : f_X6_in (nI j) 0 (nI n - 1) = 1 := by
  rw [p_in, nI_sub1 (by omega), if_pos ⟨nI_pos' (by omega), nI_le' (by omega) (by omega) (by omega)⟩]
theorem m_isEd (hR : RowR M 151 0 A) (h3 : A 3 ≤ 4) {e : Nat} (he : e < A 3) : f_X6_isEdition 150 (nI e) M = some 1 := by
  unfold f_X6_isEdition
  rw [gdd_t mk.1, mk.2.1, gdd_t mr.1, ml.1, gdd_t (by decide), show (3 : Int32).toNatClampNeg = 3 from rfl, hR.get (by decide), in_is (by omega) he]
theorem m_isEdO (hR : RowR M 151 0 A) (h3 : A 3 ≤ 4) {x : Int32} (hx : x < 0 ∨ nI (A 3) ≤ x) : f_X6_isEdition 150 x M = some 0 := by
  unfold f_X6_isEdition
  rw [gdd_t mk.1, mk.2.1, gdd_t mr.1, ml.1, gdd_t (by decide), show (3 : Int32).toNatClampNeg = 3 from rfl, hR.get (by decide), in_ix (by omega) hx]
theorem m_isRu (hR : RowR M 151 0 A) (h4 : A 4 ≤ 10) {r : Nat} (hr : r < A 4) : f_X6_isRuling 150 (nI r) M = some 1 := by
  unfold f_X6_isRuling
  rw [gdd_t mk.1, mk.2.1, gdd_t mr.1, ml.1, gdd_t (by decide), show (4 : Int32).toNatClampNeg = 4 from rfl, hR.get (by decide), in_is (by omega) hr]
theorem m_isRuO (hR : RowR M 151 0 A) (h4 : A 4 ≤ 10) {x : Int32} (hx : x < 0 ∨ nI (A 4) ≤ x) : f_X6_isRuling 150 x M = some 0 := by
  unfold f_X6_isRuling
  rw [gdd_t mk.1, mk.2.1, gdd_t mr.1, ml.1, gdd_t (by decide), show (4 : Int32).toNatClampNeg = 4 from rfl, hR.get (by decide), in_ix (by omega) hx]
theorem m_forceL (hR : RowR M 151 0 A) (hO : Ok A) : ∀ (n q : Nat) (b : Bool), q ≤ A 4 → q < n → f_X6_isForce_4 M n 150 (nI b.toNat) (nI q - 1) = some (nI (b && (q == 0 || inF A (q - 1))).toNat) := by
  have h4 := hO.m
  have hq := hO.q
  intro n
  induction n with
  | zero => intro _ _ _ h; omega
  | succ n ih =>
    intro q b hq4 hn
    rw [f_X6_isForce_4]
    rcases Nat.eq_zero_or_pos q with h | h
    · subst h
      rw [nI_0s1, if_pos (by decide), gdd_t (isb_nI (by cases b <;> decide))]
      cases b <;> rfl
    · obtain ⟨q, rfl⟩ : ∃ p, q = p + 1 := ⟨q - 1, by omega⟩
      have hc := hq q (by omega)
      have hov := (hO.r q (by omega)).2.2.2.2.2.2
      rw [nI_sub1 (by omega), Nat.add_sub_cancel, if_neg (nI_neg (by omega)), show (4 : Int32) = nI 4 from rfl, show (5 : Int32) = nI 5 from rfl, m_ofR hR (by omega) (by decide), m_ofR hR (by omega) (by decide), show 13 + 6 * q + 4 = 17 + 6 * q by omega, show 13 + 6 * q + 5 = 18 + 6 * q by omega, inF_eq hq (show q < A 4 by omega)]
      simp only [obb_s, bvv_e, gdd_t mk.1]
      have e1 : (q + 1 == 0) = false := rfl
      cases b
      · have := ih (A (17 + 6 * q)) false (by omega) (by omega)
        rw [if_pos (by rfl)]
        exact this
      · rw [if_neg (by decide)]
        by_cases hv : A (18 + 6 * q) = 0
        · have := ih (A (17 + 6 * q)) true (by omega) (by omega)
          rw [if_pos ((nI_z (by omega)).mpr hv), hv]
          exact this
        · have := ih (A (17 + 6 * q)) false (by omega) (by omega)
          rw [if_neg (fun e => hv ((nI_z (by omega)).mp e)), beq_eq_false_iff_ne.mpr hv]
          exact this
theorem m_isForce (hR : RowR M 151 0 A) (hO : Ok A) {r : Nat} (hr : r < A 4) : f_X6_isForce 150 (nI r) M = some (nI (inF A r).toNat) := by
  have h4 := hO.m
  have h := m_forceL hR hO FU (r + 1) true (by omega) (by unfold FU; omega)
  rw [nI_sub1 (by omega), Nat.add_sub_cancel] at h
  exact h
theorem m_inForceL (hR : RowR M 151 0 A) (hO : Ok A) : ∀ (n j : Nat), j ≤ A 4 → A 4 - j < n → f_X6_inForce_4 M n 150 (nI (sumN (fun r => (inF A r).toNat) j)) (nI j) = some (nI (frcC A)) := by
  have h4 := hO.m
  intro n
  induction n with
  | zero => intro _ _ h; omega
  | succ n ih =>
    intro j hj hn
    rw [f_X6_inForce_4, gdd_t mk.1, mk.2.1, gdd_t mr.1, ml.1, gdd_t (by decide), show (4 : Int32).toNatClampNeg = 4 from rfl, hR.get (by decide)]
    by_cases h : j = A 4
    · subst h
      rw [if_pos (nI_le' (by omega) (by omega) (by omega))]; rfl
    · have hlt : j < A 4 := by omega
      have h2 := ih (j + 1) (by omega) (by omega)
      rw [sumN] at h2
      rw [if_neg (nI_nle' (by omega) (by omega) hlt), m_isForce hR hO hlt, obb_s]
      simp only [bvv_e]
      rw [nI_1, nI_1]
      cases hF : inF A j
      · rw [hF] at h2
        rw [if_pos (by rfl), Int32.add_zero]; exact h2
      · rw [hF] at h2
        rw [if_neg (by decide)]; exact h2
theorem m_inForce (hR : RowR M 151 0 A) (hO : Ok A) : f_X6_inForce 150 M = some (nI (frcC A)) := by
  have h4 := hO.m
  exact m_inForceL hR hO FU 0 (by omega) (by unfold FU; omega)
theorem m_lays {e j v : Nat} (he : e < 4) (hj : j < 16) : f_X6_lays 150 (nI e) (nI j) (nI v) M = some (sI M 151 (73 + 16 * e + j) (nI v)) := by
  unfold f_X6_lays
  rw [gdd_t mk.1, mk.2.1, gdd_t mr.1, show (73 : Int32) = nI 73 from rfl, show (16 : Int32) = nI 16 from rfl, pk_mul, nI_add, nI_add, ml.1, gdd_t (inb_nI (by omega) (by decide)), nI_clamp (by omega), bvv_e]
end MO
theorem m_stay {M : Mem} {w : Wd} (hO : OkW w) (hM : MI M w) (x y : Int32) : MRes (f_X6_stay 150 x y M) M (opStay x y w).1 (opStay x y w).2 := by
  have hn := hO.1.n
  unfold f_X6_stay opStay
  rw [gdd_t mk.1]
  rcases ix_cases x (n := w.A 3) (by omega) with ⟨e, he, rfl⟩ | ⟨hx, hx2⟩
  · rw [m_isEd hM.1 hn he, obb_s, if_neg (by decide), ixO_s (by omega) he]
    by_cases h2 : 0 ≤ y ∧ y ≤ 30
    · obtain ⟨v, v1, rfl⟩ := in_ex (b := 30) (by decide) h2.1 h2.2
      obtain ⟨M1, r1, r2, r3, r4⟩ := m_records hO hM
      have hA := r2.kA
      rw [if_neg (in_1 h2), r1, obb_s, show (2 : Int32) = nI 2 from rfl, m_of hA (by omega) (by decide), obb_s, mk.2.1, gdd_t mr.1, ml.1, gdd_t (by decide), show (0 : Int32).toNatClampNeg = 0 from rfl, hA.get (by decide), nI_add, m_lays (by omega) (by decide), obb_s]
      simp only [if_pos h2]
      rw [nI_clamp (by omega), show 75 + 16 * e = 73 + 16 * e + 2 by omega]
      exact m_put1 r2 r3 _ _
    · rw [if_pos (in_0 h2)]
      simp only [if_neg h2]
      exact MRes.no hM
  · rw [m_isEdO hM.1 hn hx, obb_s, if_pos rfl, hx2]
    exact MRes.no hM
theorem m_overrule {M : Mem} {w : Wd} (hO : OkW w) (hM : MI M w) (x : Int32) : MRes (f_X6_overrule 150 x M) M (opOver x w).1 (opOver x w).2 := by
  have hm := hO.1.m
  unfold f_X6_overrule opOver
  rw [gdd_t mk.1]
  rcases ix_cases x (n := w.A 4) (by omega) with ⟨r, hr, rfl⟩ | ⟨hx, hx2⟩
  · have hov := (hO.1.r r hr).2.2.2.2.2.2
    rw [m_isRu hM.1 hm hr, obb_s, if_neg (by decide), show (5 : Int32) = nI 5 from rfl, m_ofR hM.1 (by omega) (by decide), obb_s, ixO_s (by omega) hr, show 13 + 6 * r + 5 = 18 + 6 * r by omega]
    by_cases h0 : w.A (18 + 6 * r) = 0
    · obtain ⟨M1, r1, r2, r3, r4⟩ := m_records hO hM
      have hA := r2.kA
      have hO2 := ok_over hO.1 hr
      have hA2 : RowR (sI M1 151 (18 + 6 * r) (nI 1)) 151 0 (overA w.A r) := hA.put (18 + 6 * r) 1
      rw [h0, if_neg (by decide), r1, obb_s, m_inForce hA hO.1, obb_s, mk.2.1, gdd_t mr.1, show (13 : Int32) = nI 13 from rfl, show (6 : Int32) = nI 6 from rfl, pk_mul, nI_add, nI_add, ml.1, gdd_t (inb_nI (by omega) (by decide)), nI_clamp (by omega), bvv_e, show 13 + 6 * r + 5 = 18 + 6 * r by omega, show (1 : Int32) = nI 1 from rfl, m_inForce hA2 hO2, obb_s]
      simp only [if_pos h0]
      exact m_put1 r2 r3 _ _
    · rw [if_pos (by rw [show w.A (18 + 6 * r) = 1 by omega]; rfl)]
      simp only [if_neg h0]
      exact MRes.no hM
  · rw [m_isRuO hM.1 hm hx, obb_s, if_pos rfl, hx2]
    exact MRes.no hM
