/-! PURE: the reference: sue, whyNot, gap, edition -/
theorem m_isGap {M : Mem} {A : Nat → Nat} (hR : RowR M 151 0 A) (hO : Ok A) {e : Nat} (he : e < A 3) (x : Int32) : (∃ g, g + 1 < A (73 + 16 * e) ∧ x = nI g ∧ ixO x (A (73 + 16 * e) - 1) = some g ∧ f_X6_isGap 150 (nI e) x M = some 1) ∨ (ixO x (A (73 + 16 * e) - 1) = none ∧ f_X6_isGap 150 (nI e) x M = some 0) := by
  have hn := hO.n
  have hK := hO.e e he
  have h1 := hK.1
  have h12 := hK.2.1
  unfold f_X6_isGap
  rw [gdd_t mk.1, m_isEd hR hn he, obb_s, if_neg (by decide), show f_X6_of 150 (nI e) 0 M = some (nI (A (73 + 16 * e))) from m_of hR (by omega) (by decide), obb_s]
  rcases ix_cases x (n := A (73 + 16 * e) - 1) (by omega) with ⟨g, hg, rfl⟩ | ⟨hx, hx2⟩
  · refine Or.inl ⟨g, by omega, rfl, ixO_s (by omega) hg, ?_⟩
    rw [show (2 : Int32) = nI 2 from rfl, pk_sub (by omega), if_neg (in_1 ⟨nI_pos' (by omega), nI_le' (by omega) (by omega) (by omega)⟩)]
  · refine Or.inr ⟨hx2, ?_⟩
    have hz : f_X6_in x 0 (nI (A (73 + 16 * e)) - 2) = 0 := by
      have := in_ix (x := x) (n := A (73 + 16 * e) - 1) (by omega) hx
      rcases Nat.lt_or_ge (A (73 + 16 * e)) 2 with z | z
      · rw [show A (73 + 16 * e) = 1 by omega]
        refine in_0 (fun q => ?_)
        have := Int32.le_trans q.1 q.2
        exact absurd this (by decide)
      · rw [show (2 : Int32) = nI 2 from rfl, pk_sub z]
        rw [nI_sub1 (by omega), show A (73 + 16 * e) - 1 - 1 = A (73 + 16 * e) - 2 by omega] at this
        exact this
    rw [if_pos hz]
theorem ccS_cg {wt wt2 : Nat → Nat} {b w c : Nat} : ∀ k, (∀ j, j < k → wt2 j = wt j) → ccS wt2 b w c k = ccS wt b w c k
  | 0, _ => rfl
  | k + 1, h => by
    rw [ccS, ccS, ccS_cg k (fun j hj => h j (by omega)), h k (by omega)]
theorem cntF_cg {A A2 : Nat → Nat} {x y : Nat} (hO : Ok A) (h : ∀ i, 13 ≤ i → i < 73 → A2 i = A i) : ∀ k, k ≤ A 4 → cntF A2 x y k = cntF A x y k
  | 0, _ => rfl
  | k + 1, hk => by
    have hm := hO.m
    rw [cntF, cntF, cntF_cg hO h k (by omega), inF_cm (m := A 4) hm (fun i h1 h2 => h i h1 (by omega)) hO.q (show k < A 4 by omega), h (13 + 6 * k) (by omega) (by omega), h (14 + 6 * k) (by omega) (by omega)]
theorem costN_cg {A A2 : Nat → Nat} {o c : Nat} (hO : Ok A) (hK : OkE A o) (h1 : ∀ i, 1 ≤ i → i < 73 → i ≠ 5 → A2 i = A i) (h2 : A2 o = A o) (h3 : ∀ j, j < 12 → A2 (o + 4 + j) = A (o + 4 + j)) : costN A2 o c = costN A o c := by
  have h12 := hK.2.1
  have hm := hO.m
  have hw : ∀ j, j < A o → wtN A2 o j = wtN A o j := fun j hj => by
    have := hK.2.2.2.1 j hj
    unfold wtN
    rw [h3 j (by omega), h1 _ (by omega) (by omega) (by omega)]
  unfold costN clN fnN
  rw [h2, h1 1 (by decide) (by decide) (by decide), ccS_cg _ hw]
  congr 1
  refine sumN_congr (fun g hg => ?_)
  have e5 : A2 (o + 5 + g) = A (o + 5 + g) := by
    have := h3 (g + 1) (by omega)
    rwa [show o + 4 + (g + 1) = o + 5 + g by omega] at this
  unfold fineN cnt
  rw [h3 g (by omega), e5, h1 4 (by decide) (by decide) (by decide), cntF_cg hO (fun i a b => h1 i (by omega) b (by omega)) _ (Nat.le_refl _)]
  cases hr : cntF A (A (o + 4 + g)) (A (o + 5 + g)) (A 4) with
  | none => rfl
  | some r =>
    have := cntF_lt hr
    simp only
    rw [h1 (15 + 6 * r) (by omega) (by omega) (by omega), h1 (16 + 6 * r) (by omega) (by omega) (by omega)]
theorem m_go {M : Mem} {w : Wd} {A : Nat → Nat} (hM : MI M (w.toA A)) (hO : Ok A) {e g : Nat} (he : e < A 3) (hg : g + 1 < A (73 + 16 * e)) : ∃ M2, f_X6_goSue 150 (nI e) (nI g) M = some ((decA A e g).1, M2) ∧ MI M2 (w.toA (decA A e g).2) ∧ Sm (fun q => q = 151) M M2 := by
  have hR : RowR M 151 0 A := hM.1
  have hn := hO.n
  have hK := hO.e e he
  have hc := hK.c
  have h12 := hK.2.1
  have hfl : flN (A (73 + 16 * e + 1)) g < 2 ^ 11 := flN_lt hc (by omega)
  have hrl := rsnN_lt (A := A) (73 + 16 * e) g
  have hOd := ok_dec hO he hg
  unfold f_X6_goSue
  rw [gdd_t mk.1, m_reason hR hO he hg, obb_s]
  unfold decA at hOd ⊢
  by_cases h : rsnN A (73 + 16 * e) g = 0
  · rw [if_pos h] at hOd ⊢
    have R1 := hR.put (73 + 16 * e + 1) (flN (A (73 + 16 * e + 1)) g)
    have R2 := R1.put (73 + 16 * e + 3) (A (73 + 16 * e + 3) + 1)
    have R3 := R2.put 5 (A 5 + 1)
    have hce : ceN (updN (updN (updN A (73 + 16 * e + 1) (flN (A (73 + 16 * e + 1)) g)) (73 + 16 * e + 3) (A (73 + 16 * e + 3) + 1)) 5 (A 5 + 1)) e = costN A (73 + 16 * e) (flN (A (73 + 16 * e + 1)) g) := by
      unfold ceN
      rw [show updN (updN (updN A (73 + 16 * e + 1) (flN (A (73 + 16 * e + 1)) g)) (73 + 16 * e + 3) (A (73 + 16 * e + 3) + 1)) 5 (A 5 + 1) (73 + 16 * e + 1) = flN (A (73 + 16 * e + 1)) g by rw [updN_n (by omega), updN_n (by omega), updN_s]]
      exact costN_cg hO hK (fun i i1 i2 i5 => by rw [updN_n i5, updN_n (by omega), updN_n (by omega)]) (by rw [updN_n (by omega), updN_n (by omega), updN_n (by omega)]) (fun j hj => by rw [updN_n (by omega), updN_n (by omega), updN_n (by omega)])
    have he3 : e < updN (updN (updN A (73 + 16 * e + 1) (flN (A (73 + 16 * e + 1)) g)) (73 + 16 * e + 3) (A (73 + 16 * e + 3) + 1)) 5 (A 5 + 1) 3 := by
      rw [updN_n (by decide), updN_n (by omega), updN_n (by omega)]; exact he
    rw [h, if_pos (by decide), m_costOf hR hO he, obb_s, show f_X6_of 150 (nI e) 1 M = some (nI (A (73 + 16 * e + 1))) from m_of hR (by omega) (by decide), obb_s, p_shl1 (by omega), nx_xor, show A (73 + 16 * e + 1) ^^^ 2 ^ g = flN (A (73 + 16 * e + 1)) g from rfl, show (1 : Int32) = nI 1 from rfl, m_lays (by omega) (by decide), obb_s, show (3 : Int32) = nI 3 from rfl, m_of R1 (by omega) (by decide), obb_s, updN_n (by omega), show nI (A (73 + 16 * e + 3)) + nI 1 = nI (A (73 + 16 * e + 3) + 1) from nI_1 _, m_lays (by omega) (by decide), obb_s, mk.2.1, gdd_t mr.1, ml.1, gdd_t (by decide), show (5 : Int32).toNatClampNeg = 5 from rfl, R2.get (by decide), updN_n (by omega), updN_n (by omega), show nI (A 5) + nI 1 = nI (A 5 + 1) from nI_1 _, bvv_e, m_costOf R3 hOd he3, obb_s, hce]
    refine ⟨_, ?_, MI.sa (w := w.toA A) hM Sm.rf.p1.p1.p1 R3, Sm.rf.p1.p1.p1⟩
    unfold ceN
    rw [Int32.sub_eq_add_neg, Int32.sub_eq_add_neg, Int32.add_assoc]
  · have R1 := hR.put 6 (A 6 + 1)
    rw [if_neg h]
    rw [if_neg (show ¬ nI (rsnN A (73 + 16 * e) g) ≤ 0 from nI_nle' (b := 0) (by omega) (by decide) (by omega)), mk.2.1, gdd_t mr.1, ml.1, gdd_t (by decide), show (6 : Int32).toNatClampNeg = 6 from rfl, hR.get (by decide), nI_1, bvv_e]
    exact ⟨_, rfl, MI.sa (w := w.toA A) hM Sm.rf.p1 R1, Sm.rf.p1⟩
theorem m_sue {M : Mem} {w : Wd} (hO : OkW w) (hM : MI M w) (x y : Int32) : MRes (f_X6_sue 150 x y M) M (opSue x y w).1 (opSue x y w).2 := by
  have hn := hO.1.n
  unfold f_X6_sue opSue
  rw [gdd_t mk.1]
  rcases ix_cases x (n := w.A 3) (by omega) with ⟨e, he, rfl⟩ | ⟨hx, hx2⟩
  · rw [ixO_s (by omega) he]
    rcases m_isGap hM.1 hO.1 he y with ⟨g, g1, g2, g3, g4⟩ | ⟨g3, g4⟩
    · obtain ⟨M1, r1, r2, r3, r4⟩ := m_records hO hM
      have r2' : MI M1 ((keepW w).toA w.A) := by
        have := r2
        rw [show keepW w = (keepW w).toA (keepW w).A from rfl, keepW_A w] at this
        exact this
      obtain ⟨M2, s1, s2, s3⟩ := m_go r2' hO.1 he g1
      rw [g4, obb_s, if_neg (by decide), r1, obb_s, g2, s1, opp_s]
      rw [g2] at g3
      simp only [g3]
      exact ⟨M2, rfl, s2, (r3.mono (fun r h => h.ge)).tr (s3.mono (fun r h => S151.ge h))⟩
    · rw [g4, obb_s, if_pos rfl]
      simp only [g3]
      exact MRes.no hM
  · have hz : f_X6_isGap 150 x y M = some 0 := by
      unfold f_X6_isGap
      rw [gdd_t mk.1, m_isEdO hM.1 hn hx, obb_s, if_pos rfl]
    rw [hz, obb_s, if_pos rfl, hx2]
    exact MRes.no hM
