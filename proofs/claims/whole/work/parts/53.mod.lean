/-! PURE: the reference: drop, rule -/
theorem RowR.cg {M : Mem} {r o : Nat} {A A2 : Nat → Nat} (h : RowR M r o A) (e : ∀ k, k < 137 → A2 k = A k) : RowR M r o A2 := fun k hk => by rw [e k hk]; exact h k hk
theorem m_dropL {M : Mem} {A : Nat → Nat} {e : Nat} (he : e < 4) : ∀ (n x : Nat) (M1 : Mem), 73 + 16 * e ≤ x → x ≤ 137 → 137 - x < n → Sm (fun q => q = 151) M M1 → RowR M1 151 0 (fun k => if k < x then dropA A e k else A k) →
    ∃ M2, f_X6_drop_32 n 150 (nI x) M1 = some (nI (A 3 - 1), M2) ∧ Sm (fun q => q = 151) M M2 ∧ RowR M2 151 0 (dropA A e) := by
  intro n
  induction n with
  | zero => intro x _ _ _ h; omega
  | succ n ih =>
    intro x M1 hx1 hx hn hS hR
    rw [f_X6_drop_32, show (137 : Int32) = nI 137 from rfl]
    by_cases h : x = 137
    · subst h
      have hR2 : RowR M1 151 0 (dropA A e) := hR.cg (fun k hk => by rw [if_pos hk])
      rw [if_pos (nI_le' (by omega) (by omega) (by omega)), gdd_t mk.1, mk.2.1, gdd_t mr.1, ml.1, gdd_t (by decide), show (3 : Int32).toNatClampNeg = 3 from rfl, hR2.get (by decide)]
      exact ⟨M1, rfl, hS, hR2⟩
    · have hlt : x < 137 := by omega
      have step : ∀ v, v = dropA A e x → ∃ M2, f_X6_drop_32 n 150 (nI (x + 1)) (sI M1 151 x (nI v)) = some (nI (A 3 - 1), M2) ∧ Sm (fun q => q = 151) M M2 ∧ RowR M2 151 0 (dropA A e) := by
        intro v hv
        refine ih (x + 1) _ (by omega) (by omega) (by omega) hS.p1 ((hR.put x v).cg (fun k hk => ?_))
        by_cases z : k = x
        · rw [z, updN_s, if_pos (by omega), hv]
        · rw [updN_n z]
          by_cases z2 : k < x
          · rw [if_pos z2, if_pos (by omega)]
          · rw [if_neg z2, if_neg (by omega)]
      rw [if_neg (nI_nle' (by omega) (by omega) hlt), gdd_t mk.1, show (16 : Int32) = nI 16 from rfl, nI_add, mk.2.1, gdd_t mr.1, gdd_t mr.1, ml.1]
      by_cases h2 : 137 ≤ x + 16
      · rw [if_pos (nI_le' (by omega) (by omega) h2), gdd_t (inb_nI hlt (by decide)), nI_clamp (by omega), bvv_e, bvv_e, nI_1]
        exact step 0 (by unfold dropA; rw [if_neg (by omega), if_neg (by omega), if_pos (by omega)])
      · rw [if_neg (nI_nle' (by omega) (by omega) (by omega)), gdd_t (inb_nI (by omega) (by decide)), gdd_t (inb_nI hlt (by decide)), nI_clamp (by omega), nI_clamp (by omega), bvv_e, bvv_e, nI_1, hR.get (show x + 16 < 137 by omega)]
        exact step _ (by rw [if_neg (by omega), dropA_hi hx1 (by omega)])
theorem m_drop {M : Mem} {w : Wd} (hO : OkW w) (hM : MI M w) (x : Int32) : MRes (f_X6_drop 150 x M) M (opDrop x w).1 (opDrop x w).2 := by
  have hn := hO.1.n
  unfold f_X6_drop opDrop
  rw [gdd_t mk.1]
  rcases ix_cases x (n := w.A 3) (by omega) with ⟨e, he, rfl⟩ | ⟨hx, hx2⟩
  · obtain ⟨M1, r1, r2, r3, r4⟩ := m_records hO hM
    have hA := r2.kA
    obtain ⟨M2, s1, s2, s3⟩ := m_dropL (M := M1) (A := w.A) (e := e) (by omega) FU (73 + 16 * e) (sI M1 151 3 (nI (w.A 3 - 1))) (by omega) (by omega) (by unfold FU; omega) Sm.rf.p1 ((hA.put 3 (w.A 3 - 1)).cg (fun k hk => by
      by_cases z : k < 73 + 16 * e
      · rw [if_pos z]
        by_cases z3 : k = 3
        · rw [z3, updN_s]; rfl
        · rw [updN_n z3, dropA_lo z z3]
      · rw [if_neg z, updN_n (by omega)]))
    rw [m_isEd hM.1 hn he, obb_s, if_neg (by decide), ixO_s (by omega) he, r1, obb_s, mk.2.1, gdd_t mr.1, ml.1, gdd_t (by decide), show (3 : Int32).toNatClampNeg = 3 from rfl, hA.get (by decide), nI_sub1 (by omega), bvv_e, show (73 : Int32) = nI 73 from rfl, show (16 : Int32) = nI 16 from rfl, pk_mul, nI_add, bvv_e, s1]
    exact ⟨_, rfl, MI.sa r2 s2 s3, (r3.mono (fun r h => h.ge)).tr (s2.mono (fun r h => S151.ge h))⟩
  · rw [m_isEdO hM.1 hn hx, obb_s, if_pos rfl, hx2]
    exact MRes.no hM
theorem rule_eq {A : Nat → Nat} {x y c f t : Nat} (h10 : A 4 < 10) : ∀ k, k < 137 → ruleA A x y c f t k = updN (updN (updN (updN (updN (updN (updN A (13 + 6 * A 4) x) (13 + 6 * A 4 + 1) y) (13 + 6 * A 4 + 2) c) (13 + 6 * A 4 + 3) f) (13 + 6 * A 4 + 4) t) (13 + 6 * A 4 + 5) 0) 4 (A 4 + 1) k := by
  intro k hk
  by_cases h4 : k = 4
  · rw [h4, updN_s]; rfl
  rw [updN_n h4]
  by_cases h : k < 13 + 6 * A 4 ∨ 19 + 6 * A 4 ≤ k
  · rw [ruleA_o h4 h, updN_n (by omega), updN_n (by omega), updN_n (by omega), updN_n (by omega), updN_n (by omega), updN_n (by omega)]
  obtain ⟨j, rfl⟩ : ∃ j, k = 13 + 6 * A 4 + j := ⟨k - (13 + 6 * A 4), by omega⟩
  rw [ruleA_i (by omega)]
  unfold ruG
  by_cases h5 : j = 5
  · rw [h5, updN_s]; rfl
  rw [updN_n (by omega)]
  by_cases h6 : j = 4
  · rw [h6, updN_s]; rfl
  rw [updN_n (by omega)]
  by_cases h7 : j = 3
  · rw [h7, updN_s]; rfl
  rw [updN_n (by omega)]
  by_cases h8 : j = 2
  · rw [h8, updN_s]; rfl
  rw [updN_n (by omega)]
  by_cases h9 : j = 1
  · rw [h9, updN_s]; rfl
  rw [updN_n (by omega), show j = 0 by omega]
  exact updN_s.symm
theorem m_adds {M : Mem} {A : Nat → Nat} (hA : RowR M 151 0 A) (h10 : A 4 < 10) {i j c v q : Nat} (hc : c ≤ 1) : ∃ M2, f_X6_addsRuling 150 (nI i) (nI j) (nI c) (nI v) (nI q - 1) M = some M2 ∧ Sm (fun p => p = 151) M M2 ∧ RowR M2 151 0 (ruleA A i j c v q) := by
  have hR := ((((((hA.put (13 + 6 * A 4) i).put (13 + 6 * A 4 + 1) j).put (13 + 6 * A 4 + 2) c).put (13 + 6 * A 4 + 3) v).put (13 + 6 * A 4 + 4) q).put (13 + 6 * A 4 + 5) 0).put 4 (A 4 + 1)
  refine ⟨_, ?_, Sm.rf.p1.p1.p1.p1.p1.p1.p1, hR.cg (rule_eq h10)⟩
  unfold f_X6_addsRuling
  have hb : ∀ {α : Type} {z : Option α} {d : Nat}, d < 6 → gdd (inb (nI (13 + 6 * A 4 + d)) 137 = true) z = z := fun h => gdd_t (inb_nI (by omega) (by decide))
  rw [gdd_t mk.1, mk.2.1, gdd_t mr.1, ml.1, gdd_t (by decide), show (4 : Int32).toNatClampNeg = 4 from rfl, hA.get (by decide), show (13 : Int32) = nI 13 from rfl, show (6 : Int32) = nI 6 from rfl, pk_mul, nI_add, bvv_e]
  rw [show (0 : Int32) = nI 0 from rfl, show (1 : Int32) = nI 1 from rfl, show (2 : Int32) = nI 2 from rfl, show (3 : Int32) = nI 3 from rfl, show (4 : Int32) = nI 4 from rfl, show (5 : Int32) = nI 5 from rfl]
  simp only [nI_add, bvv_e]
  rw [hb (by decide), hb (by decide)]
  have e4 : ∀ (M1 : Mem) (d : Nat) (v : Int32), d < 6 → gI (sI M1 151 (nI (13 + 6 * A 4 + d)).toNatClampNeg v) 151 4 = gI M1 151 4 := fun M1 d v h => by
    rw [nI_clamp (by omega)]; exact gI_n (by omega)
  have cl : ∀ d, d < 6 → (nI (13 + 6 * A 4 + d)).toNatClampNeg = 13 + 6 * A 4 + d := fun d h => nI_clamp (by omega)
  have qq : nI q - nI 1 + nI 1 = nI q := ct_1
  by_cases h0 : nI c = nI 0
  · have hc0 : c = 0 := (nI_eq (by omega) (by decide)).mp h0
    subst hc0
    rw [if_pos rfl, hb (by decide), hb (by decide), hb (by decide), hb (by decide), qq, e4 _ _ _ (by decide), e4 _ _ _ (by decide), e4 _ _ _ (by decide), e4 _ _ _ (by decide), e4 _ _ _ (by decide), e4 _ _ _ (by decide), hA.get (by decide), nI_add, cl _ (by decide), cl _ (by decide), cl _ (by decide), cl _ (by decide), cl _ (by decide), cl _ (by decide)]
    rfl
  · have hc1 : c = 1 := by
      rcases Nat.lt_or_ge c 1 with e | e
      · exact absurd (by rw [show c = 0 by omega]) h0
      · omega
    subst hc1
    rw [if_neg h0, hb (by decide), hb (by decide), hb (by decide), hb (by decide), qq, e4 _ _ _ (by decide), e4 _ _ _ (by decide), e4 _ _ _ (by decide), e4 _ _ _ (by decide), e4 _ _ _ (by decide), e4 _ _ _ (by decide), hA.get (by decide), nI_add, cl _ (by decide), cl _ (by decide), cl _ (by decide), cl _ (by decide), cl _ (by decide), cl _ (by decide)]
    rfl
theorem m_isRule (x y f : Int32) : f_X6_isRule x y f = if (0 ≤ x ∧ x ≤ 5) ∧ (0 ≤ y ∧ y ≤ 5) ∧ 1 ≤ f ∧ f ≤ 20 then 1 else 0 := by
  unfold f_X6_isRule f_X6_isKind
  by_cases h1 : 0 ≤ x ∧ x ≤ 5
  · rw [if_neg (in_1 h1)]
    by_cases h2 : 0 ≤ y ∧ y ≤ 5
    · rw [if_neg (in_1 h2)]
      by_cases h3 : 1 ≤ f ∧ f ≤ 20
      · rw [if_neg (in_1 h3), if_pos ⟨h1, h2, h3⟩]
      · rw [if_pos (in_0 h3), if_neg (fun h => h3 h.2.2)]
    · rw [if_pos (in_0 h2), if_neg (fun h => h2 h.2.1)]
  · rw [if_pos (in_0 h1), if_neg (fun h => h1 h.1)]
theorem m_rule {M : Mem} {w : Wd} (hO : OkW w) (hM : MI M w) (x y : Int32) {c : Nat} (hc : c ≤ 1) (f t : Int32) : MRes (f_X6_rule 150 x y (nI c) f t M) M (opRule x y c f t w).1 (opRule x y c f t w).2 := by
  have hm := hO.1.m
  unfold f_X6_rule opRule
  rw [m_isRule]
  by_cases h1 : (0 ≤ x ∧ x ≤ 5) ∧ (0 ≤ y ∧ y ≤ 5) ∧ 1 ≤ f ∧ f ≤ 20
  · rw [if_pos h1, if_neg (by decide), mk.2.1, gdd_t mk.1, gdd_t mr.1, gdd_t mk.1, ml.1, gdd_t (by decide), show (4 : Int32).toNatClampNeg = 4 from rfl, hM.1.get (by decide)]
    rcases ct_cases t hm with ⟨q, q1, q2, q3⟩ | q3
    · obtain ⟨i, i1, rfl⟩ := in_ex (b := 5) (by decide) h1.1.1 h1.1.2
      obtain ⟨j, j1, rfl⟩ := in_ex (b := 5) (by decide) h1.2.1.1 h1.2.1.2
      obtain ⟨v, v1, v2, rfl⟩ := in_ex2 (a := 1) (b := 20) (by decide) (by decide) h1.2.2.1 h1.2.2.2
      rw [if_pos (And.intro h1 q3)]
      have body : MRes (if nI (w.A 4) = 10 then some (-3, M) else obb (f_X6_records 150 M) fun M7 => obb (f_X6_addsRuling 150 (nI i) (nI j) (nI c) (nI v) t M7) fun M9 => some (gI M9 151 4 - 1, M9)) M (if w.A 4 < 10 then (nI (w.A 4), (keepW w).toA (ruleA w.A (nI i).toNatClampNeg (nI j).toNatClampNeg c (nI v).toNatClampNeg (t + 1).toNatClampNeg)) else (-3, w)).1 (if w.A 4 < 10 then (nI (w.A 4), (keepW w).toA (ruleA w.A (nI i).toNatClampNeg (nI j).toNatClampNeg c (nI v).toNatClampNeg (t + 1).toNatClampNeg)) else (-3, w)).2 := by
        rw [show (10 : Int32) = nI 10 from rfl]
        by_cases h10 : w.A 4 < 10
        · obtain ⟨M1, r1, r2, r3, r4⟩ := m_records hO hM
          obtain ⟨M2, s1, s2, s3⟩ := m_adds r2.kA h10 (i := i) (j := j) (c := c) (v := v) (q := q) hc
          have e4 : ruleA w.A i j c v q 4 = w.A 4 + 1 := rfl
          rw [if_neg (nI_ne (by omega) (by decide) (by omega)), if_pos h10, q2, ct_1, nI_clamp (by omega), nI_clamp (by omega), nI_clamp (by omega), nI_clamp (by omega), r1, obb_s, s1, obb_s, s3.get (by decide), e4, nI_sub1 (by omega), Nat.add_sub_cancel]
          exact ⟨_, rfl, MI.sa r2 s2 s3, (r3.mono (fun r h => h.ge)).tr (s2.mono (fun r h => S151.ge h))⟩
        · rw [if_pos (by rw [show w.A 4 = 10 by omega]), if_neg h10]
          exact MRes.no hM
      by_cases ht : t = -1
      · rw [if_pos ht]; exact body
      · have hq0 : 1 ≤ q := by
          rcases Nat.eq_zero_or_pos q with e | e
          · exact absurd (by rw [q2, e]; rfl) ht
          · exact e
        have hru : f_X6_isRuling 150 t M = some 1 := by rw [q2, nI_sub1 hq0]; exact m_isRu hM.1 hm (by omega)
        rw [if_neg ht, hru, obb_s, if_neg (by decide)]; exact body
    · have all : ∀ n, n ≤ 10 → (-1 : Int32) ≤ nI n - 1 := by decide +kernel
      have ht : ¬ t = -1 := fun e => q3 (by rw [e]; exact ⟨by decide, all _ hm⟩)
      have hru : f_X6_isRuling 150 t M = some 0 := by
        rcases ix_cases t (n := w.A 4) (by omega) with ⟨r, hr, rfl⟩ | ⟨hx, -⟩
        · refine absurd ⟨?_, ?_⟩ q3
          · exact Int32.le_trans (by decide) (nI_pos' (show r < 2 ^ 31 by omega))
          · rw [nI_sub1 (by omega)]; exact nI_le' (by omega) (by omega) (by omega)
        · exact m_isRuO hM.1 hm hx
      rw [if_neg ht, hru, obb_s, if_pos rfl, if_neg (fun h => q3 h.2)]
      exact MRes.no hM
  · rw [if_neg h1, if_pos rfl, if_neg (fun h => h1 h.1)]
    exact MRes.no hM
