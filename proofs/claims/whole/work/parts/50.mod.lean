/-! PURE: the reference's side: what its memory holds, records -/
def RowR (M : Mem) (r o : Nat) (A : Nat → Nat) : Prop := ∀ k, k < 137 → gI M r (o + k) = nI (A k)
def MHis (M : Mem) (h : Nat) (B : Nat → Nat → Nat) : Prop := gI M 150 2 = nI h ∧ ∀ i, i < h → RowR M 152 (137 * i) (B i)
def MSav (M : Mem) (w : Wd) : Prop := gI M 150 4 = nI w.sv ∧ (w.sv = 1 → RowR M 153 0 w.K)
def MPad (M : Mem) (l : Nat) (P : Nat → Nat) : Prop := gI M 150 6 = nI l ∧ ∀ i, i < l → gI M 154 i = nI (P i)
def MWhy (M : Mem) (w : Wd) : Prop := gI M 150 14 = nI w.st ∧ (w.st = 1 → gI M 155 0 = w.r ∧ gI M 155 1 = w.p ∧ gI M 155 2 = w.c)
def MI (M : Mem) (w : Wd) : Prop := RowR M 151 0 w.A ∧ MHis M w.h w.B ∧ MSav M w ∧ MPad M w.l w.P ∧ MWhy M w
def MX : Nat → Prop := fun r => 150 ≤ r
def MRes (o : Option (Int32 × Mem)) (M : Mem) (v : Int32) (w : Wd) : Prop := ∃ M2, o = some (v, M2) ∧ MI M2 w ∧ Sm MX M M2
theorem MRes.no {M : Mem} {v : Int32} {w : Wd} (h : MI M w) : MRes (some (v, M)) M v w := ⟨M, rfl, h, Sm.rf⟩
theorem mk : kd 150 = 7 ∧ fld 150 0 = 151 ∧ fld 150 1 = 152 ∧ fld 150 3 = 153 ∧ fld 150 5 = 154 ∧ fld 150 15 = 155 ∧ fld 150 16 = 156 ∧ fld 150 17 = 157 ∧ fld 150 18 = 158 := by decide +kernel
theorem mr : kd 151 = 8 ∧ kd 152 = 8 ∧ kd 153 = 8 ∧ kd 154 = 8 ∧ kd 155 = 8 ∧ kd 156 = 8 ∧ kd 157 = 8 ∧ kd 158 = 8 := by decide +kernel
theorem ml : ln 151 = 137 ∧ ln 152 = 548 ∧ ln 153 = 137 ∧ ln 154 = 60 ∧ ln 155 = 3 ∧ ln 156 = 12 ∧ ln 157 = 12 ∧ ln 158 = 13 := by decide +kernel
theorem p_copiesL {r0 r2 a b : Nat} (h0 : kd r0 = 8) (h2 : kd r2 = 8) (hne : r0 ≠ r2) (ha : a + 137 ≤ ln r0) (hb : b + 137 ≤ ln r2) (l0 : ln r0 < 1000) (l2 : ln r2 < 1000) {M : Mem} : ∀ (n j : Nat) (M1 : Mem), j ≤ 137 → 137 - j < n → Sm (fun q => q = r2) M M1 → (∀ k, k < j → gI M1 r2 (b + k) = gI M r0 (a + k)) → (∀ k, k < b ∨ b + 137 ≤ k → gI M1 r2 k = gI M r2 k) →
    ∃ M2, f_X6_copies_3 n r0 (nI a) r2 (nI b) (nI j) M1 = some M2 ∧ Sm (fun q => q = r2) M M2 ∧ (∀ k, k < 137 → gI M2 r2 (b + k) = gI M r0 (a + k)) ∧ ∀ k, k < b ∨ b + 137 ≤ k → gI M2 r2 k = gI M r2 k := by
  intro n
  induction n with
  | zero => intro j _ _ h; omega
  | succ n ih =>
    intro j M1 hj hn hS hI hJ
    rw [f_X6_copies_3, show (137 : Int32) = nI 137 from rfl]
    by_cases h : j = 137
    · subst h
      rw [if_pos (nI_le' (by omega) (by omega) (by omega))]
      exact ⟨M1, rfl, hS, hI, hJ⟩
    · have hlt : j < 137 := by omega
      rw [if_neg (nI_nle' (by omega) (by omega) hlt), gdd_t h0, nI_add, gdd_t (inb_nI (by omega) (by omega)), gdd_t h2, nI_add, gdd_t (inb_nI (by omega) (by omega)), nI_clamp (by omega), nI_clamp (by omega), bvv_e, bvv_e, nI_1]
      refine ih (j + 1) _ (by omega) (by omega) hS.p1 (fun k hk => ?_) (fun k hk => ?_)
      · by_cases e : k = j
        · rw [e, gI_s, hS.1 _ _ hne]
        · rw [gI_n (by omega)]; exact hI k (by omega)
      · rw [gI_n (by omega)]; exact hJ k hk
theorem p_copies {r0 r2 a b : Nat} (h0 : kd r0 = 8) (h2 : kd r2 = 8) (hne : r0 ≠ r2) (ha : a + 137 ≤ ln r0) (hb : b + 137 ≤ ln r2) (l0 : ln r0 < 1000) (l2 : ln r2 < 1000) (M : Mem) : ∃ M2, f_X6_copies r0 (nI a) r2 (nI b) M = some M2 ∧ Sm (fun q => q = r2) M M2 ∧ (∀ k, k < 137 → gI M2 r2 (b + k) = gI M r0 (a + k)) ∧ ∀ k, k < b ∨ b + 137 ≤ k → gI M2 r2 k = gI M r2 k :=
  p_copiesL h0 h2 hne ha hb l0 l2 FU 0 M (by omega) (by unfold FU; omega) Sm.rf (fun k h => by omega) (fun _ _ => rfl)
def MkX : Nat → Prop := fun r => r = 150 ∨ r = 152
theorem p_recL {M : Mem} : ∀ (n j : Nat) (M1 : Mem), j ≤ 411 → 411 - j < n → Sm (fun q => q = 152) M M1 → (∀ k, k < j → gI M1 152 k = gI M 152 (k + 137)) → (∀ k, j ≤ k → gI M1 152 k = gI M 152 k) →
    ∃ M2, Sm (fun q => q = 152) M M2 ∧ (∀ k, k < 411 → gI M2 152 k = gI M 152 (k + 137)) ∧ ∃ n2, f_X6_records_10 n 150 (nI j) M1 = f_X6_records_10 (n2 + 1) 150 (nI 411) M2 := by
  intro n
  induction n with
  | zero => intro j _ _ h; omega
  | succ n ih =>
    intro j M1 hj hn hS hI hJ
    by_cases h : j = 411
    · subst h
      exact ⟨M1, hS, hI, n, rfl⟩
    · have hlt : j < 411 := by omega
      rw [f_X6_records_10, show (411 : Int32) = nI 411 from rfl, if_neg (nI_nle' (by omega) (by omega) hlt), gdd_t mk.1, mk.2.2.1, gdd_t mr.2.1, show (137 : Int32) = nI 137 from rfl, nI_add, ml.2.1, gdd_t (inb_nI (by omega) (by omega)), gdd_t (inb_nI (by omega) (by omega)), nI_clamp (by omega), nI_clamp (by omega), bvv_e, bvv_e, nI_1, hJ (j + 137) (by omega)]
      refine ih (j + 1) _ (by omega) (by omega) hS.p1 (fun k hk => ?_) (fun k hk => ?_)
      · by_cases e : k = j
        · rw [e, gI_s]
        · rw [gI_n (by omega)]; exact hI k (by omega)
      · rw [gI_n (by omega)]; exact hJ k (by omega)
theorem m_records {M : Mem} {w : Wd} (hO : OkW w) (hM : MI M w) : ∃ M2, f_X6_records 150 M = some M2 ∧ MI M2 (keepW w) ∧ Sm MkX M M2 ∧ ∀ k, k ≠ 2 → gI M2 150 k = gI M 150 k := by
  have h4 := hO.2.1
  obtain ⟨m1, m2, m3, m4, m5⟩ := hM
  -- the tail: the state of today behind so many kept ones
  have tail : ∀ (M1 : Mem) (h : Nat) (B : Nat → Nat → Nat), h < 4 → Sm MkX M M1 → (∀ k, k ≠ 2 → gI M1 150 k = gI M 150 k) → gI M1 150 2 = nI h → (∀ i, i < h → RowR M1 152 (137 * i) (B i)) →
      ∃ M2, f_X6_copies 151 0 152 (137 * nI h) M1 = some M2 ∧ gI M2 150 2 = nI h ∧ MI (sI M2 150 2 (nI (h + 1))) (w.toH (h + 1) (upB B h w.A)) ∧ Sm MkX M (sI M2 150 2 (nI (h + 1))) ∧ ∀ k, k ≠ 2 → gI (sI M2 150 2 (nI (h + 1))) 150 k = gI M 150 k := by
    intro M1 h B hh hS h0 h2 hB
    obtain ⟨M2, r1, r2, r3, r4⟩ := p_copies (a := 0) (b := 137 * h) mr.1 mr.2.1 (by decide) (by rw [ml.1]; decide) (by rw [ml.2.1]; omega) (by rw [ml.1]; decide) (by rw [ml.2.1]; decide) M1
    have hS2 : Sm MkX M (sI M2 150 2 (nI (h + 1))) := (hS.tr (r2.mono (fun r h => Or.inr h))).put (Or.inl rfl)
    have e0 : ∀ k, k ≠ 2 → gI (sI M2 150 2 (nI (h + 1))) 150 k = gI M 150 k := fun k hk => by rw [gI_n (Or.inr hk), r2.1 _ _ (by decide), h0 k hk]
    have n : ∀ r, r ≠ 150 → r ≠ 152 → ∀ k, gI (sI M2 150 2 (nI (h + 1))) r k = gI M r k := fun r h1 h2 k => hS2.1 r k (fun x => by unfold MkX at x; omega)
    refine ⟨M2, ?_, (r2.1 _ _ (by decide)).trans h2, ⟨fun k hk => (n 151 (by decide) (by decide) _).trans (m1 k hk), ⟨gI_s, fun i hi k hk => ?_⟩, ⟨(e0 4 (by decide)).trans m3.1, fun g k hk => (n 153 (by decide) (by decide) _).trans (m3.2 g k hk)⟩, ⟨(e0 6 (by decide)).trans m4.1, fun i hi => (n 154 (by decide) (by decide) _).trans (m4.2 i hi)⟩, ⟨(e0 14 (by decide)).trans m5.1, fun g => ⟨(n 155 (by decide) (by decide) _).trans (m5.2 g).1, (n 155 (by decide) (by decide) _).trans (m5.2 g).2.1, (n 155 (by decide) (by decide) _).trans (m5.2 g).2.2⟩⟩⟩, hS2, e0⟩
    · rw [show (137 : Int32) = nI 137 from rfl, pk_mul]; exact r1
    · have hi' : i < h + 1 := hi
      rw [gI_n (Or.inl (by decide))]
      show _ = nI (upB B h w.A i k)
      unfold upB
      by_cases e : i = h
      · subst e
        rw [if_pos rfl, r3 k hk, Nat.zero_add, hS.1 151 k (by unfold MkX; decide)]
        have := m1 k hk
        rwa [Nat.zero_add] at this
      · rw [if_neg e, r4 _ (by omega)]
        exact hB i (by omega) k hk
  unfold f_X6_records keepW
  rw [gdd_t mk.1, m2.1]
  by_cases h : w.h < 4
  · obtain ⟨M2, r1, r2, r3, r4, r5⟩ := tail M w.h w.B h Sm.rf (fun _ _ => rfl) m2.1 m2.2
    rw [show (4 : Int32) = nI 4 from rfl, if_neg (nI_ne (by omega) (by decide) (by omega)), mk.2.1, mk.2.2.1, r1, obb_s, bvv_e, r2, nI_1, if_pos h]
    exact ⟨_, rfl, r3, r4, r5⟩
  · have e4 : w.h = 4 := by omega
    obtain ⟨M1, s1, s2, n2, s3⟩ := p_recL (M := M) FU 0 M (by omega) (by unfold FU; omega) Sm.rf (fun k h => by omega) (fun _ _ => rfl)
    have e2 : gI M1 150 2 = nI 4 := by rw [s1.1 _ _ (by decide), m2.1, e4]
    obtain ⟨M2, r1, r2, r3, r4, r5⟩ := tail (sI M1 150 2 (nI 3)) 3 (fun i => w.B (i + 1)) (by decide) ((s1.mono (fun r h => Or.inr h)).put (Or.inl rfl)) (fun k hk => by rw [gI_n (Or.inr hk), s1.1 _ _ (by decide)]) gI_s (fun i hi k hk => by
      rw [gI_n (Or.inl (by decide)), s2 _ (by omega)]
      have := m2.2 (i + 1) (by omega) k hk
      rwa [show 137 * (i + 1) + k = 137 * i + k + 137 by omega] at this)
    rw [if_pos (by rw [e4]; rfl), show (0 : Int32) = nI 0 from rfl, s3, f_X6_records_10, if_pos (by decide), gdd_t mk.1, e2, nI_sub1 (by decide), bvv_e, gI_s, mk.2.1, mk.2.2.1, show nI (4 - 1) = nI 3 from rfl, r1, obb_s, r2, bvv_e, nI_1, if_neg h]
    exact ⟨_, rfl, r3, r4, r5⟩
