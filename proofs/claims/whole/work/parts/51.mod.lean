/-! PURE: single numbers of the reference, and the calls that change only such -/
theorem RowR.get {M : Mem} {r : Nat} {A : Nat → Nat} (h : RowR M r 0 A) {k : Nat} (hk : k < 137) : gI M r k = nI (A k) := by have := h k hk; rwa [Nat.zero_add] at this
theorem RowR.put {M : Mem} {r : Nat} {A : Nat → Nat} (h : RowR M r 0 A) (i v : Nat) : RowR (sI M r i (nI v)) r 0 (updN A i v) := by
  intro k hk
  rw [Nat.zero_add]
  by_cases e : k = i
  · rw [e, gI_s, updN_s]
  · rw [gI_n (Or.inr e), updN_n e]; exact h.get hk
theorem MI.sa {M M2 : Mem} {w : Wd} {A : Nat → Nat} (hM : MI M w) (hS : Sm (fun q => q = 151) M M2) (hR : RowR M2 151 0 A) : MI M2 (w.toA A) := by
  obtain ⟨m1, m2, m3, m4, m5⟩ := hM
  have n : ∀ r, r ≠ 151 → ∀ k, gI M2 r k = gI M r k := fun r h k => hS.1 r k h
  exact ⟨hR, ⟨(n _ (by decide) _).trans m2.1, fun i hi k hk => (n _ (by decide) _).trans (m2.2 i hi k hk)⟩, ⟨(n _ (by decide) _).trans m3.1, fun g k hk => (n _ (by decide) _).trans (m3.2 g k hk)⟩, ⟨(n _ (by decide) _).trans m4.1, fun i hi => (n _ (by decide) _).trans (m4.2 i hi)⟩, ⟨(n _ (by decide) _).trans m5.1, fun g => ⟨(n _ (by decide) _).trans (m5.2 g).1, (n _ (by decide) _).trans (m5.2 g).2.1, (n _ (by decide) _).trans (m5.2 g).2.2⟩⟩⟩
theorem in_0 {x a b : Int32} (h : ¬ (a ≤ x ∧ x ≤ b)) : f_X6_in x a b = 0 := by rw [p_in, if_neg h]
theorem in_1 {x a b : Int32} (h : a ≤ x ∧ x ≤ b) : ¬ f_X6_in x a b = 0 := by rw [p_in, if_pos h]; decide
theorem MkX.ge {r : Nat} (h : MkX r) : MX r := by unfold MkX at h; unfold MX; omega
theorem S151.ge {r : Nat} (h : r = 151) : MX r := by unfold MX; omega
/-- a call that keeps today's state, then puts one number -/
theorem m_put1 {M M1 : Mem} {w : Wd} {v : Int32} (hM1 : MI M1 (keepW w)) (hS1 : Sm MkX M M1) (i x : Nat) : MRes (some (v, sI M1 151 i (nI x))) M v ((keepW w).toA (updN w.A i x)) := by
  have hR : RowR M1 151 0 w.A := by rw [← keepW_A w]; exact hM1.1
  exact ⟨_, rfl, MI.sa hM1 Sm.rf.p1 (hR.put i x), (hS1.mono (fun r h => h.ge)).tr (Sm.mono (X := fun q => q = 151) Sm.rf.p1 (fun r h => S151.ge h))⟩
theorem MI.kA {M1 : Mem} {w : Wd} (h : MI M1 (keepW w)) : RowR M1 151 0 w.A := by rw [← keepW_A w]; exact h.1
theorem m_weight {M : Mem} {w : Wd} (hO : OkW w) (hM : MI M w) (x y : Int32) : MRes (f_X6_weight 150 x y M) M (opWeight x y w).1 (opWeight x y w).2 := by
  unfold f_X6_weight opWeight f_X6_isKind
  by_cases h1 : 0 ≤ x ∧ x ≤ 5
  · rw [if_neg (in_1 h1)]
    by_cases h2 : 1 ≤ y ∧ y ≤ 9
    · obtain ⟨i, i1, rfl⟩ := in_ex (b := 5) (by decide) h1.1 h1.2
      obtain ⟨v, v1, v2, rfl⟩ := in_ex2 (a := 1) (b := 9) (by decide) (by decide) h2.1 h2.2
      obtain ⟨M1, r1, r2, r3, r4⟩ := m_records hO hM
      rw [if_neg (in_1 h2), if_pos (And.intro h1 h2), gdd_t mk.1, r1, obb_s, mk.2.1, gdd_t mr.1, show (7 : Int32) = nI 7 from rfl, nI_add, ml.1, gdd_t (inb_nI (by omega) (by decide)), nI_clamp (by omega), nI_clamp (by omega), nI_clamp (by omega), bvv_e, bvv_e, r2.kA.get (by omega)]
      exact m_put1 r2 r3 (7 + i) v
    · rw [if_pos (in_0 h2), if_neg (fun h => h2 h.2)]
      exact MRes.no hM
  · rw [if_pos (in_0 h1), if_neg (fun h => h1 h.1)]
    exact MRes.no hM
theorem m_day {M : Mem} {w : Wd} (hO : OkW w) (hM : MI M w) : MRes (f_X6_day 150 M) M (opDay w).1 (opDay w).2 := by
  obtain ⟨M1, r1, r2, r3, r4⟩ := m_records hO hM
  unfold f_X6_day opDay
  rw [gdd_t mk.1, r1, obb_s, mk.2.1, gdd_t mr.1, ml.1, gdd_t (by decide), show (0 : Int32).toNatClampNeg = 0 from rfl, bvv_e, gI_s, r2.kA.get (by omega), nI_1]
  exact m_put1 r2 r3 0 (w.A 0 + 1)
theorem m_set {M : Mem} {w : Wd} (hO : OkW w) (hM : MI M w) (x y : Int32) : MRes (f_X6_set 150 x y M) M (opSet x y w).1 (opSet x y w).2 := by
  unfold f_X6_set opSet
  by_cases h0 : x = 0
  · subst h0
    rw [if_neg (in_1 (by decide)), if_pos rfl, if_pos rfl]
    by_cases h2 : 1 ≤ y ∧ y ≤ 30
    · obtain ⟨v, v1, v2, rfl⟩ := in_ex2 (a := 1) (b := 30) (by decide) (by decide) h2.1 h2.2
      obtain ⟨M1, r1, r2, r3, r4⟩ := m_records hO hM
      rw [if_neg (in_1 h2), if_pos (And.intro rfl h2), gdd_t mk.1, r1, obb_s, mk.2.1, gdd_t mr.1, ml.1, gdd_t (by decide), show ((1 : Int32) + 0).toNatClampNeg = 1 from rfl, bvv_e, bvv_e, r2.kA.get (by omega), nI_clamp (by omega)]
      exact m_put1 r2 r3 1 v
    · rw [if_pos (in_0 h2), if_neg (show ¬ ((0 : Int32) = 0 ∧ 1 ≤ y ∧ y ≤ 30) from fun h => h2 h.2), if_neg (show ¬ ((0 : Int32) = 1 ∧ 9 ≤ y ∧ y ≤ 60) from fun h => absurd h.1 (by decide))]
      exact MRes.no hM
  · rw [if_neg (show ¬ (x = 0 ∧ 1 ≤ y ∧ y ≤ 30) from fun h => h0 h.1)]
    by_cases h1 : x = 1
    · subst h1
      rw [if_neg (in_1 (by decide)), if_neg (show ¬ (1 : Int32) = 0 by decide), if_neg (show ¬ (1 : Int32) = 0 by decide)]
      by_cases h2 : 9 ≤ y ∧ y ≤ 60
      · obtain ⟨v, v1, v2, rfl⟩ := in_ex2 (a := 9) (b := 60) (by decide) (by decide) h2.1 h2.2
        obtain ⟨M1, r1, r2, r3, r4⟩ := m_records hO hM
        rw [if_neg (in_1 h2), if_pos (And.intro rfl h2), gdd_t mk.1, r1, obb_s, mk.2.1, gdd_t mr.1, ml.1, gdd_t (by decide), show ((1 : Int32) + 1).toNatClampNeg = 2 from rfl, bvv_e, bvv_e, r2.kA.get (by omega), nI_clamp (by omega)]
        exact m_put1 r2 r3 2 v
      · rw [if_pos (in_0 h2), if_neg (show ¬ ((1 : Int32) = 1 ∧ 9 ≤ y ∧ y ≤ 60) from fun h => h2 h.2)]
        exact MRes.no hM
    · have hb : ¬ (0 ≤ x ∧ x ≤ 1) := fun h => by
        obtain ⟨i, i1, rfl⟩ := in_ex (b := 1) (by decide) h.1 h.2
        rcases Nat.lt_or_ge i 1 with e | e
        · exact h0 (by rw [show i = 0 by omega]; rfl)
        · exact h1 (by rw [show i = 1 by omega]; rfl)
      rw [if_pos (in_0 hb), if_neg (show ¬ (x = 1 ∧ 9 ≤ y ∧ y ≤ 60) from fun h => h1 h.1)]
      exact MRes.no hM
theorem m_save {M : Mem} {w : Wd} (hM : MI M w) : MRes (f_X6_save 150 M) M (opSave w).1 (opSave w).2 := by
  obtain ⟨m1, m2, m3, m4, m5⟩ := hM
  obtain ⟨M1, r1, r2, r3, r4⟩ := p_copies (r0 := 151) (r2 := 153) (a := 0) (b := 0) mr.1 mr.2.2.1 (by decide) (by rw [ml.1]; decide) (by rw [ml.2.2.1]; decide) (by rw [ml.1]; decide) (by rw [ml.2.2.1]; decide) M
  have hS : Sm (fun q => q = 150 ∨ q = 153) M (sI M1 150 4 1) := (r2.mono (fun r h => Or.inr h)).put (Or.inl rfl)
  have n : ∀ r, r ≠ 150 → r ≠ 153 → ∀ k, gI (sI M1 150 4 1) r k = gI M r k := fun r h1 h2 k => hS.1 r k (by omega)
  have e0 : ∀ k, k ≠ 4 → gI (sI M1 150 4 1) 150 k = gI M 150 k := fun k hk => by rw [gI_n (Or.inr hk), r2.1 _ _ (by decide)]
  unfold f_X6_save opSave
  rw [gdd_t mk.1, mk.2.1, mk.2.2.2.1, show (0 : Int32) = nI 0 from rfl, r1, obb_s, bvv_e, gdd_t mr.1, ml.1, gdd_t (by decide), show (3 : Int32).toNatClampNeg = 3 from rfl, n 151 (by decide) (by decide), m1.get (by decide)]
  refine ⟨_, rfl, ⟨fun k hk => (n _ (by decide) (by decide) _).trans (m1 k hk), ⟨(e0 _ (by decide)).trans m2.1, fun i hi k hk => (n _ (by decide) (by decide) _).trans (m2.2 i hi k hk)⟩, ⟨gI_s, fun _ k hk => ?_⟩, ⟨(e0 _ (by decide)).trans m4.1, fun i hi => (n _ (by decide) (by decide) _).trans (m4.2 i hi)⟩, ⟨(e0 _ (by decide)).trans m5.1, fun g => ⟨(n _ (by decide) (by decide) _).trans (m5.2 g).1, (n _ (by decide) (by decide) _).trans (m5.2 g).2.1, (n _ (by decide) (by decide) _).trans (m5.2 g).2.2⟩⟩⟩, hS.mono (fun r h => by unfold MX; omega)⟩
  rw [gI_n (Or.inl (by decide)), r3 k hk]
  exact m1 k hk
theorem m_restore {M : Mem} {w : Wd} (hO : OkW w) (hM : MI M w) : MRes (f_X6_restore 150 M) M (opRestore w).1 (opRestore w).2 := by
  have o4 := hO.2.2.2.1
  unfold f_X6_restore opRestore
  rw [gdd_t mk.1, hM.2.2.1.1]
  by_cases h : w.sv = 0
  · rw [if_pos ((nI_z (by omega)).mpr h), if_pos h]
    exact MRes.no hM
  · rw [if_neg (fun e => h ((nI_z (by omega)).mp e)), if_neg h]
    obtain ⟨M1, r1, r2, r3, r4⟩ := m_records hO hM
    have hK : RowR M1 153 0 w.K := by
      have := r2.2.2.1.2 (by rw [keepW_sv]; omega)
      rwa [keepW_K] at this
    obtain ⟨M2, s1, s2, s3, s4⟩ := p_copies (r0 := 153) (r2 := 151) (a := 0) (b := 0) mr.2.2.1 mr.1 (by decide) (by rw [ml.2.2.1]; decide) (by rw [ml.1]; decide) (by rw [ml.2.2.1]; decide) (by rw [ml.1]; decide) M1
    have hR : RowR M2 151 0 w.K := fun k hk => (s3 k hk).trans (hK k hk)
    rw [r1, obb_s, mk.2.1, mk.2.2.2.1, show (0 : Int32) = nI 0 from rfl, s1, obb_s, gdd_t mr.1, ml.1, gdd_t (by decide), show (3 : Int32).toNatClampNeg = 3 from rfl, hR.get (by decide)]
    exact ⟨_, rfl, MI.sa r2 s2 hR, (r3.mono (fun r h => h.ge)).tr (s2.mono (fun r h => S151.ge h))⟩
theorem m_undo {M : Mem} {w : Wd} (hO : OkW w) (hM : MI M w) : MRes (f_X6_undo 150 M) M (opUndo w).1 (opUndo w).2 := by
  have h4 := hO.2.1
  have hMk := hM
  obtain ⟨m1, m2, m3, m4, m5⟩ := hM
  unfold f_X6_undo opUndo
  rw [gdd_t mk.1, m2.1]
  by_cases h : w.h = 0
  · rw [if_pos ((nI_z (by omega)).mpr h), if_pos h]
    exact MRes.no hMk
  · have hS1 : Sm (fun q => q = 150) M (sI M 150 2 (nI (w.h - 1))) := Sm.rf.p1
    obtain ⟨M2, s1, s2, s3, s4⟩ := p_copies (r0 := 152) (r2 := 151) (a := 137 * (w.h - 1)) (b := 0) mr.2.1 mr.1 (by decide) (by rw [ml.2.1]; omega) (by rw [ml.1]; decide) (by rw [ml.2.1]; decide) (by rw [ml.1]; decide) (sI M 150 2 (nI (w.h - 1)))
    have hS : Sm (fun q => q = 150 ∨ q = 151) M M2 := (hS1.mono (fun r h => Or.inl h)).tr (s2.mono (fun r h => Or.inr h))
    have n : ∀ r, r ≠ 150 → r ≠ 151 → ∀ k, gI M2 r k = gI M r k := fun r h1 h2 k => hS.1 r k (by omega)
    have e0 : ∀ k, k ≠ 2 → gI M2 150 k = gI M 150 k := fun k hk => by rw [s2.1 _ _ (by decide), gI_n (Or.inr hk)]
    have e2 : gI M2 150 2 = nI (w.h - 1) := by rw [s2.1 _ _ (by decide), gI_s]
    rw [if_neg (fun e => h ((nI_z (by omega)).mp e)), if_neg h, nI_sub1 (by omega), bvv_e, gI_s, mk.2.1, mk.2.2.1, show (137 : Int32) = nI 137 from rfl, pk_mul, show (0 : Int32) = nI 0 from rfl, s1, obb_s, e2]
    refine ⟨_, rfl, ⟨fun k hk => ?_, ⟨e2, fun i hi k hk => ?_⟩, ⟨(e0 _ (by decide)).trans m3.1, fun g k hk => (n _ (by decide) (by decide) _).trans (m3.2 g k hk)⟩, ⟨(e0 _ (by decide)).trans m4.1, fun i hi => (n _ (by decide) (by decide) _).trans (m4.2 i hi)⟩, ⟨(e0 _ (by decide)).trans m5.1, fun g => ⟨(n _ (by decide) (by decide) _).trans (m5.2 g).1, (n _ (by decide) (by decide) _).trans (m5.2 g).2.1, (n _ (by decide) (by decide) _).trans (m5.2 g).2.2⟩⟩⟩, hS.mono (fun r h => by unfold MX; omega)⟩
    · rw [s3 k hk, gI_n (Or.inl (by decide))]
      exact m2.2 (w.h - 1) (by omega) k hk
    · have hi' : i < w.h - 1 := hi
      exact (n _ (by decide) (by decide) _).trans (m2.2 i (by omega) k hk)
theorem MI.pad {M M2 : Mem} {w : Wd} {l : Nat} {P : Nat → Nat} (hM : MI M w) (hS : Sm (fun r => r = 150 ∨ r = 154) M M2) (h0 : ∀ k, k ≠ 6 → gI M2 150 k = gI M 150 k) (h1 : gI M2 150 6 = nI l) (h2 : ∀ i, i < l → gI M2 154 i = nI (P i)) : MI M2 (w.toP l P) := by
  obtain ⟨m1, m2, m3, m4, m5⟩ := hM
  have n : ∀ r, r ≠ 150 → r ≠ 154 → ∀ k, gI M2 r k = gI M r k := fun r h1 h2 k => hS.1 r k (by omega)
  exact ⟨fun k hk => (n _ (by decide) (by decide) _).trans (m1 k hk), ⟨(h0 _ (by decide)).trans m2.1, fun i hi k hk => (n _ (by decide) (by decide) _).trans (m2.2 i hi k hk)⟩, ⟨(h0 _ (by decide)).trans m3.1, fun g k hk => (n _ (by decide) (by decide) _).trans (m3.2 g k hk)⟩, ⟨h1, h2⟩, ⟨(h0 _ (by decide)).trans m5.1, fun g => ⟨(n _ (by decide) (by decide) _).trans (m5.2 g).1, (n _ (by decide) (by decide) _).trans (m5.2 g).2.1, (n _ (by decide) (by decide) _).trans (m5.2 g).2.2⟩⟩⟩
theorem m_clear {M : Mem} {w : Wd} (hM : MI M w) : MRes (f_X6_clear 150 M) M (opClear w).1 (opClear w).2 := by
  unfold f_X6_clear opClear
  rw [gdd_t mk.1, bvv_e, bvv_e, hM.2.2.2.1.1]
  have hS : Sm (fun r => r = 150 ∨ r = 154) M (sI M 150 6 0) := Sm.put Sm.rf (Or.inl rfl)
  exact ⟨_, rfl, MI.pad hM hS (fun k hk => gI_n (Or.inr hk)) gI_s (fun i hi => by omega), hS.mono (fun r h => by unfold MX; omega)⟩
theorem m_append {M : Mem} {w : Wd} (hO : OkW w) (hM : MI M w) (x : Int32) : MRes (f_X6_append 150 x M) M (opAppend x w).1 (opAppend x w).2 := by
  have hl := hO.2.2.2.2.2.1
  unfold f_X6_append opAppend
  by_cases h1 : 33 ≤ x ∧ x ≤ 126
  · obtain ⟨v, v1, v2, rfl⟩ := in_ex2 (a := 33) (b := 126) (by decide) (by decide) h1.1 h1.2
    rw [if_neg (in_1 h1), if_pos h1, gdd_t mk.1, hM.2.2.2.1.1, show (60 : Int32) = nI 60 from rfl]
    by_cases h2 : w.l < 60
    · have hS : Sm (fun r => r = 150 ∨ r = 154) M (sI (sI M 154 w.l (nI v)) 150 6 (nI (w.l + 1))) := Sm.put (Sm.put Sm.rf (Or.inr rfl)) (Or.inl rfl)
      rw [if_neg (nI_ne (by omega) (by decide) (by omega)), if_pos h2, mk.2.2.2.2.1, gdd_t mr.2.2.2.1, ml.2.2.2.1, gdd_t (inb_nI h2 (by decide)), nI_clamp (by omega), nI_clamp (by omega), bvv_e, gI_n (Or.inl (by decide)), hM.2.2.2.1.1, nI_1, bvv_e, gI_s]
      refine ⟨_, rfl, MI.pad hM hS (fun k hk => by rw [gI_n (Or.inr hk), gI_n (Or.inl (by decide))]) gI_s (fun i hi => ?_), hS.mono (fun r h => by unfold MX; omega)⟩
      rw [gI_n (Or.inl (by decide))]
      by_cases e : i = w.l
      · rw [e, gI_s, updN_s]
      · rw [gI_n (Or.inr e), updN_n e]
        exact hM.2.2.2.1.2 i (by omega)
    · rw [if_pos (by rw [show w.l = 60 by omega]), if_neg h2]
      exact MRes.no hM
  · rw [if_pos (in_0 h1), if_neg h1]
    exact MRes.no hM
