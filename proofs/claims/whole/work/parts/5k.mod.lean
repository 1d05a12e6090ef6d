/-! PURE: the reference: the pad read as suits -/
def tsQ (M : Mem) : Option Mem := obb (f_X6_here 150 M) fun y => bvv (sI M 150 12 (y - (48 : Int32))) fun M2 => obb (f_X6_takes 150 (f_X6_in (gI M2 150 12) (0 : Int32) (9 : Int32)) M2) fun M3 => if (gI M3 150 8) = 0 then (some M3) else (if (gI M3 150 12) = (1 : Int32) then (obb (f_X6_here 150 M3) fun y2 => if y2 = (48 : Int32) then (bvv (sI M3 150 7 ((gI M3 150 7) + (1 : Int32))) fun M4 => bvv (sI M4 150 12 (10 : Int32)) fun M5 => some M5) else (some M3)) else (some M3))
def tsP (M : Mem) : Option Mem := if (gI M 150 13) = 0 then (obb (f_X6_here 150 M) fun y8 => bvv (sI M 150 11 (y8 - (48 : Int32))) fun M10 => obb (f_X6_takes 150 (f_X6_in (gI M10 150 11) (0 : Int32) (3 : Int32)) M10) fun M12 => obb (f_X6_here 150 M12) fun y14 => if y14 = (58 : Int32) then (obb (f_X6_takes 150 (1 : Int32) M12) fun M34 => tsQ M34) else (obb (f_X6_takes 150 (0 : Int32) M12) fun M17 => tsQ M17)) else (bvv (sI M 150 7 ((gI M 150 7) + (1 : Int32))) fun M51 => some M51)
theorem ts_eq (M : Mem) : f_X6_takesSuit 150 M = gdd (kd 150 = 7) (obb (f_X6_here 150 M) fun y2 => if y2 = (43 : Int32) then (bvv (sI M 150 13 (1 : Int32)) fun M53 => tsP M53) else (bvv (sI M 150 13 (0 : Int32)) fun M5 => tsP M5)) := rfl
theorem in_dig : ∀ c, c < 127 → f_X6_in (nI c - 48) 0 9 = if 48 ≤ c ∧ c ≤ 57 then 1 else 0 := by decide +kernel
theorem in_ed : ∀ c, c < 127 → f_X6_in (nI c - 48) 0 3 = if 48 ≤ c ∧ c ≤ 51 then 1 else 0 := by decide +kernel
section ISS
variable {l : Nat} {P : Nat → Nat}
theorem m_tsQ0 {M : Mem} {t : Nat} (hP : MPad M l P) (hl : l ≤ 60) (ht : t < 900) (h7 : gI M 150 7 = nI t) (h8 : gI M 150 8 = nI 0) : ∃ M2, tsQ M = some M2 ∧ ScX M M2 ∧ gI M2 150 8 = nI 0 ∧ gI M2 150 7 = nI t := by
  have hS : ∀ v, ScX M (sI M 150 12 v) := fun v => ScX.rf.p (by decide) (by decide)
  have q7 : ∀ v, gI (sI M 150 12 v) 150 7 = nI t := fun v => by rw [gI_n (Or.inr (by decide)), h7]
  have q8 : ∀ v, gI (sI M 150 12 v) 150 8 = nI 0 := fun v => by rw [gI_n (Or.inr (by decide)), h8]
  obtain ⟨M2, r1, r2, r3, r4, -⟩ := m_tk0 (M := sI M 150 12 (nI (hrN P l t) - 48)) (x := f_X6_in (nI (hrN P l t) - 48) 0 9) (j := t) (Or.inl (q8 _)) (q7 _)
  unfold tsQ
  rw [m_here hP hl (by omega) h7, obb_s, bvv_e, gI_s, r1, obb_s, r4, if_pos (by rfl)]
  exact ⟨M2, rfl, (hS _).tr r2, r4, r3⟩
theorem m_tsQ1 {M : Mem} {t : Nat} (hP : MPad M l P) (hl : l ≤ 60) (hc : ∀ i, i < l → P i ≤ 126) (ht : t < 900) (h7 : gI M 150 7 = nI t) (h8 : gI M 150 8 = nI 1) (hd : 48 ≤ hrN P l t ∧ hrN P l t ≤ 57) : ∃ M2, tsQ M = some M2 ∧ ScX M M2 ∧ gI M2 150 8 = nI 1 ∧ gI M2 150 7 = nI (if hrN P l t = 49 ∧ hrN P l (t + 1) = 48 then t + 2 else t + 1) ∧ gI M2 150 12 = nI (if hrN P l t = 49 ∧ hrN P l (t + 1) = 48 then 10 else hrN P l t - 48) ∧ gI M2 150 13 = gI M 150 13 ∧ gI M2 150 11 = gI M 150 11 := by
  have hh := hrN_le hc t
  have hh1 := hrN_le hc (t + 1)
  have hS : ∀ v, ScX M (sI M 150 12 v) := fun v => ScX.rf.p (by decide) (by decide)
  have q : ∀ v k, k ≠ 12 → gI (sI M 150 12 v) 150 k = gI M 150 k := fun v k h => gI_n (Or.inr h)
  obtain ⟨M2, r1, r2, r3, r4, r5⟩ := m_tk1 (M := sI M 150 12 (nI (hrN P l t) - 48)) (x := f_X6_in (nI (hrN P l t) - 48) 0 9) (j := t) (by rw [q _ _ (by decide), h8]) (by rw [q _ _ (by decide), h7]) (by rw [in_dig _ (by omega), if_pos hd]; decide)
  have e12 : gI M2 150 12 = nI (hrN P l t - 48) := by rw [r5 12 (by decide) (by decide), gI_s, show (48 : Int32) = nI 48 from rfl, pk_sub hd.1]
  unfold tsQ
  rw [m_here hP hl (by omega) h7, obb_s, bvv_e, gI_s, r1, obb_s, r4, if_neg (by decide), e12]
  by_cases h1 : hrN P l t = 49
  · rw [h1, if_pos (by rfl), m_here (hP.sc ((hS _).tr r2)) hl (show t + 1 < 1000 by omega) r3, obb_s, show (48 : Int32) = nI 48 from rfl]
    by_cases h2 : hrN P l (t + 1) = 48
    · rw [if_pos (by rw [h2]), if_pos (And.intro rfl h2), if_pos (And.intro rfl h2), bvv_e, bvv_e]
      refine ⟨_, rfl, (((hS _).tr r2).p (by decide) (by decide)).p (by decide) (by decide), ?_, ?_, ?_, ?_, ?_⟩
      · rw [gI_n (Or.inr (by decide)), gI_n (Or.inr (by decide)), r4]
      · rw [gI_n (Or.inr (by decide)), gI_s, r3, nI_1]
      · rw [gI_s]; rfl
      · rw [gI_n (Or.inr (by decide)), gI_n (Or.inr (by decide)), r5 13 (by decide) (by decide), q _ _ (by decide)]
      · rw [gI_n (Or.inr (by decide)), gI_n (Or.inr (by decide)), r5 11 (by decide) (by decide), q _ _ (by decide)]
    · rw [if_neg (nI_ne (by omega) (by decide) h2), if_neg (fun z => h2 z.2), if_neg (fun z => h2 z.2)]
      exact ⟨M2, rfl, (hS _).tr r2, r4, r3, by rw [e12, h1], by rw [r5 13 (by decide) (by decide), q _ _ (by decide)], by rw [r5 11 (by decide) (by decide), q _ _ (by decide)]⟩
  · rw [show (1 : Int32) = nI 1 from rfl, if_neg (nI_ne (by omega) (by decide) (by omega)), if_neg (fun z => h1 z.1), if_neg (fun z => h1 z.1)]
    exact ⟨M2, rfl, (hS _).tr r2, r4, r3, e12, by rw [r5 13 (by decide) (by decide), q _ _ (by decide)], by rw [r5 11 (by decide) (by decide), q _ _ (by decide)]⟩
theorem m_tsQn {M : Mem} {t : Nat} (hP : MPad M l P) (hl : l ≤ 60) (hc : ∀ i, i < l → P i ≤ 126) (ht : t < 900) (h7 : gI M 150 7 = nI t) (hd : ¬ (48 ≤ hrN P l t ∧ hrN P l t ≤ 57)) : ∃ M2, tsQ M = some M2 ∧ ScX M M2 ∧ gI M2 150 8 = nI 0 ∧ gI M2 150 7 = nI t := by
  have hh := hrN_le hc t
  have hS : ∀ v, ScX M (sI M 150 12 v) := fun v => ScX.rf.p (by decide) (by decide)
  have q7 : ∀ v, gI (sI M 150 12 v) 150 7 = nI t := fun v => by rw [gI_n (Or.inr (by decide)), h7]
  obtain ⟨M2, r1, r2, r3, r4, -⟩ := m_tk0 (M := sI M 150 12 (nI (hrN P l t) - 48)) (x := f_X6_in (nI (hrN P l t) - 48) 0 9) (j := t) (Or.inr (by rw [in_dig _ (by omega), if_neg hd])) (q7 _)
  unfold tsQ
  rw [m_here hP hl (by omega) h7, obb_s, bvv_e, gI_s, r1, obb_s, r4, if_pos (by rfl)]
  exact ⟨M2, rfl, (hS _).tr r2, r4, r3⟩
def tsW (q : Nat → Nat) (j : Nat) : Option Nat := if q j = 43 then none else if 48 ≤ q j ∧ q j ≤ 51 then (if q (j + 1) = 58 then (if 48 ≤ q (j + 2) ∧ q (j + 2) ≤ 57 then none else some (j + 2)) else some (j + 1)) else some j
def tRes (o : Option Mem) (M : Mem) (P : Nat → Nat) (l j : Nat) : Option Nat → Prop
  | none => ∃ M2, o = some M2 ∧ ScX M M2 ∧ gI M2 150 8 = nI 1 ∧ gI M2 150 7 = nI (j + prL P l j) ∧ gI M2 150 13 = nI (if P j = 43 then 1 else 0) ∧ (P j ≠ 43 → gI M2 150 11 = nI (P j - 48) ∧ gI M2 150 12 = nI (prG P l j))
  | some t => ∃ M2, o = some M2 ∧ ScX M M2 ∧ gI M2 150 8 = nI 0 ∧ gI M2 150 7 = nI t
theorem hr_in {j c : Nat} (h : hrN P l j = c) (h0 : c ≠ 0) : j < l ∧ P j = c := by
  unfold hrN at h
  split at h
  · rename_i g; exact ⟨g, h⟩
  · exact absurd h.symm h0
theorem hr_lt {j : Nat} (h : hrN P l j ≠ 0) : j < l ∧ hrN P l j = P j := by
  unfold hrN at *
  split at h
  · rename_i g; exact ⟨g, if_pos g⟩
  · exact absurd rfl h
theorem m_ts {M : Mem} {j : Nat} (hP : MPad M l P) (hl : l ≤ 60) (hc : ∀ i, i < l → P i ≤ 126) (hj : j ≤ l) (h7 : gI M 150 7 = nI j) (h8 : gI M 150 8 = nI 1) : tRes (f_X6_takesSuit 150 M) M P l j (tsW (hrN P l) j) := by
  have hh := hrN_le hc j
  have hh1 := hrN_le hc (j + 1)
  have hh2 := hrN_le hc (j + 2)
  have hS : ∀ v, ScX M (sI M 150 13 v) := fun v => ScX.rf.p (by decide) (by decide)
  have q : ∀ v k, k ≠ 13 → gI (sI M 150 13 v) 150 k = gI M 150 k := fun v k h => gI_n (Or.inr h)
  rw [ts_eq, gdd_t mk.1, m_here hP hl (by omega) h7, obb_s, show (43 : Int32) = nI 43 from rfl]
  unfold tsW
  by_cases h43 : hrN P l j = 43
  · obtain ⟨i1, i2⟩ := hr_in h43 (by decide)
    rw [if_pos (by rw [h43]), if_pos h43, bvv_e]
    unfold tsP
    rw [gI_s, if_neg (by decide), bvv_e]
    refine ⟨_, rfl, (hS _).p (by decide) (by decide), ?_, ?_, ?_, fun e => absurd i2 e⟩
    · rw [gI_n (Or.inr (by decide)), q _ _ (by decide), h8]
    · rw [gI_s, q _ _ (by decide), h7, nI_1]
      unfold prL
      rw [if_pos i2]
    · rw [gI_n (Or.inr (by decide)), gI_s, if_pos i2]; rfl
  · have h13 : gI (sI M 150 13 0) 150 13 = 0 := gI_s
    have hS0 := hS 0
    rw [if_neg (nI_ne (by omega) (by decide) h43), if_neg h43, bvv_e]
    unfold tsP
    rw [if_pos h13, m_here (hP.sc hS0) hl (show j < 1000 by omega) (by rw [q _ _ (by decide), h7]), obb_s, bvv_e, gI_s]
    have hS1 : ScX M (sI (sI M 150 13 0) 150 11 (nI (hrN P l j) - 48)) := hS0.p (by decide) (by decide)
    have u7 : gI (sI (sI M 150 13 0) 150 11 (nI (hrN P l j) - 48)) 150 7 = nI j := by rw [gI_n (Or.inr (by decide)), q _ _ (by decide), h7]
    have u8 : gI (sI (sI M 150 13 0) 150 11 (nI (hrN P l j) - 48)) 150 8 = nI 1 := by rw [gI_n (Or.inr (by decide)), q _ _ (by decide), h8]
    by_cases hd : 48 ≤ hrN P l j ∧ hrN P l j ≤ 51
    · obtain ⟨i1, i2⟩ := hr_lt (P := P) (l := l) (j := j) (by omega)
      obtain ⟨M1, r1, r2, r3, r4, r5⟩ := m_tk1 (x := f_X6_in (nI (hrN P l j) - 48) 0 3) u8 u7 (by rw [in_ed _ (by omega), if_pos hd]; decide)
      have hP1 := hP.sc (hS1.tr r2)
      rw [if_pos hd, r1, obb_s, m_here hP1 hl (show j + 1 < 1000 by omega) r3, obb_s, show (58 : Int32) = nI 58 from rfl]
      by_cases h58 : hrN P l (j + 1) = 58
      · obtain ⟨M2, s1, s2, s3, s4, s5⟩ := m_tk1 (x := 1) r4 r3 (by decide)
        have hP2 := hP1.sc s2
        have hS2 : ScX M M2 := (hS1.tr r2).tr s2
        rw [if_pos (by rw [h58]), if_pos h58, s1, obb_s]
        by_cases hg : 48 ≤ hrN P l (j + 2) ∧ hrN P l (j + 2) ≤ 57
        · obtain ⟨i3, i4⟩ := hr_lt (P := P) (l := l) (j := j + 2) (by omega)
          obtain ⟨M3, t1, t2, t3, t4, t5, t6, t7⟩ := m_tsQ1 (t := j + 2) hP2 hl hc (by omega) s3 s4 hg
          have ec : (hrN P l (j + 2) = 49 ∧ hrN P l (j + 2 + 1) = 48) ↔ (P (j + 2) = 49 ∧ j + 3 < l ∧ P (j + 3) = 48) := by
            rw [i4]
            refine ⟨fun z => ?_, fun z => ⟨z.1, ?_⟩⟩
            · obtain ⟨a, b⟩ := hr_in z.2 (by decide)
              exact ⟨z.1, a, b⟩
            · unfold hrN; rw [if_pos z.2.1]; exact z.2.2
          have hn43 : ¬ P j = 43 := by rw [← i2]; exact h43
          rw [if_pos hg]
          refine ⟨M3, t1, hS2.tr t2, t3, ?_, ?_, fun e => ⟨?_, ?_⟩⟩
          · rw [t4]
            unfold prL
            rw [if_neg hn43]
            by_cases z : hrN P l (j + 2) = 49 ∧ hrN P l (j + 2 + 1) = 48
            · rw [if_pos z, if_pos (ec.mp z)]
            · rw [if_neg z, if_neg (fun y => z (ec.mpr y))]
          · rw [t6, s5 13 (by decide) (by decide), r5 13 (by decide) (by decide), gI_n (Or.inr (by decide)), gI_s, if_neg hn43]; rfl
          · rw [t7, s5 11 (by decide) (by decide), r5 11 (by decide) (by decide), gI_s, show (48 : Int32) = nI 48 from rfl, pk_sub hd.1, i2]
          · rw [t5]
            unfold prG
            by_cases z : hrN P l (j + 2) = 49 ∧ hrN P l (j + 2 + 1) = 48
            · rw [if_pos z, if_pos (ec.mp z)]
            · rw [if_neg z, if_neg (fun y => z (ec.mpr y)), i4]
        · obtain ⟨M3, t1, t2, t3, t4⟩ := m_tsQn (t := j + 2) hP2 hl hc (by omega) s3 hg
          rw [if_neg hg]
          exact ⟨M3, t1, hS2.tr t2, t3, t4⟩
      · obtain ⟨M2, s1, s2, s3, s4, -⟩ := m_tk0 (x := 0) (Or.inr rfl) r3
        obtain ⟨M3, t1, t2, t3, t4⟩ := m_tsQ0 (t := j + 1) (hP1.sc s2) hl (by omega) s3 s4
        rw [if_neg (nI_ne (by omega) (by decide) h58), if_neg h58, s1, obb_s]
        exact ⟨M3, t1, ((hS1.tr r2).tr s2).tr t2, t3, t4⟩
    · obtain ⟨M1, r1, r2, r3, r4, -⟩ := m_tk0 (x := f_X6_in (nI (hrN P l j) - 48) 0 3) (Or.inr (by rw [in_ed _ (by omega), if_neg hd])) u7
      have hP1 := hP.sc (hS1.tr r2)
      rw [if_neg hd, r1, obb_s, m_here hP1 hl (show j < 1000 by omega) r3, obb_s]
      have fin : ∀ x, ∃ M3, (obb (f_X6_takes 150 x M1) fun M2 => tsQ M2) = some M3 ∧ ScX M M3 ∧ gI M3 150 8 = nI 0 ∧ gI M3 150 7 = nI j := by
        intro x
        obtain ⟨M2, s1, s2, s3, s4, -⟩ := m_tk0 (x := x) (Or.inl r4) r3
        obtain ⟨M3, t1, t2, t3, t4⟩ := m_tsQ0 (t := j) (hP1.sc s2) hl (by omega) s3 s4
        refine ⟨M3, ?_, ((hS1.tr r2).tr s2).tr t2, t3, t4⟩
        rw [s1, obb_s, t1]
      split
      · exact fin 1
      · exact fin 0
/-! the fault of suits, by parts -/
def suN (P : Nat → Nat) (l t : Nat) : Option Nat := if t = l then none else if P t = 59 then suF P (l - (t + 1)) 0 (t + 1) else some t
theorem su_l {s : Nat} (h : s ≠ 3 ∧ s ≠ 4) : suF P (l - l) s l = some l := by rw [Nat.sub_self, suF, if_neg (by omega)]
theorem su_4n {k : Nat} (hk : k ≤ l) : suF P (l - k) 4 k = suN P l k := by
  unfold suN
  by_cases e : k = l
  · rw [if_pos e, e, Nat.sub_self]; rfl
  · rw [if_neg e, suS (by omega)]
    by_cases c : P k = 59
    · rw [c]; rfl
    · rw [if_neg c, show dueN 4 (P k) = none by unfold dueN; rw [if_neg (by decide), if_neg (by decide), if_neg (by decide), if_neg (by decide), if_neg c]]
theorem ts_some {j t : Nat} (hj : j ≤ l) (h : tsW (hrN P l) j = some t) : suF P (l - j) 0 j = some t ∧ t ≤ l := by
  have d1 : ∀ c, c ≠ 58 → dueN 1 c = none := fun c h => by unfold dueN; rw [if_neg (by decide), if_pos rfl, if_neg h]
  have d2 : ∀ c, ¬ (48 ≤ c ∧ c ≤ 57) → dueN 2 c = none := fun c h => by unfold dueN; rw [if_neg (by decide), if_neg (by decide), if_pos rfl, if_neg (by omega), if_neg h]
  unfold tsW at h
  by_cases h43 : hrN P l j = 43
  · rw [if_pos h43] at h; cases h
  rw [if_neg h43] at h
  by_cases hd : 48 ≤ hrN P l j ∧ hrN P l j ≤ 51
  · obtain ⟨i1, i2⟩ := hr_lt (P := P) (l := l) (j := j) (by omega)
    rw [i2] at hd h43
    rw [i2, if_pos hd] at h
    rw [suS i1, show dueN 0 (P j) = some 1 by unfold dueN; rw [if_pos rfl, if_neg h43, if_pos hd]]
    show suF P (l - (j + 1)) 1 (j + 1) = some t ∧ t ≤ l
    by_cases h58 : hrN P l (j + 1) = 58
    · obtain ⟨i3, i4⟩ := hr_in h58 (by decide)
      rw [if_pos h58] at h
      rw [suS i3, i4, show dueN 1 58 = some 2 from rfl]
      show suF P (l - (j + 2)) 2 (j + 2) = some t ∧ t ≤ l
      by_cases hg : 48 ≤ hrN P l (j + 2) ∧ hrN P l (j + 2) ≤ 57
      · rw [if_pos hg] at h; cases h
      · rw [if_neg hg] at h
        cases h
        by_cases e : j + 2 = l
        · rw [e, su_l (by decide)]; exact ⟨rfl, Nat.le_refl _⟩
        · have i5 : j + 2 < l := by omega
          rw [suS i5, d2 _ (by unfold hrN at hg; rw [if_pos i5] at hg; exact hg)]
          exact ⟨rfl, by omega⟩
    · rw [if_neg h58] at h
      cases h
      by_cases e : j + 1 = l
      · rw [e, su_l (by decide)]; exact ⟨rfl, Nat.le_refl _⟩
      · have i5 : j + 1 < l := by omega
        rw [suS i5, d1 _ (by unfold hrN at h58; rw [if_pos i5] at h58; exact h58)]
        exact ⟨rfl, by omega⟩
  · rw [if_neg hd] at h
    cases h
    by_cases e : j = l
    · rw [e, su_l (by decide)]; exact ⟨rfl, Nat.le_refl _⟩
    · have i5 : j < l := by omega
      have hr : hrN P l j = P j := if_pos i5
      rw [hr] at h43 hd
      rw [suS i5, show dueN 0 (P j) = none by unfold dueN; rw [if_pos rfl, if_neg h43, if_neg hd]]
      exact ⟨rfl, by omega⟩
theorem ts_none {j : Nat} (h : tsW (hrN P l) j = none) : j < l ∧ j + prL P l j ≤ l ∧ suF P (l - j) 0 j = suN P l (j + prL P l j) := by
  unfold tsW at h
  by_cases h43 : hrN P l j = 43
  · obtain ⟨i1, i2⟩ := hr_in h43 (by decide)
    unfold prL
    rw [if_pos i2, suS i1, i2, show dueN 0 43 = some 4 from rfl]
    exact ⟨i1, by omega, su_4n (by omega)⟩
  rw [if_neg h43] at h
  by_cases hd : 48 ≤ hrN P l j ∧ hrN P l j ≤ 51
  · obtain ⟨i1, i2⟩ := hr_lt (P := P) (l := l) (j := j) (by omega)
    rw [i2] at hd h43
    rw [i2, if_pos hd] at h
    rw [suS i1, show dueN 0 (P j) = some 1 by unfold dueN; rw [if_pos rfl, if_neg h43, if_pos hd]]
    show j < l ∧ _ ∧ suF P (l - (j + 1)) 1 (j + 1) = _
    by_cases h58 : hrN P l (j + 1) = 58
    · obtain ⟨i3, i4⟩ := hr_in h58 (by decide)
      rw [if_pos h58] at h
      rw [suS i3, i4, show dueN 1 58 = some 2 from rfl]
      show j < l ∧ _ ∧ suF P (l - (j + 2)) 2 (j + 2) = _
      by_cases hg : 48 ≤ hrN P l (j + 2) ∧ hrN P l (j + 2) ≤ 57
      · obtain ⟨i5, i6⟩ := hr_lt (P := P) (l := l) (j := j + 2) (by omega)
        rw [i6] at hg
        rw [suS i5]
        unfold prL
        rw [if_neg h43]
        by_cases c4 : P (j + 2) = 49
        · rw [c4, show dueN 2 49 = some 3 from rfl]
          show j < l ∧ _ ∧ suF P (l - (j + 3)) 3 (j + 3) = _
          by_cases c5 : j + 3 < l ∧ P (j + 3) = 48
          · rw [if_pos (And.intro rfl c5), suS c5.1, c5.2, show dueN 3 48 = some 4 from rfl]
            exact ⟨i1, by omega, su_4n (by omega)⟩
          · rw [if_neg (fun z => c5 z.2)]
            refine ⟨i1, by omega, ?_⟩
            unfold suN
            by_cases e : j + 3 = l
            · rw [if_pos e, e, Nat.sub_self]; rfl
            · have i7 : j + 3 < l := by omega
              have c6 : ¬ P (j + 3) = 48 := fun z => c5 ⟨i7, z⟩
              rw [if_neg e, suS i7]
              by_cases c7 : P (j + 3) = 59
              · rw [c7]; rfl
              · rw [if_neg c7, show dueN 3 (P (j + 3)) = none by unfold dueN; rw [if_neg (by decide), if_neg (by decide), if_neg (by decide), if_pos rfl, if_neg c6, if_neg c7]]
        · rw [if_neg (fun z => c4 z.1), show dueN 2 (P (j + 2)) = some 4 by unfold dueN; rw [if_neg (by decide), if_neg (by decide), if_pos rfl, if_neg c4, if_pos hg]]
          exact ⟨i1, by omega, su_4n (by omega)⟩
      · rw [if_neg hg] at h; cases h
    · rw [if_neg h58] at h; cases h
  · rw [if_neg hd] at h; cases h
def sRes (o : Option (Int32 × Mem)) (M : Mem) : Option Nat → Prop
  | none => ∃ M2, o = some (nI 1, M2) ∧ ScX M M2 ∧ gI M2 150 8 = nI 1
  | some t => ∃ M2, o = some (nI 0, M2) ∧ ScX M M2 ∧ gI M2 150 7 = nI t
theorem sRes.tr {o : Option (Int32 × Mem)} {M M1 : Mem} {q : Option Nat} (h : ScX M M1) (h2 : sRes o M1 q) : sRes o M q := by
  cases q with
  | none => obtain ⟨M2, r1, r2, r3⟩ := h2; exact ⟨M2, r1, h.tr r2, r3⟩
  | some t => obtain ⟨M2, r1, r2, r3⟩ := h2; exact ⟨M2, r1, h.tr r2, r3⟩
theorem m_ar0 {M : Mem} {n : Nat} (h8 : gI M 150 8 = nI 0) : f_X6_areSuits_14 (n + 1) 150 M = some (nI 0, M) := by
  rw [f_X6_areSuits_14, gdd_t mk.1, h8, if_pos (by rfl), gdd_t (by rfl)]
theorem m_arL (hl : l ≤ 60) (hc : ∀ i, i < l → P i ≤ 126) : ∀ (n t : Nat) (M : Mem), t ≤ l → l - t + 1 < n → MPad M l P → gI M 150 7 = nI t → gI M 150 8 = nI 1 → sRes (f_X6_areSuits_14 n 150 M) M (suN P l t) := by
  intro n
  induction n with
  | zero => intro _ _ _ h; omega
  | succ n ih =>
    intro t M ht hn hP h7 h8
    obtain ⟨n, rfl⟩ : ∃ m, n = m + 1 := ⟨n - 1, by omega⟩
    unfold suN
    rw [f_X6_areSuits_14, gdd_t mk.1, h8, if_neg (by decide), hP.1, h7]
    by_cases e : t = l
    · rw [if_pos (nI_le' (by omega) (by omega) (by omega)), gdd_t (by rfl), if_pos e]
      exact ⟨M, rfl, ScX.rf, h8⟩
    · have hlt : t < l := by omega
      have hr : hrN P l t = P t := if_pos hlt
      have hct := hc t hlt
      rw [if_neg (nI_nle' (by omega) (by omega) hlt), m_here hP hl (by omega) h7, obb_s, hr, show (59 : Int32) = nI 59 from rfl, if_neg e]
      by_cases c : P t = 59
      · obtain ⟨M1, r1, r2, r3, r4, -⟩ := m_tk1 (x := 1) h8 h7 (by decide)
        have hts := m_ts (hP.sc r2) hl hc (show t + 1 ≤ l by omega) r3 r4
        rw [if_pos (by rw [c]), if_pos c, r1, obb_s, r4, if_neg (by decide)]
        cases hq : tsW (hrN P l) (t + 1) with
        | some v =>
          rw [hq] at hts
          obtain ⟨M2, s1, s2, s3, s4⟩ := hts
          rw [(ts_some (by omega) hq).1, s1, obb_s, m_ar0 s3]
          exact ⟨M2, rfl, r2.tr s2, s4⟩
        | none =>
          rw [hq] at hts
          obtain ⟨M2, s1, s2, s3, s4, -⟩ := hts
          obtain ⟨k1, k2, k3⟩ := ts_none hq
          rw [k3, s1, obb_s]
          exact sRes.tr (r2.tr s2) (ih _ M2 k2 (by omega) (hP.sc (r2.tr s2)) s4 s3)
      · obtain ⟨M1, r1, r2, r3, r4, -⟩ := m_tk0 (x := 0) (Or.inr rfl) h7
        rw [if_neg (nI_ne (by omega) (by decide) c), if_neg c, r1, obb_s, r4, if_pos (by rfl), m_ar0 r4]
        exact ⟨M1, rfl, r2, r3⟩
theorem m_areS {M : Mem} {w : Wd} (hO : OkW w) (hM : MI M w) : sRes (f_X6_areSuits 150 M) M (suQ w) := by
  have hl := hO.2.2.2.2.2.1
  have hc : ∀ i, i < w.l → w.P i ≤ 126 := fun i hi => (hO.2.2.2.2.2.2.1 i hi).2
  have hS : ScX M (sI (sI M 150 7 0) 150 8 1) := (ScX.rf.p (by decide) (by decide)).p (by decide) (by decide)
  have hP := hM.2.2.2.1.sc hS
  have hts := m_ts hP hl hc (Nat.zero_le _) (by rw [gI_n (Or.inr (by decide)), gI_s]; rfl) (by rw [gI_s]; rfl)
  unfold f_X6_areSuits suQ
  rw [gdd_t mk.1, bvv_e, bvv_e]
  cases hq : tsW (hrN w.P w.l) 0 with
  | some v =>
    rw [hq] at hts
    obtain ⟨M2, s1, s2, s3, s4⟩ := hts
    have := (ts_some (Nat.zero_le _) hq).1
    rw [Nat.sub_zero] at this
    rw [this, s1, obb_s, show FU = 4999 + 1 from rfl, m_ar0 s3]
    exact ⟨M2, rfl, hS.tr s2, s4⟩
  | none =>
    rw [hq] at hts
    obtain ⟨M2, s1, s2, s3, s4, -⟩ := hts
    obtain ⟨k1, k2, k3⟩ := ts_none hq
    rw [Nat.sub_zero] at k3
    rw [k3, s1, obb_s]
    exact sRes.tr (hS.tr s2) (m_arL hl hc FU _ M2 k2 (by unfold FU; omega) (hP.sc s2) s4 s3)
theorem m_fault {M : Mem} {w : Wd} (hO : OkW w) (hM : MI M w) (x : Int32) : MRes (f_X6_fault 150 x M) M (lkFault x w) w := by
  unfold f_X6_fault lkFault
  by_cases h : 0 ≤ x ∧ x ≤ 1
  · rw [if_neg (in_1 h), if_pos h]
    by_cases h0 : x = 0
    · have hw := m_isW hO hM
      rw [if_pos h0, if_pos h0, gdd_t mk.1]
      cases hq : edQ w with
      | none =>
        rw [hq] at hw
        obtain ⟨M2, r1, r2, -⟩ := hw
        rw [r1, opp_s, if_neg (by decide)]
        exact ⟨M2, rfl, hM.sc r2, r2.ge⟩
      | some t =>
        rw [hq] at hw
        obtain ⟨M2, r1, r2, r3⟩ := hw
        rw [r1, opp_s, if_pos rfl, r3]
        exact ⟨M2, rfl, hM.sc r2, r2.ge⟩
    · have hw := m_areS hO hM
      rw [if_neg h0, if_neg h0, gdd_t mk.1]
      cases hq : suQ w with
      | none =>
        rw [hq] at hw
        obtain ⟨M2, r1, r2, -⟩ := hw
        rw [r1, opp_s, if_neg (by decide)]
        exact ⟨M2, rfl, hM.sc r2, r2.ge⟩
      | some t =>
        rw [hq] at hw
        obtain ⟨M2, r1, r2, r3⟩ := hw
        rw [r1, opp_s, if_pos (by rfl), r3]
        exact ⟨M2, rfl, hM.sc r2, r2.ge⟩
  · rw [if_pos (in_0 h), if_neg h]
    exact MRes.no hM
end ISS
