/-! PURE: copies, the class -/
theorem p_at0 {M : Mem} {r j : Nat} {x : Int32} (e : x = nI j) (hr : kd r = 8) (hj : j < ln r) (hl : ln r < 1000) : f_X5_at r x M = some (gI M r j) := by rw [e]; exact p_at hr hj hl
theorem Sm.p1 {M M2 : Mem} {d k : Nat} {v : Int32} (h : Sm (fun q => q = d) M M2) : Sm (fun q => q = d) M (sI M2 d k v) := Sm.put h rfl
def EdEq (M : Mem) (s : Nat) (M2 : Mem) (d : Nat) : Prop := gI M2 d 1 = gI M s 1 ∧ gI M2 d 2 = gI M s 2 ∧ gI M2 d 3 = gI M s 3 ∧ gI M2 d 4 = gI M s 4 ∧ ∀ j, j < 12 → gI M2 (d + 1) j = gI M (s + 1) j
theorem EdEq.r {M M2 : Mem} {s d o : Nat} {A : Nat → Nat} (h : EdEq M s M2 d) (hE : EdR M s A o) (hw : A o ≤ 12) : EdR M2 d A o :=
  ⟨h.1.trans hE.1, h.2.1.trans hE.2.1, h.2.2.1.trans hE.2.2.1, h.2.2.2.1.trans hE.2.2.2.1, fun j hj => (h.2.2.2.2 j (by omega)).trans (hE.2.2.2.2 j hj)⟩
def EdX (d : Nat) : Nat → Prop := fun r => r = d ∨ r = d + 1
theorem ed_dj {d s : Nat} (hd : kd d = 1) (hs : kd s = 1) (h : d ≠ s) : ¬ EdX d s ∧ ¬ EdX d (s + 1) := by
  have h1 := (ed_at hd).2.2.2.1
  have h2 := (ed_at hs).2.2.2.1
  constructor
  · rintro (e | e)
    · exact h e.symm
    · rw [e] at hs; omega
  · rintro (e | e)
    · rw [e] at h2; omega
    · exact h (by omega)
theorem p_edCopyL {d s : Nat} (hd : kd d = 1) (hs : kd s = 1) (hne : d ≠ s) {M : Mem} : ∀ (n j : Nat) (M1 : Mem), j ≤ 12 → 12 - j < n → Sm (EdX d) M M1 → (∀ i, i < j → gI M1 (d + 1) i = gI M (s + 1) i) →
    ∃ M2, f_X0_copyFrom_2 n d s (nI j) M1 = some M2 ∧ Sm (EdX d) M M2 ∧ EdEq M s M2 d := by
  obtain ⟨-, -, d1, d2, d3⟩ := ed_at hd
  obtain ⟨-, -, s1, s2, s3⟩ := ed_at hs
  obtain ⟨n1, n2⟩ := ed_dj hd hs hne
  intro n
  induction n with
  | zero => intro j _ _ h; omega
  | succ n ih =>
    intro j M1 hj hn hS hI
    rw [f_X0_copyFrom_2, show (12 : Int32) = nI 12 from rfl]
    by_cases h : j = 12
    · subst h
      rw [if_pos (nI_le' (by omega) (by omega) (by omega)), gdd_t hs, gdd_t hd]
      simp only [bvv_e]
      have hS4 : Sm (EdX d) M (sI (sI (sI (sI M1 d 1 (gI M1 s 1)) d 2 (gI M1 s 2)) d 3 (gI M1 s 3)) d 4 (gI M1 s 4)) := ((((hS.put (Or.inl rfl)).put (Or.inl rfl)).put (Or.inl rfl)).put (Or.inl rfl))
      have hsd : s ≠ d := fun e => hne e.symm
      have q : ∀ k, gI M1 s k = gI M s k := fun k => hS.1 s k n1
      refine ⟨sI (sI (sI (sI M1 d 1 (gI M1 s 1)) d 2 (gI M1 s 2)) d 3 (gI M1 s 3)) d 4 (gI M1 s 4), ?_, hS4, ?_, ?_, ?_, ?_, ?_⟩
      · simp only [gI_n (Or.inl hsd)]
      · rw [gI_n (Or.inr (by decide)), gI_n (Or.inr (by decide)), gI_n (Or.inr (by decide)), gI_s, q]
      · rw [gI_n (Or.inr (by decide)), gI_n (Or.inr (by decide)), gI_s, q]
      · rw [gI_n (Or.inr (by decide)), gI_s, q]
      · rw [gI_s, q]
      · intro j hj
        rw [gI_n (Or.inl (by omega)), gI_n (Or.inl (by omega)), gI_n (Or.inl (by omega)), gI_n (Or.inl (by omega))]
        exact hI j hj
    · have hlt : j < 12 := by omega
      rw [if_neg (nI_nle' (by omega) (by omega) hlt), gdd_t hd, gdd_t hs, s1, p_at s2 (by omega) (by omega), obb_s, d1, p_put d2 (by omega) (by omega), obb_s, bvv_e, nI_1]
      refine ih (j + 1) _ (by omega) (by omega) (hS.put (Or.inr rfl)) (fun i hi => ?_)
      by_cases hij : i = j
      · subst hij
        rw [gI_s, hS.1 _ _ n2]
      · rw [gI_n (Or.inr hij)]
        exact hI i (by omega)
theorem p_edCopy {d s : Nat} (hd : kd d = 1) (hs : kd s = 1) (hne : d ≠ s) (M : Mem) : ∃ M2, f_X0_copyFrom d s M = some M2 ∧ Sm (EdX d) M M2 ∧ EdEq M s M2 d :=
  p_edCopyL hd hs hne FU 0 M (by omega) (by unfold FU; omega) Sm.rf (fun i h => by omega)
theorem isb_nI {x : Nat} (h : x ≤ 1) : isb (nI x) = true := by
  rcases Nat.lt_or_ge x 1 with e | e
  · rw [show x = 0 by omega]; rfl
  · rw [show x = 1 by omega]; rfl
theorem p_ruCopy {d s r : Nat} (hd : kd d = 3) (hs : kd s = 3) (hne : d ≠ s) {M : Mem} {A : Nat → Nat} (hR : RuR M s A r) (hk : OkR A r) : ∃ M2, f_X2_copyFrom d s M = some M2 ∧ Sm (fun q => q = d) M M2 ∧ RuR M2 d A r := by
  obtain ⟨q0, q1, q2, q3, q4, q5, q6⟩ := hR
  have hsd : s ≠ d := fun e => hne e.symm
  unfold f_X2_copyFrom
  rw [gdd_t hs, gdd_t hd]
  simp only [bvv_e, gI_n (Or.inl hsd)]
  rw [gdd_t (by rw [q2]; exact isb_nI hk.2.2.1), gdd_t (by rw [q5]; exact isb_nI hk.2.2.2.2.2.2), gdd_t (by rw [q6]; exact isb_nI (by cases inF A r <;> decide))]
  refine ⟨_, rfl, Sm.rf.p1.p1.p1.p1.p1.p1.p1, ?_, ?_, ?_, ?_, ?_, ?_, ?_⟩
  · rw [gI_n (Or.inr (by decide)), gI_n (Or.inr (by decide)), gI_n (Or.inr (by decide)), gI_n (Or.inr (by decide)), gI_n (Or.inr (by decide)), gI_n (Or.inr (by decide)), gI_s, q0]
  · rw [gI_n (Or.inr (by decide)), gI_n (Or.inr (by decide)), gI_n (Or.inr (by decide)), gI_n (Or.inr (by decide)), gI_n (Or.inr (by decide)), gI_s, q1]
  · rw [gI_n (Or.inr (by decide)), gI_n (Or.inr (by decide)), gI_n (Or.inr (by decide)), gI_n (Or.inr (by decide)), gI_s, q2]
  · rw [gI_n (Or.inr (by decide)), gI_n (Or.inr (by decide)), gI_n (Or.inr (by decide)), gI_s, q3]
  · rw [gI_n (Or.inr (by decide)), gI_n (Or.inr (by decide)), gI_s, q4]
  · rw [gI_n (Or.inr (by decide)), gI_s, q5]
  · rw [gI_s, q6]
/-! a whole state -/
def StX (a : Nat) : Nat → Prop := fun r => a ≤ r ∧ r < a + 23
theorem st_dj {a b : Nat} (ha : kd a = 5) (hb : kd b = 5) (h : a ≠ b) : ∀ r, StX a r → r < b ∨ b + 23 ≤ r := by
  have h1 := st_r ha
  have h2 := st_r hb
  intro r hr
  unfold StX at hr
  omega
/-- the parts of RelS, so many of them -/
def RelP (M : Mem) (a : Nat) (A : Nat → Nat) (i s e r : Nat) : Prop := (∀ k, k < i → gI M (a + 1) k = nI (A (7 + k))) ∧ (1 ≤ s → gI M (a + 2) 0 = nI (A 1)) ∧ (2 ≤ s → gI M (a + 2) 1 = nI (A 2)) ∧ (∀ k, k < e → EdR M (a + 5 + 2 * k) A (73 + 16 * k)) ∧ ∀ k, k < r → RuR M (a + 13 + k) A k
section SC
variable {a b : Nat} {A : Nat → Nat} {M : Mem}
theorem p_stC4 (ha : kd a = 5) (hb : kd b = 5) (hne : a ≠ b) (hO : Ok A) (hR : RelS M b A) : ∀ (n j : Nat) (M1 : Mem), j ≤ A 4 → A 4 - j < n → Sm (StX a) M M1 → gI M1 a 4 = nI (A 3) → gI M1 a 5 = nI (A 4) → RelP M1 a A 6 2 (A 3) j →
    ∃ M2, f_X4_copyFrom_103 n a b (nI j) M1 = some M2 ∧ Sm (StX a) M M2 ∧ RelS M2 a A := by
  have hm := hO.m
  have hn3 := hO.n
  have hB : ∀ {M1 : Mem}, Sm (StX a) M M1 → RelS M1 b A := fun h => hR.sm h (st_dj ha hb hne) hn3 hm
  have sa := st_r ha
  have sb := st_r hb
  intro n
  induction n with
  | zero => intro j _ _ h; omega
  | succ n ih =>
    intro j M1 hj hn hS c4 c5 hP
    have hR1 := hB hS
    rw [f_X4_copyFrom_103, gdd_t ha, c5]
    by_cases h : j = A 4
    · subst h
      rw [if_pos (nI_le' (by omega) (by omega) (by omega)), gdd_t hb]
      simp only [bvv_e]
      have hba : b ≠ a := fun e => hne e.symm
      simp only [gI_n (Or.inl hba)]
      refine ⟨_, rfl, ((hS.put ⟨by omega, by omega⟩).put ⟨by omega, by omega⟩).put ⟨by omega, by omega⟩, ?_⟩
      have hS3 : Sm (fun r => r = a) M1 (sI (sI (sI M1 a 6 (gI M1 b 6)) a 7 (gI M1 b 7)) a 8 (gI M1 b 8)) := Sm.rf.p1.p1.p1
      have g : ∀ k, k ≠ a → ∀ i, gI (sI (sI (sI M1 a 6 (gI M1 b 6)) a 7 (gI M1 b 7)) a 8 (gI M1 b 8)) k i = gI M1 k i := fun k h i => hS3.1 k i h
      refine ⟨fun k hk => (g _ (by omega) _).trans (hP.1 k hk), (g _ (by omega) _).trans (hP.2.1 (by decide)), (g _ (by omega) _).trans (hP.2.2.1 (by decide)), ?_, ?_, ?_, ?_, ?_, ?_, ?_⟩
      · rw [gI_n (Or.inr (by decide)), gI_n (Or.inr (by decide)), gI_n (Or.inr (by decide)), c4]
      · rw [gI_n (Or.inr (by decide)), gI_n (Or.inr (by decide)), gI_n (Or.inr (by decide)), c5]
      · rw [gI_n (Or.inr (by decide)), gI_n (Or.inr (by decide)), gI_s, hR1.d]
      · rw [gI_n (Or.inr (by decide)), gI_s, hR1.g]
      · rw [gI_s, hR1.f]
      · intro e he
        exact (hP.2.2.2.1 e he).sm hS3 (by omega) (by omega)
      · intro r hr
        exact (hP.2.2.2.2 r hr).sm hS3 (by omega)
    · have hlt : j < A 4 := by omega
      obtain ⟨-, k1⟩ := st_ru ha (show j < 10 by omega)
      obtain ⟨-, k2⟩ := st_ru hb (show j < 10 by omega)
      rw [if_neg (nI_nle' (by omega) (by omega) hlt), gdd_t hb, p_ruAt hb hR1.m hm hlt, obb_s, p_ruAt ha c5 hm hlt, obb_s, if_neg (by omega), if_neg (by omega), gdd_t k1]
      obtain ⟨M2, r1, r2, r3⟩ := p_ruCopy k1 k2 (by omega) (hR1.r j hlt) (hO.r j hlt)
      rw [r1, obb_s, bvv_e, nI_1]
      have r2' : Sm (StX a) M1 M2 := r2.mono (fun r h => ⟨by omega, by omega⟩)
      refine ih (j + 1) M2 (by omega) (by omega) (hS.tr r2') ((r2.1 _ _ (by omega)).trans c4) ((r2.1 _ _ (by omega)).trans c5) ⟨fun k hk => (r2.1 _ _ (by omega)).trans (hP.1 k hk), fun h => (r2.1 _ _ (by omega)).trans (hP.2.1 h), fun h => (r2.1 _ _ (by omega)).trans (hP.2.2.1 h), fun e he => (hP.2.2.2.1 e he).sm r2 (by omega) (by omega), fun r hr => ?_⟩
      by_cases hrj : r = j
      · subst hrj; exact r3
      · exact (hP.2.2.2.2 r (by omega)).sm r2 (by omega)
theorem p_copyEdition {e j m : Nat} (ha : kd a = 5) (he : kd e = 1) (hm : m ≤ 4) (hj : j < m) (hne : a + 5 + 2 * j ≠ e) {M1 : Mem} (c4 : gI M1 a 4 = nI m) : ∃ M2, f_X4_copyEdition a e (nI j) M1 = some M2 ∧ Sm (EdX (a + 5 + 2 * j)) M1 M2 ∧ EdEq M1 e M2 (a + 5 + 2 * j) := by
  obtain ⟨M2, r1, r2, r3⟩ := p_edCopy (st_ed ha (show j < 4 by omega)).2 he hne M1
  have h0 := ed_at he
  refine ⟨M2, ?_, r2, r3⟩
  unfold f_X4_copyEdition
  rw [gdd_t ha, p_edAt ha c4 hm hj, obb_s, if_neg (by omega), if_neg (by omega), gdd_t (st_ed ha (by omega)).2, r1, obb_s]
theorem p_stC3 (ha : kd a = 5) (hb : kd b = 5) (hne : a ≠ b) (hO : Ok A) (hR : RelS M b A) : ∀ (n j : Nat) (M1 : Mem), j ≤ A 3 → A 3 - j < n → Sm (StX a) M M1 → gI M1 a 4 = nI (A 3) → gI M1 a 5 = nI (A 4) → RelP M1 a A 6 2 j 0 →
    ∃ M2, f_X4_copyFrom_77 n a b (nI j) M1 = some M2 ∧ Sm (StX a) M M2 ∧ RelS M2 a A := by
  have hm := hO.m
  have hn3 := hO.n
  have sa := st_r ha
  have sb := st_r hb
  have hdj := st_dj ha hb hne
  have hB : ∀ {M1 : Mem}, Sm (StX a) M M1 → RelS M1 b A := fun h => hR.sm h hdj hn3 hm
  intro n
  induction n with
  | zero => intro j _ _ h; omega
  | succ n ih =>
    intro j M1 hj hn hS c4 c5 hP
    have hR1 := hB hS
    rw [f_X4_copyFrom_77, gdd_t ha, c4]
    by_cases h : j = A 3
    · subst h
      rw [if_pos (nI_le' (by omega) (by omega) (by omega))]
      exact p_stC4 ha hb hne hO hR FU 0 M1 (by omega) (by unfold FU; omega) hS c4 c5 hP
    · have hlt : j < A 3 := by omega
      obtain ⟨M2, r1, r2, r3⟩ := p_copyEdition ha (st_ed hb (show j < 4 by omega)).2 hn3 hlt (by omega) c4
      rw [if_neg (nI_nle' (by omega) (by omega) hlt), gdd_t hb, p_edAt hb hR1.n hn3 hlt, obb_s, r1, obb_s, bvv_e, nI_1]
      have rX : ∀ r, EdX (a + 5 + 2 * j) r → StX a r := fun r h => by unfold EdX at h; exact ⟨by omega, by omega⟩
      have nx : ∀ q, (q < a + 5 + 2 * j ∨ a + 7 + 2 * j ≤ q) → ¬ EdX (a + 5 + 2 * j) q := fun q h h2 => by unfold EdX at h2; omega
      refine ih (j + 1) M2 (by omega) (by omega) (hS.tr (r2.mono rX)) ((r2.1 _ _ (nx _ (by omega))).trans c4) ((r2.1 _ _ (nx _ (by omega))).trans c5) ⟨fun k hk => (r2.1 _ _ (nx _ (by omega))).trans (hP.1 k hk), fun h => (r2.1 _ _ (nx _ (by omega))).trans (hP.2.1 h), fun h => (r2.1 _ _ (nx _ (by omega))).trans (hP.2.2.1 h), fun e he => ?_, fun r hr => by omega⟩
      by_cases hej : e = j
      · subst hej
        exact r3.r (hR1.e e hlt) (hO.e e hlt).2.1
      · exact (hP.2.2.2.1 e (by omega)).sm r2 (nx _ (by omega)) (nx _ (by omega))
theorem p_stC2 (ha : kd a = 5) (hb : kd b = 5) (hne : a ≠ b) (hO : Ok A) (hR : RelS M b A) : ∀ (n j : Nat) (M1 : Mem), j ≤ 2 → 2 - j < n → Sm (StX a) M M1 → RelP M1 a A 6 j 0 0 →
    ∃ M2, f_X4_copyFrom_32 n a b (nI j) M1 = some M2 ∧ Sm (StX a) M M2 ∧ RelS M2 a A := by
  have hm := hO.m
  have hn3 := hO.n
  have sa := st_r ha
  have sb := st_r hb
  have hdj := st_dj ha hb hne
  have hB : ∀ {M1 : Mem}, Sm (StX a) M M1 → RelS M1 b A := fun h => hR.sm h hdj hn3 hm
  obtain ⟨a1, a2, a3⟩ := st_1 ha
  obtain ⟨b1, b2, b3⟩ := st_1 hb
  intro n
  induction n with
  | zero => intro j _ _ h; omega
  | succ n ih =>
    intro j M1 hj hn hS hP
    have hR1 := hB hS
    rw [f_X4_copyFrom_32, show (2 : Int32) = nI 2 from rfl]
    by_cases h : j = 2
    · subst h
      rw [if_pos (nI_le' (by omega) (by omega) (by omega)), gdd_t hb, gdd_t ha]
      simp only [bvv_e]
      have hba : b ≠ a := fun e => hne e.symm
      have hS2 : Sm (fun r => r = a) M1 (sI (sI M1 a 4 (gI M1 b 4)) a 5 (gI M1 b 5)) := Sm.rf.p1.p1
      rw [gI_n (Or.inl hba)]
      refine p_stC3 ha hb hne hO hR FU 0 _ (by omega) (by unfold FU; omega) (hS.tr (hS2.mono (fun r h => ⟨by omega, by omega⟩))) ?_ ?_ ⟨fun k hk => (hS2.1 _ _ (by omega)).trans (hP.1 k hk), fun h => (hS2.1 _ _ (by omega)).trans (hP.2.1 h), fun h => (hS2.1 _ _ (by omega)).trans (hP.2.2.1 h), fun e he => by omega, fun r hr => by omega⟩
      · rw [gI_n (Or.inr (by decide)), gI_s, hR1.n]
      · rw [gI_s, hR1.m]
    · have hlt : j < 2 := by omega
      have hS2 : Sm (fun r => r = a + 2) M1 (sI M1 (a + 2) j (gI M1 (b + 2) j)) := Sm.rf.p1
      rw [if_neg (nI_nle' (by omega) (by omega) hlt), gdd_t ha, gdd_t hb, b1, p_at b2 (by omega) (by omega), obb_s, a1, p_put a2 (by omega) (by omega), obb_s, bvv_e, nI_1]
      refine ih (j + 1) _ (by omega) (by omega) (hS.tr (hS2.mono (fun r h => ⟨by omega, by omega⟩))) ⟨fun k hk => (hS2.1 _ _ (by omega)).trans (hP.1 k hk), fun h => ?_, fun h => ?_, fun e he => by omega, fun r hr => by omega⟩
      · rcases Nat.eq_zero_or_pos j with h0 | h0
        · subst h0; rw [gI_s, hR1.s0]
        · rw [gI_n (Or.inr (by omega)), hP.2.1 (by omega)]
      · have h0 : j = 1 := by omega
        subst h0; rw [gI_s, hR1.s1]
theorem p_stC1 (ha : kd a = 5) (hb : kd b = 5) (hne : a ≠ b) (hO : Ok A) (hR : RelS M b A) : ∀ (n j : Nat) (M1 : Mem), j ≤ 6 → 6 - j < n → Sm (StX a) M M1 → RelP M1 a A j 0 0 0 →
    ∃ M2, f_X4_copyFrom_2 n a b (nI j) M1 = some M2 ∧ Sm (StX a) M M2 ∧ RelS M2 a A := by
  have hm := hO.m
  have hn3 := hO.n
  have sa := st_r ha
  have sb := st_r hb
  have hdj := st_dj ha hb hne
  have hB : ∀ {M1 : Mem}, Sm (StX a) M M1 → RelS M1 b A := fun h => hR.sm h hdj hn3 hm
  obtain ⟨a1, a2, a3⟩ := st_0 ha
  obtain ⟨b1, b2, b3⟩ := st_0 hb
  intro n
  induction n with
  | zero => intro j _ _ h; omega
  | succ n ih =>
    intro j M1 hj hn hS hP
    have hR1 := hB hS
    rw [f_X4_copyFrom_2, show (6 : Int32) = nI 6 from rfl]
    by_cases h : j = 6
    · subst h
      rw [if_pos (nI_le' (by omega) (by omega) (by omega))]
      exact p_stC2 ha hb hne hO hR FU 0 M1 (by omega) (by unfold FU; omega) hS hP
    · have hlt : j < 6 := by omega
      have hS2 : Sm (fun r => r = a + 1) M1 (sI M1 (a + 1) j (gI M1 (b + 1) j)) := Sm.rf.p1
      rw [if_neg (nI_nle' (by omega) (by omega) hlt), gdd_t ha, gdd_t hb, b1, p_at b2 (by omega) (by omega), obb_s, a1, p_put a2 (by omega) (by omega), obb_s, bvv_e, nI_1]
      refine ih (j + 1) _ (by omega) (by omega) (hS.tr (hS2.mono (fun r h => ⟨by omega, by omega⟩))) ⟨fun k hk => ?_, fun h => by omega, fun h => by omega, fun e he => by omega, fun r hr => by omega⟩
      by_cases hkj : k = j
      · subst hkj; rw [gI_s, hR1.w k hlt]
      · rw [gI_n (Or.inr hkj), hP.1 k (by omega)]
theorem p_stCopy (ha : kd a = 5) (hb : kd b = 5) (hne : a ≠ b) (hO : Ok A) (hR : RelS M b A) : ∃ M2, f_X4_copyFrom a b M = some M2 ∧ Sm (StX a) M M2 ∧ RelS M2 a A :=
  p_stC1 ha hb hne hO hR FU 0 M (by omega) (by unfold FU; omega) Sm.rf ⟨fun k hk => by omega, fun h => by omega, fun h => by omega, fun e he => by omega, fun r hr => by omega⟩
end SC
