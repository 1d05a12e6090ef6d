/-! PURE: the reference: print -/
theorem kK_at {P : Nat → Nat} : ∀ (l i : Nat), i < l → P i ≠ 44 → kK P l (wN P i) = P i - 97 ∧ wN P i < wN P l
  | 0, i, h, _ => by omega
  | l + 1, i, h, h4 => by
    by_cases e : i = l
    · subst e
      rw [kK, if_neg h4, updN_s, wN, if_neg h4]
      exact ⟨rfl, Nat.lt_succ_self _⟩
    · obtain ⟨h1, h2⟩ := kK_at (P := P) l i (by omega) h4
      rw [kK, wN]
      by_cases c : P l = 44
      · rw [if_pos c, if_pos c]; exact ⟨h1, h2⟩
      · rw [if_neg c, if_neg c, updN_n (by omega)]; exact ⟨h1, by omega⟩
theorem kK_ex {P : Nat → Nat} : ∀ (l j : Nat), j < wN P l → ∃ i, i < l ∧ P i ≠ 44 ∧ wN P i = j
  | 0, j, h => by exact absurd h (Nat.not_lt_zero _)
  | l + 1, j, h => by
    rw [wN] at h
    by_cases c : P l = 44
    · rw [if_pos c] at h
      obtain ⟨i, h1, h2⟩ := kK_ex (P := P) l j h
      exact ⟨i, by omega, h2⟩
    · rw [if_neg c] at h
      by_cases e : j = wN P l
      · exact ⟨l, by omega, c, e.symm⟩
      · obtain ⟨i, h1, h2⟩ := kK_ex (P := P) l j (by omega)
        exact ⟨i, by omega, h2⟩
def prT (P A : Nat → Nat) (o i : Nat) : Bool := (P i == 44) || (A (o + 4 + wN P i) == P i - 97)
theorem pr_all {P A : Nat → Nat} {o l : Nat} : allF (prT P A o) 0 l = allF (fun j => A (o + 4 + j) == kK P l j) 0 (wN P l) := by
  rw [Bool.eq_iff_iff, allF_iff, allF_iff]
  refine ⟨fun g j _ j2 => ?_, fun g i _ i2 => ?_⟩
  · obtain ⟨i, h1, h2, h3⟩ := kK_ex (P := P) l j (by omega)
    have h4 := g i (Nat.zero_le _) (by omega)
    obtain ⟨h5, -⟩ := kK_at (P := P) l i h1 h2
    unfold prT at h4
    rw [beq_eq_false_iff_ne.mpr h2, Bool.false_or, h3] at h4
    rw [h3] at h5
    rw [h5]; exact h4
  · unfold prT
    by_cases c : P i = 44
    · rw [beq_iff_eq.mpr c]; rfl
    · obtain ⟨h5, h6⟩ := kK_at (P := P) l i (by omega) c
      have h4 := g (wN P i) (Nat.zero_le _) (by omega)
      simp only [h5] at h4
      rw [h4, Bool.or_true]
section MPR
variable {M : Mem} {A P : Nat → Nat} {l : Nat}
theorem m_prI (hR : RowR M 151 0 A) (hO : Ok A) (hP : MPad M l P) (hl : l ≤ 60) (hg : ∀ i, i < l → gdS P i) {e : Nat} (he : e < A 3) (x : Bool) (k4 : Nat → Int32 → Int32 → Option Int32) : ∀ (n k : Nat) (b : Bool), k ≤ l → l - k < n → f_X6_isPrinted_52 M k4 n 150 (nI x.toNat) (nI e) (nI b.toNat) (nI (wN P k)) (nI k) = k4 150 (nI (x || (b && allF (prT P A (73 + 16 * e)) k (l - k))).toNat) (nI (e + 1)) := by
  have hn3 := hO.n
  have hK := hO.e e he
  intro n
  induction n with
  | zero => intro _ _ _ h; omega
  | succ n ih =>
    intro k b hk hn
    rw [f_X6_isPrinted_52, gdd_t mk.1, hP.1]
    by_cases h : k = l
    · rw [if_pos (nI_le' (by omega) (by omega) (by omega)), h, Nat.sub_self]
      simp only [bvv_e]
      rw [nI_1]
      cases x
      · rw [if_pos (by rfl)]
        cases b
        · rw [if_pos (by rfl)]; rfl
        · rw [if_neg (by decide)]; rfl
      · rw [if_neg (by decide)]; rfl
    · have hlt : k < l := by omega
      have hgk := hg k hlt
      have hP126 : P k ≤ 126 := by rcases hgk with ⟨a, -⟩ | ⟨a, -⟩ <;> omega
      have ip : inb (nI k) 60 = true := inb_nI (by omega) (by decide)
      rw [if_neg (nI_nle' (by omega) (by omega) hlt), mk.2.2.2.2.1, ml.2.2.2.1, nI_clamp (by omega), hP.2 k hlt, show (44 : Int32) = nI 44 from rfl, show l - k = l - (k + 1) + 1 by omega, allF]
      simp only [bvv_e]
      rw [nI_1, nI_1, Int32.add_zero]
      have w1 : P k = 44 → wN P (k + 1) = wN P k := fun c => by rw [wN, if_pos c]
      have w2 : P k ≠ 44 → wN P (k + 1) = wN P k + 1 := fun c => by rw [wN, if_neg c]
      cases b
      · rw [if_pos (by rfl), gdd_t mr.2.2.2.1, gdd_t ip, Bool.false_and]
        have i0 := ih (k + 1) false (by omega) (by omega)
        rw [Bool.false_and] at i0
        by_cases c : P k = 44
        · rw [if_pos (by rw [c]), ← w1 c]; exact i0
        · rw [if_neg (nI_ne (by omega) (by decide) c), ← w2 c]; exact i0
      · rw [if_neg (by decide), gdd_t mr.2.2.2.1, gdd_t ip, Bool.true_and]
        by_cases c : P k = 44
        · have i1 := ih (k + 1) true (by omega) (by omega)
          rw [Bool.true_and] at i1
          rw [if_pos (by rw [c]), if_pos (by rw [c]), ← w1 c, show prT P A (73 + 16 * e) k = true by unfold prT; rw [beq_iff_eq.mpr c]; rfl, Bool.true_and]
          exact i1
        · have g2 : (97 ≤ P k ∧ P k ≤ 102) ∧ wN P k < 12 := by
            rcases hgk with a | ⟨a, -⟩
            · exact a
            · exact absurd a c
          have hA : A (73 + 16 * e + 4 + wN P k) < 6 := by
            rcases Nat.lt_or_ge (wN P k) (A (73 + 16 * e)) with z | z
            · exact hK.2.2.2.1 _ z
            · rw [hK.2.2.2.2 _ z g2.2]; decide
          have hne := nI_ne (by omega) (show 44 < 2 ^ 31 by decide) c
          rw [if_neg hne, m_word hR (by omega) g2.2, obb_s, show (97 : Int32) = nI 97 from rfl, pk_sub g2.1.1]
          have i1 := ih (k + 1) true (by omega) (by omega)
          have i0 := ih (k + 1) false (by omega) (by omega)
          rw [Bool.true_and] at i1
          rw [Bool.false_and] at i0
          by_cases d : A (73 + 16 * e + 4 + wN P k) = P k - 97
          · rw [if_pos (by rw [d]), if_neg hne, ← w2 c, show prT P A (73 + 16 * e) k = true by unfold prT; rw [beq_iff_eq.mpr d, Bool.or_true], Bool.true_and]
            exact i1
          · rw [if_neg (nI_ne (by omega) (by omega) d), if_neg hne, ← w2 c, show prT P A (73 + 16 * e) k = false by unfold prT; rw [beq_eq_false_iff_ne.mpr d, beq_eq_false_iff_ne.mpr c]; rfl, Bool.false_and]
            exact i0
theorem m_prL (hR : RowR M 151 0 A) (hO : Ok A) (hP : MPad M l P) (hl : l ≤ 60) (hg : ∀ i, i < l → gdS P i) (h9 : gI M 150 9 = nI (wN P l)) (h10 : gI M 150 10 = nI (cN P l)) (hw : wN P l ≤ 12) (hcm : cN P l < 2 ^ 30) : ∀ (n j : Nat) (x : Bool), j ≤ A 3 → A 3 - j < n → f_X6_isPrinted_4 M n 150 (nI x.toNat) (nI j) = some (nI (x || anyF (lkE A (wN P l) (kK P l) (cN P l)) j (A 3 - j)).toNat) := by
  have hn3 := hO.n
  intro n
  induction n with
  | zero => intro _ _ _ h; omega
  | succ n ih =>
    intro j x hj hn
    rw [f_X6_isPrinted_4, gdd_t mk.1, mk.2.1, gdd_t mr.1, ml.1, gdd_t (by decide), show (3 : Int32).toNatClampNeg = 3 from rfl, hR.get (by decide)]
    by_cases h : j = A 3
    · rw [if_pos (nI_le' (by omega) (by omega) (by omega)), gdd_t (isb_nI (by cases x <;> decide)), h, Nat.sub_self]
      cases x <;> rfl
    · have hlt : j < A 3 := by omega
      have hK := hO.e j hlt
      have hcj := hK.c
      have h12 := hK.2.1
      rw [if_neg (nI_nle' (by omega) (by omega) hlt), show f_X6_of 150 (nI j) 0 M = some (nI (A (73 + 16 * j))) from m_of hR (by omega) (by decide), obb_s, show f_X6_of 150 (nI j) 1 M = some (nI (A (73 + 16 * j + 1))) from m_of hR (by omega) (by decide), obb_s, h9, h10, show A 3 - j = A 3 - (j + 1) + 1 by omega, anyF]
      have I := fun b => m_prI hR hO hP hl hg hlt x (f_X6_isPrinted_4 M n) FU 0 b (Nat.zero_le _) (by unfold FU; omega)
      have J := fun b => ih (j + 1) b (by omega) (by omega)
      rw [Nat.sub_zero, pr_all] at I
      unfold lkE eqW
      rw [show 74 + 16 * j = 73 + 16 * j + 1 by omega]
      by_cases c1 : A (73 + 16 * j) = wN P l
      · rw [if_pos (by rw [c1]), beq_iff_eq.mpr c1, Bool.true_and]
        by_cases c2 : A (73 + 16 * j + 1) = cN P l
        · rw [if_pos (by rw [c2]), beq_iff_eq.mpr c2, Bool.true_and]
          have i1 := I true
          rw [Bool.true_and] at i1
          exact i1.trans ((J _).trans (by rw [Bool.or_assoc]; rfl))
        · rw [if_neg (nI_ne (by omega) (by omega) c2), beq_eq_false_iff_ne.mpr c2, Bool.false_and, Bool.false_or]
          have i1 := I false
          rw [Bool.false_and, Bool.or_false] at i1
          exact i1.trans (J x)
      · rw [if_neg (nI_ne (by omega) (by omega) c1), beq_eq_false_iff_ne.mpr c1, Bool.false_and, Bool.and_false, Bool.false_or]
        have i1 := I false
        rw [Bool.false_and, Bool.or_false] at i1
        exact i1.trans (J x)
/-! laying the edition -/
def zrA (A : Nat → Nat) (e k : Nat) : Nat → Nat := fun i => if 73 + 16 * e ≤ i ∧ i < 73 + 16 * e + k then 0 else A i
def laA (P A : Nat → Nat) (e k : Nat) : Nat → Nat := fun i => if 77 + 16 * e ≤ i ∧ i < 89 + 16 * e then kK P k (i - (77 + 16 * e)) else if 73 + 16 * e ≤ i ∧ i < 77 + 16 * e then 0 else A i
theorem m_lay46 (hg : ∀ i, i < l → gdS P i) (hl : l ≤ 60) {e : Nat} (he : e < 4) : ∀ (n k : Nat) (M : Mem), k ≤ l → l - k < n → MPad M l P → gI M 150 9 = nI (wN P l) → gI M 150 10 = nI (cN P l) → RowR M 151 0 (laA P A e k) → ∃ M2, f_X6_laysEdition_46 n 150 (nI e) (nI (wN P k)) (nI k) M = some (nI e, M2) ∧ Sm (fun q => q = 151) M M2 ∧ RowR M2 151 0 (fun i => if 73 + 16 * e ≤ i ∧ i < 89 + 16 * e then txT P l (i - (73 + 16 * e)) else A i) := by
  intro n
  induction n with
  | zero => intro _ _ _ h; omega
  | succ n ih =>
    intro k M hk hn hP h9 h10 hR
    rw [f_X6_laysEdition_46, gdd_t mk.1, hP.1]
    by_cases h : k = l
    · subst h
      have R2 := (hR.put (73 + 16 * e + 0) (wN P k)).put (73 + 16 * e + 1) (cN P k)
      rw [if_pos (nI_le' (by omega) (by omega) (by omega)), h9, show (0 : Int32) = nI 0 from rfl, show (1 : Int32) = nI 1 from rfl, m_lays he (by decide), obb_s, gI_n (Or.inl (by decide)), h10, m_lays he (by decide), obb_s]
      refine ⟨_, rfl, Sm.rf.p1.p1, R2.cg (fun i hi => ?_)⟩
      show (if 73 + 16 * e ≤ i ∧ i < 89 + 16 * e then txT P k (i - (73 + 16 * e)) else A i) = _
      by_cases e1 : i = 73 + 16 * e + 1
      · rw [e1, updN_s, if_pos (by omega), show 73 + 16 * e + 1 - (73 + 16 * e) = 1 by omega]; rfl
      · rw [updN_n e1]
        by_cases e0 : i = 73 + 16 * e + 0
        · rw [e0, updN_s, if_pos (by omega), show 73 + 16 * e + 0 - (73 + 16 * e) = 0 by omega]; rfl
        · rw [updN_n e0]
          unfold laA txT
          by_cases z : 73 + 16 * e ≤ i ∧ i < 89 + 16 * e
          · rw [if_pos z, if_neg (by omega), if_neg (by omega)]
            by_cases z2 : 77 + 16 * e ≤ i
            · rw [if_neg (by omega), if_pos (by omega), show i - (73 + 16 * e) - 4 = i - (77 + 16 * e) by omega]
            · rw [if_pos (by omega), if_neg (by omega), if_pos (by omega)]
          · rw [if_neg z, if_neg (by omega), if_neg (by omega)]
    · have hlt : k < l := by omega
      have hgk := hg k hlt
      have hP126 : P k ≤ 126 := by rcases hgk with ⟨a, -⟩ | ⟨a, -⟩ <;> omega
      rw [if_neg (nI_nle' (by omega) (by omega) hlt), mk.2.2.2.2.1, gdd_t mr.2.2.2.1, ml.2.2.2.1, gdd_t (inb_nI (by omega) (by decide)), nI_clamp (by omega), hP.2 k hlt, show (44 : Int32) = nI 44 from rfl]
      by_cases c : P k = 44
      · have w1 : wN P (k + 1) = wN P k := by rw [wN, if_pos c]
        rw [if_pos (by rw [c]), bvv_e, nI_1, ← w1]
        exact ih (k + 1) M (by omega) (by omega) hP h9 h10 (hR.cg (fun i hi => by unfold laA; rw [kK, if_pos c]))
      · have g2 : (97 ≤ P k ∧ P k ≤ 102) ∧ wN P k < 12 := by
          rcases hgk with a | ⟨a, -⟩
          · exact a
          · exact absurd a c
        have w2 : wN P (k + 1) = wN P k + 1 := by rw [wN, if_neg c]
        have hS : Sm (fun q => q = 151) M (sI M 151 (73 + 16 * e + (4 + wN P k)) (nI (P k - 97))) := Sm.rf.p1
        rw [if_neg (nI_ne (by omega) (by decide) c), show (97 : Int32) = nI 97 from rfl, pk_sub g2.1.1, show (4 : Int32) = nI 4 from rfl, nI_add, m_lays he (by omega), obb_s, bvv_e, bvv_e, nI_1, nI_1, ← w2]
        obtain ⟨M2, r1, r2, r3⟩ := ih (k + 1) _ (by omega) (by omega) ⟨(hS.1 _ _ (by decide)).trans hP.1, fun i hi => (hS.1 _ _ (by decide)).trans (hP.2 i hi)⟩ ((hS.1 _ _ (by decide)).trans h9) ((hS.1 _ _ (by decide)).trans h10) ((hR.put (73 + 16 * e + (4 + wN P k)) (P k - 97)).cg (fun i hi => by
          unfold laA
          rw [kK, if_neg c]
          by_cases z : i = 73 + 16 * e + (4 + wN P k)
          · rw [z, updN_s, if_pos (by omega), show 73 + 16 * e + (4 + wN P k) - (77 + 16 * e) = wN P k by omega, updN_s]
          · rw [updN_n z]
            by_cases y : 77 + 16 * e ≤ i ∧ i < 89 + 16 * e
            · rw [if_pos y, if_pos y, updN_n (by omega)]
            · rw [if_neg y, if_neg y]))
        exact ⟨M2, r1, hS.tr r2, r3⟩
theorem m_lay20 (hg : ∀ i, i < l → gdS P i) (hl : l ≤ 60) {e : Nat} (he : e < 4) : ∀ (n k : Nat) (M : Mem), k ≤ 16 → 16 - k < n → MPad M l P → gI M 150 9 = nI (wN P l) → gI M 150 10 = nI (cN P l) → RowR M 151 0 (zrA A e k) → ∃ M2, f_X6_laysEdition_20 n 150 (nI e) (nI (73 + 16 * e)) (nI 0) (nI k) M = some (nI e, M2) ∧ Sm (fun q => q = 151) M M2 ∧ RowR M2 151 0 (fun i => if 73 + 16 * e ≤ i ∧ i < 89 + 16 * e then txT P l (i - (73 + 16 * e)) else A i) := by
  intro n
  induction n with
  | zero => intro _ _ _ h; omega
  | succ n ih =>
    intro k M hk hn hP h9 h10 hR
    rw [f_X6_laysEdition_20, show (16 : Int32) = nI 16 from rfl]
    by_cases h : k = 16
    · subst h
      rw [if_pos (nI_le' (by omega) (by omega) (by omega))]
      refine m_lay46 hg hl he FU 0 M (Nat.zero_le _) (by unfold FU; omega) hP h9 h10 (hR.cg (fun i hi => ?_))
      unfold laA zrA
      by_cases z : 77 + 16 * e ≤ i ∧ i < 89 + 16 * e
      · rw [if_pos z, if_pos (by omega)]; rfl
      · rw [if_neg z]
        by_cases z2 : 73 + 16 * e ≤ i ∧ i < 77 + 16 * e
        · rw [if_pos z2, if_pos (by omega)]
        · rw [if_neg z2, if_neg (by omega)]
    · have hS : Sm (fun q => q = 151) M (sI M 151 (73 + 16 * e + k) (nI 0)) := Sm.rf.p1
      rw [if_neg (nI_nle' (by omega) (by omega) (by omega)), gdd_t mk.1, mk.2.1, gdd_t mr.1, nI_add, ml.1, gdd_t (inb_nI (by omega) (by decide)), nI_clamp (by omega), bvv_e, bvv_e, nI_1]
      obtain ⟨M2, r1, r2, r3⟩ := ih (k + 1) _ (by omega) (by omega) ⟨(hS.1 _ _ (by decide)).trans hP.1, fun i hi => (hS.1 _ _ (by decide)).trans (hP.2 i hi)⟩ ((hS.1 _ _ (by decide)).trans h9) ((hS.1 _ _ (by decide)).trans h10) ((hR.put (73 + 16 * e + k) 0).cg (fun i hi => by
        unfold zrA
        by_cases z : i = 73 + 16 * e + k
        · rw [z, updN_s, if_pos (by omega)]
        · rw [updN_n z]
          by_cases y : 73 + 16 * e ≤ i ∧ i < 73 + 16 * e + k
          · rw [if_pos y, if_pos (by omega)]
          · rw [if_neg y, if_neg (by omega)]))
      exact ⟨M2, r1, hS.tr r2, r3⟩
end MPR
theorem isLk_eq (w : Wd) : isLk w = anyF (lkE w.A (wN w.P w.l) (kK w.P w.l) (cN w.P w.l)) 0 (w.A 3) := by
  unfold isLk wdT
  have e : (fun j => txT w.P w.l (0 + 4 + j)) = kK w.P w.l := funext (fun j => by
    unfold txT
    rw [if_neg (by omega), if_neg (by omega), if_neg (by omega), show 0 + 4 + j - 4 = j by omega])
  rw [e]; rfl
theorem m_print {M : Mem} {w : Wd} (hO : OkW w) (hM : MI M w) : MRes (f_X6_print 150 M) M (opPrint w).1 (opPrint w).2 := by
  have hl := hO.2.2.2.2.2.1
  have hn3 := hO.1.n
  have hw := m_isW hO hM
  unfold f_X6_print opPrint
  rw [gdd_t mk.1]
  cases he : edQ w with
  | some t =>
    rw [he] at hw
    obtain ⟨M2, r1, r2, r3⟩ := hw
    rw [r1, opp_s, if_pos rfl]
    exact ⟨M2, rfl, hM.sc r2, r2.ge⟩
  | none =>
    rw [he] at hw
    obtain ⟨M1, r1, r2, r3, r4⟩ := hw
    obtain ⟨g1, g2, g3, g4⟩ := edF_ok w.l 0 1 0 he rfl (by decide) (fun h => by omega) (by show 0 < 1; decide)
    rw [Nat.zero_add] at g1 g2 g3 g4
    have g1' : ∀ i, i < w.l → gdS w.P i := fun i hi => g1 i (Nat.zero_le _) hi
    have hc : cN w.P w.l < 2 ^ 11 := Nat.lt_of_lt_of_le g4 (Nat.pow_le_pow_right (by decide) (by omega))
    have hM1 := hM.sc r2
    have hlk := m_prL hM1.1 hO.1 hM1.2.2.2.1 hl g1' r3 r4 g3 (by omega) FU 0 false (Nat.zero_le _) (by unfold FU; omega)
    rw [Bool.false_or, Nat.sub_zero, ← isLk_eq] at hlk
    rw [r1, opp_s, if_neg (by decide), show f_X6_isPrinted 150 M1 = _ from hlk, obb_s]
    cases hk : isLk w
    · simp only [if_neg (show ¬ false = true by decide)]
      rw [if_pos (by rfl), mk.2.1, gdd_t mr.1, ml.1, gdd_t (by decide), show (3 : Int32).toNatClampNeg = 3 from rfl, hM1.1.get (by decide), show (4 : Int32) = nI 4 from rfl]
      by_cases h4 : w.A 3 < 4
      · obtain ⟨M2, s1, s2, s3, s4⟩ := m_records hO hM1
        have hR := s2.kA
        obtain ⟨kl, kP⟩ := keepW_l w
        have hP2 : MPad M2 w.l w.P := by
          have := s2.2.2.2.1
          rwa [kl, kP] at this
        obtain ⟨M3, t1, t2, t3⟩ := m_lay20 (A := w.A) g1' hl h4 FU 0 M2 (by decide) (by unfold FU; omega) hP2 ((s4 9 (by decide)).trans r3) ((s4 10 (by decide)).trans r4) (hR.cg (fun i hi => by unfold zrA; rw [if_neg (by omega)]))
        have hlay : f_X6_laysEdition 150 M2 = some (nI (w.A 3), M3) := by
          unfold f_X6_laysEdition
          rw [gdd_t mk.1, mk.2.1, gdd_t mr.1, ml.1, gdd_t (by decide), show (3 : Int32).toNatClampNeg = 3 from rfl, hR.get (by decide), bvv_e, show (73 : Int32) = nI 73 from rfl, show (16 : Int32) = nI 16 from rfl, pk_mul, nI_add, bvv_e]
          exact t1
        have e3 : gI M3 151 3 = nI (w.A 3) := by
          have := t3.get (show 3 < 137 by decide)
          simp only [if_neg (show ¬ (73 + 16 * w.A 3 ≤ 3 ∧ 3 < 89 + 16 * w.A 3) by omega)] at this
          exact this
        have R4 : RowR (sI M3 151 3 (nI (w.A 3 + 1))) 151 0 (prA w.A (wdT w)) := (t3.put 3 (w.A 3 + 1)).cg (fun i hi => by
          unfold prA wdT
          by_cases z : i = 3
          · rw [z, updN_s, if_pos rfl]
          · rw [updN_n z, if_neg z])
        have hM4 : MI (sI M3 151 3 (nI (w.A 3 + 1))) ((keepW w).toA (prA w.A (wdT w))) := MI.sa s2 t2.p1 R4
        have hS5 : Sm (fun r => r = 150 ∨ r = 154) (sI M3 151 3 (nI (w.A 3 + 1))) (sI (sI M3 151 3 (nI (w.A 3 + 1))) 150 6 0) := Sm.put Sm.rf (Or.inl rfl)
        have hM5 := MI.pad (l := 0) (P := w.P) hM4 hS5 (fun k hk => gI_n (Or.inr hk)) gI_s (fun i hi => by omega)
        rw [if_neg (nI_ne (by omega) (by decide) (by omega))]
        simp only [if_pos h4]
        rw [s1, obb_s, hlay, opp_s, e3, nI_1, bvv_e, bvv_e]
        exact ⟨_, rfl, hM5, ((r2.ge.tr (s3.mono (fun r h => h.ge))).tr (t2.p1.mono (fun r h => S151.ge h))).tr (hS5.mono (fun r h => by unfold MX; omega))⟩
      · rw [if_pos (by rw [show w.A 3 = 4 by omega])]
        simp only [if_neg h4]
        exact ⟨M1, rfl, hM1, r2.ge⟩
    · simp only [if_pos]
      rw [if_neg (by decide)]
      exact ⟨M1, rfl, hM1, r2.ge⟩
