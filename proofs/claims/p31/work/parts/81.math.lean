/-! PURE: facts of a state's numbers that the law asks for -/
theorem sumN_mono {f g : Nat → Nat} : ∀ k, (∀ j, j < k → f j ≤ g j) → sumN f k ≤ sumN g k
  | 0, _ => Nat.le_refl _
  | k + 1, h => by
    have h1 := sumN_mono k (fun j hj => h j (by omega))
    have h2 := h k (by omega)
    show sumN f k + f k ≤ sumN g k + g k
    omega
theorem sumN_at {f g : Nat → Nat} {r : Nat} : ∀ k, (∀ j, j < k → f j ≤ g j) → r < k → sumN f k + g r ≤ sumN g k + f r
  | 0, _, h => by omega
  | k + 1, h, hr => by
    have h2 := h k (by omega)
    show sumN f k + f k + g r ≤ sumN g k + g k + f r
    by_cases e : r = k
    · subst e
      have h1 := sumN_mono r (fun j hj => h j (by omega))
      omega
    · have h1 := sumN_at k (fun j hj => h j (by omega)) (by omega : r < k)
      omega
theorem sumN_up {f g : Nat → Nat} {r : Nat} : ∀ k, (∀ j, j < k → j ≠ r → g j = f j) → r < k → sumN g k + f r = sumN f k + g r
  | 0, _, h => by omega
  | k + 1, h, hr => by
    show sumN g k + g k + f r = sumN f k + f k + g r
    by_cases e : r = k
    · subst e
      have h1 := sumN_congr (f := g) (g := f) (k := r) (fun j hj => h j (by omega) (by omega))
      omega
    · have h1 := sumN_up k (fun j hj => h j (by omega)) (by omega : r < k)
      have h2 := h k (by omega) (fun z => e z.symm)
      omega
theorem allF_iff {P : Nat → Bool} : ∀ n j, allF P j n = true ↔ ∀ i, j ≤ i → i < j + n → P i = true
  | 0, j => ⟨fun _ i h1 h2 => by omega, fun _ => rfl⟩
  | n + 1, j => by
    rw [allF, Bool.and_eq_true, allF_iff n (j + 1)]
    constructor
    · rintro ⟨h1, h2⟩ i h3 h4
      by_cases e : i = j
      · rw [e]; exact h1
      · exact h2 i (by omega) (by omega)
    · intro h
      exact ⟨h j (by omega) (by omega), fun i h1 h2 => h i (by omega) (by omega)⟩
theorem anyF_iff {P : Nat → Bool} : ∀ n j, anyF P j n = true ↔ ∃ i, j ≤ i ∧ i < j + n ∧ P i = true
  | 0, j => ⟨fun h => (by cases h), fun ⟨i, h1, h2, _⟩ => by omega⟩
  | n + 1, j => by
    rw [anyF, Bool.or_eq_true, anyF_iff n (j + 1)]
    constructor
    · rintro (h | ⟨i, h1, h2, h3⟩)
      · exact ⟨j, by omega, by omega, h⟩
      · exact ⟨i, by omega, by omega, h3⟩
    · rintro ⟨i, h1, h2, h3⟩
      by_cases e : i = j
      · rw [e] at h3; exact Or.inl h3
      · exact Or.inr ⟨i, by omega, by omega, h3⟩
theorem lkE_iff {A : Nat → Nat} {w : Nat} {K : Nat → Nat} {c k : Nat} : lkE A w K c k = true ↔ A (74 + 16 * k) = c ∧ A (73 + 16 * k) = w ∧ ∀ j, j < w → A (73 + 16 * k + 4 + j) = K j := by
  unfold lkE eqW
  rw [Bool.and_eq_true, Bool.and_eq_true, allF_iff, beq_iff_eq, beq_iff_eq]
  constructor
  · rintro ⟨h1, h2, h3⟩
    exact ⟨h1, h2, fun j hj => by have := h3 j (by omega) (by omega); rwa [beq_iff_eq] at this⟩
  · rintro ⟨h1, h2, h3⟩
    exact ⟨h1, h2, fun j _ hj => by rw [beq_iff_eq]; exact h3 j (by omega)⟩
/-- two editions that are alike -/
def Alike (A : Nat → Nat) (i j : Nat) : Prop := A (73 + 16 * i) = A (73 + 16 * j) ∧ A (74 + 16 * i) = A (74 + 16 * j) ∧ ∀ t, t < A (73 + 16 * i) → A (77 + 16 * i + t) = A (77 + 16 * j + t)
def Uq (A : Nat → Nat) : Prop := ∀ i j, i < j → j < A 3 → ¬ Alike A i j
/-! the text -/
theorem txA_s {A : Nat → Nat} {o j : Nat} : txA A o (j + 1) = txA A o j + 1 + bitN (A (o + 1)) j := by
  unfold txA
  rw [sumN]
  omega
theorem txA_d {A : Nat → Nat} {o : Nat} : ∀ d j, txA A o j + d ≤ txA A o (j + d)
  | 0, j => Nat.le_refl _
  | d + 1, j => by
    have h1 := txA_d d j (A := A) (o := o)
    have h2 := txA_s (A := A) (o := o) (j := j + d)
    rw [show j + (d + 1) = j + d + 1 by omega]
    omega
theorem txA_u {A : Nat → Nat} {o : Nat} (j : Nat) : txA A o j ≤ 2 * j := by
  have h := sumN_le (f := bitN (A (o + 1))) (b := 1) (fun i => by have := bitN_lt (A (o + 1)) i; omega) j
  unfold txA
  omega
theorem txF_at {A : Nat → Nat} {o w j : Nat} (hj : j < w) (hw : w ≤ 1000) : ∀ d i, i + d = j → txF A o (nI (txA A o j)) i (w - i) = 97 + nI (A (o + 4 + j))
  | 0, i, h => by
    obtain ⟨r, hr⟩ : ∃ r, w - i = r + 1 := ⟨w - i - 1, by omega⟩
    rw [hr, txF, show j = i by omega, if_pos rfl]
  | d + 1, i, h => by
    obtain ⟨r, hr⟩ : ∃ r, w - i = r + 1 := ⟨w - i - 1, by omega⟩
    have h1 := txA_u (A := A) (o := o) j
    have h2 := txA_s (A := A) (o := o) (j := i)
    have h3 := txA_d (A := A) (o := o) d (i + 1)
    rw [show i + 1 + d = j by omega] at h3
    rw [hr, txF, if_neg (nI_ne (by omega) (by omega) (by omega)), if_neg (fun z => nI_ne (by omega) (by omega) (by omega) z.2)]
    have := txF_at (A := A) (o := o) hj hw d (i + 1) (by omega)
    rw [show w - (i + 1) = r by omega] at this
    exact this
theorem txF_end {A : Nat → Nat} {o w : Nat} (hw : w ≤ 1000) : ∀ d i, i + d = w → txF A o (nI (txA A o w)) i (w - i) = -4
  | 0, i, h => by rw [show w - i = 0 by omega]; rfl
  | d + 1, i, h => by
    obtain ⟨r, hr⟩ : ∃ r, w - i = r + 1 := ⟨w - i - 1, by omega⟩
    have h1 := txA_u (A := A) (o := o) w
    have h2 := txA_s (A := A) (o := o) (j := i)
    have h3 := txA_d (A := A) (o := o) d (i + 1)
    rw [show i + 1 + d = w by omega] at h3
    rw [hr, txF, if_neg (nI_ne (by omega) (by omega) (by omega)), if_neg (fun z => nI_ne (by omega) (by omega) (by omega) z.2)]
    have := txF_end (A := A) (o := o) hw d (i + 1) (by omega)
    rw [show w - (i + 1) = r by omega] at this
    exact this
theorem segN_0 {f : Nat → Nat} {s : Nat} : ∀ k, (∀ j, j < k → f (s + j) = 0) → segN f s k = 0
  | 0, _ => rfl
  | k + 1, h => by
    show segN f s k + f (s + k) = 0
    rw [segN_0 k (fun j hj => h j (by omega)), h k (by omega)]
theorem pcN_w {c w : Nat} (h : c < 2 ^ w) (hw : w ≤ 12) : pcN c = sumN (bitN c) w := by
  have h1 := sumN_seg (f := bitN c) w (12 - w)
  rw [show w + (12 - w) = 12 by omega, segN_0 _ (fun j _ => bitN_small h (by omega))] at h1
  exact h1
theorem bitN_tb (c k : Nat) : bitN c k = (Nat.testBit c k).toNat := by
  rw [Nat.testBit_eq_decide_div_mod_eq]
  have := bitN_lt c k
  unfold bitN at this ⊢
  by_cases h : c / 2 ^ k % 2 = 1
  · rw [decide_eq_true h, h]; rfl
  · rw [decide_eq_false h, show c / 2 ^ k % 2 = 0 by omega]; rfl
theorem bitN_mod {c j k : Nat} : bitN (c % 2 ^ j) k = if k < j then bitN c k else 0 := by
  rw [bitN_tb, bitN_tb, Nat.testBit_mod_two_pow]
  by_cases h : k < j
  · rw [if_pos h, decide_eq_true h, Bool.true_and]
  · rw [if_neg h, decide_eq_false h, Bool.false_and]; rfl
theorem pcN_mod {c j : Nat} (hj : j ≤ 12) : pcN (c % 2 ^ j) = sumN (bitN c) j := by
  rw [pcN_w (Nat.mod_lt _ (Nat.two_pow_pos j)) hj]
  exact sumN_congr (fun k hk => by rw [bitN_mod, if_pos hk])
theorem low_and {c j : Nat} (hc : c < 2 ^ 31) (hj : j < 31) : nI c &&& (((1 : Int32) <<< (nI j &&& 31)) - (1 : Int32)) = nI (c % 2 ^ j) := by
  have h1 : 2 ^ j < 2 ^ 31 := Nat.pow_lt_pow_right (by decide) hj
  have h0 := Nat.two_pow_pos j
  rw [p_shl1 hj, nI_sub1 h0]
  exact pk_andN (by omega) j (pk_tn (by omega))
theorem wd_end {A : Nat → Nat} {o : Nat} (hK : OkE A o) : txA A o (A o) = A o + pcN (A (o + 1)) := by
  have h1 := hK.2.2.1
  have h2 : 2 ^ (A o - 1) ≤ 2 ^ A o := Nat.pow_le_pow_right (by decide) (by omega)
  unfold txA
  rw [pcN_w (w := A o) (by omega) hK.2.1]
theorem lkSign_at {A : Nat → Nat} (hO : Ok A) {e j : Nat} (he : e < A 3) (hj : j < A (73 + 16 * e)) : lkSign (nI e) (nI (txA A (73 + 16 * e) j)) A = 97 + nI (A (77 + 16 * e + j)) := by
  have h1 := txA_u (A := A) (o := 73 + 16 * e) j
  have h2 := (hO.e e he).2.1
  have h3 := hO.n
  unfold lkSign
  rw [ixO_s (by omega) he]
  simp only
  rw [if_pos (nI_pos' (by omega))]
  have := txF_at (A := A) (o := 73 + 16 * e) hj (by omega) j 0 (by omega)
  rw [Nat.sub_zero] at this
  rw [this, show 73 + 16 * e + 4 + j = 77 + 16 * e + j by omega]
theorem lkSign_end {A : Nat → Nat} (hO : Ok A) {e : Nat} (he : e < A 3) : lkSign (nI e) (nI (A (73 + 16 * e) + pcN (A (74 + 16 * e)))) A = -4 := by
  have h0 := wd_end (hO.e e he)
  have h1 := txA_u (A := A) (o := 73 + 16 * e) (A (73 + 16 * e))
  have h2 := (hO.e e he).2.1
  have h3 := hO.n
  rw [show 73 + 16 * e + 1 = 74 + 16 * e by omega] at h0
  rw [← h0]
  unfold lkSign
  rw [ixO_s (by omega) he]
  simp only
  rw [if_pos (nI_pos' (by omega))]
  have := txF_end (A := A) (o := 73 + 16 * e) (w := A (73 + 16 * e)) (by omega) (A (73 + 16 * e)) 0 (by omega)
  rw [Nat.sub_zero] at this
  exact this
/-! costs are small -/
theorem ccS_b {wt : Nat → Nat} {bal w c : Nat} : ∀ k, (∀ j, j < k → wt j ≤ 9) → (ccS wt bal w c k).1 + (ccS wt bal w c k).2 ≤ 9 * k + k * bal
  | 0, _ => by show 0 + 0 ≤ _; omega
  | k + 1, h => by
    have h1 := ccS_b (bal := bal) (w := w) (c := c) k (fun j hj => h j (by omega))
    have h2 := h k (by omega)
    have h3 : (k + 1) * bal = k * bal + bal := Nat.succ_mul k bal
    unfold ccS dst
    split
    · simp only
      omega
    · simp only
      omega
theorem costN_1k {A : Nat → Nat} (hO : Ok A) {o : Nat} (hK : OkE A o) (c : Nat) : costN A o c ≤ 688 := by
  have hw := hK.2.1
  have hb := hO.b
  have h1 := ccS_b (wt := wtN A o) (bal := A 1) (w := A o) (c := c) (A o) (fun j hj => (hO.w _ (hK.2.2.2.1 j hj)).2)
  have h2 := sumN_le (f := fun g => fineN A o g (bitN c g)) (b := 20) (fun g => fineN_le hO o g _) (A o - 1)
  have h3 : A o * A 1 ≤ 12 * 30 := Nat.mul_le_mul hw hb.2
  unfold costN clN fnN
  omega
/-! which ruling counts -/
theorem cntF_iff {A : Nat → Nat} {x y r : Nat} : ∀ m, cntF A x y m = some r ↔ r < m ∧ (inF A r = true ∧ A (13 + 6 * r) = x ∧ A (14 + 6 * r) = y) ∧ ∀ j, r < j → j < m → ¬ (inF A j = true ∧ A (13 + 6 * j) = x ∧ A (14 + 6 * j) = y)
  | 0 => ⟨fun h => (by cases h), fun h => absurd h.1 (by omega)⟩
  | m + 1 => by
    rw [cntF]
    by_cases h : inF A m = true ∧ A (13 + 6 * m) = x ∧ A (14 + 6 * m) = y
    · rw [if_pos h]
      constructor
      · intro e
        cases e
        exact ⟨by omega, h, fun j h1 h2 => by omega⟩
      · rintro ⟨h1, h2, h3⟩
        by_cases e : r = m
        · rw [e]
        · exact absurd h (h3 m (by omega) (by omega))
    · rw [if_neg h, cntF_iff m]
      constructor
      · rintro ⟨h1, h2, h3⟩
        refine ⟨by omega, h2, fun j h4 h5 => ?_⟩
        by_cases e : j = m
        · rw [e]; exact h
        · exact h3 j h4 (by omega)
      · rintro ⟨h1, h2, h3⟩
        refine ⟨?_, h2, fun j h4 h5 => h3 j h4 (by omega)⟩
        by_cases e : r = m
        · rw [e] at h2; exact absurd h2 h
        · omega
/-- is there a later one in force about the same kinds, before k -/
def ltB (A : Nat → Nat) (r : Nat) : Nat → Bool
  | 0 => false
  | k + 1 => ltB A r k || (decide (r < k) && (decide (A (13 + 6 * k) = A (13 + 6 * r)) && (decide (A (14 + 6 * k) = A (14 + 6 * r)) && inF A k)))
theorem ltB_iff {A : Nat → Nat} {r : Nat} : ∀ k, ltB A r k = true ↔ ∃ j, r < j ∧ j < k ∧ (inF A j = true ∧ A (13 + 6 * j) = A (13 + 6 * r) ∧ A (14 + 6 * j) = A (14 + 6 * r))
  | 0 => ⟨fun h => (by cases h), fun ⟨j, h1, h2, _⟩ => by omega⟩
  | k + 1 => by
    rw [ltB, Bool.or_eq_true, ltB_iff k, Bool.and_eq_true, Bool.and_eq_true, Bool.and_eq_true, decide_eq_true_eq, decide_eq_true_eq, decide_eq_true_eq]
    constructor
    · rintro (⟨j, h1, h2, h3⟩ | ⟨h1, h2, h3, h4⟩)
      · exact ⟨j, h1, by omega, h3⟩
      · exact ⟨k, h1, by omega, h4, h2, h3⟩
    · rintro ⟨j, h1, h2, h3⟩
      by_cases e : j = k
      · subst e
        exact Or.inr ⟨h1, h3.2.1, h3.2.2, h3.1⟩
      · exact Or.inl ⟨j, h1, by omega, h3⟩
theorem ctsN_b {A : Nat → Nat} {r : Nat} (hr : r < A 4) : ctsN A r = (inF A r && !ltB A r (A 4)).toNat := by
  unfold ctsN cnt
  by_cases h : cntF A (A (13 + 6 * r)) (A (14 + 6 * r)) (A 4) = some r
  · rw [if_pos h]
    obtain ⟨h1, h2, h3⟩ := (cntF_iff _).mp h
    have h4 : ltB A r (A 4) = false := by
      cases e : ltB A r (A 4)
      · rfl
      · obtain ⟨j, j1, j2, j3⟩ := (ltB_iff _).mp e
        exact absurd j3 (h3 j j1 j2)
    rw [h2.1, h4]
    rfl
  · rw [if_neg h]
    cases e1 : inF A r
    · rfl
    · cases e2 : ltB A r (A 4)
      · refine absurd ((cntF_iff _).mpr ⟨hr, ⟨e1, rfl, rfl⟩, fun j h1 h2 h3 => ?_⟩) h
        have := (ltB_iff (A := A) (r := r) (A 4)).mpr ⟨j, h1, h2, h3⟩
        rw [e2] at this
        cases this
      · rfl
theorem brg_0 {A : Nat → Nat} {r : Nat} (h : ctsN A r = 0) : ∀ e, brgN A r e = 0 := by
  intro e
  unfold brgN
  rw [sumN_congr (g := fun _ => 0) (fun g _ => ?_), sumN_zero]
  unfold brgG
  rw [if_neg]
  intro hc
  obtain ⟨h1, h2, h3⟩ := (cntF_iff _).mp hc
  unfold ctsN cnt at h
  rw [if_pos ((cntF_iff _).mpr ⟨h1, ⟨h2.1, rfl, rfl⟩, fun j j1 j2 j3 => h3 j j1 j2 ⟨j3.1, by rw [j3.2.1]; exact h2.2.1, by rw [j3.2.2]; exact h2.2.2⟩⟩)] at h
  cases h
theorem brg_le {A : Nat → Nat} (hO : Ok A) (r : Nat) : sumN (brgN A r) (A 3) ≤ 880 := by
  have h3 := hO.n
  have h1 := sumN_leb (f := brgN A r) (b := 220) (A 3) (fun e he => by
    have hw := (hO.e e he).2.1
    have h2 := sumN_le (f := brgG A r (73 + 16 * e)) (b := 20) (fun g => by
      unfold brgG
      split
      · exact fineN_le hO _ _ _
      · omega) (A (73 + 16 * e) - 1)
    unfold brgN
    omega)
  omega
theorem inF_by {A : Nat → Nat} (hO : Ok A) {r : Nat} (hr : r < A 4) (h : A (17 + 6 * r) ≠ 0) : (inF A r).toNat ≤ (inF A (A (17 + 6 * r) - 1)).toNat := by
  rw [inF_eq (fun r hr => hO.q r hr) hr, show (A (17 + 6 * r) == 0) = false from beq_eq_false_iff_ne.mpr h, Bool.false_or]
  cases inF A (A (17 + 6 * r) - 1)
  · rw [Bool.and_false]; decide
  · exact Bool.toNat_le _
/-! overruling takes force away -/
theorem frc_over {A : Nat → Nat} {r : Nat} : ∀ f k, frc (overA A r) f k = true → frc A f k = true
  | 0, k, _ => rfl
  | f + 1, k, h => by
    rw [frc, Bool.and_eq_true, Bool.or_eq_true, beq_iff_eq, beq_iff_eq] at h ⊢
    have e17 : overA A r (17 + 6 * k) = A (17 + 6 * k) := updN_n (by omega)
    rw [e17] at h
    refine ⟨?_, h.2.elim Or.inl (fun z => Or.inr (frc_over f _ z))⟩
    have h1 := h.1
    unfold overA at h1
    by_cases e : 18 + 6 * k = 18 + 6 * r
    · rw [e, updN_s] at h1; cases h1
    · rwa [updN_n e] at h1
theorem inF_over {A : Nat → Nat} {r : Nat} : inF (overA A r) r = false := by
  unfold inF
  rw [frc, show overA A r (18 + 6 * r) = 1 from updN_s]
  rfl
theorem frcC_over {A : Nat → Nat} {r : Nat} (hr : r < A 4) : frcC (overA A r) + (inF A r).toNat ≤ frcC A := by
  unfold frcC
  have e4 : overA A r 4 = A 4 := updN_n (by omega)
  rw [e4]
  have h := sumN_at (f := fun k => (inF (overA A r) k).toNat) (g := fun k => (inF A k).toNat) (r := r) (A 4) (fun j _ => by
    cases e : inF (overA A r) j
    · exact Nat.zero_le _
    · have : inF A j = true := frc_over _ _ e
      rw [this]; exact Nat.le_refl _) hr
  simp only [inF_over] at h
  exact h
/-! best commas and splittings -/
theorem rk_parts {a b c : Nat} (hb : b < 16) (hc : c < 2048) : (a * 32768 + b * 2048 + c) % 2048 = c ∧ (a * 32768 + b * 2048 + c) / 32768 = a ∧ (a * 32768 + b * 2048 + c) % 32768 / 2048 = b := by omega
theorem rkM_ex {A : Nat → Nat} {o : Nat} (hK : OkE A o) : ∃ c, c < 2 ^ (A o - 1) ∧ rkM A o % 2048 = c ∧ rkM A o / 32768 = costN A o c ∧ rkM A o % 32768 / 2048 = pcN c ∧ costN A o c ≤ costN A o (A (o + 1)) := by
  have hw := hK.2.1
  have hc := hK.2.2.1
  have h2 : 2 ^ (A o - 1) ≤ 2 ^ 11 := Nat.pow_le_pow_right (by decide) (by omega)
  have h0 := Nat.two_pow_pos (A o - 1)
  obtain ⟨c, c1, c2⟩ := mnS_ex (f := rkN A o) (2 ^ (A o - 1) - 1)
  have p1 := pcN_le c
  have p2 := pcN_le (A (o + 1))
  obtain ⟨q1, q2, q3⟩ := rk_parts (a := costN A o c) (b := pcN c) (c := c) (by omega) (by omega)
  refine ⟨c, by omega, ?_, ?_, ?_, ?_⟩
  · unfold rkM; rw [c2]; exact q1
  · unfold rkM; rw [c2]; exact q2
  · unfold rkM; rw [c2]; exact q3
  · have h := mnS_le (f := rkN A o) (k := 2 ^ (A o - 1) - 1) (j := A (o + 1)) (by omega)
    rw [c2] at h
    unfold rkN at h
    omega
theorem wyP_pos {W : Nat → Nat} {h : Nat} : ∀ m, (∀ j, j < m → W j ≤ h) → 1 ≤ wyP W h m
  | 0, _ => Nat.le_refl _
  | m + 1, hh => by
    have h1 := wyP_pos m (fun j hj => hh j (by omega))
    have h2 := hh m (by omega)
    rw [wyP_s, sumN_front]
    rw [if_pos (show segN W (m - 0) (0 + 1) ≤ h by show 0 + W (m - 0 + 0) ≤ h; rw [show m - 0 + 0 = m by omega]; omega), show m - 0 = m by omega]
    omega
theorem bsS_0 {A : Nat → Nat} {o : Nat} : ∀ {k g l : Nat}, bsS A o k = some (g, l) → rsnN A o g = 0
  | 0, g, l, h => by cases h
  | k + 1, g, l, h => by
    rw [bsS] at h
    cases hb : bsS A o k with
    | none =>
      rw [hb] at h
      simp only at h
      split at h
      · rename_i h0; cases h; exact h0
      · cases h
    | some p =>
      obtain ⟨b, l2⟩ := p
      rw [hb] at h
      simp only at h
      split at h
      · rename_i h0; cases h; exact h0.2
      · cases h; exact bsS_0 hb
theorem chS_some {A : Nat → Nat} : ∀ k, ∃ p, chS A (k + 1) = some p := by
  intro k
  rw [chS]
  cases chS A k with
  | none => exact ⟨_, rfl⟩
  | some p =>
    obtain ⟨b, l⟩ := p
    simp only
    split
    · exact ⟨_, rfl⟩
    · exact ⟨_, rfl⟩
/-! what a cost rests on -/
def SmC (A A2 : Nat → Nat) (o : Nat) : Prop := A2 1 = A 1 ∧ (∀ k, k < 6 → A2 (7 + k) = A (7 + k)) ∧ A2 4 = A 4 ∧ (∀ i, 13 ≤ i → i < 73 → A2 i = A i) ∧ A2 o = A o ∧ ∀ j, j < 12 → A2 (o + 4 + j) = A (o + 4 + j)
theorem ccS_cg {wt wt2 : Nat → Nat} {bal w c : Nat} : ∀ k, (∀ j, j < k → wt2 j = wt j) → ccS wt2 bal w c k = ccS wt bal w c k
  | 0, _ => rfl
  | k + 1, h => by
    unfold ccS
    rw [ccS_cg k (fun j hj => h j (by omega)), h k (by omega)]
theorem cntF_cg {A A2 : Nat → Nat} {x y : Nat} (hO : Ok A) (h : ∀ i, 13 ≤ i → i < 73 → A2 i = A i) : ∀ m, m ≤ A 4 → cntF A2 x y m = cntF A x y m
  | 0, _ => rfl
  | m + 1, hm => by
    have h10 := hO.m
    rw [cntF, cntF, cntF_cg hO h m (by omega), h (13 + 6 * m) (by omega) (by omega), h (14 + 6 * m) (by omega) (by omega), inF_cm (m := A 4) h10 (fun i h1 h2 => h i h1 (by omega)) (fun r hr => hO.q r hr) (by omega)]
theorem costN_cg {A A2 : Nat → Nat} {o : Nat} (hO : Ok A) (hK : OkE A o) (h : SmC A A2 o) (c : Nat) : costN A2 o c = costN A o c := by
  obtain ⟨h1, h7, h4, hr, ho, hk⟩ := h
  have hw := hK.2.1
  have e1 : clN A2 o c = clN A o c := by
    unfold clN
    rw [ho, h1, ccS_cg]
    intro j hj
    unfold wtN
    rw [hk j (by omega), h7 _ (hK.2.2.2.1 j hj)]
  have e2 : fnN A2 o c = fnN A o c := by
    unfold fnN
    rw [ho]
    refine sumN_congr (fun g hg => ?_)
    unfold fineN cnt
    rw [h4, hk g (by omega), show o + 5 + g = o + 4 + (g + 1) by omega, hk (g + 1) (by omega), cntF_cg hO hr (A 4) (Nat.le_refl _)]
    cases hc : cntF A (A (o + 4 + g)) (A (o + 4 + (g + 1))) (A 4) with
    | none => rfl
    | some r =>
      have h10 := hO.m
      have hlt := cntF_lt hc
      simp only
      rw [hr (15 + 6 * r) (by omega) (by omega), hr (16 + 6 * r) (by omega) (by omega)]
  unfold costN
  rw [e1, e2]
