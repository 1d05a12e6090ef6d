/-! PURE: ranks -/
def pcN (c : Nat) : Nat := sumN (bitN c) 12
theorem p_bitCount_all : ∀ c, c < 2048 → f_J6_bitCount_0f7a4 (nI c) = nI (pcN c) := by decide +kernel
theorem p_bitCount {c : Nat} (h : c < 2048) : f_J6_bitCount_0f7a4 (nI c) = nI (pcN c) := p_bitCount_all c h
theorem p_shl1 {k : Nat} (h : k < 31) : (1 : Int32) <<< (nI k &&& 31) = nI (2 ^ k) := by
  have h1 : 2 ^ k < 2 ^ 31 := Nat.pow_lt_pow_right (by decide) h
  have := pk_shlN (n := 1) (nI k &&& 31) k (sh31 k (by omega)) (by omega)
  rw [Nat.one_mul] at this
  exact this
theorem pcN_le (c : Nat) : pcN c ≤ 12 := by
  have := sumN_le (f := bitN c) (b := 1) (fun j => by have := bitN_lt c j; omega) 12
  unfold pcN
  omega
def rkN (A : Nat → Nat) (o c : Nat) : Nat := costN A o c * 32768 + pcN c * 2048 + c
/-- the least of f 0 .. f k -/
def mnS (f : Nat → Nat) : Nat → Nat
  | 0 => f 0
  | k + 1 => if f (k + 1) < mnS f k then f (k + 1) else mnS f k
theorem mnS_le {f : Nat → Nat} : ∀ {k j : Nat}, j ≤ k → mnS f k ≤ f j
  | 0, j, h => by rw [show j = 0 by omega]; exact Nat.le_refl _
  | k + 1, j, h => by
    unfold mnS
    by_cases e : j = k + 1
    · subst e; split <;> omega
    · have := mnS_le (f := f) (k := k) (j := j) (by omega)
      split <;> omega
theorem mnS_ex {f : Nat → Nat} : ∀ (k : Nat), ∃ j, j ≤ k ∧ mnS f k = f j
  | 0 => ⟨0, Nat.le_refl _, rfl⟩
  | k + 1 => by
    unfold mnS
    split
    · exact ⟨k + 1, Nat.le_refl _, rfl⟩
    · obtain ⟨j, h1, h2⟩ := mnS_ex (f := f) k
      exact ⟨j, by omega, h2⟩
theorem nI_min {x y : Nat} (hx : x < 2 ^ 31) (hy : y < 2 ^ 31) : (if nI x < nI y then nI x else nI y) = nI (if x < y then x else y) := by
  by_cases h : x < y
  · rw [if_pos ((nI_ltI hx hy).mpr h), if_pos h]
  · rw [if_neg (fun z => h ((nI_ltI hx hy).mp z)), if_neg h]
section BE
variable {M : Mem} {A : Nat → Nat}
theorem rkN_lt (hO : Ok A) {o c : Nat} (hK : OkE A o) (hc : c < 2048) : rkN A o c < 2 ^ 27 := by
  have h1 := costN_le hO hK (c := c)
  have h2 := pcN_le c
  unfold rkN
  omega
theorem mnS_lt (hO : Ok A) {o k : Nat} (hK : OkE A o) (hk : k < 2048) : mnS (rkN A o) k < 2 ^ 27 := by
  obtain ⟨j, h1, h2⟩ := mnS_ex (f := rkN A o) k
  rw [h2]
  exact rkN_lt hO hK (by omega)
theorem p_rank {o c : Nat} (hs : ShR M A o) (hO : Ok A) (hK : OkE A o) (hc : c < 2048) : f_X3_rank 7 (nI c) M = some (nI (rkN A o c)) := by
  unfold f_X3_rank
  rw [gdd_t k7, p_cost hs hO hK (by omega), obb_s, p_bitCount hc, show (32768 : Int32) = nI 32768 from rfl, show (2048 : Int32) = nI 2048 from rfl, pk_mul, pk_mul, nI_add, nI_add]
  rfl
theorem p_allSetsL {o : Nat} (hs : ShR M A o) (hO : Ok A) (hK : OkE A o) : ∀ (n j : Nat), j < 2 ^ (A o - 1) → 2 ^ (A o - 1) - (j + 1) < n → f_X3_leastRankOfAllSets_8 M n 7 (nI (mnS (rkN A o) j)) (nI (j + 1)) = some (nI (mnS (rkN A o) (2 ^ (A o - 1) - 1))) := by
  have hw := hK.2.1
  have hw1 := hK.1
  have hp : 2 ^ (A o - 1) ≤ 2 ^ 11 := Nat.pow_le_pow_right (by decide) (by omega)
  intro n
  induction n with
  | zero => intro j _ h; omega
  | succ n ih =>
    intro j hj hn
    rw [f_X3_leastRankOfAllSets_8, gdd_t k7, hs.1, nI_sub1 hw1, p_shl1 (by omega)]
    by_cases h : j + 1 = 2 ^ (A o - 1)
    · rw [if_pos (nI_le' (by omega) (by omega) (by omega)), ← h]
      rfl
    · have h1 := rkN_lt hO hK (c := j + 1) (by omega)
      have h2 := mnS_lt hO hK (k := j) (by omega)
      rw [if_neg (nI_nle' (by omega) (by omega) (by omega)), p_rank hs hO hK (by omega), obb_s, nI_min (by omega) (by omega), bvv_e, bvv_e, nI_1]
      exact ih (j + 1) (by omega) (by omega)
theorem p_allSets {o : Nat} (hs : ShR M A o) (hO : Ok A) (hK : OkE A o) : f_X3_leastRankOfAllSets 7 M = some (nI (mnS (rkN A o) (2 ^ (A o - 1) - 1))) := by
  have hw := hK.2.1
  have hp : 2 ^ (A o - 1) ≤ 2 ^ 11 := Nat.pow_le_pow_right (by decide) (by omega)
  unfold f_X3_leastRankOfAllSets
  rw [gdd_t k7, show (0 : Int32) = nI 0 from rfl, p_rank hs hO hK (by omega), obb_s]
  exact p_allSetsL hs hO hK FU 0 (Nat.two_pow_pos _) (by unfold FU; omega)
end BE
/-! the best commas of the first words, by the last clause -/
section DP
variable {wt f0 f1 : Nat → Nat} {bal : Nat}
/-- the fines of the gaps ahead of m under c -/
def fiP (f0 f1 : Nat → Nat) (c m : Nat) : Nat := sumN (fun g => if bitN c g = 1 then f1 g else f0 g) m
def rkP (wt f0 f1 : Nat → Nat) (bal m c : Nat) : Nat := ((ccS wt bal m c m).1 + fiP f0 f1 c (m - 1)) * 32768 + pcN c * 2048 + c
/-- sums from s on, so many -/
def segN (f : Nat → Nat) (s : Nat) : Nat → Nat
  | 0 => 0
  | k + 1 => segN f s k + f (s + k)
theorem bitN_small {c k : Nat} (h : c < 2 ^ k) {j : Nat} (hj : k ≤ j) : bitN c j = 0 := by
  unfold bitN
  rw [Nat.div_eq_of_lt (Nat.lt_of_lt_of_le h (Nat.pow_le_pow_right (by decide) hj))]
theorem bitN_add {c k : Nat} (h : c < 2 ^ k) {j : Nat} (hj : j < k) : bitN (c + 2 ^ k) j = bitN c j := by
  unfold bitN
  obtain ⟨d, rfl⟩ : ∃ d, k = j + 1 + d := ⟨k - (j + 1), by omega⟩
  have e : 2 ^ (j + 1 + d) = 2 ^ j * (2 * 2 ^ d) := by rw [Nat.pow_add, Nat.pow_succ, Nat.mul_assoc]
  rw [e, Nat.add_mul_div_left _ _ (Nat.two_pow_pos j)]
  omega
theorem bitN_top {c k : Nat} (h : c < 2 ^ k) : bitN (c + 2 ^ k) k = 1 := by
  unfold bitN
  rw [Nat.add_div_right _ (Nat.two_pow_pos k), Nat.div_eq_of_lt h]
theorem sumN_congr {f g : Nat → Nat} : ∀ {k : Nat}, (∀ j, j < k → f j = g j) → sumN f k = sumN g k
  | 0, _ => rfl
  | k + 1, h => by
    show sumN f k + f k = sumN g k + g k
    rw [sumN_congr (fun j hj => h j (by omega)), h k (by omega)]
theorem sumN_seg {f : Nat → Nat} (s : Nat) : ∀ k, sumN f (s + k) = sumN f s + segN f s k
  | 0 => rfl
  | k + 1 => by
    show sumN f (s + k) + f (s + k) = sumN f s + (segN f s k + f (s + k))
    rw [sumN_seg s k]
    omega
theorem pcN_add {c k : Nat} (h : c < 2 ^ k) (hk : k < 12) : pcN (c + 2 ^ k) = pcN c + 1 := by
  obtain ⟨d, hd⟩ : ∃ d, 12 = (k + 1) + d := ⟨12 - (k + 1), by omega⟩
  have hc2 : c + 2 ^ k < 2 ^ (k + 1) := by rw [Nat.pow_succ]; omega
  have e1 : ∀ d, segN (bitN (c + 2 ^ k)) (k + 1) d = 0 := by
    intro d
    induction d with
    | zero => rfl
    | succ d ih => show _ + _ = _; rw [ih, bitN_small hc2 (by omega)]
  have e2 : ∀ d, segN (bitN c) (k + 1) d = 0 := by
    intro d
    induction d with
    | zero => rfl
    | succ d ih => show _ + _ = _; rw [ih, bitN_small h (by omega)]
  unfold pcN
  rw [hd, sumN_seg (f := bitN (c + 2 ^ k)) (k + 1) d, sumN_seg (f := bitN c) (k + 1) d, e1, e2]
  show sumN _ k + bitN (c + 2 ^ k) k + 0 = sumN _ k + bitN c k + 0 + 1
  rw [bitN_top h, bitN_small h (Nat.le_refl k), sumN_congr (fun j hj => bitN_add h hj)]
/-- ahead of the last clause -/
theorem ccS_pre {m t c : Nat} (hc : c < 2 ^ t) (hm : t + 1 < m) : ∀ k, k ≤ t → ccS wt bal m (c + 2 ^ t) k = ccS wt bal (t + 1) c k
  | 0, _ => rfl
  | k + 1, hk => by
    unfold ccS
    rw [ccS_pre hc hm k (by omega), bitN_add hc (by omega)]
    simp only [show ¬ k + 1 = m by omega, show ¬ k + 1 = t + 1 by omega, false_or]
theorem ccS_at {m t c : Nat} (hc : c < 2 ^ t) (hm : t + 1 < m) : ccS wt bal m (c + 2 ^ t) (t + 1) = ((ccS wt bal (t + 1) c (t + 1)).1, 0) := by
  rw [ccS, ccS, ccS_pre hc hm t (Nat.le_refl _), bitN_top hc, if_pos (Or.inr rfl), if_pos (Or.inl rfl)]
/-- behind it no comma stands -/
theorem ccS_last {m s c x : Nat} (hb : ∀ j, s ≤ j → bitN c j = 0) (h0 : ccS wt bal m c s = (x, 0)) : ∀ k, s + k < m → ccS wt bal m c (s + k) = (x, segN wt s k)
  | 0, _ => h0
  | k + 1, hk => by
    rw [← Nat.add_assoc, ccS, ccS_last hb h0 k (by omega), hb _ (by omega), if_neg (by omega)]
    rfl
theorem ccS_end {m s c x : Nat} (hb : ∀ j, s ≤ j → bitN c j = 0) (h0 : ccS wt bal m c s = (x, 0)) {k : Nat} (hk : s + k + 1 = m) : (ccS wt bal m c m).1 = x + dst (segN wt s (k + 1)) bal := by
  subst hk
  rw [ccS, ccS_last hb h0 k (by omega), if_pos (Or.inl rfl)]
  rfl
theorem fiP_last {c s : Nat} (hb : ∀ j, s ≤ j → bitN c j = 0) (k : Nat) : fiP f0 f1 c (s + k) = fiP f0 f1 c s + segN f0 s k := by
  unfold fiP
  rw [sumN_seg]
  congr 1
  induction k with
  | zero => rfl
  | succ k ih =>
    show _ + (if bitN c (s + k) = 1 then f1 (s + k) else f0 (s + k)) = _ + _
    rw [ih, hb (s + k) (by omega)]
    rfl
/-- what the last clause from s on, of k + 1 words, costs -/
def lcN (wt f0 : Nat → Nat) (bal s k : Nat) : Nat := dst (segN wt s (k + 1)) bal + segN f0 s k
theorem rkP_0 {k : Nat} : rkP wt f0 f1 bal (k + 1) 0 = lcN wt f0 bal 0 k * 32768 := by
  have hb : ∀ j, 0 ≤ j → bitN 0 j = 0 := fun j _ => bitN_small (Nat.two_pow_pos 0) (Nat.zero_le j)
  unfold rkP lcN
  rw [ccS_end hb rfl (Nat.zero_add _ ▸ rfl : 0 + k + 1 = k + 1), Nat.add_sub_cancel]
  have := fiP_last (f0 := f0) (f1 := f1) hb k
  rw [Nat.zero_add] at this
  rw [this, show pcN 0 = 0 by decide, show fiP f0 f1 0 0 = 0 from rfl]
  omega
theorem rkP_s {t k c : Nat} (hc : c < 2 ^ t) (ht : t + k + 2 ≤ 12) : rkP wt f0 f1 bal (t + 1 + k + 1) (c + 2 ^ t) = rkP wt f0 f1 bal (t + 1) c + f1 t * 32768 + 2048 + 2 ^ t + lcN wt f0 bal (t + 1) k * 32768 := by
  have hc2 : c + 2 ^ t < 2 ^ (t + 1) := by rw [Nat.pow_succ]; omega
  have hb : ∀ j, t + 1 ≤ j → bitN (c + 2 ^ t) j = 0 := fun j hj => bitN_small hc2 hj
  unfold rkP lcN
  rw [ccS_end hb (ccS_at hc (by omega)) rfl, Nat.add_sub_cancel, fiP_last hb k, pcN_add hc (by omega)]
  have e : fiP f0 f1 (c + 2 ^ t) (t + 1) = fiP f0 f1 c t + f1 t := by
    unfold fiP
    show sumN _ t + (if bitN (c + 2 ^ t) t = 1 then f1 t else f0 t) = _
    rw [bitN_top hc, if_pos rfl]
    congr 1
    exact sumN_congr (fun j hj => by rw [bitN_add hc hj])
  rw [e]
  show _ = ((ccS wt bal (t + 1) c (t + 1)).1 + fiP f0 f1 c t) * 32768 + _ + _ + _ + _ + _ + _
  omega
theorem top_bit : ∀ {c m : Nat}, c < 2 ^ m → c ≠ 0 → ∃ t d, t < m ∧ d < 2 ^ t ∧ c = d + 2 ^ t
  | c, 0, h, h0 => by rw [Nat.pow_zero] at h; omega
  | c, m + 1, h, h0 => by
    by_cases h1 : c < 2 ^ m
    · obtain ⟨t, d, h2, h3, h4⟩ := top_bit h1 h0
      exact ⟨t, d, by omega, h3, h4⟩
    · rw [Nat.pow_succ] at h
      exact ⟨m, c - 2 ^ m, by omega, by omega, by omega⟩
def mnP (wt f0 f1 : Nat → Nat) (bal m : Nat) : Nat := mnS (rkP wt f0 f1 bal m) (2 ^ (m - 1) - 1)
/-- all ahead of a clause that begins at s -/
def upN (wt f0 f1 : Nat → Nat) (bal s : Nat) : Nat := match s with
  | 0 => 0
  | t + 1 => mnP wt f0 f1 bal (t + 1) + f1 t * 32768 + 2048 + 2 ^ t
def clR (wt f0 f1 : Nat → Nat) (bal m s : Nat) : Nat := upN wt f0 f1 bal s + lcN wt f0 bal s (m - 1 - s) * 32768
theorem mnP_le {m s : Nat} (hm : 1 ≤ m) (h12 : m ≤ 12) (hs : s < m) : mnP wt f0 f1 bal m ≤ clR wt f0 f1 bal m s := by
  unfold mnP clR
  cases s with
  | zero =>
    have h1 := mnS_le (f := rkP wt f0 f1 bal m) (Nat.zero_le (2 ^ (m - 1) - 1))
    obtain ⟨k, rfl⟩ : ∃ k, m = k + 1 := ⟨m - 1, by omega⟩
    rw [rkP_0, Nat.add_sub_cancel] at h1
    show _ ≤ 0 + lcN wt f0 bal 0 (k + 1 - 1 - 0) * 32768
    rw [Nat.add_sub_cancel, Nat.sub_zero]
    omega
  | succ t =>
    obtain ⟨k, rfl⟩ : ∃ k, m = t + 1 + k + 1 := ⟨m - (t + 2), by omega⟩
    obtain ⟨c, h1, h2⟩ := mnS_ex (f := rkP wt f0 f1 bal (t + 1)) (2 ^ (t + 1 - 1) - 1)
    rw [Nat.add_sub_cancel] at h1
    have hp := Nat.two_pow_pos t
    have hc : c < 2 ^ t := by omega
    have hq : 2 ^ t * 2 ≤ 2 ^ (t + 1 + k) := by
      rw [← Nat.pow_succ]
      exact Nat.pow_le_pow_right (by decide) (by omega)
    have h3 := mnS_le (f := rkP wt f0 f1 bal (t + 1 + k + 1)) (k := 2 ^ (t + 1 + k + 1 - 1) - 1) (j := c + 2 ^ t) (by rw [Nat.add_sub_cancel]; omega)
    rw [rkP_s hc (by omega), ← h2] at h3
    show _ ≤ mnP wt f0 f1 bal (t + 1) + f1 t * 32768 + 2048 + 2 ^ t + lcN wt f0 bal (t + 1) (t + 1 + k + 1 - 1 - (t + 1)) * 32768
    rw [show t + 1 + k + 1 - 1 - (t + 1) = k by omega]
    exact h3
theorem mnP_ex {m : Nat} (hm : 1 ≤ m) (h12 : m ≤ 12) : ∃ s, s < m ∧ clR wt f0 f1 bal m s ≤ mnP wt f0 f1 bal m := by
  obtain ⟨c, h1, h2⟩ := mnS_ex (f := rkP wt f0 f1 bal m) (2 ^ (m - 1) - 1)
  have hp := Nat.two_pow_pos (m - 1)
  unfold mnP clR
  rw [h2]
  by_cases h0 : c = 0
  · subst h0
    obtain ⟨k, rfl⟩ : ∃ k, m = k + 1 := ⟨m - 1, by omega⟩
    refine ⟨0, by omega, ?_⟩
    rw [rkP_0]
    show 0 + lcN wt f0 bal 0 (k + 1 - 1 - 0) * 32768 ≤ _
    rw [Nat.add_sub_cancel, Nat.sub_zero]
    omega
  · obtain ⟨t, d, h3, h4, h5⟩ := top_bit (show c < 2 ^ (m - 1) by omega) h0
    obtain ⟨k, rfl⟩ : ∃ k, m = t + 1 + k + 1 := ⟨m - (t + 2), by omega⟩
    refine ⟨t + 1, by omega, ?_⟩
    rw [h5, rkP_s h4 (by omega)]
    have h6 := mnS_le (f := rkP wt f0 f1 bal (t + 1)) (k := 2 ^ (t + 1 - 1) - 1) (j := d) (by rw [Nat.add_sub_cancel]; omega)
    show mnP wt f0 f1 bal (t + 1) + f1 t * 32768 + 2048 + 2 ^ t + lcN wt f0 bal (t + 1) (t + 1 + k + 1 - 1 - (t + 1)) * 32768 ≤ _
    rw [show t + 1 + k + 1 - 1 - (t + 1) = k by omega]
    unfold mnP
    omega
/-- the least over the clauses that begin at m - 1 .. m - k -/
def mnC (wt f0 f1 : Nat → Nat) (bal m : Nat) : Nat → Nat
  | 0 => 0
  | k + 1 => if k = 0 then clR wt f0 f1 bal m (m - 1) else if clR wt f0 f1 bal m (m - 1 - k) < mnC wt f0 f1 bal m k then clR wt f0 f1 bal m (m - 1 - k) else mnC wt f0 f1 bal m k
theorem mnC_le {m : Nat} : ∀ {k s : Nat}, k ≤ m → s < m → m ≤ s + k → mnC wt f0 f1 bal m k ≤ clR wt f0 f1 bal m s
  | 0, s, _, h1, h2 => by omega
  | k + 1, s, hk, h1, h2 => by
    rw [mnC]
    by_cases h0 : k = 0
    · subst h0
      rw [if_pos rfl, show m - 1 = s by omega]
      exact Nat.le_refl _
    · rw [if_neg h0]
      by_cases e : s = m - 1 - k
      · subst e; split <;> omega
      · have := mnC_le (k := k) (s := s) (by omega) h1 (by omega)
        split <;> omega
theorem mnC_ex {m : Nat} : ∀ {k : Nat}, 1 ≤ k → k ≤ m → ∃ s, s < m ∧ mnC wt f0 f1 bal m k = clR wt f0 f1 bal m s
  | k + 1, _, hk => by
    rw [mnC]
    by_cases h0 : k = 0
    · rw [if_pos h0]; exact ⟨m - 1, by omega, rfl⟩
    · rw [if_neg h0]
      split
      · exact ⟨m - 1 - k, by omega, rfl⟩
      · exact mnC_ex (k := k) (by omega) (by omega)
theorem mnC_eq {m : Nat} (hm : 1 ≤ m) (h12 : m ≤ 12) : mnC wt f0 f1 bal m m = mnP wt f0 f1 bal m := by
  obtain ⟨s, h1, h2⟩ := mnP_ex (wt := wt) (f0 := f0) (f1 := f1) (bal := bal) hm h12
  obtain ⟨s2, h3, h4⟩ := mnC_ex (wt := wt) (f0 := f0) (f1 := f1) (bal := bal) hm (Nat.le_refl m)
  have h5 := mnP_le (wt := wt) (f0 := f0) (f1 := f1) (bal := bal) hm h12 h3
  have h6 := mnC_le (wt := wt) (f0 := f0) (f1 := f1) (bal := bal) (Nat.le_refl m) h1 (by omega)
  omega
end DP
theorem rkP_rk {A : Nat → Nat} {o c : Nat} : rkP (wtN A o) (fun g => fineN A o g 0) (fun g => fineN A o g 1) (A 1) (A o) c = rkN A o c := by
  unfold rkP rkN costN clN fnN fiP
  have e : sumN (fun g => if bitN c g = 1 then fineN A o g 1 else fineN A o g 0) (A o - 1) = sumN (fun g => fineN A o g (bitN c g)) (A o - 1) := sumN_congr (fun j hj => by
    have := bitN_lt c j
    by_cases h : bitN c j = 1
    · rw [if_pos h, h]
    · rw [if_neg h, show bitN c j = 0 by omega])
  rw [e]
