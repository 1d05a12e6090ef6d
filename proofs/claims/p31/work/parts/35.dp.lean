/-! PURE: the best commas word by word, and the splittings, as the class reckons them -/
theorem segN_cons {f : Nat → Nat} {s : Nat} : ∀ k, segN f s (k + 1) = f s + segN f (s + 1) k
  | 0 => by show 0 + f (s + 0) = f s + 0; rw [Nat.zero_add, Nat.add_zero, Nat.add_zero]
  | k + 1 => by
    rw [segN, segN_cons k]
    show _ = f s + (segN f (s + 1) k + f (s + 1 + k))
    rw [show s + (k + 1) = s + 1 + k by omega]
    omega
theorem segN_le {f : Nat → Nat} {s b : Nat} : ∀ k, (∀ j, j < k → f (s + j) ≤ b) → segN f s k ≤ k * b
  | 0, _ => Nat.zero_le _
  | k + 1, h => by
    have h1 := segN_le k (fun j hj => h j (by omega))
    have h2 := h k (by omega)
    rw [Nat.succ_mul]
    show segN f s k + f (s + k) ≤ _
    omega
section DPM
variable {M : Mem} {A : Nat → Nat} {o : Nat}
abbrev fA0 (A : Nat → Nat) (o : Nat) : Nat → Nat := fun g => fineN A o g 0
abbrev fA1 (A : Nat → Nat) (o : Nat) : Nat → Nat := fun g => fineN A o g 1
abbrev mnA (A : Nat → Nat) (o m : Nat) : Nat := mnP (wtN A o) (fA0 A o) (fA1 A o) (A 1) m
theorem mnA_lt (hO : Ok A) (hK : OkE A o) {m : Nat} (h1 : 1 ≤ m) (hm : m ≤ A o) : mnA A o m < 2 ^ 26 := by
  have hw := hK.2.1
  have hb := hO.b
  obtain ⟨c, h2, h3⟩ := mnS_ex (f := rkP (wtN A o) (fA0 A o) (fA1 A o) (A 1) m) (2 ^ (m - 1) - 1)
  have hp : 2 ^ (m - 1) ≤ 2 ^ 11 := Nat.pow_le_pow_right (by decide) (by omega)
  unfold mnA mnP
  rw [h3]
  have e1 := ccS_1 (c := c) hb.2 (fun j (hj : j < m) => (OkE.wt hO hK (show j < A o by omega)).2) m (Nat.le_refl _)
  have e2 : fiP (fA0 A o) (fA1 A o) c (m - 1) ≤ (m - 1) * 20 := sumN_le (fun g => by
    show (if _ then _ else _) ≤ 20
    split
    · exact fineN_le hO o g 1
    · exact fineN_le hO o g 0) _
  have e3 : m * (30 + 9 * m) ≤ 12 * (30 + 9 * 12) := Nat.mul_le_mul (by omega) (by omega)
  have e4 := pcN_le c
  unfold rkP
  omega
def ByR (M : Mem) (A : Nat → Nat) (o m : Nat) : Prop := ∀ t, 1 ≤ t → t < m → gI M 11 t = nI (mnA A o t)
abbrev upA (A : Nat → Nat) (o s : Nat) : Nat := upN (wtN A o) (fA0 A o) (fA1 A o) (A 1) s
theorem upA_lt (hO : Ok A) (hK : OkE A o) {s : Nat} (hs : s ≤ A o) : upA A o s < 2 ^ 27 := by
  have hw := hK.2.1
  cases s with
  | zero => show 0 < _; decide
  | succ t =>
    have h1 := mnA_lt hO hK (m := t + 1) (by omega) hs
    have h2 := fineN_le hO o t 1
    have hp : 2 ^ t ≤ 2 ^ 11 := Nat.pow_le_pow_right (by decide) (by omega)
    show mnA A o (t + 1) + fineN A o t 1 * 32768 + 2048 + 2 ^ t < _
    omega
theorem p_up (hs : ShR M A o) (hO : Ok A) (hK : OkE A o) {m s : Nat} (hB : ByR M A o m) (hm : m ≤ A o) (hsm : s < m) : f_X3_rankUpToClause 7 (nI s) M = some (nI (upA A o s)) := by
  have hw := hK.2.1
  unfold f_X3_rankUpToClause
  cases s with
  | zero => rw [if_pos (show nI 0 = 0 from rfl)]; rfl
  | succ t =>
    rw [if_neg (nI_ne0 (by omega) (by omega)), bvv_e, nI_sub1 (by omega), Nat.add_sub_cancel, gdd_t k7, k11.2.2, p_at k11.1 (by rw [k11.2.1]; omega) (by rw [k11.2.1]; omega), obb_s, p_f1 hs hK (by omega), obb_s, hB (t + 1) (by omega) hsm, p_shl1 (by omega), show (32768 : Int32) = nI 32768 from rfl, show (2048 : Int32) = nI 2048 from rfl, pk_mul, nI_add, nI_add, nI_add]
    rfl
abbrev clA (A : Nat → Nat) (o m s : Nat) : Nat := clR (wtN A o) (fA0 A o) (fA1 A o) (A 1) m s
abbrev mcA (A : Nat → Nat) (o m k : Nat) : Nat := mnC (wtN A o) (fA0 A o) (fA1 A o) (A 1) m k
theorem lcA_le (hO : Ok A) (hK : OkE A o) {s k : Nat} (h : s + k < A o) : segN (wtN A o) s (k + 1) ≤ 108 ∧ segN (fA0 A o) s k ≤ 240 := by
  have hw := hK.2.1
  have h1 := segN_le (f := wtN A o) (s := s) (b := 9) (k + 1) (fun j hj => (OkE.wt hO hK (by omega)).2)
  have h2 := segN_le (f := fA0 A o) (s := s) (b := 20) k (fun j hj => fineN_le hO o _ 0)
  omega
theorem clA_lt (hO : Ok A) (hK : OkE A o) {m s : Nat} (hm : m ≤ A o) (hs : s < m) : clA A o m s < 2 ^ 28 := by
  have h1 := upA_lt hO hK (s := s) (by omega)
  have h2 := lcA_le hO hK (s := s) (k := m - 1 - s) (by omega)
  have hb := hO.b
  unfold clA clR lcN dst
  unfold upA at h1
  omega
theorem mcA_lt (hO : Ok A) (hK : OkE A o) {m k : Nat} (hm : m ≤ A o) (hk : k ≤ m) : mcA A o m k < 2 ^ 28 := by
  cases k with
  | zero => show 0 < _; decide
  | succ k =>
    obtain ⟨s, h1, h2⟩ := mnC_ex (wt := wtN A o) (f0 := fA0 A o) (f1 := fA1 A o) (bal := A 1) (m := m) (k := k + 1) (by omega) hk
    unfold mcA
    rw [h2]
    exact clA_lt hO hK hm h1
theorem nI_pd (j : Nat) : nI j + (-1) = nI j - 1 := by
  rcases Nat.eq_zero_or_pos j with h | h
  · subst h; rfl
  · rw [nI_m1 h, nI_sub1 h]
theorem p_lrL (hs : ShR M A o) (hO : Ok A) (hK : OkE A o) {m : Nat} (hB : ByR M A o m) (hm1 : 1 ≤ m) (hm : m ≤ A o) : ∀ (n k : Nat), k ≤ m → m - k < n → f_X3_leastRankUpTo_12 M n 7 (nI m) (nI (mcA A o m k)) (nI (segN (wtN A o) (m - k) k)) (nI (segN (fA0 A o) (m - k) (k - 1))) (nI (m - k) - 1) = some (nI (mcA A o m m)) := by
  have hw := hK.2.1
  have hb := hO.b
  intro n
  induction n with
  | zero => intro k _ h; omega
  | succ n ih =>
    intro k hk hn
    rw [f_X3_leastRankUpTo_12]
    by_cases h : k = m
    · subst h
      rw [if_pos (by rw [Nat.sub_self, nI_0s1]; decide)]
    · obtain ⟨s, hs1⟩ : ∃ s, s + 1 = m - k := ⟨m - k - 1, by omega⟩
      have hsm : s < m := by omega
      have hks : m - 1 - s = k := by omega
      have hl := lcA_le hO hK (s := s) (k := k) (by omega)
      have hi := ih (k + 1) (by omega) (by omega)
      rw [show m - (k + 1) = s by omega, segN_cons, show s + 1 = m - k from hs1, Nat.add_sub_cancel] at hi
      have hcl : clA A o m s = upA A o s + (dst (segN (wtN A o) s (k + 1)) (A 1) + segN (fA0 A o) s k) * 32768 := by
        unfold clA clR lcN
        rw [hks]
      rw [← hs1, nI_sub1 (by omega), Nat.add_sub_cancel, if_neg (nI_neg (by omega)), gdd_t k7, gdd_t k7, p_w hs hK (by omega), obb_s, bvv_e, obb_s, bvv_e, bvv_e, nI_sub1 hm1, nI_add, p_up hs hO hK hB hm hsm, obb_s]
      have eW : segN (wtN A o) (s + 1) k + wtN A o s = segN (wtN A o) s (k + 1) := by rw [segN_cons]; omega
      rw [eW, p_clauseCost hs hO (by omega), obb_s, bvv_e, bvv_e, nI_pd]
      rw [hs1.symm] at hi
      by_cases h0 : k = 0
      · subst h0
        rw [if_pos (by rw [show s = m - 1 by omega])]
        have e1 : mcA A o m (0 + 1) = clA A o m s := by
          show (if 0 = 0 then _ else _) = _
          rw [if_pos rfl, show m - 1 = s by omega]
        rw [e1, hcl] at hi
        have e2 : nI (segN (fA0 A o) (s + 1) (0 - 1)) + 0 = nI 0 := by rfl
        rw [e2, nI_add, show (32768 : Int32) = nI 32768 from rfl, pk_mul, nI_add]
        rw [show wtN A o s + segN (wtN A o) (s + 1) 0 = segN (wtN A o) s (0 + 1) by rw [segN_cons]] at hi
        exact hi
      · have hc1 := clA_lt hO hK hm hsm
        have hc2 := mcA_lt hO hK (k := k) hm hk
        rw [if_neg (nI_ne (by omega) (by omega) (by omega)), p_f0 hs hK (by omega), obb_s, bvv_e]
        have eF : nI (segN (fA0 A o) (s + 1) (k - 1)) + nI (fineN A o s 0) = nI (segN (fA0 A o) s k) := by
          rw [nI_add]
          obtain ⟨j, rfl⟩ : ∃ j, k = j + 1 := ⟨k - 1, by omega⟩
          rw [segN_cons, Nat.add_sub_cancel]
          exact congrArg nI (Nat.add_comm _ _)
        rw [eF]
        simp only [obb_s, bvv_e]
        rw [nI_add, show (32768 : Int32) = nI 32768 from rfl, pk_mul, nI_add, ← hcl, nI_min (by omega) (by omega)]
        have e1 : mcA A o m (k + 1) = if clA A o m s < mcA A o m k then clA A o m s else mcA A o m k := by
          show (if k = 0 then _ else _) = _
          rw [if_neg h0, show m - 1 - k = s by omega]
        rw [e1] at hi
        rw [show wtN A o s + segN (wtN A o) (s + 1) k = segN (wtN A o) s (k + 1) by rw [segN_cons]] at hi
        exact hi
theorem p_leastUp (hs : ShR M A o) (hO : Ok A) (hK : OkE A o) {m : Nat} (hB : ByR M A o m) (hm1 : 1 ≤ m) (hm : m ≤ A o) : f_X3_leastRankUpTo 7 (nI m) M = some (nI (mnA A o m)) := by
  have hw := hK.2.1
  unfold f_X3_leastRankUpTo
  rw [bvv_e]
  have h := p_lrL hs hO hK hB hm1 hm FU 0 (by omega) (by unfold FU; omega)
  rw [show mcA A o m m = mnA A o m from mnC_eq hm1 (by omega)] at h
  exact h
theorem p_byWordsL (hO : Ok A) (hK : OkE A o) : ∀ (n m : Nat) (M : Mem), ShR M A o → ByR M A o m → 1 ≤ m → m ≤ A o + 1 → A o + 1 - m < n → ∃ M2, f_X3_leastRankByWords_2 n 7 (nI m) M = some (nI (mnA A o (A o)), M2) ∧ Sm (fun r => r = 11) M M2 := by
  have hw := hK.2.1
  have hw1 := hK.1
  intro n
  induction n with
  | zero => intro m M _ _ _ _ h; omega
  | succ n ih =>
    intro m M hs hB h1 hm hn
    rw [f_X3_leastRankByWords_2, gdd_t k7, hs.1]
    by_cases h : m = A o + 1
    · subst h
      rw [if_pos ((nI_ltI (by omega) (by omega)).mpr (by omega)), k11.2.2, p_at k11.1 (by rw [k11.2.1]; omega) (by rw [k11.2.1]; omega), obb_s, hB (A o) hw1 (by omega)]
      exact ⟨M, rfl, Sm.rf⟩
    · rw [if_neg (fun z => by have := (nI_ltI (by omega) (by omega)).mp z; omega), p_leastUp hs hO hK hB h1 (by omega), obb_s, k11.2.2, p_put k11.1 (by rw [k11.2.1]; omega) (by rw [k11.2.1]; omega), obb_s, bvv_e, nI_1]
      have hS : Sm (fun r => r = 11) M (sI M 11 m (nI (mnA A o m))) := Sm.put Sm.rf rfl
      obtain ⟨M2, r1, r2⟩ := ih (m + 1) _ (hs.sm hS (fun r h1 h2 => by omega)) (fun t ht1 ht2 => by
        by_cases e : t = m
        · subst e; rw [gI_s]
        · rw [gI_n (Or.inr (by omega))]; exact hB t ht1 (by omega)) (by omega) (by omega) (by omega)
      exact ⟨M2, r1, hS.tr r2⟩
theorem p_byWords (hs : ShR M A o) (hO : Ok A) (hK : OkE A o) : ∃ M2, f_X3_leastRankByWords 7 M = some (nI (mnS (rkN A o) (2 ^ (A o - 1) - 1)), M2) ∧ Sm ShX M M2 := by
  have hw := hK.2.1
  have hw1 := hK.1
  obtain ⟨M2, r1, r2⟩ := p_byWordsL hO hK FU 1 M hs (fun t h1 h2 => by omega) (by omega) (by omega) (by unfold FU; omega)
  refine ⟨M2, ?_, r2.mono (fun r h => by unfold ShX; omega)⟩
  have e : mnA A o (A o) = mnS (rkN A o) (2 ^ (A o - 1) - 1) := by
    unfold mnA mnP
    rw [show rkP (wtN A o) (fA0 A o) (fA1 A o) (A 1) (A o) = rkN A o from funext (fun c => rkP_rk)]
  rw [← e]
  exact r1
end DPM
/-! splittings -/
/-- in how many ways the first m words can be split -/
def wyT (W : Nat → Nat) (h : Nat) : Nat → Nat → Nat
  | 0 => fun t => if t = 0 then 1 else 0
  | m + 1 => fun t => if t = m + 1 then sumN (fun k => if segN W (m - k) (k + 1) ≤ h then wyT W h m (m - k) else 0) (m + 1) else wyT W h m t
def wyP (W : Nat → Nat) (h m : Nat) : Nat := wyT W h m m
theorem wyT_st {W : Nat → Nat} {h : Nat} : ∀ (m t : Nat), t ≤ m → wyT W h m t = wyP W h t
  | 0, t, ht => by rw [show t = 0 by omega]; rfl
  | m + 1, t, ht => by
    by_cases e : t = m + 1
    · subst e; rfl
    · rw [wyT]
      simp only [e, if_false]
      exact wyT_st m t (by omega)
theorem wyP_0 {W : Nat → Nat} {h : Nat} : wyP W h 0 = 1 := rfl
theorem wyP_s {W : Nat → Nat} {h m : Nat} : wyP W h (m + 1) = sumN (fun k => if segN W (m - k) (k + 1) ≤ h then wyP W h (m - k) else 0) (m + 1) := by
  unfold wyP
  rw [wyT]
  simp only [if_true]
  exact sumN_congr (fun k hk => by rw [wyT_st m (m - k) (by omega)]; rfl)
theorem sumN_add {f g : Nat → Nat} : ∀ n, sumN (fun k => f k + g k) n = sumN f n + sumN g n
  | 0 => rfl
  | n + 1 => by
    show sumN _ n + (f n + g n) = sumN f n + f n + (sumN g n + g n)
    rw [sumN_add n]
    omega
theorem sumN_zero : ∀ n, sumN (fun _ => 0) n = 0
  | 0 => rfl
  | n + 1 => by show sumN _ n + 0 = 0; rw [sumN_zero n]
theorem sumN_swap {f : Nat → Nat → Nat} (m : Nat) : ∀ n, sumN (fun j => sumN (f j) m) n = sumN (fun l => sumN (fun j => f j l) n) m
  | 0 => by show 0 = _; exact (sumN_zero m).symm
  | n + 1 => by
    show sumN _ n + sumN (f n) m = _
    rw [sumN_swap m n, ← sumN_add]
    rfl
theorem sumN_front {f : Nat → Nat} : ∀ n, sumN f (n + 1) = f 0 + sumN (fun k => f (k + 1)) n
  | 0 => by show 0 + f 0 = f 0 + 0; omega
  | n + 1 => by
    show sumN f (n + 1) + f (n + 1) = f 0 + (sumN (fun k => f (k + 1)) n + f (n + 1))
    rw [sumN_front n]
    omega
theorem sumN_rev {f : Nat → Nat} : ∀ n, sumN (fun k => f (n - k)) (n + 1) = sumN f (n + 1)
  | 0 => rfl
  | n + 1 => by
    rw [sumN_front]
    have e : sumN (fun k => f (n + 1 - (k + 1))) (n + 1) = sumN f (n + 1) := by
      exact (sumN_congr (fun k hk => by rw [show n + 1 - (k + 1) = n - k by omega])).trans (sumN_rev n)
    rw [e]
    show f (n + 1 - 0) + sumN f (n + 1) = sumN f (n + 1) + f (n + 1)
    rw [Nat.sub_zero]
    omega
theorem sumN_mul {f : Nat → Nat} {c : Nat} : ∀ n, sumN (fun k => c * f k) n = c * sumN f n
  | 0 => rfl
  | n + 1 => by
    show sumN _ n + c * f n = c * (sumN f n + f n)
    rw [sumN_mul n, Nat.mul_add]
def okI (W : Nat → Nat) (h s k : Nat) : Nat := if segN W s k ≤ h then 1 else 0
theorem segN_sh {W : Nat → Nat} {i s : Nat} : ∀ k, segN (fun j => W (i + j)) s k = segN W (i + s) k
  | 0 => rfl
  | k + 1 => by
    show segN _ s k + W (i + (s + k)) = segN W (i + s) k + W (i + s + k)
    rw [segN_sh k, Nat.add_assoc]
theorem wyP_l {W : Nat → Nat} {h m : Nat} : wyP W h (m + 1) = sumN (fun j => okI W h j (m + 1 - j) * wyP W h j) (m + 1) := by
  rw [wyP_s, ← sumN_rev (f := fun j => okI W h j (m + 1 - j) * wyP W h j) m]
  exact sumN_congr (fun k hk => by
    show _ = okI W h (m - k) (m + 1 - (m - k)) * wyP W h (m - k)
    rw [show m + 1 - (m - k) = k + 1 by omega]
    unfold okI
    split
    · rw [Nat.one_mul]
    · rw [Nat.zero_mul])
/-- by the first clause -/
theorem wyP_f {h : Nat} : ∀ (n : Nat) (W : Nat → Nat), wyP W h (n + 1) = sumN (fun l => okI W h 0 (l + 1) * wyP (fun j => W (l + 1 + j)) h (n - l)) (n + 1) := by
  intro n
  induction n using Nat.strongRecOn with
  | ind n ih =>
    intro W
    rw [wyP_l, sumN_front]
    have e1 : sumN (fun k => okI W h (k + 1) (n + 1 - (k + 1)) * wyP W h (k + 1)) n = sumN (fun j => sumN (fun l => if l ≤ j then okI W h (j + 1) (n - j) * (okI W h 0 (l + 1) * wyP (fun i => W (l + 1 + i)) h (j - l)) else 0) n) n := by
      refine sumN_congr (fun j hj => ?_)
      rw [ih j hj W, ← sumN_mul, show n + 1 - (j + 1) = n - j by omega]
      obtain ⟨d, hd⟩ : ∃ d, n = (j + 1) + d := ⟨n - (j + 1), by omega⟩
      have key : ∀ g : Nat → Nat, sumN (fun l => if l ≤ j then g l else 0) ((j + 1) + d) = sumN g (j + 1) := by
        intro g
        rw [sumN_seg]
        have z : ∀ d, segN (fun l => if l ≤ j then g l else 0) (j + 1) d = 0 := by
          intro d
          induction d with
          | zero => rfl
          | succ d ihd =>
            show segN _ (j + 1) d + (if j + 1 + d ≤ j then _ else 0) = 0
            rw [ihd, if_neg (by omega)]
        rw [z, Nat.add_zero]
        exact sumN_congr (fun l hl => by rw [if_pos (by omega)])
      have := key (fun l => okI W h (j + 1) (n - j) * (okI W h 0 (l + 1) * wyP (fun i => W (l + 1 + i)) h (j - l)))
      rw [← hd] at this
      exact this.symm
    rw [e1, sumN_swap]
    have e2 : sumN (fun l => sumN (fun j => if l ≤ j then okI W h (j + 1) (n - j) * (okI W h 0 (l + 1) * wyP (fun i => W (l + 1 + i)) h (j - l)) else 0) n) n = sumN (fun l => okI W h 0 (l + 1) * wyP (fun i => W (l + 1 + i)) h (n - l)) n := by
      refine sumN_congr (fun l hl => ?_)
      obtain ⟨d, hd⟩ : ∃ d, n = l + (d + 1) := ⟨n - l - 1, by omega⟩
      have key : ∀ g : Nat → Nat, sumN (fun j => if l ≤ j then g j else 0) (l + (d + 1)) = sumN (fun i => g (l + i)) (d + 1) := by
        intro g
        rw [sumN_seg, sumN_congr (g := fun _ => 0) (fun j hj => if_neg (by omega)), sumN_zero, Nat.zero_add]
        have : ∀ d, segN (fun j => if l ≤ j then g j else 0) l d = sumN (fun i => g (l + i)) d := by
          intro d
          induction d with
          | zero => rfl
          | succ d ihd =>
            show segN _ l d + (if l ≤ l + d then g (l + d) else 0) = _
            rw [ihd, if_pos (by omega)]
            rfl
        exact this (d + 1)
      have k1 := key (fun j => okI W h (j + 1) (n - j) * (okI W h 0 (l + 1) * wyP (fun i => W (l + 1 + i)) h (j - l)))
      rw [← hd] at k1
      rw [k1, show n - l = d + 1 by omega, wyP_l, ← sumN_mul]
      refine sumN_congr (fun i hi => ?_)
      have e3 : okI (fun j => W (l + 1 + j)) h i (d + 1 - i) = okI W h (l + i + 1) (n - (l + i)) := by
        unfold okI
        rw [segN_sh, show l + 1 + i = l + i + 1 by omega, show d + 1 - i = n - (l + i) by omega]
      rw [e3, show l + i - l = i by omega]
      rw [Nat.mul_left_comm]
    rw [e2]
    show okI W h 0 (n + 1) * wyP W h 0 + _ = sumN _ n + okI W h 0 (n + 1) * wyP _ h (n - n)
    rw [wyP_0, Nat.sub_self, wyP_0, Nat.add_comm]
theorem wyP_le {W : Nat → Nat} {h : Nat} : ∀ m, wyP W h m ≤ 2 ^ m := by
  intro m
  induction m using Nat.strongRecOn with
  | ind m ih =>
    cases m with
    | zero => exact Nat.le_refl _
    | succ m =>
      rw [wyP_l]
      have h1 : ∀ k, k ≤ m + 1 → sumN (fun j => okI W h j (m + 1 - j) * wyP W h j) k ≤ 2 ^ k := by
        intro k
        induction k with
        | zero => intro _; show 0 ≤ 1; omega
        | succ k ihk =>
          intro hk
          have h2 := ihk (by omega)
          have h3 := ih k (by omega)
          show sumN _ k + okI W h k (m + 1 - k) * wyP W h k ≤ _
          rw [Nat.pow_succ]
          have h4 : okI W h k (m + 1 - k) ≤ 1 := by unfold okI; split <;> omega
          have h5 := Nat.mul_le_mul h4 h3
          omega
      exact h1 (m + 1) (Nat.le_refl _)
