/-! PURE: the sheet -/
def wtN (A : Nat → Nat) (o j : Nat) : Nat := A (7 + A (o + 4 + j))
def dst (p b : Nat) : Nat := (p - b) + (b - p)
def ShX : Nat → Prop := fun r => 7 ≤ r ∧ r ≤ 11
def ShR (M : Mem) (A : Nat → Nat) (o : Nat) : Prop := gI M 7 4 = nI (A o) ∧ gI M 7 5 = nI (A 2) ∧ gI M 7 6 = nI (A 1) ∧ (∀ j, j < A o → gI M 8 j = nI (wtN A o j)) ∧ ∀ g, g + 1 < A o → gI M 9 g = nI (fineN A o g 1) ∧ gI M 10 g = nI (fineN A o g 0)
theorem k7 : kd 7 = 4 := by decide +kernel
theorem k8 : kd 8 = 8 ∧ ln 8 = 12 ∧ fld 7 0 = 8 := by decide +kernel
theorem k9 : kd 9 = 8 ∧ ln 9 = 12 ∧ fld 7 1 = 9 := by decide +kernel
theorem k10 : kd 10 = 8 ∧ ln 10 = 12 ∧ fld 7 2 = 10 := by decide +kernel
theorem k11 : kd 11 = 8 ∧ ln 11 = 13 ∧ fld 7 3 = 11 := by decide +kernel
theorem p_abs {p b : Nat} (hp : p < 2 ^ 30) (hb : b < 2 ^ 30) : (if 0 ≤ nI p - nI b then nI p - nI b else 0 - (nI p - nI b)) = nI (dst p b) := by
  unfold dst
  by_cases h : b ≤ p
  · rw [pk_sub h, if_pos (nI_pos' (by omega)), show b - p = 0 by omega, Nat.add_zero]
  · rw [if_neg (Int32.not_le.mpr (pk_sneg hb (by omega))), show p - b = 0 by omega, Nat.zero_add, ← pk_sub (show p ≤ b by omega), show (0 : Int32) = nI 0 from rfl]
    apply Int32.toInt_inj.mp
    have e : nI 0 - (nI p - nI b) = nI b - nI p := by
      rw [show nI 0 = 0 from rfl, Int32.zero_sub, Int32.neg_sub]
    rw [e]
section SH
variable {M : Mem} {a : Nat} {A : Nat → Nat}
theorem OkE.wt (hO : Ok A) {o j : Nat} (hK : OkE A o) (hj : j < A o) : 1 ≤ wtN A o j ∧ wtN A o j ≤ 9 := hO.w _ (hK.2.2.2.1 j hj)
theorem p_readF (ha : kd a = 5) (hO : Ok A) {e o : Nat} (he : kd e = 1) (hK : OkE A o) : ∀ (n j : Nat) (M : Mem), RelS M a A → EdR M e A o → gI M 7 4 = nI (A o) → j ≤ A o - 1 → A o - 1 - j < n →
    ∃ M2, f_X3_read_70 n 7 a e (nI j) M = some M2 ∧ Sm (fun r => r = 9 ∨ r = 10) M M2 ∧ (∀ g, g < j → gI M2 9 g = gI M 9 g ∧ gI M2 10 g = gI M 10 g) ∧ ∀ g, j ≤ g → g + 1 < A o → gI M2 9 g = nI (fineN A o g 1) ∧ gI M2 10 g = nI (fineN A o g 0) := by
  have hw := hK.2.1
  have hw1 := hK.1
  have hs := st_r ha
  have hee := ed_at he
  have hm := hO.m
  intro n
  induction n with
  | zero => intro j M _ _ _ _ h; omega
  | succ n ih =>
    intro j M hR hE h7 hj hn
    rw [f_X3_read_70, gdd_t k7, h7, nI_sub1 hw1]
    by_cases h : j = A o - 1
    · rw [if_pos (nI_le' (by omega) (by omega) (by omega))]
      exact ⟨M, rfl, Sm.rf, fun g _ => ⟨rfl, rfl⟩, fun g h1 h2 => by omega⟩
    · rw [if_neg (nI_nle' (by omega) (by omega) (by omega)), gdd_t ha, p_countingAt ha hO hR he hE hK (by omega), obb_s, p_ruEnc ha hO hR (fun r h => cnt_lt h), obb_s, k9.2.2, k10.2.2]
      -- the two puts, whatever the fines
      have go : ∀ v1 v2 : Nat, v1 = fineN A o j 1 → v2 = fineN A o j 0 → ∃ M2, f_X3_read_70 n 7 a e (nI (j + 1)) (sI (sI M 9 j (nI v1)) 10 j (nI v2)) = some M2 ∧ Sm (fun r => r = 9 ∨ r = 10) M M2 ∧ (∀ g, g < j → gI M2 9 g = gI M 9 g ∧ gI M2 10 g = gI M 10 g) ∧ ∀ g, j ≤ g → g + 1 < A o → gI M2 9 g = nI (fineN A o g 1) ∧ gI M2 10 g = nI (fineN A o g 0) := by
        intro v1 v2 e1 e2
        have hSm : Sm (fun r => r = 9 ∨ r = 10) M (sI (sI M 9 j (nI v1)) 10 j (nI v2)) := (Sm.put (Sm.put Sm.rf (Or.inl rfl)) (Or.inr rfl))
        have hnx : ∀ r, (r = 9 ∨ r = 10) → r < a ∨ a + 23 ≤ r := fun r h => by omega
        have hne : ¬ (e = 9 ∨ e = 10) := by
          rintro (h | h) <;> subst h <;> revert he <;> decide
        have hne1 : ¬ (e + 1 = 9 ∨ e + 1 = 10) := by
          rintro (h | h)
          · have : e = 8 := by omega
            subst this; revert he; decide
          · have : e = 9 := by omega
            subst this; revert he; decide
        obtain ⟨M2, r1, r2, r3, r4⟩ := ih (j + 1) _ (hR.sm hSm hnx hO.n hm) (hE.sm hSm hne hne1) ((hSm.1 7 4 (by decide)).trans h7) (by omega) (by omega)
        refine ⟨M2, r1, hSm.tr r2, fun g hg => ?_, fun g h1 h2 => ?_⟩
        · obtain ⟨x1, x2⟩ := r3 g (by omega)
          rw [gI_n (Or.inl (by decide)), gI_n (Or.inr (by omega))] at x1
          rw [gI_n (Or.inr (by omega)), gI_n (Or.inl (by decide))] at x2
          exact ⟨x1, x2⟩
        · by_cases hg : g = j
          · subst hg
            obtain ⟨x1, x2⟩ := r3 g (by omega)
            rw [gI_n (Or.inl (by decide)), gI_s, e1] at x1
            rw [gI_s, e2] at x2
            exact ⟨x1, x2⟩
          · exact r4 g (by omega) h2
      cases hc : cnt A (A (o + 4 + j)) (A (o + 5 + j)) with
      | none =>
        rw [show rcd a none = 0 from rfl, if_pos rfl, show (0 : Int32) = nI 0 from rfl, p_put k9.1 (by rw [k9.2.1]; omega) (by rw [k9.2.1]; omega), obb_s, if_pos rfl, p_put k10.1 (by rw [k10.2.1]; omega) (by rw [k10.2.1]; omega), obb_s, bvv_e, nI_1]
        exact go 0 0 (by unfold fineN; rw [hc]) (by unfold fineN; rw [hc])
      | some r =>
        have hr := cnt_lt hc
        have hq := (st_ru ha (show r < 10 by omega)).2
        have hS1 : Sm (fun r => r = 9 ∨ r = 10) M (sI M 9 j (nI (fineN A o j 1))) := Sm.put Sm.rf (Or.inl rfl)
        have f1 := p_fineFor hq (hR.r r hr) (hO.r r hr) (b := 1) (by omega)
        have e1 : fineN A o j 1 = if A (15 + 6 * r) = 1 then 0 else A (16 + 6 * r) := by unfold fineN; rw [hc]
        have e0 : fineN A o j 0 = if A (15 + 6 * r) = 0 then 0 else A (16 + 6 * r) := by unfold fineN; rw [hc]
        have f0 := p_fineFor hq ((hR.r r hr).sm hS1 (by omega)) (hO.r r hr) (b := 0) (by omega)
        rw [← e1] at f1
        rw [← e0] at f0
        rw [show rcd a (some r) = a + 13 + r from rfl, if_neg (by omega), gdd_t hq, show (1 : Int32) = nI 1 from rfl, f1, obb_s, p_put k9.1 (by rw [k9.2.1]; omega) (by rw [k9.2.1]; omega), obb_s, show (0 : Int32) = nI 0 from rfl, f0, obb_s, p_put k10.1 (by rw [k10.2.1]; omega) (by rw [k10.2.1]; omega), obb_s, bvv_e, nI_add]
        exact go _ _ rfl rfl
theorem ed_n {e : Nat} (he : kd e = 1) : ¬ ShX e ∧ ¬ ShX (e + 1) := by
  have h : ∀ e, e < 160 → kd e = 1 → e = 5 ∨ 12 < e := by decide +kernel
  have := h e (kd_L he (by decide)) he
  unfold ShX
  omega
theorem p_readW (ha : kd a = 5) (hO : Ok A) {e o : Nat} (he : kd e = 1) (hK : OkE A o) : ∀ (n j : Nat) (M : Mem), RelS M a A → EdR M e A o → gI M 7 4 = nI (A o) → j ≤ A o → A o - j < n →
    ∃ M2, f_X3_read_34 n 7 a e (nI j) M = some M2 ∧ Sm (fun r => 8 ≤ r ∧ r ≤ 10) M M2 ∧ (∀ g, g < j → gI M2 8 g = gI M 8 g) ∧ (∀ g, j ≤ g → g < A o → gI M2 8 g = nI (wtN A o g)) ∧ ∀ g, g + 1 < A o → gI M2 9 g = nI (fineN A o g 1) ∧ gI M2 10 g = nI (fineN A o g 0) := by
  have hw := hK.2.1
  have hw1 := hK.1
  have hs := st_r ha
  have hm := hO.m
  intro n
  induction n with
  | zero => intro j M _ _ _ _ h; omega
  | succ n ih =>
    intro j M hR hE h7 hj hn
    rw [f_X3_read_34, gdd_t k7, h7]
    by_cases h : j = A o
    · rw [if_pos (nI_le' (by omega) (by omega) (by omega))]
      obtain ⟨M2, r1, r2, r3, r4⟩ := p_readF ha hO he hK FU 0 M hR hE h7 (by omega) (by unfold FU; omega)
      exact ⟨M2, r1, r2.mono (fun r h => by omega), fun g _ => r2.1 8 g (by decide), fun g h1 h2 => by omega, fun g hg => r4 g (by omega) hg⟩
    · have hk := hK.2.2.2.1 j (by omega)
      have hne := ed_n he
      rw [if_neg (nI_nle' (by omega) (by omega) (by omega)), gdd_t ha, gdd_t he, p_kindE he hE hK (by omega), obb_s, (st_0 ha).1, p_at (st_0 ha).2.1 (by rw [(st_0 ha).2.2]; omega) (by rw [(st_0 ha).2.2]; omega), obb_s, hR.w _ hk, k8.2.2, p_put k8.1 (by rw [k8.2.1]; omega) (by rw [k8.2.1]; omega), obb_s, bvv_e, nI_1]
      have hSm : Sm (fun r => 8 ≤ r ∧ r ≤ 10) M (sI M 8 j (nI (wtN A o j))) := Sm.put Sm.rf ⟨by omega, by omega⟩
      unfold ShX at hne
      obtain ⟨M2, r1, r2, r3, r4, r5⟩ := ih (j + 1) _ (hR.sm hSm (fun r h => by omega) hO.n hm) (hE.sm hSm (by omega) (by omega)) ((hSm.1 7 4 (by decide)).trans h7) (by omega) (by omega)
      refine ⟨M2, r1, hSm.tr r2, fun g hg => ?_, fun g h1 h2 => ?_, r5⟩
      · have := r3 g (by omega)
        rw [gI_n (Or.inr (by omega))] at this
        exact this
      · by_cases hg : g = j
        · subst hg
          have := r3 g (by omega)
          rw [gI_s] at this
          exact this
        · exact r4 g (by omega) h2
theorem p_read (ha : kd a = 5) (hO : Ok A) (hR : RelS M a A) {e o : Nat} (he : kd e = 1) (hE : EdR M e A o) (hK : OkE A o) : ∃ M2, f_X3_read 7 a e M = some M2 ∧ Sm ShX M M2 ∧ ShR M2 A o := by
  have hs := st_r ha
  have hm := hO.m
  have hne := ed_n he
  unfold f_X3_read
  rw [gdd_t he, gdd_t k7, bvv_e, gdd_t ha, hE.1]
  have s1 : Sm ShX M (sI M 7 4 (nI (A o))) := Sm.put Sm.rf ⟨by omega, by omega⟩
  rw [(st_1 ha).1, show (0 : Int32) = nI 0 from rfl, p_at (st_1 ha).2.1 (by rw [(st_1 ha).2.2]; omega) (by rw [(st_1 ha).2.2]; omega), obb_s, s1.1 (a + 2) 0 (by unfold ShX; omega), hR.s0, bvv_e]
  have s2 : Sm ShX M (sI (sI M 7 4 (nI (A o))) 7 6 (nI (A 1))) := Sm.put s1 ⟨by omega, by omega⟩
  rw [show (1 : Int32) = nI 1 from rfl, p_at (st_1 ha).2.1 (by rw [(st_1 ha).2.2]; omega) (by rw [(st_1 ha).2.2]; omega), obb_s, s2.1 (a + 2) 1 (by unfold ShX; omega), hR.s1, bvv_e]
  have s3 : Sm ShX M (sI (sI (sI M 7 4 (nI (A o))) 7 6 (nI (A 1))) 7 5 (nI (A 2))) := Sm.put s2 ⟨by omega, by omega⟩
  obtain ⟨M2, r1, r2, r3, r4, r5⟩ := p_readW ha hO he hK FU 0 _ (hR.sm s3 (fun r h => by unfold ShX at h; omega) hO.n hm) (hE.sm s3 hne.1 hne.2) (by rw [gI_n (Or.inr (by decide)), gI_n (Or.inr (by decide)), gI_s]) (by omega) (by unfold FU; have := hK.2.1; omega)
  refine ⟨M2, r1, s3.tr (r2.mono (fun r h => ⟨by omega, by omega⟩)), ?_, ?_, ?_, fun j hj => r4 j (by omega) hj, r5⟩
  · rw [r2.1 7 4 (by decide), gI_n (Or.inr (by decide)), gI_n (Or.inr (by decide)), gI_s]
  · rw [r2.1 7 5 (by decide), gI_s]
  · rw [r2.1 7 6 (by decide), gI_n (Or.inr (by decide)), gI_s]
theorem ShR.sm {X : Nat → Prop} {M2 : Mem} {o : Nat} (h : Sm X M M2) (hX : ∀ r, 7 ≤ r → r ≤ 10 → ¬ X r) (hs : ShR M A o) : ShR M2 A o :=
  ⟨(h.1 7 _ (hX 7 (by omega) (by omega))).trans hs.1, (h.1 7 _ (hX 7 (by omega) (by omega))).trans hs.2.1, (h.1 7 _ (hX 7 (by omega) (by omega))).trans hs.2.2.1, fun j hj => (h.1 8 _ (hX 8 (by omega) (by omega))).trans (hs.2.2.2.1 j hj), fun g hg => ⟨(h.1 9 _ (hX 9 (by omega) (by omega))).trans (hs.2.2.2.2 g hg).1, (h.1 10 _ (hX 10 (by omega) (by omega))).trans (hs.2.2.2.2 g hg).2⟩⟩
theorem p_w {o j : Nat} (hs : ShR M A o) (hK : OkE A o) (hj : j < A o) : f_X5_at (fld 7 0) (nI j) M = some (nI (wtN A o j)) := by
  have hw := hK.2.1
  rw [k8.2.2, p_at k8.1 (by rw [k8.2.1]; omega) (by rw [k8.2.1]; omega), hs.2.2.2.1 j hj]
theorem p_f1 {o j : Nat} (hs : ShR M A o) (hK : OkE A o) (hj : j + 1 < A o) : f_X5_at (fld 7 1) (nI j) M = some (nI (fineN A o j 1)) := by
  have hw := hK.2.1
  rw [k9.2.2, p_at k9.1 (by rw [k9.2.1]; omega) (by rw [k9.2.1]; omega), (hs.2.2.2.2 j hj).1]
theorem p_f0 {o j : Nat} (hs : ShR M A o) (hK : OkE A o) (hj : j + 1 < A o) : f_X5_at (fld 7 2) (nI j) M = some (nI (fineN A o j 0)) := by
  have hw := hK.2.1
  rw [k10.2.2, p_at k10.1 (by rw [k10.2.1]; omega) (by rw [k10.2.1]; omega), (hs.2.2.2.2 j hj).2]
theorem p_wholeL {o : Nat} (hs : ShR M A o) (hK : OkE A o) : ∀ (n j : Nat), j ≤ A o → A o - j < n → f_X3_wholeWeight_4 M n 7 (nI (sumN (wtN A o) j)) (nI j) = some (nI (sumN (wtN A o) (A o))) := by
  have hw := hK.2.1
  intro n
  induction n with
  | zero => intro j _ h; omega
  | succ n ih =>
    intro j hj hn
    rw [f_X3_wholeWeight_4, gdd_t k7, hs.1]
    by_cases h : j = A o
    · subst h
      rw [if_pos (nI_le' (by omega) (by omega) (by omega))]
    · rw [if_neg (nI_nle' (by omega) (by omega) (by omega)), p_w hs hK (by omega), obb_s, bvv_e, bvv_e, nI_1, nI_add]
      exact ih (j + 1) (by omega) (by omega)
theorem p_wholeWeight {o : Nat} (hs : ShR M A o) (hK : OkE A o) : f_X3_wholeWeight 7 M = some (nI (sumN (wtN A o) (A o))) := by
  have hw := hK.2.1
  exact p_wholeL hs hK FU 0 (by omega) (by unfold FU; omega)
/-- behind k words: the cost of the clauses that have ended, the weight of the one that goes on -/
def ccS (wt : Nat → Nat) (bal w c : Nat) : Nat → Nat × Nat
  | 0 => (0, 0)
  | k + 1 => if k + 1 = w ∨ bitN c k = 1 then ((ccS wt bal w c k).1 + dst ((ccS wt bal w c k).2 + wt k) bal, 0) else ((ccS wt bal w c k).1, (ccS wt bal w c k).2 + wt k)
theorem ccS_2 {wt : Nat → Nat} {bal w c : Nat} (h : ∀ j, j < w → wt j ≤ 9) : ∀ k, k ≤ w → (ccS wt bal w c k).2 ≤ 9 * k
  | 0, _ => Nat.zero_le _
  | k + 1, hk => by
    have := ccS_2 h (bal := bal) (c := c) k (by omega)
    have := h k (by omega)
    unfold ccS
    split
    · exact Nat.zero_le _
    · show _ + _ ≤ _; omega
theorem ccS_1 {wt : Nat → Nat} {bal w c : Nat} (hb : bal ≤ 30) (h : ∀ j, j < w → wt j ≤ 9) : ∀ k, k ≤ w → (ccS wt bal w c k).1 ≤ k * (30 + 9 * w)
  | 0, _ => Nat.zero_le _
  | k + 1, hk => by
    have h1 := ccS_1 hb h (c := c) k (by omega)
    have h2 := ccS_2 h (bal := bal) (c := c) k (by omega)
    have h3 := h k (by omega)
    rw [Nat.succ_mul]
    unfold ccS
    split
    · show _ + dst _ _ ≤ _
      unfold dst
      omega
    · show _ ≤ _
      omega
theorem p_clauseCost {o p : Nat} (hs : ShR M A o) (hO : Ok A) (hp : p < 2 ^ 30) : f_X3_clauseCost 7 (nI p) M = some (nI (dst p (A 1))) := by
  have hb := hO.b
  unfold f_X3_clauseCost
  rw [gdd_t k7, hs.2.2.1, p_abs hp (by omega)]
theorem p_clausesL {o c : Nat} (hs : ShR M A o) (hO : Ok A) (hK : OkE A o) (hc : c < 2 ^ 31) : ∀ (n j : Nat), j ≤ A o → A o - j < n → f_X3_clausesCost_7 M n 7 (nI c) (nI (ccS (wtN A o) (A 1) (A o) c j).1) (nI (ccS (wtN A o) (A 1) (A o) c j).2) (nI j) = some (nI (ccS (wtN A o) (A 1) (A o) c (A o)).1) := by
  have hw := hK.2.1
  have hw1 := hK.1
  have hb := hO.b
  have hwt : ∀ j, j < A o → wtN A o j ≤ 9 := fun j hj => (OkE.wt hO hK hj).2
  intro n
  induction n with
  | zero => intro j _ h; omega
  | succ n ih =>
    intro j hj hn
    rw [f_X3_clausesCost_7, gdd_t k7, hs.1]
    by_cases h : j = A o
    · subst h
      rw [if_pos (nI_le' (by omega) (by omega) (by omega))]
    · have hlt : j < A o := by omega
      have h2 := ccS_2 hwt (bal := A 1) (c := c) j hj
      have h3 := hwt j hlt
      have h4 := bitN_lt c j
      rw [if_neg (nI_nle' (by omega) (by omega) hlt), p_w hs hK hlt, obb_s, bvv_e, nI_add, nI_sub1 hw1, p_clauseCost hs hO (by omega), obb_s, bvv_e, nI_add, bvv_e, nI_1, p_bit hc (by omega), show (0 : Int32) = nI 0 from rfl, bvv_e]
      have h5 := ih (j + 1) (by omega) (by omega)
      rw [ccS] at h5
      by_cases h6 : j + 1 = A o
      · rw [if_pos (show nI j = nI (A o - 1) by rw [show A o - 1 = j by omega])]
        rw [if_pos (Or.inl h6)] at h5
        exact h5
      · rw [if_neg (nI_ne (by omega) (by omega) (by omega))]
        by_cases h7 : bitN c j = 1
        · rw [if_pos ((nI_2 h4).mpr h7)]
          rw [if_pos (Or.inr h7)] at h5
          exact h5
        · rw [if_neg (fun z => h7 ((nI_2 h4).mp z))]
          rw [if_neg (fun z => z.elim h6 h7)] at h5
          exact h5
def clN (A : Nat → Nat) (o c : Nat) : Nat := (ccS (wtN A o) (A 1) (A o) c (A o)).1
def fnN (A : Nat → Nat) (o c : Nat) : Nat := sumN (fun g => fineN A o g (bitN c g)) (A o - 1)
def costN (A : Nat → Nat) (o c : Nat) : Nat := clN A o c + fnN A o c
theorem p_clausesCost {o c : Nat} (hs : ShR M A o) (hO : Ok A) (hK : OkE A o) (hc : c < 2 ^ 31) : f_X3_clausesCost 7 (nI c) M = some (nI (clN A o c)) := by
  have hw := hK.2.1
  exact p_clausesL hs hO hK hc FU 0 (by omega) (by unfold FU; omega)
theorem p_finesL {o c : Nat} (hs : ShR M A o) (hK : OkE A o) (hc : c < 2 ^ 31) : ∀ (n j : Nat), j ≤ A o - 1 → A o - 1 - j < n → f_X3_fines_4 M n 7 (nI c) (nI (sumN (fun g => fineN A o g (bitN c g)) j)) (nI j) = some (nI (fnN A o c)) := by
  have hw := hK.2.1
  have hw1 := hK.1
  intro n
  induction n with
  | zero => intro j _ h; omega
  | succ n ih =>
    intro j hj hn
    rw [f_X3_fines_4, gdd_t k7, hs.1, nI_sub1 hw1]
    by_cases h : j = A o - 1
    · subst h
      rw [if_pos (nI_le' (by omega) (by omega) (by omega))]
      rfl
    · have h4 := bitN_lt c j
      have h5 := ih (j + 1) (by omega) (by omega)
      rw [sumN] at h5
      rw [if_neg (nI_nle' (by omega) (by omega) (by omega)), p_bit hc (by omega), p_f1 hs hK (by omega), obb_s, p_f0 hs hK (by omega), obb_s, bvv_e, bvv_e, bvv_e, bvv_e, nI_1, nI_add, nI_add]
      by_cases h7 : bitN c j = 1
      · rw [if_pos ((nI_2 h4).mpr h7)]
        rw [h7] at h5
        exact h5
      · rw [if_neg (fun z => h7 ((nI_2 h4).mp z))]
        rw [show bitN c j = 0 by omega] at h5
        exact h5
theorem p_fines {o c : Nat} (hs : ShR M A o) (hK : OkE A o) (hc : c < 2 ^ 31) : f_X3_fines 7 (nI c) M = some (nI (fnN A o c)) := by
  have hw := hK.2.1
  exact p_finesL hs hK hc FU 0 (by omega) (by unfold FU; omega)
theorem p_cost {o c : Nat} (hs : ShR M A o) (hO : Ok A) (hK : OkE A o) (hc : c < 2 ^ 31) : f_X3_cost 7 (nI c) M = some (nI (costN A o c)) := by
  unfold f_X3_cost
  rw [gdd_t k7, p_clausesCost hs hO hK hc, obb_s, p_fines hs hK hc, obb_s, nI_add]
  rfl
theorem sumN_le {f : Nat → Nat} {b : Nat} (h : ∀ j, f j ≤ b) : ∀ k, sumN f k ≤ k * b
  | 0 => Nat.zero_le _
  | k + 1 => by
    have h1 := sumN_le h k
    have h2 := h k
    rw [Nat.succ_mul]
    show sumN f k + f k ≤ _
    omega
theorem costN_le (hO : Ok A) {o c : Nat} (hK : OkE A o) : costN A o c ≤ 2000 := by
  have hw := hK.2.1
  have hb := hO.b
  have h1 := ccS_1 (c := c) hb.2 (fun j hj => (OkE.wt hO hK hj).2) (A o) (Nat.le_refl _)
  have h2 := sumN_le (f := fun g => fineN A o g (bitN c g)) (b := 20) (fun g => fineN_le hO o g _) (A o - 1)
  have h3 : A o * (30 + 9 * A o) ≤ 12 * (30 + 9 * 12) := Nat.mul_le_mul hw (by omega)
  unfold costN clN fnN
  omega
end SH
