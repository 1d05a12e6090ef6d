/-! PURE: suits and editions, the class -/
theorem nx_xor (a b : Nat) : nI a ^^^ nI b = nI (a ^^^ b) := by
  apply Int32.toBitVec_inj.1
  show BitVec.ofNat 32 a ^^^ BitVec.ofNat 32 b = BitVec.ofNat 32 (a ^^^ b)
  apply BitVec.eq_of_getLsbD_eq
  intro i hi
  simp [hi]
def flN (c g : Nat) : Nat := c ^^^ 2 ^ g
theorem flN_lt {c g k : Nat} (hc : c < 2 ^ k) (hg : g < k) : flN c g < 2 ^ k := Nat.xor_lt_two_pow hc (Nat.pow_lt_pow_right (by decide) hg)
def anyF (P : Nat → Bool) (j : Nat) : Nat → Bool
  | 0 => false
  | k + 1 => P j || anyF P (j + 1) k
def allF (P : Nat → Bool) (j : Nat) : Nat → Bool
  | 0 => true
  | k + 1 => P j && allF P (j + 1) k
def eqW (A : Nat → Nat) (o w : Nat) (K : Nat → Nat) : Bool := (A o == w) && allF (fun j => A (o + 4 + j) == K j) 0 w
section SU
variable {M : Mem} {a : Nat} {A B : Nat → Nat}
theorem p_moved {e o g : Nat} (he : kd e = 1) (hE : EdR M e A o) (hg : g < 31) : f_X0_movedCommas e (nI g) M = some (nI (flN (A (o + 1)) g)) := by
  unfold f_X0_movedCommas
  rw [gdd_t he, hE.2.1, p_shl1 hg, nx_xor]
  rfl
theorem p_hasWordsL {e e2 o o2 : Nat} (he : kd e = 1) (he2 : kd e2 = 1) (hE : EdR M e A o) (hE2 : EdR M e2 B o2) (hK : OkE A o) (hK2 : OkE B o2) (hw : A o = B o2) : ∀ (n j : Nat), j ≤ A o → A o - j < n → f_X0_hasWordsOf_15 M n e e2 (nI j) = some (nI (allF (fun j => A (o + 4 + j) == B (o2 + 4 + j)) j (A o - j)).toNat) := by
  have h12 := hK.2.1
  intro n
  induction n with
  | zero => intro j _ h; omega
  | succ n ih =>
    intro j hj hn
    rw [f_X0_hasWordsOf_15, gdd_t he, hE.1]
    by_cases h : j = A o
    · subst h
      rw [if_pos (nI_le' (by omega) (by omega) (by omega)), Nat.sub_self]
      rfl
    · have k1 := hK.2.2.2.1 j (by omega)
      have k2 := hK2.2.2.2.1 j (by omega)
      rw [if_neg (nI_nle' (by omega) (by omega) (by omega)), p_kindE he hE hK (by omega), obb_s, gdd_t he2, p_kindE he2 hE2 hK2 (by omega), obb_s, bvv_e, nI_1, ih (j + 1) (by omega) (by omega)]
      obtain ⟨d, hd⟩ : ∃ d, A o - j = d + 1 := ⟨A o - j - 1, by omega⟩
      rw [hd, allF, show A o - (j + 1) = d by omega]
      by_cases hq : A (o + 4 + j) = B (o2 + 4 + j)
      · rw [if_pos (by rw [hq]), show (A (o + 4 + j) == B (o2 + 4 + j)) = true by rw [hq]; exact beq_self_eq_true _, Bool.true_and]
      · rw [if_neg (nI_ne (by omega) (by omega) hq), show (A (o + 4 + j) == B (o2 + 4 + j)) = false by exact beq_eq_false_iff_ne.mpr hq, Bool.false_and]
        rfl
theorem p_hasWords {e e2 o o2 : Nat} (he : kd e = 1) (he2 : kd e2 = 1) (hE : EdR M e A o) (hE2 : EdR M e2 B o2) (hK : OkE A o) (hK2 : OkE B o2) : f_X0_hasWordsOf e e2 M = some (nI (eqW A o (B o2) (fun j => B (o2 + 4 + j))).toNat) := by
  have h12 := hK.2.1
  have h13 := hK2.2.1
  unfold f_X0_hasWordsOf eqW
  rw [gdd_t he, gdd_t he2, hE.1, hE2.1]
  by_cases h : A o = B o2
  · rw [if_pos (by rw [h]), show (0 : Int32) = nI 0 from rfl, p_hasWordsL he he2 hE hE2 hK hK2 h FU 0 (by omega) (by unfold FU; omega), show (A o == B o2) = true by rw [h]; exact beq_self_eq_true _, Bool.true_and, Nat.sub_zero, h]
  · rw [if_neg (nI_ne (by omega) (by omega) h), show (A o == B o2) = false by exact beq_eq_false_iff_ne.mpr h, Bool.false_and]
    rfl
/-- the edition k has these words and commas -/
def lkE (A : Nat → Nat) (w : Nat) (K : Nat → Nat) (c k : Nat) : Bool := (A (74 + 16 * k) == c) && eqW A (73 + 16 * k) w K
theorem p_likeL (ha : kd a = 5) (hO : Ok A) (hR : RelS M a A) {e2 o2 c : Nat} (he2 : kd e2 = 1) (hE2 : EdR M e2 B o2) (hK2 : OkE B o2) (hc : c < 2 ^ 30) : ∀ (n j : Nat), j ≤ A 3 → A 3 - j < n → f_X4_hasEditionLike_2 M n a e2 (nI c) (nI j) = some (nI (anyF (lkE A (B o2) (fun j => B (o2 + 4 + j)) c) j (A 3 - j)).toNat) := by
  have h4 := hO.n
  intro n
  induction n with
  | zero => intro j _ h; omega
  | succ n ih =>
    intro j hj hn
    rw [f_X4_hasEditionLike_2, gdd_t ha, hR.n]
    by_cases h : j = A 3
    · subst h
      rw [if_pos (nI_le' (by omega) (by omega) (by omega)), Nat.sub_self]
      rfl
    · have hlt : j < A 3 := by omega
      have hK := hO.e j hlt
      have hcc := hK.c
      have hE := hR.e j hlt
      have he := (st_ed ha (show j < 4 by omega)).2
      rw [if_neg (nI_nle' (by omega) (by omega) hlt), p_edAt ha hR.n h4 hlt, obb_s, if_neg (by omega), gdd_t he, hE.2.1, p_hasWords he he2 hE hE2 hK hK2, obb_s]
      simp only [bvv_e]
      rw [nI_1, ih (j + 1) (by omega) (by omega)]
      obtain ⟨d, hd⟩ : ∃ d, A 3 - j = d + 1 := ⟨A 3 - j - 1, by omega⟩
      rw [hd, anyF, show A 3 - (j + 1) = d by omega]
      by_cases hq : A (73 + 16 * j + 1) = c
      · have hq2 : A (74 + 16 * j) = c := by rw [show 74 + 16 * j = 73 + 16 * j + 1 by omega]; exact hq
        rw [if_pos (by rw [hq])]
        have e1 : lkE A (B o2) (fun j => B (o2 + 4 + j)) c j = eqW A (73 + 16 * j) (B o2) (fun j => B (o2 + 4 + j)) := by
          unfold lkE
          rw [hq2, beq_self_eq_true, Bool.true_and]
        rw [e1]
        cases eqW A (73 + 16 * j) (B o2) (fun j => B (o2 + 4 + j))
        · rw [if_pos (by rfl), Bool.false_or]
        · rw [if_neg (by decide), Bool.true_or]; rfl
      · have hq2 : ¬ A (74 + 16 * j) = c := by rw [show 74 + 16 * j = 73 + 16 * j + 1 by omega]; exact hq
        rw [if_neg (nI_ne (by omega) (by omega) hq)]
        have e1 : lkE A (B o2) (fun j => B (o2 + 4 + j)) c j = false := by
          unfold lkE
          rw [show (A (74 + 16 * j) == c) = false from beq_eq_false_iff_ne.mpr hq2, Bool.false_and]
        rw [e1, Bool.false_or]
theorem p_like (ha : kd a = 5) (hO : Ok A) (hR : RelS M a A) {e2 o2 c : Nat} (he2 : kd e2 = 1) (hE2 : EdR M e2 B o2) (hK2 : OkE B o2) (hc : c < 2 ^ 30) : f_X4_hasEditionLike a e2 (nI c) M = some (nI (anyF (lkE A (B o2) (fun j => B (o2 + 4 + j)) c) 0 (A 3)).toNat) := by
  have h4 := hO.n
  have h := p_likeL ha hO hR he2 hE2 hK2 hc FU 0 (by omega) (by unfold FU; omega)
  rw [Nat.sub_zero] at h
  exact h
/-- stayed today -/
def styN (A : Nat → Nat) (o : Nat) : Nat := if nI (A 0) < nI (A (o + 2)) then 1 else 0
theorem p_isStayed (ha : kd a = 5) (hR : RelS M a A) {e o : Nat} (he : kd e = 1) (hE : EdR M e A o) : f_X4_isStayed a e M = some (nI (styN A o)) := by
  unfold f_X4_isStayed styN
  rw [gdd_t ha, gdd_t he, hE.2.2.1, hR.d]
  by_cases h : nI (A (o + 2)) ≤ nI (A 0)
  · rw [if_pos h, if_neg (Int32.not_lt.mpr h)]; rfl
  · rw [if_neg h, if_pos (Int32.not_le.mp h)]; rfl
theorem styN_lt (o : Nat) : styN A o < 2 := by unfold styN; split <;> omega
/-- why a suit for the gap g of the edition at o is refused -/
def rsnN (A : Nat → Nat) (o g : Nat) : Nat := if styN A o = 1 then 1 else if costN A o (A (o + 1)) ≤ costN A o (flN (A (o + 1)) g) then 2 else if anyF (lkE A (A o) (fun j => A (o + 4 + j)) (flN (A (o + 1)) g)) 0 (A 3) = true then 3 else 0
theorem lay1 : kd 1 = 6 ∧ fld 1 0 = 12 ∧ fld 1 5 = 7 ∧ kd 12 = 5 := by decide +kernel
theorem p_reason (hO : Ok A) (hR : RelS M 12 A) {e o g : Nat} (he : kd e = 1) (hE : EdR M e A o) (hK : OkE A o) (hs : ShR M A o) (hg : g + 1 < A o) : f_X5_reasonAgainst 1 e (nI g) M = some (nI (rsnN A o g)) := by
  have hw := hK.2.1
  have hc := hK.c
  have hf : flN (A (o + 1)) g < 2 ^ 11 := flN_lt hc (by omega)
  have hs2 := styN_lt (A := A) o
  unfold f_X5_reasonAgainst rsnN
  rw [gdd_t lay1.1, lay1.2.1, lay1.2.2.1, gdd_t lay1.2.2.2, p_isStayed lay1.2.2.2 hR he hE, obb_s]
  by_cases h1 : styN A o = 1
  · rw [h1, if_neg (by decide), if_pos rfl]; rfl
  · have h0 : styN A o = 0 := by omega
    have c1 := costN_le hO hK (c := flN (A (o + 1)) g)
    have c2 := costN_le hO hK (c := A (o + 1))
    rw [h0, if_pos (show nI 0 = 0 from rfl), if_neg (by decide), gdd_t he, p_moved he hE (by omega), obb_s, gdd_t k7, p_cost hs hO hK (by omega), obb_s, hE.2.1, p_cost hs hO hK (by omega), obb_s]
    by_cases h2 : costN A o (A (o + 1)) ≤ costN A o (flN (A (o + 1)) g)
    · rw [if_neg (fun z => by have := (nI_ltI (by omega) (by omega)).mp z; omega), if_pos h2]; rfl
    · rw [if_pos ((nI_ltI (by omega) (by omega)).mpr (by omega)), if_neg h2, p_like lay1.2.2.2 hO hR he hE hK (by omega), obb_s]
      cases anyF (lkE A (A o) (fun j => A (o + 4 + j)) (flN (A (o + 1)) g)) 0 (A 3)
      · rw [if_pos (by rfl), if_neg (by decide)]; rfl
      · rw [if_neg (by decide), if_pos rfl]; rfl
/-- the best suit -/
def bsS (A : Nat → Nat) (o : Nat) : Nat → Option (Nat × Nat)
  | 0 => none
  | g + 1 => match bsS A o g with
    | none => if rsnN A o g = 0 then some (g, costN A o (flN (A (o + 1)) g)) else none
    | some (b, l) => if costN A o (flN (A (o + 1)) g) < l ∧ rsnN A o g = 0 then some (g, costN A o (flN (A (o + 1)) g)) else some (b, l)
def bsE (x : Option (Nat × Nat)) : Int32 := match x with
  | none => -4
  | some (g, _) => nI g
def bsL (x : Option (Nat × Nat)) : Int32 := match x with
  | none => 0
  | some (_, l) => nI l
theorem bsS_lt (hO : Ok A) {o : Nat} (hK : OkE A o) : ∀ {k g l : Nat}, bsS A o k = some (g, l) → g < k ∧ l ≤ 2000
  | 0, g, l, h => by cases h
  | k + 1, g, l, h => by
    rw [bsS] at h
    cases hb : bsS A o k with
    | none =>
      rw [hb] at h
      simp only at h
      split at h
      · cases h; exact ⟨by omega, costN_le hO hK⟩
      · cases h
    | some p =>
      obtain ⟨b, l2⟩ := p
      rw [hb] at h
      simp only at h
      have := bsS_lt hO hK hb
      split at h
      · cases h; exact ⟨by omega, costN_le hO hK⟩
      · cases h; exact ⟨by omega, this.2⟩
theorem rsnN_lt (o g : Nat) : rsnN A o g < 4 := by unfold rsnN; split; omega; split; omega; split <;> omega
theorem p_bestSuitL (hO : Ok A) (hR : RelS M 12 A) {e o : Nat} (he : kd e = 1) (hE : EdR M e A o) (hK : OkE A o) (hs : ShR M A o) : ∀ (n g : Nat), g ≤ A o - 1 → A o - 1 - g < n → f_X5_bestSuit_36 n 1 e (bsE (bsS A o g)) (bsL (bsS A o g)) (nI g) M = some (bsE (bsS A o (A o - 1)), M) := by
  have hw := hK.2.1
  have hw1 := hK.1
  have hc := hK.c
  intro n
  induction n with
  | zero => intro g _ h; omega
  | succ n ih =>
    intro g hg hn
    rw [f_X5_bestSuit_36, gdd_t he, hE.1, nI_sub1 hw1]
    by_cases h : g = A o - 1
    · subst h
      rw [if_pos (nI_le' (by omega) (by omega) (by omega))]
    · have hf : flN (A (o + 1)) g < 2 ^ 11 := flN_lt hc (by omega)
      have c1 := costN_le hO hK (c := flN (A (o + 1)) g)
      have hrl := rsnN_lt (A := A) o g
      have hi := ih (g + 1) (by omega) (by omega)
      rw [bsS] at hi
      rw [if_neg (nI_nle' (by omega) (by omega) (by omega)), gdd_t lay1.1, p_moved he hE (by omega), obb_s, lay1.2.2.1, gdd_t k7, p_cost hs hO hK (by omega), obb_s, p_reason hO hR he hE hK hs (by omega), obb_s]
      simp only [bvv_e]
      rw [nI_1]
      cases hb : bsS A o g with
      | none =>
        rw [hb] at hi
        simp only at hi
        rw [if_pos (show bsE none = -4 from rfl)]
        by_cases h0 : rsnN A o g = 0
        · rw [if_pos ((nI_z (by omega)).mpr h0)]
          rw [if_pos h0] at hi
          exact hi
        · rw [if_neg (fun z => h0 ((nI_z (by omega)).mp z))]
          rw [if_neg h0] at hi
          exact hi
      | some p =>
        obtain ⟨b, l⟩ := p
        have hbl := bsS_lt hO hK hb
        rw [hb] at hi
        simp only at hi
        have e4 : ¬ bsE (some (b, l)) = -4 := by
          show ¬ nI b = -4
          intro z
          have z1 : (-4 : Int32) < 0 := by decide
          rw [← z] at z1
          exact nI_neg (by omega) z1
        rw [if_neg e4, show bsL (some (b, l)) = nI l from rfl]
        by_cases h1 : l ≤ costN A o (flN (A (o + 1)) g)
        · rw [if_pos (nI_le' (by omega) (by omega) h1)]
          rw [if_neg (by omega)] at hi
          exact hi
        · rw [if_neg (nI_nle' (by omega) (by omega) (by omega))]
          by_cases h0 : rsnN A o g = 0
          · rw [if_pos ((nI_z (by omega)).mpr h0)]
            rw [if_pos ⟨by omega, h0⟩] at hi
            exact hi
          · rw [if_neg (fun z => h0 ((nI_z (by omega)).mp z))]
            rw [if_neg (fun z => h0 z.2)] at hi
            exact hi
/-! over all editions -/
theorem p_stayedL (ha : kd a = 5) (hO : Ok A) (hR : RelS M a A) : ∀ (n j : Nat), j ≤ A 3 → A 3 - j < n → f_X4_stayedEditions_4 M n a (nI (sumN (fun k => styN A (73 + 16 * k)) j)) (nI j) = some (nI (sumN (fun k => styN A (73 + 16 * k)) (A 3))) := by
  have h4 := hO.n
  intro n
  induction n with
  | zero => intro j _ h; omega
  | succ n ih =>
    intro j hj hn
    rw [f_X4_stayedEditions_4, gdd_t ha, hR.n]
    by_cases h : j = A 3
    · subst h
      rw [if_pos (nI_le' (by omega) (by omega) (by omega))]
    · have hlt : j < A 3 := by omega
      have he := (st_ed ha (show j < 4 by omega)).2
      have hi := ih (j + 1) (by omega) (by omega)
      rw [sumN] at hi
      have h2 := styN_lt (A := A) (73 + 16 * j)
      rw [if_neg (nI_nle' (by omega) (by omega) hlt), p_edAt ha hR.n h4 hlt, obb_s, if_neg (by omega), p_isStayed ha hR he (hR.e j hlt), obb_s, bvv_e, bvv_e, nI_1, nI_1]
      by_cases h0 : styN A (73 + 16 * j) = 0
      · rw [if_pos ((nI_z (by omega)).mpr h0)]
        rw [h0] at hi
        exact hi
      · rw [if_neg (fun z => h0 ((nI_z (by omega)).mp z)), bvv_e]
        rw [show styN A (73 + 16 * j) = 1 by omega] at hi
        exact hi
theorem p_commasL (ha : kd a = 5) (hO : Ok A) (hR : RelS M a A) : ∀ (n j : Nat), j ≤ A 3 → A 3 - j < n → f_X4_commasOfAll_4 M n a (nI (sumN (fun k => pcN (A (73 + 16 * k + 1))) j)) (nI j) = some (nI (sumN (fun k => pcN (A (73 + 16 * k + 1))) (A 3))) := by
  have h4 := hO.n
  intro n
  induction n with
  | zero => intro j _ h; omega
  | succ n ih =>
    intro j hj hn
    rw [f_X4_commasOfAll_4, gdd_t ha, hR.n]
    by_cases h : j = A 3
    · subst h
      rw [if_pos (nI_le' (by omega) (by omega) (by omega))]
    · have hlt : j < A 3 := by omega
      have hc := (hO.e j hlt).c
      have hi := ih (j + 1) (by omega) (by omega)
      rw [sumN] at hi
      rw [if_neg (nI_nle' (by omega) (by omega) hlt), p_edAt ha hR.n h4 hlt, obb_s, if_neg (by omega), gdd_t (st_ed ha (show j < 4 by omega)).2, (hR.e j hlt).2.1, p_bitCount hc, bvv_e, bvv_e, nI_1, nI_add]
      exact hi
theorem p_wordsL (ha : kd a = 5) (hO : Ok A) (hR : RelS M a A) : ∀ (n j : Nat), j ≤ A 3 → A 3 - j < n → f_X4_wordsOfAll_4 M n a (nI (sumN (fun k => A (73 + 16 * k)) j)) (nI j) = some (nI (sumN (fun k => A (73 + 16 * k)) (A 3))) := by
  have h4 := hO.n
  intro n
  induction n with
  | zero => intro j _ h; omega
  | succ n ih =>
    intro j hj hn
    rw [f_X4_wordsOfAll_4, gdd_t ha, hR.n]
    by_cases h : j = A 3
    · subst h
      rw [if_pos (nI_le' (by omega) (by omega) (by omega))]
    · have hlt : j < A 3 := by omega
      have hi := ih (j + 1) (by omega) (by omega)
      rw [sumN] at hi
      rw [if_neg (nI_nle' (by omega) (by omega) hlt), p_edAt ha hR.n h4 hlt, obb_s, if_neg (by omega), gdd_t (st_ed ha (show j < 4 by omega)).2, (hR.e j hlt).1, bvv_e, bvv_e, nI_1, nI_add]
      exact hi
/-- the k-th edition's cost now -/
def ceN (A : Nat → Nat) (k : Nat) : Nat := costN A (73 + 16 * k) (A (73 + 16 * k + 1))
theorem ceN_le (hO : Ok A) {k : Nat} (hk : k < A 3) : ceN A k ≤ 2000 := costN_le hO (hO.e k hk)
theorem p_costOf (hO : Ok A) (hR : RelS M 12 A) {j : Nat} (hj : j < A 3) : ∃ M2, f_X5_costOfEdition 1 (nI j) M = some (nI (ceN A j), M2) ∧ Sm ShX M M2 := by
  have h4 := hO.n
  have hK := hO.e j hj
  have hc := hK.c
  have he := (st_ed lay1.2.2.2 (show j < 4 by omega)).2
  have hE := hR.e j hj
  obtain ⟨M2, r1, r2, r3⟩ := p_read lay1.2.2.2 hO hR he hE hK
  have hE2 := hE.sm r2 (ed_n he).1 (ed_n he).2
  refine ⟨M2, ?_, r2⟩
  unfold f_X5_costOfEdition
  rw [gdd_t lay1.1, lay1.2.1, gdd_t lay1.2.2.2, p_edAt lay1.2.2.2 hR.n h4 hj, obb_s, if_neg (by omega), lay1.2.2.1, gdd_t k7, r1, obb_s, gdd_t he, hE2.2.1, p_cost r3 hO hK (by omega), obb_s]
  rfl
theorem sh12 : ∀ r, ShX r → r < 12 ∨ 12 + 23 ≤ r := fun r h => by unfold ShX at h; omega
theorem p_costAllL (hO : Ok A) : ∀ (n j : Nat) (M : Mem), RelS M 12 A → j ≤ A 3 → A 3 - j < n → ∃ M2, f_X5_costOfAll_4 n 1 (nI (sumN (ceN A) j)) (nI j) M = some (nI (sumN (ceN A) (A 3)), M2) ∧ Sm ShX M M2 := by
  have h4 := hO.n
  intro n
  induction n with
  | zero => intro j M _ _ h; omega
  | succ n ih =>
    intro j M hR hj hn
    rw [f_X5_costOfAll_4, gdd_t lay1.1, lay1.2.1, gdd_t lay1.2.2.2, hR.n]
    by_cases h : j = A 3
    · subst h
      rw [if_pos (nI_le' (by omega) (by omega) (by omega))]
      exact ⟨M, rfl, Sm.rf⟩
    · have hlt : j < A 3 := by omega
      obtain ⟨M2, r1, r2⟩ := p_costOf hO hR hlt
      obtain ⟨M3, s1, s2⟩ := ih (j + 1) M2 (hR.sm r2 sh12 hO.n hO.m) (by omega) (by omega)
      rw [sumN] at s1
      refine ⟨M3, ?_, r2.tr s2⟩
      rw [if_neg (nI_nle' (by omega) (by omega) hlt), r1, opp_s, bvv_e, bvv_e, nI_1, nI_add]
      exact s1
end SU
