/-! PURE: rulings and fines, the class -/
theorem sh31 : ∀ n, n < 32 → ((nI n &&& 31).toBitVec.smod 32).toNat = n := by decide +kernel
def bitN (c k : Nat) : Nat := c / 2 ^ k % 2
theorem bitN_lt (c k : Nat) : bitN c k < 2 := Nat.mod_lt _ (by decide)
theorem p_shr {c k : Nat} (hc : c < 2 ^ 31) (hk : k < 32) : nI c >>> (nI k &&& 31) = nI (c / 2 ^ k) := pk_shrN hc _ k (sh31 k hk)
theorem p_bit {c k : Nat} (hc : c < 2 ^ 31) (hk : k < 32) : ((nI c >>> (nI k &&& 31)) &&& 1) = nI (bitN c k) := by
  rw [p_shr hc hk]
  have h1 : c / 2 ^ k < 2 ^ 32 := Nat.lt_of_le_of_lt (Nat.div_le_self _ _) (by omega)
  exact pk_andN h1 (m := 1) 1 (by decide)
theorem nI_2 {x : Nat} (h : x < 2) : nI x = 1 ↔ x = 1 := nI_eq (b := 1) (by omega) (by decide)
theorem nI_z {x : Nat} (h : x < 2 ^ 31) : nI x = 0 ↔ x = 0 := nI_eq (b := 0) h (by decide)
/-- the ruling that counts about two kinds, of the first k -/
def cntF (A : Nat → Nat) (x y : Nat) : Nat → Option Nat
  | 0 => none
  | k + 1 => if inF A k = true ∧ A (13 + 6 * k) = x ∧ A (14 + 6 * k) = y then some k else cntF A x y k
def cnt (A : Nat → Nat) (x y : Nat) : Option Nat := cntF A x y (A 4)
def enc (o : Option Nat) : Int32 := match o with
  | none => -4
  | some k => nI k
theorem cntF_lt {A : Nat → Nat} {x y : Nat} : ∀ {k r : Nat}, cntF A x y k = some r → r < k
  | 0, r, h => by cases h
  | k + 1, r, h => by
    unfold cntF at h
    split at h
    · cases h; omega
    · have := cntF_lt h; omega
theorem cnt_lt {A : Nat → Nat} {x y r : Nat} (h : cnt A x y = some r) : r < A 4 := cntF_lt h
section CR
variable {M : Mem} {a : Nat} {A : Nat → Nat}
theorem p_countingL (ha : kd a = 5) (hO : Ok A) (hR : RelS M a A) {x y : Nat} (hx : x < 2 ^ 31) (hy : y < 2 ^ 31) : ∀ (j n : Nat), j ≤ A 4 → j < n → f_X4_countingAbout_7 M n a (nI x) (nI y) (nI j - 1) = some (enc (cntF A x y j)) := by
  have hm := hO.m
  intro j
  induction j with
  | zero =>
    intro n _ hn
    obtain ⟨n, rfl⟩ : ∃ g, n = g + 1 := ⟨n - 1, by omega⟩
    rw [f_X4_countingAbout_7, nI_0s1, if_pos (by decide)]
    rfl
  | succ j ih =>
    intro n hj hn
    obtain ⟨n, rfl⟩ : ∃ g, n = g + 1 := ⟨n - 1, by omega⟩
    have hlt : j < A 4 := by omega
    have hk := hO.r j hlt
    obtain ⟨q0, q1, q2, q3, q4, q5, q6⟩ := hR.r j hlt
    have nx : nI j + (-1) = nI j - 1 := by
      rcases Nat.eq_zero_or_pos j with h | h
      · subst h; rfl
      · rw [nI_m1 h, nI_sub1 h]
    rw [f_X4_countingAbout_7, nI_sub1 (by omega), Nat.add_sub_cancel, if_neg (nI_neg (by omega)), gdd_t ha, p_ruAt ha hR.m hm hlt, obb_s, if_neg (by omega), gdd_t (st_ru ha (by omega)).2, q6, q0, q1, bvv_e, nx, ih n (by omega) (by omega)]
    rw [cntF]
    cases hF : inF A j
    · rw [if_pos (by rfl), if_neg (by rintro ⟨h, -⟩; cases h)]
    · rw [if_neg (by decide)]
      by_cases h1 : A (13 + 6 * j) = x
      · rw [if_pos (by rw [h1])]
        by_cases h2 : A (14 + 6 * j) = y
        · rw [if_pos (by rw [h2]), if_pos ⟨rfl, h1, h2⟩]; rfl
        · rw [if_neg (nI_ne (by have := hk.2.1; omega) hy h2), if_neg (fun h => h2 h.2.2)]
      · rw [if_neg (nI_ne (by have := hk.1; omega) hx h1), if_neg (fun h => h1 h.2.1)]
theorem p_countingAbout (ha : kd a = 5) (hO : Ok A) (hR : RelS M a A) {x y : Nat} (hx : x < 2 ^ 31) (hy : y < 2 ^ 31) : f_X4_countingAbout a (nI x) (nI y) M = some (enc (cnt A x y)) := by
  have hm := hO.m
  unfold f_X4_countingAbout
  rw [gdd_t ha, bvv_e, hR.m]
  exact p_countingL ha hO hR hx hy (A 4) FU (Nat.le_refl _) (by unfold FU; omega)
theorem enc_neg : enc none < 0 := by decide
def rcd (a : Nat) (o : Option Nat) : Nat := match o with
  | none => 0
  | some r => a + 13 + r
theorem p_ruEnc (ha : kd a = 5) (hO : Ok A) (hR : RelS M a A) {o : Option Nat} (h : ∀ r, o = some r → r < A 4) : f_X4_rulingAt a (enc o) M = some (rcd a o) := by
  cases o with
  | none => exact p_ruAtO ha hR.m (Or.inl enc_neg)
  | some r => exact p_ruAt ha hR.m hO.m (h r rfl)
theorem p_kindAt {e j : Nat} (he : kd e = 1) (hj : j < 12) : f_X0_kindAt e (nI j) M = some (gI M (e + 1) j) := by
  obtain ⟨-, -, e1, e2, e3⟩ := ed_at he
  unfold f_X0_kindAt
  rw [if_neg (nI_neg (by omega)), gdd_t he, e1, gdd_t e2, e3, if_neg (nI_nle' (by omega) (by omega) hj), gdd_t (inb_nI hj (by omega)), nI_clamp (by omega)]
theorem EdR.k {e o j : Nat} (h : EdR M e A o) (hj : j < A o) : gI M (e + 1) j = nI (A (o + 4 + j)) := h.2.2.2.2 j hj
theorem p_kindE {e o j : Nat} (he : kd e = 1) (hE : EdR M e A o) (hK : OkE A o) (hj : j < A o) : f_X0_kindAt e (nI j) M = some (nI (A (o + 4 + j))) := by
  rw [p_kindAt he (by have := hK.2.1; omega), hE.k hj]
theorem p_countingAt (ha : kd a = 5) (hO : Ok A) (hR : RelS M a A) {e o g : Nat} (he : kd e = 1) (hE : EdR M e A o) (hK : OkE A o) (hg : g + 1 < A o) : f_X4_countingAt a e (nI g) M = some (enc (cnt A (A (o + 4 + g)) (A (o + 5 + g)))) := by
  have h1 := hK.2.2.2.1 g (by omega)
  have h2 := hK.2.2.2.1 (g + 1) hg
  unfold f_X4_countingAt
  rw [gdd_t he, p_kindE he hE hK (by omega), obb_s, nI_1, p_kindE he hE hK hg, obb_s, gdd_t ha, show o + 4 + (g + 1) = o + 5 + g by omega, p_countingAbout ha hO hR (by omega) (by rw [← show o + 4 + (g + 1) = o + 5 + g by omega]; omega), obb_s]
theorem p_fineFor {q r : Nat} (hq : kd q = 3) (hr : RuR M q A r) (hk : OkR A r) {b : Nat} (hb : b ≤ 1) : f_X2_fineFor q (nI b) M = some (nI (if A (15 + 6 * r) = b then 0 else A (16 + 6 * r))) := by
  unfold f_X2_fineFor
  rw [gdd_t hq, hr.2.2.1, hr.2.2.2.1]
  have h1 := hk.2.2.1
  by_cases h : A (15 + 6 * r) = b
  · rw [if_pos (by rw [h]), if_pos h]; rfl
  · rw [if_neg (nI_ne (by omega) (by omega) h), if_neg h]
/-- the fine of a gap of the edition at o, its comma b -/
def fineN (A : Nat → Nat) (o g b : Nat) : Nat := match cnt A (A (o + 4 + g)) (A (o + 5 + g)) with
  | none => 0
  | some r => if A (15 + 6 * r) = b then 0 else A (16 + 6 * r)
theorem fineN_le (hO : Ok A) (o g b : Nat) : fineN A o g b ≤ 20 := by
  unfold fineN
  split
  · omega
  · rename_i r h
    have := (hO.r r (cnt_lt h)).2.2.2.2.1
    split <;> omega
theorem OkE.c {o : Nat} (h : OkE A o) : A (o + 1) < 2 ^ 11 := Nat.lt_of_lt_of_le h.2.2.1 (Nat.pow_le_pow_right (by decide) (by have := h.2.1; omega))
theorem p_hasComma {e o g : Nat} (he : kd e = 1) (hE : EdR M e A o) (hK : OkE A o) (hg : g < 32) : f_X0_hasComma e (nI g) M = some (nI (bitN (A (o + 1)) g)) := by
  have hc := hK.c
  unfold f_X0_hasComma
  rw [gdd_t he, hE.2.1, p_bit (by omega) hg]
  have h2 := bitN_lt (A (o + 1)) g
  by_cases h : bitN (A (o + 1)) g = 1
  · rw [if_pos ((nI_2 h2).mpr h), h]; rfl
  · rw [if_neg (fun z => h ((nI_2 h2).mp z)), show bitN (A (o + 1)) g = 0 by omega]; rfl
theorem p_fineAt (ha : kd a = 5) (hO : Ok A) (hR : RelS M a A) {e o g : Nat} (he : kd e = 1) (hE : EdR M e A o) (hK : OkE A o) (hg : g + 1 < A o) : f_X4_fineAt a e (nI g) M = some (nI (fineN A o g (bitN (A (o + 1)) g))) := by
  have hw := hK.2.1
  unfold f_X4_fineAt
  rw [gdd_t ha, p_countingAt ha hO hR he hE hK hg, obb_s, p_ruEnc ha hO hR (fun r h => cnt_lt h), obb_s]
  unfold fineN
  cases hc : cnt A (A (o + 4 + g)) (A (o + 5 + g)) with
  | none => rfl
  | some r =>
    have hr := cnt_lt hc
    have hm := hO.m
    rw [show rcd a (some r) = a + 13 + r from rfl, if_neg (by omega), gdd_t he, p_hasComma he hE hK (by omega), obb_s, gdd_t (st_ru ha (by omega)).2, p_fineFor (st_ru ha (by omega)).2 (hR.r r hr) (hO.r r hr) (by have := bitN_lt (A (o + 1)) g; omega), obb_s]
/-- whether a ruling counts -/
def ctsN (A : Nat → Nat) (r : Nat) : Nat := if cnt A (A (13 + 6 * r)) (A (14 + 6 * r)) = some r then 1 else 0
theorem enc_eq {o : Option Nat} {r : Nat} (h : ∀ k, o = some k → k < 100) (hr : r < 100) : enc o = nI r ↔ o = some r := by
  cases o with
  | none =>
    refine ⟨fun e => ?_, fun e => by cases e⟩
    have h1 : enc none < 0 := enc_neg
    rw [e] at h1
    exact absurd h1 (nI_neg (by omega))
  | some k =>
    have := h k rfl
    show nI k = nI r ↔ _
    rw [nI_eq (by omega) (by omega), Option.some.injEq]
theorem p_counts (ha : kd a = 5) (hO : Ok A) (hR : RelS M a A) {r : Nat} (hr : r < A 4) : f_X4_counts a (nI r) M = some (nI (ctsN A r)) := by
  have hm := hO.m
  have hk := hO.r r hr
  obtain ⟨q0, q1, -⟩ := hR.r r hr
  unfold f_X4_counts ctsN
  rw [gdd_t ha, p_ruAt ha hR.m hm hr, obb_s, if_neg (by omega), gdd_t (st_ru ha (by omega)).2, q0, q1, p_countingAbout ha hO hR (by have := hk.1; omega) (by have := hk.2.1; omega), obb_s]
  by_cases h : cnt A (A (13 + 6 * r)) (A (14 + 6 * r)) = some r
  · rw [if_pos ((enc_eq (fun k h => by have := cnt_lt h; omega) (by omega)).mpr h), if_pos h]; rfl
  · rw [if_neg (fun z => h ((enc_eq (fun k h => by have := cnt_lt h; omega) (by omega)).mp z)), if_neg h]; rfl
theorem ctsN_lt (r : Nat) : ctsN A r < 2 := by unfold ctsN; split <;> omega
theorem p_thatCountL (ha : kd a = 5) (hO : Ok A) (hR : RelS M a A) : ∀ (n j : Nat), j ≤ A 4 → A 4 - j < n → f_X4_rulingsThatCount_4 M n a (nI (sumN (ctsN A) j)) (nI j) = some (nI (sumN (ctsN A) (A 4))) := by
  have hm := hO.m
  intro n
  induction n with
  | zero => intro j _ h; omega
  | succ n ih =>
    intro j hj hn
    rw [f_X4_rulingsThatCount_4, gdd_t ha, hR.m]
    by_cases h : j = A 4
    · subst h
      rw [if_pos (nI_le' (by omega) (by omega) (by omega))]
    · have hlt : j < A 4 := by omega
      rw [if_neg (nI_nle' (by omega) (by omega) hlt), p_counts ha hO hR hlt, obb_s, bvv_e, bvv_e, nI_1, nI_1]
      have h2 := ih (j + 1) (by omega) (by omega)
      rw [sumN] at h2
      have h3 := ctsN_lt (A := A) j
      by_cases hF : ctsN A j = 0
      · rw [if_pos ((nI_z (by omega)).mpr hF)]
        rw [hF] at h2
        exact h2
      · rw [if_neg (fun z => hF ((nI_z (by omega)).mp z)), bvv_e]
        rw [show ctsN A j = 1 by omega] at h2
        exact h2
theorem p_rulingsThatCount (ha : kd a = 5) (hO : Ok A) (hR : RelS M a A) : f_X4_rulingsThatCount a M = some (nI (sumN (ctsN A) (A 4))) := by
  have hm := hO.m
  exact p_thatCountL ha hO hR FU 0 (by omega) (by unfold FU; omega)
def citN (A : Nat → Nat) (r k : Nat) : Nat := if A (17 + 6 * k) = r + 1 then 1 else 0
theorem nI_pr {q r : Nat} (hq : q < 2 ^ 30) (hr : r < 2 ^ 30) : nI q - 1 = nI r ↔ q = r + 1 := by
  rcases Nat.eq_zero_or_pos q with h | h
  · subst h
    rw [nI_0s1]
    refine ⟨fun e => ?_, fun e => by omega⟩
    have h1 : (-1 : Int32) < 0 := by decide
    rw [e] at h1
    exact absurd h1 (nI_neg (by omega))
  · rw [nI_sub1 h, nI_eq (by omega) (by omega)]
    omega
theorem p_citL (ha : kd a = 5) (hO : Ok A) (hR : RelS M a A) {r : Nat} (hr : r < A 4) : ∀ (n j : Nat), j ≤ A 4 → A 4 - j < n → f_X4_citationsOf_4 M n a (nI r) (nI (sumN (citN A r) j)) (nI j) = some (nI (sumN (citN A r) (A 4))) := by
  have hm := hO.m
  intro n
  induction n with
  | zero => intro j _ h; omega
  | succ n ih =>
    intro j hj hn
    rw [f_X4_citationsOf_4, gdd_t ha, hR.m]
    by_cases h : j = A 4
    · subst h
      rw [if_pos (nI_le' (by omega) (by omega) (by omega))]
    · have hlt : j < A 4 := by omega
      have hq := hO.q j hlt
      rw [if_neg (nI_nle' (by omega) (by omega) hlt), p_ruAt ha hR.m hm hlt, obb_s, if_neg (by omega), gdd_t (st_ru ha (by omega)).2, (hR.r j hlt).2.2.2.2.1, bvv_e, bvv_e, bvv_e, nI_1, nI_1]
      have h2 := ih (j + 1) (by omega) (by omega)
      rw [sumN] at h2
      by_cases hF : A (17 + 6 * j) = r + 1
      · rw [if_pos ((nI_pr (by omega) (by omega)).mpr hF)]
        rw [show citN A r j = 1 by unfold citN; rw [if_pos hF]] at h2
        exact h2
      · rw [if_neg (fun z => hF ((nI_pr (by omega) (by omega)).mp z))]
        rw [show citN A r j = 0 by unfold citN; rw [if_neg hF]] at h2
        exact h2
theorem p_citationsOf (ha : kd a = 5) (hO : Ok A) (hR : RelS M a A) {r : Nat} (hr : r < A 4) : f_X4_citationsOf a (nI r) M = some (nI (sumN (citN A r) (A 4))) := by
  have hm := hO.m
  exact p_citL ha hO hR hr FU 0 (by omega) (by unfold FU; omega)
/-- fines that a ruling brings to the edition at o -/
def brgG (A : Nat → Nat) (r o g : Nat) : Nat := if cnt A (A (o + 4 + g)) (A (o + 5 + g)) = some r then fineN A o g (bitN (A (o + 1)) g) else 0
def brgN (A : Nat → Nat) (r : Nat) (e : Nat) : Nat := sumN (brgG A r (73 + 16 * e)) (A (73 + 16 * e) - 1)
theorem p_brgG (ha : kd a = 5) (hO : Ok A) (hR : RelS M a A) {r : Nat} (hr : r < A 4) (k4 : Nat → Int32 → Int32 → Int32 → Option Int32) {e o : Nat} (he : kd e = 1) (hE : EdR M e A o) (hK : OkE A o) (x : Nat) (s : Nat) : ∀ (n j : Nat), j ≤ A o - 1 → A o - 1 - j < n → f_X4_finesBroughtBy_27 M k4 n a (nI r) (nI (s + sumN (brgG A r o) j)) (nI x) e (nI j) = k4 a (nI r) (nI (s + sumN (brgG A r o) (A o - 1))) (nI (x + 1)) := by
  have hm := hO.m
  have hw := hK.2.1
  have hw1 := hK.1
  intro n
  induction n with
  | zero => intro j _ h; omega
  | succ n ih =>
    intro j hj hn
    rw [f_X4_finesBroughtBy_27, gdd_t he, hE.1, nI_sub1 hw1]
    by_cases h : j = A o - 1
    · subst h
      rw [if_pos (nI_le' (by omega) (by omega) (by omega)), bvv_e, nI_1]
    · rw [if_neg (nI_nle' (by omega) (by omega) (by omega)), gdd_t ha, p_countingAt ha hO hR he hE hK (by omega), obb_s, p_fineAt ha hO hR he hE hK (by omega), obb_s, bvv_e, bvv_e, bvv_e, bvv_e, nI_1]
      have h2 := ih (j + 1) (by omega) (by omega)
      rw [sumN, ← Nat.add_assoc] at h2
      by_cases hF : cnt A (A (o + 4 + j)) (A (o + 5 + j)) = some r
      · rw [if_pos ((enc_eq (fun k h => by have := cnt_lt h; omega) (by omega)).mpr hF), nI_add]
        rw [show brgG A r o j = fineN A o j (bitN (A (o + 1)) j) by unfold brgG; rw [if_pos hF]] at h2
        exact h2
      · rw [if_neg (fun z => hF ((enc_eq (fun k h => by have := cnt_lt h; omega) (by omega)).mp z))]
        rw [show brgG A r o j = 0 by unfold brgG; rw [if_neg hF], ← nI_add] at h2
        exact h2
theorem p_brgL (ha : kd a = 5) (hO : Ok A) (hR : RelS M a A) {r : Nat} (hr : r < A 4) : ∀ (n j : Nat), j ≤ A 3 → A 3 - j < n → f_X4_finesBroughtBy_4 M n a (nI r) (nI (sumN (brgN A r) j)) (nI j) = some (nI (sumN (brgN A r) (A 3))) := by
  have hn4 := hO.n
  intro n
  induction n with
  | zero => intro j _ h; omega
  | succ n ih =>
    intro j hj hn
    rw [f_X4_finesBroughtBy_4, gdd_t ha, hR.n]
    by_cases h : j = A 3
    · subst h
      rw [if_pos (nI_le' (by omega) (by omega) (by omega))]
    · have hlt : j < A 3 := by omega
      have hK := hO.e j hlt
      have hw := hK.2.1
      rw [if_neg (nI_nle' (by omega) (by omega) hlt), p_edAt ha hR.n hn4 hlt, obb_s, if_neg (by omega)]
      have h2 := ih (j + 1) (by omega) (by omega)
      have h3 := p_brgG ha hO hR hr (f_X4_finesBroughtBy_4 M n) (st_ed ha (by omega)).2 (hR.e j hlt) hK j (sumN (brgN A r) j) FU 0 (by omega) (by unfold FU; omega)
      rw [show sumN (brgG A r (73 + 16 * j)) 0 = 0 from rfl, Nat.add_zero] at h3
      exact h3.trans h2
theorem p_finesBroughtBy (ha : kd a = 5) (hO : Ok A) (hR : RelS M a A) {r : Nat} (hr : r < A 4) : f_X4_finesBroughtBy a (nI r) M = some (nI (sumN (brgN A r) (A 3))) := by
  have hm := hO.n
  exact p_brgL ha hO hR hr FU 0 (by omega) (by unfold FU; omega)
end CR
