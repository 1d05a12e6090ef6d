/-! PURE: what a state is: A, the reference's 137 numbers -/
def frc (A : Nat → Nat) : Nat → Nat → Bool
  | 0, _ => true
  | f + 1, r => (A (18 + 6 * r) == 0) && (A (17 + 6 * r) == 0 || frc A f (A (17 + 6 * r) - 1))
def inF (A : Nat → Nat) (r : Nat) : Bool := frc A (r + 1) r
def EdR (M : Mem) (e : Nat) (A : Nat → Nat) (o : Nat) : Prop := gI M e 1 = nI (A o) ∧ gI M e 2 = nI (A (o + 1)) ∧ gI M e 3 = nI (A (o + 2)) ∧ gI M e 4 = nI (A (o + 3)) ∧ ∀ j, j < A o → gI M (e + 1) j = nI (A (o + 4 + j))
def RuR (M : Mem) (q : Nat) (A : Nat → Nat) (r : Nat) : Prop := gI M q 0 = nI (A (13 + 6 * r)) ∧ gI M q 1 = nI (A (14 + 6 * r)) ∧ gI M q 2 = nI (A (15 + 6 * r)) ∧ gI M q 3 = nI (A (16 + 6 * r)) ∧ gI M q 4 = nI (A (17 + 6 * r)) - 1 ∧ gI M q 5 = nI (A (18 + 6 * r)) ∧ gI M q 6 = nI (inF A r).toNat
def RelS (M : Mem) (a : Nat) (A : Nat → Nat) : Prop := (∀ k, k < 6 → gI M (a + 1) k = nI (A (7 + k))) ∧ gI M (a + 2) 0 = nI (A 1) ∧ gI M (a + 2) 1 = nI (A 2) ∧ gI M a 4 = nI (A 3) ∧ gI M a 5 = nI (A 4) ∧ gI M a 6 = nI (A 0) ∧ gI M a 7 = nI (A 5) ∧ gI M a 8 = nI (A 6) ∧ (∀ e, e < A 3 → EdR M (a + 5 + 2 * e) A (73 + 16 * e)) ∧ ∀ r, r < A 4 → RuR M (a + 13 + r) A r
def OkE (A : Nat → Nat) (o : Nat) : Prop := 1 ≤ A o ∧ A o ≤ 12 ∧ A (o + 1) < 2 ^ (A o - 1) ∧ (∀ j, j < A o → A (o + 4 + j) < 6) ∧ ∀ j, A o ≤ j → j < 12 → A (o + 4 + j) = 0
def OkR (A : Nat → Nat) (r : Nat) : Prop := A (13 + 6 * r) < 6 ∧ A (14 + 6 * r) < 6 ∧ A (15 + 6 * r) ≤ 1 ∧ 1 ≤ A (16 + 6 * r) ∧ A (16 + 6 * r) ≤ 20 ∧ A (17 + 6 * r) ≤ r ∧ A (18 + 6 * r) ≤ 1
def Ok (A : Nat → Nat) : Prop := A 3 ≤ 4 ∧ A 4 ≤ 10 ∧ (∀ k, k < 6 → 1 ≤ A (7 + k) ∧ A (7 + k) ≤ 9) ∧ (1 ≤ A 1 ∧ A 1 ≤ 30) ∧ (9 ≤ A 2 ∧ A 2 ≤ 60) ∧ (∀ e, e < A 3 → OkE A (73 + 16 * e)) ∧ ∀ r, r < A 4 → OkR A r
section ACC
variable {M : Mem} {a : Nat} {A : Nat → Nat}
theorem RelS.w (h : RelS M a A) : ∀ k, k < 6 → gI M (a + 1) k = nI (A (7 + k)) := h.1
theorem RelS.s0 (h : RelS M a A) : gI M (a + 2) 0 = nI (A 1) := h.2.1
theorem RelS.s1 (h : RelS M a A) : gI M (a + 2) 1 = nI (A 2) := h.2.2.1
theorem RelS.n (h : RelS M a A) : gI M a 4 = nI (A 3) := h.2.2.2.1
theorem RelS.m (h : RelS M a A) : gI M a 5 = nI (A 4) := h.2.2.2.2.1
theorem RelS.d (h : RelS M a A) : gI M a 6 = nI (A 0) := h.2.2.2.2.2.1
theorem RelS.g (h : RelS M a A) : gI M a 7 = nI (A 5) := h.2.2.2.2.2.2.1
theorem RelS.f (h : RelS M a A) : gI M a 8 = nI (A 6) := h.2.2.2.2.2.2.2.1
theorem RelS.e (h : RelS M a A) : ∀ e, e < A 3 → EdR M (a + 5 + 2 * e) A (73 + 16 * e) := h.2.2.2.2.2.2.2.2.1
theorem RelS.r (h : RelS M a A) : ∀ r, r < A 4 → RuR M (a + 13 + r) A r := h.2.2.2.2.2.2.2.2.2
theorem Ok.n (h : Ok A) : A 3 ≤ 4 := h.1
theorem Ok.m (h : Ok A) : A 4 ≤ 10 := h.2.1
theorem Ok.w (h : Ok A) : ∀ k, k < 6 → 1 ≤ A (7 + k) ∧ A (7 + k) ≤ 9 := h.2.2.1
theorem Ok.b (h : Ok A) : 1 ≤ A 1 ∧ A 1 ≤ 30 := h.2.2.2.1
theorem Ok.h (h : Ok A) : 9 ≤ A 2 ∧ A 2 ≤ 60 := h.2.2.2.2.1
theorem Ok.e (h : Ok A) : ∀ e, e < A 3 → OkE A (73 + 16 * e) := h.2.2.2.2.2.1
theorem Ok.r (h : Ok A) : ∀ r, r < A 4 → OkR A r := h.2.2.2.2.2.2
end ACC
theorem EdR.sm {X : Nat → Prop} {M M2 : Mem} {e o : Nat} {A : Nat → Nat} (h : Sm X M M2) (h1 : ¬ X e) (h2 : ¬ X (e + 1)) (he : EdR M e A o) : EdR M2 e A o :=
  ⟨(h.1 e _ h1).trans he.1, (h.1 e _ h1).trans he.2.1, (h.1 e _ h1).trans he.2.2.1, (h.1 e _ h1).trans he.2.2.2.1, fun j hj => (h.1 _ _ h2).trans (he.2.2.2.2 j hj)⟩
theorem RuR.sm {X : Nat → Prop} {M M2 : Mem} {q r : Nat} {A : Nat → Nat} (h : Sm X M M2) (h1 : ¬ X q) (hr : RuR M q A r) : RuR M2 q A r :=
  ⟨(h.1 q _ h1).trans hr.1, (h.1 q _ h1).trans hr.2.1, (h.1 q _ h1).trans hr.2.2.1, (h.1 q _ h1).trans hr.2.2.2.1, (h.1 q _ h1).trans hr.2.2.2.2.1, (h.1 q _ h1).trans hr.2.2.2.2.2.1, (h.1 q _ h1).trans hr.2.2.2.2.2.2⟩
theorem RelS.sm {X : Nat → Prop} {M M2 : Mem} {a : Nat} {A : Nat → Nat} (h : Sm X M M2) (hX : ∀ r, X r → r < a ∨ a + 23 ≤ r) (h3 : A 3 ≤ 4) (h4 : A 4 ≤ 10) (hs : RelS M a A) : RelS M2 a A := by
  have nx : ∀ q, a ≤ q → q < a + 23 → ¬ X q := fun q h1 h2 hx => by rcases hX q hx with h | h <;> omega
  have e0 := fun k => h.1 a k (nx a (by omega) (by omega))
  have e1 := fun k => h.1 (a + 1) k (nx _ (by omega) (by omega))
  have e2 := fun k => h.1 (a + 2) k (nx _ (by omega) (by omega))
  exact ⟨fun k hk => (e1 k).trans (hs.w k hk), (e2 _).trans hs.s0, (e2 _).trans hs.s1, (e0 _).trans hs.n, (e0 _).trans hs.m, (e0 _).trans hs.d, (e0 _).trans hs.g, (e0 _).trans hs.f,
    fun e he => (hs.e e he).sm h (nx _ (by omega) (by omega)) (nx _ (by omega) (by omega)), fun r hr => (hs.r r hr).sm h (nx _ (by omega) (by omega))⟩
/-! rulings in force: any fuel that is enough -/
theorem frc_st {A : Nat → Nat} {m : Nat} (hA : ∀ r, r < m → A (17 + 6 * r) ≤ r) : ∀ (r : Nat), r < m → ∀ f, r < f → frc A f r = inF A r := by
  intro r
  induction r using Nat.strongRecOn with
  | ind r ih =>
    intro hr f hf
    obtain ⟨f, rfl⟩ : ∃ g, f = g + 1 := ⟨f - 1, by omega⟩
    unfold inF
    simp only [frc]
    by_cases h0 : A (17 + 6 * r) = 0
    · simp [h0]
    · have h1 := hA r hr
      rw [ih (A (17 + 6 * r) - 1) (by omega) (by omega) f (by omega), ih (A (17 + 6 * r) - 1) (by omega) (by omega) r (by omega)]
theorem inF_eq {A : Nat → Nat} {m r : Nat} (hA : ∀ r, r < m → A (17 + 6 * r) ≤ r) (hr : r < m) : inF A r = ((A (18 + 6 * r) == 0) && (A (17 + 6 * r) == 0 || inF A (A (17 + 6 * r) - 1))) := by
  have h1 := hA r hr
  rw [show inF A r = frc A (r + 1) r from rfl]
  simp only [frc]
  by_cases h0 : A (17 + 6 * r) = 0
  · simp [h0]
  · rw [frc_st hA (A (17 + 6 * r) - 1) (by omega) r (by omega)]
theorem Ok.q {A : Nat → Nat} (h : Ok A) : ∀ r, r < A 4 → A (17 + 6 * r) ≤ r := fun r hr => (h.r r hr).2.2.2.2.2.1
/-! looking things up -/
theorem p_edAt {M : Mem} {a n j : Nat} (ha : kd a = 5) (hn : gI M a 4 = nI n) (h4 : n ≤ 4) (hj : j < n) : f_X4_editionAt a (nI j) M = some (a + 5 + 2 * j) := by
  obtain ⟨e1, e2, e3⟩ := st_2 ha
  unfold f_X4_editionAt
  rw [if_neg (nI_neg (by omega)), gdd_t ha, hn, if_neg (nI_nle' (by omega) (by omega) hj), e1, gdd_t e2, e3, if_neg (nI_nle' (by omega) (by omega) (by omega)), gdd_t (inb_nI (by omega) (by omega)), nI_clamp (by omega), (st_ed ha (by omega)).1]
theorem p_edAtO {M : Mem} {a n : Nat} {x : Int32} (ha : kd a = 5) (hn : gI M a 4 = nI n) (hx : x < 0 ∨ nI n ≤ x) : f_X4_editionAt a x M = some 0 := by
  unfold f_X4_editionAt
  by_cases h : x < 0
  · rw [if_pos h]
  · rw [if_neg h, gdd_t ha, hn, if_pos (hx.resolve_left h)]
theorem p_ruAt {M : Mem} {a n j : Nat} (ha : kd a = 5) (hn : gI M a 5 = nI n) (h4 : n ≤ 10) (hj : j < n) : f_X4_rulingAt a (nI j) M = some (a + 13 + j) := by
  obtain ⟨e1, e2, e3⟩ := st_3 ha
  unfold f_X4_rulingAt
  rw [if_neg (nI_neg (by omega)), gdd_t ha, hn, if_neg (nI_nle' (by omega) (by omega) hj), e1, gdd_t e2, e3, if_neg (nI_nle' (by omega) (by omega) (by omega)), gdd_t (inb_nI (by omega) (by omega)), nI_clamp (by omega), (st_ru ha (by omega)).1]
theorem p_ruAtO {M : Mem} {a n : Nat} {x : Int32} (ha : kd a = 5) (hn : gI M a 5 = nI n) (hx : x < 0 ∨ nI n ≤ x) : f_X4_rulingAt a x M = some 0 := by
  unfold f_X4_rulingAt
  by_cases h : x < 0
  · rw [if_pos h]
  · rw [if_neg h, gdd_t ha, hn, if_pos (hx.resolve_left h)]
/-- sums from 0 on -/
def sumN (f : Nat → Nat) : Nat → Nat
  | 0 => 0
  | k + 1 => sumN f k + f k
theorem p_inForceL {M : Mem} {a : Nat} {A : Nat → Nat} (ha : kd a = 5) (hO : Ok A) (hR : RelS M a A) : ∀ (n j : Nat), j ≤ A 4 → A 4 - j < n → f_X4_rulingsInForce_4 M n a (nI (sumN (fun r => (inF A r).toNat) j)) (nI j) = some (nI (sumN (fun r => (inF A r).toNat) (A 4))) := by
  have hm := hO.m
  intro n
  induction n with
  | zero => intro j _ h; omega
  | succ n ih =>
    intro j hj hn
    rw [f_X4_rulingsInForce_4, gdd_t ha, hR.m]
    by_cases h : j = A 4
    · subst h
      rw [if_pos (nI_le' (by omega) (by omega) (by omega))]
    · have hlt : j < A 4 := by omega
      rw [if_neg (nI_nle' (by omega) (by omega) hlt), p_ruAt ha hR.m hm hlt, obb_s, if_neg (by omega), gdd_t (st_ru ha (by omega)).2, (hR.r j hlt).2.2.2.2.2.2]
      have h2 := ih (j + 1) (by omega) (by omega)
      rw [sumN] at h2
      cases hF : inF A j
      · rw [hF] at h2
        rw [if_pos (by rfl), bvv_e, nI_1]
        exact h2
      · rw [hF] at h2
        rw [if_neg (by decide), bvv_e, bvv_e, nI_1, nI_1]
        exact h2
theorem p_rulingsInForce {M : Mem} {a : Nat} {A : Nat → Nat} (ha : kd a = 5) (hO : Ok A) (hR : RelS M a A) : f_X4_rulingsInForce a M = some (nI (sumN (fun r => (inF A r).toNat) (A 4))) := by
  have hm := hO.m
  exact p_inForceL ha hO hR FU 0 (by omega) (by unfold FU; omega)
