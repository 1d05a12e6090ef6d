/-! PURE: numbers -/
theorem gdd_t {α : Type} {c : Prop} [Decidable c] {x : Option α} (h : c) : gdd c x = x := by unfold gdd; rw [if_pos h]
theorem obb_s {α β : Type} {a : α} {k : α → Option β} : obb (some a) k = k a := rfl
theorem opp_s {α β : Type} {a : α} {M : Mem} {k : α → Mem → Option β} : opp (some (a, M)) k = k a M := rfl
theorem bvv_e {α β : Type} {a : α} {k : α → β} : bvv a k = k a := rfl
theorem inb_nI {n N : Nat} (h : n < N) (hN : N < 2 ^ 31) : inb (nI n) N = true := by
  unfold inb
  rw [nI_clamp (by omega)]
  simp [nI_pos' (show n < 2 ^ 31 by omega), h]
theorem nI_le' {a b : Nat} (ha : a < 2 ^ 31) (hb : b < 2 ^ 31) (h : a ≤ b) : nI a ≤ nI b := (nI_leI ha hb).mpr h
theorem nI_nle' {a b : Nat} (ha : a < 2 ^ 31) (hb : b < 2 ^ 31) (h : b < a) : ¬ nI a ≤ nI b := fun e => by have := (nI_leI ha hb).mp e; omega
theorem nI_neg {a : Nat} (ha : a < 2 ^ 31) : ¬ nI a < 0 := nI_pos ha
theorem nI_sub1 {a : Nat} (h : 1 ≤ a) : nI a - 1 = nI (a - 1) := by rw [show (1 : Int32) = nI 1 from rfl, pk_sub h]
theorem nI_m1 {a : Nat} (h : 1 ≤ a) : nI a + (-1) = nI (a - 1) := by
  obtain ⟨b, rfl⟩ : ∃ b, a = b + 1 := ⟨a - 1, by omega⟩
  rw [pk_m1]; rfl
theorem nI_0m1 : nI 0 + (-1) = -1 := by decide
theorem nI_0s1 : nI 0 - 1 = -1 := by decide
theorem nI_ne {a b : Nat} (ha : a < 2 ^ 31) (hb : b < 2 ^ 31) (h : a ≠ b) : ¬ nI a = nI b := fun e => h ((nI_eq ha hb).mp e)
/-! memory -/
theorem gI_s {M : Mem} {r k : Nat} {v : Int32} : gI (sI M r k v) r k = v := by simp [gI, sI]
theorem gI_n {M : Mem} {r k r2 k2 : Nat} {v : Int32} (h : r2 ≠ r ∨ k2 ≠ k) : gI (sI M r k v) r2 k2 = gI M r2 k2 := by
  unfold gI sI
  simp only
  rw [if_neg]
  rintro ⟨h1, h2⟩
  rcases h with h | h
  · exact h h1
  · exact h h2
theorem gH_sI {M : Mem} {r k j : Nat} {v : Int32} : gH (sI M r k v) j = gH M j := rfl
theorem gI_sH {M : Mem} {r k j v : Nat} : gI (sH M j v) r k = gI M r k := rfl
theorem gH_s {M : Mem} {k v : Nat} : gH (sH M k v) k = v := by simp [gH, sH]
theorem gH_n {M : Mem} {k v j : Nat} (h : j ≠ k) : gH (sH M k v) j = gH M j := by simp [gH, sH, h]
/-- the same but in the codes of X -/
def Sm (X : Nat → Prop) (M M2 : Mem) : Prop := (∀ r k, ¬ X r → gI M2 r k = gI M r k) ∧ ∀ k, gH M2 k = gH M k
theorem Sm.rf {X : Nat → Prop} {M : Mem} : Sm X M M := ⟨fun _ _ _ => rfl, fun _ => rfl⟩
theorem Sm.tr {X : Nat → Prop} {M M2 M3 : Mem} (h : Sm X M M2) (h2 : Sm X M2 M3) : Sm X M M3 := ⟨fun r k hx => (h2.1 r k hx).trans (h.1 r k hx), fun k => (h2.2 k).trans (h.2 k)⟩
theorem Sm.mono {X Y : Nat → Prop} {M M2 : Mem} (h : Sm X M M2) (hXY : ∀ r, X r → Y r) : Sm Y M M2 := ⟨fun r k hy => h.1 r k (fun hx => hy (hXY r hx)), h.2⟩
theorem Sm.put {X : Nat → Prop} {M M2 : Mem} (h : Sm X M M2) {r k : Nat} {v : Int32} (hr : X r) : Sm X M (sI M2 r k v) := ⟨fun q j hq => by rw [gI_n (Or.inl (fun e => hq (by rw [e]; exact hr)))]; exact h.1 q j hq, fun j => by rw [gH_sI]; exact h.2 j⟩
/-! the layout -/
theorem kd_L {r k : Nat} (h : kd r = k) (hk : k ≠ 0) : r < 160 := kd_lt (by rw [h]; exact hk)
theorem st_ra : ∀ a, a < 160 → kd a = 5 → 12 ≤ a ∧ a ≤ 127 ∧ (a - 12) % 23 = 0 := by decide +kernel
theorem st_0a : ∀ a, a < 160 → kd a = 5 → fld a 0 = a + 1 ∧ kd (a + 1) = 8 ∧ ln (a + 1) = 6 := by decide +kernel
theorem st_1a : ∀ a, a < 160 → kd a = 5 → fld a 1 = a + 2 ∧ kd (a + 2) = 8 ∧ ln (a + 2) = 2 := by decide +kernel
theorem st_2a : ∀ a, a < 160 → kd a = 5 → fld a 2 = a + 3 ∧ kd (a + 3) = 9 ∧ ln (a + 3) = 4 := by decide +kernel
theorem st_3a : ∀ a, a < 160 → kd a = 5 → fld a 3 = a + 4 ∧ kd (a + 4) = 10 ∧ ln (a + 4) = 10 := by decide +kernel
theorem st_eda : ∀ a, a < 160 → kd a = 5 → ∀ k, k < 4 → fld (a + 3) k = a + 5 + 2 * k ∧ kd (a + 5 + 2 * k) = 1 := by decide +kernel
theorem st_rua : ∀ a, a < 160 → kd a = 5 → ∀ k, k < 10 → fld (a + 4) k = a + 13 + k ∧ kd (a + 13 + k) = 3 := by decide +kernel
theorem ed_all : ∀ e, e < 160 → kd e = 1 → 5 ≤ e ∧ e ≤ 138 ∧ fld e 0 = e + 1 ∧ kd (e + 1) = 8 ∧ ln (e + 1) = 12 := by decide +kernel
theorem ed_at {e : Nat} (h : kd e = 1) : 5 ≤ e ∧ e ≤ 138 ∧ fld e 0 = e + 1 ∧ kd (e + 1) = 8 ∧ ln (e + 1) = 12 := ed_all e (kd_L h (by decide)) h
theorem st_r {a : Nat} (h : kd a = 5) : 12 ≤ a ∧ a ≤ 127 ∧ (a - 12) % 23 = 0 := st_ra a (kd_L h (by decide)) h
theorem st_ed {a k : Nat} (h : kd a = 5) (hk : k < 4) : fld (a + 3) k = a + 5 + 2 * k ∧ kd (a + 5 + 2 * k) = 1 := st_eda a (kd_L h (by decide)) h k hk
theorem st_ru {a k : Nat} (h : kd a = 5) (hk : k < 10) : fld (a + 4) k = a + 13 + k ∧ kd (a + 13 + k) = 3 := st_rua a (kd_L h (by decide)) h k hk
theorem st_0 {a : Nat} (h : kd a = 5) : fld a 0 = a + 1 ∧ kd (a + 1) = 8 ∧ ln (a + 1) = 6 := st_0a a (kd_L h (by decide)) h
theorem st_1 {a : Nat} (h : kd a = 5) : fld a 1 = a + 2 ∧ kd (a + 2) = 8 ∧ ln (a + 2) = 2 := st_1a a (kd_L h (by decide)) h
theorem st_2 {a : Nat} (h : kd a = 5) : fld a 2 = a + 3 ∧ kd (a + 3) = 9 ∧ ln (a + 3) = 4 := st_2a a (kd_L h (by decide)) h
theorem st_3 {a : Nat} (h : kd a = 5) : fld a 3 = a + 4 ∧ kd (a + 4) = 10 ∧ ln (a + 4) = 10 := st_3a a (kd_L h (by decide)) h
/-! a row's reading and writing -/
theorem p_at {M : Mem} {r j : Nat} (hr : kd r = 8) (hj : j < ln r) (hl : ln r < 1000) : f_X5_at r (nI j) M = some (gI M r j) := by
  unfold f_X5_at
  rw [if_neg (nI_neg (by omega)), gdd_t hr, if_neg (nI_nle' (by omega) (by omega) hj), gdd_t (inb_nI hj (by omega)), nI_clamp (by omega)]
theorem p_put {M : Mem} {r j : Nat} {v : Int32} (hr : kd r = 8) (hj : j < ln r) (hl : ln r < 1000) : f_X5_put r (nI j) v M = some (sI M r j v) := by
  unfold f_X5_put
  rw [if_neg (nI_neg (by omega)), gdd_t hr, if_neg (nI_nle' (by omega) (by omega) hj), gdd_t (inb_nI hj (by omega)), nI_clamp (by omega)]
  rfl
theorem p_isWithin (x a b : Int32) : f_X5_isWithin x a b = if a ≤ x ∧ x ≤ b then 1 else 0 := by
  unfold f_X5_isWithin
  by_cases h1 : x < a
  · rw [if_pos h1, if_neg (fun h => absurd h1 (Int32.not_lt.mpr h.1))]
  · rw [if_neg h1]
    by_cases h2 : b < x
    · rw [if_pos h2, if_neg (fun h => absurd h2 (Int32.not_lt.mpr h.2))]
    · rw [if_neg h2, if_pos ⟨Int32.not_lt.mp h1, Int32.not_lt.mp h2⟩]
