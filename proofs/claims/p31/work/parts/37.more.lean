/-! PURE: what else the class only looks at -/
section MO
variable {M : Mem} {a : Nat} {A : Nat → Nat}
/-- the cheapest of the first k editions -/
def chS (A : Nat → Nat) : Nat → Option (Nat × Nat)
  | 0 => none
  | k + 1 => match chS A k with
    | none => some (k, ceN A k)
    | some (b, l) => if ceN A k < l then some (k, ceN A k) else some (b, l)
theorem chS_lt (hO : Ok A) : ∀ {k g l : Nat}, k ≤ A 3 → chS A k = some (g, l) → g < k ∧ l ≤ 2000
  | 0, g, l, _, h => by cases h
  | k + 1, g, l, hk, h => by
    have hc := ceN_le hO (k := k) (by omega)
    rw [chS] at h
    cases hb : chS A k with
    | none =>
      rw [hb] at h
      simp only [Option.some.injEq, Prod.mk.injEq] at h
      omega
    | some p =>
      obtain ⟨b, l2⟩ := p
      rw [hb] at h
      have := chS_lt hO (by omega) hb
      simp only at h
      split at h <;> (simp only [Option.some.injEq, Prod.mk.injEq] at h; omega)
theorem p_cheapL (hO : Ok A) : ∀ (n j : Nat) (M : Mem), RelS M 12 A → j ≤ A 3 → A 3 - j < n → ∃ M2, f_X5_cheapestEdition_7 n 1 (bsE (chS A j)) (bsL (chS A j)) (nI j) M = some (bsE (chS A (A 3)), M2) ∧ Sm ShX M M2 := by
  have h4 := hO.n
  intro n
  induction n with
  | zero => intro j M _ _ h; omega
  | succ n ih =>
    intro j M hR hj hn
    rw [f_X5_cheapestEdition_7, gdd_t lay1.1, lay1.2.1, gdd_t lay1.2.2.2, hR.n]
    by_cases h : j = A 3
    · subst h
      rw [if_pos (nI_le' (by omega) (by omega) (by omega))]
      exact ⟨M, rfl, Sm.rf⟩
    · have hlt : j < A 3 := by omega
      have hc := ceN_le hO hlt
      obtain ⟨M2, r1, r2⟩ := p_costOf hO hR hlt
      obtain ⟨M3, s1, s2⟩ := ih (j + 1) M2 (hR.sm r2 sh12 hO.n hO.m) (by omega) (by omega)
      rw [chS] at s1
      refine ⟨M3, ?_, r2.tr s2⟩
      rw [if_neg (nI_nle' (by omega) (by omega) hlt), r1, opp_s]
      simp only [bvv_e]
      rw [nI_1]
      cases hb : chS A j with
      | none =>
        rw [hb] at s1
        rw [if_pos (show bsE none = -4 from rfl)]
        exact s1
      | some p =>
        obtain ⟨b, l⟩ := p
        have hbl := chS_lt hO (by omega) hb
        rw [hb] at s1
        simp only at s1
        have e4 : ¬ bsE (some (b, l)) = -4 := by
          show ¬ nI b = -4
          intro z
          have z1 : (-4 : Int32) < 0 := by decide
          rw [← z] at z1
          exact nI_neg (by omega) z1
        rw [if_neg e4, show bsL (some (b, l)) = nI l from rfl]
        by_cases h1 : l ≤ ceN A j
        · rw [if_pos (nI_le' (by omega) (by omega) h1)]
          rw [if_neg (by omega)] at s1
          exact s1
        · rw [if_neg (nI_nle' (by omega) (by omega) (by omega))]
          rw [if_pos (by omega)] at s1
          exact s1
/-! what a ruling would bring -/
def sumI (f : Nat → Int32) : Nat → Int32
  | 0 => 0
  | k + 1 => sumI f k + f k
def irG (A : Nat → Nat) (x y cm : Nat) (fine : Int32) (o g : Nat) : Int32 := if A (o + 4 + g) = x ∧ A (o + 5 + g) = y then (if bitN (A (o + 1)) g = cm then 0 else fine) - nI (fineN A o g (bitN (A (o + 1)) g)) else 0
def irE (A : Nat → Nat) (x y cm : Nat) (fine : Int32) (k : Nat) : Int32 := sumI (irG A x y cm fine (73 + 16 * k)) (A (73 + 16 * k) - 1)
theorem p_irG (hO : Ok A) (hR : RelS M 12 A) {x y cm : Nat} {fine : Int32} (hx : x < 6) (hy : y < 6) (hcm : cm ≤ 1) (k18 : Nat → Int32 → Int32 → Int32 → Int32 → Int32 → Int32 → Option Int32) {e o : Nat} (he : kd e = 1) (hE : EdR M e A o) (hK : OkE A o) (c : Nat) (s : Int32) : ∀ (n j : Nat), j ≤ A o - 1 → A o - 1 - j < n → f_X5_ifRuled_49 M k18 n 1 (nI x) (nI y) (nI cm) fine (s + sumI (irG A x y cm fine o) j) (nI c) e (nI j) = k18 1 (nI x) (nI y) (nI cm) fine (s + sumI (irG A x y cm fine o) (A o - 1)) (nI (c + 1)) := by
  have hw := hK.2.1
  have hw1 := hK.1
  intro n
  induction n with
  | zero => intro j _ h; omega
  | succ n ih =>
    intro j hj hn
    rw [f_X5_ifRuled_49, gdd_t he, hE.1, nI_sub1 hw1]
    by_cases h : j = A o - 1
    · subst h
      rw [if_pos (nI_le' (by omega) (by omega) (by omega)), bvv_e, nI_1]
    · have k1 := hK.2.2.2.1 j (by omega)
      have k2 := hK.2.2.2.1 (j + 1) (by omega)
      rw [show o + 4 + (j + 1) = o + 5 + j by omega] at k2
      have hb := bitN_lt (A (o + 1)) j
      have hi := ih (j + 1) (by omega) (by omega)
      rw [sumI, ← Int32.add_assoc] at hi
      rw [if_neg (nI_nle' (by omega) (by omega) (by omega)), p_kindE he hE hK (by omega), obb_s, nI_1, p_kindE he hE hK (by omega), obb_s, p_hasComma he hE hK (by omega), obb_s, gdd_t lay1.1, lay1.2.1, gdd_t lay1.2.2.2, gdd_t lay1.1, gdd_t lay1.2.2.2, p_fineAt lay1.2.2.2 hO hR he hE hK (by omega)]
      simp only [obb_s, bvv_e]
      rw [show o + 4 + (j + 1) = o + 5 + j by omega]
      unfold irG at hi
      by_cases h1 : A (o + 4 + j) = x
      · rw [if_pos (by rw [h1])]
        by_cases h2 : A (o + 5 + j) = y
        · rw [if_pos (by rw [h2])]
          rw [if_pos ⟨h1, h2⟩] at hi
          by_cases h3 : bitN (A (o + 1)) j = cm
          · rw [if_pos (by rw [h3])]
            rw [if_pos h3] at hi
            exact hi
          · rw [if_neg (nI_ne (by omega) (by omega) h3)]
            rw [if_neg h3] at hi
            exact hi
        · rw [if_neg (nI_ne (by omega) (by omega) h2)]
          rw [if_neg (fun z => h2 z.2), Int32.add_zero] at hi
          exact hi
      · rw [if_neg (nI_ne (by omega) (by omega) h1)]
        rw [if_neg (fun z => h1 z.1), Int32.add_zero] at hi
        exact hi
theorem p_irL (hO : Ok A) (hR : RelS M 12 A) {x y cm : Nat} {fine : Int32} (hx : x < 6) (hy : y < 6) (hcm : cm ≤ 1) : ∀ (n j : Nat), j ≤ A 3 → A 3 - j < n → f_X5_ifRuled_18 M n 1 (nI x) (nI y) (nI cm) fine (sumI (irE A x y cm fine) j) (nI j) = some (1000 + sumI (irE A x y cm fine) (A 3)) := by
  have h4 := hO.n
  intro n
  induction n with
  | zero => intro j _ h; omega
  | succ n ih =>
    intro j hj hn
    rw [f_X5_ifRuled_18, gdd_t lay1.1, lay1.2.1, gdd_t lay1.2.2.2, hR.n]
    by_cases h : j = A 3
    · subst h
      rw [if_pos (nI_le' (by omega) (by omega) (by omega))]
    · have hlt : j < A 3 := by omega
      have hK := hO.e j hlt
      have hw := hK.2.1
      rw [if_neg (nI_nle' (by omega) (by omega) hlt), p_edAt lay1.2.2.2 hR.n h4 hlt, obb_s, if_neg (by omega)]
      have h2 := ih (j + 1) (by omega) (by omega)
      have h3 := p_irG hO hR hx hy hcm (f_X5_ifRuled_18 M n) (fine := fine) (st_ed lay1.2.2.2 (show j < 4 by omega)).2 (hR.e j hlt) hK j (sumI (irE A x y cm fine) j) FU 0 (by omega) (by unfold FU; omega)
      rw [show sumI (irG A x y cm fine (73 + 16 * j)) 0 = 0 from rfl, Int32.add_zero] at h3
      exact h3.trans h2
/-! the text of an edition: which character stands at a place; p: how many stand ahead of the word j -/
def txA (A : Nat → Nat) (o : Nat) (j : Nat) : Nat := j + sumN (bitN (A (o + 1))) j
def txF (A : Nat → Nat) (o : Nat) (x : Int32) : Nat → Nat → Int32
  | _, 0 => -4
  | j, r + 1 => if nI (txA A o j) = x then 97 + nI (A (o + 4 + j)) else if bitN (A (o + 1)) j = 1 ∧ nI (txA A o j + 1) = x then 44 else txF A o x (j + 1) r
theorem p_textL {e o : Nat} {x : Int32} (he : kd e = 1) (hE : EdR M e A o) (hK : OkE A o) : ∀ (n j : Nat), j ≤ A o → A o - j < n → f_X0_textSign_4 M n e x (nI (txA A o j)) (nI j) = some (txF A o x j (A o - j)) := by
  have hw := hK.2.1
  intro n
  induction n with
  | zero => intro j _ h; omega
  | succ n ih =>
    intro j hj hn
    rw [f_X0_textSign_4, gdd_t he, hE.1]
    by_cases h : j = A o
    · subst h
      rw [if_pos (nI_le' (by omega) (by omega) (by omega)), Nat.sub_self]
      rfl
    · obtain ⟨d, hd⟩ : ∃ d, A o - j = d + 1 := ⟨A o - j - 1, by omega⟩
      have hb := bitN_lt (A (o + 1)) j
      have hi := ih (j + 1) (by omega) (by omega)
      rw [if_neg (nI_nle' (by omega) (by omega) (by omega)), p_kindE he hE hK (by omega), obb_s, p_hasComma he hE hK (by omega)]
      simp only [obb_s, bvv_e]
      rw [hd, txF, nI_1, nI_1, nI_1]
      rw [show A o - (j + 1) = d by omega] at hi
      by_cases h1 : nI (txA A o j) = x
      · rw [if_pos h1, if_pos h1]
      · rw [if_neg h1, if_neg h1]
        by_cases h2 : bitN (A (o + 1)) j = 0
        · rw [if_pos ((nI_z (by omega)).mpr h2), if_neg (by omega)]
          have e1 : txA A o (j + 1) = txA A o j + 1 := by
            unfold txA
            rw [sumN, h2]
            omega
          rw [e1] at hi
          exact hi
        · rw [if_neg (fun z => h2 ((nI_z (by omega)).mp z))]
          have e1 : txA A o (j + 1) = txA A o j + 1 + 1 := by
            unfold txA
            rw [sumN]
            omega
          rw [e1] at hi
          by_cases h3 : nI (txA A o j + 1) = x
          · rw [if_pos h3, if_pos ⟨by omega, h3⟩]
          · rw [if_neg h3, if_neg (fun z => h3 z.2)]
            exact hi
theorem p_textSign {e o : Nat} {x : Int32} (he : kd e = 1) (hE : EdR M e A o) (hK : OkE A o) : f_X0_textSign e x M = some (txF A o x 0 (A o)) := by
  have hw := hK.2.1
  exact p_textL he hE hK FU 0 (by omega) (by unfold FU; omega)
/-! splittings, in memory -/
def WyR (M : Mem) (A : Nat → Nat) (o m : Nat) : Prop := ∀ t, t < m → gI M 11 t = nI (wyP (wtN A o) (A 2) t)
theorem segW_le (hO : Ok A) {o : Nat} (hK : OkE A o) {s k : Nat} (h : s + k ≤ A o) : segN (wtN A o) s k ≤ 108 := by
  have hw := hK.2.1
  have h1 := segN_le (f := wtN A o) (s := s) (b := 9) k (fun j hj => (OkE.wt hO hK (by omega)).2)
  omega
def wyG (A : Nat → Nat) (o m k : Nat) : Nat := if segN (wtN A o) (m - k) (k + 1) ≤ A 2 then wyP (wtN A o) (A 2) (m - k) else 0
theorem p_wyI {o m : Nat} (hs : ShR M A o) (hO : Ok A) (hK : OkE A o) (hY : WyR M A o (m + 1)) (hm : m < A o) (kk : Nat → Int32 → Mem → Option (Int32 × Mem)) : ∀ (n k : Nat), k ≤ m + 1 → m + 1 - k < n → f_X3_splittingsByWords_28 kk n 7 (nI (m + 1)) (nI (sumN (wyG A o m) k)) (nI (segN (wtN A o) (m + 1 - k) k)) (nI (m + 1 - k) - 1) M = kk 7 (nI (m + 2)) (sI M 11 (m + 1) (nI (wyP (wtN A o) (A 2) (m + 1)))) := by
  have hw := hK.2.1
  have hh := hO.h
  intro n
  induction n with
  | zero => intro k _ h; omega
  | succ n ih =>
    intro k hk hn
    rw [f_X3_splittingsByWords_28]
    by_cases h : k = m + 1
    · subst h
      rw [if_pos (by rw [Nat.sub_self, nI_0s1]; decide), gdd_t k7, k11.2.2, p_put k11.1 (by rw [k11.2.1]; omega) (by rw [k11.2.1]; omega), obb_s, bvv_e, nI_1]
      rw [wyP_s]
      rfl
    · obtain ⟨s, hs1⟩ : ∃ s, s + 1 = m + 1 - k := ⟨m + 1 - k - 1, by omega⟩
      have hi := ih (k + 1) (by omega) (by omega)
      rw [show m + 1 - (k + 1) = s by omega, segN_cons, show s + 1 = m + 1 - k from hs1, sumN] at hi
      have hl := segW_le hO hK (s := s) (k := k + 1) (by omega)
      have eW : segN (wtN A o) (s + 1) k + wtN A o s = segN (wtN A o) s (k + 1) := by rw [segN_cons]; omega
      rw [← hs1, nI_sub1 (by omega), Nat.add_sub_cancel, if_neg (nI_neg (by omega)), gdd_t k7, p_w hs hK (by omega), obb_s, bvv_e, nI_add, eW, hs.2.1, k11.2.2, p_at k11.1 (by rw [k11.2.1]; omega) (by rw [k11.2.1]; omega), hY s (by omega)]
      simp only [obb_s, bvv_e]
      rw [nI_pd, nI_add]
      rw [← hs1] at hi
      have e3 : wtN A o s + segN (wtN A o) (s + 1) k = segN (wtN A o) s (k + 1) := by rw [segN_cons]
      rw [e3] at hi
      by_cases h2 : segN (wtN A o) s (k + 1) ≤ A 2
      · rw [if_neg (fun z => by have := (nI_ltI (by omega) (by omega)).mp z; omega)]
        rw [show wyG A o m k = wyP (wtN A o) (A 2) s by unfold wyG; rw [show m - k = s by omega, if_pos h2]] at hi
        exact hi
      · rw [if_pos ((nI_ltI (by omega) (by omega)).mpr (by omega))]
        rw [show wyG A o m k = 0 by unfold wyG; rw [show m - k = s by omega, if_neg h2], Nat.add_zero] at hi
        rw [show nI (sumN (wyG A o m) k) + 0 = nI (sumN (wyG A o m) k) from Int32.add_zero _]
        exact hi
theorem p_wyL {o : Nat} (hO : Ok A) (hK : OkE A o) : ∀ (n m : Nat) (M : Mem), ShR M A o → WyR M A o (m + 1) → m ≤ A o → A o - m < n → ∃ M2, f_X3_splittingsByWords_11 n 7 (nI (m + 1)) M = some (nI (wyP (wtN A o) (A 2) (A o)), M2) ∧ Sm (fun r => r = 11) M M2 := by
  have hw := hK.2.1
  intro n
  induction n with
  | zero => intro m M _ _ _ h; omega
  | succ n ih =>
    intro m M hs hY hm hn
    rw [f_X3_splittingsByWords_11, gdd_t k7, hs.1]
    by_cases h : m = A o
    · subst h
      rw [if_pos ((nI_ltI (by omega) (by omega)).mpr (by omega)), k11.2.2, p_at k11.1 (by rw [k11.2.1]; omega) (by rw [k11.2.1]; omega), obb_s, hY (A o) (by omega)]
      exact ⟨M, rfl, Sm.rf⟩
    · have hS : Sm (fun r => r = 11) M (sI M 11 (m + 1) (nI (wyP (wtN A o) (A 2) (m + 1)))) := Sm.put Sm.rf rfl
      obtain ⟨M2, r1, r2⟩ := ih (m + 1) _ (hs.sm hS (fun r h1 h2 => by omega)) (fun t ht => by
        by_cases e : t = m + 1
        · subst e; rw [gI_s]
        · rw [gI_n (Or.inr e)]; exact hY t (by omega)) (by omega) (by omega)
      refine ⟨M2, ?_, hS.tr r2⟩
      rw [if_neg (fun z => by have := (nI_ltI (by omega) (by omega)).mp z; omega), bvv_e]
      have h3 := p_wyI hs hO hK hY (by omega) (f_X3_splittingsByWords_11 n) FU 0 (by omega) (by unfold FU; omega)
      exact h3.trans r1
theorem p_splitW {o : Nat} (hs : ShR M A o) (hO : Ok A) (hK : OkE A o) : ∃ M2, f_X3_splittingsByWords 7 M = some (nI (wyP (wtN A o) (A 2) (A o)), M2) ∧ Sm ShX M M2 := by
  have hw := hK.2.1
  have hS : Sm (fun r => r = 11) M (sI M 11 0 1) := Sm.put Sm.rf rfl
  obtain ⟨M2, r1, r2⟩ := p_wyL hO hK FU 0 _ (hs.sm hS (fun r h1 h2 => by omega)) (fun t ht => by rw [show t = 0 by omega, gI_s]; rfl) (by omega) (by unfold FU; omega)
  refine ⟨M2, ?_, (hS.tr r2).mono (fun r h => by unfold ShX; omega)⟩
  unfold f_X3_splittingsByWords
  rw [gdd_t k7, k11.2.2, show (0 : Int32) = nI 0 from rfl, p_put k11.1 (by rw [k11.2.1]; omega) (by rw [k11.2.1]; omega), obb_s]
  exact r1
/-- from the word s on, r words left -/
theorem p_splitF {o : Nat} (hs : ShR M A o) (hO : Ok A) (hK : OkE A o) : ∀ (dn s d : Nat), s ≤ A o → d ≤ s → A o - s < dn → f_X5_splittingsFrom M dn 7 (nI s) (nI d) = some (nI (wyP (fun j => wtN A o (s + j)) (A 2) (A o - s))) := by
  have hw := hK.2.1
  have hh := hO.h
  intro dn
  induction dn with
  | zero => intro s d _ _ h; omega
  | succ dn ihd =>
    intro s d hs1 hd1 hdn
    rw [f_X5_splittingsFrom, gdd_t k7, hs.1]
    by_cases h : s = A o
    · subst h
      rw [if_neg (fun z => by have := (nI_ltI (by omega) (by omega)).mp z; omega), Nat.sub_self, wyP_0]
      rfl
    · rw [if_pos ((nI_ltI (by omega) (by omega)).mpr (by omega)), show (12 : Int32) = nI 12 from rfl, if_pos ((nI_ltI (by omega) (by omega)).mpr (by omega))]
      obtain ⟨m, hm⟩ : ∃ m, A o - s = m + 1 := ⟨A o - s - 1, by omega⟩
      rw [hm, wyP_f]
      -- the loop over the first clause's end
      have loop : ∀ (n k : Nat), k ≤ m + 1 → m + 1 - k < n → f_X5_splittingsFrom_26 (f_X5_splittingsFrom M dn) M n 7 (nI d) (nI (sumN (fun l => okI (fun j => wtN A o (s + j)) (A 2) 0 (l + 1) * wyP (fun j => wtN A o (s + (l + 1 + j))) (A 2) (m - l)) k)) (nI (segN (wtN A o) s k)) (nI (s + k)) = some (nI (sumN (fun l => okI (fun j => wtN A o (s + j)) (A 2) 0 (l + 1) * wyP (fun j => wtN A o (s + (l + 1 + j))) (A 2) (m - l)) (m + 1))) := by
        intro n
        induction n with
        | zero => intro k _ h; omega
        | succ n ih =>
          intro k hk hn
          rw [f_X5_splittingsFrom_26, gdd_t k7, hs.1]
          by_cases h2 : k = m + 1
          · subst h2
            rw [if_pos (nI_le' (by omega) (by omega) (by omega))]
          · have hl := segW_le hO hK (s := s) (k := k + 1) (by omega)
            have hi := ih (k + 1) (by omega) (by omega)
            rw [sumN] at hi
            have hr := ihd (s + k + 1) (d + 1) (by omega) (by omega) (by omega)
            rw [if_neg (nI_nle' (by omega) (by omega) (by omega)), p_w hs hK (by omega), obb_s, bvv_e, nI_add, hs.2.1, nI_1, nI_1, hr]
            simp only [obb_s, bvv_e]
            rw [nI_add]
            have e1 : segN (wtN A o) s k + wtN A o (s + k) = segN (wtN A o) s (k + 1) := rfl
            rw [e1]
            have e2 : okI (fun j => wtN A o (s + j)) (A 2) 0 (k + 1) = if segN (wtN A o) s (k + 1) ≤ A 2 then 1 else 0 := by
              unfold okI
              rw [segN_sh, Nat.add_zero]
            have e3 : wyP (fun j => wtN A o (s + k + 1 + j)) (A 2) (A o - (s + k + 1)) = wyP (fun j => wtN A o (s + (k + 1 + j))) (A 2) (m - k) := by
              rw [show A o - (s + k + 1) = m - k by omega]
              congr 1
              funext j
              rw [show s + k + 1 + j = s + (k + 1 + j) by omega]
            rw [e3]
            rw [e2, show s + (k + 1) = s + k + 1 by omega] at hi
            by_cases h3 : segN (wtN A o) s (k + 1) ≤ A 2
            · rw [if_neg (fun z => by have := (nI_ltI (by omega) (by omega)).mp z; omega)]
              rw [if_pos h3, Nat.one_mul] at hi
              exact hi
            · rw [if_pos ((nI_ltI (by omega) (by omega)).mpr (by omega))]
              rw [if_neg h3, Nat.zero_mul, Nat.add_zero] at hi
              exact hi
      exact loop FU 0 (by omega) (by unfold FU; omega)
theorem p_splitR {o : Nat} (hs : ShR M A o) (hO : Ok A) (hK : OkE A o) : f_X5_splittingsFrom M 20 7 0 0 = some (nI (wyP (wtN A o) (A 2) (A o))) := by
  have hw := hK.2.1
  have h := p_splitF hs hO hK 20 0 0 (by omega) (by omega) (by omega)
  rw [Nat.sub_zero, show (fun j => wtN A o (0 + j)) = wtN A o from funext (fun j => by rw [Nat.zero_add])] at h
  exact h
end MO
