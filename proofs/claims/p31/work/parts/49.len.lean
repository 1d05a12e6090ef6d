/-! PURE: the length and the why, the class -/
theorem dv_ok : ∀ a, a < 49 → ∀ b, b < 53 → b ≠ 0 → nN (FP.ddiv (FP.i2d (nI a)) (FP.i2d (nI b))) = true := by decide +kernel
theorem sumN_leb {f : Nat → Nat} {b : Nat} : ∀ k, (∀ j, j < k → f j ≤ b) → sumN f k ≤ k * b
  | 0, _ => by simp [sumN]
  | k + 1, h => by
    have h1 := sumN_leb k (fun j hj => h j (by omega))
    have h2 := h k (by omega)
    rw [sumN, Nat.succ_mul]
    omega
def wdC (A : Nat → Nat) : Nat := sumN (fun k => A (73 + 16 * k)) (A 3)
def cmC (A : Nat → Nat) : Nat := sumN (fun k => pcN (A (73 + 16 * k + 1))) (A 3)
theorem wdC_le {A : Nat → Nat} (hO : Ok A) : wdC A ≤ 48 := by
  have h := sumN_leb (f := fun k => A (73 + 16 * k)) (b := 12) (A 3) (fun j hj => (hO.e j hj).2.1)
  have := hO.n
  unfold wdC
  omega
theorem cmC_le {A : Nat → Nat} (hO : Ok A) : cmC A ≤ 48 := by
  have h := sumN_leb (f := fun k => pcN (A (73 + 16 * k + 1))) (b := 12) (A 3) (fun j hj => pcN_le _)
  have := hO.n
  unfold cmC
  omega
def lkLen (A : Nat → Nat) : UInt64 := if A 3 = 0 then FP.dconst0 else FP.ddiv (FP.i2d (nI (wdC A))) (FP.i2d (nI (cmC A + A 3)))
theorem c_length {M : Mem} {w : Wd} (hO : OkW w) (hC : CI M w) : f_X5_length 1 M = some (lkLen w.A) := by
  have hn := hO.1.n
  have ha := lay1.2.2.2
  have h1 : f_X4_wordsOfAll 12 M = some (nI (wdC w.A)) := p_wordsL ha hO.1 hC.1 FU 0 (by omega) (by unfold FU; omega)
  have h2 : f_X4_commasOfAll 12 M = some (nI (cmC w.A)) := p_commasL ha hO.1 hC.1 FU 0 (by omega) (by unfold FU; omega)
  have b1 := wdC_le hO.1
  have b2 := cmC_le hO.1
  unfold f_X5_length lkLen
  rw [gdd_t lay1.1, lay1.2.1, gdd_t ha, h1, obb_s, h2, obb_s, bvv_e, hC.1.n, nI_add, show (0 : Int32) = nI 0 from rfl]
  by_cases h : w.A 3 = 0
  · have hz : cmC w.A = 0 := by unfold cmC; rw [h]; rfl
    rw [if_pos h, hz, h, if_neg (by decide)]
  · rw [if_neg h, if_pos ((nI_ltI (by decide) (by omega)).mpr (by omega)), gdd_t (dv_ok _ (by omega) _ (by omega) (by omega))]
def lkWhy (x : Int32) (w : Wd) : Int32 := if 0 ≤ x ∧ x ≤ 2 then (if w.st = 0 then -4 else if x = nI 0 then w.r else if x = nI 1 then w.p else w.c) else -1
theorem c_why {M : Mem} {w : Wd} (hO : OkW w) (hC : CI M w) (x : Int32) : f_X5_why 1 x M = some (lkWhy x w) := by
  have hs := hO.2.2.2.2.2.2.2
  unfold f_X5_why lkWhy
  by_cases h : 0 ≤ x ∧ x ≤ 2
  · rw [if_neg (isW_1 h), if_pos h, gdd_t lay1.1, hC.2.2.2.2.1]
    by_cases h0 : w.st = 0
    · rw [h0, if_pos (by rfl), if_pos rfl]
    · obtain ⟨y1, y2, y3⟩ := hC.2.2.2.2.2 (by omega)
      rw [if_neg (fun e => h0 ((nI_z (by omega)).mp e)), if_neg h0, y1, y2, y3]
      by_cases e0 : x = nI 0
      · rw [if_pos e0, if_pos e0]
      rw [if_neg e0, if_neg e0]
      by_cases e1 : x = nI 1
      · rw [if_pos e1, if_pos e1]
      rw [if_neg e1, if_neg e1]
  · rw [if_pos (isW_0 h), if_neg h]
/-! texts -/
theorem p_signAt {M : Mem} {l : Nat} {P : Nat → Nat} (hP : PadR M l P) (hl : l ≤ 60) {j : Nat} (hj : j < l) : f_X1_signAt 3 (nI j) M = some (nI (P j)) := by
  unfold f_X1_signAt
  rw [gdd_t lay3.2.1, hP.1, if_neg (nI_nle' (by omega) (by omega) hj), lay3.2.2.1, p_at lay3.2.2.2.1 (by rw [lay3.2.2.2.2]; omega) (by rw [lay3.2.2.2.2]; decide), obb_s, hP.2.1 j hj]
theorem p_signAtO {M : Mem} {l : Nat} {P : Nat → Nat} (hP : PadR M l P) (hl : l ≤ 60) {j : Nat} (hj : l ≤ j) (hj2 : j < 1000) : f_X1_signAt 3 (nI j) M = some 0 := by
  unfold f_X1_signAt
  rw [gdd_t lay3.2.1, hP.1, if_pos (nI_le' (by omega) (by omega) hj)]
/-- the fault of an edition's text, so many signs from j on -/
def edF (P : Nat → Nat) : Nat → Nat → Nat → Nat → Option Nat
  | 0, _, fl, j => if fl = 0 then none else some j
  | r + 1, wd, fl, j => if 97 ≤ P j ∧ P j ≤ 102 then (if wd < 12 then edF P r (wd + 1) 0 (j + 1) else some j) else if P j = 44 then (if fl = 0 then (if wd < 12 then edF P r wd 1 (j + 1) else some j) else some j) else some j
def ftE (o : Option Nat) : Int32 := match o with
  | none => -1
  | some j => nI j
theorem isW_nI {a b x : Nat} (ha : a < 2 ^ 31) (hb : b < 2 ^ 31) (hx : x < 2 ^ 31) : f_X5_isWithin (nI x) (nI a) (nI b) = if a ≤ x ∧ x ≤ b then 1 else 0 := by
  rw [p_isWithin]
  by_cases h : a ≤ x ∧ x ≤ b
  · rw [if_pos h, if_pos ⟨nI_le' ha hx h.1, nI_le' hx hb h.2⟩]
  · rw [if_neg h, if_neg (fun z => h ⟨(nI_leI ha hx).mp z.1, (nI_leI hx hb).mp z.2⟩)]
theorem p_edF {M : Mem} {l : Nat} {P : Nat → Nat} (hP : PadR M l P) (hl : l ≤ 60) (hc : ∀ i, i < l → P i ≤ 126) : ∀ (n wd fl j : Nat), j ≤ l → l - j < n → wd ≤ 12 → fl ≤ 1 → f_X1_editionFault_6 M n 3 (nI wd) (nI fl) (nI j) = some (ftE (edF P (l - j) wd fl j)) := by
  intro n
  induction n with
  | zero => intro _ _ _ _ h; omega
  | succ n ih =>
    intro wd fl j hj hn hw hf
    rw [f_X1_editionFault_6, gdd_t lay3.2.1, hP.1]
    by_cases h : j = l
    · subst h
      rw [if_pos (nI_le' (by omega) (by omega) (by omega)), Nat.sub_self]
      unfold edF
      by_cases h0 : fl = 0
      · rw [if_pos h0, h0, if_pos (by rfl)]; rfl
      · rw [if_neg h0, if_neg (fun e => h0 ((nI_z (by omega)).mp e))]; rfl
    · have hlt : j < l := by omega
      have hch := hc j hlt
      rw [if_neg (nI_nle' (by omega) (by omega) hlt), p_signAt hP hl hlt, obb_s, show (97 : Int32) = nI 97 from rfl, show (102 : Int32) = nI 102 from rfl, show (44 : Int32) = nI 44 from rfl, show (12 : Int32) = nI 12 from rfl, isW_nI (by decide) (by decide) (by omega), show l - j = l - (j + 1) + 1 by omega]
      unfold edF
      simp only [bvv_e]
      by_cases h1 : 97 ≤ P j ∧ P j ≤ 102
      · rw [if_pos h1, if_neg (by decide), if_pos h1]
        by_cases h2 : wd < 12
        · rw [if_pos ((nI_ltI (by omega) (by decide)).mpr h2), if_pos h2, if_neg (nI_ne (by omega) (by decide) (by omega)), nI_1, nI_1]
          exact ih (wd + 1) 0 (j + 1) (by omega) (by omega) (by omega) (by omega)
        · rw [if_neg (fun e => h2 ((nI_ltI (by omega) (by decide)).mp e)), if_neg h2]; rfl
      · rw [if_neg h1, if_pos rfl, if_neg h1]
        by_cases h3 : P j = 44
        · rw [if_pos (by rw [h3]), if_pos h3]
          by_cases h0 : fl = 0
          · rw [h0, if_pos (by rfl), if_pos rfl]
            by_cases h2 : wd < 12
            · rw [if_pos ((nI_ltI (by omega) (by decide)).mpr h2), if_pos h2, if_pos (by rw [h3]), Int32.add_zero, nI_1]
              exact ih wd 1 (j + 1) (by omega) (by omega) (by omega) (by omega)
            · rw [if_neg (fun e => h2 ((nI_ltI (by omega) (by decide)).mp e)), if_neg h2]; rfl
          · rw [if_neg (fun e => h0 ((nI_z (by omega)).mp e)), if_neg h0]; rfl
        · rw [if_neg (nI_ne (by omega) (by decide) h3), if_neg h3]; rfl
def dueN (s c : Nat) : Option Nat := if s = 0 then (if c = 43 then some 4 else if 48 ≤ c ∧ c ≤ 51 then some 1 else none) else if s = 1 then (if c = 58 then some 2 else none) else if s = 2 then (if c = 49 then some 3 else if 48 ≤ c ∧ c ≤ 57 then some 4 else none) else if s = 3 then (if c = 48 then some 4 else if c = 59 then some 0 else none) else (if c = 59 then some 0 else none)
theorem p_due : ∀ s, s < 5 → ∀ c, c < 127 → f_X1_dueBehind (nI s) (nI c) = ftE (dueN s c) := by decide +kernel
theorem dueN_lt : ∀ s, s < 5 → ∀ c, c < 127 → ∀ t, dueN s c = some t → t < 5 := by
  intro s hs c hc t h
  unfold dueN at h
  repeat' split at h
  all_goals first | (cases h; omega) | cases h
/-- the fault of a text of suits -/
def suF (P : Nat → Nat) : Nat → Nat → Nat → Option Nat
  | 0, s, j => if s = 3 ∨ s = 4 then none else some j
  | r + 1, s, j => match dueN s (P j) with
    | none => some j
    | some t => suF P r t (j + 1)
theorem ftE_some {t : Nat} (ht : t < 2 ^ 31) : ¬ ftE (some t) = -1 := fun e => absurd (show (-1 : Int32) < 0 by decide) (by rw [← e]; exact nI_neg ht)
theorem p_suF {M : Mem} {l : Nat} {P : Nat → Nat} (hP : PadR M l P) (hl : l ≤ 60) (hc : ∀ i, i < l → P i ≤ 126) : ∀ (n s j : Nat), j ≤ l → l - j < n → s < 5 → f_X1_suitsFault_4 M n 3 (nI s) (nI j) = some (ftE (suF P (l - j) s j)) := by
  intro n
  induction n with
  | zero => intro _ _ _ h; omega
  | succ n ih =>
    intro s j hj hn hs
    rw [f_X1_suitsFault_4, gdd_t lay3.2.1, hP.1]
    by_cases h : j = l
    · subst h
      rw [if_pos (nI_le' (by omega) (by omega) (by omega)), Nat.sub_self, show (3 : Int32) = nI 3 from rfl, show (4 : Int32) = nI 4 from rfl]
      unfold suF
      by_cases h3 : s = 3
      · rw [h3, if_pos rfl, if_pos (Or.inl rfl)]; rfl
      · rw [if_neg (nI_ne (by omega) (by decide) h3)]
        by_cases h4 : s = 4
        · rw [h4, if_pos rfl, if_pos (Or.inr rfl)]; rfl
        · rw [if_neg (nI_ne (by omega) (by decide) h4), if_neg (by omega)]; rfl
    · have hlt : j < l := by omega
      have hch := hc j hlt
      rw [if_neg (nI_nle' (by omega) (by omega) hlt), p_signAt hP hl hlt, obb_s, p_due s hs (P j) (by omega), bvv_e, show l - j = l - (j + 1) + 1 by omega, suF]
      cases hd : dueN s (P j) with
      | none => rw [if_pos (by rfl)]; rfl
      | some t =>
        have ht := dueN_lt s hs (P j) (by omega) t hd
        rw [if_neg (ftE_some (by omega)), bvv_e, nI_1]
        exact ih t (j + 1) (by omega) (by omega) ht
def edQ (w : Wd) : Option Nat := edF w.P w.l 0 1 0
def suQ (w : Wd) : Option Nat := suF w.P w.l 0 0
theorem p_edQ {M : Mem} {w : Wd} (hO : OkW w) (hP : PadR M w.l w.P) : f_X1_editionFault 3 M = some (ftE (edQ w)) := by
  have hl := hO.2.2.2.2.2.1
  exact p_edF hP hl (fun i hi => (hO.2.2.2.2.2.2.1 i hi).2) FU 0 1 0 (by omega) (by unfold FU; omega) (by omega) (by omega)
theorem p_suQ {M : Mem} {w : Wd} (hO : OkW w) (hP : PadR M w.l w.P) : f_X1_suitsFault 3 M = some (ftE (suQ w)) := by
  have hl := hO.2.2.2.2.2.1
  exact p_suF hP hl (fun i hi => (hO.2.2.2.2.2.2.1 i hi).2) FU 0 0 (by omega) (by unfold FU; omega) (by omega)
theorem edF_lt {P : Nat → Nat} : ∀ (r wd fl j : Nat) {t : Nat}, edF P r wd fl j = some t → t ≤ j + r
  | 0, wd, fl, j, t, h => by unfold edF at h; split at h <;> cases h; omega
  | r + 1, wd, fl, j, t, h => by
    unfold edF at h
    repeat' split at h
    all_goals first | (cases h; omega) | (have := edF_lt r _ _ _ h; omega)
theorem suF_lt {P : Nat → Nat} : ∀ (r s j : Nat) {t : Nat}, suF P r s j = some t → t ≤ j + r
  | 0, s, j, t, h => by unfold suF at h; split at h <;> cases h; omega
  | r + 1, s, j, t, h => by
    unfold suF at h
    split at h
    · cases h; omega
    · have := suF_lt r _ _ h; omega
def ftL (o : Option Nat) : Int32 := match o with
  | none => -4
  | some j => nI j
def lkFault (x : Int32) (w : Wd) : Int32 := if 0 ≤ x ∧ x ≤ 1 then (if x = 0 then ftL (edQ w) else ftL (suQ w)) else -1
theorem c_fault {M : Mem} {w : Wd} (hO : OkW w) (hC : CI M w) (x : Int32) : f_X5_fault 1 x M = some (lkFault x w) := by
  have hl := hO.2.2.2.2.2.1
  unfold f_X5_fault lkFault
  rw [lay3.1]
  by_cases h : 0 ≤ x ∧ x ≤ 1
  · rw [if_neg (isW_1 h), if_pos h]
    by_cases h0 : x = 0
    · rw [if_pos h0, if_pos h0, gdd_t lay1.1, gdd_t lay3.2.1, p_edQ hO hC.2.2.2.1, obb_s]
      cases he : edQ w with
      | none => rfl
      | some t =>
        have := edF_lt _ _ _ _ he
        rw [if_neg (ftE_some (by omega))]; rfl
    · rw [if_neg h0, if_neg h0, gdd_t lay1.1, gdd_t lay3.2.1, p_suQ hO hC.2.2.2.1, obb_s]
      cases he : suQ w with
      | none => rfl
      | some t =>
        have := suF_lt _ _ _ he
        rw [if_neg (ftE_some (by omega))]; rfl
  · rw [if_pos (isW_0 h), if_neg h]
