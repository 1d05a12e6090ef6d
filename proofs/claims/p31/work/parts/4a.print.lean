/-! PURE: print, the class -/
def wN (P : Nat → Nat) : Nat → Nat
  | 0 => 0
  | j + 1 => if P j = 44 then wN P j else wN P j + 1
def cN (P : Nat → Nat) : Nat → Nat
  | 0 => 0
  | j + 1 => if P j = 44 then cN P j ||| 2 ^ (wN P j - 1) else cN P j
def kK (P : Nat → Nat) : Nat → Nat → Nat
  | 0 => fun _ => 0
  | j + 1 => if P j = 44 then kK P j else updN (kK P j) (wN P j) (P j - 97)
def gdS (P : Nat → Nat) (i : Nat) : Prop := (97 ≤ P i ∧ P i ≤ 102) ∧ wN P i < 12 ∨ P i = 44 ∧ 1 ≤ wN P i ∧ wN P i < 12 ∧ cN P i < 2 ^ (wN P i - 1)
theorem edF_ok {P : Nat → Nat} : ∀ (r wd fl j : Nat), edF P r wd fl j = none → wd = wN P j → wd ≤ 12 → (fl = 0 → 1 ≤ wd ∧ cN P j < 2 ^ (wd - 1)) → cN P j < 2 ^ wd →
    (∀ i, j ≤ i → i < j + r → gdS P i) ∧ 1 ≤ wN P (j + r) ∧ wN P (j + r) ≤ 12 ∧ cN P (j + r) < 2 ^ (wN P (j + r) - 1)
  | 0, wd, fl, j, h, hw, h12, h0, hc => by
    unfold edF at h
    split at h
    · rename_i hf
      obtain ⟨a1, a2⟩ := h0 hf
      subst hw
      exact ⟨fun i h1 h2 => by omega, a1, h12, a2⟩
    · cases h
  | r + 1, wd, fl, j, h, hw, h12, h0, hc => by
    unfold edF at h
    by_cases h1 : 97 ≤ P j ∧ P j ≤ 102
    · rw [if_pos h1] at h
      by_cases h2 : wd < 12
      · rw [if_pos h2] at h
        have e1 : wN P (j + 1) = wd + 1 := by rw [wN, if_neg (by omega), hw]
        have e2 : cN P (j + 1) = cN P j := by rw [cN, if_neg (by omega)]
        obtain ⟨a1, a2⟩ := edF_ok r (wd + 1) 0 (j + 1) h e1.symm (by omega) (fun _ => ⟨by omega, by rw [e2]; exact hc⟩) (by rw [e2]; exact Nat.lt_of_lt_of_le hc (Nat.pow_le_pow_right (by decide) (by omega)))
        rw [show j + 1 + r = j + (r + 1) by omega] at a1 a2
        refine ⟨fun i i1 i2 => ?_, a2⟩
        by_cases e : i = j
        · subst e; exact Or.inl ⟨h1, by omega⟩
        · exact a1 i (by omega) i2
      · rw [if_neg h2] at h; cases h
    · rw [if_neg h1] at h
      by_cases h3 : P j = 44
      · rw [if_pos h3] at h
        by_cases hf : fl = 0
        · rw [if_pos hf] at h
          obtain ⟨b1, b2⟩ := h0 hf
          by_cases h2 : wd < 12
          · rw [if_pos h2] at h
            have e1 : wN P (j + 1) = wd := by rw [wN, if_pos h3, hw]
            have e2 : cN P (j + 1) = cN P j ||| 2 ^ (wd - 1) := by rw [cN, if_pos h3, hw]
            have e3 : cN P (j + 1) < 2 ^ wd := by
              rw [e2]
              exact Nat.or_lt_two_pow hc (Nat.pow_lt_pow_right (by decide) (by omega))
            obtain ⟨a1, a2⟩ := edF_ok r wd 1 (j + 1) h e1.symm (by omega) (fun z => by omega) e3
            rw [show j + 1 + r = j + (r + 1) by omega] at a1 a2
            refine ⟨fun i i1 i2 => ?_, a2⟩
            by_cases e : i = j
            · subst e; exact Or.inr ⟨h3, by omega, by omega, by rw [← hw]; exact b2⟩
            · exact a1 i (by omega) i2
          · rw [if_neg h2] at h; cases h
        · rw [if_neg hf] at h; cases h
      · rw [if_neg h3] at h; cases h
theorem kK_0 {P : Nat → Nat} : ∀ j i, wN P j ≤ i → kK P j i = 0
  | 0, _, _ => rfl
  | j + 1, i, h => by
    rw [kK]
    by_cases e : P j = 44
    · rw [wN, if_pos e] at h
      rw [if_pos e]; exact kK_0 j i h
    · rw [wN, if_neg e] at h
      rw [if_neg e, updN_n (by omega)]; exact kK_0 j i (by omega)
theorem kK_6 {P : Nat → Nat} : ∀ j, (∀ i, i < j → gdS P i) → ∀ i, kK P j i < 6
  | 0, _, _ => by show 0 < 6; decide
  | j + 1, h, i => by
    have h1 := kK_6 j (fun i hi => h i (by omega)) i
    rw [kK]
    by_cases e : P j = 44
    · rw [if_pos e]; exact h1
    · rw [if_neg e]
      by_cases z : i = wN P j
      · rw [z, updN_s]
        rcases h j (by omega) with ⟨a, -⟩ | ⟨a, -⟩ <;> omega
      · rw [updN_n z]; exact h1
def txT (P : Nat → Nat) (l : Nat) : Nat → Nat := fun k => if k = 0 then wN P l else if k = 1 then cN P l else if k < 4 then 0 else kK P l (k - 4)
theorem nx_or (a b : Nat) : nI a ||| nI b = nI (a ||| b) := by
  apply Int32.toBitVec_inj.1
  show BitVec.ofNat 32 a ||| BitVec.ofNat 32 b = BitVec.ofNat 32 (a ||| b)
  apply BitVec.eq_of_getLsbD_eq
  intro i hi
  simp [hi]
theorem lay4 : fld 1 4 = 5 ∧ kd 5 = 1 ∧ fld 5 0 = 6 ∧ kd 6 = 8 ∧ ln 6 = 12 := by decide +kernel
def DrX : Nat → Prop := fun r => r = 5 ∨ r = 6
theorem p_writeL {M0 : Mem} {l : Nat} {P : Nat → Nat} (hl : l ≤ 60) (hg : ∀ i, i < l → gdS P i) : ∀ (n j : Nat) (M : Mem), j ≤ l → l - j < n → Sm DrX M0 M → PadR M l P → gI M 5 1 = nI (wN P j) → gI M 5 2 = nI (cN P j) → (∀ i, i < wN P j → gI M 6 i = nI (kK P j i)) →
    ∃ M2, f_X1_writeTo_12 n 3 5 (nI j) M = some M2 ∧ Sm DrX M0 M2 ∧ PadR M2 l P ∧ gI M2 5 1 = nI (wN P l) ∧ gI M2 5 2 = nI (cN P l) ∧ ∀ i, i < wN P l → gI M2 6 i = nI (kK P l i) := by
  intro n
  induction n with
  | zero => intro j _ _ h; omega
  | succ n ih =>
    intro j M hj hn hS hP w1 w2 w3
    rw [f_X1_writeTo_12, gdd_t lay3.2.1, hP.1]
    by_cases h : j = l
    · subst h
      rw [if_pos (nI_le' (by omega) (by omega) (by omega))]
      exact ⟨M, rfl, hS, hP, w1, w2, w3⟩
    · have hlt : j < l := by omega
      have hgj := hg j hlt
      have padn : ∀ {M2 : Mem}, (∀ r k, (r = 3 ∨ r = 4 ∨ (r = 5 ∧ 3 ≤ k)) → gI M2 r k = gI M r k) → PadR M2 l P := fun h => ⟨(h 3 1 (Or.inl rfl)).trans hP.1, fun i hi => (h 4 i (Or.inr (Or.inl rfl))).trans (hP.2.1 i hi), (h 5 3 (Or.inr (Or.inr ⟨rfl, by decide⟩))).trans hP.2.2.1, (h 5 4 (Or.inr (Or.inr ⟨rfl, by decide⟩))).trans hP.2.2.2⟩
      have hP126 : P j ≤ 126 := by rcases hgj with ⟨a, -⟩ | ⟨a, -⟩ <;> omega
      have hw12 : wN P j < 12 := by rcases hgj with ⟨-, a⟩ | ⟨-, -, a, -⟩ <;> omega
      rw [if_neg (nI_nle' (by omega) (by omega) hlt), p_signAt hP hl hlt, obb_s, show (44 : Int32) = nI 44 from rfl]
      by_cases h3 : P j = 44
      · have g2 : 1 ≤ wN P j ∧ cN P j < 2 ^ (wN P j - 1) := by
          rcases hgj with ⟨a, -⟩ | ⟨-, a, -, b⟩
          · omega
          · exact ⟨a, b⟩
        rw [if_pos (by rw [h3]), gdd_t lay4.2.1, w1, w2, nI_sub1 g2.1, p_shl1 (by omega), nx_or, bvv_e, bvv_e, nI_1]
        refine ih (j + 1) _ (by omega) (by omega) (hS.put (Or.inl rfl)) (padn (fun r k h => gI_n (by omega))) ?_ ?_ (fun i hi => ?_)
        · rw [gI_n (Or.inr (by decide)), w1, wN, if_pos h3]
        · rw [gI_s, cN, if_pos h3]
        · rw [wN, if_pos h3] at hi
          rw [gI_n (Or.inl (by decide)), w3 i hi, kK, if_pos h3]
      · have g2 : 97 ≤ P j ∧ P j ≤ 102 := by
          rcases hgj with ⟨a, -⟩ | ⟨a, -⟩
          · exact a
          · exact absurd a h3
        rw [if_neg (nI_ne (by omega) (by decide) h3), gdd_t lay4.2.1, w1, show (97 : Int32) = nI 97 from rfl, pk_sub g2.1, lay4.2.2.1, p_put lay4.2.2.2.1 (by rw [lay4.2.2.2.2]; exact hw12) (by rw [lay4.2.2.2.2]; decide), obb_s, gI_n (Or.inl (by decide)), w1, nI_1, bvv_e, bvv_e, nI_1]
        refine ih (j + 1) _ (by omega) (by omega) ((hS.put (Or.inr rfl)).put (Or.inl rfl)) (padn (fun r k h => by rw [gI_n (by omega), gI_n (by omega)])) ?_ ?_ (fun i hi => ?_)
        · rw [gI_s, wN, if_neg h3]
        · rw [gI_n (Or.inr (by decide)), gI_n (Or.inl (by decide)), w2, cN, if_neg h3]
        · rw [wN, if_neg h3] at hi
          rw [gI_n (Or.inl (by decide)), kK, if_neg h3]
          by_cases z : i = wN P j
          · rw [z, gI_s, updN_s]
          · rw [gI_n (Or.inr z), updN_n z, w3 i (by omega)]
theorem p_write {M : Mem} {l : Nat} {P : Nat → Nat} (hl : l ≤ 60) (hP : PadR M l P) (he : edF P l 0 1 0 = none) : ∃ M2, f_X1_writeTo 3 5 M = some M2 ∧ Sm DrX M M2 ∧ PadR M2 l P ∧ EdR M2 5 (txT P l) 0 ∧ OkE (txT P l) 0 := by
  obtain ⟨g1, g2, g3, g4⟩ := edF_ok l 0 1 0 he rfl (by decide) (fun h => by omega) (by show 0 < 1; decide)
  rw [Nat.zero_add] at g1 g2 g3 g4
  have g1' : ∀ i, i < l → gdS P i := fun i hi => g1 i (Nat.zero_le _) hi
  obtain ⟨M2, r1, r2, r3, r4, r5, r6⟩ := p_writeL (M0 := M) hl g1' FU 0 (sI (sI M 5 1 0) 5 2 0) (by omega) (by unfold FU; omega) ((Sm.rf.put (Or.inl rfl)).put (Or.inl rfl)) ⟨by rw [gI_n (Or.inl (by decide)), gI_n (Or.inl (by decide))]; exact hP.1, fun i hi => by rw [gI_n (Or.inl (by decide)), gI_n (Or.inl (by decide))]; exact hP.2.1 i hi, by rw [gI_n (Or.inr (by decide)), gI_n (Or.inr (by decide))]; exact hP.2.2.1, by rw [gI_n (Or.inr (by decide)), gI_n (Or.inr (by decide))]; exact hP.2.2.2⟩ (by rw [gI_n (Or.inr (by decide)), gI_s]; rfl) (by rw [gI_s]; rfl) (fun i hi => absurd hi (by show ¬ i < 0; omega))
  have t4 : ∀ j, txT P l (0 + 4 + j) = kK P l j := fun j => by
    unfold txT
    rw [if_neg (by omega), if_neg (by omega), if_neg (by omega), show 0 + 4 + j - 4 = j by omega]
  refine ⟨M2, ?_, r2, r3, ⟨r4, r5, r3.2.2.1, r3.2.2.2, fun j hj => ?_⟩, ⟨g2, g3, g4, fun j hj => ?_, fun j hj hj2 => ?_⟩⟩
  · unfold f_X1_writeTo
    rw [gdd_t lay4.2.1, bvv_e, bvv_e]
    exact r1
  · rw [t4]; exact r6 j hj
  · rw [t4]; exact kK_6 l g1' j
  · rw [t4]; exact kK_0 l j hj
