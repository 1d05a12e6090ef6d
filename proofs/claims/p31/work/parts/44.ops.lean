/-! PURE: stay, drop, the class -/
theorem EdR.mv {M : Mem} {e o o2 : Nat} {A A2 : Nat → Nat} (h : ∀ j, j < 16 → A2 (o2 + j) = A (o + j)) (hw : A o ≤ 12) (hE : EdR M e A o) : EdR M e A2 o2 := by
  obtain ⟨e0, e1, e2, e3, e4⟩ := hE
  have h0 : A2 o2 = A o := h 0 (by decide)
  refine ⟨by rw [h0, e0], by rw [h 1 (by decide), e1], by rw [h 2 (by decide), e2], by rw [h 3 (by decide), e3], fun j hj => ?_⟩
  rw [h0] at hj
  rw [e4 j hj, Nat.add_assoc o2, Nat.add_assoc o, h (4 + j) (by omega)]
theorem OkE.mv {o o2 : Nat} {A A2 : Nat → Nat} (h : ∀ j, j < 16 → A2 (o2 + j) = A (o + j)) (hE : OkE A o) : OkE A2 o2 := by
  obtain ⟨e0, e1, e2, e3, e4⟩ := hE
  have h0 : A2 o2 = A o := h 0 (by decide)
  refine ⟨by rw [h0]; exact e0, by rw [h0]; exact e1, by rw [h0, h 1 (by decide)]; exact e2, fun j hj => ?_, fun j hj hj2 => ?_⟩
  · rw [h0] at hj
    rw [Nat.add_assoc, h (4 + j) (by omega), ← Nat.add_assoc]
    exact e3 j hj
  · rw [h0] at hj
    rw [Nat.add_assoc, h (4 + j) (by omega), ← Nat.add_assoc]
    exact e4 j hj hj2
theorem rel_ed {M : Mem} {a : Nat} {A : Nat → Nat} (hO : Ok A) (hR : RelS M a A) {e i v : Nat} (he : e < A 3) (hi : 1 ≤ i ∧ i ≤ 3) : RelS (sI M (a + 5 + 2 * e) (i + 1) (nI v)) a (updN A (73 + 16 * e + i) v) ∧ Sm (fun q => q = a + 5 + 2 * e) M (sI M (a + 5 + 2 * e) (i + 1) (nI v)) := by
  have hm := hO.m
  have hn := hO.n
  have hS : Sm (fun q => q = a + 5 + 2 * e) M (sI M (a + 5 + 2 * e) (i + 1) (nI v)) := Sm.rf.p1
  have g : ∀ q, q ≠ a + 5 + 2 * e → ∀ k, gI (sI M (a + 5 + 2 * e) (i + 1) (nI v)) q k = gI M q k := fun q h k => gI_n (Or.inl h)
  have u : ∀ k, k < 73 → updN A (73 + 16 * e + i) v k = A k := fun k h => updN_n (by omega)
  refine ⟨⟨fun k hk => ?_, ?_, ?_, ?_, ?_, ?_, ?_, ?_, fun k hk => ?_, fun r hr => ?_⟩, hS⟩
  · rw [g _ (by omega), u _ (by omega)]; exact hR.w k hk
  · rw [g _ (by omega), u _ (by omega)]; exact hR.s0
  · rw [g _ (by omega), u _ (by omega)]; exact hR.s1
  · rw [g _ (by omega), u _ (by omega)]; exact hR.n
  · rw [g _ (by omega), u _ (by omega)]; exact hR.m
  · rw [g _ (by omega), u _ (by omega)]; exact hR.d
  · rw [g _ (by omega), u _ (by omega)]; exact hR.g
  · rw [g _ (by omega), u _ (by omega)]; exact hR.f
  · rw [u _ (by omega)] at hk
    by_cases hke : k = e
    · subst hke
      obtain ⟨e0, e1, e2, e3, e4⟩ := hR.e k hk
      have f : ∀ t, gI M (a + 5 + 2 * k) (t + 1) = nI (A (73 + 16 * k + t)) → gI (sI M (a + 5 + 2 * k) (i + 1) (nI v)) (a + 5 + 2 * k) (t + 1) = nI (updN A (73 + 16 * k + i) v (73 + 16 * k + t)) := by
        intro t ht
        by_cases h : t = i
        · subst h; rw [gI_s, updN_s]
        · rw [gI_n (by omega), updN_n (by omega), ht]
      refine ⟨f 0 e0, f 1 e1, f 2 e2, f 3 e3, fun j hj => ?_⟩
      rw [updN_n (by omega)] at hj
      rw [g _ (by omega), updN_n (by omega)]
      exact e4 j hj
    · exact ((hR.e k hk).sm hS (by omega) (by omega)).cg (fun j hj => updN_n (by omega)) (hO.e k hk).2.1
  · rw [u _ (by omega)] at hr
    exact ((hR.r r hr).sm hS (by omega)).cg hm (fun i hi hi2 => updN_n (by omega)) hO.q hr
theorem ok_ed {A : Nat → Nat} (hO : Ok A) {e i v : Nat} (he : e < A 3) (hi : 1 ≤ i ∧ i ≤ 3) (h1 : i = 1 → v < 2 ^ (A (73 + 16 * e) - 1)) : Ok (updN A (73 + 16 * e + i) v) := by
  have hm := hO.m
  have hn := hO.n
  have u : ∀ k, k < 73 → updN A (73 + 16 * e + i) v k = A k := fun k h => updN_n (by omega)
  refine ⟨by rw [u _ (by omega)]; exact hn, by rw [u _ (by omega)]; exact hm, fun k hk => by rw [u _ (by omega)]; exact hO.w k hk, by rw [u _ (by omega)]; exact hO.b, by rw [u _ (by omega)]; exact hO.h, fun k hk => ?_, fun r hr => ?_⟩
  · rw [u _ (by omega)] at hk
    by_cases hke : k = e
    · subst hke
      obtain ⟨e0, e1, e2, e3, e4⟩ := hO.e k hk
      have z : updN A (73 + 16 * k + i) v (73 + 16 * k) = A (73 + 16 * k) := updN_n (by omega)
      refine ⟨by rw [z]; exact e0, by rw [z]; exact e1, ?_, fun j hj => ?_, fun j hj hj2 => ?_⟩
      · rw [z]
        by_cases h : 1 = i
        · subst h; rw [updN_s]; exact h1 rfl
        · rw [updN_n (by omega)]; exact e2
      · rw [z] at hj
        rw [updN_n (by omega)]; exact e3 j hj
      · rw [z] at hj
        rw [updN_n (by omega)]; exact e4 j hj hj2
    · exact (hO.e k hk).cg (fun j hj => updN_n (by omega))
  · rw [u _ (by omega)] at hr
    have hr4 := hO.m
    exact (hO.r r hr).cg (fun j hj => updN_n (by omega))
def opStay (x y : Int32) (w : Wd) : Int32 × Wd := match ixO x (w.A 3) with
  | none => (-1, w)
  | some e => if 0 ≤ y ∧ y ≤ 30 then (nI (w.A (75 + 16 * e)), (keepW w).toA (updN w.A (73 + 16 * e + 2) (w.A 0 + y.toNatClampNeg))) else (-1, w)
theorem c_stay {M : Mem} {w : Wd} (hO : OkW w) (hC : CI M w) (x y : Int32) : CRes (f_X5_stay 1 x y M) M (opStay x y w).1 (opStay x y w).2 := by
  have hn := hO.1.n
  unfold f_X5_stay opStay
  rw [gdd_t lay1.1, lay1.2.1, gdd_t lay1.2.2.2]
  rcases ix_cases x (n := w.A 3) (by omega) with ⟨e, he, rfl⟩ | ⟨hx, hx2⟩
  · rw [p_edAt lay1.2.2.2 hC.1.n hn he, obb_s, if_neg (by omega), ixO_s (by omega) he]
    by_cases h2 : 0 ≤ y ∧ y ≤ 30
    · obtain ⟨v, v1, rfl⟩ := in_ex (b := 30) (by decide) h2.1 h2.2
      obtain ⟨M1, r1, r2, r3⟩ := p_keep hO hC
      have hR : RelS M1 12 w.A := by rw [← keepW_A w]; exact r2.1
      obtain ⟨t1, t2⟩ := rel_ed hO.1 hR (i := 2) (v := w.A 0 + v) he (by omega)
      rw [if_neg (isW_1 h2), r1, obb_s, gdd_t (st_ed lay1.2.2.2 (show e < 4 by omega)).2, bvv_e, hR.d, nI_add, bvv_e, (hR.e e he).2.2.1]
      simp only [if_pos h2]
      rw [nI_clamp (by omega), show 75 + 16 * e = 73 + 16 * e + 2 by omega]
      exact ⟨_, rfl, CI.sa (keepW_ok hO) r2 t2 (fun r hr => by omega) t1, (r3.mono (fun r h => h.lt)).tr (t2.i.mono (fun r h => by omega))⟩
    · rw [if_pos (isW_0 h2)]
      simp only [if_neg h2]
      exact CRes.no hC
  · rw [p_edAtO lay1.2.2.2 hC.1.n hx, obb_s, if_pos rfl, hx2]
    exact CRes.no hC
def dropA (A : Nat → Nat) (e : Nat) : Nat → Nat := fun k => if k = 3 then A 3 - 1 else if k < 73 + 16 * e then A k else if 121 ≤ k then 0 else A (k + 16)
theorem p_dropL {M : Mem} {a e : Nat} {A : Nat → Nat} (ha : kd a = 5) (hO : Ok A) (he : e < A 3) : ∀ (n j : Nat) (M1 : Mem), e < j → j ≤ A 3 → A 3 - j < n → Sm (fun r => r = a ∨ (a + 5 ≤ r ∧ r < a + 13)) M M1 → (∀ k, k ≠ 4 → gI M1 a k = gI M a k) → gI M1 a 4 = nI (A 3) →
    (∀ k, k < e → EdR M1 (a + 5 + 2 * k) A (73 + 16 * k)) → (∀ k, e ≤ k → k + 1 < j → EdR M1 (a + 5 + 2 * k) A (73 + 16 * (k + 1))) → (∀ k, j ≤ k → k < A 3 → EdR M1 (a + 5 + 2 * k) A (73 + 16 * k)) →
    ∃ M2, f_X4_removeEdition_4 n a (nI j) M1 = some M2 ∧ Sm (fun r => r = a ∨ (a + 5 ≤ r ∧ r < a + 13)) M M2 ∧ (∀ k, k ≠ 4 → gI M2 a k = gI M a k) ∧ gI M2 a 4 = nI (A 3 - 1) ∧ (∀ k, k < e → EdR M2 (a + 5 + 2 * k) A (73 + 16 * k)) ∧ ∀ k, e ≤ k → k + 1 < A 3 → EdR M2 (a + 5 + 2 * k) A (73 + 16 * (k + 1)) := by
  have hn3 := hO.n
  intro n
  induction n with
  | zero => intro j _ _ _ h; omega
  | succ n ih =>
    intro j M1 hej hj hn hS h0 c4 e1 e2 e3
    rw [f_X4_removeEdition_4, gdd_t ha, c4]
    by_cases h : j = A 3
    · subst h
      have hS1 : Sm (fun q => q = a) M1 (sI M1 a 4 (nI (A 3 - 1))) := Sm.rf.p1
      rw [if_pos (nI_le' (by omega) (by omega) (by omega)), nI_sub1 (by omega), bvv_e]
      exact ⟨_, rfl, hS.tr (hS1.mono (fun r h => Or.inl h)), fun k hk => by rw [gI_n (Or.inr hk)]; exact h0 k hk, gI_s, fun k hk => (e1 k hk).sm hS1 (by omega) (by omega), fun k hk hk2 => (e2 k hk hk2).sm hS1 (by omega) (by omega)⟩
    · have hlt : j < A 3 := by omega
      obtain ⟨M2, r1, r2, r3⟩ := p_copyEdition (e := a + 5 + 2 * j) (j := j - 1) ha (st_ed ha (show j < 4 by omega)).2 hn3 (by omega) (by omega) c4
      rw [if_neg (nI_nle' (by omega) (by omega) hlt), p_edAt ha c4 hn3 hlt, obb_s, nI_sub1 (by omega), r1, obb_s, bvv_e, nI_1]
      have nx : ∀ q, (q < a + 5 + 2 * (j - 1) ∨ a + 7 + 2 * (j - 1) ≤ q) → ¬ EdX (a + 5 + 2 * (j - 1)) q := fun q h h2 => by unfold EdX at h2; omega
      refine ih (j + 1) M2 (by omega) (by omega) (by omega) (hS.tr (r2.mono (fun r h => by unfold EdX at h; omega))) (fun k hk => (r2.1 _ _ (nx _ (by omega))).trans (h0 k hk)) ((r2.1 _ _ (nx _ (by omega))).trans c4) (fun k hk => (e1 k hk).sm r2 (nx _ (by omega)) (nx _ (by omega))) (fun k hk hk2 => ?_) (fun k hk hk2 => (e3 k (by omega) hk2).sm r2 (nx _ (by omega)) (nx _ (by omega)))
      by_cases hkj : k = j - 1
      · subst hkj
        have := r3.r (e3 j (by omega) hlt) (hO.e j hlt).2.1
        rwa [show 73 + 16 * j = 73 + 16 * (j - 1 + 1) by omega] at this
      · exact (e2 k hk (by omega)).sm r2 (nx _ (by omega)) (nx _ (by omega))
theorem dropA_lo {A : Nat → Nat} {e k : Nat} (h : k < 73 + 16 * e) (h3 : k ≠ 3) : dropA A e k = A k := by unfold dropA; rw [if_neg h3, if_pos h]
theorem dropA_hi {A : Nat → Nat} {e k : Nat} (h : 73 + 16 * e ≤ k) (h2 : k < 121) : dropA A e k = A (k + 16) := by unfold dropA; rw [if_neg (by omega), if_neg (by omega), if_neg (by omega)]
theorem ok_drop {A : Nat → Nat} (hO : Ok A) {e : Nat} (he : e < A 3) : Ok (dropA A e) := by
  have hm := hO.m
  have hn := hO.n
  have e3 : dropA A e 3 = A 3 - 1 := rfl
  have u : ∀ k, k < 73 → k ≠ 3 → dropA A e k = A k := fun k h h3 => dropA_lo (by omega) h3
  refine ⟨by rw [e3]; omega, by rw [u _ (by omega) (by omega)]; exact hm, fun k hk => by rw [u _ (by omega) (by omega)]; exact hO.w k hk, by rw [u _ (by omega) (by omega)]; exact hO.b, by rw [u _ (by omega) (by omega)]; exact hO.h, fun k hk => ?_, fun r hr => ?_⟩
  · rw [e3] at hk
    by_cases h : k < e
    · exact (hO.e k (by omega)).mv (fun j hj => dropA_lo (by omega) (by omega))
    · exact (hO.e (k + 1) (by omega)).mv (fun j hj => by rw [dropA_hi (by omega) (by omega)]; congr 1; omega)
  · rw [u _ (by omega) (by omega)] at hr
    exact (hO.r r hr).cg (fun j hj => u _ (by omega) (by omega))
theorem p_removeEd {M : Mem} {a e : Nat} {A : Nat → Nat} (ha : kd a = 5) (hO : Ok A) (hR : RelS M a A) (he : e < A 3) : ∃ M2, f_X4_removeEdition a (nI e) M = some M2 ∧ Sm (StX a) M M2 ∧ RelS M2 a (dropA A e) := by
  have hm := hO.m
  have hn := hO.n
  obtain ⟨M2, r1, r2, r3, r4, r5, r6⟩ := p_dropL (M := M) ha hO he FU (e + 1) M (by omega) (by omega) (by unfold FU; omega) Sm.rf (fun _ _ => rfl) hR.n (fun k hk => hR.e k (by omega)) (fun k h1 h2 => by omega) (fun k h1 h2 => hR.e k h2)
  refine ⟨M2, ?_, r2.mono (fun r h => by unfold StX; omega), ?_⟩
  · unfold f_X4_removeEdition
    rw [bvv_e, nI_1]; exact r1
  have e3 : dropA A e 3 = A 3 - 1 := rfl
  have u : ∀ k, k < 73 → k ≠ 3 → dropA A e k = A k := fun k h h3 => dropA_lo (by omega) h3
  have g : ∀ q, (q ≠ a ∧ q < a + 5) ∨ a + 13 ≤ q → ∀ k, gI M2 q k = gI M q k := fun q h k => r2.1 q k (by omega)
  refine ⟨fun k hk => ?_, ?_, ?_, ?_, ?_, ?_, ?_, ?_, fun k hk => ?_, fun r hr => ?_⟩
  · rw [g _ (by omega), u _ (by omega) (by omega)]; exact hR.w k hk
  · rw [g _ (by omega), u _ (by omega) (by omega)]; exact hR.s0
  · rw [g _ (by omega), u _ (by omega) (by omega)]; exact hR.s1
  · rw [r4, e3]
  · rw [r3 _ (by omega), u _ (by omega) (by omega)]; exact hR.m
  · rw [r3 _ (by omega), u _ (by omega) (by omega)]; exact hR.d
  · rw [r3 _ (by omega), u _ (by omega) (by omega)]; exact hR.g
  · rw [r3 _ (by omega), u _ (by omega) (by omega)]; exact hR.f
  · rw [e3] at hk
    by_cases h : k < e
    · exact (r5 k h).mv (fun j hj => dropA_lo (by omega) (by omega)) (hO.e k (by omega)).2.1
    · exact (r6 k (by omega) (by omega)).mv (fun j hj => by rw [dropA_hi (by omega) (by omega)]; congr 1; omega) (hO.e (k + 1) (by omega)).2.1
  · rw [u _ (by omega) (by omega)] at hr
    exact ((hR.r r hr).sm r2 (by omega)).cg hm (fun i hi hi2 => u _ (by omega) (by omega)) hO.q hr
def opDrop (x : Int32) (w : Wd) : Int32 × Wd := match ixO x (w.A 3) with
  | none => (-1, w)
  | some e => (nI (w.A 3 - 1), (keepW w).toA (dropA w.A e))
theorem c_drop {M : Mem} {w : Wd} (hO : OkW w) (hC : CI M w) (x : Int32) : CRes (f_X5_drop 1 x M) M (opDrop x w).1 (opDrop x w).2 := by
  have hn := hO.1.n
  unfold f_X5_drop opDrop
  rw [gdd_t lay1.1, lay1.2.1, gdd_t lay1.2.2.2]
  rcases ix_cases x (n := w.A 3) (by omega) with ⟨e, he, rfl⟩ | ⟨hx, hx2⟩
  · obtain ⟨M1, r1, r2, r3⟩ := p_keep hO hC
    have hR : RelS M1 12 w.A := by rw [← keepW_A w]; exact r2.1
    obtain ⟨M2, s1, s2, s3⟩ := p_removeEd lay1.2.2.2 hO.1 hR he
    rw [p_edAt lay1.2.2.2 hC.1.n hn he, obb_s, if_neg (by omega), ixO_s (by omega) he, r1, obb_s, s1, obb_s, s3.n]
    exact ⟨_, rfl, CI.sa (keepW_ok hO) r2 s2 (fun r hr => by unfold StX at hr; omega) s3, (r3.mono (fun r h => h.lt)).tr (s2.i.mono (fun r h => by unfold StX at h; omega))⟩
  · rw [p_edAtO lay1.2.2.2 hC.1.n hx, obb_s, if_pos rfl, hx2]
    exact CRes.no hC
