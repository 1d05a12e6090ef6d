/-! PURE: suits, stays, drops -/
theorem uq_cg {A A2 : Nat → Nat} (hO : Ok A) (h3 : A2 3 = A 3) (h : ∀ e, e < A 3 → A2 (73 + 16 * e) = A (73 + 16 * e) ∧ A2 (74 + 16 * e) = A (74 + 16 * e) ∧ ∀ t, t < 12 → A2 (77 + 16 * e + t) = A (77 + 16 * e + t)) (hU : Uq A) : Uq A2 := by
  intro i j hij hj ha
  rw [h3] at hj
  obtain ⟨a1, a2, a3⟩ := ha
  obtain ⟨i1, i2, i3⟩ := h i (by omega)
  obtain ⟨j1, j2, j3⟩ := h j hj
  have hw := (hO.e i (by omega)).2.1
  rw [i1] at a1 a3
  rw [j1] at a1
  rw [i2, j2] at a2
  refine hU i j hij hj ⟨a1, a2, fun t ht => ?_⟩
  have := a3 t ht
  rwa [i3 t (by omega), j3 t (by omega)] at this
theorem uq_drop {A : Nat → Nat} (hO : Ok A) {e : Nat} (he : e < A 3) (hU : Uq A) : Uq (dropA A e) := by
  have h4 := hO.n
  have key : ∀ i, i < A 3 - 1 → ∃ i2, i2 < A 3 ∧ (i2 = if i < e then i else i + 1) ∧ ∀ j, j < 16 → dropA A e (73 + 16 * i + j) = A (73 + 16 * i2 + j) := by
    intro i hi
    by_cases h : i < e
    · exact ⟨i, by omega, by rw [if_pos h], fun j hj => dropA_lo (by omega) (by omega)⟩
    · exact ⟨i + 1, by omega, by rw [if_neg h], fun j hj => by rw [dropA_hi (by omega) (by omega), show 73 + 16 * i + j + 16 = 73 + 16 * (i + 1) + j by omega]⟩
  have e3 : dropA A e 3 = A 3 - 1 := by unfold dropA; rw [if_pos rfl]
  intro i j hij hj ha
  rw [e3] at hj
  obtain ⟨a1, a2, a3⟩ := ha
  obtain ⟨i2, p1, p2, p3⟩ := key i (by omega)
  obtain ⟨j2, q1, q2, q3⟩ := key j hj
  have hlt : i2 < j2 := by
    rw [p2, q2]
    split <;> split <;> omega
  have u0 := p3 0 (by decide)
  have v0 := q3 0 (by decide)
  have u1 := p3 1 (by decide)
  have v1 := q3 1 (by decide)
  rw [Nat.add_zero, Nat.add_zero] at u0 v0
  rw [u0] at a1 a3
  rw [v0] at a1
  rw [show 74 + 16 * i = 73 + 16 * i + 1 by omega, show 74 + 16 * j = 73 + 16 * j + 1 by omega, u1, v1] at a2
  have hw := (hO.e i2 p1).2.1
  refine hU i2 j2 hlt q1 ⟨a1, by rw [show 74 + 16 * i2 = 73 + 16 * i2 + 1 by omega, show 74 + 16 * j2 = 73 + 16 * j2 + 1 by omega]; exact a2, fun t ht => ?_⟩
  have := a3 t ht
  rw [show 77 + 16 * i + t = 73 + 16 * i + (4 + t) by omega, show 77 + 16 * j + t = 73 + 16 * j + (4 + t) by omega, p3 _ (by omega), q3 _ (by omega)] at this
  rw [show 77 + 16 * i2 + t = 73 + 16 * i2 + (4 + t) by omega, show 77 + 16 * j2 + t = 73 + 16 * j2 + (4 + t) by omega]
  exact this
/-! a suit that is decided -/
theorem dec_g {A : Nat → Nat} {e g : Nat} (h : rsnN A (73 + 16 * e) g = 0) : decA A e g = (10 + (nI (costN A (73 + 16 * e) (A (73 + 16 * e + 1))) - nI (costN A (73 + 16 * e) (flN (A (73 + 16 * e + 1)) g))), updN (updN (updN A (73 + 16 * e + 1) (flN (A (73 + 16 * e + 1)) g)) (73 + 16 * e + 3) (A (73 + 16 * e + 3) + 1)) 5 (A 5 + 1)) := by unfold decA; rw [if_pos h]
theorem dec_r {A : Nat → Nat} {e g : Nat} (h : ¬ rsnN A (73 + 16 * e) g = 0) : decA A e g = (nI (rsnN A (73 + 16 * e) g), updN A 6 (A 6 + 1)) := by unfold decA; rw [if_neg h]
theorem dec_g1 {A : Nat → Nat} {e g : Nat} (h : rsnN A (73 + 16 * e) g = 0) : (decA A e g).1 = 10 + (nI (costN A (73 + 16 * e) (A (73 + 16 * e + 1))) - nI (costN A (73 + 16 * e) (flN (A (73 + 16 * e + 1)) g))) := by rw [dec_g h]
theorem dec_g2 {A : Nat → Nat} {e g : Nat} (h : rsnN A (73 + 16 * e) g = 0) : (decA A e g).2 = updN (updN (updN A (73 + 16 * e + 1) (flN (A (73 + 16 * e + 1)) g)) (73 + 16 * e + 3) (A (73 + 16 * e + 3) + 1)) 5 (A 5 + 1) := by rw [dec_g h]
theorem dec_r1 {A : Nat → Nat} {e g : Nat} (h : ¬ rsnN A (73 + 16 * e) g = 0) : (decA A e g).1 = nI (rsnN A (73 + 16 * e) g) := by rw [dec_r h]
theorem dec_r2 {A : Nat → Nat} {e g : Nat} (h : ¬ rsnN A (73 + 16 * e) g = 0) : (decA A e g).2 = updN A 6 (A 6 + 1) := by rw [dec_r h]
theorem uq_dec {A : Nat → Nat} (hO : Ok A) {e g : Nat} (he : e < A 3) (hU : Uq A) : Uq (decA A e g).2 := by
  have h4 := hO.n
  by_cases h : rsnN A (73 + 16 * e) g = 0
  · have hk : ¬ anyF (lkE A (A (73 + 16 * e)) (fun j => A (73 + 16 * e + 4 + j)) (flN (A (73 + 16 * e + 1)) g)) 0 (A 3) = true := by
      intro z
      unfold rsnN at h
      split at h
      · cases h
      · split at h
        · cases h
        · first | (cases h; done) | (rw [if_pos z] at h; cases h)
    rw [dec_g2 h]
    intro i j hij hj ha
    have e3 : (updN (updN (updN A (73 + 16 * e + 1) (flN (A (73 + 16 * e + 1)) g)) (73 + 16 * e + 3) (A (73 + 16 * e + 3) + 1)) 5 (A 5 + 1)) 3 = A 3 := by rw [updN_n (by omega), updN_n (by omega), updN_n (by omega)]
    simp only [e3] at hj
    obtain ⟨a1, a2, a3⟩ := ha
    have o : ∀ k, 73 ≤ k → k ≠ 73 + 16 * e + 1 → k ≠ 73 + 16 * e + 3 → (updN (updN (updN A (73 + 16 * e + 1) (flN (A (73 + 16 * e + 1)) g)) (73 + 16 * e + 3) (A (73 + 16 * e + 3) + 1)) 5 (A 5 + 1)) k = A k := fun k h1 h2 h3 => by
      rw [updN_n (by omega), updN_n h3, updN_n h2]
    have os : (updN (updN (updN A (73 + 16 * e + 1) (flN (A (73 + 16 * e + 1)) g)) (73 + 16 * e + 3) (A (73 + 16 * e + 3) + 1)) 5 (A 5 + 1)) (74 + 16 * e) = flN (A (73 + 16 * e + 1)) g := by
      rw [show 74 + 16 * e = 73 + 16 * e + 1 by omega, updN_n (by omega), updN_n (by omega), updN_s]
    have wi := (hO.e i (by omega)).2.1
    have wj := (hO.e j hj).2.1
    rw [o (73 + 16 * i) (by omega) (by omega) (by omega)] at a1 a3
    rw [o (73 + 16 * j) (by omega) (by omega) (by omega)] at a1
    have a3' : ∀ t, t < A (73 + 16 * i) → A (77 + 16 * i + t) = A (77 + 16 * j + t) := fun t ht => by
      have := a3 t ht
      rwa [o _ (by omega) (by omega) (by omega), o _ (by omega) (by omega) (by omega)] at this
    by_cases hie : i = e
    · subst hie
      rw [os, o (74 + 16 * j) (by omega) (by omega) (by omega)] at a2
      exact hk ((anyF_iff _ _).mpr ⟨j, by omega, by omega, lkE_iff.mpr ⟨a2.symm, a1.symm, fun t ht => by
        have := a3' t ht
        rw [show 73 + 16 * j + 4 + t = 77 + 16 * j + t by omega, show 73 + 16 * i + 4 + t = 77 + 16 * i + t by omega]
        exact this.symm⟩⟩)
    · rw [o (74 + 16 * i) (by omega) (by omega) (by omega)] at a2
      by_cases hje : j = e
      · subst hje
        rw [os] at a2
        exact hk ((anyF_iff _ _).mpr ⟨i, by omega, by omega, lkE_iff.mpr ⟨a2, a1, fun t ht => by
          have := a3' t (by omega)
          rw [show 73 + 16 * j + 4 + t = 77 + 16 * j + t by omega, show 73 + 16 * i + 4 + t = 77 + 16 * i + t by omega]
          exact this⟩⟩)
      · rw [o (74 + 16 * j) (by omega) (by omega) (by omega)] at a2
        exact hU i j hij hj ⟨a1, a2, a3'⟩
  · rw [dec_r2 h]
    exact uq_cg hO (updN_n (by omega)) (fun k _ => ⟨updN_n (by omega), updN_n (by omega), fun t _ => updN_n (by omega)⟩) hU
theorem dec_0 {A : Nat → Nat} {e g : Nat} : (decA A e g).2 0 = A 0 ∧ (decA A e g).2 3 = A 3 := by
  by_cases h : rsnN A (73 + 16 * e) g = 0
  · rw [dec_g2 h]
    exact ⟨by rw [updN_n (by omega), updN_n (by omega), updN_n (by omega)], by rw [updN_n (by omega), updN_n (by omega), updN_n (by omega)]⟩
  · rw [dec_r2 h]
    exact ⟨updN_n (by omega), updN_n (by omega)⟩
/-- the costs behind a granted suit -/
theorem ce_dec {A : Nat → Nat} (hO : Ok A) {e g : Nat} (he : e < A 3) (h : rsnN A (73 + 16 * e) g = 0) : sumN (ceN (decA A e g).2) (A 3) + costN A (73 + 16 * e) (A (73 + 16 * e + 1)) = sumN (ceN A) (A 3) + costN A (73 + 16 * e) (flN (A (73 + 16 * e + 1)) g) := by
  have h4 := hO.n
  have hm := hO.m
  rw [dec_g2 h]
  have o : ∀ k, k ≠ 5 → k ≠ 73 + 16 * e + 1 → k ≠ 73 + 16 * e + 3 → (updN (updN (updN A (73 + 16 * e + 1) (flN (A (73 + 16 * e + 1)) g)) (73 + 16 * e + 3) (A (73 + 16 * e + 3) + 1)) 5 (A 5 + 1)) k = A k := fun k h1 h2 h3 => by
    rw [updN_n h1, updN_n h3, updN_n h2]
  have os : (updN (updN (updN A (73 + 16 * e + 1) (flN (A (73 + 16 * e + 1)) g)) (73 + 16 * e + 3) (A (73 + 16 * e + 3) + 1)) 5 (A 5 + 1)) (73 + 16 * e + 1) = flN (A (73 + 16 * e + 1)) g := by
    rw [updN_n (by omega), updN_n (by omega), updN_s]
  generalize updN (updN (updN A (73 + 16 * e + 1) (flN (A (73 + 16 * e + 1)) g)) (73 + 16 * e + 3) (A (73 + 16 * e + 3) + 1)) 5 (A 5 + 1) = A2 at o os
  have sm : ∀ k, k < A 3 → SmC A A2 (73 + 16 * k) := fun k hk => ⟨o _ (by omega) (by omega) (by omega), fun i hi => o _ (by omega) (by omega) (by omega), o _ (by omega) (by omega) (by omega), fun i h1 h2 => o _ (by omega) (by omega) (by omega), o _ (by omega) (by omega) (by omega), fun j hj => o _ (by omega) (by omega) (by omega)⟩
  have h1 := sumN_up (f := ceN A) (g := ceN A2) (r := e) (A 3) (fun k hk hne => by
    unfold ceN
    rw [costN_cg hO (hO.e k hk) (sm k hk), o _ (by omega) (by omega) (by omega)]) he
  have h2 : ceN A2 e = costN A (73 + 16 * e) (flN (A (73 + 16 * e + 1)) g) := by
    unfold ceN
    rw [costN_cg hO (hO.e e he) (sm e he), os]
  rw [h2] at h1
  exact h1
theorem ce_cg {A A2 : Nat → Nat} (hO : Ok A) (h : ∀ k, 1 ≤ k → k ≠ 6 → A2 k = A k) : sumN (ceN A2) (A 3) = sumN (ceN A) (A 3) := by
  have h4 := hO.n
  have hm := hO.m
  refine sumN_congr (fun k hk => ?_)
  unfold ceN
  rw [costN_cg hO (hO.e k hk) ⟨h _ (by omega) (by omega), fun i hi => h _ (by omega) (by omega), h _ (by omega) (by omega), fun i h1 h2 => h _ (by omega) (by omega), h _ (by omega) (by omega), fun j hj => h _ (by omega) (by omega)⟩, h _ (by omega) (by omega)]
theorem rsn_lt {A : Nat → Nat} {o g : Nat} (h : rsnN A o g = 0) : costN A o (flN (A (o + 1)) g) < costN A o (A (o + 1)) := by
  refine Nat.lt_of_not_le fun q => ?_
  unfold rsnN at h
  by_cases s : styN A o = 1
  · rw [if_pos s] at h; cases h
  · rw [if_neg s, if_pos q] at h; cases h
theorem i0 (x : Int32) : x - 0 = x := by
  rw [Int32.sub_eq_add_neg, show -(0 : Int32) = 0 from rfl, Int32.add_zero]
section SU
variable {w : Wd}
/-- a suit for a gap that isn't there -/
theorem p_s162o (hO : OkW w) {d e : Nat} {y : Int32} (hoff : e = w.A 3 ∨ (e < w.A 3 ∧ (y < 0 ∨ nI (w.A (73 + 16 * e) - 1) ≤ y))) {M : Mem} (hC : CI M w) : WP (f_L_suits_162 1 (nI e) y 1 M) (AQ d w) := by
  have h4 := hO.1.n
  have ep : opSue (nI e) y w = (-1, w) := by
    unfold opSue
    rcases hoff with q | ⟨q1, q2⟩
    · rw [ixO_n (Or.inr (by rw [q]; exact Int32.le_refl _))]
    · rw [ixO_s (by omega) q1]
      simp only
      rw [ixO_n q2]
  unfold f_L_suits_162 f_L_suits_181 f_L_suits_201
  refine CR.f (by decide) (CR.f (by decide) (CR.g (s_c8 hO hC fun M2 C2 => s_c7 hO C2 fun M3 C3 => s_c3 hO C3 fun M4 C4 => ?_)))
  have r := (c_sue hO C4 (nI e) y).cr
  rw [ep] at r
  refine CR.p r fun M5 C5 => CR.f (by decide) ?_
  unfold f_L_suits_263 f_L_suits_284 f_L_suits_306 f_L_suits_311 f_L_suits_338
  exact CR.t rfl (CR.g (s_c8 hO C5 fun M6 C6 => CR.t (by decide) (CR.t (Int32.add_zero _).symm (CR.g (s_c7 hO C6 fun M7 C7 => CR.f (by decide) (CR.t (Int32.add_zero _).symm (CR.g (s_c3 hO C7 fun M8 C8 => CR.t (show (-1 : Int32) < 10 by decide) (CR.t (i0 _).symm (WP.r C8 ⟨rfl, st_same hO⟩))))))))))
theorem p_s162i (hO : OkW w) (hU : Uq w.A) {d e g : Nat} (hd : w.A 0 ≤ d) (he : e < w.A 3) (hg : g + 1 < w.A (73 + 16 * e)) {M : Mem} (hC : CI M w) : WP (f_L_suits_162 1 (nI e) (nI g) 0 M) (AQ d w) := by
  have h4 := hO.1.n
  have hK := hO.1.e e he
  have hw := hK.2.1
  have k1 := costN_1k hO.1 hK (w.A (73 + 16 * e + 1))
  have k2 := costN_1k hO.1 hK (flN (w.A (73 + 16 * e + 1)) g)
  have hr := rsnN_lt (A := w.A) (73 + 16 * e) g
  have ep : opSue (nI e) (nI g) w = ((decA w.A e g).1, (keepW w).toA (decA w.A e g).2) := by
    unfold opSue
    rw [ixO_s (by omega) he]
    simp only
    rw [ixO_s (by omega) (by omega)]
  have ew : lkWhyNot (nI e) (nI g) w.A = nI (rsnN w.A (73 + 16 * e) g) := by
    unfold lkWhyNot
    rw [ixO_s (by omega) he]
    simp only
    rw [ixO_s (by omega) (by omega)]
  have hS : StepW d w ((keepW w).toA (decA w.A e g).2) := st_keep hO (ok_dec hO.1 he hg) (uq_dec hO.1 he hU) (by rw [dec_0.1]; exact hd)
  have O2 := hS.1
  unfold f_L_suits_162 f_L_suits_181 f_L_suits_201
  refine CR.t rfl (CR.g (CR.pe (c_whyNot hO hC _ _).cr ew fun M2 C2 => CR.t rfl (CR.g (s_g3 hO C2 he hg fun M3 C3 => CR.g (s_c8 hO C3 fun M4 C4 => s_c7 hO C4 fun M5 C5 => s_c3 hO C5 fun M6 C6 => ?_)))))
  have r : CR (f_X5_sue 1 (nI e) (nI g) M6) (decA w.A e g).1 ((keepW w).toA (decA w.A e g).2) := by
    have r := (c_sue hO C6 (nI e) (nI g)).cr
    rw [ep] at r
    exact r
  refine CR.p r fun M7 C7 => CR.t rfl ?_
  have S3 : ((keepW w).toA (decA w.A e g).2).A 3 = w.A 3 := dec_0.2
  unfold f_L_suits_263 f_L_suits_284 f_L_suits_306 f_L_suits_311 f_L_suits_338
  by_cases h : rsnN w.A (73 + 16 * e) g = 0
  · have hlt := rsn_lt h
    have hce := ce_dec hO.1 he h
    have b5 : (decA w.A e g).2 5 = w.A 5 + 1 := by rw [dec_g2 h]; exact updN_s
    have b6 : (decA w.A e g).2 6 = w.A 6 := by rw [dec_g2 h, updN_n (by omega), updN_n (by omega), updN_n (by omega)]
    have e1 : (decA w.A e g).1 = nI (10 + (costN w.A (73 + 16 * e) (w.A (73 + 16 * e + 1)) - costN w.A (73 + 16 * e) (flN (w.A (73 + 16 * e + 1)) g))) := by
      rw [dec_g1 h, pk_sub (by omega), show (10 : Int32) = nI 10 from rfl, nI_add]
    rw [h]
    rw [e1]
    refine CR.t (by decide) (CR.t ?_ (CR.g (s_c8 O2 C7 fun M8 C8 => CR.t (by decide) (CR.t ?_ (CR.g (s_c7 O2 C8 fun M9 C9 => CR.t rfl (CR.t (by decide) (CR.t ?_ (CR.g (s_c3 O2 C9 fun M10 C10 => CR.f (nlt_n (b := 10) (by omega) (by decide) (by omega)) (CR.t ?_ (WP.r C10 ⟨rfl, hS⟩))))))))))))
    · rw [show (1000 : Int32) = nI 1000 from rfl, nI_add, pk_sub (by omega), show (1010 : Int32) = nI 1010 from rfl, pk_sub (by omega)]
      exact congrArg nI (by omega)
    · show nI ((decA w.A e g).2 6) = nI (w.A 6) + 0
      rw [b6, Int32.add_zero]
    · show nI ((decA w.A e g).2 5) = nI (w.A 5) + 1
      rw [b5, nI_1]
    · show nI (sumN (ceN (decA w.A e g).2) ((decA w.A e g).2 3)) = _
      rw [dec_0.2, show (10 : Int32) = nI 10 from rfl, pk_sub (by omega), pk_sub (by omega)]
      exact congrArg nI (by omega)
  · have b5 : (decA w.A e g).2 5 = w.A 5 := by rw [dec_r2 h]; exact updN_n (by omega)
    have b6 : (decA w.A e g).2 6 = w.A 6 + 1 := by rw [dec_r2 h]; exact updN_s
    have e1 : (decA w.A e g).1 = nI (rsnN w.A (73 + 16 * e) g) := dec_r1 h
    have z : ¬ nI (rsnN w.A (73 + 16 * e) g) ≤ 0 := nI_nle' (b := 0) (by omega) (by decide) (by omega)
    have hce : sumN (ceN (decA w.A e g).2) (w.A 3) = sumN (ceN w.A) (w.A 3) := ce_cg hO.1 (fun k _ hk => by rw [dec_r2 h]; exact updN_n hk)
    rw [e1]
    refine CR.f z (CR.t rfl (CR.g (s_c8 O2 C7 fun M8 C8 => CR.f z (CR.t ?_ (CR.g (s_c7 O2 C8 fun M9 C9 => CR.t rfl (CR.f z (CR.t ?_ (CR.g (s_c3 O2 C9 fun M10 C10 => CR.t (lt_n (b := 10) (by omega) (by decide) (by omega)) (CR.t ?_ (WP.r C10 ⟨rfl, hS⟩))))))))))))
    · show nI ((decA w.A e g).2 6) = nI (w.A 6) + 1
      rw [b6, nI_1]
    · show nI ((decA w.A e g).2 5) = nI (w.A 5) + 0
      rw [b5, Int32.add_zero]
    · show nI (sumN (ceN (decA w.A e g).2) ((decA w.A e g).2 3)) = _
      rw [dec_0.2, hce, i0]
theorem p_s136 (hO : OkW w) (hU : Uq w.A) {d e : Nat} (hd : w.A 0 ≤ d) (he : e ≤ w.A 3) {x y x6 : Int32} (hx : x = if e = w.A 3 then 1 else 0) (h6 : e < w.A 3 → x6 = nI (w.A (73 + 16 * e))) {M : Mem} (hC : CI M w) : WP (f_L_suits_136 1 (nI e) x x6 y M) (AQ d w) := by
  have h4 := hO.1.n
  unfold f_L_suits_136 f_L_suits_157
  by_cases h : e = w.A 3
  · rw [if_pos h] at hx
    subst hx
    exact CR.f (by decide) (p_s162o hO (Or.inl h) hC)
  · have hlt : e < w.A 3 := by omega
    have hK := hO.1.e e hlt
    have hw := hK.2.1
    rw [if_neg h] at hx
    subst hx
    rw [h6 hlt, nI_sub1 hK.1]
    refine CR.t rfl ?_
    rcases ix_cases y (n := w.A (73 + 16 * e) - 1) (by omega) with ⟨g, g1, rfl⟩ | ⟨q, -⟩
    · exact CR.f (nI_neg (by omega)) (CR.t (lt_n (by omega) (by omega) g1) (p_s162i hO hU hd hlt (by omega) hC))
    · by_cases q1 : y < 0
      · exact CR.t q1 (p_s162o hO (Or.inr ⟨hlt, q⟩) hC)
      · exact CR.f q1 (CR.f (Int32.not_lt.mpr (q.resolve_left q1)) (p_s162o hO (Or.inr ⟨hlt, q⟩) hC))
theorem p_s85 (hO : OkW w) (hU : Uq w.A) {d e : Nat} (hd : w.A 0 ≤ d) (he : e ≤ w.A 3) {x x2 y x6 : Int32} (hx : x = if e = w.A 3 then 1 else 0) (h6 : e < w.A 3 → x6 = nI (w.A (73 + 16 * e))) (h60 : ∃ n, n ≤ 12 ∧ x6 = nI n) {M : Mem} (hC : CI M w) : WP (f_L_suits_85 1 x2 (nI e) x x6 y M) (AQ d w) := by
  obtain ⟨a, a1, a2⟩ := p_low (x2 >>> ((9 : Int32) &&& 31)) (n := 2) (by decide) (by decide)
  have F := fun (y : Int32) => p_s136 hO hU hd he (y := y) hx h6 hC
  have G : WP (f_L_suits_108 1 x2 (nI e) x x6 M) (AQ d w) := by
    obtain ⟨n, n1, n2⟩ := h60
    obtain ⟨b, b1, b2⟩ := p_low (x2 >>> ((3 : Int32) &&& 31)) (n := n + 1) (by omega) (by omega)
    obtain ⟨c, c1, c2⟩ := p_low (x2 >>> ((11 : Int32) &&& 31)) (n := 9) (by decide) (by decide)
    unfold f_L_suits_108 f_L_suits_135
    refine CR.o (a := nI b) (by rw [n2, nI_1]; exact b2) (CR.o c2 ?_)
    by_cases z : nI c = 0
    · exact CR.t z (F _)
    · exact CR.f z (F _)
  unfold f_L_suits_85
  refine CR.o a2 ?_
  by_cases z : nI a = 0
  · refine CR.t z ?_
    by_cases q : y < 0
    · exact CR.t q G
    · exact CR.f q (F y)
  · exact CR.f z G
theorem p_s395 (hO : OkW w) (hU : Uq w.A) {d e t : Nat} (hd : w.A 0 ≤ d) (he : e ≤ w.A 3) (ht : t < 32) {x x7 b : Int32} (hx : x = if e = w.A 3 then 1 else 0) (h7 : e < w.A 3 → x7 = nI (w.A (73 + 16 * e + 2))) (hb : (b = 0 ∧ e < w.A 3 ∧ t ≤ 30) ∨ (b = 1 ∧ (e = w.A 3 ∨ t = 31))) {M : Mem} (hC : CI M w) : WP (f_L_suits_395 1 (nI e) x x7 (nI t) b M) (AQ d w) := by
  have h4 := hO.1.n
  unfold f_L_suits_395 f_L_suits_416 f_L_suits_450
  have r := (c_stay hO hC (nI e) (nI t)).cr
  have O2 := okw_stay hO (nI e) (nI t)
  rcases hb with ⟨rfl, hlt, h30⟩ | ⟨rfl, hbad⟩
  · have ep : opStay (nI e) (nI t) w = (nI (w.A (75 + 16 * e)), (keepW w).toA (updN w.A (73 + 16 * e + 2) (w.A 0 + t))) := by
      unfold opStay
      rw [ixO_s (by omega) hlt]
      simp only
      rw [if_pos ⟨nI_pos' (by omega), nI_le' (b := 30) (by omega) (by decide) h30⟩, nI_clamp (by omega)]
    rw [ep] at r O2
    rw [if_neg (by omega)] at hx
    subst hx
    have hS : StepW d w ((keepW w).toA (updN w.A (73 + 16 * e + 2) (w.A 0 + t))) := st_keep hO O2.1 (uq_cg hO.1 (updN_n (by omega)) (fun k _ => ⟨updN_n (by omega), updN_n (by omega), fun t _ => updN_n (by omega)⟩) hU) (by rw [updN_n (by omega)]; exact hd)
    have he2 : e < ((keepW w).toA (updN w.A (73 + 16 * e + 2) (w.A 0 + t))).A 3 := by
      show e < updN w.A (73 + 16 * e + 2) (w.A 0 + t) 3
      rw [updN_n (by omega)]; exact hlt
    refine CR.g (CR.p r fun M2 C2 => CR.t rfl (CR.t ?_ (CR.t rfl (CR.g (s_e8 O2 C2 he2 fun M3 C3 => CR.t rfl (s_c0 O2 C3 fun M4 C4 => CR.t ?_ (WP.r C4 ⟨rfl, hS⟩)))))))
    · rw [h7 hlt, show 73 + 16 * e + 2 = 75 + 16 * e by omega]
    · show nI (updN w.A (73 + 16 * e + 2) (w.A 0 + t) (73 + 16 * e + 2)) = nI (updN w.A (73 + 16 * e + 2) (w.A 0 + t) 0) + nI t
      rw [updN_s, updN_n (by omega), nI_add]
  · have ep : opStay (nI e) (nI t) w = (-1, w) := by
      unfold opStay
      rcases hbad with q | q
      · rw [ixO_n (Or.inr (by rw [q]; exact Int32.le_refl _))]
      · by_cases q2 : e = w.A 3
        · rw [ixO_n (Or.inr (by rw [q2]; exact Int32.le_refl _))]
        · rw [ixO_s (by omega) (by omega : e < w.A 3)]
          simp only
          rw [if_neg (fun z => nI_nle' (a := t) (b := 30) (by omega) (by decide) (by omega) z.2)]
    rw [ep] at r
    refine CR.g (CR.p r fun M2 C2 => CR.f (by decide) (CR.t rfl ?_))
    by_cases h : e = w.A 3
    · rw [if_pos h] at hx
      subst hx
      exact CR.f (by decide) (WP.r C2 ⟨rfl, st_same hO⟩)
    · have hlt : e < w.A 3 := by omega
      rw [if_neg h] at hx
      subst hx
      exact CR.t rfl (CR.g (s_e8 hO C2 hlt fun M3 C3 => CR.f (by decide) (CR.t (h7 hlt).symm (WP.r C3 ⟨rfl, st_same hO⟩))))
theorem p_s373 (hO : OkW w) (hU : Uq w.A) {d e : Nat} (hd : w.A 0 ≤ d) (he : e ≤ w.A 3) {x x7 u v : Int32} (hx : x = if e = w.A 3 then 1 else 0) (h7 : e < w.A 3 → x7 = nI (w.A (73 + 16 * e + 2))) (hl : ∃ t, t < 32 ∧ f_L_low u v = some (nI t)) {M : Mem} (hC : CI M w) : WP (f_L_suits_373 1 (nI e) x x7 u v M) (AQ d w) := by
  obtain ⟨t, t1, t2⟩ := hl
  unfold f_L_suits_373 f_L_suits_390
  refine CR.o t2 ?_
  by_cases h : e = w.A 3
  · exact CR.f (by rw [hx, if_pos h]; decide) (p_s395 hO hU hd he t1 hx h7 (Or.inr ⟨rfl, Or.inl h⟩) hC)
  · refine CR.t (by rw [hx, if_neg h]) ?_
    by_cases q : t = 31
    · exact CR.t (by rw [q]; rfl) (p_s395 hO hU hd he t1 hx h7 (Or.inr ⟨rfl, Or.inr q⟩) hC)
    · exact CR.f (nI_ne (b := 31) (by omega) (by decide) q) (p_s395 hO hU hd he t1 hx h7 (Or.inl ⟨rfl, by omega, by omega⟩) hC)
/-- how: 0 a suit, 1 a stay, 2 a drop -/
theorem p_s63 (hO : OkW w) (hU : Uq w.A) {d e : Nat} (hd : w.A 0 ≤ d) (he : e ≤ w.A 3) {h : Int32} (hh : h = 0 ∨ h = 1 ∨ h = 2) {x x2 x6 x7 : Int32} (hx : x = if e = w.A 3 then 1 else 0) (h6 : e < w.A 3 → x6 = nI (w.A (73 + 16 * e))) (h60 : ∃ n, n ≤ 12 ∧ x6 = nI n) (h7 : e < w.A 3 → x7 = nI (w.A (73 + 16 * e + 2))) {M : Mem} (hC : CI M w) : WP (f_L_suits_63 1 h x2 (nI (w.A 3)) (nI e) x x6 x7 M) (AQ d w) := by
  have h4 := hO.1.n
  unfold f_L_suits_63
  rcases hh with rfl | rfl | rfl
  · refine CR.t rfl ?_
    by_cases q : e = w.A 3
    · exact CR.f (by rw [hx, if_pos q]; decide) (p_s85 hO hU hd he hx h6 h60 hC)
    · exact CR.t (by rw [hx, if_neg q]) (CR.g (CR.p (c_bestSuit hO hC _).cr fun M2 C2 => p_s85 hO hU hd he hx h6 h60 C2))
  · obtain ⟨a, a1, a2⟩ := p_low (x2 >>> ((9 : Int32) &&& 31)) (n := 3) (by decide) (by decide)
    obtain ⟨b, b1, b2⟩ := p_low (x2 >>> ((3 : Int32) &&& 31)) (n := 32) (by decide) (by decide)
    obtain ⟨c, c1, c2⟩ := p_low (x2 >>> ((3 : Int32) &&& 31)) (n := 4) (by decide) (by decide)
    refine CR.f (by decide) (CR.t rfl (CR.o a2 ?_))
    by_cases z : nI a = 0
    · exact CR.t z (p_s373 hO hU hd he hx h7 ⟨b, b1, b2⟩ hC)
    · exact CR.f z (p_s373 hO hU hd he hx h7 ⟨c, by omega, c2⟩ hC)
  · have r := (c_drop hO hC (nI e)).cr
    have O2 := okw_drop hO (nI e)
    refine CR.f (by decide) (CR.f (by decide) (CR.g ?_))
    unfold f_L_suits_477 f_L_suits_496
    by_cases q : e = w.A 3
    · have ep : opDrop (nI e) w = (-1, w) := by
        unfold opDrop
        rw [ixO_n (Or.inr (by rw [q]; exact Int32.le_refl _))]
      rw [ep] at r
      have x1 : ¬ x = 0 := by rw [hx, if_pos q]; decide
      exact CR.p r fun M2 C2 => CR.f x1 (CR.t rfl (CR.g (s_c1 hO C2 fun M3 C3 => CR.f x1 (CR.t (i0 _).symm (WP.r C3 ⟨rfl, st_same hO⟩)))))
    · have hlt : e < w.A 3 := by omega
      have ep : opDrop (nI e) w = (nI (w.A 3 - 1), (keepW w).toA (dropA w.A e)) := by
        unfold opDrop
        rw [ixO_s (by omega) hlt]
      rw [ep] at r O2
      have x1 : x = 0 := by rw [hx, if_neg q]
      have hS : StepW d w ((keepW w).toA (dropA w.A e)) := st_keep hO O2.1 (uq_drop hO.1 hlt hU) (by rw [dropA_lo (by omega) (by omega)]; exact hd)
      refine CR.p r fun M2 C2 => CR.t x1 (CR.t (nI_sub1 (by omega)).symm (CR.g (s_c1 O2 C2 fun M3 C3 => CR.t x1 (CR.t ?_ (WP.r C3 ⟨rfl, hS⟩)))))
      show nI (dropA w.A e 3) = nI (w.A 3) - 1
      rw [nI_sub1 (by omega)]
      rfl
end SU
theorem p_suits {M : Mem} {w : Wd} (hO : OkW w) (hU : Uq w.A) {d : Nat} (hd : w.A 0 ≤ d) (hC : CI M w) {h : Int32} (hh : h = 0 ∨ h = 1 ∨ h = 2) (x : Int32) : WP (f_L_suits 1 h x M) (AQ d w) := by
  have h4 := hO.1.n
  obtain ⟨e, e1, e2⟩ := p_low x (n := w.A 3 + 1) (by omega) (by omega)
  unfold f_L_suits
  refine CR.g (s_c1 hO hC fun M2 C2 => CR.o ((congrArg (f_L_low x) (nI_1 _)).trans e2) ?_)
  unfold f_L_suits_26 f_L_suits_44
  by_cases q : e = w.A 3
  · exact CR.t (by rw [q]) (CR.f (by decide) (CR.f (by decide) (p_s63 hO hU hd (by omega) hh (by rw [if_pos q]) (fun z => by omega) ⟨0, by omega, rfl⟩ (fun z => by omega) C2)))
  · have hlt : e < w.A 3 := by omega
    have hK := hO.1.e e hlt
    exact CR.f (nI_ne (by omega) (by omega) q) (CR.t rfl (CR.g (s_e0 hO C2 hlt fun M3 C3 => CR.t rfl (CR.g (s_e8 hO C3 hlt fun M4 C4 => p_s63 hO hU hd (by omega) hh (by rw [if_neg q]) (fun _ => rfl) ⟨_, hK.2.1, rfl⟩ (fun _ => rfl) C4)))))
