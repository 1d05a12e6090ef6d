/-! PURE: what would be, as the law asks it -/
theorem i4 (a b c d : Int32) : (a - b) + (c - d) = (a + c) - (b + d) := by
  have lc : ∀ x y z : Int32, x + (y + z) = y + (x + z) := fun x y z => by rw [← Int32.add_assoc, Int32.add_comm x y, Int32.add_assoc]
  simp only [Int32.sub_eq_add_neg, Int32.neg_add, Int32.add_assoc]
  rw [lc (-b) c (-d)]
theorem sumI_b {f : Nat → Int32} {q : Nat} : ∀ k, (∀ j, j < k → ∃ a b, a ≤ q ∧ b ≤ q ∧ f j = nI a - nI b) → ∃ a b, a ≤ k * q ∧ b ≤ k * q ∧ sumI f k = nI a - nI b
  | 0, _ => ⟨0, 0, Nat.zero_le _, Nat.zero_le _, rfl⟩
  | k + 1, h => by
    obtain ⟨a, b, h1, h2, h3⟩ := sumI_b k (fun j hj => h j (by omega))
    obtain ⟨c, d, h4, h5, h6⟩ := h k (by omega)
    have hs : (k + 1) * q = k * q + q := Nat.succ_mul k q
    refine ⟨a + c, b + d, by omega, by omega, ?_⟩
    show sumI f k + f k = _
    rw [h3, h6, i4, nI_add, nI_add]
theorem irG_b {A : Nat → Nat} (hO : Ok A) {x y cm f o g : Nat} (hf : f ≤ 20) : ∃ a b, a ≤ 20 ∧ b ≤ 20 ∧ irG A x y cm (nI f) o g = nI a - nI b := by
  unfold irG
  by_cases h : A (o + 4 + g) = x ∧ A (o + 5 + g) = y
  · rw [if_pos h]
    have hb := fineN_le hO o g (bitN (A (o + 1)) g)
    by_cases h2 : bitN (A (o + 1)) g = cm
    · rw [if_pos h2]
      exact ⟨0, _, by omega, hb, rfl⟩
    · rw [if_neg h2]
      exact ⟨f, _, hf, hb, rfl⟩
  · rw [if_neg h]
    exact ⟨0, 0, by omega, by omega, rfl⟩
theorem ir_b {A : Nat → Nat} (hO : Ok A) {x y cm f : Nat} (hf : f ≤ 20) : ∃ s, 120 ≤ s ∧ s ≤ 1880 ∧ 1000 + sumI (irE A x y cm (nI f)) (A 3) = nI s := by
  have h4 := hO.n
  obtain ⟨a, b, h1, h2, h3⟩ := sumI_b (f := irE A x y cm (nI f)) (q := 220) (A 3) (fun e he => by
    have hw := (hO.e e he).2.1
    obtain ⟨a, b, h1, h2, h3⟩ := sumI_b (f := irG A x y cm (nI f) (73 + 16 * e)) (q := 20) (A (73 + 16 * e) - 1) (fun g _ => irG_b hO hf)
    exact ⟨a, b, by omega, by omega, h3⟩)
  refine ⟨1000 + a - b, by omega, by omega, ?_⟩
  rw [h3, show (1000 : Int32) + (nI a - nI b) = (1000 + nI a) - nI b by rw [Int32.sub_eq_add_neg, Int32.sub_eq_add_neg, Int32.add_assoc], show (1000 : Int32) = nI 1000 from rfl, nI_add, pk_sub (by omega)]
section WO
variable {w w2 : Wd}
theorem p_w435 {M : Mem} (hC : CI M w) : CR (f_L_would_435 (-1) M) 1 w := by
  unfold f_L_would_435
  exact CR.t rfl (CR.r hC)
theorem p_w469n (x3 : Int32) {x11 x12 : Int32} (h : ¬ x11 = 2) {M : Mem} (hC : CI M w) : CR (f_L_would_469 1 x3 x11 x12 M) 1 w := by
  unfold f_L_would_469
  exact CR.f h (CR.r hC)
theorem p_w419 (hO : OkW w) {e t q : Nat} (he : e ≤ w.A 3) (ht : t < 5) (hq : q < 2) {M : Mem} (hC : CI M w) {x : Int32} (hx : x = if e = w.A 3 then 1 else 0) : CR (f_L_would_419 1 (nI e) (nI t - 1) (lkBest (nI e) (nI t - 1) (nI q) w.A) x M) 1 w := by
  have h4 := hO.1.n
  have hz : 0 ≤ nI q ∧ nI q ≤ 1 := ⟨nI_pos' (by omega), nI_le' (b := 1) (by omega) (by decide) (by omega)⟩
  unfold f_L_would_419
  by_cases h : e = w.A 3
  · rw [if_pos h] at hx
    subst hx
    refine CR.f (by decide) ?_
    unfold lkBest
    rw [ixO_n (Or.inr (by rw [h]; exact Int32.le_refl _))]
    exact p_w435 hC
  · rw [if_neg h] at hx
    subst hx
    have hlt : e < w.A 3 := by omega
    have hK := hO.1.e e hlt
    have hw := hK.2.1
    obtain ⟨c, c0, c1, c2, c3, c4⟩ := rkM_ex hK
    have c5 : 2 ^ (w.A (73 + 16 * e) - 1) ≤ 2 ^ 11 := Nat.pow_le_pow_right (by decide) (by omega)
    have k1 := costN_1k hO.1 hK c
    have ev : ∀ f : Int32, lkBest (nI e) f (nI q) w.A = if 0 ≤ f ∧ f ≤ 2 then lkBestA f (rkM w.A (73 + 16 * e)) else -1 := by
      intro f
      unfold lkBest
      rw [ixO_s (by omega) hlt]
      simp only [if_pos hz]
    refine CR.t rfl ?_
    have t5 : t = 0 ∨ t = 1 ∨ t = 2 ∨ t = 3 ∨ t = 4 := by omega
    rcases t5 with rfl | rfl | rfl | rfl | rfl
    · rw [show lkBest (nI e) (nI 0 - 1) (nI q) w.A = -1 by rw [ev, if_neg (by decide)]]
      exact CR.t (by decide) (p_w435 hC)
    · rw [show nI 1 - 1 = (0 : Int32) from rfl]
      have b0 : lkBestA 0 (rkM w.A (73 + 16 * e)) = nI c := by unfold lkBestA; rw [if_pos (by decide), c1]
      rw [show lkBest (nI e) 0 (nI q) w.A = nI c by rw [ev, if_pos (by decide), b0]]
      refine CR.f (by decide) (CR.t (by decide) (CR.f (nI_neg (by omega)) (CR.t rfl (CR.g (s_e0 hO hC hlt fun M2 C2 => CR.f ?_ (p_w469n _ (by decide) C2))))))
      rw [nI_sub1 hK.1, p_shl1 (by omega)]
      exact nI_nle' (by omega) (by omega) c0
    · rw [show nI 2 - 1 = (1 : Int32) from rfl]
      have b1 : lkBestA 1 (rkM w.A (73 + 16 * e)) = nI (costN w.A (73 + 16 * e) c) := by unfold lkBestA; rw [if_neg (by decide), if_pos (by decide), c2]
      rw [show lkBest (nI e) 1 (nI q) w.A = nI (costN w.A (73 + 16 * e) c) by rw [ev, if_pos (by decide), b1]]
      exact CR.f (by decide) (CR.t (by decide) (CR.f (nI_neg (by omega)) (CR.f (by decide) (p_w469n _ (by decide) hC))))
    · rw [show nI 3 - 1 = (2 : Int32) from rfl]
      have b2 : lkBestA 2 (rkM w.A (73 + 16 * e)) = nI (pcN c) := by unfold lkBestA; rw [if_neg (by decide), if_neg (by decide), c3]
      have hp : pcN c < w.A (73 + 16 * e) := by
        have hw1 := hK.1
        rw [pcN_w (w := w.A (73 + 16 * e) - 1) c0 (by omega)]
        have := sumN_le (f := bitN c) (b := 1) (fun i => by have := bitN_lt c i; omega) (w.A (73 + 16 * e) - 1)
        omega
      rw [show lkBest (nI e) 2 (nI q) w.A = nI (pcN c) by rw [ev, if_pos (by decide), b2]]
      refine CR.f (by decide) (CR.t (by decide) (CR.f (nI_neg (by omega)) (CR.f (by decide) ?_)))
      unfold f_L_would_469
      exact CR.t rfl (CR.g (s_e0 hO hC hlt fun M2 C2 => CR.f (nI_nle' (by omega) (by omega) hp) (CR.r C2)))
    · rw [show lkBest (nI e) (nI 4 - 1) (nI q) w.A = -1 by rw [ev, if_neg (by decide)]]
      exact CR.f (by decide) (CR.f (by decide) (p_w435 hC))
/-- what a ruling must be about, and its fine -/
def gdR (x y f : Int32) : Prop := (0 ≤ x ∧ x ≤ 5) ∧ (0 ≤ y ∧ y ≤ 5) ∧ 1 ≤ f ∧ f ≤ 20
theorem p_w378 (hO : OkW w) {x3 x11 x12 x13 b x y : Int32} {c p : Nat} {M : Mem} (hb : (b = 0 ∧ gdR x y (nI p)) ∨ (b = 1 ∧ ¬ gdR x y (nI p))) (hC : CI M w) (h : ∀ M, CI M w → CR (f_L_would_419 1 x3 x11 x12 x13 M) 1 w) : CR (f_L_would_378 1 x3 (lkIf x y c (nI p) w.A) x11 x12 x13 b M) 1 w := by
  unfold f_L_would_378 f_L_would_383
  refine CR.f (by decide) ?_
  rcases hb with ⟨rfl, hg⟩ | ⟨rfl, hg⟩
  · rw [show lkIf x y c (nI p) w.A = 1000 + sumI (irE w.A x.toNatClampNeg y.toNatClampNeg c (nI p)) (w.A 3) from if_pos hg]
    obtain ⟨n, hn, hn2⟩ := in_ex (b := 20) (by decide) (Int32.le_trans (by decide) hg.2.2.1) hg.2.2.2
    obtain ⟨s, s1, s2, s3⟩ := ir_b hO.1 (x := x.toNatClampNeg) (y := y.toNatClampNeg) (cm := c) hn
    rw [hn2, s3]
    exact CR.t rfl (CR.f (nlt_n (b := 120) (by omega) (by decide) s1) (CR.f (nlt_n (a := 1880) (by decide) (by omega) s2) (h M hC)))
  · rw [show lkIf x y c (nI p) w.A = -1 from if_neg hg]
    exact CR.f (by decide) (CR.t rfl (h M hC))
theorem p_w329 (hO : OkW w) {e : Nat} (he : e ≤ w.A 3) {x10 x11 x12 b x : Int32} {M : Mem} (hC : CI M w) (hx : x = if e = w.A 3 then 1 else 0) (h : ∀ M, CI M w → CR (f_L_would_378 1 (nI e) x10 x11 x12 x b M) 1 w) : CR (f_L_would_329 1 (nI e) (lkBs (nI e) w.A) x10 x11 x12 x b M) 1 w := by
  have h4 := hO.1.n
  unfold f_L_would_329
  by_cases q : e = w.A 3
  · rw [if_pos q] at hx
    subst hx
    refine CR.f (by decide) (CR.t ?_ (h M hC))
    unfold lkBs
    rw [ixO_n (Or.inr (by rw [q]; exact Int32.le_refl _))]
  · rw [if_neg q] at hx
    subst hx
    have hlt : e < w.A 3 := by omega
    have hK := hO.1.e e hlt
    have hw := hK.2.1
    have ev : lkBs (nI e) w.A = bsE (bsS w.A (73 + 16 * e) (w.A (73 + 16 * e) - 1)) := by unfold lkBs; rw [ixO_s (by omega) hlt]
    rw [ev]
    refine CR.t rfl ?_
    cases hb : bsS w.A (73 + 16 * e) (w.A (73 + 16 * e) - 1) with
    | none => exact CR.t rfl (h M hC)
    | some p =>
      obtain ⟨g, l⟩ := p
      have hg := (bsS_lt hO.1 hK hb).1
      have h0 := bsS_0 hb
      refine CR.f ?_ (CR.f (nI_neg (by omega)) (CR.g (s_e0 hO hC hlt fun M2 C2 => CR.f ?_ (CR.pe (c_whyNot hO C2 _ _).cr ?_ fun M3 C3 => CR.t rfl (h M3 C3)))))
      · intro z
        have h1 : (-4 : Int32) < 0 := by decide
        rw [← z] at h1
        exact absurd h1 (nI_neg (by omega))
      · rw [nI_sub1 hK.1]
        exact nI_nle' (by omega) (by omega) hg
      · unfold lkWhyNot
        rw [ixO_s (by omega) hlt]
        simp only
        rw [show bsE (some (g, l)) = nI g from rfl, ixO_s (by omega) hg]
        simp only
        rw [h0]
        rfl
/-- a gap of an edition, or none -/
theorem p_w215 (hO : OkW w) {e : Nat} (he : e ≤ w.A 3) {y x10 x11 x12 b x z : Int32} {M : Mem} (hC : CI M w) (hx : x = if e = w.A 3 then 1 else 0)
    (hz : (z = 0 ∧ e < w.A 3 ∧ ∃ g, g + 1 < w.A (73 + 16 * e) ∧ y = nI g) ∨ (z = 1 ∧ (e = w.A 3 ∨ (e < w.A 3 ∧ (y < 0 ∨ nI (w.A (73 + 16 * e) - 1) ≤ y))))) (h : ∀ M, CI M w → CR (f_L_would_378 1 (nI e) x10 x11 x12 x b M) 1 w) : CR (f_L_would_215 1 (nI e) y (lkWhyNot (nI e) y w.A) (lkBs (nI e) w.A) x10 x11 x12 x z b M) 1 w := by
  have h4 := hO.1.n
  have F := fun (M : Mem) (hC : CI M w) => p_w329 hO he (x10 := x10) (x11 := x11) (x12 := x12) (b := b) hC hx h
  unfold f_L_would_215
  rcases hz with ⟨rfl, hlt, g, hg, rfl⟩ | ⟨rfl, hoff⟩
  · have hK := hO.1.e e hlt
    have hw := hK.2.1
    have hr := rsnN_lt (A := w.A) (73 + 16 * e) g
    have k1 := costN_1k hO.1 hK (w.A (73 + 16 * e + 1))
    have k2 := costN_1k hO.1 hK (flN (w.A (73 + 16 * e + 1)) g)
    have ew : lkWhyNot (nI e) (nI g) w.A = nI (rsnN w.A (73 + 16 * e) g) := by
      unfold lkWhyNot
      rw [ixO_s (by omega) hlt]
      simp only
      rw [ixO_s (by omega) (by omega)]
    have eg : (1000 : Int32) + nI (costN w.A (73 + 16 * e) (flN (w.A (73 + 16 * e + 1)) g)) - nI (costN w.A (73 + 16 * e) (w.A (73 + 16 * e + 1))) = nI (1000 + costN w.A (73 + 16 * e) (flN (w.A (73 + 16 * e + 1)) g) - costN w.A (73 + 16 * e) (w.A (73 + 16 * e + 1))) := by
      rw [show (1000 : Int32) = nI 1000 from rfl, nI_add, pk_sub (by omega)]
    rw [ew]
    have G304 : ∀ M, CI M w → CR (f_L_would_304 1 (nI e) (nI g) (nI (rsnN w.A (73 + 16 * e) g)) (lkBs (nI e) w.A) x10 x11 x12 x b M) 1 w := by
      intro M hC
      unfold f_L_would_304 f_L_would_315
      by_cases r0 : rsnN w.A (73 + 16 * e) g = 0 ∨ rsnN w.A (73 + 16 * e) g = 3
      · have hlow : costN w.A (73 + 16 * e) (flN (w.A (73 + 16 * e + 1)) g) < costN w.A (73 + 16 * e) (w.A (73 + 16 * e + 1)) := by
          refine Nat.lt_of_not_le fun q => ?_
          unfold rsnN at r0
          by_cases s : styN w.A (73 + 16 * e) = 1
          · rw [if_pos s] at r0; omega
          · rw [if_neg s, if_pos q] at r0; omega
        have go : CR (gdd (kd 1 = 6) <| opp (f_X5_gap 1 (nI e) (nI g) (3 : Int32) M) fun y1604 M1602 => if (1000 : Int32) ≤ y1604 then (f_L_would_382 1 (nI e) x10 x11 x12 x b M1602) else (f_L_would_329 1 (nI e) (lkBs (nI e) w.A) x10 x11 x12 x b M1602)) 1 w := by
          refine CR.g (s_g3 hO hC hlt hg fun M2 C2 => CR.f ?_ (F M2 C2))
          rw [eg]
          exact nI_nle' (a := 1000) (by decide) (by omega) (by omega)
        rcases r0 with r0 | r0
        · rw [r0]; exact CR.t rfl go
        · rw [r0]; exact CR.f (by decide) (CR.t rfl go)
      · exact CR.f (fun z => r0 (Or.inl ((nI_z (by omega)).mp z))) (CR.f (fun z => r0 (Or.inr ((nI_eq (b := 3) (by omega) (by decide)).mp z))) (F M hC))
    have G281 : ∀ (q : Int32) (M : Mem), CI M w → CR (f_L_would_281 1 (nI e) (nI g) (nI (rsnN w.A (73 + 16 * e) g)) (lkBs (nI e) w.A) x10 x11 x12 x b q q M) 1 w := by
      intro q M hC
      unfold f_L_would_281
      refine CR.t rfl ?_
      by_cases r2 : rsnN w.A (73 + 16 * e) g = 2
      · have hge : costN w.A (73 + 16 * e) (w.A (73 + 16 * e + 1)) ≤ costN w.A (73 + 16 * e) (flN (w.A (73 + 16 * e + 1)) g) := by
          refine Nat.le_of_not_lt fun q => ?_
          unfold rsnN at r2
          by_cases s : styN w.A (73 + 16 * e) = 1
          · rw [if_pos s] at r2; omega
          · rw [if_neg s, if_neg (by omega)] at r2
            split at r2 <;> omega
        have := G304
        rw [r2] at this ⊢
        refine CR.t rfl (CR.g (s_g3 hO hC hlt hg fun M2 C2 => CR.f ?_ (this M2 C2)))
        rw [eg]
        exact nlt_n (b := 1000) (by omega) (by decide) (by omega)
      · exact CR.f (fun z => r2 ((nI_eq (b := 2) (by omega) (by decide)).mp z)) (G304 M hC)
    have hs := styN_lt (A := w.A) (73 + 16 * e)
    unfold f_L_would_265
    refine CR.t rfl (CR.f (nI_neg (by omega)) (CR.f (nlt_n (a := 3) (by decide) (by omega) (by omega)) ?_))
    by_cases r1 : rsnN w.A (73 + 16 * e) g = 1
    · have s1 : styN w.A (73 + 16 * e) = 1 := by
        unfold rsnN at r1
        by_cases s : styN w.A (73 + 16 * e) = 1
        · exact s
        · rw [if_neg s] at r1
          split at r1
          · omega
          · split at r1 <;> omega
      have := G281 1
      rw [r1] at this ⊢
      exact CR.t rfl (CR.g (s_e7 hO hC hlt fun M2 C2 => CR.t (by rw [s1]; rfl) (this M2 C2)))
    · have s1 : ¬ styN w.A (73 + 16 * e) = 1 := fun s => r1 (by unfold rsnN; rw [if_pos s])
      exact CR.f (fun z => r1 ((nI_eq (b := 1) (by omega) (by decide)).mp z)) (CR.g (s_e7 hO hC hlt fun M2 C2 => CR.f (fun z => s1 ((nI_eq (b := 1) (by omega) (by decide)).mp z)) (G281 0 M2 C2)))
  · refine CR.f (by decide) (CR.t ?_ (CR.g (CR.pe (c_gap hO hC _ _ _).cr ?_ fun M2 C2 => CR.t rfl (F M2 C2))))
    · unfold lkWhyNot
      rcases hoff with q | ⟨q1, q2⟩
      · rw [ixO_n (Or.inr (by rw [q]; exact Int32.le_refl _))]
      · rw [ixO_s (by omega) q1]
        simp only
        rw [ixO_n q2]
    · rcases hoff with q | ⟨q1, q2⟩
      · exact lkGap_o (Or.inr (by rw [q]; exact Int32.le_refl _))
      · exact lkGap_o2 h4 q1 q2
theorem p_w174 {x3 x4 x5 x6 x7 x8 x10 x11 x12 x13 z : Int32} {p : Nat} (hp : p < 22) {M : Mem} (h : ∀ b : Int32, (b = 0 ∧ gdR x7 x8 (nI p)) ∨ (b = 1 ∧ ¬ gdR x7 x8 (nI p)) → CR (f_L_would_215 1 x3 x4 x5 x6 x10 x11 x12 x13 z b M) 1 w) : CR (f_L_would_174 1 x3 x4 x5 x6 x7 x8 (nI p) x10 x11 x12 x13 z M) 1 w := by
  have T : ¬ gdR x7 x8 (nI p) → CR (f_L_would_210 1 x3 x4 x5 x6 x10 x11 x12 x13 z M) 1 w := fun q => by
    unfold f_L_would_210
    exact h 1 (Or.inr ⟨rfl, q⟩)
  unfold f_L_would_174
  by_cases h1 : x7 < 0
  · exact CR.t h1 (T fun g => absurd h1 (Int32.not_lt.mpr g.1.1))
  refine CR.f h1 ?_
  by_cases h2 : 5 < x7
  · exact CR.t h2 (T fun g => absurd h2 (Int32.not_lt.mpr g.1.2))
  refine CR.f h2 ?_
  by_cases h3 : x8 < 0
  · exact CR.t h3 (T fun g => absurd h3 (Int32.not_lt.mpr g.2.1.1))
  refine CR.f h3 ?_
  by_cases h4 : 5 < x8
  · exact CR.t h4 (T fun g => absurd h4 (Int32.not_lt.mpr g.2.1.2))
  refine CR.f h4 ?_
  by_cases h5 : p = 0
  · subst h5
    exact CR.t rfl (T fun g => absurd g.2.2.1 (by decide))
  refine CR.f (fun z => h5 ((nI_z (by omega)).mp z)) ?_
  by_cases h6 : p = 21
  · subst h6
    exact CR.t rfl (T fun g => absurd g.2.2.2 (by decide))
  refine CR.f (fun z => h6 ((nI_eq (b := 21) (by omega) (by decide)).mp z)) ?_
  exact h 0 (Or.inl ⟨rfl, ⟨Int32.not_lt.mp h1, Int32.not_lt.mp h2⟩, ⟨Int32.not_lt.mp h3, Int32.not_lt.mp h4⟩, nI_le' (a := 1) (by decide) (by omega) (by omega), nI_le' (b := 20) (by omega) (by decide) (by omega)⟩)
theorem p_w98 (hO : OkW w) {e g7 c p : Nat} (he : e ≤ w.A 3) (hg : g7 < 13) (hp : p < 22) (hc : c ≤ 1) {x1 x7 x8 : Int32} {M : Mem} (hC : CI M w) : CR (f_L_would_98 1 x1 (nI (w.A 3)) (nI e) (nI g7 - 1) (lkWhyNot (nI e) (nI g7 - 1) w.A) (lkBs (nI e) w.A) x7 x8 (nI p) 1 x7 x8 (nI c) M) 1 w := by
  have h4 := hO.1.n
  obtain ⟨t, t1, t2⟩ := p_low (x1 >>> ((6 : Int32) &&& 31)) (n := 5) (by decide) (by decide)
  obtain ⟨q, q1, q2⟩ := p_low (x1 >>> ((9 : Int32) &&& 31)) (n := 2) (by decide) (by decide)
  unfold f_L_would_98
  refine CR.g (CR.o (c_ifRuled hO hC _ _ hc _) (CR.o t2 (CR.b (CR.o q2 (CR.g (CR.p (c_best hO hC _ _ _).cr fun M2 C2 => ?_))))))
  have F : ∀ (x z : Int32) (M : Mem), CI M w → (x = if e = w.A 3 then 1 else 0) → ((z = 0 ∧ e < w.A 3 ∧ ∃ g, g + 1 < w.A (73 + 16 * e) ∧ nI g7 - 1 = nI g) ∨ (z = 1 ∧ (e = w.A 3 ∨ (e < w.A 3 ∧ (nI g7 - 1 < 0 ∨ nI (w.A (73 + 16 * e) - 1) ≤ nI g7 - 1))))) → CR (f_L_would_174 1 (nI e) (nI g7 - 1) (lkWhyNot (nI e) (nI g7 - 1) w.A) (lkBs (nI e) w.A) x7 x8 (nI p) (lkIf x7 x8 c (nI p) w.A) (nI t - 1) (lkBest (nI e) (nI t - 1) (nI q) w.A) x z M) 1 w := by
    intro x z M C hx hz
    refine p_w174 hp (fun b hb => p_w215 hO he C hx hz (fun M2 C2 => p_w378 hO hb C2 (fun M3 C3 => p_w419 hO he t1 q1 C3 hx)))
  unfold f_L_would_144 f_L_would_169
  by_cases h : e = w.A 3
  · refine CR.t (by rw [h]) (CR.f (by decide) (F 1 1 M2 C2 (by rw [if_pos h]) (Or.inr ⟨rfl, Or.inl h⟩)))
  · have hlt : e < w.A 3 := by omega
    have hK := hO.1.e e hlt
    have hw := hK.2.1
    have hx : (0 : Int32) = if e = w.A 3 then 1 else 0 := by rw [if_neg h]
    refine CR.f (nI_ne (by omega) (by omega) h) (CR.t rfl ?_)
    by_cases g0 : g7 = 0
    · subst g0
      exact CR.t (by decide) (F 0 1 M2 C2 hx (Or.inr ⟨rfl, Or.inr ⟨hlt, Or.inl (by decide)⟩⟩))
    · have eg : nI g7 - 1 = nI (g7 - 1) := nI_sub1 (by omega)
      rw [eg] at F ⊢
      refine CR.f (nI_neg (by omega)) (CR.g (s_e0 hO C2 hlt fun M3 C3 => ?_))
      rw [nI_sub1 hK.1]
      by_cases q5 : g7 - 1 < w.A (73 + 16 * e) - 1
      · exact CR.t (lt_n (by omega) (by omega) q5) (F 0 0 M3 C3 hx (Or.inl ⟨rfl, hlt, g7 - 1, by omega, rfl⟩))
      · exact CR.f (nlt_n (by omega) (by omega) (by omega)) (F 0 1 M3 C3 hx (Or.inr ⟨rfl, Or.inr ⟨hlt, Or.inr (nI_le' (by omega) (by omega) (by omega))⟩⟩))
end WO
theorem p_would {M : Mem} {w : Wd} (hO : OkW w) (hC : CI M w) (x : Int32) : CR (f_L_would 1 x M) 1 w := by
  have h4 := hO.1.n
  obtain ⟨e, e1, e2⟩ := p_low x (n := w.A 3 + 1) (by omega) (by omega)
  obtain ⟨g, g1, g2⟩ := p_low (x >>> ((3 : Int32) &&& 31)) (n := 13) (by decide) (by decide)
  obtain ⟨a, a1, a2⟩ := p_low (x >>> ((5 : Int32) &&& 31)) (n := 8) (by decide) (by decide)
  obtain ⟨b, b1, b2⟩ := p_low (x >>> ((8 : Int32) &&& 31)) (n := 8) (by decide) (by decide)
  obtain ⟨p, p1, p2⟩ := p_low (x >>> ((4 : Int32) &&& 31)) (n := 22) (by decide) (by decide)
  obtain ⟨c, c1, c2⟩ := p_low (x >>> ((11 : Int32) &&& 31)) (n := 2) (by decide) (by decide)
  unfold f_L_would
  refine CR.g (s_c1 hO hC fun M2 C2 => CR.o ((congrArg (f_L_low x) (nI_1 _)).trans e2) (CR.o g2 (CR.b (CR.p (c_whyNot hO C2 _ _).cr fun M3 C3 => CR.p (c_bestSuit hO C3 _).cr fun M4 C4 => CR.o a2 (CR.b (CR.o b2 (CR.b (CR.o p2 (CR.o c2 ?_)))))))))
  have F := fun (c : Nat) (hc : c ≤ 1) => p_w98 hO (e := e) (g7 := g) (c := c) (p := p) (x1 := x) (x7 := nI a - 1) (x8 := nI b - 1) (by omega) g1 p1 hc C4
  by_cases z : nI c = 0
  · exact CR.t z (F 1 (by omega))
  · exact CR.f z (F 0 (by omega))
