/-! PURE: what the law says of the rulings -/
section RU
variable {w w2 : Wd}
abbrev K37 := Nat → Int32 → Int32 → Int32 → Int32 → Mem → Option (Int32 × Mem)
theorem p_ru374 {k37 : K37} {x1 x2 : Int32} {r : Nat} {M : Mem} (hC : CI M w) (hk : ∀ M2, CI M2 w → CR (k37 1 x1 x2 1 (nI (r + 1)) M2) 1 w2) : CR (f_L_rulings_374 k37 1 x1 x2 (nI r) M) 1 w2 := by
  unfold f_L_rulings_374 f_L_rulings_379
  exact CR.be (nI_1 r) (hk M hC)
theorem p_ru337 (hO : OkW w) {k37 : K37} {x1 x2 : Int32} {r : Nat} {M : Mem} (hr : r < w.A 4) (hC : CI M w) (hk : ∀ M2, CI M2 w → CR (k37 1 x1 x2 1 (nI (r + 1)) M2) 1 w2) : CR (f_L_rulings_337 k37 1 x1 x2 (nI r) (nI (ctsN w.A r)) (nI (ctsN w.A r)) M) 1 w2 := by
  have hb := brg_le hO.1 r
  unfold f_L_rulings_337
  refine CR.t rfl (CR.g (s_r8 hO hC hr (CR.f (nI_neg (by omega)) (s_r6 hO hC hr ?_))))
  have h2 := ctsN_lt (A := w.A) r
  by_cases h : ctsN w.A r = 1
  · exact CR.t (by rw [h]; rfl) (p_ru374 hC hk)
  · have h0 : ctsN w.A r = 0 := by omega
    refine CR.f (by rw [h0]; decide) (s_r8 hO hC hr (CR.t ?_ (p_ru374 hC hk)))
    rw [sumN_congr (g := fun _ => 0) (fun e _ => brg_0 h0 e), sumN_zero]
    rfl
theorem p_ru295 (hO : OkW w) {k37 : K37} {x1 x2 : Int32} {r : Nat} {M : Mem} (hr : r < w.A 4) (hC : CI M w) (hk : ∀ M2, CI M2 w → CR (k37 1 x1 x2 1 (nI (r + 1)) M2) 1 w2) : CR (f_L_rulings_295 k37 1 x1 x2 (nI r) (nI (sumN (citN w.A r) (w.A 4))) (nI (ltB w.A r (w.A 4)).toNat) M) 1 w2 := by
  have hc := ctsN_b hr
  have go := p_ru337 hO hr hC hk
  unfold f_L_rulings_295
  refine CR.g (s_r7 hO hC hr (CR.t rfl (s_r6 hO hC hr (s_r5 hO hC hr ?_))))
  unfold f_L_rulings_336
  cases h1 : inF w.A r
  · rw [h1] at hc
    rw [show ctsN w.A r = 0 from hc] at go ⊢
    exact CR.f (by decide) go
  · refine CR.t rfl ?_
    cases h2 : ltB w.A r (w.A 4)
    · rw [h1, h2] at hc
      rw [show ctsN w.A r = 1 from hc] at go ⊢
      exact CR.t rfl go
    · rw [h1, h2] at hc
      rw [show ctsN w.A r = 0 from hc] at go ⊢
      exact CR.f (by decide) go
theorem by_eq {t r : Nat} (ht : t ≤ 100) (hr : r < 100) : (if t = 0 then (-4 : Int32) else nI (t - 1)) = nI r ↔ t = r + 1 := by
  by_cases h : t = 0
  · rw [if_pos h]
    refine ⟨fun e => ?_, fun e => by omega⟩
    have h1 : (-4 : Int32) < 0 := by decide
    rw [e] at h1
    exact absurd h1 (nI_neg (by omega))
  · rw [if_neg h, nI_eq (by omega) (by omega)]
    omega
theorem p_ru163 {k37 : K37} {k69 : Nat → Int32 → Int32 → Int32 → Int32 → Int32 → Int32 → Int32 → Mem → Option (Int32 × Mem)} {x1 x2 x4 x5 x6 : Int32} {k : Nat} {x : Int32} {M : Mem} {v : Int32} (h : CR (k69 1 x1 x2 x4 x5 x6 x (nI (k + 1)) M) v w2) : CR (f_L_rulings_163 k37 k69 1 x1 x2 x4 x5 x6 (nI k) x M) v w2 := by
  unfold f_L_rulings_163
  exact CR.be (nI_1 k) h
theorem p_ru98 (hO : OkW w) {k37 : K37} {k69 : Nat → Int32 → Int32 → Int32 → Int32 → Int32 → Int32 → Int32 → Mem → Option (Int32 × Mem)} {x1 x2 x5 : Int32} {r k : Nat} {M : Mem} (hr : r < w.A 4) (hk : k < w.A 4) (hC : CI M w)
    (h : CR (k69 1 x1 x2 (nI r) x5 (nI (sumN (citN w.A r) (k + 1))) (nI (ltB w.A r (k + 1)).toNat) (nI (k + 1)) M) 1 w2) : CR (f_L_rulings_98 k37 k69 1 x1 x2 (nI r) x5 (nI (ltB w.A r k).toNat) (nI k) (nI (sumN (citN w.A r) k)) (nI (citN w.A r k)) M) 1 w2 := by
  have hm := hO.1.m
  have hkr := hO.1.r k hk
  have hrr := hO.1.r r hr
  unfold f_L_rulings_98 f_L_rulings_158 f_L_rulings_162
  refine CR.be (nI_add _ _) ?_
  rw [sumN] at h
  have T : ltB w.A r (k + 1) = true → CR (f_L_rulings_163 k37 k69 1 x1 x2 (nI r) x5 (nI (sumN (citN w.A r) k + citN w.A r k)) (nI k) (1 : Int32) M) 1 w2 := fun e => by
    rw [e] at h; exact p_ru163 h
  have F : ltB w.A r (k + 1) = false → CR (f_L_rulings_163 k37 k69 1 x1 x2 (nI r) x5 (nI (sumN (citN w.A r) k + citN w.A r k)) (nI k) (0 : Int32) M) 1 w2 := fun e => by
    rw [e] at h; exact p_ru163 h
  rw [ltB] at T F
  cases hl : ltB w.A r k
  · rw [hl, Bool.false_or] at T F
    refine CR.t rfl ?_
    by_cases h1 : r < k
    · rw [decide_eq_true h1, Bool.true_and] at T F
      refine CR.f (nI_nle' (by omega) (by omega) h1) (CR.g (s_r0 hO hC hk (s_r0 hO hC hr ?_)))
      by_cases h2 : w.A (13 + 6 * k) = w.A (13 + 6 * r)
      · rw [decide_eq_true h2, Bool.true_and] at T F
        refine CR.t (by rw [h2]) (s_r1 hO hC hk (s_r1 hO hC hr ?_))
        by_cases h3 : w.A (14 + 6 * k) = w.A (14 + 6 * r)
        · rw [decide_eq_true h3, Bool.true_and] at T F
          refine CR.t (by rw [h3]) (s_r5 hO hC hk ?_)
          cases h4 : inF w.A k
          · exact CR.f (by decide) (F h4)
          · exact CR.t rfl (T h4)
        · rw [decide_eq_false h3, Bool.false_and] at F
          exact CR.f (nI_ne (by have := hkr.2.1; omega) (by have := hrr.2.1; omega) h3) (F rfl)
      · rw [decide_eq_false h2, Bool.false_and] at F
        exact CR.f (nI_ne (by have := hkr.1; omega) (by have := hrr.1; omega) h2) (F rfl)
    · rw [decide_eq_false h1, Bool.false_and] at F
      exact CR.t (nI_le' (by omega) (by omega) (by omega)) (F rfl)
  · rw [hl, Bool.true_or] at T
    exact CR.f (by decide) (T rfl)
theorem p_ru69 (hO : OkW w) {k37 : K37} {r : Nat} (hr : r < w.A 4) (hk : ∀ M2, CI M2 w → CR (k37 1 (nI (sumN (fun q => (inF w.A q).toNat) (r + 1))) (nI (sumN (ctsN w.A) (r + 1))) 1 (nI (r + 1)) M2) 1 w2) : ∀ (n k : Nat) (M : Mem), k ≤ w.A 4 → w.A 4 - k < n → CI M w → CR (f_L_rulings_69 k37 n 1 (nI (sumN (fun q => (inF w.A q).toNat) r)) (nI (sumN (ctsN w.A) r)) (nI r) (if w.A (17 + 6 * r) = 0 then -4 else nI (w.A (17 + 6 * r) - 1)) (nI (sumN (citN w.A r) k)) (nI (ltB w.A r k).toNat) (nI k) M) 1 w2 := by
  have hm := hO.1.m
  obtain ⟨q1, q2, q3, q4, q5, q6, q7⟩ := hO.1.r r hr
  intro n
  induction n with
  | zero => intro k _ _ h; omega
  | succ n ih =>
    intro k M hj hn hC
    rw [f_L_rulings_69]
    refine CR.g (s_c4 hO hC fun M2 C2 => ?_)
    by_cases e : k = w.A 4
    · subst e
      refine CR.t (nI_le' (by omega) (by omega) (by omega)) (s_r5 hO C2 hr (CR.be (nI_add _ _) (s_r6 hO C2 hr (CR.be (nI_add _ _) (s_r0 hO C2 hr (CR.f (nI_neg (by omega)) (s_r0 hO C2 hr (CR.f (nI_nle' (a := 6) (by decide) (by omega) (by omega)) (s_r1 hO C2 hr (CR.f (nI_neg (by omega)) (s_r1 hO C2 hr (CR.f (nI_nle' (a := 6) (by decide) (by omega) (by omega)) (s_r3 hO C2 hr (CR.f (nlt_n (b := 1) (by omega) (by decide) (by omega)) (s_r3 hO C2 hr (CR.f (nlt_n (a := 20) (by decide) (by omega) (by omega)) ?_))))))))))))))))
      have fin := p_ru295 hO (x1 := nI (sumN (fun q => (inF w.A q).toNat) r + (inF w.A r).toNat)) (x2 := nI (sumN (ctsN w.A) r + ctsN w.A r)) hr C2 hk
      by_cases h0 : w.A (17 + 6 * r) = 0
      · rw [if_pos h0]
        exact CR.t rfl fin
      · have hb : w.A (17 + 6 * r) - 1 < w.A 4 := by omega
        have hle := inF_by hO.1 hr h0
        have l1 := Bool.toNat_lt (inF w.A r)
        have l2 := Bool.toNat_lt (inF w.A (w.A (17 + 6 * r) - 1))
        rw [if_neg h0]
        refine CR.f ?_ (CR.f (nI_neg (by omega)) (CR.f (nI_nle' (by omega) (by omega) (by omega)) (s_r5 hO C2 hr (s_r5 hO C2 hb (CR.f (nlt_n (by omega) (by omega) hle) fin)))))
        intro e
        have h1 : (-4 : Int32) < 0 := by decide
        rw [← e] at h1
        exact absurd h1 (nI_neg (by omega))
    · have hlt : k < w.A 4 := by omega
      refine CR.f (nI_nle' (by omega) (by omega) hlt) (s_r4 hO C2 hlt ?_)
      have hkk := (hO.1.r k hlt).2.2.2.2.2.1
      have nx := p_ru98 hO (k37 := k37) (k69 := f_L_rulings_69 k37 n) hr hlt C2 (ih (k + 1) M2 (by omega) (by omega) C2)
      by_cases h : w.A (17 + 6 * k) = r + 1
      · rw [show citN w.A r k = 1 from if_pos h] at nx
        exact CR.t ((by_eq (by omega) (by omega)).mpr h) nx
      · rw [show citN w.A r k = 0 from if_neg h] at nx
        exact CR.f (fun z => h ((by_eq (by omega) (by omega)).mp z)) nx
theorem p_ru37 (hO : OkW w) : ∀ (n r : Nat) (M : Mem), r ≤ w.A 4 → w.A 4 - r < n → CI M w → CR (f_L_rulings_37 n 1 (nI (sumN (fun q => (inF w.A q).toNat) r)) (nI (sumN (ctsN w.A) r)) 1 (nI r) M) 1 w := by
  have hm := hO.1.m
  intro n
  induction n with
  | zero => intro k _ _ h; omega
  | succ n ih =>
    intro r M hj hn hC
    rw [f_L_rulings_37]
    refine CR.g (s_c4 hO hC fun M2 C2 => ?_)
    by_cases e : r = w.A 4
    · subst e
      refine CR.t (nI_le' (by omega) (by omega) (by omega)) ?_
      unfold f_L_rulings_386
      exact CR.f (by decide) (CR.g (s_c5 hO C2 fun M3 C3 => CR.t rfl (s_c6 hO C3 fun M4 C4 => CR.t rfl (CR.r C4))))
    · exact CR.f (nI_nle' (by omega) (by omega) (by omega)) (CR.f (by decide) (s_r4 hO C2 (by omega) (p_ru69 hO (by omega) (fun M3 C3 => ih (r + 1) M3 (by omega) (by omega) C3) FU 0 M2 (by omega) (by unfold FU; omega) C2)))
end RU
theorem p_rulings {M : Mem} {w : Wd} (hO : OkW w) (hC : CI M w) : CR (f_L_rulings 1 M) 1 w := by
  have hm := hO.1.m
  unfold f_L_rulings
  refine CR.g (s_c4 hO hC fun M2 C2 => s_rO hO C2 (Or.inr (Int32.le_refl _)) (CR.t rfl (s_c4 hO C2 fun M3 C3 => CR.f (nlt_n (a := 10) (by decide) (by omega) (by omega)) ?_)))
  unfold f_L_rulings_33
  exact p_ru37 hO FU 0 M3 (by omega) (by unfold FU; omega) C3
