/-! PURE: what the law holds a court to -/
theorem c_self : Op.cmpValue (FP.dcmp FP.dconst0 FP.dconst0) .l = 0 := by decide +kernel
theorem dv_self : ∀ a, a < 49 → ∀ b, b < 53 → b ≠ 0 → Op.cmpValue (FP.dcmp (FP.ddiv (FP.i2d (nI a)) (FP.i2d (nI b))) (FP.ddiv (FP.i2d (nI a)) (FP.i2d (nI b)))) .l = 0 := by decide +kernel
section HO
variable {w w2 : Wd} {v : Int32}
theorem s_b {α : Type} {v : α} {M : Mem} (hO : OkW w) (hC : CI M w) {e : Nat} (he : e < w.A 3) {f z : Int32} (hf : 0 ≤ f ∧ f ≤ 2) (hz : 0 ≤ z ∧ z ≤ 1) {k : Int32 → Mem → Option (α × Mem)} (h : ∀ M2, CI M2 w → CR (k (lkBestA f (rkM w.A (73 + 16 * e))) M2) v w2) : CR (opp (f_X5_best 1 (nI e) f z M) k) v w2 := by
  have h4 := hO.1.n
  refine CR.pe (c_best hO hC _ _ _).cr ?_ h
  unfold lkBest
  rw [ixO_s (by omega) he]
  simp only
  rw [if_pos hf, if_pos hz]
theorem s_w {α : Type} {v : α} {M : Mem} (hO : OkW w) (hC : CI M w) {e : Nat} (he : e < w.A 3) {z : Int32} (hz : 0 ≤ z ∧ z ≤ 1) {k : Int32 → Mem → Option (α × Mem)} (h : ∀ M2, CI M2 w → CR (k (nI (wyP (wtN w.A (73 + 16 * e)) (w.A 2) (w.A (73 + 16 * e)))) M2) v w2) : CR (opp (f_X5_ways 1 (nI e) z M) k) v w2 := by
  have h4 := hO.1.n
  refine CR.pe (c_ways hO hC _ _).cr ?_ h
  unfold lkWays
  rw [ixO_s (by omega) he]
  simp only
  rw [if_pos hz]
abbrev K95 := Nat → Int32 → Int32 → Int32 → Int32 → Int32 → Int32 → Int32 → Mem → Option (Int32 × Mem)
abbrev K674 := Nat → Int32 → Int32 → Int32 → Int32 → Int32 → Int32 → Int32 → Int32 → Int32 → Int32 → Mem → Option (Int32 × Mem)
abbrev K169 := Nat → Int32 → Int32 → Int32 → Int32 → Int32 → Int32 → Int32 → Int32 → Int32 → Int32 → Int32 → Mem → Option (Int32 × Mem)
/-! no two alike -/
theorem p_h765 {k95 : K95} {k674 : K674} {x1 x2 x3 x4 x5 x7 x8 x9 : Int32} {k : Nat} {M : Mem} (h : CR (k674 1 x1 x2 x3 x4 x5 1 x7 x8 x9 (nI (k + 1)) M) v w2) : CR (f_L_holds_765 k95 k674 1 x1 x2 x3 x4 x5 1 x7 x8 x9 (nI k) 0 M) v w2 := by
  unfold f_L_holds_765 f_L_holds_780
  exact CR.f (by decide) (CR.t rfl (CR.be (nI_1 k) h))
theorem p_h715z (hO : OkW w) {k95 : K95} {k674 : K674} {x1 x2 x3 x4 x5 : Int32} {e k p n : Nat} {M : Mem} (he : e < w.A 3) (h : CR (k674 1 x1 x2 x3 x4 x5 1 (nI e) (nI (w.A (73 + 16 * e))) (nI (w.A (73 + 16 * e + 1))) (nI (k + 1)) M) v w2) : CR (f_L_holds_715 k95 k674 (n + 1) 1 x1 x2 x3 x4 x5 1 (nI e) (nI (w.A (73 + 16 * e))) (nI (w.A (73 + 16 * e + 1))) (nI k) 0 (nI p) M) v w2 := by
  have hK := hO.1.e e he
  have hc := hK.c
  rw [f_L_holds_715]
  refine CR.o (p_ones (by omega)) ?_
  by_cases q : nI (w.A (73 + 16 * e)) + nI (pcN (w.A (73 + 16 * e + 1))) ≤ nI p
  · exact CR.t q (p_h765 h)
  · exact CR.f q (CR.t rfl (p_h765 h))
theorem p_h715 (hO : OkW w) {k95 : K95} {k674 : K674} {x1 x2 x3 x4 x5 : Int32} {e k ps : Nat} (he : e < w.A 3) (hps : ps < tlN w.A e) (hne : ¬ lkSign (nI k) (nI ps) w.A = lkSign (nI e) (nI ps) w.A) (h : ∀ M, CI M w → CR (k674 1 x1 x2 x3 x4 x5 1 (nI e) (nI (w.A (73 + 16 * e))) (nI (w.A (73 + 16 * e + 1))) (nI (k + 1)) M) v w2) : ∀ (n p : Nat) (M : Mem), p ≤ ps → ps - p + 1 < n → CI M w → CR (f_L_holds_715 k95 k674 n 1 x1 x2 x3 x4 x5 1 (nI e) (nI (w.A (73 + 16 * e))) (nI (w.A (73 + 16 * e + 1))) (nI k) 1 (nI p) M) v w2 := by
  have hK := hO.1.e e he
  have hc := hK.c
  have hw := hK.2.1
  have hpc := pcN_le (w.A (73 + 16 * e + 1))
  have htl : tlN w.A e = w.A (73 + 16 * e) + pcN (w.A (73 + 16 * e + 1)) := rfl
  intro n
  induction n with
  | zero => intro p _ _ h; omega
  | succ n ih =>
    intro p M hj hn hC
    obtain ⟨m, rfl⟩ : ∃ m, n = m + 1 := ⟨n - 1, by omega⟩
    rw [f_L_holds_715]
    refine CR.o (p_ones (by omega)) ?_
    rw [nI_add]
    refine CR.f (nI_nle' (by omega) (by omega) (by omega)) (CR.f (by decide) (CR.g (CR.o (c_sign hO hC _ _) (CR.o (c_sign hO hC _ _) ?_))))
    unfold f_L_holds_757
    by_cases q : lkSign (nI k) (nI p) w.A = lkSign (nI e) (nI p) w.A
    · refine CR.t q (CR.be (nI_1 p) (ih (p + 1) M ?_ ?_ hC))
      · by_cases z : p = ps
        · subst z; exact absurd q hne
        · omega
      · by_cases z : p = ps
        · subst z; exact absurd q hne
        · omega
    · exact CR.f q (CR.be (nI_1 p) (p_h715z hO he (h M hC)))
theorem alike_pl {A : Nat → Nat} (hO : Ok A) {e k : Nat} (he : e < A 3) (hk : k < A 3) (hn : ¬ Alike A k e) (h1 : A (73 + 16 * k) = A (73 + 16 * e)) (h2 : A (73 + 16 * k + 1) = A (73 + 16 * e + 1)) : ∃ ps, ps < tlN A e ∧ ¬ lkSign (nI k) (nI ps) A = lkSign (nI e) (nI ps) A := by
  obtain ⟨t, ht, hq⟩ : ∃ t, t < A (73 + 16 * e) ∧ ¬ A (77 + 16 * k + t) = A (77 + 16 * e + t) := Classical.byContradiction fun h => hn ⟨h1, by rw [show 74 + 16 * k = 73 + 16 * k + 1 by omega, show 74 + 16 * e = 73 + 16 * e + 1 by omega]; exact h2, fun t ht => Classical.byContradiction fun q => h ⟨t, by omega, q⟩⟩
  have hKe := hO.e e he
  have hKk := hO.e k hk
  refine ⟨txA A (73 + 16 * e) t, ?_, ?_⟩
  · have d := txA_d (A := A) (o := 73 + 16 * e) (A (73 + 16 * e) - t) t
    rw [show t + (A (73 + 16 * e) - t) = A (73 + 16 * e) by omega, wd_end hKe] at d
    unfold tlN
    omega
  · have ek : txA A (73 + 16 * e) t = txA A (73 + 16 * k) t := by unfold txA; rw [h2]
    rw [lkSign_at hO he ht, ek, lkSign_at hO hk (by omega)]
    intro z
    have b1 := hKe.2.2.2.1 t ht
    have b2 := hKk.2.2.2.1 t (by omega)
    rw [show 73 + 16 * e + 4 + t = 77 + 16 * e + t by omega] at b1
    rw [show 73 + 16 * k + 4 + t = 77 + 16 * k + t by omega] at b2
    rw [show (97 : Int32) = nI 97 from rfl, nI_add, nI_add] at z
    have := (nI_eq (by omega) (by omega)).mp z
    omega
theorem p_h674 (hO : OkW w) (hU : Uq w.A) {k95 : K95} {x1 x2 x3 x4 x5 : Int32} {e : Nat} (he : e < w.A 3) (hk : ∀ M, CI M w → CR (k95 1 x1 x2 x3 x4 x5 1 (nI (e + 1)) M) v w2) : ∀ (n k : Nat) (M : Mem), k ≤ e → e - k < n → CI M w → CR (f_L_holds_674 k95 n 1 x1 x2 x3 x4 x5 1 (nI e) (nI (w.A (73 + 16 * e))) (nI (w.A (73 + 16 * e + 1))) (nI k) M) v w2 := by
  have h4 := hO.1.n
  have hK := hO.1.e e he
  have hc := hK.c
  have hw := hK.2.1
  intro n
  induction n with
  | zero => intro k _ _ h; omega
  | succ n ih =>
    intro k M hj hn hC
    rw [f_L_holds_674]
    by_cases q : k = e
    · subst q
      exact CR.t (nI_le' (by omega) (by omega) (by omega)) (CR.be (nI_1 k) (hk M hC))
    · have hke : k < e := by omega
      have hK2 := hO.1.e k (by omega)
      have hc2 := hK2.c
      have hw2 := hK2.2.1
      refine CR.f (nI_nle' (by omega) (by omega) hke) (CR.g (s_e0 hO hC (by omega) fun M2 C2 => ?_))
      unfold f_L_holds_709 f_L_holds_710
      have nx : ∀ M, CI M w → CR (f_L_holds_674 k95 n 1 x1 x2 x3 x4 x5 1 (nI e) (nI (w.A (73 + 16 * e))) (nI (w.A (73 + 16 * e + 1))) (nI (k + 1)) M) v w2 := fun M3 C3 => ih (k + 1) M3 (by omega) (by omega) C3
      by_cases h1 : w.A (73 + 16 * k) = w.A (73 + 16 * e)
      · refine CR.t (by rw [h1]) (s_e1 hO C2 (by omega) fun M3 C3 => ?_)
        by_cases h2 : w.A (73 + 16 * k + 1) = w.A (73 + 16 * e + 1)
        · obtain ⟨ps, p1, p2⟩ := alike_pl hO.1 he (by omega) (hU k e hke he) h1 h2
          have htl : tlN w.A e ≤ 24 := by have := pcN_le (w.A (73 + 16 * e + 1)); unfold tlN; omega
          exact CR.t (by rw [h2]) (p_h715 hO he p1 p2 nx FU 0 M3 (by omega) (by unfold FU; omega) C3)
        · exact CR.f (nI_ne (by omega) (by omega) h2) (p_h715z hO he (nx M3 C3))
      · exact CR.f (nI_ne (by omega) (by omega) h1) (p_h715z hO he (nx M2 C2))
/-! an edition -/
theorem p_h539 (hO : OkW w) (hU : Uq w.A) {k95 : K95} {x1 x2 x3 x4 x5 : Int32} {e : Nat} (he : e < w.A 3) {x : Int32} {M : Mem} (hC : CI M w) (hk : ∀ M, CI M w → CR (k95 1 x1 x2 x3 x4 x5 1 (nI (e + 1)) M) v w2) : CR (f_L_holds_539 k95 1 x1 x2 x3 x4 x5 (nI e) (nI (w.A (73 + 16 * e))) (nI (w.A (73 + 16 * e + 1))) x x M) v w2 := by
  have h4 := hO.1.n
  have hK := hO.1.e e he
  have hc := hK.c
  have hw := hK.2.1
  have hh := hO.1.h
  obtain ⟨c, c0, c1, c2, c3, c4⟩ := rkM_ex hK
  have c5 : c < 2048 := Nat.lt_of_lt_of_le c0 (Nat.pow_le_pow_right (by decide) (by omega) : 2 ^ (w.A (73 + 16 * e) - 1) ≤ 2 ^ 11)
  have k1 := costN_1k hO.1 hK c
  have k2 := costN_1k hO.1 hK (w.A (73 + 16 * e + 1))
  have y1 := wyP_pos (W := wtN w.A (73 + 16 * e)) (h := w.A 2) (w.A (73 + 16 * e)) (fun j hj => by have := (hK.wt hO.1 hj).2; omega)
  have y2 := wyP_le (W := wtN w.A (73 + 16 * e)) (h := w.A 2) (w.A (73 + 16 * e))
  have y3 : 2 ^ w.A (73 + 16 * e) ≤ 2 ^ 12 := Nat.pow_le_pow_right (by decide) hw
  have b0 : lkBestA 0 (rkM w.A (73 + 16 * e)) = nI c := by unfold lkBestA; rw [if_pos (by decide), c1]
  have b1 : lkBestA 1 (rkM w.A (73 + 16 * e)) = nI (costN w.A (73 + 16 * e) c) := by unfold lkBestA; rw [if_neg (by decide), if_pos (by decide), c2]
  have b2 : lkBestA 2 (rkM w.A (73 + 16 * e)) = nI (pcN c) := by unfold lkBestA; rw [if_neg (by decide), if_neg (by decide), c3]
  unfold f_L_holds_539
  refine CR.t rfl (CR.g (s_gO2 hO hC he (Or.inr (by rw [nI_sub1 hK.1]; exact Int32.le_refl _)) fun M2 C2 => CR.t rfl (CR.o (p_ones (by omega)) (CR.o (a := -4) ((c_sign hO C2 _ _).trans (congrArg some ?_)) ?_))))
  · rw [nI_add]
    have := lkSign_end hO.1 he
    rw [show 74 + 16 * e = 73 + 16 * e + 1 by omega] at this
    exact this
  refine CR.t rfl (s_b hO C2 he (by decide) (by decide) fun M3 C3 => s_e6 hO C3 he fun M4 C4 => ?_)
  rw [b1]
  refine CR.f (nlt_n (by omega) (by omega) c4) (s_b hO C4 he (by decide) (by decide) fun M5 C5 => s_b hO C5 he (by decide) (by decide) fun M6 C6 => CR.t rfl (s_b hO C6 he (by decide) (by decide) fun M7 C7 => s_b hO C7 he (by decide) (by decide) fun M8 C8 => ?_))
  rw [b2, b0]
  refine CR.o (p_ones (by omega)) (CR.t rfl (s_w hO C8 he (by decide) fun M9 C9 => s_w hO C9 he (by decide) fun M10 C10 => CR.t rfl (s_w hO C10 he (by decide) fun M11 C11 => CR.f (nlt_n (b := 1) (by omega) (by decide) y1) ?_)))
  unfold f_L_holds_669
  exact p_h674 hO hU he hk FU 0 M11 (by omega) (by unfold FU; omega) C11
theorem p_h399 (hO : OkW w) (hU : Uq w.A) {k95 : K95} {x1 x2 x3 x4 x5 : Int32} {e : Nat} (he : e < w.A 3) {M : Mem} (hC : CI M w) (hk : ∀ M, CI M w → CR (k95 1 x1 x2 x3 x4 x5 1 (nI (e + 1)) M) v w2) : CR (f_L_holds_399 k95 1 x1 x2 x3 x4 x5 1 (nI e) (nI (w.A (73 + 16 * e))) (nI (w.A (73 + 16 * e + 1))) (nI (fnN w.A (73 + 16 * e) (w.A (73 + 16 * e + 1)))) M) v w2 := by
  have h4 := hO.1.n
  have hK := hO.1.e e he
  have hc := hK.c
  have hc2 := hK.2.2.1
  have hw := hK.2.1
  have hw1 := hK.1
  have hpc := pcN_le (w.A (73 + 16 * e + 1))
  have hp1 : 2 ^ (w.A (73 + 16 * e) - 1) < 2 ^ 31 := Nat.pow_lt_pow_right (by decide) (by omega)
  have s1 := sumN_leb (f := wtN w.A (73 + 16 * e)) (b := 9) (w.A (73 + 16 * e)) (fun j hj => (hK.wt hO.1 hj).2)
  have s2 := sumN_mono (f := fun _ => 1) (g := wtN w.A (73 + 16 * e)) (w.A (73 + 16 * e)) (fun j hj => (hK.wt hO.1 hj).1)
  have s3 : ∀ k, sumN (fun _ => 1) k = k := fun k => by
    induction k with
    | zero => rfl
    | succ k ih => show sumN (fun _ => 1) k + 1 = k + 1; rw [ih]
  rw [s3] at s2
  have go := fun (x : Int32) (M : Mem) (hC : CI M w) => p_h539 hO hU (x1 := x1) (x2 := x2) (x3 := x3) (x4 := x4) (x5 := x5) he (x := x) hC hk
  unfold f_L_holds_399
  refine CR.f (by decide) (CR.f (nlt_n (b := 1) (by omega) (by decide) hw1) (CR.f (nlt_n (a := 12) (by decide) (by omega) hw) (CR.f (nI_neg (by omega)) (CR.f ?_ ?_))))
  · rw [nI_sub1 hw1, p_shl1 (by omega)]
    exact nI_nle' (by omega) (by omega) hc2
  refine CR.g (s_e2 hO hC he fun M2 C2 => CR.o (p_ones (by omega)) (CR.t (nI_1 _).symm (s_e3 hO C2 he fun M3 C3 => CR.f (nlt_n (by omega) (by omega) s2) (s_e3 hO C3 he fun M4 C4 => CR.f ?_ (s_e5 hO C4 he fun M5 C5 => CR.t rfl (s_e6 hO C5 he fun M6 C6 => s_e4 hO C6 he fun M7 C7 => CR.t ?_ (s_e7 hO C7 he fun M8 C8 => s_c0 hO C8 fun M9 C9 => s_e8 hO C9 he fun M10 C10 => ?_)))))))
  · rw [show (9 : Int32) = nI 9 from rfl, pk_mul]
    exact nlt_n (by omega) (by omega) (by omega)
  · rw [nI_add]; rfl
  · by_cases q : nI (w.A (73 + 16 * e + 2)) ≤ nI (w.A 0)
    · rw [show styN w.A (73 + 16 * e) = 0 from if_neg (Int32.not_lt.mpr q)]
      exact CR.t q (go 0 M10 C10)
    · rw [show styN w.A (73 + 16 * e) = 1 from if_pos (Int32.not_le.mp q)]
      exact CR.f q (go 1 M10 C10)
/-! the gaps of an edition -/
theorem enc_sm {o : Option Nat} {n : Nat} (h : o = some n) : enc o = nI n := by rw [h]; rfl
theorem p_h311 (hO : OkW w) {k95 : K95} {k169 : K169} {x1 x2 x3 x4 x5 : Int32} {e g : Nat} (he : e < w.A 3) (hg : g + 1 < w.A (73 + 16 * e)) {x13 : Int32} {M : Mem} (hC : CI M w) (hk : ∀ M, CI M w → CR (k169 1 x1 x2 x3 x4 x5 1 (nI e) (nI (w.A (73 + 16 * e))) (nI (w.A (73 + 16 * e + 1))) (nI (sumN (fun g => fineN w.A (73 + 16 * e) g (bitN (w.A (73 + 16 * e + 1)) g)) (g + 1))) (nI (g + 1)) M) v w2)
    (e13 : x13 = nI (fineN w.A (73 + 16 * e) g (bitN (w.A (73 + 16 * e + 1)) g))) : CR (f_L_holds_311 k95 k169 1 x1 x2 x3 x4 x5 (nI e) (nI (w.A (73 + 16 * e))) (nI (w.A (73 + 16 * e + 1))) (nI (sumN (fun g => fineN w.A (73 + 16 * e) g (bitN (w.A (73 + 16 * e + 1)) g)) g)) (nI g) (nI (w.A (77 + 16 * e + g))) (enc (cnt w.A (w.A (77 + 16 * e + g)) (w.A (77 + 16 * e + (g + 1))))) (nI (bitN (w.A (73 + 16 * e + 1)) g)) x13 M) v w2 := by
  have hK := hO.1.e e he
  have hw := hK.2.1
  have hkd := hK.2.2.2.1 g (by omega)
  rw [show 73 + 16 * e + 4 + g = 77 + 16 * e + g by omega] at hkd
  have k1 := costN_1k hO.1 hK (w.A (73 + 16 * e + 1))
  have k2 := costN_1k hO.1 hK (flN (w.A (73 + 16 * e + 1)) g)
  unfold f_L_holds_311 f_L_holds_391
  rw [e13]
  refine CR.be (nI_add _ _) (CR.g (s_g0 hO hC he hg fun M2 C2 => CR.t rfl (s_g1 hO C2 he hg fun M3 C3 => CR.t ?_ (s_g2 hO C3 he hg fun M4 C4 => CR.t rfl (s_g3 hO C4 he hg fun M5 C5 => CR.f ?_ (CR.f (nI_neg (by omega)) (CR.f (nI_nle' (a := 6) (by decide) (by omega) hkd) (CR.be (nI_1 g) (hk M5 C5)))))))))
  · rw [show 73 + 16 * e + 4 + g = 77 + 16 * e + g by omega, show 73 + 16 * e + 5 + g = 77 + 16 * e + (g + 1) by omega]
  · rw [show (1000 : Int32) = nI 1000 from rfl, nI_add, pk_sub (by omega)]
    exact nI_neg (by omega)
theorem p_h212 (hO : OkW w) {k95 : K95} {k169 : K169} {x1 x2 x3 x4 x5 : Int32} {e g : Nat} (he : e < w.A 3) (hg : g + 1 < w.A (73 + 16 * e)) (hk : ∀ M, CI M w → CR (k169 1 x1 x2 x3 x4 x5 1 (nI e) (nI (w.A (73 + 16 * e))) (nI (w.A (73 + 16 * e + 1))) (nI (sumN (fun g => fineN w.A (73 + 16 * e) g (bitN (w.A (73 + 16 * e + 1)) g)) (g + 1))) (nI (g + 1)) M) v w2) : ∀ (n k : Nat) (M : Mem), k ≤ w.A 4 → w.A 4 - k < n → CI M w → CR (f_L_holds_212 k95 k169 n 1 x1 x2 x3 x4 x5 (nI e) (nI (w.A (73 + 16 * e))) (nI (w.A (73 + 16 * e + 1))) (nI (sumN (fun g => fineN w.A (73 + 16 * e) g (bitN (w.A (73 + 16 * e + 1)) g)) g)) (nI g) (nI (w.A (77 + 16 * e + g))) (nI (w.A (77 + 16 * e + (g + 1)))) (enc (cntF w.A (w.A (77 + 16 * e + g)) (w.A (77 + 16 * e + (g + 1))) k)) (nI k) M) v w2 := by
  have hm := hO.1.m
  have hK := hO.1.e e he
  have hc := hK.c
  have hw := hK.2.1
  have kd1 := hK.2.2.2.1 g (by omega)
  have kd2 := hK.2.2.2.1 (g + 1) (by omega)
  rw [show 73 + 16 * e + 4 + g = 77 + 16 * e + g by omega] at kd1
  rw [show 73 + 16 * e + 4 + (g + 1) = 77 + 16 * e + (g + 1) by omega] at kd2
  intro n
  induction n with
  | zero => intro k _ _ h; omega
  | succ n ih =>
    intro k M hj hn hC
    rw [f_L_holds_212]
    refine CR.g (s_c4 hO hC fun M2 C2 => ?_)
    by_cases q : k = w.A 4
    · subst q
      refine CR.t (nI_le' (by omega) (by omega) (by omega)) (CR.be (p_bit (by omega) (by omega)) ?_)
      have fin := fun (x13 : Int32) => p_h311 hO (k95 := k95) (x13 := x13) he hg C2 hk
      unfold f_L_holds_300
      have ef : fineN w.A (73 + 16 * e) g (bitN (w.A (73 + 16 * e + 1)) g) = match cntF w.A (w.A (77 + 16 * e + g)) (w.A (77 + 16 * e + (g + 1))) (w.A 4) with
          | none => 0
          | some r => if w.A (15 + 6 * r) = bitN (w.A (73 + 16 * e + 1)) g then 0 else w.A (16 + 6 * r) := by
        unfold fineN cnt
        rw [show 73 + 16 * e + 4 + g = 77 + 16 * e + g by omega, show 73 + 16 * e + 5 + g = 77 + 16 * e + (g + 1) by omega]
        cases cntF w.A (w.A (77 + 16 * e + g)) (w.A (77 + 16 * e + (g + 1))) (w.A 4) <;> rfl
      unfold cnt at fin
      rw [ef] at fin
      cases hr : cntF w.A (w.A (77 + 16 * e + g)) (w.A (77 + 16 * e + (g + 1))) (w.A 4) with
      | none =>
        rw [hr] at fin
        exact CR.t rfl (fin 0 rfl)
      | some r =>
        have hrl := cntF_lt hr
        obtain ⟨u1, u2, u3, u4, u5, u6, u7⟩ := hO.1.r r hrl
        have hb := bitN_lt (w.A (73 + 16 * e + 1)) g
        rw [hr] at fin
        refine CR.f ?_ (s_r2 hO C2 hrl ?_)
        · intro z
          have h1 : (-4 : Int32) < 0 := by decide
          rw [← z] at h1
          exact absurd h1 (nI_neg (by omega))
        · by_cases h1 : w.A (15 + 6 * r) = bitN (w.A (73 + 16 * e + 1)) g
          · exact CR.t (by rw [h1]) (fin 0 (by simp only [if_pos h1]; rfl))
          · exact CR.f (nI_ne (by omega) (by omega) h1) (s_r3 hO C2 hrl (fin _ (by simp only [if_neg h1])))
    · have hlt : k < w.A 4 := by omega
      obtain ⟨u1, u2, u3, u4, u5, u6, u7⟩ := hO.1.r k hlt
      refine CR.f (nI_nle' (by omega) (by omega) hlt) (s_r5 hO C2 hlt ?_)
      have nx := ih (k + 1) M2 (by omega) (by omega) C2
      unfold f_L_holds_262 f_L_holds_264
      by_cases hq : inF w.A k = true ∧ w.A (13 + 6 * k) = w.A (77 + 16 * e + g) ∧ w.A (14 + 6 * k) = w.A (77 + 16 * e + (g + 1))
      · rw [cntF, if_pos hq] at nx
        refine CR.t (by rw [hq.1]; rfl) (s_r0 hO C2 hlt (CR.t (by rw [hq.2.1]) (s_r1 hO C2 hlt (CR.t (by rw [hq.2.2]) (CR.be (nI_1 k) nx)))))
      · rw [cntF, if_neg hq] at nx
        cases h1 : inF w.A k
        · exact CR.f (by decide) (CR.be (nI_1 k) nx)
        · refine CR.t rfl (s_r0 hO C2 hlt ?_)
          by_cases h2 : w.A (13 + 6 * k) = w.A (77 + 16 * e + g)
          · refine CR.t (by rw [h2]) (s_r1 hO C2 hlt (CR.f (nI_ne (by omega) (by omega) (fun z => hq ⟨h1, h2, z⟩)) (CR.be (nI_1 k) nx)))
          · exact CR.f (nI_ne (by omega) (by omega) h2) (CR.be (nI_1 k) nx)
theorem p_h169 (hO : OkW w) (hU : Uq w.A) {k95 : K95} {x1 x2 x3 x4 x5 : Int32} {e : Nat} (he : e < w.A 3) (hk : ∀ M, CI M w → CR (k95 1 x1 x2 x3 x4 x5 1 (nI (e + 1)) M) v w2) : ∀ (n g : Nat) (M : Mem), g + 1 ≤ w.A (73 + 16 * e) → w.A (73 + 16 * e) - g < n → CI M w → CR (f_L_holds_169 k95 n 1 x1 x2 x3 x4 x5 1 (nI e) (nI (w.A (73 + 16 * e))) (nI (w.A (73 + 16 * e + 1))) (nI (sumN (fun g => fineN w.A (73 + 16 * e) g (bitN (w.A (73 + 16 * e + 1)) g)) g)) (nI g) M) v w2 := by
  have hm := hO.1.m
  have hK := hO.1.e e he
  have hw := hK.2.1
  have hw1 := hK.1
  intro n
  induction n with
  | zero => intro g _ _ h; omega
  | succ n ih =>
    intro g M hj hn hC
    rw [f_L_holds_169, nI_sub1 hw1]
    by_cases q : g + 1 = w.A (73 + 16 * e)
    · refine CR.t (nI_le' (by omega) (by omega) (by omega)) ?_
      rw [show g = w.A (73 + 16 * e) - 1 by omega]
      exact p_h399 hO hU he hC hk
    · refine CR.f (nI_nle' (by omega) (by omega) (by omega)) (CR.f (by decide) (CR.p (p_kind hO hC he (by omega)) fun M2 C2 => ?_))
      rw [nI_1]
      refine CR.p (p_kind hO C2 he (by omega)) fun M3 C3 => ?_
      exact p_h212 hO he (by omega) (fun M4 C4 => ih (g + 1) M4 (by omega) (by omega) C4) FU 0 M3 (by omega) (by unfold FU; omega) C3
/-! the sums -/
theorem p_h794 (hO : OkW w) {M : Mem} (hC : CI M w) : CR (f_L_holds_794 1 (nI (w.A 3)) (nI (sumN (fun k => w.A (73 + 16 * k)) (w.A 3))) (nI (sumN (fun k => pcN (w.A (73 + 16 * k + 1))) (w.A 3))) (nI (sumN (ceN w.A) (w.A 3))) (nI (sumN (fun k => styN w.A (73 + 16 * k)) (w.A 3))) 1 M) 1 w := by
  have h4 := hO.1.n
  have l1 := wdC_le hO.1
  have l2 := cmC_le hO.1
  unfold f_L_holds_794
  refine CR.f (by decide) (CR.g (s_c3 hO hC fun M2 C2 => CR.t rfl (s_c2 hO C2 fun M3 C3 => CR.t rfl (s_c9 hO C3 fun M4 C4 => CR.t rfl (s_c12 hO C4 fun M5 C5 => ?_)))))
  unfold f_L_holds_845 f_L_holds_854 f_L_holds_876
  by_cases h : w.A 3 = 0
  · rw [h]
    refine CR.t rfl (CR.t rfl (CR.t rfl (CR.g (CR.o (c_length hO C5) (CR.t rfl ?_)))))
    unfold lkLen
    rw [if_pos h]
    exact CR.t c_self (CR.r C5)
  · obtain ⟨n, hn⟩ : ∃ n, w.A 3 = n + 1 := ⟨w.A 3 - 1, by omega⟩
    have z0 : ¬ nI (w.A 3) = 0 := fun z => h ((nI_z (by omega)).mp z)
    refine CR.f ?_ (CR.f z0 (CR.t rfl (CR.g (CR.o (c_length hO C5) (CR.f z0 ?_)))))
    · obtain ⟨p, hp⟩ := chS_some (A := w.A) n
      rw [hn, hp]
      intro z
      have h1 : (-4 : Int32) < 0 := by decide
      have h2 := (chS_lt hO.1 (by omega) hp).1
      rw [← z] at h1
      exact absurd h1 (nI_neg (by omega))
    · rw [nI_add]
      unfold lkLen
      rw [if_neg h]
      exact CR.gd (dv_ok _ (Nat.lt_succ_of_le l1) _ (by show cmC w.A + w.A 3 < 53; omega) (by omega)) (CR.t (dv_self _ (Nat.lt_succ_of_le l1) _ (by show cmC w.A + w.A 3 < 53; omega) (by omega)) (CR.r C5))
theorem p_h95 (hO : OkW w) (hU : Uq w.A) : ∀ (n e : Nat) (M : Mem), e ≤ w.A 3 → w.A 3 - e < n → CI M w → CR (f_L_holds_95 n 1 (nI (w.A 3)) (nI (sumN (fun k => w.A (73 + 16 * k)) e)) (nI (sumN (fun k => pcN (w.A (73 + 16 * k + 1))) e)) (nI (sumN (ceN w.A) e)) (nI (sumN (fun k => styN w.A (73 + 16 * k)) e)) 1 (nI e) M) 1 w := by
  have h4 := hO.1.n
  intro n
  induction n with
  | zero => intro g _ _ h; omega
  | succ n ih =>
    intro e M hj hn hC
    rw [f_L_holds_95]
    by_cases q : e = w.A 3
    · subst q
      exact CR.t (nI_le' (by omega) (by omega) (by omega)) (p_h794 hO hC)
    · have he : e < w.A 3 := by omega
      have hK := hO.1.e e he
      have hc := hK.c
      have hw := hK.2.1
      refine CR.f (nI_nle' (by omega) (by omega) he) (CR.f (by decide) (CR.g (s_e0 hO hC he fun M2 C2 => s_e1 hO C2 he fun M3 C3 => CR.be (nI_add _ _) (CR.o (p_ones (by omega)) (CR.be (nI_add _ _) (s_e6 hO C3 he fun M4 C4 => CR.be (nI_add _ _) (s_e7 hO C4 he fun M5 C5 => CR.be (nI_add _ _) ?_)))))))
      exact p_h169 hO hU he (fun M6 C6 => ih (e + 1) M6 (by omega) (by omega) C6) FU 0 M5 hK.1 (by unfold FU; omega) C5
end HO
theorem p_holds {M : Mem} {w : Wd} (hO : OkW w) (hU : Uq w.A) (hC : CI M w) : CR (f_L_holds 1 M) 1 w := by
  have h4 := hO.1.n
  have hb := hO.1.b
  have hh := hO.1.h
  unfold f_L_holds
  refine CR.g (s_c1 hO hC fun M2 C2 => CR.p (p_rulings hO C2) fun M3 C3 => CR.f (by decide) (CR.f (nI_neg (by omega)) (CR.f (nlt_n (a := 4) (by decide) (by omega) h4) (s_eO hO C3 (Or.inr (Int32.le_refl _)) fun M4 C4 => CR.t rfl (s_c10 hO C4 fun M5 C5 => CR.f (nlt_n (b := 1) (by omega) (by decide) hb.1) (s_c10 hO C5 fun M6 C6 => CR.f (nlt_n (a := 30) (by decide) (by omega) hb.2) (s_c11 hO C6 fun M7 C7 => CR.f (nlt_n (b := 9) (by omega) (by decide) hh.1) (s_c11 hO C7 fun M8 C8 => CR.f (nlt_n (a := 60) (by decide) (by omega) hh.2) ?_))))))))
  unfold f_L_holds_90
  exact p_h95 hO hU FU 0 M8 (by omega) (by unfold FU; omega) C8
