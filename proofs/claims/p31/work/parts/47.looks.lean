/-! PURE: looks, the class -/
def lkEdA (f : Int32) (A : Nat → Nat) (o : Nat) : Int32 := if f = nI 0 then nI (A o) else if f = nI 1 then nI (A (o + 1)) else if f = nI 2 then nI (pcN (A (o + 1)) + 1) else if f = nI 3 then nI (sumN (wtN A o) (A o)) else if f = nI 4 then nI (clN A o (A (o + 1))) else if f = nI 5 then nI (fnN A o (A (o + 1))) else if f = nI 6 then nI (costN A o (A (o + 1))) else if f = nI 7 then nI (styN A o) else if f = nI 8 then nI (A (o + 2)) else if f = nI 9 then nI (A (o + 3)) else -1
def lkEd (x f : Int32) (A : Nat → Nat) : Int32 := match ixO x (A 3) with
  | none => -1
  | some e => lkEdA f A (73 + 16 * e)
theorem b01 {n : Nat} (h : n < 2) {α : Type} (x : Int32 → α) : (if nI n = 0 then x 0 else x 1) = x (nI n) := by
  rcases Nat.lt_or_ge n 1 with e | e
  · rw [show n = 0 by omega]; rfl
  · rw [show n = 1 by omega]; rfl
theorem c_edition {M : Mem} {w : Wd} (hO : OkW w) (hC : CI M w) (x f : Int32) : CRes (f_X5_edition 1 x f M) M (lkEd x f w.A) w := by
  have hn := hO.1.n
  have ha := lay1.2.2.2
  unfold f_X5_edition lkEd
  rw [gdd_t lay1.1, lay1.2.1, gdd_t ha]
  rcases ix_cases x (n := w.A 3) (by omega) with ⟨e, he, rfl⟩ | ⟨hx, hx2⟩
  · have ke := (st_ed ha (show e < 4 by omega)).2
    have hK := hO.1.e e he
    have hc := hK.c
    obtain ⟨M1, r1, r2, r3⟩ := p_read ha hO.1 hC.1 ke (hC.1.e e he) hK
    have hR1 : RelS M1 12 w.A := hC.1.sm r2 sh12 hO.1.n hO.1.m
    have hE1 := hR1.e e he
    rw [p_edAt ha hC.1.n hn he, obb_s, if_neg (by omega), ixO_s (by omega) he, lay1.2.2.1, gdd_t k7, r1, obb_s]
    show CRes _ M (lkEdA f w.A (73 + 16 * e)) w
    unfold lkEdA
    have fin : ∀ v, CRes (some (v, M1)) M v w := fun v => CRes.sh hO hC r2
    by_cases h0 : f = nI 0
    · rw [if_pos h0, if_pos h0, gdd_t ke, hE1.1]; exact fin _
    rw [if_neg h0, if_neg h0]
    by_cases h1 : f = nI 1
    · rw [if_pos h1, if_pos h1, gdd_t ke, hE1.2.1]; exact fin _
    rw [if_neg h1, if_neg h1]
    by_cases h2 : f = nI 2
    · unfold f_X0_clauses
      rw [if_pos h2, if_pos h2, gdd_t ke, gdd_t ke, hE1.2.1, p_bitCount (by omega), nI_1, obb_s]; exact fin _
    rw [if_neg h2, if_neg h2]
    by_cases h3 : f = nI 3
    · rw [if_pos h3, if_pos h3, p_wholeWeight r3 hK, obb_s]; exact fin _
    rw [if_neg h3, if_neg h3]
    by_cases h4 : f = nI 4
    · rw [if_pos h4, if_pos h4, gdd_t ke, hE1.2.1, p_clausesCost r3 hO.1 hK (by omega), obb_s]; exact fin _
    rw [if_neg h4, if_neg h4]
    by_cases h5 : f = nI 5
    · rw [if_pos h5, if_pos h5, gdd_t ke, hE1.2.1, p_fines r3 hK (by omega), obb_s]; exact fin _
    rw [if_neg h5, if_neg h5]
    by_cases h6 : f = nI 6
    · rw [if_pos h6, if_pos h6, gdd_t ke, hE1.2.1, p_cost r3 hO.1 hK (by omega), obb_s]; exact fin _
    rw [if_neg h6, if_neg h6]
    by_cases h7 : f = nI 7
    · rw [if_pos h7, if_pos h7, p_isStayed ha hR1 ke hE1, obb_s, b01 (styN_lt _) (fun v => some (v, M1))]; exact fin _
    rw [if_neg h7, if_neg h7]
    by_cases h8 : f = nI 8
    · rw [if_pos h8, if_pos h8, gdd_t ke, hE1.2.2.1]; exact fin _
    rw [if_neg h8, if_neg h8]
    by_cases h9 : f = nI 9
    · rw [if_pos h9, if_pos h9, gdd_t ke, hE1.2.2.2.1]; exact fin _
    rw [if_neg h9, if_neg h9]
    exact fin _
  · rw [p_edAtO ha hC.1.n hx, obb_s, if_pos rfl, hx2]
    exact CRes.no hC
def lkGapA (f : Int32) (A : Nat → Nat) (o g : Nat) : Int32 := if f = nI 0 then nI (bitN (A (o + 1)) g) else if f = nI 1 then enc (cnt A (A (o + 4 + g)) (A (o + 5 + g))) else if f = nI 2 then nI (fineN A o g (bitN (A (o + 1)) g)) else if f = nI 3 then 1000 + nI (costN A o (flN (A (o + 1)) g)) - nI (costN A o (A (o + 1))) else -1
def lkGap (x y f : Int32) (A : Nat → Nat) : Int32 := match ixO x (A 3) with
  | none => -1
  | some e => match ixO y (A (73 + 16 * e) - 1) with
    | none => -1
    | some g => lkGapA f A (73 + 16 * e) g
theorem c_gap {M : Mem} {w : Wd} (hO : OkW w) (hC : CI M w) (x y f : Int32) : CRes (f_X5_gap 1 x y f M) M (lkGap x y f w.A) w := by
  have hn := hO.1.n
  have ha := lay1.2.2.2
  unfold f_X5_gap lkGap
  rw [gdd_t lay1.1, lay1.2.1, gdd_t ha]
  rcases ix_cases x (n := w.A 3) (by omega) with ⟨e, he, rfl⟩ | ⟨hx, hx2⟩
  · have ke := (st_ed ha (show e < 4 by omega)).2
    have hK := hO.1.e e he
    have hc := hK.c
    have hw := hK.2.1
    have hE := hC.1.e e he
    rw [p_edAt ha hC.1.n hn he, obb_s, if_neg (by omega), ixO_s (by omega) he, gdd_t ke]
    rcases p_gap ke (hC.1.e e he) hK y with ⟨g, g1, g2, g3, g4⟩ | ⟨g3, g4⟩
    · rw [g4, obb_s, if_neg (by decide)]
      subst g2
      simp only [g3]
      unfold lkGapA
      by_cases h0 : f = nI 0
      · rw [if_pos h0, if_pos h0, p_hasComma ke hE hK (by omega), obb_s, b01 (bitN_lt _ _) (fun v => some (v, M))]; exact CRes.no hC
      rw [if_neg h0, if_neg h0]
      by_cases h1 : f = nI 1
      · rw [if_pos h1, if_pos h1, p_countingAt ha hO.1 hC.1 ke hE hK g1, obb_s]; exact CRes.no hC
      rw [if_neg h1, if_neg h1]
      by_cases h2 : f = nI 2
      · rw [if_pos h2, if_pos h2, p_fineAt ha hO.1 hC.1 ke hE hK g1, obb_s]; exact CRes.no hC
      rw [if_neg h2, if_neg h2]
      by_cases h3 : f = nI 3
      · obtain ⟨M1, r1, r2, r3⟩ := p_read ha hO.1 hC.1 ke (hC.1.e e he) hK
        have hR1 : RelS M1 12 w.A := hC.1.sm r2 sh12 hO.1.n hO.1.m
        have hE1 := hR1.e e he
        have hfl : flN (w.A (73 + 16 * e + 1)) g < 2 ^ 11 := flN_lt hc (by omega)
        rw [if_pos h3, if_pos h3, lay1.2.2.1, gdd_t k7, r1, obb_s, p_moved ke hE1 (by omega), obb_s, hE1.2.1, p_cost r3 hO.1 hK (by omega), obb_s, p_cost r3 hO.1 hK (by omega), obb_s]
        exact CRes.sh hO hC r2
      rw [if_neg h3, if_neg h3]
      exact CRes.no hC
    · rw [g4, obb_s, if_pos rfl]
      simp only [g3]
      exact CRes.no hC
  · rw [p_edAtO ha hC.1.n hx, obb_s, if_pos rfl, hx2]
    exact CRes.no hC
/-- a look that writes nothing -/
def lkRuA (f : Int32) (A : Nat → Nat) (r : Nat) : Int32 := if f = nI 0 then nI (A (13 + 6 * r)) else if f = nI 1 then nI (A (14 + 6 * r)) else if f = nI 2 then nI (A (15 + 6 * r)) else if f = nI 3 then nI (A (16 + 6 * r)) else if f = nI 4 then (if A (17 + 6 * r) = 0 then -4 else nI (A (17 + 6 * r) - 1)) else if f = nI 5 then nI (inF A r).toNat else if f = nI 6 then nI (ctsN A r) else if f = nI 7 then nI (sumN (citN A r) (A 4)) else if f = nI 8 then nI (sumN (brgN A r) (A 3)) else -1
def lkRu (x f : Int32) (A : Nat → Nat) : Int32 := match ixO x (A 4) with
  | none => -1
  | some r => lkRuA f A r
theorem c_ruling {M : Mem} {w : Wd} (hO : OkW w) (hC : CI M w) (x f : Int32) : f_X5_ruling 1 x f M = some (lkRu x f w.A) := by
  have hm := hO.1.m
  have ha := lay1.2.2.2
  unfold f_X5_ruling lkRu
  rw [gdd_t lay1.1, lay1.2.1, gdd_t ha]
  rcases ix_cases x (n := w.A 4) (by omega) with ⟨r, hr, rfl⟩ | ⟨hx, hx2⟩
  · have kr := (st_ru ha (show r < 10 by omega)).2
    have hk := hO.1.r r hr
    obtain ⟨q0, q1, q2, q3, q4, q5, q6⟩ := hC.1.r r hr
    have hq := hO.1.q r hr
    rw [p_ruAt ha hC.1.m hm hr, obb_s, if_neg (by omega), ixO_s (by omega) hr]
    show _ = some (lkRuA f w.A r)
    unfold lkRuA
    by_cases h0 : f = nI 0
    · rw [if_pos h0, if_pos h0, gdd_t kr, q0]
    rw [if_neg h0, if_neg h0]
    by_cases h1 : f = nI 1
    · rw [if_pos h1, if_pos h1, gdd_t kr, q1]
    rw [if_neg h1, if_neg h1]
    by_cases h2 : f = nI 2
    · rw [if_pos h2, if_pos h2, gdd_t kr, q2, b01 (by have := hk.2.2.1; omega) (fun v => some v)]
    rw [if_neg h2, if_neg h2]
    by_cases h3 : f = nI 3
    · rw [if_pos h3, if_pos h3, gdd_t kr, q3]
    rw [if_neg h3, if_neg h3]
    by_cases h4 : f = nI 4
    · rw [if_pos h4, if_pos h4, gdd_t kr, q4]
      by_cases hz : w.A (17 + 6 * r) = 0
      · rw [hz, nI_0s1, if_pos (by rfl), if_pos rfl]
      · rw [nI_sub1 (by omega), if_neg (fun e => absurd (show (-1 : Int32) < 0 by decide) (by rw [← e]; exact nI_neg (by omega))), if_neg hz]
    rw [if_neg h4, if_neg h4]
    by_cases h5 : f = nI 5
    · rw [if_pos h5, if_pos h5, gdd_t kr, q6, b01 (by cases inF w.A r <;> decide) (fun v => some v)]
    rw [if_neg h5, if_neg h5]
    by_cases h6 : f = nI 6
    · rw [if_pos h6, if_pos h6, p_counts ha hO.1 hC.1 hr, obb_s, b01 (ctsN_lt r) (fun v => some v)]
    rw [if_neg h6, if_neg h6]
    by_cases h7 : f = nI 7
    · rw [if_pos h7, if_pos h7, p_citationsOf ha hO.1 hC.1 hr, obb_s]
    rw [if_neg h7, if_neg h7]
    by_cases h8 : f = nI 8
    · rw [if_pos h8, if_pos h8, p_finesBroughtBy ha hO.1 hC.1 hr, obb_s]
    rw [if_neg h8, if_neg h8]
  · rw [p_ruAtO ha hC.1.m hx, obb_s, if_pos rfl, hx2]
def rkM (A : Nat → Nat) (o : Nat) : Nat := mnS (rkN A o) (2 ^ (A o - 1) - 1)
def lkBestA (f : Int32) (R : Nat) : Int32 := if f = nI 0 then nI (R % 2048) else if f = nI 1 then nI (R / 32768) else nI (R % 32768 / 2048)
theorem nI_rem {R d : Nat} (hR : R < 2 ^ 31) (h0 : 0 < d) (hd : d < 2 ^ 31) : nI R - nI R / nI d * nI d = nI (R % d) := by
  have h1 := Nat.div_add_mod R d
  have h2 : R / d * d ≤ R := Nat.div_mul_le_self R d
  rw [pk_div hR h0 hd, pk_mul, pk_sub h2]
  congr 1
  rw [Nat.mul_comm] at h1
  omega
def lkBest (x f z : Int32) (A : Nat → Nat) : Int32 := match ixO x (A 3) with
  | none => -1
  | some e => if 0 ≤ f ∧ f ≤ 2 then (if 0 ≤ z ∧ z ≤ 1 then lkBestA f (rkM A (73 + 16 * e)) else -1) else -1
theorem c_best {M : Mem} {w : Wd} (hO : OkW w) (hC : CI M w) (x f z : Int32) : CRes (f_X5_best 1 x f z M) M (lkBest x f z w.A) w := by
  have hn := hO.1.n
  have ha := lay1.2.2.2
  unfold f_X5_best lkBest
  rw [gdd_t lay1.1, lay1.2.1, gdd_t ha]
  rcases ix_cases x (n := w.A 3) (by omega) with ⟨e, he, rfl⟩ | ⟨hx, hx2⟩
  · have ke := (st_ed ha (show e < 4 by omega)).2
    have hK := hO.1.e e he
    rw [p_edAt ha hC.1.n hn he, obb_s, if_neg (by omega), ixO_s (by omega) he]
    by_cases h1 : 0 ≤ f ∧ f ≤ 2
    · rw [if_neg (isW_1 h1)]
      simp only [if_pos h1]
      by_cases h2 : 0 ≤ z ∧ z ≤ 1
      · obtain ⟨M1, r1, r2, r3⟩ := p_read ha hO.1 hC.1 ke (hC.1.e e he) hK
        have hR : rkM w.A (73 + 16 * e) < 2 ^ 27 := mnS_lt hO.1 hK (by
          have : 2 ^ (w.A (73 + 16 * e) - 1) ≤ 2 ^ 11 := Nat.pow_le_pow_right (by decide) (by have := hK.2.1; omega)
          omega)
        rw [if_neg (isW_1 h2), lay1.2.2.1, gdd_t k7, r1, obb_s]
        simp only [if_pos h2]
        have fin : ∀ M2, Sm ShX M M2 → CRes (if f = nI 0 then (some (nI (rkM w.A (73 + 16 * e)) - nI (rkM w.A (73 + 16 * e)) / 2048 * 2048, M2)) else if f = nI 1 then (some (nI (rkM w.A (73 + 16 * e)) / 32768, M2)) else (some ((nI (rkM w.A (73 + 16 * e)) - nI (rkM w.A (73 + 16 * e)) / 32768 * 32768) / 2048, M2))) M (lkBestA f (rkM w.A (73 + 16 * e))) w := by
          intro M2 hS
          unfold lkBestA
          rw [show (2048 : Int32) = nI 2048 from rfl, show (32768 : Int32) = nI 32768 from rfl, nI_rem (by omega) (by decide) (by decide), nI_rem (by omega) (by decide) (by decide), pk_div (by omega) (by decide) (by decide), pk_div (by have := Nat.mod_lt (rkM w.A (73 + 16 * e)) (show 0 < 32768 by decide); omega) (by decide) (by decide)]
          by_cases g0 : f = nI 0
          · rw [if_pos g0, if_pos g0]; exact CRes.sh hO hC hS
          rw [if_neg g0, if_neg g0]
          by_cases g1 : f = nI 1
          · rw [if_pos g1, if_pos g1]; exact CRes.sh hO hC hS
          rw [if_neg g1, if_neg g1]
          exact CRes.sh hO hC hS
        by_cases hz : z = 0
        · rw [if_pos hz, p_allSets r3 hO.1 hK, obb_s]
          exact fin M1 r2
        · obtain ⟨M2, s1, s2⟩ := p_byWords r3 hO.1 hK
          rw [if_neg hz, s1, opp_s]
          exact fin M2 (r2.tr s2)
      · rw [if_pos (isW_0 h2)]
        simp only [if_neg h2]
        exact CRes.no hC
    · rw [if_pos (isW_0 h1)]
      simp only [if_neg h1]
      exact CRes.no hC
  · rw [p_edAtO ha hC.1.n hx, obb_s, if_pos rfl, hx2]
    exact CRes.no hC
def lkWays (x z : Int32) (A : Nat → Nat) : Int32 := match ixO x (A 3) with
  | none => -1
  | some e => if 0 ≤ z ∧ z ≤ 1 then nI (wyP (wtN A (73 + 16 * e)) (A 2) (A (73 + 16 * e))) else -1
theorem c_ways {M : Mem} {w : Wd} (hO : OkW w) (hC : CI M w) (x z : Int32) : CRes (f_X5_ways 1 x z M) M (lkWays x z w.A) w := by
  have hn := hO.1.n
  have ha := lay1.2.2.2
  unfold f_X5_ways lkWays
  rw [gdd_t lay1.1, lay1.2.1, gdd_t ha]
  rcases ix_cases x (n := w.A 3) (by omega) with ⟨e, he, rfl⟩ | ⟨hx, hx2⟩
  · have ke := (st_ed ha (show e < 4 by omega)).2
    have hK := hO.1.e e he
    rw [p_edAt ha hC.1.n hn he, obb_s, if_neg (by omega), ixO_s (by omega) he]
    by_cases h2 : 0 ≤ z ∧ z ≤ 1
    · obtain ⟨M1, r1, r2, r3⟩ := p_read ha hO.1 hC.1 ke (hC.1.e e he) hK
      rw [if_neg (isW_1 h2), lay1.2.2.1, gdd_t k7, r1, obb_s]
      simp only [if_pos h2]
      by_cases hz : z = 0
      · obtain ⟨M2, s1, s2⟩ := p_splitW r3 hO.1 hK
        rw [if_pos hz, s1, opp_s]
        exact CRes.sh hO hC (r2.tr s2)
      · rw [if_neg hz, p_splitR r3 hO.1 hK, obb_s]
        exact CRes.sh hO hC r2
    · rw [if_pos (isW_0 h2)]
      simp only [if_neg h2]
      exact CRes.no hC
  · rw [p_edAtO ha hC.1.n hx, obb_s, if_pos rfl, hx2]
    exact CRes.no hC
