/-! PURE: more looks, the class -/
def lkBs (x : Int32) (A : Nat → Nat) : Int32 := match ixO x (A 3) with
  | none => -1
  | some e => bsE (bsS A (73 + 16 * e) (A (73 + 16 * e) - 1))
theorem c_bestSuit {M : Mem} {w : Wd} (hO : OkW w) (hC : CI M w) (x : Int32) : CRes (f_X5_bestSuit 1 x M) M (lkBs x w.A) w := by
  have hn := hO.1.n
  have ha := lay1.2.2.2
  unfold f_X5_bestSuit lkBs
  rw [gdd_t lay1.1, lay1.2.1, gdd_t ha]
  rcases ix_cases x (n := w.A 3) (by omega) with ⟨e, he, rfl⟩ | ⟨hx, hx2⟩
  · have ke := (st_ed ha (show e < 4 by omega)).2
    have hK := hO.1.e e he
    have hw := hK.2.1
    obtain ⟨M1, r1, r2, r3⟩ := p_read ha hO.1 hC.1 ke (hC.1.e e he) hK
    have hR1 : RelS M1 12 w.A := hC.1.sm r2 sh12 hO.1.n hO.1.m
    have h := p_bestSuitL hO.1 hR1 ke (hR1.e e he) hK r3 FU 0 (by omega) (by unfold FU; omega)
    rw [p_edAt ha hC.1.n hn he, obb_s, if_neg (by omega), ixO_s (by omega) he, lay1.2.2.1, gdd_t k7, r1, obb_s]
    rw [show f_X5_bestSuit_36 FU 1 (12 + 5 + 2 * e) (-4) 0 0 M1 = some (bsE (bsS w.A (73 + 16 * e) (w.A (73 + 16 * e) - 1)), M1) from h]
    exact CRes.sh hO hC r2
  · rw [p_edAtO ha hC.1.n hx, obb_s, if_pos rfl, hx2]
    exact CRes.no hC
def lkSign (x y : Int32) (A : Nat → Nat) : Int32 := match ixO x (A 3) with
  | none => -1
  | some e => if 0 ≤ y then txF A (73 + 16 * e) y 0 (A (73 + 16 * e)) else -1
theorem c_sign {M : Mem} {w : Wd} (hO : OkW w) (hC : CI M w) (x y : Int32) : f_X5_sign 1 x y M = some (lkSign x y w.A) := by
  have hn := hO.1.n
  have ha := lay1.2.2.2
  unfold f_X5_sign lkSign
  rw [gdd_t lay1.1, lay1.2.1, gdd_t ha]
  rcases ix_cases x (n := w.A 3) (by omega) with ⟨e, he, rfl⟩ | ⟨hx, hx2⟩
  · have ke := (st_ed ha (show e < 4 by omega)).2
    have hK := hO.1.e e he
    rw [p_edAt ha hC.1.n hn he, obb_s, if_neg (by omega), ixO_s (by omega) he]
    by_cases h : 0 ≤ y
    · rw [if_pos h, gdd_t ke, p_textSign ke (hC.1.e e he) hK, obb_s]
      simp only [if_pos h]
    · rw [if_neg h]
      simp only [if_neg h]
  · rw [p_edAtO ha hC.1.n hx, obb_s, if_pos rfl, hx2]
def lkIf (x y : Int32) (c : Nat) (f : Int32) (A : Nat → Nat) : Int32 := if (0 ≤ x ∧ x ≤ 5) ∧ (0 ≤ y ∧ y ≤ 5) ∧ 1 ≤ f ∧ f ≤ 20 then 1000 + sumI (irE A x.toNatClampNeg y.toNatClampNeg c f) (A 3) else -1
theorem c_ifRuled {M : Mem} {w : Wd} (hO : OkW w) (hC : CI M w) (x y : Int32) {c : Nat} (hc : c ≤ 1) (f : Int32) : f_X5_ifRuled 1 x y (nI c) f M = some (lkIf x y c f w.A) := by
  have hn := hO.1.n
  unfold f_X5_ifRuled lkIf
  rw [p_about]
  by_cases h1 : (0 ≤ x ∧ x ≤ 5) ∧ (0 ≤ y ∧ y ≤ 5) ∧ 1 ≤ f ∧ f ≤ 20
  · obtain ⟨i, i1, rfl⟩ := in_ex (b := 5) (by decide) h1.1.1 h1.1.2
    obtain ⟨j, j1, rfl⟩ := in_ex (b := 5) (by decide) h1.2.1.1 h1.2.1.2
    have h := p_irL hO.1 hC.1 (x := i) (y := j) (cm := c) (fine := f) (by omega) (by omega) hc FU 0 (by omega) (by unfold FU; omega)
    rw [if_pos h1, if_neg (by decide), if_pos h1, nI_clamp (by omega), nI_clamp (by omega)]
    exact h
  · rw [if_neg h1, if_pos rfl, if_neg h1]
def lkCount (f : Int32) (w : Wd) : Int32 := if f = nI 0 then nI (w.A 0) else if f = nI 1 then nI (w.A 3) else if f = nI 2 then nI (sumN (fun k => styN w.A (73 + 16 * k)) (w.A 3)) else if f = nI 3 then nI (sumN (ceN w.A) (w.A 3)) else if f = nI 4 then nI (w.A 4) else if f = nI 5 then nI (frcC w.A) else if f = nI 6 then nI (sumN (ctsN w.A) (w.A 4)) else if f = nI 7 then nI (w.A 5) else if f = nI 8 then nI (w.A 6) else if f = nI 9 then nI (sumN (fun k => pcN (w.A (73 + 16 * k + 1))) (w.A 3)) else if f = nI 10 then nI (w.A 1) else if f = nI 11 then nI (w.A 2) else if f = nI 12 then bsE (chS w.A (w.A 3)) else if f = nI 13 then nI w.l else if f = nI 14 then nI w.h else -1
theorem c_count {M : Mem} {w : Wd} (hO : OkW w) (hC : CI M w) (f : Int32) : CRes (f_X5_count 1 f M) M (lkCount f w) w := by
  have hn := hO.1.n
  have hm := hO.1.m
  have ha := lay1.2.2.2
  obtain ⟨s1, s2, s3⟩ := st_1 ha
  unfold f_X5_count lkCount
  rw [lay1.2.1, lay3.1]
  have G1 : ∀ {α : Type} {x : Option α}, gdd (kd 1 = 6) x = x := gdd_t lay1.1
  have G12 : ∀ {α : Type} {x : Option α}, gdd (kd 12 = 5) x = x := gdd_t ha
  have G3 : ∀ {α : Type} {x : Option α}, gdd (kd 3 = 2) x = x := gdd_t lay3.2.1
  simp only [G1, G12, G3]
  have fin : ∀ v, CRes (some (v, M)) M v w := fun v => CRes.no hC
  by_cases h0 : f = nI 0
  · rw [if_pos h0, if_pos h0, hC.1.d]; exact fin _
  rw [if_neg h0, if_neg h0]
  by_cases h1 : f = nI 1
  · rw [if_pos h1, if_pos h1, hC.1.n]; exact fin _
  rw [if_neg h1, if_neg h1]
  by_cases h2 : f = nI 2
  · have h : f_X4_stayedEditions 12 M = _ := p_stayedL ha hO.1 hC.1 FU 0 (by omega) (by unfold FU; omega)
    rw [if_pos h2, if_pos h2, h, obb_s]; exact fin _
  rw [if_neg h2, if_neg h2]
  by_cases h3 : f = nI 3
  · obtain ⟨M2, r1, r2⟩ := p_costAllL hO.1 FU 0 M hC.1 (by omega) (by unfold FU; omega)
    rw [if_pos h3, if_pos h3, show f_X5_costOfAll 1 M = _ from r1, opp_s]
    exact CRes.sh hO hC r2
  rw [if_neg h3, if_neg h3]
  by_cases h4 : f = nI 4
  · rw [if_pos h4, if_pos h4, hC.1.m]; exact fin _
  rw [if_neg h4, if_neg h4]
  by_cases h5 : f = nI 5
  · rw [if_pos h5, if_pos h5, p_rulingsInForce ha hO.1 hC.1, obb_s]; exact fin _
  rw [if_neg h5, if_neg h5]
  by_cases h6 : f = nI 6
  · rw [if_pos h6, if_pos h6, p_rulingsThatCount ha hO.1 hC.1, obb_s]; exact fin _
  rw [if_neg h6, if_neg h6]
  by_cases h7 : f = nI 7
  · rw [if_pos h7, if_pos h7, hC.1.g]; exact fin _
  rw [if_neg h7, if_neg h7]
  by_cases h8 : f = nI 8
  · rw [if_pos h8, if_pos h8, hC.1.f]; exact fin _
  rw [if_neg h8, if_neg h8]
  by_cases h9 : f = nI 9
  · have h : f_X4_commasOfAll 12 M = _ := p_commasL ha hO.1 hC.1 FU 0 (by omega) (by unfold FU; omega)
    rw [if_pos h9, if_pos h9, h, obb_s]; exact fin _
  rw [if_neg h9, if_neg h9]
  by_cases h10 : f = nI 10
  · rw [if_pos h10, if_pos h10, s1, show (0 : Int32) = nI 0 from rfl, p_at s2 (by omega) (by omega), obb_s, hC.1.s0]; exact fin _
  rw [if_neg h10, if_neg h10]
  by_cases h11 : f = nI 11
  · rw [if_pos h11, if_pos h11, s1, show (1 : Int32) = nI 1 from rfl, p_at s2 (by omega) (by omega), obb_s, hC.1.s1]; exact fin _
  rw [if_neg h11, if_neg h11]
  by_cases h12 : f = nI 12
  · obtain ⟨M2, r1, r2⟩ := p_cheapL hO.1 FU 0 M hC.1 (by omega) (by unfold FU; omega)
    rw [if_pos h12, if_pos h12, show f_X5_cheapestEdition 1 M = _ from r1, opp_s]
    exact CRes.sh hO hC r2
  rw [if_neg h12, if_neg h12]
  by_cases h13 : f = nI 13
  · rw [if_pos h13, if_pos h13, hC.2.2.2.1.1]; exact fin _
  rw [if_neg h13, if_neg h13]
  by_cases h14 : f = nI 14
  · rw [if_pos h14, if_pos h14, hC.2.1.1]; exact fin _
  rw [if_neg h14, if_neg h14]
  exact fin _
