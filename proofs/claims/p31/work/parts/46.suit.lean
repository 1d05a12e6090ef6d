/-! PURE: sue, whyNot, the class -/
def decA (A : Nat → Nat) (e g : Nat) : Int32 × (Nat → Nat) :=
  if rsnN A (73 + 16 * e) g = 0 then (10 + (nI (costN A (73 + 16 * e) (A (73 + 16 * e + 1))) - nI (costN A (73 + 16 * e) (flN (A (73 + 16 * e + 1)) g))), updN (updN (updN A (73 + 16 * e + 1) (flN (A (73 + 16 * e + 1)) g)) (73 + 16 * e + 3) (A (73 + 16 * e + 3) + 1)) 5 (A 5 + 1))
  else (nI (rsnN A (73 + 16 * e) g), updN A 6 (A 6 + 1))
theorem p_gap {M : Mem} {e o : Nat} {A : Nat → Nat} (he : kd e = 1) (hE : EdR M e A o) (hK : OkE A o) (x : Int32) : (∃ g, g + 1 < A o ∧ x = nI g ∧ ixO x (A o - 1) = some g ∧ f_X0_hasGap e x M = some 1) ∨ (ixO x (A o - 1) = none ∧ f_X0_hasGap e x M = some 0) := by
  have h1 := hK.1
  have h2 := hK.2.1
  unfold f_X0_hasGap
  rw [gdd_t he, hE.1, nI_sub1 h1]
  rcases ix_cases x (n := A o - 1) (by omega) with ⟨g, hg, rfl⟩ | ⟨hx, hx2⟩
  · refine Or.inl ⟨g, by omega, rfl, ixO_s (by omega) hg, ?_⟩
    rw [if_neg (nI_neg (by omega)), if_neg (nI_nle' (by omega) (by omega) hg)]
  · refine Or.inr ⟨hx2, ?_⟩
    by_cases h : x < 0
    · rw [if_pos h]
    · rw [if_neg h, if_pos (hx.resolve_left h)]
theorem ok_dec {A : Nat → Nat} (hO : Ok A) {e g : Nat} (he : e < A 3) (hg : g + 1 < A (73 + 16 * e)) : Ok (decA A e g).2 := by
  have hK := hO.e e he
  have hn := hO.n
  unfold decA
  by_cases h : rsnN A (73 + 16 * e) g = 0
  · rw [if_pos h]
    have o1 := ok_ed hO (i := 1) (v := flN (A (73 + 16 * e + 1)) g) he (by omega) (fun _ => flN_lt hK.2.2.1 (by omega))
    have o3 := ok_ed o1 (e := e) (i := 3) (v := A (73 + 16 * e + 3) + 1) (by rw [updN_n (by omega)]; exact he) (by omega) (fun h => by omega)
    exact ok_low o3 (by omega) (fun h => by omega) (fun h => by omega) (fun h => by omega)
  · rw [if_neg h]
    exact ok_low hO (by omega) (fun h => by omega) (fun h => by omega) (fun h => by omega)
theorem p_decide {M : Mem} {A : Nat → Nat} (hO : Ok A) (hR : RelS M 12 A) {e g : Nat} (he : e < A 3) (hg : g + 1 < A (73 + 16 * e)) : ∃ M2, f_X5_decide 1 (12 + 5 + 2 * e) (nI g) M = some ((decA A e g).1, M2) ∧ Sm (fun r => 7 ≤ r ∧ r < 35) M M2 ∧ RelS M2 12 (decA A e g).2 := by
  have hn := hO.n
  have ha := lay1.2.2.2
  have hK := hO.e e he
  have hw := hK.2.1
  have hc := hK.c
  have ke := (st_ed ha (show e < 4 by omega)).2
  obtain ⟨M1, r1, r2, r3⟩ := p_read ha hO hR ke (hR.e e he) hK
  have hR1 : RelS M1 12 A := hR.sm r2 sh12 hO.n hO.m
  have hE1 := hR1.e e he
  have hrs := p_reason hO hR1 ke hE1 hK r3 hg
  have hfl : flN (A (73 + 16 * e + 1)) g < 2 ^ 11 := flN_lt hc (by omega)
  unfold f_X5_decide decA
  rw [gdd_t lay1.1, lay1.2.2.1, gdd_t k7, lay1.2.1, r1, obb_s, hrs, obb_s]
  by_cases h : rsnN A (73 + 16 * e) g = 0
  · rw [if_pos ((nI_z (by have := rsnN_lt (A := A) (73 + 16 * e) g; omega)).mpr h), gdd_t ke, p_moved ke hE1 (by omega), obb_s, hE1.2.1, p_cost r3 hO hK (by omega), obb_s, p_cost r3 hO hK (by omega), obb_s, if_pos h]
    have o1 := ok_ed hO (i := 1) (v := flN (A (73 + 16 * e + 1)) g) he (by omega) (fun _ => flN_lt hK.2.2.1 (by omega))
    obtain ⟨t1, t2⟩ := rel_ed hO hR1 (i := 1) (v := flN (A (73 + 16 * e + 1)) g) he (by omega)
    have o3 := ok_ed o1 (e := e) (i := 3) (v := A (73 + 16 * e + 3) + 1) (by rw [updN_n (by omega)]; exact he) (by omega) (fun h => by omega)
    obtain ⟨s1, s2⟩ := rel_ed o1 t1 (e := e) (i := 3) (v := A (73 + 16 * e + 3) + 1) (by rw [updN_n (by omega)]; exact he) (by omega)
    obtain ⟨v1, v2⟩ := rel_low o3 s1 (i := 5) (v := A 5 + 1) (by omega)
    have q4 : gI (sI M1 (12 + 5 + 2 * e) (1 + 1) (nI (flN (A (73 + 16 * e + 1)) g))) (12 + 5 + 2 * e) 4 = nI (A (73 + 16 * e + 3)) := by
      rw [gI_n (Or.inr (by decide))]; exact hE1.2.2.2.1
    have q7 : ∀ v, gI (sI (sI M1 (12 + 5 + 2 * e) (1 + 1) (nI (flN (A (73 + 16 * e + 1)) g))) (12 + 5 + 2 * e) 4 v) 12 7 = nI (A 5) := fun v => by
      rw [gI_n (Or.inl (by omega)), gI_n (Or.inl (by omega))]; exact hR1.g
    rw [bvv_e, bvv_e, show (sI M1 (12 + 5 + 2 * e) 2 (nI (flN (A (73 + 16 * e + 1)) g))) = (sI M1 (12 + 5 + 2 * e) (1 + 1) (nI (flN (A (73 + 16 * e + 1)) g))) from rfl, q4, bvv_e, gdd_t ha, q7, bvv_e, nI_1, nI_1]
    exact ⟨_, rfl, (r2.mono (fun r h => by unfold ShX at h; omega)).tr ((t2.mono (fun r h => by omega)).tr ((s2.mono (fun r h => by omega)).tr (v2.mono (fun r h => by omega)))), v1⟩
  · obtain ⟨v1, v2⟩ := rel_low hO hR1 (i := 6) (v := A 6 + 1) (by omega)
    rw [if_neg (fun z => h ((nI_z (by have := rsnN_lt (A := A) (73 + 16 * e) g; omega)).mp z)), gdd_t ha, hR1.f, bvv_e, nI_1, if_neg h]
    exact ⟨_, rfl, (r2.mono (fun r h => by unfold ShX at h; omega)).tr (v2.mono (fun r h => by omega)), v1⟩
def opSue (x y : Int32) (w : Wd) : Int32 × Wd := match ixO x (w.A 3) with
  | none => (-1, w)
  | some e => match ixO y (w.A (73 + 16 * e) - 1) with
    | none => (-1, w)
    | some g => ((decA w.A e g).1, (keepW w).toA (decA w.A e g).2)
theorem c_sue {M : Mem} {w : Wd} (hO : OkW w) (hC : CI M w) (x y : Int32) : CRes (f_X5_sue 1 x y M) M (opSue x y w).1 (opSue x y w).2 := by
  have hn := hO.1.n
  have ha := lay1.2.2.2
  unfold f_X5_sue opSue
  rw [gdd_t lay1.1, lay1.2.1, gdd_t ha]
  rcases ix_cases x (n := w.A 3) (by omega) with ⟨e, he, rfl⟩ | ⟨hx, hx2⟩
  · have ke := (st_ed ha (show e < 4 by omega)).2
    rw [p_edAt ha hC.1.n hn he, obb_s, if_neg (by omega), ixO_s (by omega) he, gdd_t ke]
    rcases p_gap ke (hC.1.e e he) (hO.1.e e he) y with ⟨g, g1, g2, g3, g4⟩ | ⟨g3, g4⟩
    · obtain ⟨M1, r1, r2, r3⟩ := p_keep hO hC
      have hR : RelS M1 12 w.A := by rw [← keepW_A w]; exact r2.1
      obtain ⟨M2, s1, s2, s3⟩ := p_decide hO.1 hR he g1
      rw [g4, obb_s, if_neg (by decide), r1, obb_s, g2, s1, opp_s]
      rw [g2] at g3
      simp only [g3]
      exact ⟨_, rfl, CI.sa (keepW_ok hO) r2 s2 (fun r hr => hr) s3, (r3.mono (fun r h => h.lt)).tr (s2.i.mono (fun r h => by omega))⟩
    · rw [g4, obb_s, if_pos rfl]
      simp only [g3]
      exact CRes.no hC
  · rw [p_edAtO ha hC.1.n hx, obb_s, if_pos rfl, hx2]
    exact CRes.no hC
/-- a look that wrote only into the sheet -/
theorem CRes.sh {M M2 : Mem} {v : Int32} {w : Wd} (hO : OkW w) (hC : CI M w) (hS : Sm ShX M M2) : CRes (some (v, M2)) M v w :=
  ⟨M2, rfl, CI.sa (A := w.A) hO hC hS (fun r h => by unfold ShX at h; omega) (hC.1.sm hS sh12 hO.1.n hO.1.m), hS.i.mono (fun r h => by unfold ShX at h; omega)⟩
theorem CRes.eq {o : Option (Int32 × Mem)} {M : Mem} {v v2 : Int32} {w : Wd} (h : v = v2) (hc : CRes o M v w) : CRes o M v2 w := by rw [← h]; exact hc
def lkWhyNot (x y : Int32) (A : Nat → Nat) : Int32 := match ixO x (A 3) with
  | none => -1
  | some e => match ixO y (A (73 + 16 * e) - 1) with
    | none => -1
    | some g => nI (rsnN A (73 + 16 * e) g)
theorem c_whyNot {M : Mem} {w : Wd} (hO : OkW w) (hC : CI M w) (x y : Int32) : CRes (f_X5_whyNot 1 x y M) M (lkWhyNot x y w.A) w := by
  have hn := hO.1.n
  have ha := lay1.2.2.2
  unfold f_X5_whyNot lkWhyNot
  rw [gdd_t lay1.1, lay1.2.1, gdd_t ha]
  rcases ix_cases x (n := w.A 3) (by omega) with ⟨e, he, rfl⟩ | ⟨hx, hx2⟩
  · have ke := (st_ed ha (show e < 4 by omega)).2
    have hK := hO.1.e e he
    rw [p_edAt ha hC.1.n hn he, obb_s, if_neg (by omega), ixO_s (by omega) he, gdd_t ke]
    rcases p_gap ke (hC.1.e e he) hK y with ⟨g, g1, g2, g3, g4⟩ | ⟨g3, g4⟩
    · obtain ⟨M1, r1, r2, r3⟩ := p_read ha hO.1 hC.1 ke (hC.1.e e he) hK
      have hR1 : RelS M1 12 w.A := hC.1.sm r2 sh12 hO.1.n hO.1.m
      rw [g4, obb_s, if_neg (by decide), lay1.2.2.1, gdd_t k7, r1, obb_s, g2, p_reason hO.1 hR1 ke (hR1.e e he) hK r3 g1, obb_s]
      rw [g2] at g3
      simp only [g3]
      exact CRes.sh hO hC r2
    · rw [g4, obb_s, if_pos rfl]
      simp only [g3]
      exact CRes.no hC
  · rw [p_edAtO ha hC.1.n hx, obb_s, if_pos rfl, hx2]
    exact CRes.no hC
