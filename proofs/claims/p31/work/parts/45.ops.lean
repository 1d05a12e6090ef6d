/-! PURE: rule, overrule, the class -/
/-- a ruling without its being in force -/
def RuF (M : Mem) (q : Nat) (A : Nat → Nat) (r : Nat) : Prop := gI M q 0 = nI (A (13 + 6 * r)) ∧ gI M q 1 = nI (A (14 + 6 * r)) ∧ gI M q 2 = nI (A (15 + 6 * r)) ∧ gI M q 3 = nI (A (16 + 6 * r)) ∧ gI M q 4 = nI (A (17 + 6 * r)) - 1 ∧ gI M q 5 = nI (A (18 + 6 * r))
theorem RuR.fR {M : Mem} {q : Nat} {A : Nat → Nat} {r : Nat} (h : RuR M q A r) : RuF M q A r := ⟨h.1, h.2.1, h.2.2.1, h.2.2.2.1, h.2.2.2.2.1, h.2.2.2.2.2.1⟩
theorem RuF.sm {X : Nat → Prop} {M M2 : Mem} {q r : Nat} {A : Nat → Nat} (h : Sm X M M2) (h1 : ¬ X q) (hr : RuF M q A r) : RuF M2 q A r :=
  ⟨(h.1 q _ h1).trans hr.1, (h.1 q _ h1).trans hr.2.1, (h.1 q _ h1).trans hr.2.2.1, (h.1 q _ h1).trans hr.2.2.2.1, (h.1 q _ h1).trans hr.2.2.2.2.1, (h.1 q _ h1).trans hr.2.2.2.2.2⟩
theorem RuF.put6 {M : Mem} {q q2 r : Nat} {A : Nat → Nat} {v : Int32} (hr : RuF M q A r) : RuF (sI M q2 6 v) q A r :=
  ⟨(gI_n (Or.inr (by decide))).trans hr.1, (gI_n (Or.inr (by decide))).trans hr.2.1, (gI_n (Or.inr (by decide))).trans hr.2.2.1, (gI_n (Or.inr (by decide))).trans hr.2.2.2.1, (gI_n (Or.inr (by decide))).trans hr.2.2.2.2.1, (gI_n (Or.inr (by decide))).trans hr.2.2.2.2.2⟩
theorem p_force {a m : Nat} {A : Nat → Nat} (ha : kd a = 5) (hm : m ≤ 10) (hq : ∀ r, r < m → A (17 + 6 * r) ≤ r) (ho : ∀ r, r < m → A (18 + 6 * r) ≤ 1) : ∀ (n j : Nat) (M : Mem), j ≤ m → m - j < n → gI M a 5 = nI m → (∀ r, r < m → RuF M (a + 13 + r) A r) → (∀ r, r < j → gI M (a + 13 + r) 6 = nI (inF A r).toNat) →
    ∃ M2, f_X4_findForce_2 n a (nI j) M = some M2 ∧ Sm (fun q => a + 13 ≤ q ∧ q < a + 23) M M2 ∧ ∀ r, r < m → RuR M2 (a + 13 + r) A r := by
  intro n
  induction n with
  | zero => intro j _ _ h; omega
  | succ n ih =>
    intro j M hj hn c5 hF hI
    rw [f_X4_findForce_2, gdd_t ha, c5]
    by_cases h : j = m
    · subst h
      rw [if_pos (nI_le' (by omega) (by omega) (by omega))]
      exact ⟨M, rfl, Sm.rf, fun r hr => ⟨(hF r hr).1, (hF r hr).2.1, (hF r hr).2.2.1, (hF r hr).2.2.2.1, (hF r hr).2.2.2.2.1, (hF r hr).2.2.2.2.2, hI r hr⟩⟩
    · have hlt : j < m := by omega
      obtain ⟨q0, q1, q2, q3, q4, q5⟩ := hF j hlt
      have hc := hq j hlt
      have hov := ho j hlt
      -- whatever is put, it is inF
      have go : ∀ v : Int32, v = nI (inF A j).toNat → ∃ M2, f_X4_findForce_2 n a (nI (j + 1)) (sI M (a + 13 + j) 6 v) = some M2 ∧ Sm (fun q => a + 13 ≤ q ∧ q < a + 23) M M2 ∧ ∀ r, r < m → RuR M2 (a + 13 + r) A r := by
        intro v hv
        obtain ⟨M2, r1, r2, r3⟩ := ih (j + 1) (sI M (a + 13 + j) 6 v) (by omega) (by omega) (by rw [gI_n (Or.inl (by omega)), c5]) (fun r hr => (hF r hr).put6) (fun r hr => by
          by_cases e : r = j
          · rw [e, gI_s, hv]
          · rw [gI_n (Or.inl (by omega)), hI r (by omega)])
        exact ⟨M2, r1, (Sm.put Sm.rf (by omega)).tr r2, r3⟩
      have hin := inF_eq hq hlt
      rw [if_neg (nI_nle' (by omega) (by omega) hlt), p_ruAt ha c5 hm hlt, obb_s, if_neg (by omega), gdd_t (st_ru ha (by omega)).2, q4, q5]
      by_cases h0 : A (17 + 6 * j) = 0
      · rw [h0, nI_0s1, p_ruAtO ha c5 (Or.inl (by decide)), obb_s]
        by_cases hv : A (18 + 6 * j) = 0
        · rw [if_pos ((nI_z (by omega)).mpr hv), if_pos rfl, bvv_e, bvv_e, nI_1]
          exact go 1 (by rw [hin, hv, h0]; rfl)
        · rw [if_neg (fun e => hv ((nI_z (by omega)).mp e)), bvv_e, bvv_e, nI_1]
          refine go 0 ?_
          rw [hin, beq_eq_false_iff_ne.mpr hv]; rfl
      · have h6 := hI (A (17 + 6 * j) - 1) (by omega)
        rw [nI_sub1 (by omega), p_ruAt ha c5 hm (show A (17 + 6 * j) - 1 < m by omega), obb_s]
        by_cases hv : A (18 + 6 * j) = 0
        · rw [if_pos ((nI_z (by omega)).mpr hv), if_neg (by omega), gdd_t (st_ru ha (show A (17 + 6 * j) - 1 < 10 by omega)).2, h6]
          have hin2 : inF A j = inF A (A (17 + 6 * j) - 1) := by
            rw [hin, hv, beq_eq_false_iff_ne.mpr h0]; rfl
          cases hf : inF A (A (17 + 6 * j) - 1)
          · rw [if_pos (by rfl), bvv_e, bvv_e, nI_1]
            exact go 0 (by rw [hin2, hf]; rfl)
          · rw [if_neg (by decide), bvv_e, bvv_e, nI_1]
            exact go 1 (by rw [hin2, hf]; rfl)
        · rw [if_neg (fun e => hv ((nI_z (by omega)).mp e)), bvv_e, bvv_e, nI_1]
          refine go 0 ?_
          rw [hin, beq_eq_false_iff_ne.mpr hv]; rfl
/-- a state when its rulings were found again -/
theorem rel_force {M : Mem} {a : Nat} {A : Nat → Nat} (ha : kd a = 5) (hO : Ok A) (hP : RelP M a A 6 2 (A 3) 0) (h4 : gI M a 4 = nI (A 3)) (h5 : gI M a 5 = nI (A 4)) (h6 : gI M a 6 = nI (A 0)) (h7 : gI M a 7 = nI (A 5)) (h8 : gI M a 8 = nI (A 6)) (hF : ∀ r, r < A 4 → RuF M (a + 13 + r) A r) : ∃ M2, f_X4_findForce a M = some M2 ∧ Sm (fun q => a + 13 ≤ q ∧ q < a + 23) M M2 ∧ RelS M2 a A := by
  have hn := hO.n
  obtain ⟨M2, r1, r2, r3⟩ := p_force ha hO.m hO.q (fun r hr => (hO.r r hr).2.2.2.2.2.2) FU 0 M (by omega) (by have := hO.m; unfold FU; omega) h5 hF (fun r hr => by omega)
  have g : ∀ q, q < a + 13 → ∀ k, gI M2 q k = gI M q k := fun q h k => r2.1 q k (by omega)
  exact ⟨M2, r1, r2, fun k hk => (g _ (by omega) k).trans (hP.1 k hk), (g _ (by omega) _).trans (hP.2.1 (by decide)), (g _ (by omega) _).trans (hP.2.2.1 (by decide)), (g _ (by omega) _).trans h4, (g _ (by omega) _).trans h5, (g _ (by omega) _).trans h6, (g _ (by omega) _).trans h7, (g _ (by omega) _).trans h8, fun e he => (hP.2.2.2.1 e he).sm r2 (by omega) (by omega), r3⟩
def overA (A : Nat → Nat) (r : Nat) : Nat → Nat := updN A (18 + 6 * r) 1
theorem ok_over {A : Nat → Nat} (hO : Ok A) {r : Nat} (hr : r < A 4) : Ok (overA A r) := by
  have hm := hO.m
  have u : ∀ k, k ≠ 18 + 6 * r → overA A r k = A k := fun k h => updN_n h
  refine ⟨by rw [u _ (by omega)]; exact hO.n, by rw [u _ (by omega)]; exact hm, fun k hk => by rw [u _ (by omega)]; exact hO.w k hk, by rw [u _ (by omega)]; exact hO.b, by rw [u _ (by omega)]; exact hO.h, fun k hk => ?_, fun q hq => ?_⟩
  · rw [u _ (by omega)] at hk
    exact (hO.e k hk).cg (fun j hj => u _ (by omega))
  · rw [u _ (by omega)] at hq
    by_cases e : q = r
    · subst e
      obtain ⟨e0, e1, e2, e3, e4, e5, e6⟩ := hO.r q hq
      unfold OkR
      rw [u _ (by omega), u _ (by omega), u _ (by omega), u _ (by omega), u _ (by omega)]
      refine ⟨e0, e1, e2, e3, e4, e5, ?_⟩
      show updN A (18 + 6 * q) 1 (18 + 6 * q) ≤ 1
      rw [updN_s]
      decide
    · exact (hO.r q hq).cg (fun j hj => u _ (by omega))
def frcC (A : Nat → Nat) : Nat := sumN (fun r => (inF A r).toNat) (A 4)
def opOver (x : Int32) (w : Wd) : Int32 × Wd := match ixO x (w.A 4) with
  | none => (-1, w)
  | some r => if w.A (18 + 6 * r) = 0 then (nI (frcC w.A) - nI (frcC (overA w.A r)), (keepW w).toA (overA w.A r)) else (-2, w)
theorem c_overrule {M : Mem} {w : Wd} (hO : OkW w) (hC : CI M w) (x : Int32) : CRes (f_X5_overrule 1 x M) M (opOver x w).1 (opOver x w).2 := by
  have hm := hO.1.m
  have ha := lay1.2.2.2
  unfold f_X5_overrule opOver
  rw [gdd_t lay1.1, lay1.2.1, gdd_t ha]
  rcases ix_cases x (n := w.A 4) (by omega) with ⟨r, hr, rfl⟩ | ⟨hx, hx2⟩
  · have hov := (hO.1.r r hr).2.2.2.2.2.2
    rw [p_ruAt ha hC.1.m hm hr, obb_s, if_neg (by omega), gdd_t (st_ru ha (by omega)).2, (hC.1.r r hr).2.2.2.2.2.1, ixO_s (by omega) hr]
    by_cases h0 : w.A (18 + 6 * r) = 0
    · obtain ⟨M1, r1, r2, r3⟩ := p_keep hO hC
      have hR : RelS M1 12 w.A := by rw [← keepW_A w]; exact r2.1
      have u : ∀ k, k ≠ 18 + 6 * r → overA w.A r k = w.A k := fun k h => updN_n h
      have hO2 := ok_over hO.1 hr
      have hS1 : Sm (fun q => q = 12 + 13 + r) M1 (sI M1 (12 + 13 + r) 5 1) := Sm.rf.p1
      have g : ∀ q, q ≠ 12 + 13 + r → ∀ k, gI (sI M1 (12 + 13 + r) 5 1) q k = gI M1 q k := fun q h k => gI_n (Or.inl h)
      obtain ⟨M2, s1, s2, s3⟩ := rel_force (M := sI M1 (12 + 13 + r) 5 1) ha hO2
        ⟨fun k hk => by rw [g _ (by omega), u _ (by omega)]; exact hR.w k hk, fun _ => by rw [g _ (by omega), u _ (by omega)]; exact hR.s0, fun _ => by rw [g _ (by omega), u _ (by omega)]; exact hR.s1, fun e he => by
          rw [u _ (by omega)] at he
          have := hO.1.n
          exact ((hR.e e he).sm hS1 (by omega) (by omega)).cg (fun j hj => u _ (by omega)) (hO.1.e e he).2.1, fun e he => by omega⟩
        (by rw [g _ (by omega), u _ (by omega)]; exact hR.n) (by rw [g _ (by omega), u _ (by omega)]; exact hR.m) (by rw [g _ (by omega), u _ (by omega)]; exact hR.d) (by rw [g _ (by omega), u _ (by omega)]; exact hR.g) (by rw [g _ (by omega), u _ (by omega)]; exact hR.f)
        (fun q hq => by
          rw [u _ (by omega)] at hq
          by_cases e : q = r
          · subst e
            obtain ⟨e0, e1, e2, e3, e4, e5, e6⟩ := hR.r q hq
            refine ⟨?_, ?_, ?_, ?_, ?_, ?_⟩
            · rw [gI_n (Or.inr (by decide)), u _ (by omega)]; exact e0
            · rw [gI_n (Or.inr (by decide)), u _ (by omega)]; exact e1
            · rw [gI_n (Or.inr (by decide)), u _ (by omega)]; exact e2
            · rw [gI_n (Or.inr (by decide)), u _ (by omega)]; exact e3
            · rw [gI_n (Or.inr (by decide)), u _ (by omega)]; exact e4
            · rw [gI_s]; unfold overA; rw [updN_s]; rfl
          · obtain ⟨e0, e1, e2, e3, e4, e5⟩ := ((hR.r q hq).fR).sm hS1 (show ¬ 12 + 13 + q = 12 + 13 + r by omega)
            exact ⟨by rw [u _ (by omega)]; exact e0, by rw [u _ (by omega)]; exact e1, by rw [u _ (by omega)]; exact e2, by rw [u _ (by omega)]; exact e3, by rw [u _ (by omega)]; exact e4, by rw [u _ (by omega)]; exact e5⟩)
      have hS2 : Sm (fun q => 12 + 13 ≤ q ∧ q < 12 + 23) M1 M2 := (hS1.mono (fun q h => by omega)).tr s2
      rw [if_pos ((nI_z (by omega)).mpr h0), r1, obb_s, p_rulingsInForce ha hO.1 hR, obb_s, bvv_e, s1, obb_s, p_rulingsInForce ha hO2 s3, obb_s]
      simp only [if_pos h0]
      exact ⟨_, rfl, CI.sa (keepW_ok hO) r2 hS2 (fun r hr => by omega) s3, (r3.mono (fun r h => h.lt)).tr (hS2.i.mono (fun r h => by omega))⟩
    · rw [if_neg (fun e => h0 ((nI_z (by omega)).mp e))]
      simp only [if_neg h0]
      exact CRes.no hC
  · rw [p_ruAtO ha hC.1.m hx, obb_s, if_pos rfl, hx2]
    exact CRes.no hC
def ruG (x y c f t : Nat) (j : Nat) : Nat := if j = 0 then x else if j = 1 then y else if j = 2 then c else if j = 3 then f else if j = 4 then t else 0
def ruleA (A : Nat → Nat) (x y c f t : Nat) : Nat → Nat := fun k => if k = 4 then A 4 + 1 else if 13 + 6 * A 4 ≤ k ∧ k < 19 + 6 * A 4 then ruG x y c f t (k - (13 + 6 * A 4)) else A k
theorem ruleA_o {A : Nat → Nat} {x y c f t k : Nat} (h4 : k ≠ 4) (h : k < 13 + 6 * A 4 ∨ 19 + 6 * A 4 ≤ k) : ruleA A x y c f t k = A k := by unfold ruleA; rw [if_neg h4, if_neg (by omega)]
theorem ruleA_i {A : Nat → Nat} {x y c f t j : Nat} (h : j < 6) : ruleA A x y c f t (13 + 6 * A 4 + j) = ruG x y c f t j := by unfold ruleA; rw [if_neg (by omega), if_pos (by omega), Nat.add_sub_cancel_left]
theorem ok_rule {A : Nat → Nat} (hO : Ok A) {x y c f t : Nat} (hx : x < 6) (hy : y < 6) (hc : c ≤ 1) (hf : 1 ≤ f ∧ f ≤ 20) (ht : t ≤ A 4) (h10 : A 4 < 10) : Ok (ruleA A x y c f t) := by
  have e4 : ruleA A x y c f t 4 = A 4 + 1 := rfl
  have u : ∀ k, k ≠ 4 → (k < 13 + 6 * A 4 ∨ 73 ≤ k) → ruleA A x y c f t k = A k := fun k h h2 => ruleA_o h (by omega)
  refine ⟨by rw [u _ (by omega) (by omega)]; exact hO.n, by rw [e4]; omega, fun k hk => by rw [u _ (by omega) (by omega)]; exact hO.w k hk, by rw [u _ (by omega) (by omega)]; exact hO.b, by rw [u _ (by omega) (by omega)]; exact hO.h, fun k hk => ?_, fun q hq => ?_⟩
  · rw [u _ (by omega) (by omega)] at hk
    exact (hO.e k hk).cg (fun j hj => u _ (by omega) (by omega))
  · rw [e4] at hq
    by_cases e : q = A 4
    · subst e
      unfold OkR
      have z : ∀ j, j < 6 → ruleA A x y c f t (13 + 6 * A 4 + j) = ruG x y c f t j := fun j h => ruleA_i h
      have z0 := z 0 (by decide)
      have z1 := z 1 (by decide)
      have z2 := z 2 (by decide)
      have z3 := z 3 (by decide)
      have z4 := z 4 (by decide)
      have z5 := z 5 (by decide)
      rw [show 14 + 6 * A 4 = 13 + 6 * A 4 + 1 by omega, show 15 + 6 * A 4 = 13 + 6 * A 4 + 2 by omega, show 16 + 6 * A 4 = 13 + 6 * A 4 + 3 by omega, show 17 + 6 * A 4 = 13 + 6 * A 4 + 4 by omega, show 18 + 6 * A 4 = 13 + 6 * A 4 + 5 by omega, show ruleA A x y c f t (13 + 6 * A 4) = x from z0, z1, z2, z3, z4, z5]
      exact ⟨hx, hy, hc, hf.1, hf.2, ht, Nat.zero_le _⟩
    · exact (hO.r q (by omega)).cg (fun j hj => u _ (by omega) (by omega))
theorem ct_cases (x : Int32) {n : Nat} (hn : n ≤ 10) : (∃ t, t ≤ n ∧ x = nI t - 1 ∧ (-1 ≤ x ∧ x ≤ nI n - 1)) ∨ ¬ (-1 ≤ x ∧ x ≤ nI n - 1) := by
  by_cases h : -1 ≤ x ∧ x ≤ nI n - 1
  · refine Or.inl ?_
    have q : ∀ m, m ≤ 10 → (nI m - 1).toInt = (m : Int) - 1 := by decide +kernel
    have e0 : -1 ≤ x.toInt := by have := Int32.le_iff_toInt_le.mp h.1; simpa using this
    have e1 : x.toInt ≤ (n : Int) - 1 := by have := Int32.le_iff_toInt_le.mp h.2; rwa [q n hn] at this
    refine ⟨(x.toInt + 1).toNat, by omega, Int32.toInt_inj.mp ?_, h⟩
    rw [q _ (by omega)]
    omega
  · exact Or.inr h
theorem ct_1 {t : Nat} : nI t - 1 + 1 = nI t := by
  rw [Int32.sub_add_cancel]
def opRule (x y : Int32) (c : Nat) (f t : Int32) (w : Wd) : Int32 × Wd := if ((0 ≤ x ∧ x ≤ 5) ∧ (0 ≤ y ∧ y ≤ 5) ∧ 1 ≤ f ∧ f ≤ 20) ∧ -1 ≤ t ∧ t ≤ nI (w.A 4) - 1 then (if w.A 4 < 10 then (nI (w.A 4), (keepW w).toA (ruleA w.A x.toNatClampNeg y.toNatClampNeg c f.toNatClampNeg (t + 1).toNatClampNeg)) else (-3, w)) else (-1, w)
theorem p_about (x y f : Int32) : f_X5_isAboutKinds x y f = if (0 ≤ x ∧ x ≤ 5) ∧ (0 ≤ y ∧ y ≤ 5) ∧ 1 ≤ f ∧ f ≤ 20 then 1 else 0 := by
  unfold f_X5_isAboutKinds f_X5_isKind
  by_cases h1 : 0 ≤ x ∧ x ≤ 5
  · rw [if_neg (isW_1 h1)]
    by_cases h2 : 0 ≤ y ∧ y ≤ 5
    · rw [if_neg (isW_1 h2)]
      by_cases h3 : 1 ≤ f ∧ f ≤ 20
      · rw [if_neg (isW_1 h3), if_pos ⟨h1, h2, h3⟩]
      · rw [if_pos (isW_0 h3), if_neg (fun h => h3 h.2.2)]
    · rw [if_pos (isW_0 h2), if_neg (fun h => h2 h.2.1)]
  · rw [if_pos (isW_0 h1), if_neg (fun h => h1 h.1)]
theorem c_rule {M : Mem} {w : Wd} (hO : OkW w) (hC : CI M w) (x y : Int32) {c : Nat} (hc : c ≤ 1) (f t : Int32) : CRes (f_X5_rule 1 x y (nI c) f t M) M (opRule x y c f t w).1 (opRule x y c f t w).2 := by
  have hm := hO.1.m
  have hn := hO.1.n
  have ha := lay1.2.2.2
  unfold f_X5_rule opRule
  rw [p_about]
  by_cases h1 : (0 ≤ x ∧ x ≤ 5) ∧ (0 ≤ y ∧ y ≤ 5) ∧ 1 ≤ f ∧ f ≤ 20
  · rw [if_pos h1, if_neg (by decide), gdd_t lay1.1, lay1.2.1, gdd_t ha, hC.1.m]
    rcases ct_cases t hm with ⟨q, q1, q2, q3⟩ | q3
    · rw [if_neg (isW_1 q3), if_pos (And.intro h1 q3), show (10 : Int32) = nI 10 from rfl]
      by_cases h10 : w.A 4 < 10
      · obtain ⟨i, i1, rfl⟩ := in_ex (b := 5) (by decide) h1.1.1 h1.1.2
        obtain ⟨j, j1, rfl⟩ := in_ex (b := 5) (by decide) h1.2.1.1 h1.2.1.2
        obtain ⟨v, v1, v2, rfl⟩ := in_ex2 (a := 1) (b := 20) (by decide) (by decide) h1.2.2.1 h1.2.2.2
        obtain ⟨M1, r1, r2, r3⟩ := p_keep hO hC
        have hR : RelS M1 12 w.A := by rw [← keepW_A w]; exact r2.1
        have k1 := (st_ru ha (show w.A 4 < 10 from h10)).2
        rw [if_pos ((nI_ltI (by omega) (by decide)).mpr h10), if_pos h10, q2, ct_1, nI_clamp (by omega), nI_clamp (by omega), nI_clamp (by omega), nI_clamp (by omega), r1, obb_s]
        have hO2 := ok_rule hO.1 (x := i) (y := j) (c := c) (f := v) (t := q) (by omega) (by omega) hc ⟨v1, v2⟩ q1 h10
        have e4 : ruleA w.A i j c v q 4 = w.A 4 + 1 := rfl
        have u : ∀ k, k ≠ 4 → (k < 13 + 6 * w.A 4 ∨ 73 ≤ k) → ruleA w.A i j c v q k = w.A k := fun k h h2 => ruleA_o h (by omega)
        have z : ∀ s, s < 6 → ruleA w.A i j c v q (13 + 6 * w.A 4 + s) = ruG i j c v q s := fun s h => ruleA_i h
        -- the memory before findForce
        have hS : Sm (fun r => r = 12 ∨ r = 12 + 13 + w.A 4) M1 (sI (sI (sI (sI (sI (sI (sI M1 12 5 (nI (w.A 4 + 1))) (12 + 13 + w.A 4) 0 (nI i)) (12 + 13 + w.A 4) 1 (nI j)) (12 + 13 + w.A 4) 2 (nI c)) (12 + 13 + w.A 4) 3 (nI v)) (12 + 13 + w.A 4) 4 (nI q - 1)) (12 + 13 + w.A 4) 5 0) :=
          ((((((Sm.rf.put (Or.inl rfl)).put (Or.inr rfl)).put (Or.inr rfl)).put (Or.inr rfl)).put (Or.inr rfl)).put (Or.inr rfl)).put (Or.inr rfl)
        have hF : RuF (sI (sI (sI (sI (sI (sI (sI M1 12 5 (nI (w.A 4 + 1))) (12 + 13 + w.A 4) 0 (nI i)) (12 + 13 + w.A 4) 1 (nI j)) (12 + 13 + w.A 4) 2 (nI c)) (12 + 13 + w.A 4) 3 (nI v)) (12 + 13 + w.A 4) 4 (nI q - 1)) (12 + 13 + w.A 4) 5 0) (12 + 13 + w.A 4) (ruleA w.A i j c v q) (w.A 4) := by
          have z0 := z 0 (by decide)
          unfold RuF
          rw [show 14 + 6 * w.A 4 = 13 + 6 * w.A 4 + 1 by omega, show 15 + 6 * w.A 4 = 13 + 6 * w.A 4 + 2 by omega, show 16 + 6 * w.A 4 = 13 + 6 * w.A 4 + 3 by omega, show 17 + 6 * w.A 4 = 13 + 6 * w.A 4 + 4 by omega, show 18 + 6 * w.A 4 = 13 + 6 * w.A 4 + 5 by omega, show ruleA w.A i j c v q (13 + 6 * w.A 4) = i from z0, z 1 (by decide), z 2 (by decide), z 3 (by decide), z 4 (by decide), z 5 (by decide)]
          refine ⟨?_, ?_, ?_, ?_, ?_, ?_⟩
          · rw [gI_n (Or.inr (by decide)), gI_n (Or.inr (by decide)), gI_n (Or.inr (by decide)), gI_n (Or.inr (by decide)), gI_n (Or.inr (by decide)), gI_s]
          · rw [gI_n (Or.inr (by decide)), gI_n (Or.inr (by decide)), gI_n (Or.inr (by decide)), gI_n (Or.inr (by decide)), gI_s]; rfl
          · rw [gI_n (Or.inr (by decide)), gI_n (Or.inr (by decide)), gI_n (Or.inr (by decide)), gI_s]; rfl
          · rw [gI_n (Or.inr (by decide)), gI_n (Or.inr (by decide)), gI_s]; rfl
          · rw [gI_n (Or.inr (by decide)), gI_s]; rfl
          · rw [gI_s]; rfl
        have h12 : ∀ k, k ≠ 5 → gI (sI (sI (sI (sI (sI (sI (sI M1 12 5 (nI (w.A 4 + 1))) (12 + 13 + w.A 4) 0 (nI i)) (12 + 13 + w.A 4) 1 (nI j)) (12 + 13 + w.A 4) 2 (nI c)) (12 + 13 + w.A 4) 3 (nI v)) (12 + 13 + w.A 4) 4 (nI q - 1)) (12 + 13 + w.A 4) 5 0) 12 k = gI M1 12 k := fun k hk => by
          rw [gI_n (Or.inl (by omega)), gI_n (Or.inl (by omega)), gI_n (Or.inl (by omega)), gI_n (Or.inl (by omega)), gI_n (Or.inl (by omega)), gI_n (Or.inl (by omega)), gI_n (Or.inr hk)]
        have h5 : gI (sI (sI (sI (sI (sI (sI (sI M1 12 5 (nI (w.A 4 + 1))) (12 + 13 + w.A 4) 0 (nI i)) (12 + 13 + w.A 4) 1 (nI j)) (12 + 13 + w.A 4) 2 (nI c)) (12 + 13 + w.A 4) 3 (nI v)) (12 + 13 + w.A 4) 4 (nI q - 1)) (12 + 13 + w.A 4) 5 0) 12 5 = nI (w.A 4 + 1) := by
          rw [gI_n (Or.inl (by omega)), gI_n (Or.inl (by omega)), gI_n (Or.inl (by omega)), gI_n (Or.inl (by omega)), gI_n (Or.inl (by omega)), gI_n (Or.inl (by omega)), gI_s]
        have hadd : f_X4_addRuling 12 (nI i) (nI j) (nI c) (nI v) (nI q - 1) M1 = obb (f_X4_findForce 12 (sI (sI (sI (sI (sI (sI (sI M1 12 5 (nI (w.A 4 + 1))) (12 + 13 + w.A 4) 0 (nI i)) (12 + 13 + w.A 4) 1 (nI j)) (12 + 13 + w.A 4) 2 (nI c)) (12 + 13 + w.A 4) 3 (nI v)) (12 + 13 + w.A 4) 4 (nI q - 1)) (12 + 13 + w.A 4) 5 0)) (fun M23 => some M23) := by
          unfold f_X4_addRuling
          rw [gdd_t ha, hR.m, nI_1, bvv_e, gI_s, nI_sub1 (by omega), Nat.add_sub_cancel, p_ruAt (n := w.A 4 + 1) ha gI_s (by omega) (by omega), obb_s, if_neg (by omega), gdd_t k1]
          simp only [bvv_e]
          rw [gdd_t (isb_nI hc)]
        have g : ∀ p, p ≠ 12 → p ≠ 12 + 13 + w.A 4 → ∀ k, gI (sI (sI (sI (sI (sI (sI (sI M1 12 5 (nI (w.A 4 + 1))) (12 + 13 + w.A 4) 0 (nI i)) (12 + 13 + w.A 4) 1 (nI j)) (12 + 13 + w.A 4) 2 (nI c)) (12 + 13 + w.A 4) 3 (nI v)) (12 + 13 + w.A 4) 4 (nI q - 1)) (12 + 13 + w.A 4) 5 0) p k = gI M1 p k := fun p h1 h2 k => hS.1 p k (by omega)
        generalize (sI (sI (sI (sI (sI (sI (sI M1 12 5 (nI (w.A 4 + 1))) (12 + 13 + w.A 4) 0 (nI i)) (12 + 13 + w.A 4) 1 (nI j)) (12 + 13 + w.A 4) 2 (nI c)) (12 + 13 + w.A 4) 3 (nI v)) (12 + 13 + w.A 4) 4 (nI q - 1)) (12 + 13 + w.A 4) 5 0) = M3 at hS hF h12 h5 hadd g
        obtain ⟨M2, s1, s2, s3⟩ := rel_force (M := M3) ha hO2
          ⟨fun k hk => by rw [g _ (by omega) (by omega), u _ (by omega) (by omega)]; exact hR.w k hk, fun _ => by rw [g _ (by omega) (by omega), u _ (by omega) (by omega)]; exact hR.s0, fun _ => by rw [g _ (by omega) (by omega), u _ (by omega) (by omega)]; exact hR.s1, fun e he => by
            rw [u _ (by omega) (by omega)] at he
            exact ((hR.e e he).sm hS (by omega) (by omega)).cg (fun j hj => u _ (by omega) (by omega)) (hO.1.e e he).2.1, fun e he => by omega⟩
          (by rw [h12 _ (by decide), u _ (by omega) (by omega)]; exact hR.n) (by rw [h5, e4]) (by rw [h12 _ (by decide), u _ (by omega) (by omega)]; exact hR.d) (by rw [h12 _ (by decide), u _ (by omega) (by omega)]; exact hR.g) (by rw [h12 _ (by decide), u _ (by omega) (by omega)]; exact hR.f)
          (fun p hp => by
            rw [e4] at hp
            by_cases e : p = w.A 4
            · rw [e]; exact hF
            · obtain ⟨e0, e1, e2, e3, e4, e5⟩ := ((hR.r p (by omega)).fR).sm hS (show ¬ (12 + 13 + p = 12 ∨ 12 + 13 + p = 12 + 13 + w.A 4) by omega)
              exact ⟨by rw [u _ (by omega) (by omega)]; exact e0, by rw [u _ (by omega) (by omega)]; exact e1, by rw [u _ (by omega) (by omega)]; exact e2, by rw [u _ (by omega) (by omega)]; exact e3, by rw [u _ (by omega) (by omega)]; exact e4, by rw [u _ (by omega) (by omega)]; exact e5⟩)
        have hS2 : Sm (fun p => p = 12 ∨ 12 + 13 ≤ p ∧ p < 12 + 23) M1 M2 := (hS.mono (fun q h => by omega)).tr (s2.mono (fun q h => Or.inr h))
        rw [hadd, s1, obb_s, obb_s, s3.m, e4, nI_sub1 (by omega), Nat.add_sub_cancel]
        exact ⟨_, rfl, CI.sa (keepW_ok hO) r2 hS2 (fun r hr => by omega) s3, (r3.mono (fun r h => h.lt)).tr (hS2.i.mono (fun r h => by omega))⟩
      · rw [if_neg (fun e => h10 ((nI_ltI (by omega) (by decide)).mp e)), if_neg h10]
        exact CRes.no hC
    · rw [if_pos (isW_0 q3), if_neg (fun h => q3 h.2)]
      exact CRes.no hC
  · rw [if_neg h1, if_pos rfl, if_neg (fun h => h1 h.1)]
    exact CRes.no hC
