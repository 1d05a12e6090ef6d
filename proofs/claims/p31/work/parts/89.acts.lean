/-! PURE: the acts -/
theorem uq_lo {A A2 : Nat → Nat} (hO : Ok A) (h3 : A2 3 = A 3) (h : ∀ k, 73 ≤ k → A2 k = A k) (hU : Uq A) : Uq A2 :=
  uq_cg hO h3 (fun e _ => ⟨h _ (by omega), h _ (by omega), fun t _ => h _ (by omega)⟩) hU
theorem ci_eq : ∀ n, n < 11 → ∀ c, c < 14 → ((nI c - 2 = nI n) ↔ c = n + 2) := by decide
theorem ci_m2 : ∀ c, c < 14 → ((nI c - 2 = -2) ↔ c = 0) := by decide
theorem ci_in : ∀ n, n < 11 → ∀ c, c < 14 → ((-1 ≤ nI c - 2 ∧ nI c - 2 ≤ nI n - 1) ↔ (1 ≤ c ∧ c < n + 2)) := by decide
theorem ci_0 : ∀ c, c < 14 → ((0 ≤ nI c - 2) ↔ 2 ≤ c) := by decide
theorem ci_t : ∀ c, c < 14 → 1 ≤ c → (nI c - 2 + 1).toNatClampNeg = c - 1 := by decide
section AC
variable {w : Wd}
theorem p_a576 {d : Nat} (hO : OkW w) {M : Mem} (hC : CI M w) : WP (f_L_acts_576 (-1) M) (AQ d w) := by
  unfold f_L_acts_576
  exact CR.t rfl (WP.r hC ⟨rfl, st_same hO⟩)
theorem p_weight (hO : OkW w) (hU : Uq w.A) {d a v : Nat} (hd : w.A 0 ≤ d) (ha : a < 7) (hv : v < 11) {M : Mem} (hC : CI M w) : WP (opp (f_X5_weight 1 (nI a) (nI v) M) fun y45 M43 => if nI a = (6 : Int32) then (f_L_acts_576 y45 M43) else (if nI v = 0 then (f_L_acts_576 y45 M43) else (if nI v = (10 : Int32) then (f_L_acts_576 y45 M43) else (if y45 < (1 : Int32) then (some ((0 : Int32), M43)) else (if (9 : Int32) < y45 then (some ((0 : Int32), M43)) else (some ((1 : Int32), M43))))))) (AQ d w) := by
  have r := (c_weight hO hC (nI a) (nI v)).cr
  have O2 := okw_weight hO (nI a) (nI v)
  by_cases g : a < 6 ∧ 1 ≤ v ∧ v ≤ 9
  · have ep : opWeight (nI a) (nI v) w = (nI (w.A (7 + a)), (keepW w).toA (updN w.A (7 + a) v)) := by
      unfold opWeight
      rw [if_pos ⟨⟨nI_pos' (by omega), nI_le' (b := 5) (by omega) (by decide) (by omega)⟩, nI_le' (a := 1) (by decide) (by omega) g.2.1, nI_le' (b := 9) (by omega) (by decide) g.2.2⟩, nI_clamp (by omega), nI_clamp (by omega)]
    rw [ep] at r O2
    have hw := hO.1.w a g.1
    have hS : StepW d w ((keepW w).toA (updN w.A (7 + a) v)) := st_keep hO O2.1 (uq_lo hO.1 (updN_n (by omega)) (fun k hk => updN_n (by omega)) hU) (by rw [updN_n (by omega)]; exact hd)
    exact CR.p r fun M2 C2 => CR.f (nI_ne (b := 6) (by omega) (by decide) (by omega)) (CR.f (nI_ne (b := 0) (by omega) (by decide) (by omega)) (CR.f (nI_ne (b := 10) (by omega) (by decide) (by omega)) (CR.f (nlt_n (b := 1) (by omega) (by decide) hw.1) (CR.f (nlt_n (a := 9) (by decide) (by omega) hw.2) (WP.r C2 ⟨rfl, hS⟩)))))
  · have ep : opWeight (nI a) (nI v) w = (-1, w) := by
      unfold opWeight
      rw [if_neg]
      rintro ⟨⟨-, h2⟩, h3, h4⟩
      have q1 := (nI_leI (a := a) (b := 5) (by omega) (by decide)).mp h2
      have q2 := (nI_leI (a := 1) (b := v) (by decide) (by omega)).mp h3
      have q3 := (nI_leI (a := v) (b := 9) (by omega) (by decide)).mp h4
      exact g ⟨by omega, q2, q3⟩
    rw [ep] at r
    refine CR.p r fun M2 C2 => ?_
    have F := p_a576 (d := d) hO C2
    by_cases h1 : a = 6
    · exact CR.t (by rw [h1]; rfl) F
    · refine CR.f (nI_ne (b := 6) (by omega) (by decide) h1) ?_
      by_cases h2 : v = 0
      · exact CR.t (by rw [h2]; rfl) F
      · refine CR.f (nI_ne (b := 0) (by omega) (by decide) h2) (CR.t ?_ F)
        rw [show v = 10 by omega]
        rfl
/-! set -/
theorem p_a683 (hO : OkW w) (hU : Uq w.A) {d t v : Nat} (hd : w.A 0 ≤ d) (ht : t < 3) (hv : v < 63) {z : Int32} (hz : (z = 0 ∧ ((t = 0 ∧ 1 ≤ v ∧ v ≤ 30) ∨ (t = 1 ∧ 9 ≤ v ∧ v ≤ 60))) ∨ (z = 1 ∧ ¬ ((t = 0 ∧ 1 ≤ v ∧ v ≤ 30) ∨ (t = 1 ∧ 9 ≤ v ∧ v ≤ 60)))) {M : Mem} (hC : CI M w) : WP (f_L_acts_683 1 (nI t) (nI v) z M) (AQ d w) := by
  have O2 := okw_set hO (nI t) (nI v)
  have hb := hO.1.b
  have hh := hO.1.h
  unfold f_L_acts_683 f_L_acts_704 f_L_acts_725 f_L_acts_755
  rcases hz with ⟨rfl, (⟨rfl, v1, v2⟩ | ⟨rfl, v1, v2⟩)⟩ | ⟨rfl, hbad⟩
  · have ep : opSet (nI 0) (nI v) w = (nI (w.A 1), (keepW w).toA (updN w.A 1 v)) := by
      unfold opSet
      rw [if_pos ⟨rfl, nI_le' (a := 1) (by decide) (by omega) v1, nI_le' (b := 30) (by omega) (by decide) v2⟩, nI_clamp (by omega)]
    rw [ep] at O2
    have hS : StepW d w ((keepW w).toA (updN w.A 1 v)) := st_keep hO O2.1 (uq_lo hO.1 (updN_n (by omega)) (fun k hk => updN_n (by omega)) hU) (by rw [updN_n (by omega)]; exact hd)
    refine CR.f (by decide) (CR.g ?_)
    rw [show (10 : Int32) + nI 0 = 10 from rfl]
    refine s_c10 hO hC fun M2 C2 => CR.g ?_
    have r := (c_set hO C2 (nI 0) (nI v)).cr
    rw [ep] at r
    refine CR.p r fun M3 C3 => CR.t rfl (CR.t rfl (CR.f (by decide) (CR.g (s_c10 O2 C3 fun M4 C4 => CR.t rfl (CR.t ?_ (WP.r C4 ⟨rfl, hS⟩))))))
    show nI (updN w.A 1 v 1) = nI v
    rw [updN_s]
  · have ep : opSet (nI 1) (nI v) w = (nI (w.A 2), (keepW w).toA (updN w.A 2 v)) := by
      unfold opSet
      rw [if_neg (fun q => absurd q.1 (by decide)), if_pos ⟨rfl, nI_le' (a := 9) (by decide) (by omega) v1, nI_le' (b := 60) (by omega) (by decide) v2⟩, nI_clamp (by omega)]
    rw [ep] at O2
    have hS : StepW d w ((keepW w).toA (updN w.A 2 v)) := st_keep hO O2.1 (uq_lo hO.1 (updN_n (by omega)) (fun k hk => updN_n (by omega)) hU) (by rw [updN_n (by omega)]; exact hd)
    refine CR.f (by decide) (CR.g ?_)
    rw [show (10 : Int32) + nI 1 = 11 from rfl]
    refine s_c11 hO hC fun M2 C2 => CR.g ?_
    have r := (c_set hO C2 (nI 1) (nI v)).cr
    rw [ep] at r
    refine CR.p r fun M3 C3 => CR.t rfl (CR.t rfl (CR.f (by decide) (CR.g (s_c11 O2 C3 fun M4 C4 => CR.t rfl (CR.t ?_ (WP.r C4 ⟨rfl, hS⟩))))))
    show nI (updN w.A 2 v 2) = nI v
    rw [updN_s]
  · have ep : opSet (nI t) (nI v) w = (-1, w) := by
      unfold opSet
      rw [if_neg, if_neg]
      · rintro ⟨h1, h2, h3⟩
        have q1 := (nI_eq (a := t) (b := 1) (by omega) (by decide)).mp h1
        have q2 := (nI_leI (a := 9) (b := v) (by decide) (by omega)).mp h2
        have q3 := (nI_leI (a := v) (b := 60) (by omega) (by decide)).mp h3
        exact hbad (Or.inr ⟨q1, q2, q3⟩)
      · rintro ⟨h1, h2, h3⟩
        have q1 := (nI_eq (a := t) (b := 0) (by omega) (by decide)).mp h1
        have q2 := (nI_leI (a := 1) (b := v) (by decide) (by omega)).mp h2
        have q3 := (nI_leI (a := v) (b := 30) (by omega) (by decide)).mp h3
        exact hbad (Or.inl ⟨q1, q2, q3⟩)
    have r := fun (M : Mem) (hC : CI M w) => (c_set hO hC (nI t) (nI v)).cr
    rw [ep] at r
    have t3 : t = 0 ∨ t = 1 ∨ t = 2 := by omega
    rcases t3 with rfl | rfl | rfl
    · refine CR.f (by decide) (CR.g ?_)
      rw [show (10 : Int32) + nI 0 = 10 from rfl]
      exact s_c10 hO hC fun M2 C2 => CR.g (CR.p (r M2 C2) fun M3 C3 => CR.f (by decide) (CR.t rfl (CR.f (by decide) (CR.g (s_c10 hO C3 fun M4 C4 => CR.f (by decide) (CR.t rfl (WP.r C4 ⟨rfl, st_same hO⟩)))))))
    · refine CR.f (by decide) (CR.g ?_)
      rw [show (10 : Int32) + nI 1 = 11 from rfl]
      exact s_c11 hO hC fun M2 C2 => CR.g (CR.p (r M2 C2) fun M3 C3 => CR.f (by decide) (CR.t rfl (CR.f (by decide) (CR.g (s_c11 hO C3 fun M4 C4 => CR.f (by decide) (CR.t rfl (WP.r C4 ⟨rfl, st_same hO⟩)))))))
    · exact CR.t (by decide) (CR.g (CR.p (r M hC) fun M3 C3 => CR.f (by decide) (CR.t rfl (CR.t (by decide) (WP.r C3 ⟨rfl, st_same hO⟩)))))
/-! overrule -/
theorem p_a393 (hO : OkW w) (hU : Uq w.A) {d r : Nat} (hd : w.A 0 ≤ d) (hr : r ≤ w.A 4) {x : Int32} (hx : r < w.A 4 → x = nI (inF w.A r).toNat) {M : Mem} (hC : CI M w) : WP (f_L_acts_393 1 (nI (w.A 4)) (nI r) (nI (frcC w.A)) x M) (AQ d w) := by
  have h10 := hO.1.m
  have rr := (c_overrule hO hC (nI r)).cr
  have O2 := okw_over hO (nI r)
  have hfr : ∀ A : Nat → Nat, A 4 ≤ 10 → frcC A ≤ 10 := fun A h => by
    have := sumN_le (f := fun r => (inF A r).toNat) (b := 1) (fun j => Bool.toNat_le _) (A 4)
    unfold frcC
    omega
  have f1 := hfr w.A h10
  unfold f_L_acts_393
  by_cases q : r = w.A 4
  · have ep : opOver (nI r) w = (-1, w) := by
      unfold opOver
      rw [ixO_n (Or.inr (by rw [q]; exact Int32.le_refl _))]
    rw [ep] at rr
    exact CR.g (CR.p rr fun M2 C2 => CR.t (by rw [q]) (CR.t rfl (WP.r C2 ⟨rfl, st_same hO⟩)))
  · have hlt : r < w.A 4 := by omega
    have l1 := Bool.toNat_lt (inF w.A r)
    rw [hx hlt]
    by_cases z : w.A (18 + 6 * r) = 0
    · have ho := frcC_over hlt
      have e4 : overA w.A r 4 = w.A 4 := updN_n (by omega)
      have ep : opOver (nI r) w = (nI (frcC w.A - frcC (overA w.A r)), (keepW w).toA (overA w.A r)) := by
        unfold opOver
        rw [ixO_s (by omega) hlt]
        simp only
        rw [if_pos z, pk_sub (by omega)]
      rw [ep] at rr O2
      have hS : StepW d w ((keepW w).toA (overA w.A r)) := st_keep hO O2.1 (uq_lo hO.1 (updN_n (by omega)) (fun k hk => updN_n (by omega)) hU) (by unfold overA; rw [updN_n (by omega)]; exact hd)
      refine CR.g (CR.p rr fun M2 C2 => CR.f (nI_ne (by omega) (by omega) q) (CR.f ?_ (CR.f (nlt_n (by omega) (by omega) (by omega)) (s_c5 O2 C2 fun M3 C3 => CR.t ?_ (s_r5 O2 C3 (show r < overA w.A r 4 by rw [e4]; exact hlt) (CR.t ?_ (WP.r C3 ⟨rfl, hS⟩)))))))
      · intro e
        have h1 : (-2 : Int32) < 0 := by decide
        rw [← e] at h1
        exact absurd h1 (nI_neg (by omega))
      · show nI (frcC (overA w.A r)) = nI (frcC w.A) - nI (frcC w.A - frcC (overA w.A r))
        rw [pk_sub (by omega)]
        exact congrArg nI (by omega)
      · show nI (inF (overA w.A r) r).toNat = 0
        rw [inF_over]
        rfl
    · have ep : opOver (nI r) w = (-2, w) := by
        unfold opOver
        rw [ixO_s (by omega) hlt]
        simp only
        rw [if_neg z]
      have e0 : inF w.A r = false := by
        rw [inF_eq (fun r hr => hO.1.q r hr) hlt, show (w.A (18 + 6 * r) == 0) = false from beq_eq_false_iff_ne.mpr z, Bool.false_and]
      rw [ep] at rr
      rw [e0]
      exact CR.g (CR.p rr fun M2 C2 => CR.f (nI_ne (by omega) (by omega) q) (CR.t rfl (CR.t rfl (s_c5 hO C2 fun M3 C3 => CR.t rfl (WP.r C3 ⟨rfl, st_same hO⟩)))))
/-! rule -/
def gdA (n a b p c : Nat) : Prop := a < 6 ∧ b < 6 ∧ (1 ≤ p ∧ p ≤ 20) ∧ 1 ≤ c ∧ c < n + 2
theorem p_a170 (hO : OkW w) (hU : Uq w.A) {d a b p c m : Nat} (hd : w.A 0 ≤ d) (ha : a < 7) (hb : b < 7) (hp : p < 22) (hc : c < w.A 4 + 3) (hm : m ≤ 1) {z : Int32} (hz : (z = 0 ∧ gdA (w.A 4) a b p c) ∨ (z = 1 ∧ ¬ gdA (w.A 4) a b p c)) {M : Mem} (hC : CI M w) : WP (f_L_acts_170 1 (nI (w.A 4)) (nI a) (nI b) (nI p) (nI c - 2) (nI m) z M) (AQ d w) := by
  have h10 := hO.1.m
  have rr := (c_rule hO hC (nI a) (nI b) hm (nI p) (nI c - 2)).cr
  have O2 := okw_rule hO (nI a) (nI b) hm (nI p) (nI c - 2)
  have cin := ci_in (w.A 4) (by omega) c (by omega)
  have no : ∀ {y : Int32} {M : Mem} , CI M w → y < 0 → WP (f_L_acts_213 1 (nI (w.A 4)) (nI a) (nI b) (nI p) (nI c - 2) (nI m) y y y M) (AQ d w) := by
    intro y M hC hy
    unfold f_L_acts_213 f_L_acts_233
    exact CR.t rfl (CR.g (s_c4 hO hC fun M2 C2 => CR.f (Int32.not_le.mpr hy) (CR.t (Int32.add_zero _).symm (CR.t hy (WP.r C2 ⟨rfl, st_same hO⟩)))))
  unfold f_L_acts_170
  rcases hz with ⟨rfl, g1, g2, g3, g4, g5⟩ | ⟨rfl, hbad⟩
  · have hcond : ((0 ≤ nI a ∧ nI a ≤ 5) ∧ (0 ≤ nI b ∧ nI b ≤ 5) ∧ 1 ≤ nI p ∧ nI p ≤ 20) ∧ -1 ≤ nI c - 2 ∧ nI c - 2 ≤ nI (w.A 4) - 1 :=
      ⟨⟨⟨nI_pos' (by omega), nI_le' (b := 5) (by omega) (by decide) (by omega)⟩, ⟨nI_pos' (by omega), nI_le' (b := 5) (by omega) (by decide) (by omega)⟩, nI_le' (a := 1) (by decide) (by omega) g3.1, nI_le' (b := 20) (by omega) (by decide) g3.2⟩, cin.mpr ⟨g4, g5⟩⟩
    by_cases h9 : w.A 4 < 10
    · have ep : opRule (nI a) (nI b) m (nI p) (nI c - 2) w = (nI (w.A 4), (keepW w).toA (ruleA w.A a b m p (c - 1))) := by
        unfold opRule
        rw [if_pos hcond, if_pos h9, nI_clamp (by omega), nI_clamp (by omega), nI_clamp (by omega), ci_t c (by omega) g4]
      rw [ep] at rr O2
      have e4 : ruleA w.A a b m p (c - 1) 4 = w.A 4 + 1 := by unfold ruleA; rw [if_pos rfl]
      have u : ∀ k, k ≠ 4 → (k < 13 + 6 * w.A 4 ∨ 19 + 6 * w.A 4 ≤ k) → ruleA w.A a b m p (c - 1) k = w.A k := fun k h h2 => ruleA_o h h2
      have hS : StepW d w ((keepW w).toA (ruleA w.A a b m p (c - 1))) := st_keep hO O2.1 (uq_lo hO.1 (u _ (by omega) (by omega)) (fun k hk => u _ (by omega) (by omega)) hU) (by rw [u _ (by omega) (by omega)]; exact hd)
      have i0 : ruleA w.A a b m p (c - 1) (13 + 6 * w.A 4) = a := ruleA_i (j := 0) (by omega)
      have i1 : ruleA w.A a b m p (c - 1) (14 + 6 * w.A 4) = b := by rw [show 14 + 6 * w.A 4 = 13 + 6 * w.A 4 + 1 by omega]; exact ruleA_i (j := 1) (by omega)
      have i2 : ruleA w.A a b m p (c - 1) (15 + 6 * w.A 4) = m := by rw [show 15 + 6 * w.A 4 = 13 + 6 * w.A 4 + 2 by omega]; exact ruleA_i (j := 2) (by omega)
      have i3 : ruleA w.A a b m p (c - 1) (16 + 6 * w.A 4) = p := by rw [show 16 + 6 * w.A 4 = 13 + 6 * w.A 4 + 3 by omega]; exact ruleA_i (j := 3) (by omega)
      have i4 : ruleA w.A a b m p (c - 1) (17 + 6 * w.A 4) = c - 1 := by rw [show 17 + 6 * w.A 4 = 13 + 6 * w.A 4 + 4 by omega]; exact ruleA_i (j := 4) (by omega)
      have i5 : ruleA w.A a b m p (c - 1) (18 + 6 * w.A 4) = 0 := by rw [show 18 + 6 * w.A 4 = 13 + 6 * w.A 4 + 5 by omega]; exact ruleA_i (j := 5) (by omega)
      have hn : w.A 4 < ((keepW w).toA (ruleA w.A a b m p (c - 1))).A 4 := by
        show w.A 4 < ruleA w.A a b m p (c - 1) 4
        rw [e4]; omega
      have fF : inF (ruleA w.A a b m p (c - 1)) (w.A 4) = (c - 1 == 0 || inF (ruleA w.A a b m p (c - 1)) (c - 1 - 1)) := by
        have := inF_eq (A := ruleA w.A a b m p (c - 1)) (m := w.A 4 + 1) (r := w.A 4) (fun r hr => O2.1.q r (by show r < ruleA w.A a b m p (c - 1) 4; rw [e4]; exact hr)) (by omega)
        rw [this, i5, i4]
        rfl
      refine CR.g (CR.p rr fun M2 C2 => CR.t rfl (CR.f (nI_ne (a := w.A 4) (b := 10) (by omega) (by decide) (by omega)) ?_))
      unfold f_L_acts_213 f_L_acts_233 f_L_acts_283 f_L_acts_317 f_L_acts_343
      refine CR.t rfl (CR.g (s_c4 O2 C2 fun M3 C3 => CR.t (nI_pos' (by omega)) (CR.t ?_ (CR.f (nI_neg (by omega)) (CR.g (s_r0 O2 C3 hn (CR.t ?_ (s_r1 O2 C3 hn (CR.t ?_ (s_r2 O2 C3 hn ?_))))))))))
      · show nI (ruleA w.A a b m p (c - 1) 4) = nI (w.A 4) + 1
        rw [e4, nI_1]
      · show nI (ruleA w.A a b m p (c - 1) (13 + 6 * w.A 4)) = nI a
        rw [i0]
      · show nI (ruleA w.A a b m p (c - 1) (14 + 6 * w.A 4)) = nI b
        rw [i1]
      have rest : WP (gdd (kd 1 = 6) <| obb (f_X5_ruling 1 (nI (w.A 4)) (3 : Int32) M3) fun y1703 => if y1703 = nI p then (obb (f_X5_ruling 1 (nI (w.A 4)) (4 : Int32) M3) fun y1706 => if 0 ≤ (nI c - 2) then (if y1706 = (nI c - 2) then (gdd (kd 1 = 6) <| obb (f_X5_ruling 1 (nI (w.A 4)) (5 : Int32) M3) fun y1803 => if 0 ≤ (nI c - 2) then (obb (f_X5_ruling 1 (nI c - 2) (5 : Int32) M3) fun y1806 => if y1803 = y1806 then (some ((1 : Int32), M3)) else (some ((0 : Int32), M3))) else (if y1803 = (1 : Int32) then (some ((1 : Int32), M3)) else (some ((0 : Int32), M3)))) else (some ((0 : Int32), M3))) else (if y1706 = (-4 : Int32) then (gdd (kd 1 = 6) <| obb (f_X5_ruling 1 (nI (w.A 4)) (5 : Int32) M3) fun y1803 => if 0 ≤ (nI c - 2) then (obb (f_X5_ruling 1 (nI c - 2) (5 : Int32) M3) fun y1806 => if y1803 = y1806 then (some ((1 : Int32), M3)) else (some ((0 : Int32), M3))) else (if y1803 = (1 : Int32) then (some ((1 : Int32), M3)) else (some ((0 : Int32), M3)))) else (some ((0 : Int32), M3)))) else (some ((0 : Int32), M3))) (AQ d w) := by
        refine CR.g (s_r3 O2 C3 hn (CR.t ?_ (s_r4 O2 C3 hn ?_)))
        · show nI (ruleA w.A a b m p (c - 1) (16 + 6 * w.A 4)) = nI p
          rw [i3]
        show WP (if 0 ≤ (nI c - 2) then (if (if ruleA w.A a b m p (c - 1) (17 + 6 * w.A 4) = 0 then (-4 : Int32) else nI (ruleA w.A a b m p (c - 1) (17 + 6 * w.A 4) - 1)) = (nI c - 2) then _ else _) else (if (if ruleA w.A a b m p (c - 1) (17 + 6 * w.A 4) = 0 then (-4 : Int32) else nI (ruleA w.A a b m p (c - 1) (17 + 6 * w.A 4) - 1)) = (-4 : Int32) then _ else _)) _
        rw [i4]
        by_cases c1 : 2 ≤ c
        · have hge := (ci_0 c (by omega)).mpr c1
          have eci : nI c - 2 = nI (c - 2) := by rw [show (2 : Int32) = nI 2 from rfl, pk_sub c1]
          have hlt : c - 2 < w.A 4 := by omega
          refine CR.t hge (CR.t ?_ (CR.g (s_r5 O2 C3 hn (CR.t hge ?_))))
          · rw [if_neg (by omega), eci, show c - 1 - 1 = c - 2 by omega]
          · rw [eci]
            refine s_r5 O2 C3 (show c - 2 < ((keepW w).toA (ruleA w.A a b m p (c - 1))).A 4 by omega) (CR.t ?_ (WP.r C3 ⟨rfl, hS⟩))
            show nI (inF (ruleA w.A a b m p (c - 1)) (w.A 4)).toNat = nI (inF (ruleA w.A a b m p (c - 1)) (c - 2)).toNat
            rw [fF, show (c - 1 == 0) = false from beq_eq_false_iff_ne.mpr (by omega), Bool.false_or, show c - 1 - 1 = c - 2 by omega]
        · have hn0 : ¬ 0 ≤ nI c - 2 := fun q => c1 ((ci_0 c (by omega)).mp q)
          refine CR.f hn0 (CR.t ?_ (CR.g (s_r5 O2 C3 hn (CR.f hn0 (CR.t ?_ (WP.r C3 ⟨rfl, hS⟩))))))
          · rw [if_pos (by omega)]
          · show nI (inF (ruleA w.A a b m p (c - 1)) (w.A 4)).toNat = 1
            rw [fF, show c - 1 = 0 by omega]
            rfl
      show WP (if nI m = 0 then (if nI (ruleA w.A a b m p (c - 1) (15 + 6 * w.A 4)) = (0 : Int32) then _ else _) else (if nI (ruleA w.A a b m p (c - 1) (15 + 6 * w.A 4)) = (1 : Int32) then _ else _)) _
      rw [i2]
      by_cases m0 : m = 0
      · subst m0
        exact CR.t rfl (CR.t rfl rest)
      · have m1 : m = 1 := by omega
        subst m1
        exact CR.f (by decide) (CR.t rfl rest)
    · have ep : opRule (nI a) (nI b) m (nI p) (nI c - 2) w = (-3, w) := by
        unfold opRule
        rw [if_pos hcond, if_neg h9]
      rw [ep] at rr
      have e10 : w.A 4 = 10 := by omega
      exact CR.g (CR.p rr fun M2 C2 => CR.t rfl (CR.t (by rw [e10]; rfl) (no (y := -3) C2 (by decide))))
  · have ep : opRule (nI a) (nI b) m (nI p) (nI c - 2) w = (-1, w) := by
      unfold opRule
      rw [if_neg]
      rintro ⟨⟨⟨-, h1⟩, ⟨-, h2⟩, h3, h4⟩, h5⟩
      have q1 := (nI_leI (a := a) (b := 5) (by omega) (by decide)).mp h1
      have q2 := (nI_leI (a := b) (b := 5) (by omega) (by decide)).mp h2
      have q3 := (nI_leI (a := 1) (b := p) (by decide) (by omega)).mp h3
      have q4 := (nI_leI (a := p) (b := 20) (by omega) (by decide)).mp h4
      exact hbad ⟨by omega, by omega, ⟨q3, q4⟩, cin.mp h5⟩
    rw [ep] at rr
    exact CR.g (CR.p rr fun M2 C2 => CR.f (by decide) (no (y := -1) C2 (by decide)))
theorem p_a123 (hO : OkW w) (hU : Uq w.A) {d a b p c m : Nat} (hd : w.A 0 ≤ d) (ha : a < 7) (hb : b < 7) (hp : p < 22) (hc : c < w.A 4 + 3) (hm : m ≤ 1) {M : Mem} (hC : CI M w) : WP (f_L_acts_123 1 (nI (w.A 4)) (nI a) (nI b) (nI p) (nI c - 2) (nI m) M) (AQ d w) := by
  have h10 := hO.1.m
  have F : ¬ gdA (w.A 4) a b p c → WP (f_L_acts_165 1 (nI (w.A 4)) (nI a) (nI b) (nI p) (nI c - 2) (nI m) M) (AQ d w) := fun q => by
    unfold f_L_acts_165
    exact p_a170 hO hU hd ha hb hp hc hm (Or.inr ⟨rfl, q⟩) hC
  unfold f_L_acts_123
  by_cases h1 : a = 6
  · exact CR.t (by rw [h1]; rfl) (F fun g => by have := g.1; omega)
  refine CR.f (nI_ne (b := 6) (by omega) (by decide) h1) ?_
  by_cases h2 : b = 6
  · exact CR.t (by rw [h2]; rfl) (F fun g => by have := g.2.1; omega)
  refine CR.f (nI_ne (b := 6) (by omega) (by decide) h2) ?_
  by_cases h3 : p = 0
  · exact CR.t (by rw [h3]; rfl) (F fun g => by have := g.2.2.1; omega)
  refine CR.f (nI_ne (b := 0) (by omega) (by decide) h3) ?_
  by_cases h4 : p = 21
  · exact CR.t (by rw [h4]; rfl) (F fun g => by have := g.2.2.1; omega)
  refine CR.f (nI_ne (b := 21) (by omega) (by decide) h4) ?_
  by_cases h5 : c = 0
  · exact CR.t ((ci_m2 c (by omega)).mpr h5) (F fun g => by have := g.2.2.2; omega)
  refine CR.f (fun q => h5 ((ci_m2 c (by omega)).mp q)) ?_
  by_cases h6 : c = w.A 4 + 2
  · exact CR.t ((ci_eq (w.A 4) (by omega) c (by omega)).mpr h6) (F fun g => by have := g.2.2.2; omega)
  refine CR.f (fun q => h6 ((ci_eq (w.A 4) (by omega) c (by omega)).mp q)) ?_
  exact p_a170 hO hU hd ha hb hp hc hm (Or.inl ⟨rfl, by omega, by omega, by omega, by omega, by omega⟩) hC
theorem p_a50 (hO : OkW w) (hU : Uq w.A) {d : Nat} (hd : w.A 0 ≤ d) {x s t : Int32} (hl : ∃ a, a < 7 ∧ f_L_low s t = some (nI a)) {M : Mem} (hC : CI M w) : WP (f_L_acts_50 1 x (nI (w.A 4)) s t M) (AQ d w) := by
  have h10 := hO.1.m
  obtain ⟨a, a1, a2⟩ := hl
  have G : ∀ (s t : Int32), (∃ b, b < 7 ∧ f_L_low s t = some (nI b)) → WP (f_L_acts_76 1 x (nI (w.A 4)) (nI a) s t M) (AQ d w) := by
    intro s t hb
    obtain ⟨b, b1, b2⟩ := hb
    obtain ⟨p, p1, p2⟩ := p_low (x >>> ((6 : Int32) &&& 31)) (n := 22) (by decide) (by decide)
    obtain ⟨c, c1, c2⟩ := p_low (x >>> ((10 : Int32) &&& 31)) (n := w.A 4 + 3) (by omega) (by omega)
    obtain ⟨m, m1, m2⟩ := p_low (x >>> ((9 : Int32) &&& 31)) (n := 2) (by decide) (by decide)
    unfold f_L_acts_76
    refine CR.o b2 (CR.o p2 (CR.o (a := nI c) (by rw [show nI (w.A 4) + (3 : Int32) = nI (w.A 4 + 3) by rw [show (3 : Int32) = nI 3 from rfl, nI_add]]; exact c2) (CR.b (CR.o m2 ?_))))
    by_cases z : nI m = 0
    · exact CR.t z (p_a123 hO hU hd a1 b1 p1 c1 (m := 1) (by omega) hC)
    · exact CR.f z (p_a123 hO hU hd a1 b1 p1 c1 (m := 0) (by omega) hC)
  obtain ⟨e, e1, e2⟩ := p_low (x >>> ((15 : Int32) &&& 31)) (n := 7) (by decide) (by decide)
  obtain ⟨f, f1, f2⟩ := p_low (x >>> ((3 : Int32) &&& 31)) (n := 7) (by decide) (by decide)
  obtain ⟨g, g1, g2⟩ := p_low (x >>> ((3 : Int32) &&& 31)) (n := 5) (by decide) (by decide)
  unfold f_L_acts_50
  refine CR.o a2 (CR.o e2 ?_)
  by_cases z : nI e = 0
  · exact CR.t z (G _ _ ⟨f, f1, f2⟩)
  · exact CR.f z (G _ _ ⟨g, by omega, g2⟩)
theorem p_isb {d : Nat} {x : Option (Int32 × Mem)} (h : WP x (AQ d w)) : WP (opp x fun y M => gdd (isb y = true) <| some (y, M)) (AQ d w) :=
  CR.pq h fun a M2 w1 hq C1 => by
    rw [hq.1]
    exact CR.gd isb_1 (WP.r C1 ⟨rfl, hq.2⟩)
end AC
theorem p_acts {M : Mem} {w : Wd} (hO : OkW w) (hU : Uq w.A) {d : Nat} (hd : w.A 0 + 10 ≤ d) (h31 : d < 2 ^ 31) (hC : CI M w) (x y : Int32) : WP (f_L_acts 1 x y M) (AQ d w) := by
  have h10 := hO.1.m
  have hd0 : w.A 0 ≤ d := by omega
  obtain ⟨h, h1, h2⟩ := p_low x (n := 30) (by decide) (by decide)
  unfold f_L_acts
  refine CR.o h2 (CR.g (s_c4 hO hC fun M2 C2 => ?_))
  by_cases b5 : (5 : Int32) ≤ nI h
  rotate_left 1
  · exact CR.f b5 (p_isb (p_prints hO hU hd0 h31 C2 y))
  refine CR.t b5 ?_
  by_cases b9 : (9 : Int32) ≤ nI h
  rotate_left 1
  · obtain ⟨a, a1, a2⟩ := p_low (y >>> ((14 : Int32) &&& 31)) (n := 7) (by decide) (by decide)
    obtain ⟨b, b1, b2⟩ := p_low y (n := 7) (by decide) (by decide)
    obtain ⟨c, c1, c2⟩ := p_low y (n := 5) (by decide) (by decide)
    refine CR.f b9 (CR.o a2 ?_)
    by_cases z : nI a = 0
    · exact CR.t z (p_a50 hO hU hd0 ⟨b, b1, b2⟩ C2)
    · exact CR.f z (p_a50 hO hU hd0 ⟨c, by omega, c2⟩ C2)
  refine CR.t b9 ?_
  by_cases b11 : (11 : Int32) ≤ nI h
  rotate_left 1
  · obtain ⟨r, r1, r2⟩ := p_low y (n := w.A 4 + 1) (by omega) (by omega)
    refine CR.f b11 (CR.o ((congrArg (f_L_low y) (nI_1 _)).trans r2) (s_c5 hO C2 fun M3 C3 => ?_))
    by_cases q : r = w.A 4
    · exact CR.t (by rw [q]) (p_a393 hO hU hd0 (by omega) (fun z => by omega) C3)
    · exact CR.f (nI_ne (by omega) (by omega) q) (s_r5 hO C3 (by omega) (p_a393 hO hU hd0 (by omega) (fun _ => rfl) C3))
  refine CR.t b11 ?_
  by_cases b23 : (23 : Int32) ≤ nI h
  rotate_left 1
  · refine CR.f b23 ?_
    by_cases b20 : (20 : Int32) ≤ nI h
    · refine CR.t b20 ?_
      by_cases b22 : (22 : Int32) ≤ nI h
      · exact CR.t b22 (p_isb (p_suits hO hU hd0 C2 (Or.inr (Or.inr rfl)) y))
      · exact CR.f b22 (p_isb (p_suits hO hU hd0 C2 (Or.inr (Or.inl rfl)) y))
    · exact CR.f b20 (p_isb (p_suits hO hU hd0 C2 (Or.inl rfl) y))
  refine CR.t b23 ?_
  by_cases e23 : nI h = (23 : Int32)
  · obtain ⟨a, a1, a2⟩ := p_low y (n := 7) (by decide) (by decide)
    obtain ⟨v, v1, v2⟩ := p_low (y >>> ((3 : Int32) &&& 31)) (n := 11) (by decide) (by decide)
    exact CR.t e23 (CR.o a2 (CR.o v2 (p_weight hO hU hd0 a1 v1 C2)))
  refine CR.f e23 ?_
  by_cases b26 : (26 : Int32) ≤ nI h
  rotate_left 1
  · obtain ⟨t, t1, t2⟩ := p_low y (n := 3) (by decide) (by decide)
    obtain ⟨v, v1, v2⟩ := p_low (y >>> ((2 : Int32) &&& 31)) (n := 63) (by decide) (by decide)
    refine CR.f b26 (CR.o t2 (CR.o v2 ?_))
    unfold f_L_acts_650 f_L_acts_678
    by_cases t0 : t = 0
    · subst t0
      refine CR.t rfl ?_
      by_cases q1 : v < 1
      · exact CR.t (lt_n (b := 1) (by omega) (by decide) q1) (p_a683 hO hU hd0 t1 v1 (Or.inr ⟨rfl, by omega⟩) C2)
      · refine CR.f (nlt_n (b := 1) (by omega) (by decide) (by omega)) ?_
        by_cases q2 : v ≤ 30
        · exact CR.t (nI_le' (b := 30) (by omega) (by decide) q2) (p_a683 hO hU hd0 t1 v1 (Or.inl ⟨rfl, by omega⟩) C2)
        · exact CR.f (nI_nle' (b := 30) (by omega) (by decide) (by omega)) (p_a683 hO hU hd0 t1 v1 (Or.inr ⟨rfl, by omega⟩) C2)
    · refine CR.f (nI_ne (b := 0) (by omega) (by decide) t0) ?_
      by_cases t2 : t = 2
      · exact CR.t (by rw [t2]; rfl) (p_a683 hO hU hd0 t1 v1 (Or.inr ⟨rfl, by omega⟩) C2)
      · refine CR.f (nI_ne (b := 2) (by omega) (by decide) t2) ?_
        by_cases q1 : v < 9
        · exact CR.t (lt_n (b := 9) (by omega) (by decide) q1) (p_a683 hO hU hd0 t1 v1 (Or.inr ⟨rfl, by omega⟩) C2)
        · refine CR.f (nlt_n (b := 9) (by omega) (by decide) (by omega)) ?_
          by_cases q2 : v ≤ 60
          · exact CR.t (nI_le' (b := 60) (by omega) (by decide) q2) (p_a683 hO hU hd0 t1 v1 (Or.inl ⟨rfl, by omega⟩) C2)
          · exact CR.f (nI_nle' (b := 60) (by omega) (by decide) (by omega)) (p_a683 hO hU hd0 t1 v1 (Or.inr ⟨rfl, by omega⟩) C2)
  refine CR.t b26 ?_
  by_cases e26 : nI h = (26 : Int32)
  · have O2 := okw_day hO
    have hS : StepW d w (opDay w).2 := st_keep hO O2.1 (uq_lo hO.1 (updN_n (by omega)) (fun k hk => updN_n (by omega)) hU) (by rw [updN_s]; omega)
    refine CR.t e26 (s_c0 hO C2 fun M3 C3 => CR.p (c_day hO C3).cr fun M4 C4 => CR.t (nI_1 _).symm (s_c0 O2 C4 fun M5 C5 => CR.t ?_ (WP.r C5 ⟨rfl, hS⟩)))
    show nI (updN w.A 0 (w.A 0 + 1) 0) = nI (w.A 0) + 1
    rw [updN_s, nI_1]
  · exact CR.f e26 (p_isb (p_pleads hO hU hd C2 y))
