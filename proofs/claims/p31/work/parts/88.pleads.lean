/-! PURE: texts of suits -/
theorem lg_self (x : Int64) : lg_cmp x x = 0 := by simp [lg_cmp]
theorem segN_app {f : Nat → Nat} {s a : Nat} : ∀ b, segN f s (a + b) = segN f s a + segN f (s + a) b
  | 0 => rfl
  | b + 1 => by
    show segN f s (a + b) + f (s + (a + b)) = segN f s a + (segN f (s + a) b + f (s + a + b))
    rw [segN_app b, Nat.add_assoc s a b, Nat.add_assoc]
def smF (P : Nat → Nat) : Nat → Nat := fun i => if P i = 59 then 1 else 0
/-- how many ';' -/
def sc (P : Nat → Nat) (l : Nat) : Nat := segN (smF P) 0 l
theorem sc_app {P : Nat → Nat} {l c : Nat} : sc (updN P l c) (l + 1) = sc P l + (if c = 59 then 1 else 0) := by
  unfold sc
  have cg : ∀ k, k ≤ l → segN (smF (updN P l c)) 0 k = segN (smF P) 0 k := by
    intro k
    induction k with
    | zero => intro _; rfl
    | succ k ih =>
      intro hk
      show segN _ 0 k + smF _ (0 + k) = segN _ 0 k + smF _ (0 + k)
      rw [ih (by omega)]
      unfold smF
      rw [updN_n (by omega)]
  show segN _ 0 l + smF _ (0 + l) = _
  rw [cg l (Nat.le_refl _), Nat.zero_add]
  unfold smF
  rw [updN_s]
theorem part_59 {P : Nat → Nat} {l j : Nat} (h : SuP P l j) : ∀ i, i < prL P l j → ¬ P (j + i) = 59 := by
  obtain ⟨h1, h2, h3⟩ := h
  intro i hi
  unfold prL at hi
  by_cases c : P j = 43
  · rw [if_pos c] at hi
    rw [show i = 0 by omega, Nat.add_zero, c]
    decide
  · obtain ⟨a1, a2, a3, a4⟩ := h2 c
    rw [if_neg c] at hi
    have i4 : i = 0 ∨ i = 1 ∨ i = 2 ∨ i = 3 := by split at hi <;> omega
    rcases i4 with rfl | rfl | rfl | rfl
    · rw [Nat.add_zero]; omega
    · omega
    · omega
    · split at hi
      · rename_i q; omega
      · omega
theorem part_sc {P : Nat → Nat} {l j : Nat} (h : SuP P l j) : segN (smF P) j (prL P l j) = 0 :=
  segN_0 _ (fun i hi => by unfold smF; rw [if_neg (part_59 h i hi)])
theorem prL_1 {P : Nat → Nat} {l j : Nat} : 1 ≤ prL P l j := by
  unfold prL
  split
  · omega
  · split <;> omega
theorem suF_last {P : Nat → Nat} {l : Nat} : ∀ (k j : Nat), l - j < k → suF P (l - j) 0 j = none → ¬ P (l - 1) = 59
  | 0, j, h, _ => by omega
  | k + 1, j, hk, h => by
    obtain ⟨hj, hS⟩ := su_part h
    have p1 := prL_1 (P := P) (l := l) (j := j)
    rcases hS.2.2 with e | ⟨e1, e2, e3⟩
    · have := part_59 hS (prL P l j - 1) (by omega)
      rwa [show j + (prL P l j - 1) = l - 1 by omega] at this
    · exact suF_last k (j + prL P l j + 1) (by omega) e3
theorem doP_n {P : Nat → Nat} {l j : Nat} {A : Nat → Nat} (hO : Ok A) (hU : Uq A) (h : (doP P l A j).2 = none) : Uq (doP P l A j).1 ∧ (doP P l A j).1 5 + (doP P l A j).1 0 = A 5 + A 0 + 1 ∧ A 5 ≤ (doP P l A j).1 5 ∧ A 0 ≤ (doP P l A j).1 0 ∧ (doP P l A j).1 6 = A 6 := by
  unfold doP at h ⊢
  by_cases c : P j = 43
  · rw [if_pos c]
    have e0 : updN A 0 (A 0 + 1) 0 = A 0 + 1 := updN_s
    have e5 : updN A 0 (A 0 + 1) 5 = A 5 := updN_n (by omega)
    have e6 : updN A 0 (A 0 + 1) 6 = A 6 := updN_n (by omega)
    have u : Uq (updN A 0 (A 0 + 1)) := uq_cg hO (updN_n (by omega)) (fun k _ => ⟨updN_n (by omega), updN_n (by omega), fun t _ => updN_n (by omega)⟩) hU
    refine ⟨u, ?_⟩
    show updN A 0 (A 0 + 1) 5 + updN A 0 (A 0 + 1) 0 = A 5 + A 0 + 1 ∧ A 5 ≤ updN A 0 (A 0 + 1) 5 ∧ A 0 ≤ updN A 0 (A 0 + 1) 0 ∧ updN A 0 (A 0 + 1) 6 = A 6
    rw [e0, e5, e6]
    exact ⟨by omega, by omega, by omega, rfl⟩
  · rw [if_neg c] at h ⊢
    by_cases c2 : P j - 48 < A 3 ∧ prG P l j + 1 < A (73 + 16 * (P j - 48))
    · rw [if_pos c2] at h ⊢
      by_cases r : rsnN A (73 + 16 * (P j - 48)) (prG P l j) = 0
      · refine ⟨uq_dec hO c2.1 hU, ?_⟩
        have e0 := (dec_0 (A := A) (e := P j - 48) (g := prG P l j)).1
        have e5 : (decA A (P j - 48) (prG P l j)).2 5 = A 5 + 1 := by rw [dec_g2 r]; exact updN_s
        have e6 : (decA A (P j - 48) (prG P l j)).2 6 = A 6 := by rw [dec_g2 r, updN_n (by omega), updN_n (by omega), updN_n (by omega)]
        show (decA A (P j - 48) (prG P l j)).2 5 + (decA A (P j - 48) (prG P l j)).2 0 = A 5 + A 0 + 1 ∧ A 5 ≤ (decA A (P j - 48) (prG P l j)).2 5 ∧ A 0 ≤ (decA A (P j - 48) (prG P l j)).2 0 ∧ (decA A (P j - 48) (prG P l j)).2 6 = A 6
        rw [e0, e5, e6]
        exact ⟨by omega, by omega, by omega, rfl⟩
      · simp only [if_neg r] at h
        cases h
    · rw [if_neg c2] at h
      cases h
theorem doP_s {P : Nat → Nat} {l j : Nat} {A : Nat → Nat} {v : Int32} (hO : Ok A) (hU : Uq A) (h : (doP P l A j).2 = some v) : Uq (doP P l A j).1 ∧ (doP P l A j).1 5 = A 5 ∧ (doP P l A j).1 0 = A 0 ∧ ((v = -1 ∧ (doP P l A j).1 6 = A 6) ∨ ∃ r, 1 ≤ r ∧ r ≤ 3 ∧ v = nI r ∧ (doP P l A j).1 6 = A 6 + 1) := by
  unfold doP at h ⊢
  by_cases c : P j = 43
  · rw [if_pos c] at h
    cases h
  · rw [if_neg c] at h ⊢
    by_cases c2 : P j - 48 < A 3 ∧ prG P l j + 1 < A (73 + 16 * (P j - 48))
    · rw [if_pos c2] at h ⊢
      by_cases r : rsnN A (73 + 16 * (P j - 48)) (prG P l j) = 0
      · simp only [if_pos r] at h
        cases h
      · simp only [if_neg r] at h
        cases h
        have e0 := (dec_0 (A := A) (e := P j - 48) (g := prG P l j)).1
        have e5 : (decA A (P j - 48) (prG P l j)).2 5 = A 5 := by rw [dec_r2 r, updN_n (by omega)]
        have e6 : (decA A (P j - 48) (prG P l j)).2 6 = A 6 + 1 := by rw [dec_r2 r]; exact updN_s
        have hr := rsnN_lt (A := A) (73 + 16 * (P j - 48)) (prG P l j)
        exact ⟨uq_dec hO c2.1 hU, e5, e0, Or.inr ⟨_, by omega, by omega, rfl, e6⟩⟩
    · rw [if_neg c2] at h ⊢
      cases h
      exact ⟨hU, rfl, rfl, Or.inl ⟨rfl, rfl⟩⟩
/-- what came of the parts from j on -/
def PlR (P : Nat → Nat) (l j n : Nat) (A : Nat → Nat) (x : (Nat → Nat) × Nat × Option (Int32 × Nat)) : Prop :=
  Uq x.1 ∧ A 5 ≤ x.1 5 ∧ A 0 ≤ x.1 0 ∧ n ≤ x.2.1 ∧ x.1 5 + x.1 0 + n = A 5 + A 0 + x.2.1 ∧
  ((x.2.2 = none ∧ x.1 6 = A 6 ∧ x.2.1 = n + 1 + segN (smF P) j (l - j)) ∨
   ∃ v p, x.2.2 = some (v, p) ∧ x.2.1 < n + 1 + segN (smF P) j (l - j) ∧ j + 2 * (x.2.1 - n) ≤ p ∧ p < l ∧ ((v = -1 ∧ x.1 6 = A 6) ∨ ∃ r, 1 ≤ r ∧ r ≤ 3 ∧ v = nI r ∧ x.1 6 = A 6 + 1))
theorem pl_r {P : Nat → Nat} {l : Nat} : ∀ (k j n : Nat) (A : Nat → Nat), l - j < k → suF P (l - j) 0 j = none → Ok A → Uq A → PlR P l j n A (plS P l k j n A) := by
  intro k
  induction k with
  | zero => intro j n A h; omega
  | succ k ih =>
    intro j n A hk h hO hU
    obtain ⟨hj, hS⟩ := su_part h
    have p1 := prL_1 (P := P) (l := l) (j := j)
    have ps := part_sc hS
    rw [plS, if_neg (by omega)]
    cases hd : (doP P l A j).2 with
    | some v =>
      obtain ⟨d1, d2, d3, d4⟩ := doP_s hO hU hd
      refine ⟨d1, by simp only [d2]; omega, by simp only [d3]; omega, Nat.le_refl _, by simp only [d2, d3], Or.inr ⟨v, j, rfl, by simp only; omega, by simp only; omega, hj, d4⟩⟩
    | none =>
      obtain ⟨d1, d2, d3, d4, d5⟩ := doP_n hO hU hd
      simp only
      rcases hS.2.2 with e | ⟨e1, e2, e3⟩
      · obtain ⟨k, rfl⟩ : ∃ m, k = m + 1 := ⟨k - 1, by omega⟩
        rw [plS, if_pos (by omega)]
        have s0 : segN (smF P) j (l - j) = 0 := by rw [show l - j = prL P l j by omega]; exact ps
        exact ⟨d1, d3, d4, by simp only; omega, by simp only; omega, Or.inl ⟨rfl, d5, by simp only; omega⟩⟩
      · have s1 : segN (smF P) j (l - j) = 1 + segN (smF P) (j + prL P l j + 1) (l - (j + prL P l j + 1)) := by
          have a1 := segN_app (f := smF P) (s := j) (a := prL P l j) (1 + (l - (j + prL P l j + 1)))
          have a2 := segN_app (f := smF P) (s := j + prL P l j) (a := 1) (l - (j + prL P l j + 1))
          rw [show prL P l j + (1 + (l - (j + prL P l j + 1))) = l - j by omega] at a1
          have a3 : segN (smF P) (j + prL P l j) 1 = 1 := by
            show 0 + smF P (j + prL P l j + 0) = 1
            unfold smF
            rw [Nat.add_zero, if_pos e2]
          rw [a1, a2, a3, ps, Nat.zero_add]
        obtain ⟨q1, q2, q3, q4, q5, q6⟩ := ih (j + prL P l j + 1) (n + 1) (doP P l A j).1 (by omega) e3 (ok_doP hO) d1
        have b1 : A 5 ≤ (plS P l k (j + prL P l j + 1) (n + 1) (doP P l A j).1).1 5 := Nat.le_trans d3 q2
        have b2 : A 0 ≤ (plS P l k (j + prL P l j + 1) (n + 1) (doP P l A j).1).1 0 := Nat.le_trans d4 q3
        have b3 : n ≤ (plS P l k (j + prL P l j + 1) (n + 1) (doP P l A j).1).2.1 := Nat.le_of_succ_le q4
        refine ⟨q1, b1, b2, b3, ?_, ?_⟩
        · clear q6; omega
        rcases q6 with ⟨r1, r2, r3⟩ | ⟨v, p, r1, r2, r3, r4, r5⟩
        · exact Or.inl ⟨r1, by omega, by omega⟩
        · refine Or.inr ⟨v, p, r1, by omega, by omega, r4, ?_⟩
          rw [d5] at r5
          exact r5
section PL
variable {w : Wd}
theorem lw_0 {w : Wd} (h : w.st = 0) {x : Int32} (hx : 0 ≤ x ∧ x ≤ 2) : lkWhy x w = -4 := by unfold lkWhy; rw [if_pos hx, if_pos h]
theorem lw_1 {w : Wd} (h : w.st = 1) : lkWhy 0 w = w.r ∧ lkWhy 1 w = w.p ∧ lkWhy 2 w = w.c := by
  have z : ¬ w.st = 0 := by omega
  unfold lkWhy
  exact ⟨by rw [if_pos (by decide), if_neg z, if_pos (by decide)], by rw [if_pos (by decide), if_neg z, if_neg (by decide), if_pos (by decide)], by rw [if_pos (by decide), if_neg z, if_neg (by decide), if_neg (by decide)]⟩
theorem keepW_h {w : Wd} : (keepW w).h = if w.h < 4 then w.h + 1 else 4 := by
  unfold keepW
  split <;> rfl
/-- the text stands: now it is read -/
theorem p_pl236 {d l N : Nat} {P : Nat → Nat} (hO : OkW (w.toP l P)) (hU : Uq w.A) (hd : w.A 0 + 10 ≤ d) (hN : N ≤ 10) (H : suF P l 0 0 = none → sc P l + 1 = N) {M : Mem} (hC : CI M (w.toP l P)) : WP (f_L_pleads_236 1 (nI N) 1 M) (AQ d w) := by
  have hl : l ≤ 60 := hO.2.2.2.2.2.1
  have hh : w.h ≤ 4 := hO.2.1
  unfold f_L_pleads_236
  refine CR.p (p_look hO hC) fun M1 C1 => CR.g (s_c14 hO C1 fun M2 C2 => s_c7 hO C2 fun M3 C3 => s_c8 hO C3 fun M4 C4 => s_c0 hO C4 fun M5 C5 => s_c13 hO C5 fun M6 C6 => CR.o (c_fault hO C6 _) ?_)
  rw [show lkFault 1 (w.toP l P) = ftL (suF P l 0 0) from rfl]
  have r := (c_plead hO C6).cr
  have O2 := okw_plead hO
  cases hs : suF P l 0 0 with
  | some t =>
    have ht : t ≤ 0 + l := suF_lt _ _ _ hs
    have ep : opPlead (w.toP l P) = (-2, w.toP l P) := by
      unfold opPlead
      rw [show suQ (w.toP l P) = some t from hs]
    rw [ep] at r
    refine CR.p r fun M7 C7 => s_clear hO C7 fun M8 O8 C8 => CR.f (by decide) (CR.t rfl ?_)
    unfold f_L_pleads_317 f_L_pleads_329 f_L_pleads_337
    refine CR.f ?_ (CR.t rfl (CR.f (show ¬ (0 : Int32) ≤ -2 by decide) (CR.f (by decide) (CR.f (nI_neg (by omega)) (CR.f (nlt_n (a := l) (b := t) (by omega) (by omega) (by omega)) (CR.t rfl (CR.p (p_look O8 C8) fun M9 C9 => CR.t (lg_self _) (CR.g (s_c14 O8 C9 fun M10 C10 => CR.t rfl (WP.r C10 ⟨rfl, O8, rfl, rfl, Or.inl ⟨rfl, rfl, rfl⟩⟩))))))))))
    intro z
    have h1 : (-4 : Int32) < 0 := by decide
    rw [← z] at h1
    exact absurd h1 (nI_neg (by omega))
  | none =>
    have hsc := H hs
    have hp := pl_r (P := P) (l := l) (l + 1) 0 0 w.A (by omega) hs hO.1 hU
    have ep : opPlead (w.toP l P) = (nI (plS P l (l + 1) 0 0 w.A).2.1, plW (keepW (w.toP l P)) (plS P l (l + 1) 0 0 w.A)) := by
      unfold opPlead
      rw [show suQ (w.toP l P) = none from hs]
      rfl
    rw [ep] at r O2
    obtain ⟨A2, cn, rs, hx⟩ : ∃ A2 cn rs, plS P l (l + 1) 0 0 w.A = (A2, cn, rs) := ⟨_, _, _, rfl⟩
    rw [hx] at hp r O2
    obtain ⟨q1, q2, q3, q4, q5, q6⟩ := hp
    simp only at q1 q2 q3 q4 q5 q6
    have r : CR (f_X5_plead 1 M6) (nI cn) (plW (keepW (w.toP l P)) (A2, cn, rs)) := r
    have O2 : OkW (plW (keepW (w.toP l P)) (A2, cn, rs)) := O2
    have hcN : cn ≤ N := by
      unfold sc at hsc
      rw [Nat.sub_zero] at q6
      rcases q6 with ⟨r1, r2, r3⟩ | ⟨v, p, r1, r2, r3, r4, r5⟩ <;> omega
    -- the world behind it
    obtain ⟨w2, hw2⟩ : ∃ w2, plW (keepW (w.toP l P)) (A2, cn, rs) = w2 := ⟨_, rfl⟩
    rw [hw2] at r O2
    have F : w2.A = A2 ∧ w2.h = (keepW (w.toP l P)).h ∧ w2.B = (keepW (w.toP l P)).B ∧ w2.sv = w.sv ∧ w2.K = w.K ∧ w2.l = 0 := by
      subst hw2
      unfold plW
      cases rs with
      | none => exact ⟨rfl, rfl, rfl, keepW_sv (w.toP l P), keepW_K (w.toP l P), rfl⟩
      | some z => exact ⟨rfl, rfl, rfl, keepW_sv (w.toP l P), keepW_K (w.toP l P), rfl⟩
    obtain ⟨f1, f2, f3, f4, f5, f6⟩ := F
    refine CR.p r fun M7 C7 => s_clear O2 C7 fun M8 O8 C8 => CR.f (by decide) (CR.f ?_ ?_)
    · intro z
      have h1 : (-2 : Int32) < 0 := by decide
      rw [← z] at h1
      exact absurd h1 (nI_neg (by omega))
    have hS : StepW d w (w2.toP 0 w2.P) := (StepW.ofP (l := l) (P := P) (w := w) ⟨O8, f4, f5, Or.inr ⟨f2, f3, by show Uq w2.A; rw [f1]; exact q1, by show w2.A 0 ≤ d; rw [f1]; omega⟩⟩)
    have e5 : w2.A 5 = A2 5 := by rw [f1]
    have e0 : w2.A 0 = A2 0 := by rw [f1]
    have e6 : w2.A 6 = A2 6 := by rw [f1]
    have hkh : w2.h = if w.h < 4 then w.h + 1 else 4 := f2.trans keepW_h
    rw [f6]
    unfold f_L_pleads_317 f_L_pleads_329 f_L_pleads_337
    refine CR.t rfl (CR.t rfl (CR.t (nI_pos' (by omega)) (CR.g (CR.o (c_why O8 C8 _) (CR.f (by decide) (CR.f (nlt_n (by omega) (by omega) hcN) (CR.t rfl (s_c14 O8 C8 fun M9 C9 => ?_))))))))
    -- behind the history's length
    have G : ∀ (M : Mem), CI M (w2.toP 0 w2.P) → WP (f_L_pleads_438 1 (nI N) (nI (w.A 5)) (nI (w.A 6)) (nI (w.A 0)) (nI l) (nI cn) (lkWhy 0 (w2.toP 0 w2.P)) (nI w2.h) (nI w2.h) M) (AQ d w) := by
      intro M hC
      unfold f_L_pleads_438 f_L_pleads_482
      refine CR.t rfl (CR.g (s_c7 O8 hC fun M10 C10 => s_c0 O8 C10 fun M11 C11 => CR.t ?_ (s_c8 O8 C11 fun M12 C12 => ?_)))
      · show nI (w2.A 5) - nI (w.A 5) + nI (w2.A 0) - nI (w.A 0) = nI cn
        rw [e5, e0, pk_sub q2, nI_add, pk_sub (by omega)]
        exact congrArg nI (by omega)
      rcases q6 with ⟨r1, r2, r3⟩ | ⟨v, p, r1, r2, r3, r4, r5⟩
      · have hst : (w2.toP 0 w2.P).st = 0 := by
          subst hw2
          rw [r1]
          rfl
        have hN2 : cn = N := by
          unfold sc at hsc
          rw [Nat.sub_zero] at r3
          omega
        rw [lw_0 hst (by decide)]
        refine CR.t (by decide) (CR.t ?_ (CR.t (by rw [hN2]) ?_))
        · show nI (w2.A 6) = nI (w.A 6) + 0
          rw [e6, r2, Int32.add_zero]
        unfold f_L_pleads_497 f_L_pleads_509
        exact CR.t rfl (CR.t rfl (CR.t rfl (WP.r C12 ⟨rfl, hS⟩)))
      · have hy : (w2.toP 0 w2.P).st = 1 ∧ (w2.toP 0 w2.P).r = v ∧ (w2.toP 0 w2.P).p = nI cn ∧ (w2.toP 0 w2.P).c = nI p := by
          subst hw2
          rw [r1]
          exact ⟨rfl, rfl, rfl, rfl⟩
        obtain ⟨y1, y2, y3⟩ := lw_1 hy.1
        rw [hy.2.1] at y1
        rw [hy.2.2.1] at y2
        rw [hy.2.2.2] at y3
        have hN2 : ¬ cn = N := by
          unfold sc at hsc
          rw [Nat.sub_zero] at r2
          omega
        have E : ∀ M, CI M (w2.toP 0 w2.P) → WP (f_L_pleads_537 1 (nI l) (nI cn) M) (AQ d w) := by
          intro M hC
          unfold f_L_pleads_537
          refine CR.g (CR.o (c_why O8 hC _) (CR.t y2 (CR.o (c_why O8 hC _) (CR.f ?_ (CR.o (c_why O8 hC _) (CR.f ?_ (WP.r hC ⟨rfl, hS⟩)))))))
          · rw [y3, show (2 : Int32) = nI 2 from rfl, pk_mul]
            exact nlt_n (by omega) (by omega) (by omega)
          · rw [y3]
            exact nI_nle' (by omega) (by omega) r4
        have nN : ¬ nI cn = nI N := nI_ne (by omega) (by omega) hN2
        rw [y1]
        rcases r5 with ⟨rfl, s2⟩ | ⟨r, s1, s2, rfl, s4⟩
        · refine CR.t (by decide) (CR.t ?_ (CR.f nN ?_))
          · show nI (w2.A 6) = nI (w.A 6) + 0
            rw [e6, s2, Int32.add_zero]
          unfold f_L_pleads_497 f_L_pleads_509
          exact CR.f (by decide) (CR.t rfl (CR.f (by decide) (CR.t rfl (E M12 C12))))
        · have n4 : ¬ nI r = -4 := by
            intro z
            have h1 : (-4 : Int32) < 0 := by decide
            rw [← z] at h1
            exact absurd h1 (nI_neg (by omega))
          have n1 : ¬ nI r = -1 := by
            intro z
            have h1 : (-1 : Int32) < 0 := by decide
            rw [← z] at h1
            exact absurd h1 (nI_neg (by omega))
          refine CR.f (nI_nle' (b := 0) (by omega) (by decide) (by omega)) (CR.t ?_ (CR.f nN ?_))
          · show nI (w2.A 6) = nI (w.A 6) + 1
            rw [e6, s4, nI_1]
          unfold f_L_pleads_497 f_L_pleads_509
          exact CR.f n4 (CR.t rfl (CR.f n4 (CR.f n1 (CR.f (nlt_n (b := 1) (by omega) (by decide) s1) (CR.f (nlt_n (a := 3) (by decide) (by omega) s2) (E M12 C12))))))
    by_cases h4 : w.h < 4
    · rw [if_pos h4] at hkh
      have g := G M9 C9
      rw [hkh] at g
      refine CR.f (nI_nle' (a := 4) (by decide) (show w.h < 2 ^ 31 by omega) h4) ?_
      show WP (f_L_pleads_438 1 (nI N) (nI (w.A 5)) (nI (w.A 6)) (nI (w.A 0)) (nI l) (nI cn) (lkWhy 0 (w2.toP 0 w2.P)) (nI w2.h) (nI w.h + 1) M9) (AQ d w)
      rw [hkh, nI_1]
      exact g
    · rw [if_neg h4] at hkh
      have g := G M9 C9
      rw [hkh] at g
      refine CR.t (nI_le' (a := 4) (b := w.h) (by decide) (by omega) (by omega)) ?_
      show WP (f_L_pleads_438 1 (nI N) (nI (w.A 5)) (nI (w.A 6)) (nI (w.A 0)) (nI l) (nI cn) (lkWhy 0 (w2.toP 0 w2.P)) (nI w2.h) 4 M9) (AQ d w)
      rw [hkh]
      exact g
abbrev K23 := Nat → Int32 → Int32 → Int32 → Int32 → Mem → Option (Int32 × Mem)
theorem p_pl194 {k23 : K23} {x1 x2 : Int32} {k : Nat} {M : Mem} {Q : Int32 → Wd → Prop} (h : WP (k23 1 x1 x2 1 (nI (k + 1)) M) Q) : WP (f_L_pleads_194 k23 1 x1 x2 (nI k) M) Q := by
  unfold f_L_pleads_194 f_L_pleads_199
  exact CR.be (nI_1 k) h
theorem p_pl179 {k23 : K23} {x1 x2 : Int32} {k l g : Nat} {P : Nat → Nat} {M : Mem} {Q : Int32 → Wd → Prop} (hg : g < 12) (hl : l < 60) (hO : OkW (w.toP l P)) (hC : CI M (w.toP l P)) (h : ∀ c M2, c ≠ 59 → OkW (w.toP (l + 1) (updN P l c)) → CI M2 (w.toP (l + 1) (updN P l c)) → WP (k23 1 x1 x2 1 (nI (k + 1)) M2) Q) : WP (f_L_pleads_179 k23 1 x1 x2 (nI k) (nI g) M) Q := by
  unfold f_L_pleads_179
  rw [show (48 : Int32) + (nI g - nI g / (10 : Int32) * (10 : Int32)) = nI (48 + g % 10) by rw [show (10 : Int32) = nI 10 from rfl, pk_rem (by omega) (by decide) (by decide), show (48 : Int32) = nI 48 from rfl, nI_add]]
  exact CR.g (s_app hO hl (by omega) hC fun M2 O2 C2 => CR.f (nI_nle' (b := 0) (by omega) (by decide) (by omega)) (p_pl194 (h _ M2 (by omega) O2 C2)))
/-- from a part's beginning to the next part -/
theorem p_pl83 {k23 : K23} {x1 x2 x5 : Int32} {k l g : Nat} {P : Nat → Nat} {M : Mem} {Q : Int32 → Wd → Prop} (h4 : w.A 3 ≤ 4) (hg : g < 12) (hk : k < 10) (hl : l ≤ 5 * k + 1) (hs : sc P l = k) (hO : OkW (w.toP l P)) (hC : CI M (w.toP l P))
    (h : ∀ l2 P2 M2, l2 ≤ 5 * (k + 1) → sc P2 l2 = k → OkW (w.toP l2 P2) → CI M2 (w.toP l2 P2) → WP (k23 1 x1 x2 1 (nI (k + 1)) M2) Q) : WP (f_L_pleads_83 k23 1 x1 x2 (nI k) x5 (nI g) M) Q := by
  have nx : ∀ {P : Nat → Nat} {l c : Nat}, sc P l = k → c ≠ 59 → sc (updN P l c) (l + 1) = k := fun h1 h2 => by rw [sc_app, if_neg h2, h1, Nat.add_zero]
  have E : ∀ (s t : Int32) (M : Mem), (∃ e, e < 5 ∧ f_L_low s t = some (nI e)) → CI M (w.toP l P) → WP (f_L_pleads_144 k23 1 x1 x2 (nI k) (nI g) 1 48 s t M) Q := by
    intro s t M he hC
    obtain ⟨e, e1, e2⟩ := he
    unfold f_L_pleads_144
    refine CR.o e2 (CR.g ?_)
    rw [show (48 : Int32) + nI e = nI (48 + e) by rw [show (48 : Int32) = nI 48 from rfl, nI_add]]
    refine s_app hO (by omega) (by omega) hC fun M2 O2 C2 => CR.f (nI_nle' (b := 0) (by omega) (by decide) (by omega)) (CR.g (s_app (c := 58) O2 (by omega) (by omega) C2 fun M3 O3 C3 => CR.f (nI_nle' (b := 0) (by omega) (by decide) (by omega)) ?_))
    by_cases q : g < 10
    · exact CR.t (lt_n (b := 10) (by omega) (by decide) q) (p_pl179 hg (by omega) O3 C3 fun c M4 hc O4 C4 => h _ _ M4 (by omega) (nx (nx (nx hs (by omega)) (by omega)) hc) O4 C4)
    · exact CR.f (nlt_n (b := 10) (by omega) (by decide) (by omega)) (s_app (c := 49) O3 (by omega) (by omega) C3 fun M4 O4 C4 => CR.f (nI_nle' (b := 0) (by omega) (by decide) (by omega)) (p_pl179 hg (by omega) O4 C4 fun c M5 hc O5 C5 => h _ _ M5 (by omega) (nx (nx (nx (nx hs (by omega)) (by omega)) (by omega)) hc) O5 C5))
  obtain ⟨a, a1, a2⟩ := p_low x5 (n := 5) (by decide) (by decide)
  obtain ⟨b, b1, b2⟩ := p_low (x1 >>> ((23 : Int32) &&& 31)) (n := 9) (by decide) (by decide)
  obtain ⟨c, c1, c2⟩ := p_low (x5 >>> ((2 : Int32) &&& 31)) (n := 5) (by decide) (by decide)
  obtain ⟨d, d1, d2⟩ := p_low (x5 >>> ((2 : Int32) &&& 31)) (n := 1) (by decide) (by decide)
  unfold f_L_pleads_83
  refine CR.o a2 ?_
  by_cases z : nI a = 0
  · exact CR.t z (CR.g (s_app (c := 43) hO (by omega) (by omega) hC fun M2 O2 C2 => CR.f (nI_nle' (b := 0) (by omega) (by decide) (by omega)) (p_pl194 (h _ _ M2 (by omega) (nx hs (by omega)) O2 C2))))
  · refine CR.f z (CR.o b2 ?_)
    by_cases z2 : nI b = 0
    · exact CR.t z2 (E _ _ M ⟨c, c1, c2⟩ hC)
    · refine CR.f z2 (CR.g (s_c1 hO hC fun M2 C2 => ?_))
      by_cases z3 : w.A 3 = 0
      · exact CR.t (by show nI (w.A 3) = 0; rw [z3]; rfl) (E _ _ M2 ⟨d, by omega, d2⟩ C2)
      · obtain ⟨e, e1, e2⟩ := p_low (x5 >>> ((2 : Int32) &&& 31)) (n := w.A 3) (by omega) (by omega)
        exact CR.f (fun q => z3 ((nI_z (by omega)).mp q)) (s_c1 hO C2 fun M3 C3 => E _ _ M3 ⟨e, by omega, e2⟩ C3)
theorem p_pl60 {k23 : K23} {x1 x2 x5 s t : Int32} {k l : Nat} {P : Nat → Nat} {M : Mem} {Q : Int32 → Wd → Prop} (h4 : w.A 3 ≤ 4) (hg : ∃ g, g < 12 ∧ f_L_low s t = some (nI g)) (hk : k < 10) (hl : l ≤ 5 * k) (hs : sc P l = k - 1) (hO : OkW (w.toP l P)) (hC : CI M (w.toP l P))
    (h : ∀ l2 P2 M2, l2 ≤ 5 * (k + 1) → sc P2 l2 = k → OkW (w.toP l2 P2) → CI M2 (w.toP l2 P2) → WP (k23 1 x1 x2 1 (nI (k + 1)) M2) Q) : WP (f_L_pleads_60 k23 1 x1 x2 1 (nI k) x5 s t M) Q := by
  obtain ⟨g, g1, g2⟩ := hg
  unfold f_L_pleads_60
  refine CR.o g2 (CR.f (by decide) ?_)
  by_cases z : k = 0
  · subst z
    exact CR.t rfl (p_pl83 h4 g1 hk (by omega) hs hO hC h)
  · exact CR.f (fun q => z ((nI_z (by omega)).mp q)) (CR.g (s_app (c := 59) hO (by omega) (by omega) hC fun M2 O2 C2 => CR.f (nI_nle' (b := 0) (by omega) (by decide) (by omega)) (p_pl83 h4 g1 hk (by omega) (by rw [sc_app, if_pos rfl, hs]; omega) O2 C2 h)))
theorem p_pl23 {d N : Nat} {x1 : Int32} (hU : Uq w.A) (h4 : w.A 3 ≤ 4) (hd : w.A 0 + 10 ≤ d) (hN : N ≤ 10) : ∀ (n k l : Nat) (P : Nat → Nat) (M : Mem), k ≤ N → N - k < n → l ≤ 5 * k → sc P l = k - 1 → OkW (w.toP l P) → CI M (w.toP l P) → WP (f_L_pleads_23 n 1 x1 (nI N) 1 (nI k) M) (AQ d w) := by
  intro n
  induction n with
  | zero => intro k _ _ _ _ h; omega
  | succ n ih =>
    intro k l P M hk hn hl hs hO hC
    rw [f_L_pleads_23]
    by_cases e : k = N
    · subst e
      obtain ⟨r, r1, r2⟩ := p_low (x1 >>> ((26 : Int32) &&& 31)) (n := 7) (by decide) (by decide)
      refine CR.t (nI_le' (by omega) (by omega) (by omega)) (CR.f (by decide) (CR.o r2 ?_))
      unfold f_L_pleads_231
      by_cases z : 0 < nI r
      · refine CR.t z (p_pl236 hO hU hd hN (fun h => ?_) hC)
        have h0 := (su_part (P := P) (l := l) (j := 0) (by rw [Nat.sub_zero]; exact h)).1
        omega
      · refine CR.f z (CR.g (s_app (c := 59) hO (by omega) (by omega) hC fun M2 O2 C2 => CR.f (nI_nle' (b := 0) (by omega) (by decide) (by omega)) (p_pl236 O2 hU hd hN (fun h => ?_) C2)))
        exact absurd (show updN P l 59 (l + 1 - 1) = 59 by rw [Nat.add_sub_cancel]; exact updN_s) (suF_last (l + 1 + 1) 0 (by omega) (by rw [Nat.sub_zero]; exact h))
    · obtain ⟨a, a1, a2⟩ := p_low (x1 >>> ((22 : Int32) &&& 31)) (n := 5) (by decide) (by decide)
      refine CR.f (nI_nle' (by omega) (by omega) (by omega)) (CR.b (CR.o a2 ?_))
      have nx := fun (l2 : Nat) (P2 : Nat → Nat) (M2 : Mem) (h1 : l2 ≤ 5 * (k + 1)) (h2 : sc P2 l2 = k) (h3 : OkW (w.toP l2 P2)) (h4 : CI M2 (w.toP l2 P2)) => ih (k + 1) l2 P2 M2 (by omega) (by omega) h1 (by rw [h2]; omega) h3 h4
      have L : ∀ (s t : Int32), (∃ g, g < 12 ∧ f_L_low s t = some (nI g)) → WP (f_L_pleads_60 (f_L_pleads_23 n) 1 x1 (nI N) 1 (nI k) (x1 >>> (((1 : Int32) + (2 : Int32) * nI k) &&& 31)) s t M) (AQ d w) := fun s t hg => p_pl60 h4 hg (by omega) hl hs hO hC nx
      obtain ⟨b, b1, b2⟩ := p_low ((x1 >>> (((1 : Int32) + (2 : Int32) * nI k) &&& 31)) >>> ((4 : Int32) &&& 31)) (n := 12) (by decide) (by decide)
      obtain ⟨c, c1, c2⟩ := p_low ((x1 >>> (((1 : Int32) + (2 : Int32) * nI k) &&& 31)) >>> ((4 : Int32) &&& 31)) (n := 5) (by decide) (by decide)
      by_cases z : nI a = 0
      · exact CR.t z (L _ _ ⟨b, b1, b2⟩)
      · exact CR.f z (L _ _ ⟨c, by omega, c2⟩)
end PL
theorem p_pleads {M : Mem} {w : Wd} (hO : OkW w) (hU : Uq w.A) {d : Nat} (hd : w.A 0 + 10 ≤ d) (hC : CI M w) (x : Int32) : WP (f_L_pleads 1 x M) (AQ d w) := by
  have hl := hO.2.2.2.2.2.1
  obtain ⟨N, n1, n2⟩ := p_low x (n := 11) (by decide) (by decide)
  unfold f_L_pleads f_L_pleads_19
  exact CR.o n2 (CR.g (s_clear hO hC fun M2 O2 C2 => CR.f (nI_neg (by omega)) (p_pl23 hU hO.1.n hd (by omega) FU 0 0 w.P M2 (by omega) (by unfold FU; omega) (by omega) rfl O2 C2)))
