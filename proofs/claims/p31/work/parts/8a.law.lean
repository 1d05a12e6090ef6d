/-! PURE: the law's own loop -/
def Inv (d : Nat) (w : Wd) : Prop := OkW w ∧ w.sv = 1 ∧ (Uq w.A ∧ w.A 0 ≤ d) ∧ (∀ i, i < w.h → Uq (w.B i) ∧ w.B i 0 ≤ d) ∧ Uq w.K ∧ w.K 0 ≤ d
theorem inv_hist {d : Nat} {w : Wd} (hh : w.h ≤ 4) (hA : Uq w.A ∧ w.A 0 ≤ d) (hB : ∀ i, i < w.h → Uq (w.B i) ∧ w.B i 0 ≤ d) : ∀ i, i < (keepW w).h → Uq ((keepW w).B i) ∧ (keepW w).B i 0 ≤ d := by
  intro i hi
  unfold keepW at hi ⊢
  by_cases h : w.h < 4
  · rw [if_pos h] at hi ⊢
    have hi2 : i < w.h + 1 := hi
    show Uq (upB w.B w.h w.A i) ∧ upB w.B w.h w.A i 0 ≤ d
    unfold upB
    by_cases e : i = w.h
    · rw [if_pos e]; exact hA
    · rw [if_neg e]; exact hB i (by omega)
  · rw [if_neg h] at hi ⊢
    have hi2 : i < 4 := hi
    show Uq (upB (fun i => w.B (i + 1)) 3 w.A i) ∧ upB (fun i => w.B (i + 1)) 3 w.A i 0 ≤ d
    unfold upB
    by_cases e : i = 3
    · rw [if_pos e]; exact hA
    · rw [if_neg e]; exact hB (i + 1) (by omega)
theorem inv_step {d d2 : Nat} {w w2 : Wd} (hI : Inv d w) (hS : StepW d2 w w2) (hd : d ≤ d2) : Inv d2 w2 := by
  obtain ⟨i1, i2, i3, i4, i5, i6⟩ := hI
  obtain ⟨s1, s2, s3, s4⟩ := hS
  have A2 : Uq w.A ∧ w.A 0 ≤ d2 := ⟨i3.1, by omega⟩
  have B2 : ∀ i, i < w.h → Uq (w.B i) ∧ w.B i 0 ≤ d2 := fun i hi => ⟨(i4 i hi).1, Nat.le_trans (i4 i hi).2 hd⟩
  refine ⟨s1, s2.trans i2, ?_, ?_, by rw [s3]; exact i5, by rw [s3]; omega⟩
  · rcases s4 with ⟨h1, h2, h3⟩ | ⟨h1, h2, h3, h4⟩
    · rw [h1]; exact A2
    · exact ⟨h3, h4⟩
  · rcases s4 with ⟨h1, h2, h3⟩ | ⟨h1, h2, h3, h4⟩
    · rw [h2, h3]; exact B2
    · rw [h1, h2]; exact inv_hist i1.2.1 A2 B2
theorem undo_w {w : Wd} (h : ¬ w.h = 0) : opUndo w = (nI (w.h - 1), (w.toA (w.B (w.h - 1))).toH (w.h - 1) w.B) := by unfold opUndo; rw [if_neg h]
theorem inv_undo {d : Nat} {w : Wd} (hI : Inv d w) : Inv d (opUndo w).2 := by
  obtain ⟨i1, i2, i3, i4, i5, i6⟩ := hI
  have o := okw_undo i1
  by_cases h : w.h = 0
  · have e : opUndo w = (-2, w) := by unfold opUndo; rw [if_pos h]
    rw [e]
    exact ⟨i1, i2, i3, i4, i5, i6⟩
  · rw [undo_w h] at o ⊢
    refine ⟨o, i2, i4 (w.h - 1) (by omega), fun i hi => ?_, i5, i6⟩
    have hi2 : i < w.h - 1 := hi
    exact i4 i (by omega)
theorem inv_save {d : Nat} {w : Wd} (hI : Inv d w) : Inv d (opSave w).2 := by
  obtain ⟨i1, i2, i3, i4, i5, i6⟩ := hI
  exact ⟨okw_save i1, rfl, i3, i4, i3.1, i3.2⟩
theorem inv_restore {d : Nat} {w : Wd} (hI : Inv d w) : opRestore w = (nI (w.K 3), (keepW w).toA w.K) ∧ Inv d ((keepW w).toA w.K) := by
  obtain ⟨i1, i2, i3, i4, i5, i6⟩ := hI
  have e : opRestore w = (nI (w.K 3), (keepW w).toA w.K) := by unfold opRestore; rw [if_neg (by omega)]
  have o := okw_restore i1
  rw [e] at o
  exact ⟨e, o, (keepW_sv w).trans i2, ⟨i5, i6⟩, inv_hist i1.2.1 i3 i4, by rw [show ((keepW w).toA w.K).K = w.K from keepW_K w]; exact i5, by rw [show ((keepW w).toA w.K).K = w.K from keepW_K w]; exact i6⟩
theorem p_lot {L : Nat} {xs : Nat → Int32} (hL : L ≤ 260) {k : Nat} (hk : k < 2 ^ 31) : ∃ r, f_L_lot L xs (nI k) = some r := by
  unfold f_L_lot
  by_cases h : L ≤ k
  · exact ⟨_, if_pos (nI_le' (by omega) (by omega) h)⟩
  · rw [if_neg (nI_nle' (by omega) (by omega) (by omega)), gdd_t (inb_nI (by omega) (by omega))]
    exact ⟨_, rfl⟩
abbrev K62 := Nat → Int32 → Int64 → Int32 → Mem → Option (Int32 × Mem)
abbrev Q1 : Int32 → Wd → Prop := fun a _ => a = 1
section LW
variable {L : Nat} {xs : Nat → Int32} {n d : Nat}
theorem p_l385 {k62 : K62} {l : Int64} {M : Mem} (h : WP (k62 1 1 l (nI (n + 1)) M) Q1) : WP (f_L_law_385 L xs k62 1 1 l (nI n) M) Q1 := by
  unfold f_L_law_385
  exact CR.be (nI_1 n) h
/-- what the loop asks of the next turn -/
def Nx (d n : Nat) (k62 : K62) : Prop := ∀ (w : Wd) (M : Mem), Inv d w → CI M w → WP (k62 1 1 (lookA w.K) (nI (n + 1)) M) Q1
theorem p_l336 {k62 : K62} (hk : Nx d n k62) {w : Wd} (hI : Inv d w) {M : Mem} (hC : CI M w) : WP (f_L_law_336 L xs k62 1 1 (lookA w.K) (nI n) M) Q1 := by
  have hO := hI.1
  have hh : w.h ≤ 4 := hO.2.1
  unfold f_L_law_336
  refine CR.f (by decide) ?_
  by_cases h : nI n - nI n / (11 : Int32) * (11 : Int32) = 10
  · refine CR.t h (CR.g (s_c14 hO hC fun M2 C2 => ?_))
    have r := (c_undo hO C2).cr
    have I2 := inv_undo hI
    unfold f_L_law_376 f_L_law_384
    by_cases z : w.h = 0
    · have e : opUndo w = (-2, w) := by unfold opUndo; rw [if_pos z]
      rw [e] at r I2
      exact CR.p r fun M3 C3 => CR.t (by rw [z]; rfl) (CR.t rfl (p_l385 (hk w M3 I2 C3)))
    · rw [undo_w z] at r I2
      exact CR.p r fun M3 C3 => CR.f (nI_ne (b := 0) (by omega) (by decide) z) (CR.t (nI_sub1 (by omega)).symm (p_l385 (hk ((w.toA (w.B (w.h - 1))).toH (w.h - 1) w.B) M3 I2 C3)))
  · exact CR.f h (p_l385 (hk w M hI hC))
theorem p_l267 {k62 : K62} (hk : Nx d n k62) {w : Wd} (hI : Inv d w) {M : Mem} (hC : CI M w) : WP (f_L_law_267 L xs k62 1 1 (lookA w.K) (nI n) M) Q1 := by
  unfold f_L_law_267
  refine CR.f (by decide) ?_
  by_cases h : nI n - nI n / (15 : Int32) * (15 : Int32) = 14
  · obtain ⟨er, I2⟩ := inv_restore hI
    have r := (c_restore hI.1 hC).cr
    rw [er] at r
    have hh2 : ¬ ((keepW w).toA w.K).h = 0 := by
      show ¬ (keepW w).h = 0
      rw [keepW_h]
      split <;> omega
    have I3 := inv_undo I2
    have h4 : ((keepW w).toA w.K).h ≤ 4 := I2.1.2.1
    refine CR.t h (CR.g (CR.p r fun M2 C2 => s_c1 I2.1 C2 fun M3 C3 => CR.t rfl (CR.p (p_look I2.1 C3) fun M4 C4 => CR.t (lg_self _) ?_)))
    have r2 := (c_undo I2.1 C4).cr
    rw [undo_w hh2] at r2 I3
    have I4 := inv_save I3
    refine CR.p r2 fun M5 C5 => CR.f (nI_neg (by omega)) (CR.p (c_save I3.1 C5).cr fun M6 C6 => s_c1 I4.1 C6 fun M7 C7 => CR.t rfl ?_)
    unfold f_L_law_330
    exact CR.p (p_look I4.1 C7) fun M8 C8 => p_l336 hk I4 C8
  · exact CR.f h (p_l336 hk hI hC)
/-- behind the act: what it did is seen in the history's length -/
theorem p_l166 {k62 : K62} {d0 : Nat} (hk : Nx d n k62) {w w1 : Wd} (hI : Inv d0 w) (hd : d0 ≤ d) (hS : StepW d w w1) {y : Int32} {M : Mem} (hC : CI M w1) : WP (f_L_law_166 L xs k62 1 (lookA w.K) (nI n) y (lookA w.A) (nI w.h) 1 M) Q1 := by
  have I1 := inv_step hI hS hd
  have hh : w.h ≤ 4 := hI.1.2.1
  have hh1 : w1.h ≤ 4 := I1.1.2.1
  have eK : w1.K = w.K := hS.2.2.1
  have go : ∀ (w2 : Wd) (M : Mem), Inv d w2 → w2.K = w.K → CI M w2 → WP (f_L_law_267 L xs k62 1 1 (lookA w.K) (nI n) M) Q1 := fun w2 M h1 h2 h3 => by
    rw [← h2]; exact p_l267 hk h1 h3
  have G : ∀ (M : Mem), CI M w1 → WP (f_L_law_211 L xs k62 1 (lookA w.K) (nI n) y (lookA w.A) (nI w.h) (nI w1.h) M) Q1 := by
    intro M hC
    unfold f_L_law_211 f_L_law_216
    refine CR.f (by decide) ?_
    by_cases e : w1.h = w.h + 1
    · obtain ⟨a, a1, a2⟩ := p_low (y >>> ((8 : Int32) &&& 31)) (n := 3) (by decide) (by decide)
      refine CR.t (by rw [e, nI_1]) (CR.o a2 ?_)
      by_cases z : nI a = 0
      · have hB : w1.B w.h = w.A := by
          rcases hS.2.2.2 with ⟨h1, h2, h3⟩ | ⟨h1, h2, h3, h4⟩
          · omega
          · rw [h2]
            have h5 := h1
            rw [keepW_h] at h5
            have h4' : w.h < 4 := by
              by_cases q : w.h < 4
              · exact q
              · rw [if_neg q] at h5; omega
            unfold keepW
            rw [if_pos h4']
            show upB w.B w.h w.A w.h = w.A
            unfold upB
            rw [if_pos rfl]
        have r := (c_undo I1.1 hC).cr
        have I2 := inv_undo I1
        rw [undo_w (by omega)] at r I2
        rw [show w1.h - 1 = w.h by omega, hB] at r I2
        refine CR.t z (CR.g (CR.p r fun M2 C2 => CR.t rfl (CR.p (p_look I2.1 C2) fun M3 C3 => CR.t (lg_self _) ?_)))
        unfold f_L_law_266
        exact go _ M3 I2 eK C3
      · exact CR.f z (go w1 M I1 eK hC)
    · refine CR.f ?_ (go w1 M I1 eK hC)
      rw [nI_1]
      exact nI_ne (by omega) (by omega) e
  unfold f_L_law_166
  refine CR.g (s_c14 I1.1 hC fun M2 C2 => CR.f (by decide) ?_)
  unfold f_L_law_202
  by_cases e : w1.h = w.h
  · refine CR.t (by rw [e]) ?_
    by_cases h4 : w.h = 4
    · exact CR.t (by rw [h4]; rfl) (G M2 C2)
    · have eA : w1.A = w.A := by
        rcases hS.2.2.2 with ⟨h1, h2, h3⟩ | ⟨h1, h2, h3, h5⟩
        · exact h1
        · rw [keepW_h, if_pos (by omega)] at h1
          omega
      refine CR.f (nI_ne (b := 4) (by omega) (by decide) h4) (CR.p (p_look I1.1 C2) fun M3 C3 => CR.t (by rw [eA]; exact lg_self _) (G M3 C3))
  · have e1 : w1.h = w.h + 1 := by
      rcases hS.2.2.2 with ⟨h1, h2, h3⟩ | ⟨h1, h2, h3, h5⟩
      · exact absurd h2 e
      · rw [keepW_h] at h1
        split at h1 <;> omega
    exact CR.f (nI_ne (by omega) (by omega) e) (CR.t (by rw [e1, nI_1]) (G M2 C2))
theorem p_l91 {k62 : K62} {d0 : Nat} (hL : L ≤ 260) (hn : n < 54) (hk : Nx d n k62) {w : Wd} (hI : Inv d0 w) (hd : d0 + 10 ≤ d) (h31 : d < 2 ^ 31) {x : Int32} {M : Mem} (hC : CI M w) : WP (f_L_law_91 L xs k62 1 (lookA w.K) (nI n) x M) Q1 := by
  obtain ⟨y, hy⟩ := p_lot (xs := xs) hL (k := 2 * n + 1) (by omega)
  unfold f_L_law_91
  refine CR.o (a := y) (by rw [show (2 : Int32) * nI n + (1 : Int32) = nI (2 * n + 1) by rw [show (2 : Int32) = nI 2 from rfl, pk_mul, nI_1]]; exact hy) (CR.p (p_look hI.1 hC) fun M2 C2 => CR.g (s_c14 hI.1 C2 fun M3 C3 => CR.pq (p_acts hI.1 hI.2.2.1.1 (d := d) (by have := hI.2.2.1.2; omega) h31 C3 x y) fun a M4 w1 hq C4 => ?_))
  obtain ⟨rfl, hS⟩ := hq
  have I1 := inv_step hI hS (by omega)
  refine CR.f (by decide) ?_
  have W : ∀ (M : Mem), CI M w1 → WP (f_L_law_144 L xs k62 1 (lookA w.K) (nI n) y (lookA w.A) (nI w.h) M) Q1 := by
    intro M hC
    unfold f_L_law_144 f_L_law_161
    by_cases h : nI n - nI n / (4 : Int32) * (4 : Int32) = 2
    · exact CR.t h (CR.p (p_would I1.1 hC y) fun M2 C2 => CR.f (by decide) (p_l166 hk hI (by omega) hS C2))
    · exact CR.f h (p_l166 hk hI (by omega) hS hC)
  by_cases h : 0 < nI n - nI n / (5 : Int32) * (5 : Int32)
  · exact CR.t h (W M4 C4)
  · exact CR.f h (CR.p (p_holds I1.1 I1.2.2.1.1 C4) fun M5 C5 => CR.f (by decide) (W M5 C5))
theorem p_l62 (hL : L ≤ 260) : ∀ (m n : Nat) (w : Wd) (M : Mem), n ≤ 54 → 54 - n < m → Inv (10 * n) w → CI M w → WP (f_L_law_62 L xs m 1 1 (lookA w.K) (nI n) M) Q1 := by
  intro m
  induction m with
  | zero => intro n _ _ _ h; omega
  | succ m ih =>
    intro n w M hn hm hI hC
    rw [f_L_law_62]
    by_cases e : n = 54
    · subst e
      refine CR.t (by decide) ?_
      unfold f_L_law_391
      exact CR.f (by decide) (CR.p (p_holds hI.1 hI.2.2.1.1 hC) fun M2 C2 => CR.f (by decide) (WP.r C2 rfl))
    · have hk : Nx (10 * (n + 1)) n (f_L_law_62 L xs m) := fun w M h1 h2 => ih (n + 1) w M (by omega) (by omega) h1 h2
      refine CR.f (nI_nle' (a := 54) (by decide) (by omega) (by omega)) (CR.f (by decide) ?_)
      obtain ⟨x, hx⟩ := p_lot (xs := xs) hL (k := 2 * n) (by omega)
      by_cases q : (3 : Int32) ≤ nI n
      · exact CR.t q (CR.o (a := x) (by rw [show (2 : Int32) * nI n = nI (2 * n) by rw [show (2 : Int32) = nI 2 from rfl, pk_mul]]; exact hx) (p_l91 hL (by omega) hk hI (by omega) (by omega) hC))
      · exact CR.f q (p_l91 hL (by omega) hk hI (by omega) (by omega) hC)
end LW
def A00 (k : Nat) : Nat := if k = 1 then 8 else if k = 2 then 15 else if 7 ≤ k ∧ k ≤ 12 then k - 6 else 0
def w00 : Wd := mkWd A00 0 (fun _ => A00) 0 A00 0 (fun _ => 0) 0 0 0 0
theorem ok_00 : Ok A00 := ⟨by decide, by decide, by decide, by decide, by decide, fun e he => absurd he (by show ¬ e < 0; omega), fun r hr => absurd hr (by show ¬ r < 0; omega)⟩
theorem okw_00 : OkW w00 := ⟨ok_00, by decide, fun i hi => absurd hi (by show ¬ i < 0; omega), by decide, fun h => absurd h (by decide), by decide, fun i hi => absurd hi (by show ¬ i < 0; omega), by decide⟩
theorem ci_00a : ∀ k, k < 6 → gI M0 13 k = nI (A00 (7 + k)) := by decide +kernel
theorem ci_00b : (gI M0 14 0 = nI (A00 1) ∧ gI M0 14 1 = nI (A00 2) ∧ gI M0 12 4 = nI (A00 3) ∧ gI M0 12 5 = nI (A00 4) ∧ gI M0 12 6 = nI (A00 0) ∧ gI M0 12 7 = nI (A00 5) ∧ gI M0 12 8 = nI (A00 6)) ∧ gI M0 1 7 = nI 0 ∧ gI M0 1 6 = nI 0 ∧ gI M0 3 1 = nI 0 ∧ gI M0 5 3 = nI 0 ∧ gI M0 5 4 = nI 0 ∧ gI M0 1 8 = nI 0 := by decide +kernel
theorem gh_00 : (∀ i, i < 4 → 58 ≤ gH M0 i ∧ kd (gH M0 i) = 5) ∧ ∀ i, i < 4 → gH M0 i = 58 + 23 * i := by decide +kernel
theorem ci_00 : CI M0 w00 := by
  obtain ⟨⟨b1, b2, b3, b4, b5, b6, b7⟩, d1, d2, d3, d4, d5, d6⟩ := ci_00b
  exact ⟨⟨ci_00a, b1, b2, b3, b4, b5, b6, b7, fun e he => absurd he (by show ¬ e < 0; omega), fun r hr => absurd hr (by show ¬ r < 0; omega)⟩, ⟨d1, ⟨gh_00.1, fun i j hi hj e => by rw [gh_00.2 i hi, gh_00.2 j hj] at e; omega⟩, fun i hi => absurd hi (by show ¬ i < 0; omega)⟩, ⟨d2, fun h => absurd h (by decide)⟩, ⟨d3, fun i hi => absurd hi (by show ¬ i < 0; omega), d4, d5⟩, ⟨d6, fun h => absurd h (by decide)⟩⟩
theorem uq_00 : Uq A00 := fun i j hij hj => absurd hj (by show ¬ j < 0; omega)
theorem pure_law (L : Nat) (xs : Nat → Int32) (hL : L ≤ 260) : ∃ M2, f_L_law_8 L xs 1 M0 = some (1, M2) := by
  have h : WP (f_L_law_8 L xs 1 M0) Q1 := by
    unfold f_L_law_8
    refine CR.p (p_holds okw_00 uq_00 ci_00) fun M1 C1 => CR.f (by decide) (CR.p (p_would okw_00 C1 _) fun M2 C2 => CR.f (by decide) (CR.g ?_))
    have r1 := (c_undo okw_00 C2).cr
    rw [show opUndo w00 = (-2, w00) from rfl] at r1
    refine CR.p r1 fun M3 C3 => CR.t rfl ?_
    have r2 := (c_restore okw_00 C3).cr
    rw [show opRestore w00 = (-2, w00) from rfl] at r2
    refine CR.p r2 fun M4 C4 => CR.t rfl (CR.p (c_save okw_00 C4).cr fun M5 C5 => CR.t rfl ?_)
    have I0 : Inv (10 * 0) (opSave w00).2 := ⟨okw_save okw_00, rfl, ⟨uq_00, Nat.le_refl _⟩, fun i hi => absurd hi (by show ¬ i < 0; omega), uq_00, Nat.le_refl _⟩
    unfold f_L_law_53
    refine CR.p (p_look I0.1 C5) fun M6 C6 => ?_
    exact p_l62 hL FU 0 (opSave w00).2 M6 (by omega) (by unfold FU; omega) I0 C6
  obtain ⟨a, M2, w, e, -, q⟩ := h
  have q1 : a = 1 := q
  rw [q1] at e
  exact ⟨M2, e⟩
