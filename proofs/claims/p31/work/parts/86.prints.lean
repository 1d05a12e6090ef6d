/-! PURE: what an act may do to the world -/
def StepW (d : Nat) (w w2 : Wd) : Prop := OkW w2 ∧ w2.sv = w.sv ∧ w2.K = w.K ∧ ((w2.A = w.A ∧ w2.h = w.h ∧ w2.B = w.B) ∨ (w2.h = (keepW w).h ∧ w2.B = (keepW w).B ∧ Uq w2.A ∧ w2.A 0 ≤ d))
abbrev AQ (d : Nat) (w : Wd) : Int32 → Wd → Prop := fun a b => a = 1 ∧ StepW d w b
theorem st_same {d : Nat} {w : Wd} (hO : OkW w) : StepW d w w := ⟨hO, rfl, rfl, Or.inl ⟨rfl, rfl, rfl⟩⟩
theorem st_keep {d : Nat} {w : Wd} {A : Nat → Nat} (hO : OkW w) (hA : Ok A) (hU : Uq A) (hd : A 0 ≤ d) : StepW d w ((keepW w).toA A) :=
  ⟨(keepW_ok hO).toA hA, keepW_sv w, keepW_K w, Or.inr ⟨rfl, rfl, hU, hd⟩⟩
theorem StepW.toP {d l : Nat} {P : Nat → Nat} {w w2 : Wd} (h : StepW d w w2) (hO : OkW (w2.toP l P)) : StepW d w (w2.toP l P) := ⟨hO, h.2⟩
theorem StepW.ofP {d l : Nat} {P : Nat → Nat} {w w2 : Wd} (h : StepW d (w.toP l P) w2) : StepW d w w2 := by
  refine ⟨h.1, h.2.1, h.2.2.1, h.2.2.2.elim Or.inl (fun z => Or.inr ?_)⟩
  have e : ((keepW (w.toP l P)).h = (keepW w).h) ∧ ((keepW (w.toP l P)).B = (keepW w).B) := by
    unfold keepW
    by_cases q : w.h < 4
    · rw [if_pos (show (w.toP l P).h < 4 from q), if_pos q]; exact ⟨rfl, rfl⟩
    · rw [if_neg (show ¬ (w.toP l P).h < 4 from q), if_neg q]; exact ⟨rfl, rfl⟩
  rw [e.1, e.2] at z
  exact z
section PR
variable {α : Type} {M : Mem} {w : Wd} {Q : α → Wd → Prop}
/-- a sign that fits onto the pad -/
theorem s_app {l c : Nat} {P : Nat → Nat} (hO : OkW (w.toP l P)) (hl : l < 60) (hc : 33 ≤ c ∧ c ≤ 126) (hC : CI M (w.toP l P)) {k : Int32 → Mem → Option (α × Mem)} (h : ∀ M2, OkW (w.toP (l + 1) (updN P l c)) → CI M2 (w.toP (l + 1) (updN P l c)) → WP (k (nI (l + 1)) M2) Q) : WP (opp (f_X5_append 1 (nI c) M) k) Q := by
  have e : opAppend (nI c) (w.toP l P) = (nI (l + 1), w.toP (l + 1) (updN P l c)) := by
    unfold opAppend
    rw [if_pos ⟨nI_le' (a := 33) (by decide) (by omega) hc.1, nI_le' (b := 126) (by omega) (by decide) hc.2⟩, nI_clamp (by omega)]
    exact if_pos hl
  have r := (c_append hO hC (nI c)).cr
  have o := okw_append hO (nI c)
  rw [e] at r o
  exact CR.p r (fun M2 C2 => h M2 o C2)
theorem s_clear (hO : OkW w) (hC : CI M w) {k : Int32 → Mem → Option (α × Mem)} (h : ∀ M2, OkW (w.toP 0 w.P) → CI M2 (w.toP 0 w.P) → WP (k (nI w.l) M2) Q) : WP (opp (f_X5_clear 1 M) k) Q :=
  CR.p (c_clear hO hC).cr (fun M2 C2 => h M2 (okw_clear hO) C2)
end PR
/-! words on the pad -/
def wQ (w : Wd) : Int32 → Wd → Prop := fun a b => a = 1 ∧ OkW b ∧ ∃ l P, b = w.toP l P
theorem p_wd76 {w : Wd} {x s t : Int32} {N k l : Nat} {P : Nat → Nat} {M : Mem} {k39 : Nat → Int32 → Int32 → Int32 → Int32 → Mem → Option (Int32 × Mem)} {Q : Int32 → Wd → Prop} (hN : N ≤ 13) (hk : k < N) (hl : l ≤ 2 * k) (hO : OkW (w.toP l P)) (hC : CI M (w.toP l P)) {c : Nat} (hc : c < 7) (ht : f_L_low s t = some (nI c))
    (h : ∀ l2 P2 M2, OkW (w.toP l2 P2) → l2 ≤ 2 * (k + 1) → CI M2 (w.toP l2 P2) → WP (k39 1 x (nI N) 1 (nI (k + 1)) M2) Q) : WP (f_L_words_76 k39 1 x (nI N) (nI k) 1 97 s t M) Q := by
  have F : ∀ l2 P2 M2, OkW (w.toP l2 P2) → l2 ≤ 2 * (k + 1) → CI M2 (w.toP l2 P2) → WP (f_L_words_116 k39 1 x (nI N) (nI k) M2) Q := by
    intro l2 P2 M2 h1 h2 h3
    unfold f_L_words_116 f_L_words_121
    exact CR.be (nI_1 k) (h l2 P2 M2 h1 h2 h3)
  unfold f_L_words_76
  refine CR.o ht (CR.g ?_)
  rw [show (97 : Int32) + nI c = nI (97 + c) by rw [show (97 : Int32) = nI 97 from rfl, nI_add]]
  refine s_app hO (by omega) (by omega) hC (fun M2 O2 C2 => CR.f (nI_nle' (b := 0) (by omega) (by decide) (by omega)) ?_)
  by_cases e : nI k + 1 = nI N
  · exact CR.t e (F _ _ M2 O2 (by omega) C2)
  · obtain ⟨r, r1, r2⟩ := p_low (x >>> (((1 : Int32) + nI k) &&& 31)) (n := 4) (by decide) (by decide)
    refine CR.f e (CR.o r2 ?_)
    by_cases e2 : 0 < nI r
    · exact CR.t e2 (F _ _ M2 O2 (by omega) C2)
    · exact CR.f e2 (CR.g (s_app (c := 44) O2 (by omega) (by omega) C2 (fun M3 O3 C3 => CR.f (nI_nle' (b := 0) (by omega) (by decide) (by omega)) (F _ _ M3 O3 (by omega) C3))))
theorem p_wd39 {w : Wd} {x : Int32} {N : Nat} (hN : N ≤ 13) : ∀ (n k l : Nat) (P : Nat → Nat) (M : Mem), OkW (w.toP l P) → l ≤ 2 * k → k ≤ N → N - k < n → CI M (w.toP l P) → WP (f_L_words_39 n 1 x (nI N) 1 (nI k) M) (wQ w) := by
  intro n
  induction n with
  | zero => intro k _ _ _ _ _ _ h; omega
  | succ n ih =>
    intro k l P M hO hl hk hn hC
    rw [f_L_words_39]
    by_cases e : k = N
    · subst e
      obtain ⟨r, r1, r2⟩ := p_low (x >>> ((26 : Int32) &&& 31)) (n := 7) (by decide) (by decide)
      refine CR.t (nI_le' (by omega) (by omega) (by omega)) (CR.f (by decide) (CR.o r2 ?_))
      by_cases e2 : 0 < nI r
      · exact CR.t e2 (WP.r hC ⟨rfl, hO, _, _, rfl⟩)
      · exact CR.f e2 (CR.g (s_app (c := 44) hO (by omega) (by omega) hC (fun M3 O3 C3 => CR.f (nI_nle' (b := 0) (by omega) (by decide) (by omega)) (WP.r C3 ⟨rfl, O3, _, _, rfl⟩))))
    · obtain ⟨r, r1, r2⟩ := p_low (x >>> ((23 : Int32) &&& 31)) (n := 9) (by decide) (by decide)
      obtain ⟨c, c1, c2⟩ := p_low (x >>> (((2 : Int32) + nI k) &&& 31)) (n := 7) (by decide) (by decide)
      obtain ⟨d, d1, d2⟩ := p_low (x >>> (((2 : Int32) + nI k) &&& 31)) (n := 5) (by decide) (by decide)
      have nx := fun (l2 : Nat) (P2 : Nat → Nat) (M2 : Mem) (h1 : OkW (w.toP l2 P2)) (h2 : l2 ≤ 2 * (k + 1)) (h3 : CI M2 (w.toP l2 P2)) => ih (k + 1) l2 P2 M2 h1 h2 (by omega) (by omega) h3
      refine CR.f (nI_nle' (by omega) (by omega) (by omega)) (CR.f (by decide) (CR.o r2 ?_))
      by_cases e2 : nI r = 0
      · exact CR.t e2 (p_wd76 hN (by omega) hl hO hC c1 c2 nx)
      · exact CR.f e2 (p_wd76 hN (by omega) hl hO hC (by omega) d2 nx)
theorem p_words {M : Mem} {w : Wd} (hO : OkW w) (hC : CI M w) (x : Int32) : WP (f_L_words 1 x M) (wQ w) := by
  have hl := hO.2.2.2.2.2.1
  have F : ∀ t : Int32, (∃ N, N < 14 ∧ f_L_low x t = some (nI N)) → WP (f_L_words_19 1 x x t M) (wQ w) := by
    intro t ht
    obtain ⟨N, n1, n2⟩ := ht
    unfold f_L_words_19 f_L_words_35
    refine CR.o n2 (CR.g (s_clear hO hC (fun M2 O2 C2 => CR.f (nI_neg (by omega)) ?_)))
    exact p_wd39 (by omega) FU 0 0 w.P M2 O2 (by omega) (by omega) (by unfold FU; omega) C2
  obtain ⟨r, r1, r2⟩ := p_low (x >>> ((22 : Int32) &&& 31)) (n := 4) (by decide) (by decide)
  obtain ⟨a, a1, a2⟩ := p_low x (n := 14) (by decide) (by decide)
  obtain ⟨b, b1, b2⟩ := p_low x (n := 7) (by decide) (by decide)
  unfold f_L_words
  refine CR.o r2 ?_
  by_cases e : nI r = 0
  · exact CR.t e (F _ ⟨a, a1, a2⟩)
  · exact CR.f e (F _ ⟨b, by omega, b2⟩)
/-! print -/
theorem wc_len {P : Nat → Nat} : ∀ j, (∀ i, i < j → gdS P i) → wN P j + pcN (cN P j) = j
  | 0, _ => by show 0 + pcN 0 = 0; decide
  | j + 1, h => by
    have h1 := wc_len j (fun i hi => h i (by omega))
    have h2 := h j (by omega)
    rw [wN, cN]
    by_cases e : P j = 44
    · rw [if_pos e, if_pos e]
      rcases h2 with ⟨z, -⟩ | ⟨-, a, b, c⟩
      · omega
      · have h3 := Nat.two_pow_add_eq_or_of_lt c 1
        rw [Nat.mul_one, Nat.or_comm] at h3
        rw [← h3, Nat.add_comm (2 ^ (wN P j - 1)), pcN_add c (by omega)]
        omega
    · rw [if_neg e, if_neg e]
      omega
theorem ed_len {w : Wd} (h : edQ w = none) : wdT w 0 + pcN (wdT w 1) = w.l := by
  obtain ⟨g1, g2, g3, g4⟩ := edF_ok w.l 0 1 0 h rfl (by decide) (fun h => by omega) (by show 0 < 1; decide)
  exact wc_len w.l (fun i hi => g1 i (Nat.zero_le _) (by omega))
theorem uq_print {w : Wd} (hO : Ok w.A) (hU : Uq w.A) (hl : ¬ isLk w = true) : Uq (prA w.A (wdT w)) := by
  intro i j hij hj ha
  have e3 : prA w.A (wdT w) 3 = w.A 3 + 1 := by unfold prA; rw [if_pos rfl]
  rw [e3] at hj
  obtain ⟨a1, a2, a3⟩ := ha
  have o : ∀ k, k < 73 + 16 * w.A 3 → k ≠ 3 → prA w.A (wdT w) k = w.A k := fun k h1 h2 => prA_o h2 h1
  have b := (hO.e i (by omega)).2.1
  rw [o (73 + 16 * i) (by omega) (by omega)] at a1 a3
  rw [o (74 + 16 * i) (by omega) (by omega)] at a2
  by_cases q : j < w.A 3
  · rw [o _ (by omega) (by omega)] at a1
    rw [o _ (by omega) (by omega)] at a2
    refine hU i j hij q ⟨a1, a2, fun t ht => ?_⟩
    have := a3 t ht
    rwa [o _ (by omega) (by omega), o _ (by omega) (by omega)] at this
  · have ej : j = w.A 3 := by omega
    subst ej
    rw [show 73 + 16 * w.A 3 = 73 + 16 * w.A 3 + 0 by omega, prA_i (by omega)] at a1
    rw [show 74 + 16 * w.A 3 = 73 + 16 * w.A 3 + 1 by omega, prA_i (by omega)] at a2
    refine hl ((anyF_iff _ _).mpr ⟨i, by omega, by omega, lkE_iff.mpr ⟨a2, a1, fun t ht => ?_⟩⟩)
    have := a3 t (by omega)
    rw [o _ (by omega) (by omega), show 77 + 16 * w.A 3 + t = 73 + 16 * w.A 3 + (0 + 4 + t) by omega, prA_i (by omega)] at this
    rw [show 73 + 16 * i + 4 + t = 77 + 16 * i + t by omega]
    exact this
theorem p_prints {M : Mem} {w : Wd} (hO : OkW w) (hU : Uq w.A) {d : Nat} (hd : w.A 0 ≤ d) (h31 : d < 2 ^ 31) (hC : CI M w) (x : Int32) : WP (f_L_prints 1 x M) (AQ d w) := by
  have h4 := hO.1.n
  unfold f_L_prints
  refine CR.pq (p_words hO hC x) (fun a M1 w1 hw C1 => ?_)
  obtain ⟨rfl, O1, l, P, rfl⟩ := hw
  have hl : l ≤ 60 := O1.2.2.2.2.2.1
  refine CR.g (CR.o (c_fault O1 C1 _) (s_c13 O1 C1 fun M2 C2 => s_c1 O1 C2 fun M3 C3 => CR.p (c_print O1 C3).cr fun M4 C4 => s_clear (okw_print O1) C4 fun M5 O5 C5 => CR.f (by decide) ?_))
  rw [show lkFault 0 (w.toP l P) = ftL (edQ (w.toP l P)) from rfl]
  have hst : ∀ P2, OkW ((w.toP l P).toP 0 P2) → StepW d w ((w.toP l P).toP 0 P2) := fun P2 h => ⟨h, rfl, rfl, Or.inl ⟨rfl, rfl, rfl⟩⟩
  -- nothing came
  have N94 : ∀ (y : Int32) (M : Mem) (P2 : Nat → Nat), y < 0 → OkW ((w.toP l P).toP 0 P2) → CI M ((w.toP l P).toP 0 P2) → WP (f_L_prints_94 1 (nI l) (nI (w.A 3)) y (nI l) M) (AQ d w) := by
    intro y M P2 hy O C
    have hy2 : ¬ 0 ≤ y := Int32.not_le.mpr hy
    unfold f_L_prints_94 f_L_prints_107 f_L_prints_127
    refine CR.f hy2 (CR.t rfl (CR.g (s_c1 O C fun M2 C2 => CR.f hy2 (CR.t ?_ (CR.t hy (WP.r C2 ⟨rfl, hst _ O⟩))))))
    show nI (w.A 3) = nI (w.A 3) + 0
    rw [Int32.add_zero]
  cases he : edQ (w.toP l P) with
  | some j =>
    have hj : j ≤ 0 + l := edF_lt _ _ _ _ he
    have ep : opPrint (w.toP l P) = (-2, w.toP l P) := by unfold opPrint; rw [he]
    rw [ep] at O5 C5 ⊢
    refine CR.f ?_ (CR.t rfl (CR.f (nI_neg (by omega)) (CR.f (nlt_n (a := l) (b := j) (by omega) (by omega) (by omega)) (N94 (-2) M5 _ (by decide) O5 C5))))
    intro z
    have h1 : (-4 : Int32) < 0 := by decide
    rw [← z] at h1
    exact absurd h1 (nI_neg (by omega))
  | none =>
    refine CR.t rfl ?_
    by_cases hk : isLk (w.toP l P) = true
    · have ep : opPrint (w.toP l P) = (-2, w.toP l P) := by unfold opPrint; rw [he]; exact if_pos hk
      rw [ep] at O5 C5 ⊢
      exact CR.t rfl (N94 (-2) M5 _ (by decide) O5 C5)
    · by_cases h3 : w.A 3 < 4
      · have ep : opPrint (w.toP l P) = (nI (w.A 3), ((keepW (w.toP l P)).toA (prA w.A (wdT (w.toP l P)))).toP 0 P) := by
          unfold opPrint; rw [he]; exact (if_neg hk).trans (if_pos h3)
        rw [ep] at O5 C5 ⊢
        have hlen := ed_len he
        have hUn := uq_print (w := w.toP l P) O1.1 hU hk
        have OA : Ok (prA w.A (wdT (w.toP l P))) := O5.1
        have e3 : prA w.A (wdT (w.toP l P)) 3 = w.A 3 + 1 := by unfold prA; rw [if_pos rfl]
        have e0 : prA w.A (wdT (w.toP l P)) 0 = w.A 0 := prA_o (by omega) (by omega)
        have i0 : prA w.A (wdT (w.toP l P)) (73 + 16 * w.A 3) = wdT (w.toP l P) 0 := prA_i (j := 0) (by omega)
        have i1 : prA w.A (wdT (w.toP l P)) (73 + 16 * w.A 3 + 1) = wdT (w.toP l P) 1 := prA_i (j := 1) (by omega)
        have i2 : prA w.A (wdT (w.toP l P)) (73 + 16 * w.A 3 + 2) = 0 := prA_i (j := 2) (by omega)
        have i3 : prA w.A (wdT (w.toP l P)) (73 + 16 * w.A 3 + 3) = 0 := prA_i (j := 3) (by omega)
        have hS : StepW d w ((((keepW (w.toP l P)).toA (prA w.A (wdT (w.toP l P)))).toP 0 P).toP 0 P) :=
          ((st_keep (d := d) O1 OA hUn (by rw [e0]; exact hd)).ofP.toP (l := 0) (P := P) O5)
        have hn : w.A 3 < ((((keepW (w.toP l P)).toA (prA w.A (wdT (w.toP l P)))).toP 0 P).toP 0 P).A 3 := by
          show w.A 3 < prA w.A (wdT (w.toP l P)) 3
          rw [e3]; omega
        refine CR.f ?_ (CR.f (nI_ne (a := w.A 3) (b := 4) (by omega) (by decide) (by omega)) ?_)
        · intro z
          have h1 : (-2 : Int32) < 0 := by decide
          rw [← z] at h1
          exact absurd h1 (nI_neg (by omega))
        unfold f_L_prints_71 f_L_prints_94 f_L_prints_107 f_L_prints_127
        refine CR.t rfl (CR.t (nI_pos' (by omega)) (CR.t rfl (CR.g (s_c1 O5 C5 fun M6 C6 => CR.t (nI_pos' (by omega)) (CR.t ?_ (CR.f (nI_neg (by omega)) (CR.g (s_e0 O5 C6 hn fun M7 C7 => s_e2 O5 C7 hn fun M8 C8 => CR.t ?_ (s_e7 O5 C8 hn fun M9 C9 => CR.t ?_ (s_e8 O5 C9 hn fun M10 C10 => CR.t ?_ (s_e9 O5 C10 hn fun M11 C11 => CR.t ?_ (WP.r C11 ⟨rfl, hS⟩))))))))))))
        · show nI (prA w.A (wdT (w.toP l P)) 3) = nI (w.A 3) + 1
          rw [e3, nI_1]
        · show nI (prA w.A (wdT (w.toP l P)) (73 + 16 * w.A 3)) + nI (pcN (prA w.A (wdT (w.toP l P)) (73 + 16 * w.A 3 + 1)) + 1) - 1 = nI l
          rw [tl_e, i0, i1, hlen]
          rfl
        · show nI (styN (prA w.A (wdT (w.toP l P))) (73 + 16 * w.A 3)) = 0
          unfold styN
          rw [i2, if_neg (nlt_n (by rw [e0]; omega) (by decide) (Nat.zero_le _))]
          rfl
        · show nI (prA w.A (wdT (w.toP l P)) (73 + 16 * w.A 3 + 2)) = 0
          rw [i2]; rfl
        · show nI (prA w.A (wdT (w.toP l P)) (73 + 16 * w.A 3 + 3)) = 0
          rw [i3]; rfl
      · have ep : opPrint (w.toP l P) = (-3, w.toP l P) := by
          unfold opPrint; rw [he]; exact (if_neg hk).trans (if_neg h3)
        rw [ep] at O5 C5 ⊢
        have e4 : w.A 3 = 4 := by omega
        refine CR.f (show ¬ (-3 : Int32) = -2 by decide) (CR.t ?_ ?_)
        · show nI (w.A 3) = 4
          rw [e4]; rfl
        unfold f_L_prints_71
        exact CR.t rfl (N94 (-3) M5 _ (by decide) O5 C5)
