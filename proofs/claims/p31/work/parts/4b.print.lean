/-! PURE: print, the class: the call -/
def prA (A T : Nat → Nat) : Nat → Nat := fun k => if k = 3 then A 3 + 1 else if 73 + 16 * A 3 ≤ k ∧ k < 89 + 16 * A 3 then T (k - (73 + 16 * A 3)) else A k
theorem prA_o {A T : Nat → Nat} {k : Nat} (h3 : k ≠ 3) (h : k < 73 + 16 * A 3) : prA A T k = A k := by unfold prA; rw [if_neg h3, if_neg (by omega)]
theorem prA_i {A T : Nat → Nat} {j : Nat} (h : j < 16) : prA A T (73 + 16 * A 3 + j) = T j := by unfold prA; rw [if_neg (by omega), if_pos (by omega), Nat.add_sub_cancel_left]
theorem ok_print {A T : Nat → Nat} (hO : Ok A) (hT : OkE T 0) (h4 : A 3 < 4) : Ok (prA A T) := by
  have hm := hO.m
  have e3 : prA A T 3 = A 3 + 1 := rfl
  have u : ∀ k, k ≠ 3 → k < 73 + 16 * A 3 → prA A T k = A k := fun k h h2 => prA_o h h2
  refine ⟨by rw [e3]; omega, by rw [u _ (by omega) (by omega)]; exact hm, fun k hk => by rw [u _ (by omega) (by omega)]; exact hO.w k hk, by rw [u _ (by omega) (by omega)]; exact hO.b, by rw [u _ (by omega) (by omega)]; exact hO.h, fun k hk => ?_, fun q hq => ?_⟩
  · rw [e3] at hk
    by_cases e : k = A 3
    · subst e
      exact hT.mv (fun j hj => by rw [prA_i hj, Nat.zero_add])
    · exact (hO.e k (by omega)).cg (fun j hj => u _ (by omega) (by omega))
  · rw [u _ (by omega) (by omega)] at hq
    exact (hO.r q hq).cg (fun j hj => u _ (by omega) (by omega))
theorem CI.dr {M M2 : Mem} {w : Wd} (hO : OkW w) (hC : CI M w) (hS : Sm DrX M M2) (hP : PadR M2 w.l w.P) : CI M2 w := by
  obtain ⟨o1, o2, o3, o4, o5, o6, o7, o8⟩ := hO
  obtain ⟨c1, c2, c3, c4, c5⟩ := hC
  have n1 : ¬ DrX 1 := by unfold DrX; decide
  exact ⟨c1.sm hS (fun r hr => by unfold DrX at hr; omega) o1.n o1.m, c2.si hS.1 (fun r hr => by unfold DrX at hr; omega) hS.2 o2 o3, ⟨(hS.1 1 6 n1).trans c3.1, fun h => (c3.2 h).sm hS (fun r hr => by unfold DrX at hr; omega) (o5 h).n (o5 h).m⟩, hP, ⟨(hS.1 1 8 n1).trans c5.1, fun h => ⟨(hS.1 1 9 n1).trans (c5.2 h).1, (hS.1 1 10 n1).trans (c5.2 h).2.1, (hS.1 1 11 n1).trans (c5.2 h).2.2⟩⟩⟩
theorem p_addEd {M : Mem} {a : Nat} {A T : Nat → Nat} (ha : kd a = 5) (hne : a + 5 + 2 * A 3 ≠ 5) (hO : Ok A) (hR : RelS M a A) (hE : EdR M 5 T 0) (hT : OkE T 0) (h4 : A 3 < 4) : ∃ M2, f_X4_addEdition a 5 M = some M2 ∧ Sm (StX a) M M2 ∧ RelS M2 a (prA A T) := by
  have hm := hO.m
  have sa := st_r ha
  have hS1 : Sm (fun q => q = a) M (sI M a 4 (nI (A 3 + 1))) := Sm.rf.p1
  obtain ⟨M2, r1, r2, r3⟩ := p_copyEdition (M1 := sI M a 4 (nI (A 3 + 1))) (e := 5) (j := A 3) (m := A 3 + 1) ha lay4.2.1 (by omega) (by omega) hne gI_s
  have nx : ∀ q, (q < a + 5 + 2 * A 3 ∨ a + 7 + 2 * A 3 ≤ q) → ¬ EdX (a + 5 + 2 * A 3) q := fun q h h2 => by unfold EdX at h2; omega
  have g : ∀ q, q ≠ a → (q < a + 5 + 2 * A 3 ∨ a + 7 + 2 * A 3 ≤ q) → ∀ k, gI M2 q k = gI M q k := fun q h h2 k => (r2.1 q k (nx q h2)).trans (gI_n (Or.inl h))
  have g0 : ∀ k, k ≠ 4 → gI M2 a k = gI M a k := fun k h => (r2.1 a k (nx a (by omega))).trans (gI_n (Or.inr h))
  have hSS : Sm (fun q => q = a ∨ EdX (a + 5 + 2 * A 3) q) M M2 := (hS1.mono (fun q h => Or.inl h)).tr (r2.mono (fun q h => Or.inr h))
  refine ⟨M2, ?_, hSS.mono (fun r h => by unfold EdX at h; unfold StX; omega), ?_⟩
  · unfold f_X4_addEdition
    rw [gdd_t ha, hR.n, nI_1, bvv_e, gI_s, nI_sub1 (by omega), Nat.add_sub_cancel, r1, obb_s]
  have e3 : prA A T 3 = A 3 + 1 := rfl
  have u : ∀ k, k ≠ 3 → k < 73 + 16 * A 3 → prA A T k = A k := fun k h h2 => prA_o h h2
  refine ⟨fun k hk => ?_, ?_, ?_, ?_, ?_, ?_, ?_, ?_, fun k hk => ?_, fun r hr => ?_⟩
  · rw [g _ (by omega) (by omega), u _ (by omega) (by omega)]; exact hR.w k hk
  · rw [g _ (by omega) (by omega), u _ (by omega) (by omega)]; exact hR.s0
  · rw [g _ (by omega) (by omega), u _ (by omega) (by omega)]; exact hR.s1
  · rw [r2.1 a 4 (nx a (by omega)), gI_s, e3]
  · rw [g0 _ (by omega), u _ (by omega) (by omega)]; exact hR.m
  · rw [g0 _ (by omega), u _ (by omega) (by omega)]; exact hR.d
  · rw [g0 _ (by omega), u _ (by omega) (by omega)]; exact hR.g
  · rw [g0 _ (by omega), u _ (by omega) (by omega)]; exact hR.f
  · rw [e3] at hk
    by_cases e : k = A 3
    · subst e
      exact (r3.r (hE.sm hS1 (by omega) (by omega)) hT.2.1).mv (fun j hj => by rw [prA_i hj, Nat.zero_add]) hT.2.1
    · exact ((hR.e k (by omega)).sm hSS (by unfold EdX; omega) (by unfold EdX; omega)).cg (fun j hj => u _ (by omega) (by omega)) (hO.e k (by omega)).2.1
  · rw [u _ (by omega) (by omega)] at hr
    exact ((hR.r r hr).sm hSS (by unfold EdX; omega)).cg hm (fun i hi hi2 => u _ (by omega) (by omega)) hO.q hr
theorem keepW_l (w : Wd) : (keepW w).l = w.l ∧ (keepW w).P = w.P := by unfold keepW; split <;> exact ⟨rfl, rfl⟩
def wdT (w : Wd) : Nat → Nat := txT w.P w.l
def isLk (w : Wd) : Bool := anyF (lkE w.A (wdT w 0) (fun j => wdT w (0 + 4 + j)) (wdT w 1)) 0 (w.A 3)
def opPrint (w : Wd) : Int32 × Wd := match edQ w with
  | some _ => (-2, w)
  | none => if isLk w = true then (-2, w) else if w.A 3 < 4 then (nI (w.A 3), ((keepW w).toA (prA w.A (wdT w))).toP 0 w.P) else (-3, w)
theorem c_print {M : Mem} {w : Wd} (hO : OkW w) (hC : CI M w) : CRes (f_X5_print 1 M) M (opPrint w).1 (opPrint w).2 := by
  have hl := hO.2.2.2.2.2.1
  have hn := hO.1.n
  have ha := lay1.2.2.2
  unfold f_X5_print opPrint
  rw [gdd_t lay1.1, lay3.1, gdd_t lay3.2.1, p_edQ hO hC.2.2.2.1, obb_s]
  cases he : edQ w with
  | some t =>
    have := edF_lt _ _ _ _ he
    rw [if_neg (ftE_some (by omega))]
    exact CRes.no hC
  | none =>
    obtain ⟨M1, r1, r2, r3, r4, r5⟩ := p_write hl hC.2.2.2.1 he
    have hC1 := CI.dr hO hC r2 r3
    have hc : wdT w 1 < 2 ^ 11 := Nat.lt_of_lt_of_le r5.2.2.1 (Nat.pow_le_pow_right (by decide) (by have := r5.2.1; omega))
    have hlk := p_like (c := wdT w 1) ha hO.1 hC1.1 lay4.2.1 r4 r5 (by omega)
    have hSI : SmI (fun r => r < 150) M M1 := r2.i.mono (fun r h => by unfold DrX at h; omega)
    rw [if_pos (by rfl), lay4.1, r1, obb_s, gdd_t lay4.2.1, lay1.2.1, gdd_t ha, show gI M1 5 2 = nI (wdT w 1) from r4.2.1, hlk, obb_s]
    show CRes (if nI (isLk w).toNat = 0 then _ else _) M _ _
    cases hk : isLk w
    · rw [if_pos (by rfl), hC1.1.n, show (4 : Int32) = nI 4 from rfl]
      simp only [if_neg (show ¬ false = true by decide)]
      by_cases h4 : w.A 3 < 4
      · rw [if_pos ((nI_ltI (by omega) (by decide)).mpr h4)]
        simp only [if_pos h4]
        obtain ⟨M2, s1, s2, s3⟩ := p_keep hO hC1
        have hR : RelS M2 12 w.A := by rw [← keepW_A w]; exact s2.1
        have hE2 : EdR M2 5 (wdT w) 0 := r4.si s3 (by unfold HiX; omega) (by unfold HiX; omega)
        obtain ⟨M3, t1, t2, t3⟩ := p_addEd ha (by omega) hO.1 hR hE2 r5 h4
        have hC3 := CI.sa (keepW_ok hO) s2 t2 (fun r hr => by unfold StX at hr; omega) t3
        have hO3 : OkW ((keepW w).toA (prA w.A (wdT w))) := (keepW_ok hO).toA (ok_print hO.1 r5 h4)
        have hS : Sm (fun r => r = 3 ∨ r = 4) M3 (sI M3 3 1 0) := Sm.put Sm.rf (Or.inl rfl)
        have e4 : gI M3 12 4 = nI (w.A 3 + 1) := t3.n
        rw [s1, obb_s, t1, obb_s, bvv_e, gI_n (Or.inl (by decide)), e4, nI_sub1 (by omega), Nat.add_sub_cancel]
        refine ⟨_, rfl, CI.pad hO3 hC3 hS gI_s (fun i hi => by omega), ((hSI.tr (s3.mono (fun r h => h.lt))).tr (t2.i.mono (fun r h => by unfold StX at h; omega))).tr (hS.i.mono (fun r h => by omega))⟩
      · rw [if_neg (fun e => h4 ((nI_ltI (by omega) (by decide)).mp e))]
        simp only [if_neg h4]
        exact ⟨M1, rfl, hC1, hSI⟩
    · rw [if_neg (by decide)]
      simp only [if_pos]
      exact ⟨M1, rfl, hC1, hSI⟩
