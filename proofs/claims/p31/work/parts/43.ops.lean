/-! PURE: more calls of the class: save, restore, undo, the pad, stay, drop -/
def ixO (x : Int32) (n : Nat) : Option Nat := if 0 ≤ x ∧ x < nI n then some x.toNatClampNeg else none
theorem ixO_s {j n : Nat} (hn : n < 2 ^ 31) (h : j < n) : ixO (nI j) n = some j := by
  unfold ixO
  rw [if_pos ⟨nI_pos' (by omega), (nI_ltI (by omega) hn).mpr h⟩, nI_clamp (by omega)]
theorem ix_cases (x : Int32) {n : Nat} (hn : n < 2 ^ 31) : (∃ j, j < n ∧ x = nI j) ∨ ((x < 0 ∨ nI n ≤ x) ∧ ixO x n = none) := by
  by_cases h : 0 ≤ x ∧ x < nI n
  · obtain ⟨j, j1, rfl⟩ := in_ex hn h.1 (Int32.le_of_lt h.2)
    exact Or.inl ⟨j, (nI_ltI (by omega) hn).mp h.2, rfl⟩
  · refine Or.inr ⟨?_, by unfold ixO; rw [if_neg h]⟩
    by_cases h0 : x < 0
    · exact Or.inl h0
    · refine Or.inr (Int32.not_lt.mp (fun h2 => h ⟨Int32.not_lt.mp h0, h2⟩))
theorem keepW_K (w : Wd) : (keepW w).K = w.K := by unfold keepW; split <;> rfl
theorem keepW_sv (w : Wd) : (keepW w).sv = w.sv := by unfold keepW; split <;> rfl
def opSave (w : Wd) : Int32 × Wd := (nI (w.A 3), w.toK w.A)
theorem c_save {M : Mem} {w : Wd} (hO : OkW w) (hC : CI M w) : CRes (f_X5_save 1 M) M (opSave w).1 (opSave w).2 := by
  obtain ⟨o1, o2, o3, o4, o5, o6, o7, o8⟩ := hO
  obtain ⟨c1, c2, c3, c4, c5⟩ := hC
  have k35 : kd 35 = 5 ∧ fld 1 1 = 35 := by decide +kernel
  obtain ⟨M1, r1, r2, r3⟩ := p_stCopy k35.1 lay1.2.2.2 (by decide) o1 c1
  have n : ∀ r, r < 35 → ¬ StX 35 r := fun r h x => by unfold StX at x; omega
  have hS1 : Sm (fun q => q = 1) M1 (sI M1 1 6 1) := Sm.rf.p1
  have hS2 : SmI (fun r => r = 1 ∨ StX 35 r) M (sI M1 1 6 1) := (r2.i.mono (fun r h => Or.inr h)).tr (hS1.i.mono (fun r h => Or.inl h))
  have e1 : ∀ k, k ≠ 6 → gI (sI M1 1 6 1) 1 k = gI M 1 k := fun k hk => by rw [gI_n (Or.inr hk), r2.1 _ _ (n 1 (by decide))]
  have hR : RelS (sI M1 1 6 1) 12 w.A := c1.si hS2 (fun r hr => by unfold StX at hr; omega) o1.n o1.m
  unfold f_X5_save opSave
  rw [gdd_t lay1.1, k35.2, gdd_t k35.1, lay1.2.1, r1, obb_s, bvv_e, gdd_t lay1.2.2.2, hR.n]
  refine ⟨_, rfl, ⟨hR, ⟨(e1 7 (by decide)).trans c2.1, ⟨fun i hi => by rw [gH_sI, r2.2]; exact c2.2.1.1 i hi, fun i j hi hj e => c2.2.1.2 i j hi hj (by rw [gH_sI, gH_sI, r2.2, r2.2] at e; exact e)⟩, fun i hi => ?_⟩, ⟨gI_s, fun _ => r3.sm hS1 (fun r hr => by omega) o1.n o1.m⟩, ⟨?_, fun i hi => ?_, ?_, ?_⟩, ⟨(e1 8 (by decide)).trans c5.1, fun h => ⟨(e1 9 (by decide)).trans (c5.2 h).1, (e1 10 (by decide)).trans (c5.2 h).2.1, (e1 11 (by decide)).trans (c5.2 h).2.2⟩⟩⟩, hS2.mono (fun r h => by unfold StX at h; omega)⟩
  · have hi' : i < w.h := hi
    rw [gH_sI, r2.2]
    obtain ⟨g1, g2⟩ := c2.2.1.1 i (by omega)
    exact (c2.2.2 i hi).si hS2 (fun r hr => by unfold StX at hr; omega) (o3 i hi).n (o3 i hi).m
  · exact (hS2 3 1 (fun x => by unfold StX at x; omega)).trans c4.1
  · exact (hS2 4 i (fun x => by unfold StX at x; omega)).trans (c4.2.1 i hi)
  · exact (hS2 5 3 (fun x => by unfold StX at x; omega)).trans c4.2.2.1
  · exact (hS2 5 4 (fun x => by unfold StX at x; omega)).trans c4.2.2.2
def opRestore (w : Wd) : Int32 × Wd := if w.sv = 0 then (-2, w) else (nI (w.K 3), (keepW w).toA w.K)
theorem c_restore {M : Mem} {w : Wd} (hO : OkW w) (hC : CI M w) : CRes (f_X5_restore 1 M) M (opRestore w).1 (opRestore w).2 := by
  have o4 := hO.2.2.2.1
  have k35 : kd 35 = 5 ∧ fld 1 1 = 35 := by decide +kernel
  unfold f_X5_restore opRestore
  rw [gdd_t lay1.1, hC.2.2.1.1]
  by_cases h : w.sv = 0
  · rw [if_pos ((nI_z (by omega)).mpr h), if_pos h]
    exact CRes.no hC
  · rw [if_neg (fun e => h ((nI_z (by omega)).mp e)), if_neg h]
    have h1 : w.sv = 1 := by omega
    obtain ⟨M1, r1, r2, r3⟩ := p_keep hO hC
    have hK : RelS M1 35 w.K := by
      have := r2.2.2.1.2 (by rw [keepW_sv]; exact h1)
      rwa [keepW_K] at this
    obtain ⟨M2, s1, s2, s3⟩ := p_stCopy lay1.2.2.2 k35.1 (by decide) (hO.2.2.2.2.1 h1) hK
    rw [r1, obb_s, lay1.2.1, gdd_t lay1.2.2.2, k35.2, s1, obb_s, s3.n]
    exact ⟨_, rfl, CI.sa (keepW_ok hO) r2 s2 (fun r hr => by unfold StX at hr; omega) s3, (r3.mono (fun r h => h.lt)).tr (s2.i.mono (fun r h => by unfold StX at h; omega))⟩
def opUndo (w : Wd) : Int32 × Wd := if w.h = 0 then (-2, w) else (nI (w.h - 1), (w.toA (w.B (w.h - 1))).toH (w.h - 1) w.B)
theorem c_undo {M : Mem} {w : Wd} (hO : OkW w) (hC : CI M w) : CRes (f_X5_undo 1 M) M (opUndo w).1 (opUndo w).2 := by
  have hOk := hO
  have hCk := hC
  obtain ⟨o1, o2, o3, o4, o5, o6, o7, o8⟩ := hO
  obtain ⟨c1, c2, c3, c4, c5⟩ := hC
  unfold f_X5_undo opUndo f_X5_stateAt
  rw [gdd_t lay1.1, c2.1]
  by_cases h : w.h = 0
  · rw [h, nI_0s1, if_pos (by decide), obb_s, if_pos rfl, if_pos rfl]
    exact CRes.no hCk
  · obtain ⟨g1, g2⟩ := c2.2.1.1 (w.h - 1) (by omega)
    have g3 := st_r g2
    have hB := o3 (w.h - 1) (by omega)
    obtain ⟨M1, r1, r2, r3⟩ := p_stCopy lay1.2.2.2 g2 (by omega) hB (c2.2.2 (w.h - 1) (by omega))
    have hC1 := CI.sa hOk hCk r2 (fun r hr => by unfold StX at hr; omega) r3
    have e7 : gI M1 1 7 = nI w.h := hC1.2.1.1
    have hS1 : Sm (fun q => q = 1) M1 (sI M1 1 7 (nI (w.h - 1))) := Sm.rf.p1
    have e1 : ∀ k, k ≠ 7 → gI (sI M1 1 7 (nI (w.h - 1))) 1 k = gI M1 1 k := fun k hk => gI_n (Or.inr hk)
    have x1 : ∀ a, kd a = 5 → ∀ r, r = 1 → r < a ∨ a + 23 ≤ r := fun a ha r hr => by have := st_r ha; omega
    obtain ⟨d1, d2, d3, d4, d5⟩ := hC1
    rw [nI_sub1 (by omega), if_neg (nI_neg (by omega)), gdd_t lay1.1, if_neg (nI_nle' (by omega) (by omega) (by omega)), lay2.2.2, gdd_t lay2.1, lay2.2.1, if_neg (nI_nle' (by omega) (by omega) (by omega)), gdd_t (inb_nI (by omega) (by omega)), nI_clamp (by omega), obb_s, if_neg (by omega), lay1.2.1, gdd_t lay1.2.2.2, r1, obb_s, e7, nI_sub1 (by omega), bvv_e, gI_s, if_neg h]
    refine ⟨_, rfl, ⟨d1.sm hS1 (x1 12 lay1.2.2.2) hB.n hB.m, ⟨gI_s, d2.2.1, fun i hi => ?_⟩, ⟨(e1 6 (by decide)).trans d3.1, fun h => (d3.2 h).sm hS1 (fun r hr => by omega) (o5 h).n (o5 h).m⟩, ⟨(gI_n (Or.inl (by decide))).trans d4.1, fun i hi => (gI_n (Or.inl (by decide))).trans (d4.2.1 i hi), (gI_n (Or.inl (by decide))).trans d4.2.2.1, (gI_n (Or.inl (by decide))).trans d4.2.2.2⟩, ⟨(e1 8 (by decide)).trans d5.1, fun h => ⟨(e1 9 (by decide)).trans (d5.2 h).1, (e1 10 (by decide)).trans (d5.2 h).2.1, (e1 11 (by decide)).trans (d5.2 h).2.2⟩⟩⟩, (r2.i.mono (fun r h => by unfold StX at h; omega)).tr (hS1.i.mono (fun r h => by omega))⟩
    have hi' : i < w.h - 1 := hi
    exact (d2.2.2 i (show i < w.h by omega)).sm hS1 (x1 _ (d2.2.1.1 i (by omega)).2) (o3 i (by omega)).n (o3 i (by omega)).m
theorem CI.pad {M M2 : Mem} {w : Wd} {l : Nat} {P : Nat → Nat} (hO : OkW w) (hC : CI M w) (hS : Sm (fun r => r = 3 ∨ r = 4) M M2) (h1 : gI M2 3 1 = nI l) (h2 : ∀ i, i < l → gI M2 4 i = nI (P i)) : CI M2 (w.toP l P) := by
  obtain ⟨o1, o2, o3, o4, o5, o6, o7, o8⟩ := hO
  obtain ⟨c1, c2, c3, c4, c5⟩ := hC
  exact ⟨c1.sm hS (fun r hr => by omega) o1.n o1.m, c2.si hS.1 (fun r hr => by omega) hS.2 o2 o3, ⟨(hS.1 1 6 (by decide)).trans c3.1, fun h => (c3.2 h).sm hS (fun r hr => by omega) (o5 h).n (o5 h).m⟩, ⟨h1, h2, (hS.1 5 3 (by decide)).trans c4.2.2.1, (hS.1 5 4 (by decide)).trans c4.2.2.2⟩, ⟨(hS.1 1 8 (by decide)).trans c5.1, fun h => ⟨(hS.1 1 9 (by decide)).trans (c5.2 h).1, (hS.1 1 10 (by decide)).trans (c5.2 h).2.1, (hS.1 1 11 (by decide)).trans (c5.2 h).2.2⟩⟩⟩
theorem lay3 : fld 1 3 = 3 ∧ kd 3 = 2 ∧ fld 3 0 = 4 ∧ kd 4 = 8 ∧ ln 4 = 60 := by decide +kernel
def opClear (w : Wd) : Int32 × Wd := (nI w.l, w.toP 0 w.P)
theorem c_clear {M : Mem} {w : Wd} (hO : OkW w) (hC : CI M w) : CRes (f_X5_clear 1 M) M (opClear w).1 (opClear w).2 := by
  unfold f_X5_clear opClear
  rw [gdd_t lay1.1, lay3.1, gdd_t lay3.2.1, bvv_e, bvv_e, hC.2.2.2.1.1]
  have hS : Sm (fun r => r = 3 ∨ r = 4) M (sI M 3 1 0) := Sm.put Sm.rf (Or.inl rfl)
  exact ⟨_, rfl, CI.pad hO hC hS gI_s (fun i hi => by omega), hS.i.mono (fun r h => by omega)⟩
def opAppend (x : Int32) (w : Wd) : Int32 × Wd := if 33 ≤ x ∧ x ≤ 126 then (if w.l < 60 then (nI (w.l + 1), w.toP (w.l + 1) (updN w.P w.l x.toNatClampNeg)) else (-3, w)) else (-1, w)
theorem c_append {M : Mem} {w : Wd} (hO : OkW w) (hC : CI M w) (x : Int32) : CRes (f_X5_append 1 x M) M (opAppend x w).1 (opAppend x w).2 := by
  have hl := hO.2.2.2.2.2.1
  unfold f_X5_append opAppend
  by_cases h1 : 33 ≤ x ∧ x ≤ 126
  · obtain ⟨v, v1, v2, rfl⟩ := in_ex2 (a := 33) (b := 126) (by decide) (by decide) h1.1 h1.2
    rw [if_neg (isW_1 h1), if_pos h1, gdd_t lay1.1, lay3.1, gdd_t lay3.2.1, hC.2.2.2.1.1, show (60 : Int32) = nI 60 from rfl]
    by_cases h2 : w.l < 60
    · rw [if_pos ((nI_ltI (b := 60) (by omega) (by decide)).mpr h2), if_pos h2, lay3.2.2.1, p_put lay3.2.2.2.1 (by rw [lay3.2.2.2.2]; exact h2) (by rw [lay3.2.2.2.2]; decide), obb_s, bvv_e, gI_s, gI_n (Or.inl (by decide)), hC.2.2.2.1.1, nI_1, nI_clamp (by omega)]
      have hS : Sm (fun r => r = 3 ∨ r = 4) M (sI (sI M 4 w.l (nI v)) 3 1 (nI (w.l + 1))) := Sm.put (Sm.put Sm.rf (Or.inr rfl)) (Or.inl rfl)
      refine ⟨_, rfl, CI.pad hO hC hS gI_s (fun i hi => ?_), hS.i.mono (fun r h => by omega)⟩
      rw [gI_n (Or.inl (by decide))]
      by_cases e : i = w.l
      · rw [e, gI_s, updN_s]
      · rw [gI_n (Or.inr e), updN_n e]
        exact hC.2.2.2.1.2.1 i (by omega)
    · rw [if_neg (fun e => h2 ((nI_ltI (b := 60) (by omega) (by decide)).mp e)), if_neg h2]
      exact CRes.no hC
  · rw [if_pos (isW_0 h1), if_neg h1]
    exact CRes.no hC
