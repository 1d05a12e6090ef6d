/-! PURE: every call leaves a world that is in order -/
theorem OkW.toH {w : Wd} {h : Nat} {B : Nat → Nat → Nat} (hO : OkW w) (h4 : h ≤ 4) (hB : ∀ i, i < h → Ok (B i)) : OkW (w.toH h B) := ⟨hO.1, h4, hB, hO.2.2.2⟩
theorem OkW.toP {w : Wd} {l : Nat} {P : Nat → Nat} (hO : OkW w) (hl : l ≤ 60) (hP : ∀ i, i < l → 33 ≤ P i ∧ P i ≤ 126) : OkW (w.toP l P) := ⟨hO.1, hO.2.1, hO.2.2.1, hO.2.2.2.1, hO.2.2.2.2.1, hl, hP, hO.2.2.2.2.2.2.2⟩
theorem OkW.toY {w : Wd} {st : Nat} {r p c : Int32} (hO : OkW w) (h : st ≤ 1) : OkW (w.toY st r p c) := ⟨hO.1, hO.2.1, hO.2.2.1, hO.2.2.2.1, hO.2.2.2.2.1, hO.2.2.2.2.2.1, hO.2.2.2.2.2.2.1, h⟩
theorem OkW.toK {w : Wd} {K : Nat → Nat} (hO : OkW w) (h : Ok K) : OkW (w.toK K) := ⟨hO.1, hO.2.1, hO.2.2.1, show 1 ≤ 1 by decide, fun _ => h, hO.2.2.2.2.2.1, hO.2.2.2.2.2.2.1, hO.2.2.2.2.2.2.2⟩
theorem okw_weight {w : Wd} (hO : OkW w) (x y : Int32) : OkW (opWeight x y w).2 := by
  unfold opWeight
  by_cases h : (0 ≤ x ∧ x ≤ 5) ∧ 1 ≤ y ∧ y ≤ 9
  · rw [if_pos h]
    obtain ⟨i, i1, rfl⟩ := in_ex (b := 5) (by decide) h.1.1 h.1.2
    obtain ⟨v, v1, v2, rfl⟩ := in_ex2 (a := 1) (b := 9) (by decide) (by decide) h.2.1 h.2.2
    rw [nI_clamp (by omega), nI_clamp (by omega)]
    exact (keepW_ok hO).toA (ok_low hO.1 (by omega) (fun h => by omega) (fun h => by omega) (fun _ => ⟨v1, v2⟩))
  · rw [if_neg h]; exact hO
theorem okw_set {w : Wd} (hO : OkW w) (x y : Int32) : OkW (opSet x y w).2 := by
  unfold opSet
  by_cases h : x = 0 ∧ 1 ≤ y ∧ y ≤ 30
  · rw [if_pos h]
    obtain ⟨v, v1, v2, rfl⟩ := in_ex2 (a := 1) (b := 30) (by decide) (by decide) h.2.1 h.2.2
    rw [nI_clamp (by omega)]
    exact (keepW_ok hO).toA (ok_low hO.1 (by omega) (fun _ => ⟨v1, v2⟩) (fun h => by omega) (fun h => by omega))
  · rw [if_neg h]
    by_cases h2 : x = 1 ∧ 9 ≤ y ∧ y ≤ 60
    · rw [if_pos h2]
      obtain ⟨v, v1, v2, rfl⟩ := in_ex2 (a := 9) (b := 60) (by decide) (by decide) h2.2.1 h2.2.2
      rw [nI_clamp (by omega)]
      exact (keepW_ok hO).toA (ok_low hO.1 (by omega) (fun h => by omega) (fun _ => ⟨v1, v2⟩) (fun h => by omega))
    · rw [if_neg h2]; exact hO
theorem okw_day {w : Wd} (hO : OkW w) : OkW (opDay w).2 := (keepW_ok hO).toA (ok_low hO.1 (by omega) (fun h => by omega) (fun h => by omega) (fun h => by omega))
theorem okw_save {w : Wd} (hO : OkW w) : OkW (opSave w).2 := hO.toK hO.1
theorem okw_restore {w : Wd} (hO : OkW w) : OkW (opRestore w).2 := by
  unfold opRestore
  by_cases h : w.sv = 0
  · rw [if_pos h]; exact hO
  · rw [if_neg h]; exact (keepW_ok hO).toA (hO.2.2.2.2.1 (by have := hO.2.2.2.1; omega))
theorem okw_undo {w : Wd} (hO : OkW w) : OkW (opUndo w).2 := by
  unfold opUndo
  by_cases h : w.h = 0
  · rw [if_pos h]; exact hO
  · rw [if_neg h]
    have h4 := hO.2.1
    exact (hO.toA (hO.2.2.1 (w.h - 1) (by omega))).toH (by omega) (fun i hi => hO.2.2.1 i (by omega))
theorem okw_clear {w : Wd} (hO : OkW w) : OkW (opClear w).2 := hO.toP (Nat.zero_le _) (fun i hi => by omega)
theorem okw_append {w : Wd} (hO : OkW w) (x : Int32) : OkW (opAppend x w).2 := by
  unfold opAppend
  by_cases h : 33 ≤ x ∧ x ≤ 126
  · rw [if_pos h]
    obtain ⟨v, v1, v2, rfl⟩ := in_ex2 (a := 33) (b := 126) (by decide) (by decide) h.1 h.2
    by_cases h2 : w.l < 60
    · rw [if_pos h2, nI_clamp (by omega)]
      refine hO.toP (by omega) (fun i hi => ?_)
      by_cases e : i = w.l
      · rw [e, updN_s]; exact ⟨v1, v2⟩
      · rw [updN_n e]; exact hO.2.2.2.2.2.2.1 i (by omega)
    · rw [if_neg h2]; exact hO
  · rw [if_neg h]; exact hO
theorem okw_stay {w : Wd} (hO : OkW w) (x y : Int32) : OkW (opStay x y w).2 := by
  have hn := hO.1.n
  unfold opStay
  rcases ix_cases x (n := w.A 3) (by omega) with ⟨e, he, rfl⟩ | ⟨hx, hx2⟩
  · rw [ixO_s (by omega) he]
    by_cases h2 : 0 ≤ y ∧ y ≤ 30
    · simp only [if_pos h2]
      exact (keepW_ok hO).toA (ok_ed hO.1 he (by omega) (fun h => by omega))
    · simp only [if_neg h2]; exact hO
  · rw [hx2]; exact hO
theorem okw_drop {w : Wd} (hO : OkW w) (x : Int32) : OkW (opDrop x w).2 := by
  have hn := hO.1.n
  unfold opDrop
  rcases ix_cases x (n := w.A 3) (by omega) with ⟨e, he, rfl⟩ | ⟨hx, hx2⟩
  · rw [ixO_s (by omega) he]; exact (keepW_ok hO).toA (ok_drop hO.1 he)
  · rw [hx2]; exact hO
theorem okw_over {w : Wd} (hO : OkW w) (x : Int32) : OkW (opOver x w).2 := by
  have hm := hO.1.m
  unfold opOver
  rcases ix_cases x (n := w.A 4) (by omega) with ⟨r, hr, rfl⟩ | ⟨hx, hx2⟩
  · rw [ixO_s (by omega) hr]
    by_cases h2 : w.A (18 + 6 * r) = 0
    · simp only [if_pos h2]; exact (keepW_ok hO).toA (ok_over hO.1 hr)
    · simp only [if_neg h2]; exact hO
  · rw [hx2]; exact hO
theorem okw_rule {w : Wd} (hO : OkW w) (x y : Int32) {c : Nat} (hc : c ≤ 1) (f t : Int32) : OkW (opRule x y c f t w).2 := by
  have hm := hO.1.m
  unfold opRule
  by_cases h : ((0 ≤ x ∧ x ≤ 5) ∧ (0 ≤ y ∧ y ≤ 5) ∧ 1 ≤ f ∧ f ≤ 20) ∧ -1 ≤ t ∧ t ≤ nI (w.A 4) - 1
  · rw [if_pos h]
    by_cases h2 : w.A 4 < 10
    · rw [if_pos h2]
      rcases ct_cases t hm with ⟨q, q1, q2, -⟩ | q3
      · obtain ⟨i, i1, rfl⟩ := in_ex (b := 5) (by decide) h.1.1.1 h.1.1.2
        obtain ⟨j, j1, rfl⟩ := in_ex (b := 5) (by decide) h.1.2.1.1 h.1.2.1.2
        obtain ⟨v, v1, v2, rfl⟩ := in_ex2 (a := 1) (b := 20) (by decide) (by decide) h.1.2.2.1 h.1.2.2.2
        rw [q2, ct_1, nI_clamp (by omega), nI_clamp (by omega), nI_clamp (by omega), nI_clamp (by omega)]
        exact (keepW_ok hO).toA (ok_rule hO.1 (by omega) (by omega) hc ⟨v1, v2⟩ q1 h2)
      · exact absurd h.2 q3
    · rw [if_neg h2]; exact hO
  · rw [if_neg h]; exact hO
theorem okw_sue {w : Wd} (hO : OkW w) (x y : Int32) : OkW (opSue x y w).2 := by
  have hn := hO.1.n
  unfold opSue
  rcases ix_cases x (n := w.A 3) (by omega) with ⟨e, he, rfl⟩ | ⟨hx, hx2⟩
  · have hK := hO.1.e e he
    have h12 := hK.2.1
    rw [ixO_s (by omega) he]
    rcases ix_cases y (n := w.A (73 + 16 * e) - 1) (by omega) with ⟨g, hg, rfl⟩ | ⟨hy, hy2⟩
    · simp only [ixO_s (show w.A (73 + 16 * e) - 1 < 2 ^ 31 by omega) hg]
      exact (keepW_ok hO).toA (ok_dec hO.1 he (by omega))
    · simp only [hy2]; exact hO
  · rw [hx2]; exact hO
theorem okw_print {w : Wd} (hO : OkW w) : OkW (opPrint w).2 := by
  unfold opPrint
  cases he : edQ w with
  | some t => exact hO
  | none =>
    simp only
    by_cases h1 : isLk w = true
    · rw [if_pos h1]; exact hO
    · rw [if_neg h1]
      by_cases h4 : w.A 3 < 4
      · rw [if_pos h4]
        obtain ⟨g1, g2, g3, g4⟩ := edF_ok w.l 0 1 0 he rfl (by decide) (fun h => by omega) (by show 0 < 1; decide)
        rw [Nat.zero_add] at g1 g2 g3 g4
        have t4 : ∀ j, wdT w (0 + 4 + j) = kK w.P w.l j := fun j => by
          unfold wdT txT
          rw [if_neg (by omega), if_neg (by omega), if_neg (by omega), show 0 + 4 + j - 4 = j by omega]
        have hT : OkE (wdT w) 0 := ⟨g2, g3, g4, fun j hj => by rw [t4]; exact kK_6 w.l (fun i hi => g1 i (Nat.zero_le _) hi) j, fun j hj hj2 => by rw [t4]; exact kK_0 w.l j hj⟩
        exact ((keepW_ok hO).toA (ok_print hO.1 hT h4)).toP (Nat.zero_le _) (fun i hi => by omega)
      · rw [if_neg h4]; exact hO
theorem okw_pl {P : Nat → Nat} {l : Nat} : ∀ (k j n : Nat) (A : Nat → Nat), Ok A → Ok (plS P l k j n A).1
  | 0, _, _, _, h => h
  | k + 1, j, n, A, h => by
    rw [plS]
    by_cases g : l ≤ j
    · rw [if_pos g]; exact h
    · rw [if_neg g]
      cases hd : (doP P l A j).2 with
      | none => exact okw_pl k _ _ _ (ok_doP h)
      | some v => exact ok_doP h
theorem okw_plead {w : Wd} (hO : OkW w) : OkW (opPlead w).2 := by
  unfold opPlead
  cases he : suQ w with
  | some t => exact hO
  | none =>
    have h1 := okw_pl (P := w.P) (l := w.l) (w.l + 1) 0 0 w.A hO.1
    show OkW (plW (keepW w) (plS w.P w.l (w.l + 1) 0 0 w.A))
    unfold plW
    cases (plS w.P w.l (w.l + 1) 0 0 w.A).2.2 with
    | none => exact (((keepW_ok hO).toY (by decide)).toA h1).toP (Nat.zero_le _) (fun i hi => by omega)
    | some q => exact (((keepW_ok hO).toY (by decide)).toA h1).toP (Nat.zero_le _) (fun i hi => by omega)
