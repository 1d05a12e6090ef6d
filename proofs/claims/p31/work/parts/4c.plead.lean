/-! PURE: plead, the class: the parts of a text -/
def prL (P : Nat → Nat) (l j : Nat) : Nat := if P j = 43 then 1 else if P (j + 2) = 49 ∧ j + 3 < l ∧ P (j + 3) = 48 then 4 else 3
def prG (P : Nat → Nat) (l j : Nat) : Nat := if P (j + 2) = 49 ∧ j + 3 < l ∧ P (j + 3) = 48 then 10 else P (j + 2) - 48
def SuP (P : Nat → Nat) (l j : Nat) : Prop := j + prL P l j ≤ l ∧ (P j ≠ 43 → (48 ≤ P j ∧ P j ≤ 51) ∧ P (j + 1) = 58 ∧ (48 ≤ P (j + 2) ∧ P (j + 2) ≤ 57) ∧ (j + 3 < l → P (j + 3) = 59 ∨ P (j + 2) = 49 ∧ P (j + 3) = 48)) ∧ (j + prL P l j = l ∨ (j + prL P l j < l ∧ P (j + prL P l j) = 59 ∧ suF P (l - (j + prL P l j + 1)) 0 (j + prL P l j + 1) = none))
theorem suS {P : Nat → Nat} {l s k : Nat} (h : k < l) : suF P (l - k) s k = match dueN s (P k) with
    | none => some k
    | some t => suF P (l - (k + 1)) t (k + 1) := by
  rw [show l - k = l - (k + 1) + 1 by omega, suF]
  cases dueN s (P k) <;> rfl
theorem su_e {P : Nat → Nat} {l s k : Nat} (hs : s ≠ 3 ∧ s ≠ 4) (h : suF P (l - k) s k = none) : k < l := by
  rcases Nat.lt_or_ge k l with g | g
  · exact g
  · rw [show l - k = 0 by omega, suF, if_neg (by omega)] at h; cases h
theorem su_4 {P : Nat → Nat} {l k : Nat} (hk : k ≤ l) (h : suF P (l - k) 4 k = none) : k = l ∨ (k < l ∧ P k = 59 ∧ suF P (l - (k + 1)) 0 (k + 1) = none) := by
  by_cases e : k = l
  · exact Or.inl e
  · have g : k < l := by omega
    rw [suS g] at h
    by_cases c : P k = 59
    · rw [show dueN 4 (P k) = some 0 by rw [c]; rfl] at h
      exact Or.inr ⟨g, c, h⟩
    · rw [show dueN 4 (P k) = none by unfold dueN; rw [if_neg (by decide), if_neg (by decide), if_neg (by decide), if_neg (by decide), if_neg c]] at h
      cases h
theorem su_part {P : Nat → Nat} {l j : Nat} (h : suF P (l - j) 0 j = none) : j < l ∧ SuP P l j := by
  have hj := su_e (by decide) h
  refine ⟨hj, ?_⟩
  rw [suS hj] at h
  unfold SuP prL
  by_cases c : P j = 43
  · rw [show dueN 0 (P j) = some 4 by rw [c]; rfl] at h
    rw [if_pos c]
    exact ⟨by omega, fun e => absurd c e, su_4 (by omega) h⟩
  · by_cases c2 : 48 ≤ P j ∧ P j ≤ 51
    · rw [show dueN 0 (P j) = some 1 by unfold dueN; rw [if_pos rfl, if_neg c, if_pos c2]] at h
      rw [if_neg c]
      have h : suF P (l - (j + 1)) 1 (j + 1) = none := h
      have h1 := su_e (by decide) h
      rw [suS h1] at h
      by_cases c3 : P (j + 1) = 58
      · rw [show dueN 1 (P (j + 1)) = some 2 by rw [c3]; rfl] at h
        have h : suF P (l - (j + 2)) 2 (j + 2) = none := h
        have h2 := su_e (by decide) h
        rw [suS h2] at h
        by_cases c4 : P (j + 2) = 49
        · rw [show dueN 2 (P (j + 2)) = some 3 by rw [c4]; rfl] at h
          have h : suF P (l - (j + 3)) 3 (j + 3) = none := h
          by_cases e : j + 3 = l
          · rw [if_neg (by omega)]
            exact ⟨by omega, fun _ => ⟨c2, c3, by omega, fun z => by omega⟩, Or.inl e⟩
          · have h3 : j + 3 < l := by omega
            rw [suS h3] at h
            by_cases c5 : P (j + 3) = 48
            · rw [show dueN 3 (P (j + 3)) = some 4 by rw [c5]; rfl] at h
              rw [if_pos ⟨c4, h3, c5⟩]
              exact ⟨by omega, fun _ => ⟨c2, c3, by omega, fun _ => Or.inr ⟨c4, c5⟩⟩, su_4 (by omega) h⟩
            · rw [if_neg (fun z => c5 z.2.2)]
              by_cases c6 : P (j + 3) = 59
              · rw [show dueN 3 (P (j + 3)) = some 0 by rw [c6]; rfl] at h
                exact ⟨by omega, fun _ => ⟨c2, c3, by omega, fun _ => Or.inl c6⟩, Or.inr ⟨h3, c6, h⟩⟩
              · rw [show dueN 3 (P (j + 3)) = none by unfold dueN; rw [if_neg (by decide), if_neg (by decide), if_neg (by decide), if_pos rfl, if_neg c5, if_neg c6]] at h
                cases h
        · rw [if_neg (fun z => c4 z.1)]
          by_cases c5 : 48 ≤ P (j + 2) ∧ P (j + 2) ≤ 57
          · rw [show dueN 2 (P (j + 2)) = some 4 by unfold dueN; rw [if_neg (by decide), if_neg (by decide), if_pos rfl, if_neg c4, if_pos c5]] at h
            have g := su_4 (by omega) h
            exact ⟨by omega, fun _ => ⟨c2, c3, c5, fun z => Or.inl (g.elim (fun g => absurd z (by omega)) (fun g => g.2.1))⟩, g⟩
          · rw [show dueN 2 (P (j + 2)) = none by unfold dueN; rw [if_neg (by decide), if_neg (by decide), if_pos rfl, if_neg c4, if_neg c5]] at h
            cases h
      · rw [show dueN 1 (P (j + 1)) = none by unfold dueN; rw [if_neg (by decide), if_pos rfl, if_neg c3]] at h
        cases h
    · rw [show dueN 0 (P j) = none by unfold dueN; rw [if_pos rfl, if_neg c, if_neg c2]] at h
      cases h
/-- what one part does -/
def doP (P : Nat → Nat) (l : Nat) (A : Nat → Nat) (j : Nat) : (Nat → Nat) × Option Int32 :=
  if P j = 43 then (updN A 0 (A 0 + 1), none)
  else if P j - 48 < A 3 ∧ prG P l j + 1 < A (73 + 16 * (P j - 48)) then ((decA A (P j - 48) (prG P l j)).2, if rsnN A (73 + 16 * (P j - 48)) (prG P l j) = 0 then none else some (nI (rsnN A (73 + 16 * (P j - 48)) (prG P l j))))
  else (A, some (-1))
theorem ok_doP {P : Nat → Nat} {l j : Nat} {A : Nat → Nat} (hO : Ok A) : Ok (doP P l A j).1 := by
  unfold doP
  by_cases c : P j = 43
  · rw [if_pos c]; exact ok_low hO (by omega) (fun h => by omega) (fun h => by omega) (fun h => by omega)
  · rw [if_neg c]
    by_cases c2 : P j - 48 < A 3 ∧ prG P l j + 1 < A (73 + 16 * (P j - 48))
    · rw [if_pos c2]; exact ok_dec hO c2.1 c2.2
    · rw [if_neg c2]; exact hO
theorem rsn_0 {A : Nat → Nat} {o g : Nat} (h : rsnN A o g = 0) : costN A o (flN (A (o + 1)) g) < costN A o (A (o + 1)) := by
  unfold rsnN at h
  split at h
  · cases h
  · split at h
    · cases h
    · omega
def rsE (o : Option Int32) : Int32 := match o with
  | none => 0
  | some v => v
theorem doP_nz {P : Nat → Nat} {l j : Nat} {A : Nat → Nat} {v : Int32} (h : (doP P l A j).2 = some v) : v ≠ 0 := by
  unfold doP at h
  split at h
  · cases h
  · split at h
    · simp only at h
      split at h
      · cases h
      · rename_i hr
        cases h
        have := rsnN_lt (A := A) (73 + 16 * (P j - 48)) (prG P l j)
        exact fun e => hr ((nI_z (by omega)).mp e)
    · cases h; decide
theorem p_gapAt {M : Mem} {l : Nat} {P : Nat → Nat} (hP : PadR M l P) (hl : l ≤ 60) (hc : ∀ i, i < l → P i ≤ 126) {j : Nat} (hj : SuP P l j) (h43 : P j ≠ 43) (hjl : j < l) : f_X1_gapAt 3 (nI j + 2) M = some (nI (prG P l j)) := by
  obtain ⟨h1, h2, h3⟩ := hj
  obtain ⟨d1, d2, d3, d4⟩ := h2 h43
  have hlen : j + 2 < l := by
    have : 3 ≤ prL P l j := by unfold prL; rw [if_neg h43]; split <;> omega
    omega
  unfold f_X1_gapAt
  rw [gdd_t lay3.2.1, show nI j + 2 = nI (j + 2) from nI_add j 2, nI_1]
  by_cases e : j + 3 < l
  · rw [p_signAt hP hl (show j + 2 + 1 < l from e), obb_s, show (48 : Int32) = nI 48 from rfl, show (57 : Int32) = nI 57 from rfl, isW_nI (by decide) (by decide) (by have := hc (j + 2 + 1) e; omega)]
    rcases d4 e with g | ⟨g1, g2⟩
    · have g' : P (j + 2 + 1) = 59 := g
      rw [g', if_pos (by decide), p_signAt hP hl hlen, obb_s, pk_sub d3.1]
      unfold prG
      rw [if_neg (fun z => by rw [z.2.2] at g; cases g)]
    · have g' : P (j + 2 + 1) = 48 := g2
      rw [g', if_neg (by decide)]
      unfold prG
      rw [if_pos ⟨g1, e, g2⟩]
      rfl
  · rw [p_signAtO hP hl (show l ≤ j + 2 + 1 by omega) (by omega), obb_s, isW_0 (by decide), if_pos rfl, p_signAt hP hl hlen, obb_s, show (48 : Int32) = nI 48 from rfl, pk_sub d3.1]
    unfold prG
    rw [if_neg (fun z => e z.2.1)]
theorem p_part {M : Mem} {l : Nat} {P : Nat → Nat} {A : Nat → Nat} (hO : Ok A) (hR : RelS M 12 A) (hP : PadR M l P) (hl : l ≤ 60) (hc : ∀ i, i < l → P i ≤ 126) {j : Nat} (hj : SuP P l j) (hjl : j < l) : ∃ M2, f_X5_reasonOfPart 1 (nI j) M = some (rsE (doP P l A j).2, M2) ∧ Sm (fun r => 7 ≤ r ∧ r < 35) M M2 ∧ RelS M2 12 (doP P l A j).1 := by
  have ha := lay1.2.2.2
  have hn := hO.n
  unfold f_X5_reasonOfPart doP
  rw [gdd_t lay1.1, lay3.1, gdd_t lay3.2.1, p_signAt hP hl hjl, obb_s, show (43 : Int32) = nI 43 from rfl, lay1.2.1]
  have hcj := hc j hjl
  by_cases c : P j = 43
  · obtain ⟨t1, t2⟩ := rel_low hO hR (i := 0) (v := A 0 + 1) (by omega)
    rw [if_pos (by rw [c]), if_pos c, gdd_t ha, hR.d, nI_1, bvv_e]
    exact ⟨_, rfl, t2.mono (fun r h => by omega), t1⟩
  · obtain ⟨d1, d2, d3, d4⟩ := hj.2.1 c
    rw [if_neg (nI_ne (by omega) (by decide) c), obb_s, gdd_t ha, show (48 : Int32) = nI 48 from rfl, pk_sub d1.1, if_neg c]
    have hG := p_gapAt hP hl hc hj c hjl
    have hGl : prG P l j ≤ 10 := by unfold prG; split <;> omega
    by_cases he : P j - 48 < A 3
    · have ke := (st_ed ha (show P j - 48 < 4 by omega)).2
      have hK := hO.e _ he
      have hw := hK.2.1
      rw [p_edAt ha hR.n hn he, obb_s, hG, obb_s, if_neg (by omega), gdd_t ke]
      rcases p_gap ke (hR.e _ he) hK (nI (prG P l j)) with ⟨g, g1, g2, g3, g4⟩ | ⟨g3, g4⟩
      · have e : prG P l j = g := (nI_eq (by omega) (by omega)).mp g2
        subst e
        obtain ⟨M2, r1, r2, r3⟩ := p_decide hO hR he g1
        rw [g4, obb_s, if_neg (by decide), r1, opp_s, if_pos (And.intro he g1)]
        unfold decA at r3 ⊢
        by_cases h : rsnN A (73 + 16 * (P j - 48)) (prG P l j) = 0
        · have hlt := rsn_0 h
          have hle := costN_le hO hK (c := A (73 + 16 * (P j - 48) + 1))
          rw [if_pos h] at r3 ⊢
          simp only [if_pos h]
          rw [pk_sub (by omega), show (10 : Int32) = nI 10 from rfl, nI_add, if_neg (nI_nle' (by omega) (by decide) (by omega))]
          exact ⟨M2, rfl, r2, r3⟩
        · have hrl := rsnN_lt (A := A) (73 + 16 * (P j - 48)) (prG P l j)
          rw [if_neg h] at r3 ⊢
          simp only [if_neg h]
          rw [show (10 : Int32) = nI 10 from rfl, if_pos (nI_le' (by omega) (by decide) (by omega))]
          exact ⟨M2, rfl, r2, r3⟩
      · rw [g4, obb_s, if_pos rfl, if_neg (fun z => by rw [ixO_s (by omega) (show prG P l j < A (73 + 16 * (P j - 48)) - 1 by omega)] at g3; cases g3)]
        exact ⟨M, rfl, Sm.rf, hR⟩
    · rw [p_edAtO ha hR.n (Or.inr (nI_le' (by omega) (by omega) (by omega))), obb_s, hG, obb_s, if_pos rfl, if_neg (fun z => he z.1)]
      exact ⟨M, rfl, Sm.rf, hR⟩
