/-! PURE: the reference: the pad read as an edition -/
def ScX (M M2 : Mem) : Prop := Sm (fun q => q = 150) M M2 ∧ ∀ k, k < 7 ∨ 13 < k → gI M2 150 k = gI M 150 k
theorem ScX.rf {M : Mem} : ScX M M := ⟨Sm.rf, fun _ _ => rfl⟩
theorem ScX.tr {M M2 M3 : Mem} (h : ScX M M2) (h2 : ScX M2 M3) : ScX M M3 := ⟨h.1.tr h2.1, fun k hk => (h2.2 k hk).trans (h.2 k hk)⟩
theorem ScX.p {M M2 : Mem} {k : Nat} {v : Int32} (h : ScX M M2) (h7 : 7 ≤ k) (h13 : k ≤ 13) : ScX M (sI M2 150 k v) := ⟨h.1.p1, fun j hj => by rw [gI_n (Or.inr (by omega))]; exact h.2 j hj⟩
theorem MI.sc {M M2 : Mem} {w : Wd} (hM : MI M w) (h : ScX M M2) : MI M2 w := hM.fr (h.1.mono (fun r h => Or.inl h)) (fun k hk => h.2 k (by omega))
theorem MPad.sc {M M2 : Mem} {l : Nat} {P : Nat → Nat} (hP : MPad M l P) (h : ScX M M2) : MPad M2 l P := ⟨(h.2 6 (by decide)).trans hP.1, fun i hi => (h.1.1 _ _ (by decide)).trans (hP.2 i hi)⟩
theorem ScX.ge {M M2 : Mem} (h : ScX M M2) : Sm MX M M2 := h.1.mono (fun r h => by unfold MX; omega)
def hrN (P : Nat → Nat) (l j : Nat) : Nat := if j < l then P j else 0
theorem hrN_le {P : Nat → Nat} {l : Nat} (hc : ∀ i, i < l → P i ≤ 126) (j : Nat) : hrN P l j ≤ 126 := by
  unfold hrN
  split
  · rename_i h; exact hc j h
  · omega
theorem m_here {M : Mem} {l : Nat} {P : Nat → Nat} (hP : MPad M l P) (hl : l ≤ 60) {j : Nat} (hj : j < 1000) (h7 : gI M 150 7 = nI j) : f_X6_here 150 M = some (nI (hrN P l j)) := by
  unfold f_X6_here hrN
  rw [gdd_t mk.1, hP.1, h7]
  by_cases h : j < l
  · rw [if_neg (nI_nle' (by omega) (by omega) h), if_pos h, mk.2.2.2.2.1, gdd_t mr.2.2.2.1, ml.2.2.2.1, gdd_t (inb_nI (by omega) (by decide)), nI_clamp (by omega), hP.2 j h]
  · rw [if_pos (nI_le' (by omega) (by omega) (by omega)), if_neg h]; rfl
theorem m_tk1 {M : Mem} {x : Int32} {j : Nat} (h8 : gI M 150 8 = nI 1) (h7 : gI M 150 7 = nI j) (hx : ¬ x = 0) : ∃ M2, f_X6_takes 150 x M = some M2 ∧ ScX M M2 ∧ gI M2 150 7 = nI (j + 1) ∧ gI M2 150 8 = nI 1 ∧ ∀ k, k ≠ 7 → k ≠ 8 → gI M2 150 k = gI M 150 k := by
  refine ⟨sI (sI M 150 8 1) 150 7 (nI (j + 1)), ?_, (ScX.rf.p (by decide) (by decide)).p (by decide) (by decide), gI_s, by rw [gI_n (Or.inr (by decide)), gI_s]; rfl, fun k h1 h2 => by rw [gI_n (Or.inr h1), gI_n (Or.inr h2)]⟩
  unfold f_X6_takes
  rw [gdd_t mk.1, h8, if_neg (by decide), if_neg hx]
  simp only [bvv_e]
  rw [gI_s, if_neg (by decide), gI_n (Or.inr (by decide)), h7, nI_1]
theorem m_tk0 {M : Mem} {x : Int32} {j : Nat} (h : gI M 150 8 = nI 0 ∨ x = 0) (h7 : gI M 150 7 = nI j) : ∃ M2, f_X6_takes 150 x M = some M2 ∧ ScX M M2 ∧ gI M2 150 7 = nI j ∧ gI M2 150 8 = nI 0 ∧ ∀ k, k ≠ 7 → k ≠ 8 → gI M2 150 k = gI M 150 k := by
  refine ⟨sI (sI M 150 8 0) 150 7 (nI j), ?_, (ScX.rf.p (by decide) (by decide)).p (by decide) (by decide), gI_s, by rw [gI_n (Or.inr (by decide)), gI_s]; rfl, fun k h1 h2 => by rw [gI_n (Or.inr h1), gI_n (Or.inr h2)]⟩
  unfold f_X6_takes
  rw [gdd_t mk.1]
  by_cases h8 : gI M 150 8 = 0
  · rw [if_pos h8]
    simp only [bvv_e]
    rw [gI_s, if_pos rfl, gI_n (Or.inr (by decide)), h7, Int32.add_zero]
  · rw [if_neg h8, if_pos (h.resolve_left h8)]
    simp only [bvv_e]
    rw [gI_s, if_pos rfl, gI_n (Or.inr (by decide)), h7, Int32.add_zero]
def wRes (o : Option (Int32 × Mem)) (M : Mem) (P : Nat → Nat) (l : Nat) : Option Nat → Prop
  | none => ∃ M2, o = some (1, M2) ∧ ScX M M2 ∧ gI M2 150 9 = nI (wN P l) ∧ gI M2 150 10 = nI (cN P l)
  | some t => ∃ M2, o = some (0, M2) ∧ ScX M M2 ∧ gI M2 150 7 = nI t
theorem wRes.tr {o : Option (Int32 × Mem)} {M M1 : Mem} {P : Nat → Nat} {l : Nat} {q : Option Nat} (h : ScX M M1) (h2 : wRes o M1 P l q) : wRes o M P l q := by
  cases q with
  | none => obtain ⟨M2, r1, r2, r3⟩ := h2; exact ⟨M2, r1, h.tr r2, r3⟩
  | some t => obtain ⟨M2, r1, r2, r3⟩ := h2; exact ⟨M2, r1, h.tr r2, r3⟩
theorem edF_fl {P : Nat → Nat} {r wd fl j : Nat} (h : P j ≠ 44) : edF P (r + 1) wd fl j = edF P (r + 1) wd 1 j := by
  rw [edF, edF, if_neg h, if_neg h]
theorem edF_12 {P : Nat → Nat} {r j : Nat} : edF P (r + 1) 12 0 j = some j := by
  rw [edF]
  repeat' split
  all_goals first | rfl | omega
section ISW
variable {l : Nat} {P : Nat → Nat}
/-- three writes -/
theorem w3 {M : Mem} {a b c : Int32} : ScX M (sI (sI (sI M 150 9 a) 150 10 b) 150 7 c) := ((ScX.rf.p (by decide) (by decide)).p (by decide) (by decide)).p (by decide) (by decide)
theorem g98 {M : Mem} {v : Int32} : gI (sI M 150 9 v) 150 8 = gI M 150 8 := gI_n (Or.inr (by decide))
theorem g96 {M : Mem} {v : Int32} : gI (sI M 150 9 v) 150 6 = gI M 150 6 := gI_n (Or.inr (by decide))
theorem g97 {M : Mem} {v : Int32} : gI (sI M 150 9 v) 150 7 = gI M 150 7 := gI_n (Or.inr (by decide))
theorem g9a {M : Mem} {v : Int32} : gI (sI M 150 9 v) 150 10 = gI M 150 10 := gI_n (Or.inr (by decide))
theorem ga8 {M : Mem} {v : Int32} : gI (sI M 150 10 v) 150 8 = gI M 150 8 := gI_n (Or.inr (by decide))
theorem ga6 {M : Mem} {v : Int32} : gI (sI M 150 10 v) 150 6 = gI M 150 6 := gI_n (Or.inr (by decide))
theorem ga7 {M : Mem} {v : Int32} : gI (sI M 150 10 v) 150 7 = gI M 150 7 := gI_n (Or.inr (by decide))
theorem ga9 {M : Mem} {v : Int32} : gI (sI M 150 10 v) 150 9 = gI M 150 9 := gI_n (Or.inr (by decide))
theorem g78 {M : Mem} {v : Int32} : gI (sI M 150 7 v) 150 8 = gI M 150 8 := gI_n (Or.inr (by decide))
theorem g76 {M : Mem} {v : Int32} : gI (sI M 150 7 v) 150 6 = gI M 150 6 := gI_n (Or.inr (by decide))
theorem g79 {M : Mem} {v : Int32} : gI (sI M 150 7 v) 150 9 = gI M 150 9 := gI_n (Or.inr (by decide))
theorem g7a {M : Mem} {v : Int32} : gI (sI M 150 7 v) 150 10 = gI M 150 10 := gI_n (Or.inr (by decide))
theorem m_wEnd {M : Mem} {n t : Nat} (hl : l ≤ 60) (ht : t ≤ 60) (h6 : gI M 150 6 = nI l) (h7 : gI M 150 7 = nI t) (h8 : gI M 150 8 = nI 1) : f_X6_isWords_22 (n + 1) 150 0 M = some (if t = l then 1 else 0, M) := by
  rw [f_X6_isWords_22, if_pos rfl, gdd_t mk.1, h8, if_neg (by decide), h6, h7]
  by_cases h : t = l
  · rw [if_pos (by rw [h]), if_pos h]
  · rw [if_neg (nI_ne (by omega) (by omega) h), if_neg h]
theorem in_let : ∀ c, c < 127 → f_X6_in (nI c) 97 102 = if 97 ≤ c ∧ c ≤ 102 then 1 else 0 := by decide +kernel
theorem m_isWL (hl : l ≤ 60) (hc : ∀ i, i < l → P i ≤ 126) : ∀ (n j : Nat) (M : Mem), j ≤ l → l - j + 1 < n → MPad M l P → gI M 150 7 = nI j → gI M 150 8 = nI 1 → gI M 150 9 = nI (wN P j) → gI M 150 10 = nI (cN P j) → wN P j < 12 → wRes (f_X6_isWords_22 n 150 1 M) M P l (edF P (l - j) (wN P j) 1 j) := by
  intro n
  induction n with
  | zero => intro _ _ _ h; omega
  | succ n ih =>
    intro j M hj hn hP h7 h8 h9 h10 hw
    obtain ⟨n, rfl⟩ : ∃ m, n = m + 1 := ⟨n - 1, by omega⟩
    have hh := hrN_le hc j
    rw [f_X6_isWords_22, if_neg (by decide), gdd_t mk.1, m_here hP hl (by omega) h7, obb_s, in_let _ (by omega)]
    by_cases h1 : 97 ≤ hrN P l j ∧ hrN P l j ≤ 102
    · have hlt : j < l := by
        rcases Nat.lt_or_ge j l with g | g
        · exact g
        · unfold hrN at h1; rw [if_neg (by omega)] at h1; omega
      have hPj : 97 ≤ P j ∧ P j ≤ 102 := by unfold hrN at h1; rw [if_pos hlt] at h1; exact h1
      obtain ⟨M1, r1, r2, r3, r4, r5⟩ := m_tk1 (x := 1) h8 h7 (by decide)
      have e9 : wN P (j + 1) = wN P j + 1 := by rw [wN, if_neg (by omega)]
      have e10 : cN P (j + 1) = cN P j := by rw [cN, if_neg (by omega)]
      have hP1 := hP.sc r2
      have eF : edF P (l - j) (wN P j) 1 j = edF P (l - (j + 1)) (wN P (j + 1)) 0 (j + 1) := by
        rw [show l - j = l - (j + 1) + 1 by omega, edF, if_pos hPj, if_pos hw, e9]
      rw [if_pos h1, r1, obb_s, r4, if_neg (by decide), eF, r5 9 (by decide) (by decide), h9, nI_1, ← e9]
      simp only [bvv_e, g98, g96, g97, g9a, ga8, ga6, ga7, ga9, g78, g76, g79, g7a, gI_s, r3, r4, r5 10 (by decide) (by decide), h10, r5 6 (by decide) (by decide), hP.1]
      rw [if_neg (by decide), show (12 : Int32) = nI 12 from rfl, show (0 : Int32) = nI 0 from rfl, nx_or, Nat.or_zero, nI_add, Nat.add_zero, ← e10]
      by_cases h12 : wN P (j + 1) = 12
      · rw [if_pos (nI_le' (by omega) (by omega) (by omega)), if_neg (by decide), if_pos (nI_le' (by omega) (by omega) (by omega)), show (nI 0 : Int32) = 0 from rfl, m_wEnd (l := l) (t := j + 1) hl (by omega) (by rw [g76, ga6, g96, hP1.1]) gI_s (by rw [g78, ga8, g98, r4])]
        by_cases hz : j + 1 = l
        · rw [if_pos hz, hz, Nat.sub_self]
          unfold edF
          rw [if_pos rfl]
          exact ⟨_, rfl, r2.tr w3, by rw [g79, ga9, gI_s], by rw [g7a, gI_s]⟩
        · rw [if_neg hz, show l - (j + 1) = l - (j + 2) + 1 by omega, h12, edF_12]
          exact ⟨_, rfl, r2.tr w3, gI_s⟩
      · have hw1 : wN P (j + 1) < 12 := by omega
        have hS9 : ScX M1 (sI M1 150 9 (nI (wN P (j + 1)))) := ScX.rf.p (by decide) (by decide)
        rw [if_neg (nI_nle' (by omega) (by omega) hw1), m_here (hP1.sc hS9) hl (show j + 1 < 1000 by omega) (by rw [g97]; exact r3), obb_s, show (44 : Int32) = nI 44 from rfl]
        have hh2 := hrN_le hc (j + 1)
        by_cases h44 : hrN P l (j + 1) = 44
        · have hlt2 : j + 1 < l := by
            rcases Nat.lt_or_ge (j + 1) l with g | g
            · exact g
            · unfold hrN at h44; rw [if_neg (by omega)] at h44; omega
          have hP2 : P (j + 1) = 44 := by unfold hrN at h44; rw [if_pos hlt2] at h44; exact h44
          have f9 : wN P (j + 2) = wN P (j + 1) := by rw [wN, if_pos hP2]
          have f10 : cN P (j + 2) = cN P (j + 1) ||| 2 ^ (wN P (j + 1) - 1) := by rw [cN, if_pos hP2]
          have eG : edF P (l - (j + 1)) (wN P (j + 1)) 0 (j + 1) = edF P (l - (j + 2)) (wN P (j + 2)) 1 (j + 2) := by
            rw [show l - (j + 1) = l - (j + 2) + 1 by omega, edF, if_neg (by omega), if_pos hP2, if_pos rfl, if_pos hw1, f9]
          rw [if_pos (by rw [h44]), if_neg (by decide), nI_sub1 (by omega), p_shl1 (by omega), nx_or, nI_1, ← f10, eG]
          refine wRes.tr (r2.tr w3) (ih (j + 2) _ (by omega) (by omega) (hP1.sc w3) gI_s (by rw [g78, ga8, g98, r4]) ?_ (by rw [g7a, gI_s]) (by omega))
          rw [g79, ga9, gI_s, f9]
        · rw [if_neg (nI_ne (by omega) (by decide) h44), if_neg (by decide), if_neg (nI_nle' (by omega) (by omega) hw1)]
          by_cases hz : l ≤ j + 1
          · have hz2 : j + 1 = l := by omega
            rw [if_pos (nI_le' (by omega) (by omega) hz), show (nI 0 : Int32) = 0 from rfl, m_wEnd (l := l) (t := j + 1) hl (by omega) (by rw [g76, ga6, g96, hP1.1]) gI_s (by rw [g78, ga8, g98, r4]), if_pos hz2, hz2, Nat.sub_self]
            unfold edF
            rw [if_pos rfl]
            exact ⟨_, rfl, r2.tr w3, by rw [g79, ga9, gI_s], by rw [g7a, gI_s]⟩
          · have hne : P (j + 1) ≠ 44 := by unfold hrN at h44; rw [if_pos (by omega)] at h44; exact h44
            have eG : edF P (l - (j + 1)) (wN P (j + 1)) 0 (j + 1) = edF P (l - (j + 1)) (wN P (j + 1)) 1 (j + 1) := by
              rw [show l - (j + 1) = l - (j + 2) + 1 by omega, edF_fl hne]
            rw [if_neg (nI_nle' (by omega) (by omega) (by omega)), eG]
            exact wRes.tr (r2.tr w3) (ih (j + 1) _ (by omega) (by omega) (hP1.sc w3) gI_s (by rw [g78, ga8, g98, r4]) (by rw [g79, ga9, gI_s]) (by rw [g7a, gI_s]) hw1)
    · obtain ⟨M1, r1, r2, r3, r4, r5⟩ := m_tk0 (x := 0) (Or.inr rfl) h7
      have eF : edF P (l - j) (wN P j) 1 j = some j := by
        by_cases hz : j = l
        · rw [hz, Nat.sub_self]; rfl
        · have hPj : ¬ (97 ≤ P j ∧ P j ≤ 102) := by unfold hrN at h1; rw [if_pos (by omega)] at h1; exact h1
          rw [show l - j = l - (j + 1) + 1 by omega, edF, if_neg hPj]
          split
          · rfl
          · rfl
      rw [if_neg h1, r1, obb_s, r4, if_pos (by rfl), eF]
      simp only [bvv_e, g98, g96, g97, g9a, ga8, ga6, ga7, ga9, g78, g76, g79, g7a, gI_s, r3, r4]
      rw [if_pos (by rfl), if_pos (by rfl), f_X6_isWords_22, if_pos rfl, gdd_t mk.1, g78, ga8, g98, r4, if_pos (by rfl)]
      exact ⟨_, rfl, r2.tr w3, by rw [gI_s, Int32.add_zero]⟩
theorem m_isW {M : Mem} {w : Wd} (hO : OkW w) (hM : MI M w) : wRes (f_X6_isWords 150 M) M w.P w.l (edQ w) := by
  have hl := hO.2.2.2.2.2.1
  have hS : ScX M (sI (sI (sI (sI M 150 7 0) 150 8 1) 150 9 0) 150 10 0) := (((ScX.rf.p (by decide) (by decide)).p (by decide) (by decide)).p (by decide) (by decide)).p (by decide) (by decide)
  unfold f_X6_isWords
  rw [gdd_t mk.1]
  simp only [bvv_e]
  exact wRes.tr hS (m_isWL hl (fun i hi => (hO.2.2.2.2.2.2.1 i hi).2) FU 0 _ (Nat.zero_le _) (by unfold FU; omega) (hM.2.2.2.1.sc hS) (by rw [ga7, g97, gI_n (Or.inr (by decide)), gI_s]; rfl) (by rw [ga8, g98, gI_s]; rfl) (by rw [ga9, gI_s]; rfl) (by rw [gI_s]; rfl) (show 0 < 12 by decide))
end ISW
