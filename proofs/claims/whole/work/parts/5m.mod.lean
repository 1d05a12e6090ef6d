/-! PURE: the reference: plead -/
theorem MI.why {M M2 : Mem} {w : Wd} {st : Nat} {r p c : Int32} (hM : MI M w) (hS : Sm (fun q => q = 150 ∨ q = 155) M M2) (h0 : ∀ k, k ≠ 14 → gI M2 150 k = gI M 150 k) (hy : gI M2 150 14 = nI st ∧ (st = 1 → gI M2 155 0 = r ∧ gI M2 155 1 = p ∧ gI M2 155 2 = c)) : MI M2 (w.toY st r p c) := by
  obtain ⟨m1, m2, m3, m4, m5⟩ := hM
  have n : ∀ r, r ≠ 150 → r ≠ 155 → ∀ k, gI M2 r k = gI M r k := fun r h1 h2 k => hS.1 r k (by omega)
  exact ⟨fun k hk => (n _ (by decide) (by decide) _).trans (m1 k hk), ⟨(h0 _ (by decide)).trans m2.1, fun i hi k hk => (n _ (by decide) (by decide) _).trans (m2.2 i hi k hk)⟩, ⟨(h0 _ (by decide)).trans m3.1, fun g k hk => (n _ (by decide) (by decide) _).trans (m3.2 g k hk)⟩, ⟨(h0 _ (by decide)).trans m4.1, fun i hi => (n _ (by decide) (by decide) _).trans (m4.2 i hi)⟩, hy⟩
def dRes (v : Int32) : Option Int32 → Prop
  | none => 10 ≤ v
  | some x => v = x ∧ ¬ 10 ≤ v
theorem m_does {M : Mem} {w : Wd} {A P : Nat → Nat} {l j : Nat} (hM : MI M (w.toA A)) (hO : Ok A) (hP : ∀ i, P i ≤ 126 ∨ l ≤ i) (hj : j + prL P l j ≤ l) (h13 : gI M 150 13 = nI (if P j = 43 then 1 else 0)) (hf : P j ≠ 43 → gI M 150 11 = nI (P j - 48) ∧ gI M 150 12 = nI (prG P l j)) : ∃ v M2, f_X6_doesSuit 150 M = some (v, M2) ∧ MI M2 (w.toA (doP P l A j).1) ∧ Sm (fun q => q = 151) M M2 ∧ dRes v (doP P l A j).2 := by
  have hR : RowR M 151 0 A := hM.1
  have hn := hO.n
  have hl1 : 1 ≤ prL P l j := by
    unfold prL
    repeat' split
    all_goals omega
  unfold f_X6_doesSuit doP
  rw [gdd_t mk.1, h13]
  by_cases c : P j = 43
  · rw [if_pos c, if_pos c, if_neg (by decide), mk.2.1, gdd_t mr.1, ml.1, gdd_t (by decide), show (0 : Int32).toNatClampNeg = 0 from rfl, hR.get (by decide), nI_1, bvv_e]
    exact ⟨_, _, rfl, MI.sa (w := w.toA A) hM Sm.rf.p1 (hR.put 0 (A 0 + 1)), Sm.rf.p1, show (10 : Int32) ≤ 10 by decide⟩
  · obtain ⟨f1, f2⟩ := hf c
    have hl3 : 3 ≤ prL P l j := by
      unfold prL
      rw [if_neg c]
      split <;> omega
    have p0 : P j ≤ 126 := by rcases hP j with h | h <;> omega
    have p2 : P (j + 2) ≤ 126 := by rcases hP (j + 2) with h | h <;> omega
    have hg126 : prG P l j ≤ 126 := by unfold prG; split <;> omega
    rw [if_neg c, if_neg c, if_pos (by rfl), f1, f2]
    by_cases he : P j - 48 < A 3
    · have hK := hO.e _ he
      have h12 := hK.2.1
      rcases m_isGap hR hO he (nI (prG P l j)) with ⟨g, g1, g2, g3, g4⟩ | ⟨g3, g4⟩
      · have eg : prG P l j = g := (nI_eq (by omega) (by omega)).mp g2
        obtain ⟨M2, r1, r2, r3⟩ := m_go (w := w) hM hO he g1
        rw [eg] at g4
        rw [eg, g4, obb_s, if_neg (by decide), r1, opp_s, if_pos (And.intro he g1)]
        refine ⟨_, M2, rfl, r2, r3, ?_⟩
        unfold decA
        by_cases hz : rsnN A (73 + 16 * (P j - 48)) g = 0
        · have hc := rsn_0 hz
          have c1 := costN_le hO hK (c := A (73 + 16 * (P j - 48) + 1))
          rw [if_pos hz]
          simp only [if_pos hz]
          show (10 : Int32) ≤ 10 + _
          rw [pk_sub (by omega), show (10 : Int32) = nI 10 from rfl, nI_add]
          exact nI_le' (by omega) (by omega) (by omega)
        · have hrl := rsnN_lt (A := A) (73 + 16 * (P j - 48)) g
          rw [if_neg hz]
          simp only [if_neg hz]
          exact ⟨rfl, nI_nle' (a := 10) (by decide) (by omega) (by omega)⟩
      · have hno : ¬ (P j - 48 < A 3 ∧ prG P l j + 1 < A (73 + 16 * (P j - 48))) := fun z => by
          rw [ixO_s (by omega) (by omega)] at g3; cases g3
        rw [g4, obb_s, if_pos rfl, if_neg hno]
        exact ⟨_, M, rfl, hM, Sm.rf, rfl, by decide⟩
    · rw [m_gapO hR hn (Or.inr (nI_le' (by omega) (by omega) (by omega))), obb_s, if_pos rfl, if_neg (fun z => he z.1)]
      exact ⟨_, M, rfl, hM, Sm.rf, rfl, by decide⟩
theorem m_plEnd {M : Mem} {w : Wd} {n j : Nat} {x : Int32} (hM : MI M w) (h7 : gI M 150 7 = nI j) (hl : w.l ≤ 60) (hj : j < 1000) (hs : w.st ≤ 1) (h : w.l ≤ j ∨ w.st = 1) : MRes (f_X6_plead_26 (n + 1) 150 x M) M x (w.toP 0 w.P) := by
  have hS : Sm (fun r => r = 150 ∨ r = 154) M (sI M 150 6 0) := Sm.put Sm.rf (Or.inl rfl)
  have fin : MRes (some (x, sI M 150 6 0)) M x (w.toP 0 w.P) := ⟨_, rfl, MI.pad hM hS (fun k hk => gI_n (Or.inr hk)) gI_s (fun i hi => by omega), hS.mono (fun r h => by unfold MX; omega)⟩
  rw [f_X6_plead_26, gdd_t mk.1, hM.2.2.2.2.1, hM.2.2.2.1.1, h7]
  by_cases g : w.st = 0
  · rw [if_pos (by rw [g]; rfl), if_pos (nI_le' (by omega) (by omega) (by omega)), bvv_e]; exact fin
  · rw [if_neg (fun e => g ((nI_z (by omega)).mp e)), bvv_e]; exact fin
theorem m_plL {w : Wd} (hl : w.l ≤ 60) (hc : ∀ i, i < w.l → w.P i ≤ 126) (h0 : w.st = 0) : ∀ (k j cnt : Nat) (A : Nat → Nat) (M : Mem) (n : Nat), w.l - j < k → w.l + 1 - j + 1 < n → j ≤ w.l + 1 → (j < w.l → suF w.P (w.l - j) 0 j = none) → Ok A → MI M (w.toA A) → gI M 150 7 = nI j → gI M 150 8 = nI 1 →
    MRes (f_X6_plead_26 n 150 (nI cnt) M) M (nI (plS w.P w.l k j cnt A).2.1) (plW w (plS w.P w.l k j cnt A)) := by
  intro k
  induction k with
  | zero => intro j _ _ _ _ h; omega
  | succ k ih =>
    intro j cnt A M n hk hn hj hp hA hM h7 h8
    rw [plS]
    obtain ⟨n, rfl⟩ : ∃ m, n = m + 1 := ⟨n - 1, by omega⟩
    have h14 : gI M 150 14 = nI 0 := by
      have : gI M 150 14 = nI w.st := hM.2.2.2.2.1
      rw [this, h0]
    by_cases h : w.l ≤ j
    · rw [if_pos h]
      have hM0 : MI M ((w.toA A).toY 0 0 0 0) := MI.why hM Sm.rf (fun _ _ => rfl) ⟨h14, fun e => by omega⟩
      exact m_plEnd hM0 h7 hl (by omega) (show 0 ≤ 1 by decide) (Or.inl h)
    · have hlt : j < w.l := by omega
      have hsu := hp hlt
      have hts := m_ts (P := w.P) (l := w.l) hM.2.2.2.1 hl hc (show j ≤ w.l by omega) h7 h8
      have hno : tsW (hrN w.P w.l) j = none := by
        cases hq : tsW (hrN w.P w.l) j with
        | none => rfl
        | some v =>
          have := (ts_some (show j ≤ w.l by omega) hq).1
          rw [hsu] at this; cases this
      rw [hno] at hts
      obtain ⟨M1, r1, r2, r3, r4, r5, r6⟩ := hts
      obtain ⟨k1, k2, k3⟩ := ts_none hno
      rw [hsu] at k3
      have hl1 : 1 ≤ prL w.P w.l j := by
        unfold prL
        repeat' split
        all_goals omega
      have hS2 : ScX M (sI M1 150 7 (nI (j + prL w.P w.l j + 1))) := r2.p (by decide) (by decide)
      have q : ∀ k, k ≠ 7 → gI (sI M1 150 7 (nI (j + prL w.P w.l j + 1))) 150 k = gI M1 150 k := fun k h => gI_n (Or.inr h)
      have hM2 := hM.sc hS2
      obtain ⟨v, M3, s1, s2, s3, s4⟩ := m_does (w := w) (A := A) (P := w.P) (l := w.l) (j := j) hM2 hA (fun i => (Nat.lt_or_ge i w.l).elim (fun h => Or.inl (hc i h)) Or.inr) k2 (by rw [q _ (by decide), r5]) (fun e => by rw [q _ (by decide), q _ (by decide)]; exact r6 e)
      have hA2 : Ok (doP w.P w.l A j).1 := ok_doP hA
      have hSm : Sm MX M M3 := hS2.ge.tr (s3.mono (fun r h => S151.ge h))
      rw [if_neg h, f_X6_plead_26, gdd_t mk.1, h14, if_pos (by rfl), show gI M 150 6 = nI w.l from hM.2.2.2.1.1, h7, if_neg (nI_nle' (by omega) (by omega) hlt), bvv_e, r1, obb_s, r4, nI_1, bvv_e, s1, opp_s]
      cases hd : (doP w.P w.l A j).2 with
      | none =>
        rw [hd] at s4
        have s4 : 10 ≤ v := s4
        have suNx : j + prL w.P w.l j + 1 < w.l → suF w.P (w.l - (j + prL w.P w.l j + 1)) 0 (j + prL w.P w.l j + 1) = none := fun hx => by
          unfold suN at k3
          rw [if_neg (by omega)] at k3
          by_cases c : w.P (j + prL w.P w.l j) = 59
          · rw [if_pos c] at k3; exact k3.symm
          · rw [if_neg c] at k3; cases k3
        obtain ⟨M4, t1, t2, t3⟩ := ih (j + prL w.P w.l j + 1) (cnt + 1) (doP w.P w.l A j).1 M3 n (by omega) (by omega) (by omega) suNx hA2 s2 (by rw [s3.1 _ _ (by decide), gI_s]) (by rw [s3.1 _ _ (by decide), q _ (by decide), r3])
        rw [if_pos s4, bvv_e, nI_1]
        exact ⟨M4, t1, t2, hSm.tr t3⟩
      | some x =>
        rw [hd] at s4
        obtain ⟨s4, s5⟩ := s4
        subst s4
        rw [if_neg s5]
        simp only [bvv_e]
        rw [mk.2.2.2.2.2.1, gdd_t mr.2.2.2.2.1, ml.2.2.2.2.1, gdd_t (by decide), gdd_t (by decide), gdd_t (by decide), show (0 : Int32).toNatClampNeg = 0 from rfl, show (1 : Int32).toNatClampNeg = 1 from rfl, show (2 : Int32).toNatClampNeg = 2 from rfl]
        have hS : Sm (fun q => q = 150 ∨ q = 155) M3 (sI (sI (sI (sI M3 150 14 1) 155 0 v) 155 1 (nI cnt)) 155 2 (nI j)) := (((Sm.rf.put (Or.inl rfl)).put (Or.inr rfl)).put (Or.inr rfl)).put (Or.inr rfl)
        have e0 : ∀ k, gI (sI (sI (sI (sI M3 150 14 1) 155 0 v) 155 1 (nI cnt)) 155 2 (nI j)) 150 k = gI (sI M3 150 14 1) 150 k := fun k => by rw [gI_n (Or.inl (by decide)), gI_n (Or.inl (by decide)), gI_n (Or.inl (by decide))]
        have hM3 : MI (sI (sI (sI (sI M3 150 14 1) 155 0 v) 155 1 (nI cnt)) 155 2 (nI j)) ((w.toA (doP w.P w.l A j).1).toY 1 v (nI cnt) (nI j)) := by
          refine MI.why s2 hS (fun k hk => ?_) ⟨?_, fun _ => ⟨?_, ?_, ?_⟩⟩
          · rw [e0, gI_n (Or.inr hk)]
          · rw [e0, gI_s]; rfl
          · rw [gI_n (Or.inr (by decide)), gI_n (Or.inr (by decide)), gI_s]
          · rw [gI_n (Or.inr (by decide)), gI_s]
          · rw [gI_s]
        obtain ⟨n3, rfl⟩ : ∃ m, n = m + 1 := ⟨n - 1, by omega⟩
        obtain ⟨M4, t1, t2, t3⟩ := m_plEnd (n := n3) (j := j + prL w.P w.l j + 1) (x := nI cnt) hM3 (by rw [e0, gI_n (Or.inr (by decide)), s3.1 _ _ (by decide), gI_s]) hl (by omega) (show 1 ≤ 1 by decide) (Or.inr rfl)
        exact ⟨M4, t1, t2, (hSm.tr (hS.mono (fun r h => by unfold MX; omega))).tr t3⟩
theorem m_plead {M : Mem} {w : Wd} (hO : OkW w) (hM : MI M w) : MRes (f_X6_plead 150 M) M (opPlead w).1 (opPlead w).2 := by
  have hl := hO.2.2.2.2.2.1
  have hc : ∀ i, i < w.l → w.P i ≤ 126 := fun i hi => (hO.2.2.2.2.2.2.1 i hi).2
  have hw := m_areS hO hM
  unfold f_X6_plead opPlead
  rw [gdd_t mk.1]
  cases he : suQ w with
  | some t =>
    rw [he] at hw
    obtain ⟨M2, r1, r2, r3⟩ := hw
    rw [r1, opp_s, if_pos (by rfl)]
    exact ⟨M2, rfl, hM.sc r2, r2.ge⟩
  | none =>
    rw [he] at hw
    obtain ⟨M1, r1, r2, r3⟩ := hw
    obtain ⟨M2, s1, s2, s3, s4⟩ := m_records hO (hM.sc r2)
    obtain ⟨kl, kP⟩ := keepW_l w
    have hS : ScX M2 (sI M2 150 7 0) := ScX.rf.p (by decide) (by decide)
    have hS2 : Sm (fun q => q = 150 ∨ q = 155) (sI M2 150 7 0) (sI (sI M2 150 7 0) 150 14 0) := Sm.rf.put (Or.inl rfl)
    have hM3 : MI (sI (sI M2 150 7 0) 150 14 0) ((keepW w).toY 0 0 0 0) := MI.why (s2.sc hS) hS2 (fun k hk => gI_n (Or.inr hk)) ⟨gI_s, fun e => by omega⟩
    have eA : (keepW w).toY 0 0 0 0 = ((keepW w).toY 0 0 0 0).toA w.A := by
      show _ = mkWd w.A _ _ _ _ _ _ _ _ _ _
      rw [← keepW_A w]; rfl
    rw [eA] at hM3
    have hpl := m_plL (w := (keepW w).toY 0 0 0 0) (by show (keepW w).l ≤ 60; rw [kl]; exact hl) (by show ∀ i, i < (keepW w).l → (keepW w).P i ≤ 126; rw [kl, kP]; exact hc) rfl (w.l + 1) 0 0 w.A (sI (sI M2 150 7 0) 150 14 0) FU (by show (keepW w).l - 0 < w.l + 1; rw [kl]; omega) (by show (keepW w).l + 1 - 0 + 1 < FU; rw [kl]; unfold FU; omega) (Nat.zero_le _) (fun _ => by show suF (keepW w).P ((keepW w).l - 0) 0 0 = none; rw [kl, kP]; exact he) hO.1 hM3 (by rw [gI_n (Or.inr (by decide)), gI_s]; rfl) (by rw [gI_n (Or.inr (by decide)), gI_n (Or.inr (by decide)), s4 8 (by decide), r3])
    rw [r1, opp_s, if_neg (by decide), s1, obb_s, bvv_e, bvv_e]
    obtain ⟨M4, t1, t2, t3⟩ := hpl
    rw [show ((keepW w).toY 0 0 0 0).P = w.P from kP, show ((keepW w).toY 0 0 0 0).l = w.l from kl] at t1 t2
    have e : ∀ x, plW ((keepW w).toY 0 0 0 0) x = plW (keepW w) x := by
      intro x
      unfold plW
      cases x.2.2 with
      | none => rfl
      | some q => rfl
    rw [e] at t2
    exact ⟨M4, t1, t2, ((r2.ge.tr (s3.mono (fun r h => h.ge))).tr hS.ge).tr ((hS2.mono (fun r h => by unfold MX; omega)).tr t3)⟩
