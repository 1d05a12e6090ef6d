/-! PURE: plead, the class: the call -/
def plS (P : Nat → Nat) (l : Nat) : Nat → Nat → Nat → (Nat → Nat) → (Nat → Nat) × Nat × Option (Int32 × Nat)
  | 0, _, n, A => (A, n, none)
  | k + 1, j, n, A => if l ≤ j then (A, n, none) else match (doP P l A j).2 with
    | none => plS P l k (j + prL P l j + 1) (n + 1) (doP P l A j).1
    | some v => ((doP P l A j).1, n, some (v, j))
def plW (w : Wd) (x : (Nat → Nat) × Nat × Option (Int32 × Nat)) : Wd := match x.2.2 with
  | none => ((w.toY 0 0 0 0).toA x.1).toP 0 w.P
  | some (v, j) => ((w.toY 1 v (nI x.2.1) (nI j)).toA x.1).toP 0 w.P
theorem CI.why {M M2 : Mem} {w : Wd} {st : Nat} {r p c : Int32} (hO : OkW w) (hC : CI M w) (hS : Sm (fun q => q = 1) M M2) (h0 : ∀ k, k ≠ 8 → k ≠ 9 → k ≠ 10 → k ≠ 11 → gI M2 1 k = gI M 1 k) (hy : gI M2 1 8 = nI st ∧ (st = 1 → gI M2 1 9 = r ∧ gI M2 1 10 = p ∧ gI M2 1 11 = c)) : CI M2 (w.toY st r p c) := by
  obtain ⟨o1, o2, o3, o4, o5, o6, o7, o8⟩ := hO
  obtain ⟨c1, c2, c3, c4, c5⟩ := hC
  have x1 : ∀ a, kd a = 5 → ∀ r, r = 1 → r < a ∨ a + 23 ≤ r := fun a ha r hr => by have := st_r ha; omega
  have k35 : kd 35 = 5 := by decide +kernel
  refine ⟨c1.sm hS (x1 12 lay1.2.2.2) o1.n o1.m, ⟨(h0 7 (by decide) (by decide) (by decide) (by decide)).trans c2.1, ⟨fun i hi => by rw [hS.2]; exact c2.2.1.1 i hi, fun i j hi hj e => c2.2.1.2 i j hi hj (by rw [hS.2, hS.2] at e; exact e)⟩, fun i hi => ?_⟩, ⟨(h0 6 (by decide) (by decide) (by decide) (by decide)).trans c3.1, fun h => (c3.2 h).sm hS (x1 35 k35) (o5 h).n (o5 h).m⟩, ⟨(hS.1 3 1 (by decide)).trans c4.1, fun i hi => (hS.1 4 i (by decide)).trans (c4.2.1 i hi), (hS.1 5 3 (by decide)).trans c4.2.2.1, (hS.1 5 4 (by decide)).trans c4.2.2.2⟩, hy⟩
  rw [hS.2]
  have hi' : i < w.h := hi
  exact (c2.2.2 i hi).sm hS (x1 _ (c2.2.1.1 i (by omega)).2) (o3 i hi).n (o3 i hi).m
theorem p_begins {M : Mem} {l : Nat} {P : Nat → Nat} (hP : PadR M l P) (hl : l ≤ 60) (hc : ∀ i, i < l → P i ≤ 126) {j : Nat} (hj : j ≤ l) : f_X1_beginsPart 3 (nI j) M = some (if j = 0 ∨ P (j - 1) = 59 then 1 else 0) := by
  unfold f_X1_beginsPart
  by_cases h : j = 0
  · rw [h, if_pos (by rfl), if_pos (Or.inl rfl)]
  · have := hc (j - 1) (by omega)
    rw [if_neg (fun e => h ((nI_z (by omega)).mp e)), gdd_t lay3.2.1, nI_sub1 (by omega), p_signAt hP hl (by omega), obb_s, show (59 : Int32) = nI 59 from rfl]
    by_cases e : P (j - 1) = 59
    · rw [if_pos (by rw [e]), if_pos (Or.inr e)]
    · rw [if_neg (nI_ne (by omega) (by decide) e), if_neg (by omega)]
/-- over the signs that begin no part -/
theorem p_skip {M : Mem} {l : Nat} {P : Nat → Nat} (hP : PadR M l P) (hl : l ≤ 60) (hc : ∀ i, i < l → P i ≤ 126) (h8 : gI M 1 8 = nI 0) {x : Int32} : ∀ (d k n : Nat), k + d ≤ l → (∀ i, k ≤ i → i < k + d → i ≠ 0 ∧ P (i - 1) ≠ 59) → f_X5_plead_27 (n + d) 1 x (nI k) M = f_X5_plead_27 n 1 x (nI (k + d)) M := by
  intro d
  induction d with
  | zero => intro k n _ _; rfl
  | succ d ih =>
    intro k n hk hi
    have h1 := hi k (Nat.le_refl _) (by omega)
    rw [show n + (d + 1) = n + d + 1 by omega, f_X5_plead_27, gdd_t lay1.1, lay3.1, gdd_t lay3.2.1, hP.1, if_neg (nI_nle' (by omega) (by omega) (by omega)), h8, if_pos (by rfl), p_begins hP hl hc (by omega), obb_s, if_neg (show ¬ (k = 0 ∨ P (k - 1) = 59) by omega), if_pos rfl, bvv_e, nI_1, ih (k + 1) n (by omega) (fun i h2 h3 => hi i (by omega) (by omega)), show k + 1 + d = k + (d + 1) by omega]
theorem p_plEnd {M : Mem} {w : Wd} {n x2 : Nat} {x : Int32} (hO : OkW w) (hC : CI M w) (h : w.l ≤ x2 ∨ w.st = 1) (hx : x2 < 1000) : CRes (f_X5_plead_27 (n + 1) 1 x (nI x2) M) M x (w.toP 0 w.P) := by
  have hl := hO.2.2.2.2.2.1
  have hS : Sm (fun r => r = 3 ∨ r = 4) M (sI M 3 1 0) := Sm.put Sm.rf (Or.inl rfl)
  have fin : CRes (some (x, sI M 3 1 0)) M x (w.toP 0 w.P) := ⟨_, rfl, CI.pad hO hC hS gI_s (fun i hi => by omega), hS.i.mono (fun r h => by omega)⟩
  rw [f_X5_plead_27, gdd_t lay1.1, lay3.1, gdd_t lay3.2.1, hC.2.2.2.1.1]
  by_cases g : w.l ≤ x2
  · rw [if_pos (nI_le' (by omega) (by omega) g), bvv_e]; exact fin
  · rw [if_neg (nI_nle' (by omega) (by omega) (by omega)), hC.2.2.2.2.1, if_neg (fun e => by have := (nI_z (by omega)).mp e; omega), bvv_e]; exact fin
theorem p_plL {w : Wd} (hO0 : OkW w) (h0 : w.st = 0) : ∀ (k j cnt : Nat) (A : Nat → Nat) (M : Mem) (n : Nat), w.l - j < k → w.l - j + 1 < n → cnt ≤ j → j ≤ w.l → (j < w.l → (j = 0 ∨ w.P (j - 1) = 59) ∧ suF w.P (w.l - j) 0 j = none) → Ok A → CI M (w.toA A) →
    CRes (f_X5_plead_27 n 1 (nI cnt) (nI j) M) M (nI (plS w.P w.l k j cnt A).2.1) (plW w (plS w.P w.l k j cnt A)) := by
  have hl := hO0.2.2.2.2.2.1
  have hc : ∀ i, i < w.l → w.P i ≤ 126 := fun i hi => (hO0.2.2.2.2.2.2.1 i hi).2
  intro k
  induction k with
  | zero => intro j _ _ _ _ h; omega
  | succ k ih =>
    intro j cnt A M n hk hn hcnt hj hp hA hC
    have hO : OkW (w.toA A) := hO0.toA hA
    have eY : w.toA A = (w.toY 0 w.r w.p w.c).toA A := by
      show mkWd A w.h w.B w.sv w.K w.l w.P w.st w.r w.p w.c = mkWd A w.h w.B w.sv w.K w.l w.P 0 w.r w.p w.c
      rw [h0]
    rw [plS]
    obtain ⟨n, rfl⟩ : ∃ m, n = m + 1 := ⟨n - 1, by omega⟩
    by_cases h : w.l ≤ j
    · rw [if_pos h]
      have h8 : gI M 1 8 = nI w.st := hC.2.2.2.2.1
      have hC0 : CI M ((w.toA A).toY 0 0 0 0) := CI.why hO hC Sm.rf (fun _ _ _ _ _ => rfl) ⟨by rw [h8, h0], fun e => by omega⟩
      have hO2 : OkW ((w.toA A).toY 0 0 0 0) := ⟨hO.1, hO.2.1, hO.2.2.1, hO.2.2.2.1, hO.2.2.2.2.1, hO.2.2.2.2.2.1, hO.2.2.2.2.2.2.1, show 0 ≤ 1 by decide⟩
      exact p_plEnd hO2 hC0 (Or.inl h) (by omega)
    · obtain ⟨p1, p2⟩ := hp (by omega)
      obtain ⟨q1, q2⟩ := su_part p2
      obtain ⟨q3, q4, q5⟩ := q2
      have hlen : 1 ≤ prL w.P w.l j := by
        unfold prL
        repeat' split
        all_goals omega
      obtain ⟨M2, r1, r2, r3⟩ := p_part (P := w.P) (l := w.l) (A := A) hA hC.1 hC.2.2.2.1 hl hc ⟨q3, q4, q5⟩ q1
      have hA2 : Ok (doP w.P w.l A j).1 := ok_doP hA
      have hC2 : CI M2 (w.toA (doP w.P w.l A j).1) := CI.sa (w := w.toA A) hO hC r2 (fun r h => h) r3
      have hO2 : OkW (w.toA (doP w.P w.l A j).1) := hO0.toA hA2
      have r2' : SmI (fun r => r < 150) M M2 := r2.i.mono (fun r h => by omega)
      rw [if_neg h, f_X5_plead_27, gdd_t lay1.1, lay3.1, gdd_t lay3.2.1, show gI M 3 1 = nI w.l from hC.2.2.2.1.1, if_neg (nI_nle' (by omega) (by omega) (by omega)), show gI M 1 8 = nI w.st from hC.2.2.2.2.1, h0, if_pos (by rfl), p_begins (P := w.P) (l := w.l) hC.2.2.2.1 hl hc (show j ≤ w.l from hj), obb_s, if_pos (show j = 0 ∨ w.P (j - 1) = 59 from p1), if_neg (by decide), r1, opp_s]
      cases hd : (doP w.P w.l A j).2 with
      | none =>
        simp only [rsE, if_pos, bvv_e]
        rw [nI_1, nI_1]
        -- to the end of the part, and over the semicolon
        have h82 : gI M2 1 8 = nI 0 := by rw [show gI M2 1 8 = nI w.st from hC2.2.2.2.2.1, h0]
        have noS : ∀ i, j + 1 ≤ i → i < j + prL w.P w.l j + 1 → i ≠ 0 ∧ w.P (i - 1) ≠ 59 := by
          intro i i1 i2
          refine ⟨by omega, ?_⟩
          by_cases c : w.P j = 43
          · have e : prL w.P w.l j = 1 := by unfold prL; rw [if_pos c]
            rw [show i - 1 = j by omega, c]; decide
          · obtain ⟨d1, d2, d3, d4⟩ := q4 c
            have hle : prL w.P w.l j ≤ 4 := by unfold prL; rw [if_neg c]; split <;> omega
            have h4 : prL w.P w.l j = 4 → w.P (j + 3) = 48 := by
              unfold prL
              rw [if_neg c]
              split
              · rename_i z; exact fun _ => z.2.2
              · omega
            by_cases e0 : i - 1 = j
            · rw [e0]; omega
            by_cases e1 : i - 1 = j + 1
            · rw [e1, d2]; decide
            by_cases e2 : i - 1 = j + 2
            · rw [e2]; omega
            have e3 : i - 1 = j + 3 := by omega
            rw [e3, h4 (by omega)]; decide
        rcases q5 with q5 | ⟨q5, q6, q7⟩
        · obtain ⟨n2, rfl⟩ : ∃ m, n = m + (prL w.P w.l j - 1) := ⟨n - (prL w.P w.l j - 1), by omega⟩
          rw [p_skip (P := w.P) (l := w.l) hC2.2.2.2.1 hl hc h82 (prL w.P w.l j - 1) (j + 1) n2 (by omega) (fun i i1 i2 => noS i i1 (by omega)), show j + 1 + (prL w.P w.l j - 1) = w.l by omega]
          have hstep : plS w.P w.l k (j + prL w.P w.l j + 1) (cnt + 1) (doP w.P w.l A j).1 = ((doP w.P w.l A j).1, cnt + 1, none) := by
            cases k with
            | zero => rfl
            | succ k => rw [plS, if_pos (by omega)]
          obtain ⟨n3, rfl⟩ : ∃ m, n2 = m + 1 := ⟨n2 - 1, by omega⟩
          have hC0 : CI M2 ((w.toA (doP w.P w.l A j).1).toY 0 0 0 0) := CI.why hO2 hC2 Sm.rf (fun _ _ _ _ _ => rfl) ⟨h82, fun e => by omega⟩
          have hO3 : OkW ((w.toA (doP w.P w.l A j).1).toY 0 0 0 0) := ⟨hO2.1, hO2.2.1, hO2.2.2.1, hO2.2.2.2.1, hO2.2.2.2.2.1, hO2.2.2.2.2.2.1, hO2.2.2.2.2.2.2.1, show 0 ≤ 1 by decide⟩
          rw [hstep]
          obtain ⟨M3, t1, t2, t3⟩ := p_plEnd (n := n3) (x2 := w.l) (x := nI (cnt + 1)) hO3 hC0 (Or.inl (Nat.le_refl _)) (by omega)
          exact ⟨M3, t1, t2, r2'.tr t3⟩
        · obtain ⟨n2, rfl⟩ : ∃ m, n = m + prL w.P w.l j := ⟨n - prL w.P w.l j, by omega⟩
          rw [p_skip (P := w.P) (l := w.l) hC2.2.2.2.1 hl hc h82 (prL w.P w.l j) (j + 1) n2 (by omega) (fun i i1 i2 => noS i i1 (by omega)), show j + 1 + prL w.P w.l j = j + prL w.P w.l j + 1 by omega]
          obtain ⟨M3, t1, t2, t3⟩ := ih (j + prL w.P w.l j + 1) (cnt + 1) (doP w.P w.l A j).1 M2 n2 (by omega) (by omega) (by omega) (by omega) (fun _ => ⟨Or.inr (by rw [Nat.add_sub_cancel]; exact q6), q7⟩) hA2 hC2
          exact ⟨M3, t1, t2, r2'.tr t3⟩
      | some v =>
        rw [if_neg (show ¬ rsE (some v) = 0 from doP_nz hd)]
        simp only [bvv_e]
        have hS : Sm (fun q => q = 1) M2 (sI (sI (sI (sI M2 1 8 1) 1 9 v) 1 10 (nI cnt)) 1 11 (nI j)) := Sm.rf.p1.p1.p1.p1
        have hC3 : CI (sI (sI (sI (sI M2 1 8 1) 1 9 v) 1 10 (nI cnt)) 1 11 (nI j)) ((w.toA (doP w.P w.l A j).1).toY 1 v (nI cnt) (nI j)) := by
          refine CI.why hO2 hC2 hS (fun q e8 e9 e10 e11 => ?_) ⟨?_, fun _ => ⟨?_, ?_, ?_⟩⟩
          · rw [gI_n (Or.inr e11), gI_n (Or.inr e10), gI_n (Or.inr e9), gI_n (Or.inr e8)]
          · rw [gI_n (Or.inr (by decide)), gI_n (Or.inr (by decide)), gI_n (Or.inr (by decide)), gI_s]; rfl
          · rw [gI_n (Or.inr (by decide)), gI_n (Or.inr (by decide)), gI_s]
          · rw [gI_n (Or.inr (by decide)), gI_s]
          · rw [gI_s]
        have hO3 : OkW ((w.toA (doP w.P w.l A j).1).toY 1 v (nI cnt) (nI j)) := ⟨hO2.1, hO2.2.1, hO2.2.2.1, hO2.2.2.2.1, hO2.2.2.2.2.1, hO2.2.2.2.2.2.1, hO2.2.2.2.2.2.2.1, show 1 ≤ 1 by decide⟩
        obtain ⟨n3, rfl⟩ : ∃ m, n = m + 1 := ⟨n - 1, by omega⟩
        obtain ⟨M3, t1, t2, t3⟩ := p_plEnd (n := n3) (x2 := j + 1) (x := nI cnt) hO3 hC3 (Or.inr rfl) (by omega)
        rw [nI_1]
        exact ⟨M3, t1, t2, (r2'.tr (hS.i.mono (fun r h => by omega))).tr t3⟩
def opPlead (w : Wd) : Int32 × Wd := match suQ w with
  | some _ => (-2, w)
  | none => (nI (plS w.P w.l (w.l + 1) 0 0 w.A).2.1, plW (keepW w) (plS w.P w.l (w.l + 1) 0 0 w.A))
theorem c_plead {M : Mem} {w : Wd} (hO : OkW w) (hC : CI M w) : CRes (f_X5_plead 1 M) M (opPlead w).1 (opPlead w).2 := by
  have hl := hO.2.2.2.2.2.1
  unfold f_X5_plead opPlead
  rw [gdd_t lay1.1, lay3.1, gdd_t lay3.2.1, p_suQ hO hC.2.2.2.1, obb_s]
  cases he : suQ w with
  | some t =>
    have := suF_lt _ _ _ he
    rw [if_neg (ftE_some (by omega))]
    exact CRes.no hC
  | none =>
    obtain ⟨M1, r1, r2, r3⟩ := p_keep hO hC
    have hO1 := keepW_ok hO
    have hS : Sm (fun q => q = 1) M1 (sI M1 1 8 0) := Sm.rf.p1
    have hC1 : CI (sI M1 1 8 0) ((keepW w).toY 0 0 0 0) := CI.why hO1 r2 hS (fun k e8 _ _ _ => gI_n (Or.inr e8)) ⟨gI_s, fun e => by omega⟩
    have hO2 : OkW ((keepW w).toY 0 0 0 0) := ⟨hO1.1, hO1.2.1, hO1.2.2.1, hO1.2.2.2.1, hO1.2.2.2.2.1, hO1.2.2.2.2.2.1, hO1.2.2.2.2.2.2.1, show 0 ≤ 1 by decide⟩
    obtain ⟨kl, kP⟩ := keepW_l w
    have hpl := p_plL hO2 rfl (w.l + 1) 0 0 w.A (sI M1 1 8 0) FU (by show (keepW w).l - 0 < w.l + 1; rw [kl]; omega) (by show (keepW w).l - 0 + 1 < FU; rw [kl]; unfold FU; omega) (by decide) (Nat.zero_le _) (fun _ => ⟨Or.inl rfl, by show suF (keepW w).P ((keepW w).l - 0) 0 0 = none; rw [kl, kP]; exact he⟩) hO.1 (by
      have := hC1
      rw [show (keepW w).toY 0 0 0 0 = ((keepW w).toY 0 0 0 0).toA w.A from by
        show _ = mkWd w.A _ _ _ _ _ _ _ _ _ _
        rw [← keepW_A w]; rfl] at this
      exact this)
    rw [if_pos (by rfl), r1, obb_s, bvv_e]
    obtain ⟨M3, t1, t2, t3⟩ := hpl
    rw [show ((keepW w).toY 0 0 0 0).P = w.P from kP, show ((keepW w).toY 0 0 0 0).l = w.l from kl] at t1 t2
    refine ⟨M3, t1, ?_, ((r3.mono (fun r h => h.lt)).tr (hS.i.mono (fun r h => by omega))).tr t3⟩
    have e : ∀ x, plW ((keepW w).toY 0 0 0 0) x = plW (keepW w) x := by
      intro x
      unfold plW
      cases x.2.2 with
      | none => rfl
      | some q => rfl
    rw [← e]; exact t2
