/-! PURE: single numbers of a state, and the calls that change only such -/
theorem in_ex {x : Int32} {b : Nat} (hb : b < 2 ^ 31) (h0 : 0 ≤ x) (h1 : x ≤ nI b) : ∃ n, n ≤ b ∧ x = nI n := by
  have e0 : 0 ≤ x.toInt := by have := Int32.le_iff_toInt_le.mp h0; simpa using this
  have e1 : x.toInt ≤ (b : Int) := by have := Int32.le_iff_toInt_le.mp h1; rwa [nI_toInt hb] at this
  refine ⟨x.toInt.toNat, by omega, Int32.toInt_inj.mp ?_⟩
  rw [nI_toInt (by omega)]
  omega
theorem in_ex2 {x : Int32} {a b : Nat} (hb : b < 2 ^ 31) (ha : a < 2 ^ 31) (h0 : nI a ≤ x) (h1 : x ≤ nI b) : ∃ n, a ≤ n ∧ n ≤ b ∧ x = nI n := by
  have hz : (0 : Int32) ≤ nI a := nI_pos' ha
  obtain ⟨n, n1, n2⟩ := in_ex hb (Int32.le_trans hz h0) h1
  subst n2
  exact ⟨n, (nI_leI ha (by omega)).mp h0, n1, rfl⟩
def updN (A : Nat → Nat) (i v : Nat) : Nat → Nat := fun k => if k = i then v else A k
theorem updN_s {A : Nat → Nat} {i v : Nat} : updN A i v i = v := by unfold updN; rw [if_pos rfl]
theorem updN_n {A : Nat → Nat} {i v k : Nat} (h : k ≠ i) : updN A i v k = A k := by unfold updN; rw [if_neg h]
theorem frc_cg {A A2 : Nat → Nat} (h : ∀ i, 13 ≤ i → i < 73 → A2 i = A i) (hA : ∀ r, r < 10 → A (17 + 6 * r) ≤ r) : ∀ f r, r < 10 → frc A2 f r = frc A f r
  | 0, _, _ => rfl
  | f + 1, r, hr => by
    have h1 := hA r hr
    rw [frc, frc, h (18 + 6 * r) (by omega) (by omega), h (17 + 6 * r) (by omega) (by omega)]
    by_cases h0 : A (17 + 6 * r) = 0
    · simp [h0]
    · rw [frc_cg h hA f (A (17 + 6 * r) - 1) (by omega)]
theorem frc_cm {A A2 : Nat → Nat} {m : Nat} (hm : m ≤ 10) (h : ∀ i, 13 ≤ i → i < 13 + 6 * m → A2 i = A i) (hA : ∀ r, r < m → A (17 + 6 * r) ≤ r) : ∀ f r, r < m → frc A2 f r = frc A f r
  | 0, _, _ => rfl
  | f + 1, r, hr => by
    have h1 := hA r hr
    rw [frc, frc, h (18 + 6 * r) (by omega) (by omega), h (17 + 6 * r) (by omega) (by omega)]
    by_cases h0 : A (17 + 6 * r) = 0
    · simp [h0]
    · rw [frc_cm hm h hA f (A (17 + 6 * r) - 1) (by omega)]
theorem inF_cm {A A2 : Nat → Nat} {m : Nat} (hm : m ≤ 10) (h : ∀ i, 13 ≤ i → i < 13 + 6 * m → A2 i = A i) (hA : ∀ r, r < m → A (17 + 6 * r) ≤ r) {r : Nat} (hr : r < m) : inF A2 r = inF A r := frc_cm hm h hA _ r hr
theorem RuR.cg {M : Mem} {q r m : Nat} {A A2 : Nat → Nat} (hm : m ≤ 10) (h : ∀ i, 13 ≤ i → i < 13 + 6 * m → A2 i = A i) (hA : ∀ r, r < m → A (17 + 6 * r) ≤ r) (hr : r < m) (hR : RuR M q A r) : RuR M q A2 r := by
  obtain ⟨q0, q1, q2, q3, q4, q5, q6⟩ := hR
  refine ⟨?_, ?_, ?_, ?_, ?_, ?_, ?_⟩
  · rw [h _ (by omega) (by omega), q0]
  · rw [h _ (by omega) (by omega), q1]
  · rw [h _ (by omega) (by omega), q2]
  · rw [h _ (by omega) (by omega), q3]
  · rw [h _ (by omega) (by omega), q4]
  · rw [h _ (by omega) (by omega), q5]
  · rw [inF_cm hm h hA hr, q6]
theorem EdR.cg {M : Mem} {e o : Nat} {A A2 : Nat → Nat} (h : ∀ j, j < 16 → A2 (o + j) = A (o + j)) (hw : A o ≤ 12) (hE : EdR M e A o) : EdR M e A2 o := by
  obtain ⟨e0, e1, e2, e3, e4⟩ := hE
  have h0 : A2 o = A o := h 0 (by decide)
  refine ⟨by rw [h0, e0], by rw [h 1 (by decide), e1], by rw [h 2 (by decide), e2], by rw [h 3 (by decide), e3], fun j hj => ?_⟩
  rw [h0] at hj
  rw [e4 j hj, Nat.add_assoc, h (4 + j) (by omega)]
theorem OkE.cg {o : Nat} {A A2 : Nat → Nat} (h : ∀ j, j < 16 → A2 (o + j) = A (o + j)) (hE : OkE A o) : OkE A2 o := by
  obtain ⟨e0, e1, e2, e3, e4⟩ := hE
  have h0 : A2 o = A o := h 0 (by decide)
  refine ⟨by rw [h0]; exact e0, by rw [h0]; exact e1, by rw [h0, h 1 (by decide)]; exact e2, fun j hj => ?_, fun j hj hj2 => ?_⟩
  · rw [h0] at hj
    rw [Nat.add_assoc, h (4 + j) (by omega), ← Nat.add_assoc]
    exact e3 j hj
  · rw [h0] at hj
    rw [Nat.add_assoc, h (4 + j) (by omega), ← Nat.add_assoc]
    exact e4 j hj hj2
theorem OkR.cg {r : Nat} {A A2 : Nat → Nat} (h : ∀ j, j < 6 → A2 (13 + 6 * r + j) = A (13 + 6 * r + j)) (hE : OkR A r) : OkR A2 r := by
  obtain ⟨e0, e1, e2, e3, e4, e5, e6⟩ := hE
  have h0 : A2 (13 + 6 * r) = A (13 + 6 * r) := h 0 (by decide)
  have h1 : A2 (14 + 6 * r) = A (14 + 6 * r) := by have := h 1 (by decide); rwa [show 13 + 6 * r + 1 = 14 + 6 * r by omega] at this
  have h2 : A2 (15 + 6 * r) = A (15 + 6 * r) := by have := h 2 (by decide); rwa [show 13 + 6 * r + 2 = 15 + 6 * r by omega] at this
  have h3 : A2 (16 + 6 * r) = A (16 + 6 * r) := by have := h 3 (by decide); rwa [show 13 + 6 * r + 3 = 16 + 6 * r by omega] at this
  have h4 : A2 (17 + 6 * r) = A (17 + 6 * r) := by have := h 4 (by decide); rwa [show 13 + 6 * r + 4 = 17 + 6 * r by omega] at this
  have h5 : A2 (18 + 6 * r) = A (18 + 6 * r) := by have := h 5 (by decide); rwa [show 13 + 6 * r + 5 = 18 + 6 * r by omega] at this
  unfold OkR
  rw [h0, h1, h2, h3, h4, h5]
  exact ⟨e0, e1, e2, e3, e4, e5, e6⟩
/-- where a single number lies -/
def loc (a i : Nat) : Nat × Nat := if i = 0 then (a, 6) else if i = 1 then (a + 2, 0) else if i = 2 then (a + 2, 1) else if i = 5 then (a, 7) else if i = 6 then (a, 8) else (a + 1, i - 7)
theorem loc_7 {a k : Nat} : loc a (7 + k) = (a + 1, k) := by
  unfold loc
  rw [if_neg (by omega), if_neg (by omega), if_neg (by omega), if_neg (by omega), if_neg (by omega), Nat.add_sub_cancel_left]
theorem loc_i {a i k : Nat} (hi : i < 13 ∧ i ≠ 3 ∧ i ≠ 4) (hk : k < 13 ∧ k ≠ 3 ∧ k ≠ 4) (h : k ≠ i) : (loc a k).1 ≠ (loc a i).1 ∨ (loc a k).2 ≠ (loc a i).2 := by
  unfold loc
  repeat' split
  all_goals simp only
  all_goals omega
theorem loc_m {a i : Nat} : (loc a i).1 = a ∧ 6 ≤ (loc a i).2 ∨ (loc a i).1 = a + 1 ∨ (loc a i).1 = a + 2 := by
  unfold loc
  repeat' split
  all_goals simp
theorem rel_low {M : Mem} {a : Nat} {A : Nat → Nat} (hO : Ok A) (hR : RelS M a A) {i v : Nat} (hi : i < 13 ∧ i ≠ 3 ∧ i ≠ 4) : RelS (sI M (loc a i).1 (loc a i).2 (nI v)) a (updN A i v) ∧ Sm (fun r => a ≤ r ∧ r ≤ a + 2) M (sI M (loc a i).1 (loc a i).2 (nI v)) := by
  have hm := hO.m
  have hl := @loc_m a i
  have hS : Sm (fun r => a ≤ r ∧ r ≤ a + 2) M (sI M (loc a i).1 (loc a i).2 (nI v)) := Sm.rf.put (by omega)
  have f : ∀ k, k < 13 ∧ k ≠ 3 ∧ k ≠ 4 → gI M (loc a k).1 (loc a k).2 = nI (A k) → gI (sI M (loc a i).1 (loc a i).2 (nI v)) (loc a k).1 (loc a k).2 = nI (updN A i v k) := by
    intro k hk h
    by_cases e : k = i
    · subst e; rw [gI_s, updN_s]
    · rw [gI_n (loc_i hi hk e), updN_n e, h]
  have g : ∀ k, k = 4 ∨ k = 5 → gI (sI M (loc a i).1 (loc a i).2 (nI v)) a k = gI M a k := fun k hk => gI_n (by omega)
  refine ⟨⟨fun k hk => ?_, f 1 (by decide) hR.s0, f 2 (by decide) hR.s1, ?_, ?_, f 0 (by decide) hR.d, f 5 (by decide) hR.g, f 6 (by decide) hR.f, fun e he => ?_, fun r hr => ?_⟩, hS⟩
  · have := f (7 + k) (by omega) (by rw [loc_7]; exact hR.w k hk)
    rwa [loc_7] at this
  · rw [g 4 (by decide), updN_n (by omega)]; exact hR.n
  · rw [g 5 (by decide), updN_n (by omega)]; exact hR.m
  · rw [updN_n (by omega)] at he
    exact ((hR.e e he).sm hS (by omega) (by omega)).cg (fun j hj => updN_n (by omega)) (hO.e e he).2.1
  · rw [updN_n (by omega)] at hr
    exact ((hR.r r hr).sm hS (by omega)).cg hm (fun i hi hi2 => updN_n (by omega)) hO.q hr
theorem ok_low {A : Nat → Nat} (hO : Ok A) {i v : Nat} (hi : i < 13 ∧ i ≠ 3 ∧ i ≠ 4) (h1 : i = 1 → 1 ≤ v ∧ v ≤ 30) (h2 : i = 2 → 9 ≤ v ∧ v ≤ 60) (h7 : 7 ≤ i → 1 ≤ v ∧ v ≤ 9) : Ok (updN A i v) := by
  have e3 : updN A i v 3 = A 3 := updN_n (by omega)
  have e4 : updN A i v 4 = A 4 := updN_n (by omega)
  refine ⟨by rw [e3]; exact hO.n, by rw [e4]; exact hO.m, fun k hk => ?_, ?_, ?_, fun e he => ?_, fun r hr => ?_⟩
  · by_cases h : 7 + k = i
    · rw [h, updN_s]; exact h7 (by omega)
    · rw [updN_n h]; exact hO.w k hk
  · by_cases h : 1 = i
    · subst h; rw [updN_s]; exact h1 rfl
    · rw [updN_n h]; exact hO.b
  · by_cases h : 2 = i
    · subst h; rw [updN_s]; exact h2 rfl
    · rw [updN_n h]; exact hO.h
  · rw [e3] at he
    exact (hO.e e he).cg (fun j hj => updN_n (by omega))
  · rw [e4] at hr
    exact (hO.r r hr).cg (fun j hj => updN_n (by omega))
theorem keepW_A (w : Wd) : (keepW w).A = w.A := by unfold keepW; split <;> rfl
theorem keepW_ok {w : Wd} (hO : OkW w) : OkW (keepW w) := by
  obtain ⟨o1, o2, o3, o4, o5, o6, o7, o8⟩ := hO
  unfold keepW
  by_cases h : w.h < 4
  · rw [if_pos h]
    refine ⟨o1, show w.h + 1 ≤ 4 by omega, fun i hi => ?_, o4, o5, o6, o7, o8⟩
    have hi' : i < w.h + 1 := hi
    show Ok (upB w.B w.h w.A i)
    unfold upB
    split
    · exact o1
    · exact o3 i (by omega)
  · rw [if_neg h]
    refine ⟨o1, show 4 ≤ 4 by omega, fun i hi => ?_, o4, o5, o6, o7, o8⟩
    have hi' : i < 4 := hi
    show Ok (upB (fun i => w.B (i + 1)) 3 w.A i)
    unfold upB
    split
    · exact o1
    · exact o3 (i + 1) (by omega)
theorem OkW.toA {w : Wd} {A : Nat → Nat} (hO : OkW w) (h : Ok A) : OkW (w.toA A) := ⟨h, hO.2⟩
/-- a change within the state of today, the sheet and the draft -/
theorem CI.sa {X : Nat → Prop} {M M2 : Mem} {w : Wd} {A : Nat → Nat} (hO : OkW w) (hC : CI M w) (hS : Sm X M M2) (hX : ∀ r, X r → 7 ≤ r ∧ r < 35) (hR : RelS M2 12 A) : CI M2 (w.toA A) := by
  obtain ⟨o1, o2, o3, o4, o5, o6, o7, o8⟩ := hO
  obtain ⟨c1, c2, c3, c4, c5⟩ := hC
  have n : ∀ r, r < 7 → ¬ X r := fun r h x => by have := hX r x; omega
  exact ⟨hR, c2.si hS.1 (fun r hr => by have := hX r hr; omega) hS.2 o2 o3, ⟨(hS.1 1 6 (n 1 (by decide))).trans c3.1, fun h => (c3.2 h).sm hS (fun r hr => by have := hX r hr; omega) (o5 h).n (o5 h).m⟩, ⟨(hS.1 3 1 (n 3 (by decide))).trans c4.1, fun i hi => (hS.1 4 i (n 4 (by decide))).trans (c4.2.1 i hi), (hS.1 5 3 (n 5 (by decide))).trans c4.2.2.1, (hS.1 5 4 (n 5 (by decide))).trans c4.2.2.2⟩, ⟨(hS.1 1 8 (n 1 (by decide))).trans c5.1, fun h => ⟨(hS.1 1 9 (n 1 (by decide))).trans (c5.2 h).1, (hS.1 1 10 (n 1 (by decide))).trans (c5.2 h).2.1, (hS.1 1 11 (n 1 (by decide))).trans (c5.2 h).2.2⟩⟩⟩
/-- an answer, the world behind it, and nothing of the reference touched -/
def CRes (o : Option (Int32 × Mem)) (M : Mem) (v : Int32) (w : Wd) : Prop := ∃ M2, o = some (v, M2) ∧ CI M2 w ∧ SmI (fun r => r < 150) M M2
theorem HiX.lt {r : Nat} (h : HiX r) : r < 150 := by unfold HiX at h; omega
theorem CRes.no {M : Mem} {v : Int32} {w : Wd} (h : CI M w) : CRes (some (v, M)) M v w := ⟨M, rfl, h, fun _ _ _ => rfl⟩
def opWeight (x y : Int32) (w : Wd) : Int32 × Wd := if (0 ≤ x ∧ x ≤ 5) ∧ 1 ≤ y ∧ y ≤ 9 then (nI (w.A (7 + x.toNatClampNeg)), (keepW w).toA (updN w.A (7 + x.toNatClampNeg) y.toNatClampNeg)) else (-1, w)
theorem isW_0 {x a b : Int32} (h : ¬ (a ≤ x ∧ x ≤ b)) : f_X5_isWithin x a b = 0 := by rw [p_isWithin, if_neg h]
theorem isW_1 {x a b : Int32} (h : a ≤ x ∧ x ≤ b) : ¬ f_X5_isWithin x a b = 0 := by rw [p_isWithin, if_pos h]; decide
theorem c_weight {M : Mem} {w : Wd} (hO : OkW w) (hC : CI M w) (x y : Int32) : CRes (f_X5_weight 1 x y M) M (opWeight x y w).1 (opWeight x y w).2 := by
  unfold f_X5_weight opWeight f_X5_isKind
  by_cases h1 : 0 ≤ x ∧ x ≤ 5
  · rw [if_neg (isW_1 h1)]
    by_cases h2 : 1 ≤ y ∧ y ≤ 9
    · obtain ⟨i, i1, rfl⟩ := in_ex (b := 5) (by decide) h1.1 h1.2
      obtain ⟨v, v1, v2, rfl⟩ := in_ex2 (a := 1) (b := 9) (by decide) (by decide) h2.1 h2.2
      obtain ⟨M1, r1, r2, r3⟩ := p_keep hO hC
      obtain ⟨s1, s2, s3⟩ := st_0 lay1.2.2.2
      have hA := keepW_A w
      have hR : RelS M1 12 w.A := by rw [← hA]; exact r2.1
      have hl := @loc_7 12 i
      obtain ⟨t1, t2⟩ := rel_low hO.1 hR (i := 7 + i) (v := v) (by omega)
      rw [hl] at t1 t2
      rw [if_neg (isW_1 h2), if_pos ⟨h1, h2⟩, gdd_t lay1.1, r1, obb_s, lay1.2.1, gdd_t lay1.2.2.2, s1, p_at s2 (by omega) (by omega), obb_s, p_put s2 (by omega) (by omega), obb_s, nI_clamp (by omega), nI_clamp (by omega), hR.w i (by omega)]
      refine ⟨_, rfl, CI.sa (keepW_ok hO) r2 t2 (fun r hr => by omega) t1, (r3.mono (fun r h => h.lt)).tr (t2.i.mono (fun r h => by omega))⟩
    · rw [if_pos (isW_0 h2), if_neg (fun h => h2 h.2)]
      exact CRes.no hC
  · rw [if_pos (isW_0 h1), if_neg (fun h => h1 h.1)]
    exact CRes.no hC
def opSet (x y : Int32) (w : Wd) : Int32 × Wd := if x = 0 ∧ 1 ≤ y ∧ y ≤ 30 then (nI (w.A 1), (keepW w).toA (updN w.A 1 y.toNatClampNeg)) else if x = 1 ∧ 9 ≤ y ∧ y ≤ 60 then (nI (w.A 2), (keepW w).toA (updN w.A 2 y.toNatClampNeg)) else (-1, w)
theorem c_set {M : Mem} {w : Wd} (hO : OkW w) (hC : CI M w) (x y : Int32) : CRes (f_X5_set 1 x y M) M (opSet x y w).1 (opSet x y w).2 := by
  have hA := keepW_A w
  obtain ⟨s1, s2, s3⟩ := st_1 lay1.2.2.2
  unfold f_X5_set opSet
  by_cases h1 : x = 0
  · subst h1
    rw [if_pos rfl]
    by_cases h2 : 1 ≤ y ∧ y ≤ 30
    · obtain ⟨v, v1, v2, rfl⟩ := in_ex2 (a := 1) (b := 30) (by decide) (by decide) h2.1 h2.2
      obtain ⟨M1, r1, r2, r3⟩ := p_keep hO hC
      have hR : RelS M1 12 w.A := by rw [← hA]; exact r2.1
      obtain ⟨t1, t2⟩ := rel_low hO.1 hR (i := 1) (v := v) (by omega)
      rw [if_neg (isW_1 h2), if_pos ⟨rfl, h2⟩, gdd_t lay1.1, r1, obb_s, lay1.2.1, gdd_t lay1.2.2.2, s1, show (0 : Int32) = nI 0 from rfl, p_at s2 (by omega) (by omega), obb_s, p_put s2 (by omega) (by omega), obb_s, nI_clamp (by omega), hR.s0]
      exact ⟨_, rfl, CI.sa (keepW_ok hO) r2 t2 (fun r hr => by omega) t1, (r3.mono (fun r h => h.lt)).tr (t2.i.mono (fun r h => by omega))⟩
    · rw [if_pos (isW_0 h2), if_neg (by decide), if_neg (fun h => h2 h.2), if_neg (fun h => absurd h.1 (by decide))]
      exact CRes.no hC
  · rw [if_neg h1, if_neg (show ¬ (x = 0 ∧ 1 ≤ y ∧ y ≤ 30) from fun h => h1 h.1)]
    by_cases h3 : x = 1
    · subst h3
      rw [if_pos rfl]
      by_cases h2 : 9 ≤ y ∧ y ≤ 60
      · obtain ⟨v, v1, v2, rfl⟩ := in_ex2 (a := 9) (b := 60) (by decide) (by decide) h2.1 h2.2
        obtain ⟨M1, r1, r2, r3⟩ := p_keep hO hC
        have hR : RelS M1 12 w.A := by rw [← hA]; exact r2.1
        obtain ⟨t1, t2⟩ := rel_low hO.1 hR (i := 2) (v := v) (by omega)
        rw [if_neg (isW_1 h2), if_pos ⟨rfl, h2⟩, gdd_t lay1.1, r1, obb_s, lay1.2.1, gdd_t lay1.2.2.2, s1, show (1 : Int32) = nI 1 from rfl, p_at s2 (by omega) (by omega), obb_s, p_put s2 (by omega) (by omega), obb_s, nI_clamp (by omega), hR.s1]
        exact ⟨_, rfl, CI.sa (keepW_ok hO) r2 t2 (fun r hr => by omega) t1, (r3.mono (fun r h => h.lt)).tr (t2.i.mono (fun r h => by omega))⟩
      · rw [if_pos (isW_0 h2), if_neg (fun h => h2 h.2)]
        exact CRes.no hC
    · rw [if_neg h3, if_neg (show ¬ (x = 1 ∧ 9 ≤ y ∧ y ≤ 60) from fun h => h3 h.1)]
      exact CRes.no hC
def opDay (w : Wd) : Int32 × Wd := (nI (w.A 0 + 1), (keepW w).toA (updN w.A 0 (w.A 0 + 1)))
theorem c_day {M : Mem} {w : Wd} (hO : OkW w) (hC : CI M w) : CRes (f_X5_day 1 M) M (opDay w).1 (opDay w).2 := by
  have hA := keepW_A w
  obtain ⟨M1, r1, r2, r3⟩ := p_keep hO hC
  have hR : RelS M1 12 w.A := by rw [← hA]; exact r2.1
  obtain ⟨t1, t2⟩ := rel_low hO.1 hR (i := 0) (v := w.A 0 + 1) (by omega)
  unfold f_X5_day opDay
  rw [gdd_t lay1.1, r1, obb_s, lay1.2.1, gdd_t lay1.2.2.2, bvv_e, hR.d, nI_1, gI_s]
  exact ⟨_, rfl, CI.sa (keepW_ok hO) r2 t2 (fun r hr => by omega) t1, (r3.mono (fun r h => h.lt)).tr (t2.i.mono (fun r h => by omega))⟩
