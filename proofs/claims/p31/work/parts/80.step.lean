/-! PURE: the law's calls, a step each; looks change the memory, never the world -/
/-- it ends, in a world that Q holds of -/
def WP {α : Type} (o : Option (α × Mem)) (Q : α → Wd → Prop) : Prop := ∃ (v : α) (M2 : Mem) (w : Wd), o = some (v, M2) ∧ CI M2 w ∧ Q v w
abbrev CR {α : Type} (o : Option (α × Mem)) (v : α) (w : Wd) : Prop := WP o (fun a b => a = v ∧ b = w)
section STEP
variable {α : Type} {M : Mem} {w w2 : Wd} {v : α} {Q : α → Wd → Prop}
theorem CR.g {x : Option (α × Mem)} (h : WP x Q) : WP (gdd (kd 1 = 6) x) Q := by rw [gdd_t lay1.1]; exact h
theorem CR.gd {c : Prop} [Decidable c] {x : Option (α × Mem)} (hc : c) (h : WP x Q) : WP (gdd c x) Q := by rw [gdd_t hc]; exact h
theorem CR.b {β : Type} {a : β} {k : β → Option (α × Mem)} (h : WP (k a) Q) : WP (bvv a k) Q := h
theorem CR.be {β : Type} {a a2 : β} {k : β → Option (α × Mem)} (e : a = a2) (h : WP (k a2) Q) : WP (bvv a k) Q := by subst e; exact h
theorem CR.t {c : Prop} [Decidable c] {a b : Option (α × Mem)} (hc : c) (h : WP a Q) : WP (if c then a else b) Q := by rw [if_pos hc]; exact h
theorem CR.f {c : Prop} [Decidable c] {a b : Option (α × Mem)} (hc : ¬ c) (h : WP b Q) : WP (if c then a else b) Q := by rw [if_neg hc]; exact h
theorem CR.o {β : Type} {x : Option β} {a : β} {k : β → Option (α × Mem)} (e : x = some a) (h : WP (k a) Q) : WP (obb x k) Q := by rw [e]; exact h
theorem CR.p {β : Type} {x : Option (β × Mem)} {a : β} {w1 : Wd} {k : β → Mem → Option (α × Mem)} (hx : CR x a w1) (h : ∀ M2, CI M2 w1 → WP (k a M2) Q) : WP (opp x k) Q := by
  obtain ⟨v0, M2, w0, e, c, h1, h2⟩ := hx
  subst h1
  subst h2
  rw [e]
  exact h M2 c
theorem CR.pe {β : Type} {x : Option (β × Mem)} {a a2 : β} {w1 : Wd} {k : β → Mem → Option (α × Mem)} (hx : CR x a w1) (ea : a = a2) (h : ∀ M2, CI M2 w1 → WP (k a2 M2) Q) : WP (opp x k) Q := by
  subst ea
  exact CR.p hx h
/-- a call whose world behind it is known by R alone -/
theorem CR.pq {β : Type} {x : Option (β × Mem)} {R : β → Wd → Prop} {k : β → Mem → Option (α × Mem)} (hx : WP x R) (h : ∀ a M2 w1, R a w1 → CI M2 w1 → WP (k a M2) Q) : WP (opp x k) Q := by
  obtain ⟨v0, M2, w0, e, c, h1⟩ := hx
  rw [e]
  exact h v0 M2 w0 h1 c
theorem WP.r (hC : CI M w) (h : Q v w) : WP (some (v, M)) Q := ⟨v, M, w, rfl, hC, h⟩
theorem CR.r (hC : CI M w) : CR (some (v, M)) v w := ⟨v, M, w, rfl, hC, rfl, rfl⟩
theorem CR.eq {o : Option (α × Mem)} {v2 : α} (e : v = v2) (h : CR o v w) : CR o v2 w := e ▸ h
theorem WP.mono {o : Option (α × Mem)} {Q2 : α → Wd → Prop} (h : WP o Q) (hq : ∀ a b, Q a b → Q2 a b) : WP o Q2 := by
  obtain ⟨a, M2, b, h1, h2, h3⟩ := h
  exact ⟨a, M2, b, h1, h2, hq a b h3⟩
theorem CRes.cr {o : Option (Int32 × Mem)} {z : Int32} (h : CRes o M z w) : CR o z w := by
  obtain ⟨M2, r1, r2, r3⟩ := h
  exact ⟨z, M2, w, r1, r2, rfl, rfl⟩
end STEP
theorem lkc_0 {w : Wd} : lkCount (0 : Int32) w = nI (w.A 0) := by unfold lkCount; rw [if_pos (by decide)]
theorem lkc_1 {w : Wd} : lkCount (1 : Int32) w = nI (w.A 3) := by unfold lkCount; rw [if_neg (by decide), if_pos (by decide)]
theorem lkc_2 {w : Wd} : lkCount (2 : Int32) w = nI (sumN (fun k => styN w.A (73 + 16 * k)) (w.A 3)) := by unfold lkCount; rw [if_neg (by decide), if_neg (by decide), if_pos (by decide)]
theorem lkc_3 {w : Wd} : lkCount (3 : Int32) w = nI (sumN (ceN w.A) (w.A 3)) := by unfold lkCount; rw [if_neg (by decide), if_neg (by decide), if_neg (by decide), if_pos (by decide)]
theorem lkc_4 {w : Wd} : lkCount (4 : Int32) w = nI (w.A 4) := by unfold lkCount; rw [if_neg (by decide), if_neg (by decide), if_neg (by decide), if_neg (by decide), if_pos (by decide)]
theorem lkc_5 {w : Wd} : lkCount (5 : Int32) w = nI (frcC w.A) := by unfold lkCount; rw [if_neg (by decide), if_neg (by decide), if_neg (by decide), if_neg (by decide), if_neg (by decide), if_pos (by decide)]
theorem lkc_6 {w : Wd} : lkCount (6 : Int32) w = nI (sumN (ctsN w.A) (w.A 4)) := by unfold lkCount; rw [if_neg (by decide), if_neg (by decide), if_neg (by decide), if_neg (by decide), if_neg (by decide), if_neg (by decide), if_pos (by decide)]
theorem lkc_7 {w : Wd} : lkCount (7 : Int32) w = nI (w.A 5) := by unfold lkCount; rw [if_neg (by decide), if_neg (by decide), if_neg (by decide), if_neg (by decide), if_neg (by decide), if_neg (by decide), if_neg (by decide), if_pos (by decide)]
theorem lkc_8 {w : Wd} : lkCount (8 : Int32) w = nI (w.A 6) := by unfold lkCount; rw [if_neg (by decide), if_neg (by decide), if_neg (by decide), if_neg (by decide), if_neg (by decide), if_neg (by decide), if_neg (by decide), if_neg (by decide), if_pos (by decide)]
theorem lkc_9 {w : Wd} : lkCount (9 : Int32) w = nI (sumN (fun k => pcN (w.A (73 + 16 * k + 1))) (w.A 3)) := by unfold lkCount; rw [if_neg (by decide), if_neg (by decide), if_neg (by decide), if_neg (by decide), if_neg (by decide), if_neg (by decide), if_neg (by decide), if_neg (by decide), if_neg (by decide), if_pos (by decide)]
theorem lkc_10 {w : Wd} : lkCount (10 : Int32) w = nI (w.A 1) := by unfold lkCount; rw [if_neg (by decide), if_neg (by decide), if_neg (by decide), if_neg (by decide), if_neg (by decide), if_neg (by decide), if_neg (by decide), if_neg (by decide), if_neg (by decide), if_neg (by decide), if_pos (by decide)]
theorem lkc_11 {w : Wd} : lkCount (11 : Int32) w = nI (w.A 2) := by unfold lkCount; rw [if_neg (by decide), if_neg (by decide), if_neg (by decide), if_neg (by decide), if_neg (by decide), if_neg (by decide), if_neg (by decide), if_neg (by decide), if_neg (by decide), if_neg (by decide), if_neg (by decide), if_pos (by decide)]
theorem lkc_12 {w : Wd} : lkCount (12 : Int32) w = bsE (chS w.A (w.A 3)) := by unfold lkCount; rw [if_neg (by decide), if_neg (by decide), if_neg (by decide), if_neg (by decide), if_neg (by decide), if_neg (by decide), if_neg (by decide), if_neg (by decide), if_neg (by decide), if_neg (by decide), if_neg (by decide), if_neg (by decide), if_pos (by decide)]
theorem lkc_13 {w : Wd} : lkCount (13 : Int32) w = nI w.l := by unfold lkCount; rw [if_neg (by decide), if_neg (by decide), if_neg (by decide), if_neg (by decide), if_neg (by decide), if_neg (by decide), if_neg (by decide), if_neg (by decide), if_neg (by decide), if_neg (by decide), if_neg (by decide), if_neg (by decide), if_neg (by decide), if_pos (by decide)]
theorem lkc_14 {w : Wd} : lkCount (14 : Int32) w = nI w.h := by unfold lkCount; rw [if_neg (by decide), if_neg (by decide), if_neg (by decide), if_neg (by decide), if_neg (by decide), if_neg (by decide), if_neg (by decide), if_neg (by decide), if_neg (by decide), if_neg (by decide), if_neg (by decide), if_neg (by decide), if_neg (by decide), if_neg (by decide), if_pos (by decide)]
theorem lke_0 {A : Nat → Nat} {o : Nat} : lkEdA (0 : Int32) A o = nI (A o) := by unfold lkEdA; rw [if_pos (by decide)]
theorem lke_1 {A : Nat → Nat} {o : Nat} : lkEdA (1 : Int32) A o = nI (A (o + 1)) := by unfold lkEdA; rw [if_neg (by decide), if_pos (by decide)]
theorem lke_2 {A : Nat → Nat} {o : Nat} : lkEdA (2 : Int32) A o = nI (pcN (A (o + 1)) + 1) := by unfold lkEdA; rw [if_neg (by decide), if_neg (by decide), if_pos (by decide)]
theorem lke_3 {A : Nat → Nat} {o : Nat} : lkEdA (3 : Int32) A o = nI (sumN (wtN A o) (A o)) := by unfold lkEdA; rw [if_neg (by decide), if_neg (by decide), if_neg (by decide), if_pos (by decide)]
theorem lke_4 {A : Nat → Nat} {o : Nat} : lkEdA (4 : Int32) A o = nI (clN A o (A (o + 1))) := by unfold lkEdA; rw [if_neg (by decide), if_neg (by decide), if_neg (by decide), if_neg (by decide), if_pos (by decide)]
theorem lke_5 {A : Nat → Nat} {o : Nat} : lkEdA (5 : Int32) A o = nI (fnN A o (A (o + 1))) := by unfold lkEdA; rw [if_neg (by decide), if_neg (by decide), if_neg (by decide), if_neg (by decide), if_neg (by decide), if_pos (by decide)]
theorem lke_6 {A : Nat → Nat} {o : Nat} : lkEdA (6 : Int32) A o = nI (costN A o (A (o + 1))) := by unfold lkEdA; rw [if_neg (by decide), if_neg (by decide), if_neg (by decide), if_neg (by decide), if_neg (by decide), if_neg (by decide), if_pos (by decide)]
theorem lke_7 {A : Nat → Nat} {o : Nat} : lkEdA (7 : Int32) A o = nI (styN A o) := by unfold lkEdA; rw [if_neg (by decide), if_neg (by decide), if_neg (by decide), if_neg (by decide), if_neg (by decide), if_neg (by decide), if_neg (by decide), if_pos (by decide)]
theorem lke_8 {A : Nat → Nat} {o : Nat} : lkEdA (8 : Int32) A o = nI (A (o + 2)) := by unfold lkEdA; rw [if_neg (by decide), if_neg (by decide), if_neg (by decide), if_neg (by decide), if_neg (by decide), if_neg (by decide), if_neg (by decide), if_neg (by decide), if_pos (by decide)]
theorem lke_9 {A : Nat → Nat} {o : Nat} : lkEdA (9 : Int32) A o = nI (A (o + 3)) := by unfold lkEdA; rw [if_neg (by decide), if_neg (by decide), if_neg (by decide), if_neg (by decide), if_neg (by decide), if_neg (by decide), if_neg (by decide), if_neg (by decide), if_neg (by decide), if_pos (by decide)]
theorem lkg_0 {A : Nat → Nat} {o g : Nat} : lkGapA (0 : Int32) A o g = nI (bitN (A (o + 1)) g) := by unfold lkGapA; rw [if_pos (by decide)]
theorem lkg_1 {A : Nat → Nat} {o g : Nat} : lkGapA (1 : Int32) A o g = enc (cnt A (A (o + 4 + g)) (A (o + 5 + g))) := by unfold lkGapA; rw [if_neg (by decide), if_pos (by decide)]
theorem lkg_2 {A : Nat → Nat} {o g : Nat} : lkGapA (2 : Int32) A o g = nI (fineN A o g (bitN (A (o + 1)) g)) := by unfold lkGapA; rw [if_neg (by decide), if_neg (by decide), if_pos (by decide)]
theorem lkg_3 {A : Nat → Nat} {o g : Nat} : lkGapA (3 : Int32) A o g = 1000 + nI (costN A o (flN (A (o + 1)) g)) - nI (costN A o (A (o + 1))) := by unfold lkGapA; rw [if_neg (by decide), if_neg (by decide), if_neg (by decide), if_pos (by decide)]
theorem lkr_0 {A : Nat → Nat} {r : Nat} : lkRuA (0 : Int32) A r = nI (A (13 + 6 * r)) := by unfold lkRuA; rw [if_pos (by decide)]
theorem lkr_1 {A : Nat → Nat} {r : Nat} : lkRuA (1 : Int32) A r = nI (A (14 + 6 * r)) := by unfold lkRuA; rw [if_neg (by decide), if_pos (by decide)]
theorem lkr_2 {A : Nat → Nat} {r : Nat} : lkRuA (2 : Int32) A r = nI (A (15 + 6 * r)) := by unfold lkRuA; rw [if_neg (by decide), if_neg (by decide), if_pos (by decide)]
theorem lkr_3 {A : Nat → Nat} {r : Nat} : lkRuA (3 : Int32) A r = nI (A (16 + 6 * r)) := by unfold lkRuA; rw [if_neg (by decide), if_neg (by decide), if_neg (by decide), if_pos (by decide)]
theorem lkr_4 {A : Nat → Nat} {r : Nat} : lkRuA (4 : Int32) A r = (if A (17 + 6 * r) = 0 then -4 else nI (A (17 + 6 * r) - 1)) := by unfold lkRuA; rw [if_neg (by decide), if_neg (by decide), if_neg (by decide), if_neg (by decide), if_pos (by decide)]
theorem lkr_5 {A : Nat → Nat} {r : Nat} : lkRuA (5 : Int32) A r = nI (inF A r).toNat := by unfold lkRuA; rw [if_neg (by decide), if_neg (by decide), if_neg (by decide), if_neg (by decide), if_neg (by decide), if_pos (by decide)]
theorem lkr_6 {A : Nat → Nat} {r : Nat} : lkRuA (6 : Int32) A r = nI (ctsN A r) := by unfold lkRuA; rw [if_neg (by decide), if_neg (by decide), if_neg (by decide), if_neg (by decide), if_neg (by decide), if_neg (by decide), if_pos (by decide)]
theorem lkr_7 {A : Nat → Nat} {r : Nat} : lkRuA (7 : Int32) A r = nI (sumN (citN A r) (A 4)) := by unfold lkRuA; rw [if_neg (by decide), if_neg (by decide), if_neg (by decide), if_neg (by decide), if_neg (by decide), if_neg (by decide), if_neg (by decide), if_pos (by decide)]
theorem lkr_8 {A : Nat → Nat} {r : Nat} : lkRuA (8 : Int32) A r = nI (sumN (brgN A r) (A 3)) := by unfold lkRuA; rw [if_neg (by decide), if_neg (by decide), if_neg (by decide), if_neg (by decide), if_neg (by decide), if_neg (by decide), if_neg (by decide), if_neg (by decide), if_pos (by decide)]
theorem lkEd_i {A : Nat → Nat} {e : Nat} {f : Int32} (h4 : A 3 ≤ 4) (he : e < A 3) : lkEd (nI e) f A = lkEdA f A (73 + 16 * e) := by unfold lkEd; rw [ixO_s (by omega) he]
theorem ixO_n {x : Int32} {n : Nat} (h : x < 0 ∨ nI n ≤ x) : ixO x n = none := by
  unfold ixO
  rw [if_neg]
  rintro ⟨h1, h2⟩
  rcases h with h | h
  · exact absurd h1 (Int32.not_le.mpr h)
  · exact absurd h2 (Int32.not_lt.mpr h)
theorem lkEd_o {A : Nat → Nat} {x f : Int32} (h : x < 0 ∨ nI (A 3) ≤ x) : lkEd x f A = -1 := by unfold lkEd; rw [ixO_n h]
theorem lkRu_i {A : Nat → Nat} {r : Nat} {f : Int32} (h4 : A 4 ≤ 10) (hr : r < A 4) : lkRu (nI r) f A = lkRuA f A r := by unfold lkRu; rw [ixO_s (by omega) hr]
theorem lkRu_o {A : Nat → Nat} {x f : Int32} (h : x < 0 ∨ nI (A 4) ≤ x) : lkRu x f A = -1 := by unfold lkRu; rw [ixO_n h]
theorem lkGap_i {A : Nat → Nat} {e g : Nat} {f : Int32} (h4 : A 3 ≤ 4) (he : e < A 3) (h12 : A (73 + 16 * e) ≤ 12) (hg : g + 1 < A (73 + 16 * e)) : lkGap (nI e) (nI g) f A = lkGapA f A (73 + 16 * e) g := by unfold lkGap; rw [ixO_s (by omega) he]; simp only; rw [ixO_s (by omega) (by omega)]
theorem lkGap_o {A : Nat → Nat} {x y f : Int32} (h : x < 0 ∨ nI (A 3) ≤ x) : lkGap x y f A = -1 := by unfold lkGap; rw [ixO_n h]
theorem lkGap_o2 {A : Nat → Nat} {e : Nat} {y f : Int32} (h4 : A 3 ≤ 4) (he : e < A 3) (h : y < 0 ∨ nI (A (73 + 16 * e) - 1) ≤ y) : lkGap (nI e) y f A = -1 := by unfold lkGap; rw [ixO_s (by omega) he]; simp only; rw [ixO_n h]
section STEPS
variable {α : Type} {M : Mem} {w : Wd} {Q : α → Wd → Prop}
theorem s_c0 (hO : OkW w) (hC : CI M w) {k : Int32 → Mem → Option (α × Mem)} (h : ∀ M2, CI M2 w → WP (k (nI (w.A 0)) M2) Q) : WP (opp (f_X5_count 1 (0 : Int32) M) k) Q := CR.pe (c_count hO hC _).cr lkc_0 h
theorem s_c1 (hO : OkW w) (hC : CI M w) {k : Int32 → Mem → Option (α × Mem)} (h : ∀ M2, CI M2 w → WP (k (nI (w.A 3)) M2) Q) : WP (opp (f_X5_count 1 (1 : Int32) M) k) Q := CR.pe (c_count hO hC _).cr lkc_1 h
theorem s_c2 (hO : OkW w) (hC : CI M w) {k : Int32 → Mem → Option (α × Mem)} (h : ∀ M2, CI M2 w → WP (k (nI (sumN (fun k => styN w.A (73 + 16 * k)) (w.A 3))) M2) Q) : WP (opp (f_X5_count 1 (2 : Int32) M) k) Q := CR.pe (c_count hO hC _).cr lkc_2 h
theorem s_c3 (hO : OkW w) (hC : CI M w) {k : Int32 → Mem → Option (α × Mem)} (h : ∀ M2, CI M2 w → WP (k (nI (sumN (ceN w.A) (w.A 3))) M2) Q) : WP (opp (f_X5_count 1 (3 : Int32) M) k) Q := CR.pe (c_count hO hC _).cr lkc_3 h
theorem s_c4 (hO : OkW w) (hC : CI M w) {k : Int32 → Mem → Option (α × Mem)} (h : ∀ M2, CI M2 w → WP (k (nI (w.A 4)) M2) Q) : WP (opp (f_X5_count 1 (4 : Int32) M) k) Q := CR.pe (c_count hO hC _).cr lkc_4 h
theorem s_c5 (hO : OkW w) (hC : CI M w) {k : Int32 → Mem → Option (α × Mem)} (h : ∀ M2, CI M2 w → WP (k (nI (frcC w.A)) M2) Q) : WP (opp (f_X5_count 1 (5 : Int32) M) k) Q := CR.pe (c_count hO hC _).cr lkc_5 h
theorem s_c6 (hO : OkW w) (hC : CI M w) {k : Int32 → Mem → Option (α × Mem)} (h : ∀ M2, CI M2 w → WP (k (nI (sumN (ctsN w.A) (w.A 4))) M2) Q) : WP (opp (f_X5_count 1 (6 : Int32) M) k) Q := CR.pe (c_count hO hC _).cr lkc_6 h
theorem s_c7 (hO : OkW w) (hC : CI M w) {k : Int32 → Mem → Option (α × Mem)} (h : ∀ M2, CI M2 w → WP (k (nI (w.A 5)) M2) Q) : WP (opp (f_X5_count 1 (7 : Int32) M) k) Q := CR.pe (c_count hO hC _).cr lkc_7 h
theorem s_c8 (hO : OkW w) (hC : CI M w) {k : Int32 → Mem → Option (α × Mem)} (h : ∀ M2, CI M2 w → WP (k (nI (w.A 6)) M2) Q) : WP (opp (f_X5_count 1 (8 : Int32) M) k) Q := CR.pe (c_count hO hC _).cr lkc_8 h
theorem s_c9 (hO : OkW w) (hC : CI M w) {k : Int32 → Mem → Option (α × Mem)} (h : ∀ M2, CI M2 w → WP (k (nI (sumN (fun k => pcN (w.A (73 + 16 * k + 1))) (w.A 3))) M2) Q) : WP (opp (f_X5_count 1 (9 : Int32) M) k) Q := CR.pe (c_count hO hC _).cr lkc_9 h
theorem s_c10 (hO : OkW w) (hC : CI M w) {k : Int32 → Mem → Option (α × Mem)} (h : ∀ M2, CI M2 w → WP (k (nI (w.A 1)) M2) Q) : WP (opp (f_X5_count 1 (10 : Int32) M) k) Q := CR.pe (c_count hO hC _).cr lkc_10 h
theorem s_c11 (hO : OkW w) (hC : CI M w) {k : Int32 → Mem → Option (α × Mem)} (h : ∀ M2, CI M2 w → WP (k (nI (w.A 2)) M2) Q) : WP (opp (f_X5_count 1 (11 : Int32) M) k) Q := CR.pe (c_count hO hC _).cr lkc_11 h
theorem s_c12 (hO : OkW w) (hC : CI M w) {k : Int32 → Mem → Option (α × Mem)} (h : ∀ M2, CI M2 w → WP (k (bsE (chS w.A (w.A 3))) M2) Q) : WP (opp (f_X5_count 1 (12 : Int32) M) k) Q := CR.pe (c_count hO hC _).cr lkc_12 h
theorem s_c13 (hO : OkW w) (hC : CI M w) {k : Int32 → Mem → Option (α × Mem)} (h : ∀ M2, CI M2 w → WP (k (nI w.l) M2) Q) : WP (opp (f_X5_count 1 (13 : Int32) M) k) Q := CR.pe (c_count hO hC _).cr lkc_13 h
theorem s_c14 (hO : OkW w) (hC : CI M w) {k : Int32 → Mem → Option (α × Mem)} (h : ∀ M2, CI M2 w → WP (k (nI w.h) M2) Q) : WP (opp (f_X5_count 1 (14 : Int32) M) k) Q := CR.pe (c_count hO hC _).cr lkc_14 h
theorem s_e0 (hO : OkW w) (hC : CI M w) {e : Nat} (he : e < w.A 3) {k : Int32 → Mem → Option (α × Mem)} (h : ∀ M2, CI M2 w → WP (k (nI (w.A (73 + 16 * e))) M2) Q) : WP (opp (f_X5_edition 1 (nI e) (0 : Int32) M) k) Q := CR.pe (c_edition hO hC _ _).cr ((lkEd_i hO.1.n he).trans lke_0) h
theorem s_e1 (hO : OkW w) (hC : CI M w) {e : Nat} (he : e < w.A 3) {k : Int32 → Mem → Option (α × Mem)} (h : ∀ M2, CI M2 w → WP (k (nI (w.A ((73 + 16 * e) + 1))) M2) Q) : WP (opp (f_X5_edition 1 (nI e) (1 : Int32) M) k) Q := CR.pe (c_edition hO hC _ _).cr ((lkEd_i hO.1.n he).trans lke_1) h
theorem s_e2 (hO : OkW w) (hC : CI M w) {e : Nat} (he : e < w.A 3) {k : Int32 → Mem → Option (α × Mem)} (h : ∀ M2, CI M2 w → WP (k (nI (pcN (w.A ((73 + 16 * e) + 1)) + 1)) M2) Q) : WP (opp (f_X5_edition 1 (nI e) (2 : Int32) M) k) Q := CR.pe (c_edition hO hC _ _).cr ((lkEd_i hO.1.n he).trans lke_2) h
theorem s_e3 (hO : OkW w) (hC : CI M w) {e : Nat} (he : e < w.A 3) {k : Int32 → Mem → Option (α × Mem)} (h : ∀ M2, CI M2 w → WP (k (nI (sumN (wtN w.A (73 + 16 * e)) (w.A (73 + 16 * e)))) M2) Q) : WP (opp (f_X5_edition 1 (nI e) (3 : Int32) M) k) Q := CR.pe (c_edition hO hC _ _).cr ((lkEd_i hO.1.n he).trans lke_3) h
theorem s_e4 (hO : OkW w) (hC : CI M w) {e : Nat} (he : e < w.A 3) {k : Int32 → Mem → Option (α × Mem)} (h : ∀ M2, CI M2 w → WP (k (nI (clN w.A (73 + 16 * e) (w.A ((73 + 16 * e) + 1)))) M2) Q) : WP (opp (f_X5_edition 1 (nI e) (4 : Int32) M) k) Q := CR.pe (c_edition hO hC _ _).cr ((lkEd_i hO.1.n he).trans lke_4) h
theorem s_e5 (hO : OkW w) (hC : CI M w) {e : Nat} (he : e < w.A 3) {k : Int32 → Mem → Option (α × Mem)} (h : ∀ M2, CI M2 w → WP (k (nI (fnN w.A (73 + 16 * e) (w.A ((73 + 16 * e) + 1)))) M2) Q) : WP (opp (f_X5_edition 1 (nI e) (5 : Int32) M) k) Q := CR.pe (c_edition hO hC _ _).cr ((lkEd_i hO.1.n he).trans lke_5) h
theorem s_e6 (hO : OkW w) (hC : CI M w) {e : Nat} (he : e < w.A 3) {k : Int32 → Mem → Option (α × Mem)} (h : ∀ M2, CI M2 w → WP (k (nI (costN w.A (73 + 16 * e) (w.A ((73 + 16 * e) + 1)))) M2) Q) : WP (opp (f_X5_edition 1 (nI e) (6 : Int32) M) k) Q := CR.pe (c_edition hO hC _ _).cr ((lkEd_i hO.1.n he).trans lke_6) h
theorem s_e7 (hO : OkW w) (hC : CI M w) {e : Nat} (he : e < w.A 3) {k : Int32 → Mem → Option (α × Mem)} (h : ∀ M2, CI M2 w → WP (k (nI (styN w.A (73 + 16 * e))) M2) Q) : WP (opp (f_X5_edition 1 (nI e) (7 : Int32) M) k) Q := CR.pe (c_edition hO hC _ _).cr ((lkEd_i hO.1.n he).trans lke_7) h
theorem s_e8 (hO : OkW w) (hC : CI M w) {e : Nat} (he : e < w.A 3) {k : Int32 → Mem → Option (α × Mem)} (h : ∀ M2, CI M2 w → WP (k (nI (w.A ((73 + 16 * e) + 2))) M2) Q) : WP (opp (f_X5_edition 1 (nI e) (8 : Int32) M) k) Q := CR.pe (c_edition hO hC _ _).cr ((lkEd_i hO.1.n he).trans lke_8) h
theorem s_e9 (hO : OkW w) (hC : CI M w) {e : Nat} (he : e < w.A 3) {k : Int32 → Mem → Option (α × Mem)} (h : ∀ M2, CI M2 w → WP (k (nI (w.A ((73 + 16 * e) + 3))) M2) Q) : WP (opp (f_X5_edition 1 (nI e) (9 : Int32) M) k) Q := CR.pe (c_edition hO hC _ _).cr ((lkEd_i hO.1.n he).trans lke_9) h
theorem s_eO (hO : OkW w) (hC : CI M w) {x f : Int32} (hx : x < 0 ∨ nI (w.A 3) ≤ x) {k : Int32 → Mem → Option (α × Mem)} (h : ∀ M2, CI M2 w → WP (k (-1) M2) Q) : WP (opp (f_X5_edition 1 x f M) k) Q := CR.pe (c_edition hO hC _ _).cr (lkEd_o hx) h
theorem s_g0 (hO : OkW w) (hC : CI M w) {e g : Nat} (he : e < w.A 3) (hg : g + 1 < w.A (73 + 16 * e)) {k : Int32 → Mem → Option (α × Mem)} (h : ∀ M2, CI M2 w → WP (k (nI (bitN (w.A ((73 + 16 * e) + 1)) g)) M2) Q) : WP (opp (f_X5_gap 1 (nI e) (nI g) (0 : Int32) M) k) Q := CR.pe (c_gap hO hC _ _ _).cr ((lkGap_i hO.1.n he (hO.1.e e he).2.1 hg).trans lkg_0) h
theorem s_g1 (hO : OkW w) (hC : CI M w) {e g : Nat} (he : e < w.A 3) (hg : g + 1 < w.A (73 + 16 * e)) {k : Int32 → Mem → Option (α × Mem)} (h : ∀ M2, CI M2 w → WP (k (enc (cnt w.A (w.A ((73 + 16 * e) + 4 + g)) (w.A ((73 + 16 * e) + 5 + g)))) M2) Q) : WP (opp (f_X5_gap 1 (nI e) (nI g) (1 : Int32) M) k) Q := CR.pe (c_gap hO hC _ _ _).cr ((lkGap_i hO.1.n he (hO.1.e e he).2.1 hg).trans lkg_1) h
theorem s_g2 (hO : OkW w) (hC : CI M w) {e g : Nat} (he : e < w.A 3) (hg : g + 1 < w.A (73 + 16 * e)) {k : Int32 → Mem → Option (α × Mem)} (h : ∀ M2, CI M2 w → WP (k (nI (fineN w.A (73 + 16 * e) g (bitN (w.A ((73 + 16 * e) + 1)) g))) M2) Q) : WP (opp (f_X5_gap 1 (nI e) (nI g) (2 : Int32) M) k) Q := CR.pe (c_gap hO hC _ _ _).cr ((lkGap_i hO.1.n he (hO.1.e e he).2.1 hg).trans lkg_2) h
theorem s_g3 (hO : OkW w) (hC : CI M w) {e g : Nat} (he : e < w.A 3) (hg : g + 1 < w.A (73 + 16 * e)) {k : Int32 → Mem → Option (α × Mem)} (h : ∀ M2, CI M2 w → WP (k (1000 + nI (costN w.A (73 + 16 * e) (flN (w.A ((73 + 16 * e) + 1)) g)) - nI (costN w.A (73 + 16 * e) (w.A ((73 + 16 * e) + 1)))) M2) Q) : WP (opp (f_X5_gap 1 (nI e) (nI g) (3 : Int32) M) k) Q := CR.pe (c_gap hO hC _ _ _).cr ((lkGap_i hO.1.n he (hO.1.e e he).2.1 hg).trans lkg_3) h
theorem s_gO (hO : OkW w) (hC : CI M w) {x y f : Int32} (hx : x < 0 ∨ nI (w.A 3) ≤ x) {k : Int32 → Mem → Option (α × Mem)} (h : ∀ M2, CI M2 w → WP (k (-1) M2) Q) : WP (opp (f_X5_gap 1 x y f M) k) Q := CR.pe (c_gap hO hC _ _ _).cr (lkGap_o hx) h
theorem s_gO2 (hO : OkW w) (hC : CI M w) {e : Nat} {y f : Int32} (he : e < w.A 3) (hy : y < 0 ∨ nI (w.A (73 + 16 * e) - 1) ≤ y) {k : Int32 → Mem → Option (α × Mem)} (h : ∀ M2, CI M2 w → WP (k (-1) M2) Q) : WP (opp (f_X5_gap 1 (nI e) y f M) k) Q := CR.pe (c_gap hO hC _ _ _).cr (lkGap_o2 hO.1.n he hy) h
theorem s_r0 (hO : OkW w) (hC : CI M w) {r : Nat} (hr : r < w.A 4) {k : Int32 → Option (α × Mem)} (h : WP (k (nI (w.A (13 + 6 * r)))) Q) : WP (obb (f_X5_ruling 1 (nI r) (0 : Int32) M) k) Q := CR.o ((c_ruling hO hC _ _).trans (congrArg some ((lkRu_i hO.1.m hr).trans lkr_0))) h
theorem s_r1 (hO : OkW w) (hC : CI M w) {r : Nat} (hr : r < w.A 4) {k : Int32 → Option (α × Mem)} (h : WP (k (nI (w.A (14 + 6 * r)))) Q) : WP (obb (f_X5_ruling 1 (nI r) (1 : Int32) M) k) Q := CR.o ((c_ruling hO hC _ _).trans (congrArg some ((lkRu_i hO.1.m hr).trans lkr_1))) h
theorem s_r2 (hO : OkW w) (hC : CI M w) {r : Nat} (hr : r < w.A 4) {k : Int32 → Option (α × Mem)} (h : WP (k (nI (w.A (15 + 6 * r)))) Q) : WP (obb (f_X5_ruling 1 (nI r) (2 : Int32) M) k) Q := CR.o ((c_ruling hO hC _ _).trans (congrArg some ((lkRu_i hO.1.m hr).trans lkr_2))) h
theorem s_r3 (hO : OkW w) (hC : CI M w) {r : Nat} (hr : r < w.A 4) {k : Int32 → Option (α × Mem)} (h : WP (k (nI (w.A (16 + 6 * r)))) Q) : WP (obb (f_X5_ruling 1 (nI r) (3 : Int32) M) k) Q := CR.o ((c_ruling hO hC _ _).trans (congrArg some ((lkRu_i hO.1.m hr).trans lkr_3))) h
theorem s_r4 (hO : OkW w) (hC : CI M w) {r : Nat} (hr : r < w.A 4) {k : Int32 → Option (α × Mem)} (h : WP (k ((if w.A (17 + 6 * r) = 0 then -4 else nI (w.A (17 + 6 * r) - 1)))) Q) : WP (obb (f_X5_ruling 1 (nI r) (4 : Int32) M) k) Q := CR.o ((c_ruling hO hC _ _).trans (congrArg some ((lkRu_i hO.1.m hr).trans lkr_4))) h
theorem s_r5 (hO : OkW w) (hC : CI M w) {r : Nat} (hr : r < w.A 4) {k : Int32 → Option (α × Mem)} (h : WP (k (nI (inF w.A r).toNat)) Q) : WP (obb (f_X5_ruling 1 (nI r) (5 : Int32) M) k) Q := CR.o ((c_ruling hO hC _ _).trans (congrArg some ((lkRu_i hO.1.m hr).trans lkr_5))) h
theorem s_r6 (hO : OkW w) (hC : CI M w) {r : Nat} (hr : r < w.A 4) {k : Int32 → Option (α × Mem)} (h : WP (k (nI (ctsN w.A r))) Q) : WP (obb (f_X5_ruling 1 (nI r) (6 : Int32) M) k) Q := CR.o ((c_ruling hO hC _ _).trans (congrArg some ((lkRu_i hO.1.m hr).trans lkr_6))) h
theorem s_r7 (hO : OkW w) (hC : CI M w) {r : Nat} (hr : r < w.A 4) {k : Int32 → Option (α × Mem)} (h : WP (k (nI (sumN (citN w.A r) (w.A 4)))) Q) : WP (obb (f_X5_ruling 1 (nI r) (7 : Int32) M) k) Q := CR.o ((c_ruling hO hC _ _).trans (congrArg some ((lkRu_i hO.1.m hr).trans lkr_7))) h
theorem s_r8 (hO : OkW w) (hC : CI M w) {r : Nat} (hr : r < w.A 4) {k : Int32 → Option (α × Mem)} (h : WP (k (nI (sumN (brgN w.A r) (w.A 3)))) Q) : WP (obb (f_X5_ruling 1 (nI r) (8 : Int32) M) k) Q := CR.o ((c_ruling hO hC _ _).trans (congrArg some ((lkRu_i hO.1.m hr).trans lkr_8))) h
theorem s_rO (hO : OkW w) (hC : CI M w) {x f : Int32} (hx : x < 0 ∨ nI (w.A 4) ≤ x) {k : Int32 → Option (α × Mem)} (h : WP (k (-1)) Q) : WP (obb (f_X5_ruling 1 x f M) k) Q := CR.o ((c_ruling hO hC _ _).trans (congrArg some (lkRu_o hx))) h
end STEPS
/-! numbers of the law -/
theorem lt_n {a b : Nat} (ha : a < 2 ^ 31) (hb : b < 2 ^ 31) (h : a < b) : nI a < nI b := (nI_ltI ha hb).mpr h
theorem nlt_n {a b : Nat} (ha : a < 2 ^ 31) (hb : b < 2 ^ 31) (h : b ≤ a) : ¬ nI a < nI b := fun e => by have := (nI_ltI ha hb).mp e; omega
theorem p_low (x : Int32) {n : Nat} (h0 : 0 < n) (hn : n < 2 ^ 31) : ∃ r, r < n ∧ f_L_low x (nI n) = some (nI r) := by
  refine ⟨x.toBitVec.toNat % 2 ^ 31 % n, Nat.mod_lt _ h0, ?_⟩
  unfold f_L_low
  rw [gdd_t (nI_ne0 h0 hn), pk_and x 31 (by decide), pk_rem (Nat.mod_lt _ (by decide)) h0 hn]
theorem p_onesL {c : Nat} (hc : c < 2 ^ 31) : ∀ (n j : Nat), j ≤ 12 → 12 - j < n → f_L_ones_4 n (nI c) (nI (sumN (bitN c) j)) (nI j) = some (nI (pcN c)) := by
  intro n
  induction n with
  | zero => intro j _ h; omega
  | succ n ih =>
    intro j hj hn
    rw [f_L_ones_4]
    by_cases h : j = 12
    · subst h
      rw [if_pos (by decide)]
      rfl
    · rw [if_neg (show ¬ (12 : Int32) ≤ nI j from nI_nle' (a := 12) (by decide) (by omega) (by omega)), p_bit hc (by omega), nI_add]
      simp only [bvv_e]
      rw [nI_1]
      exact ih (j + 1) (by omega) (by omega)
theorem p_ones {c : Nat} (hc : c < 2 ^ 31) : f_L_ones (nI c) = some (nI (pcN c)) := p_onesL hc FU 0 (by omega) (by unfold FU; omega)
