/-! PURE: each side keeps what the other holds; the start -/
theorem MI.si {M M2 : Mem} {w : Wd} (hM : MI M w) (h : SmI (fun r => r < 150) M M2) : MI M2 w := by
  obtain ⟨m1, m2, m3, m4, m5⟩ := hM
  have n : ∀ r, 150 ≤ r → ∀ k, gI M2 r k = gI M r k := fun r h1 k => h r k (by omega)
  exact ⟨fun k hk => (n _ (by decide) _).trans (m1 k hk), ⟨(n _ (by decide) _).trans m2.1, fun i hi k hk => (n _ (by decide) _).trans (m2.2 i hi k hk)⟩, ⟨(n _ (by decide) _).trans m3.1, fun g k hk => (n _ (by decide) _).trans (m3.2 g k hk)⟩, ⟨(n _ (by decide) _).trans m4.1, fun i hi => (n _ (by decide) _).trans (m4.2 i hi)⟩, ⟨(n _ (by decide) _).trans m5.1, fun g => ⟨(n _ (by decide) _).trans (m5.2 g).1, (n _ (by decide) _).trans (m5.2 g).2.1, (n _ (by decide) _).trans (m5.2 g).2.2⟩⟩⟩
theorem CI.mx {M M2 : Mem} {w : Wd} (hO : OkW w) (hC : CI M w) (hS : Sm MX M M2) : CI M2 w := by
  obtain ⟨o1, o2, o3, o4, o5, o6, o7, o8⟩ := hO
  obtain ⟨c1, c2, c3, c4, c5⟩ := hC
  have n : ∀ r, r < 150 → ∀ k, gI M2 r k = gI M r k := fun r h1 k => hS.1 r k (by unfold MX; omega)
  exact ⟨c1.sm hS (fun r hr => by unfold MX at hr; omega) o1.n o1.m, c2.si hS.1 (fun r hr => by unfold MX at hr; omega) hS.2 o2 o3, ⟨(n _ (by decide) _).trans c3.1, fun h => (c3.2 h).sm hS (fun r hr => by unfold MX at hr; omega) (o5 h).n (o5 h).m⟩, ⟨(n _ (by decide) _).trans c4.1, fun i hi => (n _ (by decide) _).trans (c4.2.1 i hi), (n _ (by decide) _).trans c4.2.2.1, (n _ (by decide) _).trans c4.2.2.2⟩, ⟨(n _ (by decide) _).trans c5.1, fun h => ⟨(n _ (by decide) _).trans (c5.2 h).1, (n _ (by decide) _).trans (c5.2 h).2.1, (n _ (by decide) _).trans (c5.2 h).2.2⟩⟩⟩
def A00 (k : Nat) : Nat := if k = 1 then 8 else if k = 2 then 15 else if 7 ≤ k ∧ k ≤ 12 then k - 6 else 0
def w00 : Wd := mkWd A00 0 (fun _ => A00) 0 A00 0 (fun _ => 0) 0 0 0 0
theorem ok_00 : Ok A00 := ⟨by decide, by decide, by decide, by decide, by decide, fun e he => absurd he (by show ¬ e < 0; omega), fun r hr => absurd hr (by show ¬ r < 0; omega)⟩
theorem okw_00 : OkW w00 := ⟨ok_00, by decide, fun i hi => absurd hi (by show ¬ i < 0; omega), by decide, fun h => absurd h (by decide), by decide, fun i hi => absurd hi (by show ¬ i < 0; omega), by decide⟩
theorem mi_00a : ∀ k, k < 137 → gI M0 151 k = nI (A00 k) := by decide +kernel
theorem ci_00a : ∀ k, k < 6 → gI M0 13 k = nI (A00 (7 + k)) := by decide +kernel
theorem ci_00b : (gI M0 14 0 = nI (A00 1) ∧ gI M0 14 1 = nI (A00 2) ∧ gI M0 12 4 = nI (A00 3) ∧ gI M0 12 5 = nI (A00 4) ∧ gI M0 12 6 = nI (A00 0) ∧ gI M0 12 7 = nI (A00 5) ∧ gI M0 12 8 = nI (A00 6)) ∧ gI M0 1 7 = nI 0 ∧ gI M0 1 6 = nI 0 ∧ gI M0 3 1 = nI 0 ∧ gI M0 5 3 = nI 0 ∧ gI M0 5 4 = nI 0 ∧ gI M0 1 8 = nI 0 := by decide +kernel
theorem mi_00b : gI M0 150 2 = nI 0 ∧ gI M0 150 4 = nI 0 ∧ gI M0 150 6 = nI 0 ∧ gI M0 150 14 = nI 0 := by decide +kernel
theorem gh_00 : (∀ i, i < 4 → 58 ≤ gH M0 i ∧ kd (gH M0 i) = 5) ∧ ∀ i, i < 4 → gH M0 i = 58 + 23 * i := by decide +kernel
theorem ci_00 : CI M0 w00 := by
  obtain ⟨⟨b1, b2, b3, b4, b5, b6, b7⟩, d1, d2, d3, d4, d5, d6⟩ := ci_00b
  exact ⟨⟨ci_00a, b1, b2, b3, b4, b5, b6, b7, fun e he => absurd he (by show ¬ e < 0; omega), fun r hr => absurd hr (by show ¬ r < 0; omega)⟩, ⟨d1, ⟨gh_00.1, fun i j hi hj e => by rw [gh_00.2 i hi, gh_00.2 j hj] at e; omega⟩, fun i hi => absurd hi (by show ¬ i < 0; omega)⟩, ⟨d2, fun h => absurd h (by decide)⟩, ⟨d3, fun i hi => absurd hi (by show ¬ i < 0; omega), d4, d5⟩, ⟨d6, fun h => absurd h (by decide)⟩⟩
theorem mi_00 : MI M0 w00 := by
  obtain ⟨b1, b2, b3, b4⟩ := mi_00b
  exact ⟨fun k hk => by rw [Nat.zero_add]; exact mi_00a k hk, ⟨b1, fun i hi => absurd hi (by show ¬ i < 0; omega)⟩, ⟨b2, fun h => absurd h (by decide)⟩, ⟨b3, fun i hi => absurd hi (by show ¬ i < 0; omega)⟩, ⟨b4, fun h => absurd h (by decide)⟩⟩
