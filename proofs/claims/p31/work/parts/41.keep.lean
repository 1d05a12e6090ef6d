/-! PURE: the world of both sides, and what each side keeps of it -/
def Wd : Type := (Nat → Nat) × Nat × (Nat → Nat → Nat) × Nat × (Nat → Nat) × Nat × (Nat → Nat) × Nat × Int32 × Int32 × Int32
def Wd.A (w : Wd) : Nat → Nat := w.1
def Wd.h (w : Wd) : Nat := w.2.1
def Wd.B (w : Wd) : Nat → Nat → Nat := w.2.2.1
def Wd.sv (w : Wd) : Nat := w.2.2.2.1
def Wd.K (w : Wd) : Nat → Nat := w.2.2.2.2.1
def Wd.l (w : Wd) : Nat := w.2.2.2.2.2.1
def Wd.P (w : Wd) : Nat → Nat := w.2.2.2.2.2.2.1
def Wd.st (w : Wd) : Nat := w.2.2.2.2.2.2.2.1
def Wd.r (w : Wd) : Int32 := w.2.2.2.2.2.2.2.2.1
def Wd.p (w : Wd) : Int32 := w.2.2.2.2.2.2.2.2.2.1
def Wd.c (w : Wd) : Int32 := w.2.2.2.2.2.2.2.2.2.2
def mkWd (A : Nat → Nat) (h : Nat) (B : Nat → Nat → Nat) (sv : Nat) (K : Nat → Nat) (l : Nat) (P : Nat → Nat) (st : Nat) (r p c : Int32) : Wd := (A, h, B, sv, K, l, P, st, r, p, c)
def Wd.toA (w : Wd) (A : Nat → Nat) : Wd := mkWd A w.h w.B w.sv w.K w.l w.P w.st w.r w.p w.c
def Wd.toH (w : Wd) (h : Nat) (B : Nat → Nat → Nat) : Wd := mkWd w.A h B w.sv w.K w.l w.P w.st w.r w.p w.c
def Wd.toK (w : Wd) (K : Nat → Nat) : Wd := mkWd w.A w.h w.B 1 K w.l w.P w.st w.r w.p w.c
def Wd.toP (w : Wd) (l : Nat) (P : Nat → Nat) : Wd := mkWd w.A w.h w.B w.sv w.K l P w.st w.r w.p w.c
def Wd.toY (w : Wd) (st : Nat) (r p c : Int32) : Wd := mkWd w.A w.h w.B w.sv w.K w.l w.P st r p c
def OkW (w : Wd) : Prop := Ok w.A ∧ w.h ≤ 4 ∧ (∀ i, i < w.h → Ok (w.B i)) ∧ w.sv ≤ 1 ∧ (w.sv = 1 → Ok w.K) ∧ w.l ≤ 60 ∧ (∀ i, i < w.l → 33 ≤ w.P i ∧ w.P i ≤ 126) ∧ w.st ≤ 1
def PadR (M : Mem) (l : Nat) (P : Nat → Nat) : Prop := gI M 3 1 = nI l ∧ (∀ i, i < l → gI M 4 i = nI (P i)) ∧ gI M 5 3 = nI 0 ∧ gI M 5 4 = nI 0
def WhyR (M : Mem) (w : Wd) : Prop := gI M 1 8 = nI w.st ∧ (w.st = 1 → gI M 1 9 = w.r ∧ gI M 1 10 = w.p ∧ gI M 1 11 = w.c)
def GhR (M : Mem) : Prop := (∀ i, i < 4 → 58 ≤ gH M i ∧ kd (gH M i) = 5) ∧ ∀ i j, i < 4 → j < 4 → gH M i = gH M j → i = j
def HisR (M : Mem) (h : Nat) (B : Nat → Nat → Nat) : Prop := gI M 1 7 = nI h ∧ GhR M ∧ ∀ i, i < h → RelS M (gH M i) (B i)
def SavR (M : Mem) (w : Wd) : Prop := gI M 1 6 = nI w.sv ∧ (w.sv = 1 → RelS M 35 w.K)
def CI (M : Mem) (w : Wd) : Prop := RelS M 12 w.A ∧ HisR M w.h w.B ∧ SavR M w ∧ PadR M w.l w.P ∧ WhyR M w
def upB (B : Nat → Nat → Nat) (h : Nat) (A : Nat → Nat) : Nat → Nat → Nat := fun i => if i = h then A else B i
def keepW (w : Wd) : Wd := if w.h < 4 then w.toH (w.h + 1) (upB w.B w.h w.A) else w.toH 4 (upB (fun i => w.B (i + 1)) 3 w.A)
/-- the same numbers but in the codes of X -/
def SmI (X : Nat → Prop) (M M2 : Mem) : Prop := ∀ r k, ¬ X r → gI M2 r k = gI M r k
theorem Sm.i {X : Nat → Prop} {M M2 : Mem} (h : Sm X M M2) : SmI X M M2 := h.1
theorem SmI.tr {X : Nat → Prop} {M M2 M3 : Mem} (h : SmI X M M2) (h2 : SmI X M2 M3) : SmI X M M3 := fun r k hx => (h2 r k hx).trans (h r k hx)
theorem SmI.mono {X Y : Nat → Prop} {M M2 : Mem} (h : SmI X M M2) (hXY : ∀ r, X r → Y r) : SmI Y M M2 := fun r k hy => h r k (fun hx => hy (hXY r hx))
theorem EdR.si {X : Nat → Prop} {M M2 : Mem} {e o : Nat} {A : Nat → Nat} (h : SmI X M M2) (h1 : ¬ X e) (h2 : ¬ X (e + 1)) (he : EdR M e A o) : EdR M2 e A o :=
  ⟨(h e _ h1).trans he.1, (h e _ h1).trans he.2.1, (h e _ h1).trans he.2.2.1, (h e _ h1).trans he.2.2.2.1, fun j hj => (h _ _ h2).trans (he.2.2.2.2 j hj)⟩
theorem RuR.si {X : Nat → Prop} {M M2 : Mem} {q r : Nat} {A : Nat → Nat} (h : SmI X M M2) (h1 : ¬ X q) (hr : RuR M q A r) : RuR M2 q A r :=
  ⟨(h q _ h1).trans hr.1, (h q _ h1).trans hr.2.1, (h q _ h1).trans hr.2.2.1, (h q _ h1).trans hr.2.2.2.1, (h q _ h1).trans hr.2.2.2.2.1, (h q _ h1).trans hr.2.2.2.2.2.1, (h q _ h1).trans hr.2.2.2.2.2.2⟩
theorem RelS.si {X : Nat → Prop} {M M2 : Mem} {a : Nat} {A : Nat → Nat} (h : SmI X M M2) (hX : ∀ r, X r → r < a ∨ a + 23 ≤ r) (h3 : A 3 ≤ 4) (h4 : A 4 ≤ 10) (hs : RelS M a A) : RelS M2 a A := by
  have nx : ∀ q, a ≤ q → q < a + 23 → ¬ X q := fun q h1 h2 hx => by rcases hX q hx with h | h <;> omega
  have e0 := fun k => h a k (nx a (by omega) (by omega))
  have e1 := fun k => h (a + 1) k (nx _ (by omega) (by omega))
  have e2 := fun k => h (a + 2) k (nx _ (by omega) (by omega))
  exact ⟨fun k hk => (e1 k).trans (hs.w k hk), (e2 _).trans hs.s0, (e2 _).trans hs.s1, (e0 _).trans hs.n, (e0 _).trans hs.m, (e0 _).trans hs.d, (e0 _).trans hs.g, (e0 _).trans hs.f,
    fun e he => (hs.e e he).si h (nx _ (by omega) (by omega)) (nx _ (by omega) (by omega)), fun r hr => (hs.r r hr).si h (nx _ (by omega) (by omega))⟩
def HiX : Nat → Prop := fun r => r = 1 ∨ (58 ≤ r ∧ r < 150)
theorem lay2 : kd 2 = 11 ∧ ln 2 = 4 ∧ fld 1 2 = 2 := by decide +kernel
theorem HisR.si {X : Nat → Prop} {M M2 : Mem} {h : Nat} {B : Nat → Nat → Nat} (hS : SmI X M M2) (hX : ∀ r, X r → 1 < r ∧ r < 58 ∨ 150 ≤ r) (hG : ∀ k, gH M2 k = gH M k) (h4 : h ≤ 4) (hB : ∀ i, i < h → Ok (B i)) (hR : HisR M h B) : HisR M2 h B := by
  refine ⟨(hS 1 7 (fun x => by have := hX _ x; omega)).trans hR.1, ⟨fun i hi => by rw [hG]; exact hR.2.1.1 i hi, fun i j hi hj e => hR.2.1.2 i j hi hj (by rw [hG, hG] at e; exact e)⟩, fun i hi => ?_⟩
  rw [hG]
  obtain ⟨g1, g2⟩ := hR.2.1.1 i (by omega)
  have g3 := st_r g2
  exact (hR.2.2 i hi).si hS (fun r hr => by have := hX r hr; omega) (hB i hi).n (hB i hi).m
theorem st_dj2 {a b : Nat} (ha : kd a = 5) (hb : kd b = 5) (h : a ≠ b) : a + 23 ≤ b ∨ b + 23 ≤ a := by
  have h1 := st_r ha
  have h2 := st_r hb
  omega
/-- the tail of keepState, in a memory with room at h -/
theorem p_keepT {M : Mem} {h : Nat} {B : Nat → Nat → Nat} {A : Nat → Nat} (hO : Ok A) (hR : RelS M 12 A) (hH : HisR M h B) (h4 : h < 4) (hB : ∀ i, i < h → Ok (B i)) : ∃ M2, f_X4_copyFrom (gH M h) 12 M = some M2 ∧ gI M2 1 7 = nI h ∧ HisR (sI M2 1 7 (nI (h + 1))) (h + 1) (upB B h A) ∧ SmI HiX M (sI M2 1 7 (nI (h + 1))) := by
  obtain ⟨g1, g2⟩ := hH.2.1.1 h h4
  have g3 := st_r g2
  obtain ⟨M2, r1, r2, r3⟩ := p_stCopy g2 lay1.2.2.2 (by omega) hO hR
  have hS1 : Sm (fun q => q = 1) M2 (sI M2 1 7 (nI (h + 1))) := Sm.rf.p1
  have hgg : ∀ i, gH (sI M2 1 7 (nI (h + 1))) i = gH M i := fun i => r2.2 i
  have hXs : ∀ q, StX (gH M h) q → HiX q := fun q hq => by unfold StX at hq; unfold HiX; omega
  refine ⟨M2, r1, (r2.1 _ _ (fun hx => by unfold StX at hx; omega)).trans hH.1, ⟨gI_s, ⟨fun i hi => by rw [hgg]; exact hH.2.1.1 i hi, fun i j hi hj e => hH.2.1.2 i j hi hj (by rw [hgg, hgg] at e; exact e)⟩, fun i hi => ?_⟩, fun r k hx => ?_⟩
  · rw [hgg]
    have hx1 : ∀ a, kd a = 5 → ∀ r, r = 1 → r < a ∨ a + 23 ≤ r := fun a ha r hr => by have := st_r ha; omega
    unfold upB
    by_cases hih : i = h
    · rw [hih, if_pos rfl]
      exact r3.sm hS1 (hx1 _ g2) hO.n hO.m
    · rw [if_neg hih]
      have hlt : i < h := by omega
      obtain ⟨i1, i2⟩ := hH.2.1.1 i (by omega)
      have hne : gH M h ≠ gH M i := fun e => hih (hH.2.1.2 i h (by omega) h4 e.symm)
      exact ((hH.2.2 i hlt).sm r2 (st_dj g2 i2 hne) (hB i hlt).n (hB i hlt).m).sm hS1 (hx1 _ i2) (hB i hlt).n (hB i hlt).m
  · rw [gI_n (Or.inl (fun e => hx (by rw [e]; exact Or.inl rfl))), r2.1 r k (fun h => hx (hXs _ h))]
theorem fo_s {n r1 j : Nat} {M : Mem} (h1 : 1 ≤ j) (h : j < 4) (hk : kd (gH M j) = 5) : f_X5_forgetOldest_18 (n + 1) 1 r1 (nI j) M = f_X5_forgetOldest_18 n 1 r1 (nI (j + 1)) (sH M (j - 1) (gH M j)) := by
  rw [f_X5_forgetOldest_18, gdd_t lay1.1, lay2.2.2, gdd_t lay2.1, lay2.2.1, if_neg (nI_nle' (by omega) (by omega) h), gdd_t (inb_nI h (by omega)), nI_clamp (by omega), gdd_t hk, nI_sub1 h1, gdd_t (inb_nI (by omega) (by omega)), nI_clamp (by omega)]
  simp only [bvv_e]
  rw [nI_1]
theorem fo_e {n r1 : Nat} {M : Mem} (h : kd r1 = 5) : f_X5_forgetOldest_18 (n + 1) 1 r1 (nI 4) M = some (sI (sH M 3 r1) 1 7 (nI 3)) := by
  rw [f_X5_forgetOldest_18, gdd_t lay1.1, lay2.2.2, gdd_t lay2.1, lay2.2.1, if_pos (by decide), gdd_t h, nI_sub1 (by decide), gdd_t (inb_nI (by decide) (by decide)), nI_clamp (by decide)]
  rfl
def rotM (M : Mem) : Mem := sI (sH (sH (sH (sH M 0 (gH M 1)) 1 (gH M 2)) 2 (gH M 3)) 3 (gH M 0)) 1 7 (nI 3)
theorem p_forget {M : Mem} (hG : GhR M) : f_X5_forgetOldest 1 M = some (rotM M) := by
  have k : ∀ i, i < 4 → kd (gH M i) = 5 := fun i hi => (hG.1 i hi).2
  unfold f_X5_forgetOldest
  rw [gdd_t lay1.1, lay2.2.2, gdd_t lay2.1, lay2.2.1, if_neg (by decide), gdd_t (by decide), bvv_e, show FU = 4996 + 1 + 1 + 1 + 1 from rfl, show (0 : Int32).toNatClampNeg = 0 from rfl, show (1 : Int32) = nI 1 from rfl, fo_s (by decide) (by decide) (k 1 (by decide))]
  rw [fo_s (by decide) (by decide) (by rw [gH_n (by decide)]; exact k 2 (by decide)), gH_n (by decide)]
  rw [fo_s (by decide) (by decide) (by rw [gH_n (by decide), gH_n (by decide)]; exact k 3 (by decide)), gH_n (by decide), gH_n (by decide)]
  rw [fo_e (k 0 (by decide))]
  rfl
theorem rot_g {M : Mem} : ∀ i, i < 4 → gH (rotM M) i = gH M ((i + 1) % 4) := by
  intro i hi
  unfold rotM
  rw [gH_sI]
  by_cases h3 : i = 3
  · subst h3; rw [gH_s]
  · rw [gH_n h3]
    by_cases h2 : i = 2
    · subst h2; rw [gH_s]
    · rw [gH_n h2]
      by_cases h1 : i = 1
      · subst h1; rw [gH_s]
      · rw [gH_n h1, show i = 0 by omega, gH_s]
theorem rot_i {M : Mem} : SmI (fun r => r = 1) M (rotM M) := fun r k h => by
  unfold rotM
  rw [gI_n (Or.inl h)]; rfl
theorem p_keep {M : Mem} {w : Wd} (hO : OkW w) (hC : CI M w) : ∃ M2, f_X5_keepState 1 M = some M2 ∧ CI M2 (keepW w) ∧ SmI HiX M M2 := by
  obtain ⟨o1, o2, o3, o4, o5, o6, o7, o8⟩ := hO
  obtain ⟨c1, c2, c3, c4, c5⟩ := hC
  have fin : ∀ (M1 M2 : Mem) (h : Nat), SmI (fun r => r = 1) M M1 → (∀ k, k ≠ 7 → gI M1 1 k = gI M 1 k) → SmI HiX M1 (sI M2 1 7 (nI (h + 1))) → (∀ k, gI M2 1 k = gI M1 1 k) → RelS (sI M2 1 7 (nI (h + 1))) 12 w.A ∧ SavR (sI M2 1 7 (nI (h + 1))) w ∧ PadR (sI M2 1 7 (nI (h + 1))) w.l w.P ∧ WhyR (sI M2 1 7 (nI (h + 1))) w ∧ SmI HiX M (sI M2 1 7 (nI (h + 1))) := by
    intro M1 M2 h s1 s0 s2 s3
    have s : SmI HiX M (sI M2 1 7 (nI (h + 1))) := (s1.mono (fun r h => Or.inl h)).tr s2
    have t : ∀ k, k ≠ 7 → gI (sI M2 1 7 (nI (h + 1))) 1 k = gI M 1 k := fun k hk => by rw [gI_n (Or.inr hk), s3, s0 k hk]
    have x12 : ∀ r, HiX r → r < 12 ∨ 12 + 23 ≤ r := fun r h => by unfold HiX at h; omega
    have x35 : ∀ r, HiX r → r < 35 ∨ 35 + 23 ≤ r := fun r h => by unfold HiX at h; omega
    exact ⟨c1.si s x12 o1.n o1.m, ⟨(t 6 (by decide)).trans c3.1, fun h => (c3.2 h).si s x35 (o5 h).n (o5 h).m⟩, ⟨(s 3 1 (fun h => by unfold HiX at h; omega)).trans c4.1, fun i hi => (s 4 i (fun h => by unfold HiX at h; omega)).trans (c4.2.1 i hi), (s 5 3 (fun h => by unfold HiX at h; omega)).trans c4.2.2.1, (s 5 4 (fun h => by unfold HiX at h; omega)).trans c4.2.2.2⟩, ⟨(t 8 (by decide)).trans c5.1, fun h => ⟨(t 9 (by decide)).trans (c5.2 h).1, (t 10 (by decide)).trans (c5.2 h).2.1, (t 11 (by decide)).trans (c5.2 h).2.2⟩⟩, s⟩
  have ne0 : ∀ {a : Nat}, kd a = 5 → a ≠ 0 := fun h => by have := st_r h; omega
  unfold f_X5_keepState keepW
  rw [gdd_t lay1.1, lay2.2.2, gdd_t lay2.1, lay2.2.1, lay1.2.1, c2.1]
  by_cases h : w.h < 4
  · obtain ⟨g1, g2⟩ := c2.2.1.1 w.h h
    have g3 := st_r g2
    obtain ⟨M2, r1, r2, r3, r4⟩ := p_keepT o1 c1 c2 h o3
    have s3 : ∀ k, gI M2 1 k = gI M 1 k := by
      intro k
      obtain ⟨M3, q1, q2, -⟩ := p_stCopy g2 lay1.2.2.2 (by omega) o1 c1
      rw [r1] at q1
      cases q1
      exact q2.1 1 k (fun hx => by unfold StX at hx; omega)
    obtain ⟨f1, f2, f3, f4, f5⟩ := fin M M2 w.h (fun _ _ _ => rfl) (fun _ _ => rfl) r4 s3
    rw [if_pos ((nI_ltI (by omega) (by decide)).mpr h), if_neg (nI_neg (by omega)), if_neg (nI_nle' (by omega) (by omega) h), gdd_t (inb_nI h (by omega)), nI_clamp (by omega), if_neg (ne0 g2), gdd_t g2, r1, obb_s, bvv_e, r2, nI_1, if_pos h]
    exact ⟨_, rfl, ⟨f1, r3, f2, f3, f4⟩, f5⟩
  · have h4 : w.h = 4 := by omega
    have hg : GhR (rotM M) := by
      refine ⟨fun i hi => by rw [rot_g i hi]; exact c2.2.1.1 _ (Nat.mod_lt _ (by decide)), fun i j hi hj e => ?_⟩
      rw [rot_g i hi, rot_g j hj] at e
      have := c2.2.1.2 _ _ (Nat.mod_lt _ (by decide)) (Nat.mod_lt _ (by decide)) e
      omega
    have x1 : ∀ a, kd a = 5 → ∀ r, r = 1 → r < a ∨ a + 23 ≤ r := fun a ha r hr => by have := st_r ha; omega
    have hH3 : HisR (rotM M) 3 (fun i => w.B (i + 1)) := by
      refine ⟨gI_s, hg, fun i hi => ?_⟩
      rw [rot_g i (by omega), show (i + 1) % 4 = i + 1 by omega]
      exact (c2.2.2 (i + 1) (by omega)).si rot_i (x1 _ (c2.2.1.1 (i + 1) (by omega)).2) (o3 _ (by omega)).n (o3 _ (by omega)).m
    have hR3 : RelS (rotM M) 12 w.A := c1.si rot_i (x1 _ lay1.2.2.2) o1.n o1.m
    obtain ⟨g1, g2⟩ := hg.1 3 (by decide)
    have g3 := st_r g2
    obtain ⟨M2, r1, r2, r3, r4⟩ := p_keepT o1 hR3 hH3 (by decide) (fun i hi => o3 _ (by omega))
    have s3 : ∀ k, gI M2 1 k = gI (rotM M) 1 k := by
      intro k
      obtain ⟨M3, q1, q2, -⟩ := p_stCopy g2 lay1.2.2.2 (by omega) o1 hR3
      rw [r1] at q1
      cases q1
      exact q2.1 1 k (fun hx => by unfold StX at hx; omega)
    obtain ⟨f1, f2, f3, f4, f5⟩ := fin (rotM M) M2 3 rot_i (fun k hk => by unfold rotM; rw [gI_n (Or.inr hk)]; rfl) r4 s3
    rw [if_neg (fun e => h ((nI_ltI (by omega) (by decide)).mp e)), p_forget c2.2.1, obb_s, hH3.1, if_neg (by decide), if_neg (by decide), gdd_t (inb_nI (by decide) (by decide)), nI_clamp (by decide), if_neg (ne0 g2), gdd_t g2, r1, obb_s, bvv_e, r2, nI_1, if_neg h]
    exact ⟨_, rfl, ⟨f1, r3, f2, f3, f4⟩, f5⟩
