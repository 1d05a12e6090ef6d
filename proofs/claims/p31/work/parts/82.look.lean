/-! PURE: the law's look at a court, a number of the state alone -/
def hs (f : Nat → Int32) : Nat → Int64 → Int64
  | 0, h => h
  | k + 1, h => (31 : Int64) * hs f k h + Int32.toInt64 (f k)
def tlN (A : Nat → Nat) (e : Nat) : Nat := A (73 + 16 * e) + pcN (A (73 + 16 * e + 1))
def lkB (A : Nat → Nat) (e : Nat) (h : Int64) : Int64 := hs (fun p => lkSign (nI e) (nI p) A) (tlN A e) (hs (fun k => lkEd (nI e) (nI k) A) 10 h)
def lkEs (A : Nat → Nat) : Nat → Int64 → Int64
  | 0, h => h
  | e + 1, h => lkB A e (lkEs A e h)
def lkRs (A : Nat → Nat) : Nat → Int64 → Int64
  | 0, h => h
  | r + 1, h => hs (fun k => lkRu (nI r) (nI k) A) 8 (lkRs A r h)
def w0 (A : Nat → Nat) : Wd := mkWd A 0 (fun _ => A) 0 A 0 (fun _ => 0) 0 0 0 0
def lookA (A : Nat → Nat) : Int64 := lkRs A (A 4) (lkEs A (A 3) (hs (fun k => lkCount (nI k) (w0 A)) 13 467))
theorem lkc_w0 {w : Wd} {k : Nat} (hk : k < 13) : lkCount (nI k) w = lkCount (nI k) (w0 w.A) := by
  unfold lkCount
  rw [if_neg (show ¬ nI k = nI 13 from nI_ne (by omega) (by decide) (by omega)), if_neg (show ¬ nI k = nI 14 from nI_ne (by omega) (by decide) (by omega))]
  rw [if_neg (show ¬ nI k = nI 13 from nI_ne (by omega) (by decide) (by omega)), if_neg (show ¬ nI k = nI 14 from nI_ne (by omega) (by decide) (by omega))]
  rfl
theorem tl_e (a b : Nat) : nI a + nI (b + 1) - 1 = nI (a + b) := by
  rw [nI_add, nI_sub1 (by omega), show a + (b + 1) - 1 = a + b by omega]
section LOOK
variable {w : Wd} {v : Int64}
theorem p_lk137 (hO : OkW w) {k125 : Nat → Int64 → Int32 → Mem → Option (Int64 × Mem)} {r : Nat} {h : Int64} (hk : ∀ M2, CI M2 w → CR (k125 1 (hs (fun k => lkRu (nI r) (nI k) w.A) 8 h) (nI (r + 1)) M2) v w) : ∀ (n k : Nat) (M : Mem), k ≤ 8 → 8 - k < n → CI M w → CR (f_L_look_137 k125 n 1 (hs (fun k => lkRu (nI r) (nI k) w.A) k h) (nI r) (nI k) M) v w := by
  intro n
  induction n with
  | zero => intro k _ _ h; omega
  | succ n ih =>
    intro k M hj hn hC
    rw [f_L_look_137]
    by_cases e : k = 8
    · subst e
      exact CR.t (by decide) (CR.be (nI_1 r) (hk M hC))
    · exact CR.f (nI_nle' (a := 8) (by decide) (by omega) (by omega)) (CR.g (CR.o (c_ruling hO hC _ _) (CR.b (CR.be (nI_1 k) (ih (k + 1) M (by omega) (by omega) hC)))))
theorem p_lk125 (hO : OkW w) {h : Int64} (hv : v = lkRs w.A (w.A 4) h) : ∀ (n r : Nat) (M : Mem), r ≤ w.A 4 → w.A 4 - r < n → CI M w → CR (f_L_look_125 n 1 (lkRs w.A r h) (nI r) M) v w := by
  have hm := hO.1.m
  intro n
  induction n with
  | zero => intro r _ _ h; omega
  | succ n ih =>
    intro r M hj hn hC
    rw [f_L_look_125]
    refine CR.g (s_c4 hO hC fun M2 C2 => ?_)
    by_cases e : r = w.A 4
    · subst e
      exact CR.t (nI_le' (by omega) (by omega) (by omega)) (CR.eq hv.symm (CR.r C2))
    · exact CR.f (nI_nle' (by omega) (by omega) (by omega)) (p_lk137 hO (fun M3 C3 => ih (r + 1) M3 (by omega) (by omega) C3) FU 0 M2 (by omega) (by unfold FU; omega) C2)
theorem p_lk76 (hO : OkW w) {k33 : Nat → Int64 → Int32 → Mem → Option (Int64 × Mem)} {e : Nat} (he : e < w.A 3) {h : Int64} (hk : ∀ M2, CI M2 w → CR (k33 1 (hs (fun p => lkSign (nI e) (nI p) w.A) (tlN w.A e) h) (nI (e + 1)) M2) v w) : ∀ (n p : Nat) (M : Mem), p ≤ tlN w.A e → tlN w.A e - p < n → CI M w → CR (f_L_look_76 k33 n 1 (hs (fun p => lkSign (nI e) (nI p) w.A) p h) (nI e) (nI p) M) v w := by
  have hw := (hO.1.e e he).2.1
  have hp := pcN_le (w.A (73 + 16 * e + 1))
  have ht : tlN w.A e ≤ 24 := by unfold tlN; omega
  intro n
  induction n with
  | zero => intro p _ _ h; omega
  | succ n ih =>
    intro p M hj hn hC
    rw [f_L_look_76]
    refine CR.g (s_e0 hO hC he fun M2 C2 => s_e2 hO C2 he fun M3 C3 => ?_)
    rw [tl_e]
    by_cases q : p = tlN w.A e
    · subst q
      exact CR.t (nI_le' (a := tlN w.A e) (by omega) (by omega) (by omega)) (CR.be (nI_1 e) (hk M3 C3))
    · exact CR.f (nI_nle' (b := p) (a := tlN w.A e) (by omega) (by omega) (by omega)) (CR.o (c_sign hO C3 _ _) (CR.b (CR.be (nI_1 p) (ih (p + 1) M3 (by omega) (by omega) C3))))
theorem p_lk45 (hO : OkW w) {k33 : Nat → Int64 → Int32 → Mem → Option (Int64 × Mem)} {e : Nat} (he : e < w.A 3) {h : Int64} (hk : ∀ M2, CI M2 w → CR (k33 1 (lkB w.A e h) (nI (e + 1)) M2) v w) : ∀ (n k : Nat) (M : Mem), k ≤ 10 → 10 - k < n → CI M w → CR (f_L_look_45 k33 n 1 (hs (fun k => lkEd (nI e) (nI k) w.A) k h) (nI e) (nI k) M) v w := by
  have hw := (hO.1.e e he).2.1
  have hp := pcN_le (w.A (73 + 16 * e + 1))
  have ht : tlN w.A e ≤ 24 := by unfold tlN; omega
  intro n
  induction n with
  | zero => intro k _ _ h; omega
  | succ n ih =>
    intro k M hj hn hC
    rw [f_L_look_45]
    by_cases q : k = 10
    · subst q
      exact CR.t (by decide) (p_lk76 hO he hk FU 0 M (by omega) (by unfold FU; omega) hC)
    · exact CR.f (nI_nle' (a := 10) (by decide) (by omega) (by omega)) (CR.g (CR.p (c_edition hO hC _ _).cr fun M2 C2 => CR.b (CR.be (nI_1 k) (ih (k + 1) M2 (by omega) (by omega) C2))))
theorem p_lk33 (hO : OkW w) {h : Int64} (hv : v = lkRs w.A (w.A 4) (lkEs w.A (w.A 3) h)) : ∀ (n e : Nat) (M : Mem), e ≤ w.A 3 → w.A 3 - e < n → CI M w → CR (f_L_look_33 n 1 (lkEs w.A e h) (nI e) M) v w := by
  have hn3 := hO.1.n
  have hm := hO.1.m
  intro n
  induction n with
  | zero => intro e _ _ h; omega
  | succ n ih =>
    intro e M hj hn hC
    rw [f_L_look_33]
    refine CR.g (s_c1 hO hC fun M2 C2 => ?_)
    by_cases q : e = w.A 3
    · subst q
      exact CR.t (nI_le' (by omega) (by omega) (by omega)) (p_lk125 hO hv FU 0 M2 (by omega) (by unfold FU; omega) C2)
    · exact CR.f (nI_nle' (by omega) (by omega) (by omega)) (p_lk45 hO (by omega) (fun M3 C3 => ih (e + 1) M3 (by omega) (by omega) C3) FU 0 M2 (by omega) (by unfold FU; omega) C2)
theorem p_lk6 (hO : OkW w) (hv : v = lookA w.A) : ∀ (n k : Nat) (M : Mem), k ≤ 13 → 13 - k < n → CI M w → CR (f_L_look_6 n 1 (hs (fun k => lkCount (nI k) (w0 w.A)) k 467) (nI k) M) v w := by
  have hn3 := hO.1.n
  intro n
  induction n with
  | zero => intro k _ _ h; omega
  | succ n ih =>
    intro k M hj hn hC
    rw [f_L_look_6]
    by_cases q : k = 13
    · subst q
      exact CR.t (by decide) (p_lk33 hO hv FU 0 M (by omega) (by unfold FU; omega) hC)
    · exact CR.f (nI_nle' (a := 13) (by decide) (by omega) (by omega)) (CR.g (CR.pe (c_count hO hC _).cr (lkc_w0 (by omega)) fun M2 C2 => CR.b (CR.be (nI_1 k) (ih (k + 1) M2 (by omega) (by omega) C2))))
end LOOK
theorem p_look {M : Mem} {w : Wd} (hO : OkW w) (hC : CI M w) : CR (f_L_look 1 M) (lookA w.A) w := by
  unfold f_L_look
  exact CR.b (p_lk6 hO rfl FU 0 M (by omega) (by unfold FU; omega) hC)
theorem p_kind {M : Mem} {w : Wd} (hO : OkW w) (hC : CI M w) {e j : Nat} (he : e < w.A 3) (hj : j < w.A (73 + 16 * e)) : CR (f_L_kind 1 (nI e) (nI j) M) (nI (w.A (77 + 16 * e + j))) w := by
  have hK := hO.1.e e he
  have hw := hK.2.1
  have hc := hK.c
  unfold f_L_kind
  refine CR.g (s_e1 hO hC he fun M2 C2 => ?_)
  have hm : w.A (73 + 16 * e + 1) % 2 ^ j ≤ w.A (73 + 16 * e + 1) := Nat.mod_le _ _
  refine CR.o ((congrArg f_L_ones (low_and (by omega) (by omega))).trans (p_ones (by omega))) ?_
  refine CR.o (a := 97 + nI (w.A (77 + 16 * e + j))) ((c_sign hO C2 _ _).trans (congrArg some ?_)) ?_
  · rw [pcN_mod (by omega), nI_add]
    exact lkSign_at hO.1 he hj
  · refine CR.eq ?_ (CR.r C2)
    rw [show (97 : Int32) = nI 97 from rfl, nI_add, pk_sub (by omega), show 97 + w.A (77 + 16 * e + j) - 97 = w.A (77 + 16 * e + j) by omega]
