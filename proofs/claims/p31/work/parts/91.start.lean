set_option maxRecDepth 100000 in
set_option maxHeartbeats 4000000 in
theorem whole_start {p : Program} {e : Env} {s : State} {m : MethodId} {below : List Frame} {meth : Method} {c : Code} (l : Launch) (hflags : l.flags = flags0) {b L : Nat} {xs : Nat → Int32} (hL : L ≤ 260) (C0 : lw_At p s m meth c b L xs) : W p l e room_1 s m #[Value.ref b] below meth c s.heap [] 0 0 (lw_Z below #[Value.ref b] s) (entryFrame m ([Value.ref b] : List Value).toArray 13) := by
  obtain ⟨hx, hb, hr, hml, hown, hts0, hX, hbl, hlocks, hgv⟩ := C0
  have hts : ∀ x ∈ lw_g, x.before #[Value.ref b] s = true := fun x h => hts0 x (List.mem_filter.mp h).1
  obtain ⟨c0, s0, hk0⟩ := u_known (C := RX0) (T := TX0) (N := 5) (n := 5) hts inX0 (hts _ it_RX0.1)
  obtain ⟨c1, s1, hk1⟩ := u_known (C := RX1) (T := TX1) (N := 2) (n := 2) hts inX1 (hts _ it_RX1.1)
  obtain ⟨c2, s2, hk2⟩ := u_known (C := RX2) (T := TX2) (N := 7) (n := 7) hts inX2 (hts _ it_RX2.1)
  obtain ⟨c3, s3, hk3⟩ := u_known (C := RX3) (T := TX3) (N := 7) (n := 7) hts inX3 (hts _ it_RX3.1)
  obtain ⟨c4, s4, hk4⟩ := u_known (C := RX4) (T := TX4) (N := 9) (n := 9) hts inX4 (hts _ it_RX4.1)
  obtain ⟨c5, s5, hk5⟩ := u_known (C := RX5) (T := TX5) (N := 12) (n := 12) hts inX5 (hts _ it_RX5.1)
  obtain ⟨dC, dI, hKc⟩ : ∃ (dC : Nat → ClassId) (dI : Nat → Nat → Nat), ∀ (k : Nat) (q : vw_C), vwCl[k]? = some q → u_Kn s q.1 q.2.1 q.2.2 (dC k) (dI k) := by
    refine ⟨fun k => match k with | 0 => c0 | 1 => c1 | 2 => c2 | 3 => c3 | 4 => c4 | _ => c5, fun k => match k with | 0 => s0 | 1 => s1 | 2 => s2 | 3 => s3 | 4 => s4 | _ => s5, ?_⟩
    intro k q hq
    match k, hq with
    | 0, hq => cases hq; exact hk0
    | 1, hq => cases hq; exact hk1
    | 2, hq => cases hq; exact hk2
    | 3, hq => cases hq; exact hk3
    | 4, hq => cases hq; exact hk4
    | 5, hq => cases hq; exact hk5
    | k + 6, hq => simp [vwCl] at hq
  have ao1 := hts0 _ (List.mem_of_getElem? (i := 38) (by decide +kernel) : Jvm.Cond.arrayOver (.object "CommaCourt$Edition") ∈ lw_tbl)
  have ao2 := hts0 _ (List.mem_of_getElem? (i := 40) (by decide +kernel) : Jvm.Cond.arrayOver (.object "CommaCourt$Ruling") ∈ lw_tbl)
  have ao3 := hts0 _ (List.mem_of_getElem? (i := 155) (by decide +kernel) : Jvm.Cond.arrayOver (.object "CommaCourt$State") ∈ lw_tbl)
  have hAo : Ao s := ⟨va_AO.of ao1, va_AO.of ao2, va_AO.of ao3⟩
  have hNs : Ns s := fun q hq => va_Nw.of rfl (hts0 _ (ns_in q hq))
  obtain ⟨y0, k0, p0, i1, i2, i3⟩ := Cond.arrayClass_spec (hts _ mo_arr)
  obtain ⟨p1, y1, k1, e1, e2, e3, e4, e5⟩ := Cond.arrayOver_spec ao1
  obtain ⟨p2, y2, k2, f1, f2, f3, f4, f5⟩ := Cond.arrayOver_spec ao2
  obtain ⟨p3, y3, k3, g1, g2, g3, g4, g5⟩ := Cond.arrayOver_spec ao3
  generalize hA : (fun q : Nat => s.heap.size ≤ q) = A
  have hAq : ∀ q, s.heap.size ≤ q → A q := fun q h => by rw [← hA]; exact h
  obtain ⟨cy, hcy⟩ : ∃ cy : Nat → ClassId, cy = fun k => match k with | 0 => y0 | 1 => y1 | 2 => y2 | _ => y3 := ⟨_, rfl⟩
  have hK : ∀ ad, va_K (dC, dI) vwCl (tys ((dC, dI), cy, ad, A)) s := by
    intro ad
    refine ⟨hKc, fun k q hq => ?_⟩
    subst hcy
    match k, hq with
    | 0, hq => cases hq; exact ⟨fun N z => ⟨(fun k h => by cases h), k0, i2, p0, i3⟩, i1⟩
    | 1, hq => cases hq; exact ⟨fun N z => ⟨(fun k h => by cases h), k1, e3, p1, e4⟩, k1, p1, e3, e4, e1, e5⟩
    | 2, hq => cases hq; exact ⟨fun N z => ⟨(fun k h => by cases h), k2, f3, p2, f4⟩, k2, p2, f3, f4, f1, f5⟩
    | 3, hq => cases hq; exact ⟨fun N z => ⟨(fun k h => by cases h), k3, g3, p3, g4⟩, k3, p3, g3, g4, g1, g5⟩
    | k + 4, hq => simp [tys] at hq
  have hl := lv_entry [Value.ref b] (n := 13) (Nat.le_of_ble_eq_true rfl)
  rw [lg_entry_eq]
  generalize (lg_sl [Value.ref b] ++ List.replicate (13 - (lg_sl [Value.ref b]).length) Slot.unset).toArray = ls at hl ⊢
  have hl2 : lh ls 13 [some (.ref b), none, none, none, none, none, none, none, none, none, none, none, none] := ⟨hl.1, hl.2.1, fun i v h => by
    match i, h with
    | 0, h => cases h; exact hl.2.2 (0, .ref b) List.mem_cons_self
    | 1, h => cases h
    | 2, h => cases h
    | 3, h => cases h
    | 4, h => cases h
    | 5, h => cases h
    | 6, h => cases h
    | 7, h => cases h
    | 8, h => cases h
    | 9, h => cases h
    | 10, h => cases h
    | 11, h => cases h
    | 12, h => cases h
    | i + 13, h => simp at h⟩
  obtain ⟨w, hw⟩ : ∃ w : Om, w = ((dC, dI), cy, fun _ => 0, A) := ⟨_, rfl⟩
  obtain ⟨f, hf⟩ : ∃ f : Fr, f = (p, l, e, room_1, s, m, #[Value.ref b], below, meth, c, 654553, 7138588, lw_Z below #[Value.ref b] s) := ⟨_, rfl⟩
  have C : Cn w f RL cL_law 13 4 158 3000 := by
    subst hw; subst hf
    exact ⟨hx, hb, hml, hown, hts, hK _, hNs, Nat.le_of_ble_eq_true rfl, Nat.le_of_ble_eq_true rfl, Nat.le_of_ble_eq_true rfl, Nat.le_of_ble_eq_true rfl, hAo, hAq⟩
  have main : Gn w f 0 0 0 [some (.ref b), none, none, none, none, none, none, none, none, none, none, none, none] [] ([] ++ []) := by
    refine n_new 5 [.null, .null, .null, .null, .null, .null, .int 0, .int 0, .int 0, .int 0, .int 0, .int 0] rfl inX5 tyX5 tyX5_ok C cl_RL_14 it_RX5.1 it_RX5.2 hfs_5 (by decide) (by decide) dL_law_0 (fun q1 => ?_)
    refine n_dup C dL_law_3 ?_
    refine n_init C (cn_X5_init q1 []) lk_RL_131 rfl mi_X5_init (by decide) (Nat.le_of_ble_eq_true rfl) (by decide) (by decide) dL_law_4 (fun z hz => ?_)
    obtain ⟨bs, us, v, rfl⟩ := hz
    refine n_astore_n C dL_law_7 rfl (by decide) rfl (L2 := [some (.ref b), some (.ref q1), none, none, none, none, none, none, none, none, none, none, none]) rfl ?_
    intro H locs ls hP hD hS hl
    obtain ⟨ad, had⟩ : ∃ ad : Nat → Nat, ad = adF b q1 bs us v := ⟨_, rfl⟩
    obtain ⟨w2, hw2⟩ : ∃ w2 : Om, w2 = ((dC, dI), cy, ad, A) := ⟨_, rfl⟩
    have hfin : wo w2 M0 = coW w q1 bs v ++ (((((([] ++ stW w (bs 0) (us 0)) ++ stW w (bs 1) (us 1)) ++ stW w (bs 2) (us 2)) ++ stW w (bs 3) (us 3)) ++ stW w (bs 4) (us 4)) ++ stW w (bs 5) (us 5)) := by
      subst hw2; subst had; subst hw
      exact wo_fin
    generalize (((((([] ++ stW w (bs 0) (us 0)) ++ stW w (bs 1) (us 1)) ++ stW w (bs 2) (us 2)) ++ stW w (bs 3) (us 3)) ++ stW w (bs 4) (us 4)) ++ stW w (bs 5) (us 5)) = Pst at hP hD hfin
    have hD2 : va_D w2.2.2.2 (wo w2 M0) := by
      rw [hfin]
      have h1 : va_D w.2.2.2 ([] ++ (Pst ++ coW w q1 bs v)) := by
        rw [List.nil_append]; exact hD
      have h2 := va_D_swap h1
      rw [List.nil_append] at h2
      have eA : w2.2.2.2 = w.2.2.2 := by subst hw2; subst hw; rfl
      rw [eA]
      exact h2
    have hP2 : va_P w2.1 vwCl (wo w2 M0) H := by
      rw [hfin]
      have eA : w2.1 = w.1 := by subst hw2; subst hw; rfl
      rw [eA]
      refine va_P_iff.mpr fun q hq => va_P_iff.mp hP q ?_
      simp only [List.mem_append] at hq ⊢
      exact hq.elim Or.inr Or.inl
    have CC : Cx w2 f RL cL_law 13 24 := by
      refine ⟨C.ex, C.co, C.ml, C.ow, C.ts, ?_, fun M => wo_addr hD2, C.ns, ?_, ?_, ?_, ?_⟩
      · subst hw2; subst hf; exact hK ad
      all_goals subst hf; exact Nat.le_of_ble_eq_true rfl
    obtain ⟨M2, hM2⟩ := pure_law L xs hL
    have hSx : Sx w2 f L xs := by
      subst hw2; subst had; subst hf
      refine ⟨hX, hbl, ?_⟩
      show ¬ A b
      rw [← hA]
      exact Nat.not_le.mpr hbl
    have hR : Rt w2 f cL_law (some .boolean) (some (.int 1)) M2 := by
      intro pc L2 _ hd H2 locs2 ls2 _ hS2 _
      subst hf
      have hfo : ∀ q ∈ locs2, s.heap.size ≤ q.base := by
        intro q hq
        have h1 := hS2.2.2 q hq
        subst hw2
        have h2 : A q.base := h1
        rw [← hA] at h2
        exact h2
      exact va_forget hfo (lw_ret (s := s) (d0 := s.drawn) (Drawn.sameBut.refl s.drawn lw_cs) hx hb hr hlocks hd)
    have hgo : Go w2 f 8 [some (rv w2 159), some (rv w2 1), none, none, none, none, none, none, none, none, none, none, none] [] M0 := t_L_law_8 CC hR hSx 1 M0 hM2
    have eL : ([some (rv w2 159), some (rv w2 1), none, none, none, none, none, none, none, none, none, none, none] : List (Option Value)) = [some (.ref b), some (.ref q1), none, none, none, none, none, none, none, none, none, none, none] := by
      subst hw2; subst had; rfl
    rw [eL] at hgo
    refine W.widen (k := 654553) (n := 7138588) (Nat.le_of_ble_eq_true rfl) (Nat.le_of_ble_eq_true rfl) ?_
    have h9 := hgo H locs ls hP2 (by subst hw2; subst hw; exact hS) hl
    subst hf
    exact h9
  subst hw
  subst hf
  exact main s.heap [] ls (fun k q h => by simp at h) ⟨fun i j p q h => by simp at h, fun k q h => by simp at h⟩ va_S.rf (by rw [← hml] at hl2; exact hl2)
