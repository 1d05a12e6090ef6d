/-! what the walks' functions are made of -/
def gdd {α : Type} (c : Prop) [Decidable c] (x : Option α) : Option α := if c then x else none
def obb {α β : Type} (x : Option α) (k : α → Option β) : Option β := x.bind k
def opp {α β : Type} (x : Option (α × Mem)) (k : α → Mem → Option β) : Option β := x.bind (fun z => k z.1 z.2)
def bvv {α β : Type} (a : α) (k : α → β) : β := k a
def isb (x : Int32) : Bool := decide (x = 0) || decide (x = 1)
def FU : Nat := 5000
theorem of_gdd {α : Type} {c : Prop} [Decidable c] {x : Option α} {r : α} (h : gdd c x = some r) : c ∧ x = some r := by
  unfold gdd at h
  by_cases hc : c
  · rw [if_pos hc] at h; exact ⟨hc, h⟩
  · rw [if_neg hc] at h; cases h
theorem of_obb {α β : Type} {x : Option α} {k : α → Option β} {r : β} (h : obb x k = some r) : ∃ a, x = some a ∧ k a = some r := by
  cases x with
  | none => cases h
  | some a => exact ⟨a, rfl, h⟩
theorem of_opp {α β : Type} {x : Option (α × Mem)} {k : α → Mem → Option β} {r : β} (h : opp x k = some r) : ∃ a M, x = some (a, M) ∧ k a M = some r := by
  cases x with
  | none => cases h
  | some a => exact ⟨a.1, a.2, rfl, h⟩
theorem of_bvv {α β : Type} {a : α} {k : α → β} {r : β} (h : bvv a k = r) : ∃ x, x = a ∧ k x = r := ⟨a, rfl, h⟩
theorem of_ift {α : Type} {c : Prop} [Decidable c] {a b r : α} (h : (if c then a else b) = r) (hc : c) : a = r := by rw [if_pos hc] at h; exact h
theorem of_iff {α : Type} {c : Prop} [Decidable c] {a b r : α} (h : (if c then a else b) = r) (hc : ¬ c) : b = r := by rw [if_neg hc] at h; exact h
theorem isb_0 : isb 0 = true := by decide
theorem isb_1 : isb 1 = true := by decide
theorem isb_or {x : Int32} (h : isb x = true) : x = 0 ∨ x = 1 := by
  unfold isb at h
  rw [Bool.or_eq_true, decide_eq_true_eq, decide_eq_true_eq] at h
  exact h
theorem nb_use {x : Int32} (h : isb x = true) : narrow .boolean (.int x) = .int x := by
  rcases isb_or h with rfl | rfl <;> rfl
theorem fb_use {x : Int32} (h : isb x = true) : fits .boolean (.int x) = true := by
  rcases isb_or h with rfl | rfl <;> rfl
theorem kd_ne0 {r k : Nat} (g : kd r = k) (hk : ¬ k = 0) : ¬ r = 0 := by
  intro e
  subst e
  exact hk (g.symm.trans (by decide))
def nN (x : UInt64) : Bool := decide (x &&& 0x7fffffffffffffff ≤ 0x7ff0000000000000)
theorem nN_use {x : UInt64} (h : nN x = true) : vf_n64 x := by
  unfold nN at h
  rw [decide_eq_true_eq] at h
  exact h
theorem ls_out01 {x : Int32} (h0 : ¬ x = nI 0) (h1 : ¬ x = nI 1) {a b d : Int} : Op.lookupswitch.offset [(0, a), (1, b)] d x.toInt = d := by
  have e0 : ¬ x.toInt = 0 := fun e => h0 (Int32.toInt_inj.mp (by rw [e]; rfl))
  have e1 : ¬ x.toInt = 1 := fun e => h1 (Int32.toInt_inj.mp (by rw [e]; rfl))
  simp [Op.lookupswitch.offset, List.find?, Ne.symm e0, Ne.symm e1, fun e : (0 : Int) = x.toInt => e0 e.symm, fun e : (1 : Int) = x.toInt => e1 e.symm]
theorem p_lt {x : Int32} {n : Nat} (h : ∀ a, a < n → ¬ x = nI a) : ∀ j, j < n → ¬ x = nI j := h
def maskL : List Bool → List (Option Value) → List (Option Value)
  | b :: bs, v :: L => (if b then v else none) :: maskL bs L
  | _, _ => []
theorem maskL_at : ∀ (bs : List Bool) (L : List (Option Value)) (i : Nat) (v : Value), (maskL bs L)[i]? = some (some v) → L[i]? = some (some v)
  | [], _, i, v, h => by simp [maskL] at h
  | b :: bs, [], i, v, h => by simp [maskL] at h
  | b :: bs, u :: L, 0, v, h => by
    simp only [maskL, List.getElem?_cons_zero, Option.some.injEq] at h ⊢
    cases b
    · cases h
    · exact h
  | b :: bs, u :: L, i + 1, v, h => by
    simp only [maskL, List.getElem?_cons_succ] at h ⊢
    exact maskL_at bs L i v h
theorem g_mask {w : Om} {f : Fr} {pc : Nat} {L L2 : List (Option Value)} {st : List Value} {M : Mem} {bs : List Bool} (e : maskL bs L = L2) (k : Go w f pc L2 st M) : Go w f pc L st M := g_loc (fun i v h => maskL_at bs L i v (by rw [e]; exact h)) k
theorem cat_0 : ∀ v ∈ ([] : List Value), v.category = 1 := fun _ h => absurd h List.not_mem_nil
theorem cat_s {u : Value} {vs : List Value} (h1 : u.category = 1) (h : ∀ v ∈ vs, v.category = 1) : ∀ v ∈ u :: vs, v.category = 1 := List.forall_mem_cons.mpr ⟨h1, h⟩
def CS (n : Nat) (st : List Value) : Prop := (st.map fun v => v.category).sum = n
theorem cs_0 : CS 0 [] := rfl
theorem cs_i {n : Nat} {st : List Value} {x : Int32} (h : CS n st) : CS (1 + n) (.int x :: st) := by unfold CS at h ⊢; rw [List.map_cons, List.sum_cons, h]; rfl
theorem cs_r {n : Nat} {st : List Value} {w : Om} {r : Nat} (h : CS n st) : CS (1 + n) (rv w r :: st) := by unfold CS at h ⊢; rw [List.map_cons, List.sum_cons, h, rv_cat]
theorem cs_l {n : Nat} {st : List Value} {x : Int64} (h : CS n st) : CS (2 + n) (.long x :: st) := by unfold CS at h ⊢; rw [List.map_cons, List.sum_cons, h]; rfl
theorem cs_d {n : Nat} {st : List Value} {x : UInt64} (h : CS n st) : CS (2 + n) (.double x :: st) := by unfold CS at h ⊢; rw [List.map_cons, List.sum_cons, h]; rfl
theorem RtA_use {w : Om} {f : Fr} {cc : ByteArray} {ret : Option FieldType} {r : Nat} {M : Mem} (hR : Rt w f cc ret (some (rv w r)) M) (pc : Nat) (L : List (Option Value)) (h1 : (∃ n, ret = some (.object n)) ∨ ∃ t, ret = some (.array t)) (d : decode cc pc = .ok (.areturn, 1)) : Go w f pc L [rv w r] M := by
  have h := hR pc L
  have h2 := rv_or w r
  generalize rv w r = v at h h2 ⊢
  rcases h2 with e | ⟨a, e⟩
  · subst e
    exact h h1 (Or.inl rfl) d
  · subst e
    exact h h1 (Or.inr ⟨_, rfl⟩) d
/-- the law's script: x of L ints, the cell 159 -/
def Sx (w : Om) (f : Fr) (L : Nat) (xs : Nat → Int32) : Prop := va_X (w.2.2.1 159) L xs (f_s f) (f_s f).heap ∧ w.2.2.1 159 < (f_s f).heap.size ∧ ¬ w.2.2.2 (w.2.2.1 159)
/-- the same of a state: what a method asks that takes the script -/
def SxU (w : Om) (U : State) (L : Nat) (xs : Nat → Int32) : Prop := va_X (w.2.2.1 159) L xs U U.heap ∧ w.2.2.1 159 < U.heap.size ∧ ¬ w.2.2.2 (w.2.2.1 159)
def PcX (w : Om) (Ln : Nat) (xs : Nat → Int32) (vs : List Value) (M : Mem) : Array Value → State → Prop := va_Pc vs (fun U => (va_P w.1 vwCl (wo w M) U.heap ∧ va_K w.1 vwCl (tys w) U ∧ Ns U) ∧ SxU w U Ln xs)
def CtX (l : Launch) (w : Om) (Ln : Nat) (xs : Nat → Int32) (y : MethodName) (cc : ByteArray) (nL : Nat) (ret : Option FieldType) (lev : Nat) (vs : List Value) (M : Mem) (ro : Option Value) (M2 : Mem) : Prop := Met l y (.code y cc nL ret :: lw_g) (rm lev) (PcX w Ln xs vs M) (Qc w ro M2) 0 0 w.2.2.2
theorem PcX_blind {w : Om} {Ln : Nat} {xs : Nat → Int32} {vs : List Value} {M : Mem} : FrameBlind (PcX w Ln xs vs M) := fun a U g mk q => ⟨q.1, ⟨q.2.1.1, va_K.moved (u := U) (U := U.calling g mk a) (Vm.Alike.refl U.vm) q.2.1.2.1, Ns.same (u := U) (U := U.calling g mk a) rfl q.2.1.2.2⟩, va_X.moved (u := U) (U := U.calling g mk a) (Vm.Alike.refl U.vm) q.2.2.1, q.2.2.2⟩
theorem ctx_of {l : Launch} {w : Om} {y : MethodName} {cc : ByteArray} {nL : Nat} {ret : Option FieldType} {lev : Nat} {vs : List Value} {M : Mem} {ro : Option Value} {M2 : Mem} {Ln : Nat} {xs : Nat → Int32} (hw : Wf w) (hy : plainName y.cls = true) (hcat : ∀ v ∈ vs, v.category = 1) (hlen : vs.length ≤ nL)
    (body : ∀ f : Fr, f_l f = l → Cx w f y.cls cc nL lev → Rt w f cc ret ro M2 → Sx w f Ln xs → Go w f 0 (vs.map some ++ List.replicate (nL - vs.length) none) [] M) : CtX l w Ln xs y cc nL ret lev vs M ro M2 := by
  refine Met.ofW (cc := cc) (maxL := nL) (ret := ret) hy rfl ?_
  intro p e s m args below meth c s₁ B hml hv
  obtain ⟨rfl, ⟨hP, hK, hN⟩, hX⟩ := hv
  have hts := atoms_spec (ws := Cond.code y cc nL ret :: lw_g) B.pre
  have hown : s.vm.findClass y.cls = some m.cls := findClass_of_methodNamed B.named
  have hlocks := B.notSynchronized
  rw [lg_entry_eq]
  have hl := lv_entry vs (n := nL) (by rw [sl_cat1 vs hcat, List.length_map]; exact hlen)
  generalize (lg_sl vs ++ List.replicate (nL - (lg_sl vs).length) Slot.unset).toArray = ls at hl ⊢
  have hC : Cx w (p, l, e, rm lev, s, m, vs.toArray, below, meth, c, 0, 0, MQ below (Qc w ro M2) vs.toArray s 0 0 w.2.2.2) y.cls cc nL lev :=
    ⟨B.exec, B.bytes, hml, hown, fun x hx => hts x (List.mem_cons_of_mem _ hx), hK, hw, hN, Nat.le_refl _, Nat.le_refl _, Nat.zero_le _, Nat.zero_le _⟩
  refine body (p, l, e, rm lev, s, m, vs.toArray, below, meth, c, 0, 0, MQ below (Qc w ro M2) vs.toArray s 0 0 w.2.2.2) rfl hC ?_ hX s.heap [] ls hP va_S.rf ⟨?_, hl.2.1, ?_⟩
  · intro pc L
    match ro with
    | none =>
      intro e1 hd H locs ls2 hP2 hS2 hl2
      subst e1
      exact W.vret hC.ex hC.co B.returns (fun t ht hW => ⟨⟨rfl, by rw [ht]; exact hP2⟩, hS2.F ht⟩) hS2.2.2 hd hlocks
    | some (.int r) =>
      rintro ⟨ty, e1, hn⟩ hd H locs ls2 hP2 hS2 hl2
      subst e1
      exact W.zret hC.ex hC.co B.returns hn (fun t ht hW => ⟨⟨rfl, by rw [ht]; exact hP2⟩, hS2.F ht⟩) hS2.2.2 hd hlocks
    | some (.double r) =>
      intro e1 hd H locs ls2 hP2 hS2 hl2
      subst e1
      exact W.dret hC.ex hC.co B.returns (fun t ht hW => ⟨⟨rfl, by rw [ht]; exact hP2⟩, hS2.F ht⟩) hS2.2.2 hd hlocks
    | some .null =>
      rintro (⟨n, e1⟩ | ⟨n, e1⟩) hv hd H locs ls2 hP2 hS2 hl2
      · subst e1
        exact W.aret hC.ex hC.co B.returns (Or.inl ⟨_, rfl⟩) hv (fun t ht hW => ⟨⟨rfl, by rw [ht]; exact hP2⟩, hS2.F ht⟩) hS2.2.2 hd hlocks
      · subst e1
        exact W.aret hC.ex hC.co B.returns (Or.inr ⟨_, rfl⟩) hv (fun t ht hW => ⟨⟨rfl, by rw [ht]; exact hP2⟩, hS2.F ht⟩) hS2.2.2 hd hlocks
    | some (.ref a) =>
      rintro (⟨n, e1⟩ | ⟨n, e1⟩) hv hd H locs ls2 hP2 hS2 hl2
      · subst e1
        exact W.aret hC.ex hC.co B.returns (Or.inl ⟨_, rfl⟩) hv (fun t ht hW => ⟨⟨rfl, by rw [ht]; exact hP2⟩, hS2.F ht⟩) hS2.2.2 hd hlocks
      · subst e1
        exact W.aret hC.ex hC.co B.returns (Or.inr ⟨_, rfl⟩) hv (fun t ht hW => ⟨⟨rfl, by rw [ht]; exact hP2⟩, hS2.F ht⟩) hS2.2.2 hd hlocks
    | some (.long r) =>
      intro e1 hd H locs ls2 hP2 hS2 hl2
      subst e1
      exact W.lret hC.ex hC.co B.returns (fun t ht hW => ⟨⟨rfl, by rw [ht]; exact hP2⟩, hS2.F ht⟩) hS2.2.2 hd hlocks
    | some (.float r) =>
      rintro h1 (h2 | ⟨a, h2⟩) <;> cases h2
    | some (.retAddr r) =>
      rintro h1 (h2 | ⟨a, h2⟩) <;> cases h2
  · exact hl.1.trans hml.symm
  · intro i v hv
    by_cases hi : i < vs.length
    · rw [List.getElem?_append_left (by rw [List.length_map]; exact hi), List.getElem?_map] at hv
      cases hq : vs[i]? with
      | none => rw [hq] at hv; cases hv
      | some u =>
        rw [hq] at hv
        have e : u = v := Option.some.inj (Option.some.inj hv)
        have h1 := args_cat1 vs 0 hcat i u hq
        rw [Nat.zero_add, e] at h1
        exact hl.2.2 _ h1
    · rw [List.getElem?_append_right (by rw [List.length_map]; omega)] at hv
      have h1 := List.eq_of_mem_replicate (List.mem_of_getElem? hv)
      cases h1
section CALLS
variable {w : Om} {f : Fr} {own : String} {cc : ByteArray} {nL lev pc : Nat} {L : List (Option Value)} {st : List Value} {M : Mem}
variable {y : MethodName} {bytes : ByteArray} {maxL idx lc n : Nat} {ret : Option FieldType} {As S : List Value} {M2 : Mem} {ro : Option Value}
theorem W_call {p : Program} {l : Launch} {e : Env} {R : Room} {s : State} {m : MethodId} {args : Array Value} {below : List Frame} {meth : Method} {c : Code} {H : Heap} {locs : List Loc} {cells slots : Nat} {Q : State → Prop} {ls : Array Slot} {rest st0 : List Value} {a : Array Value} (hr : va_Run p l e R s m args below meth c H locs cells slots 0 0 (F0 m pc ls st0) rest (Qc w ro M2 a) w.2.2.2) (hS : va_S w.2.2.2 s.heap H locs)
    (kk : ∀ (H1 : Heap) (locs1 : List Loc), va_P w.1 vwCl (wo w M2) H1 → va_S w.2.2.2 s.heap H1 locs1 → W p l e R s m args below meth c H1 locs1 cells slots Q (F0 m (pc + 3) ls (ro.toList ++ rest))) : W p l e R s m args below meth c H locs cells slots Q (F0 m pc ls st0) := by
  intro T hT X
  obtain ⟨v, st₀, t, T', L2, h0, X', hL, e1, e2, ⟨⟨hv, hp⟩, hz, hk⟩, st⟩ := hr T hT X
  cases hv
  rw [h0] at hz hk
  obtain ⟨t2, a1, b1⟩ := kk T'.heap (locs ++ L2) (by rw [e1]; exact hp)
    ⟨Nat.le_trans hS.1 (by rw [e1]; exact hz), fun q h1 h2 => by rw [e1, hk q (Nat.lt_of_lt_of_le h1 hS.1) h2]; exact hS.2.1 q h1 h2, fun q hq => by
      rcases List.mem_append.mp hq with h | h
      · exact hS.2.2 q h
      · exact hL q h⟩ T' rfl X'
  exact ⟨t2, st t2 a1, b1⟩
theorem g_callV {ci r : Nat} (C : Cx w f own cc nL lev) (hM : Ct (f_l f) w y bytes maxL ret lc (rv w r :: As) M ro M2) (hr : kd r = ci + 1) (lk : Jvm.Cond.methodLink own idx y ∈ lw_g) (mi : MiV y bytes maxL ret ci As.length) (hlev : lc + 1 ≤ lev ∧ maxL ≤ 41) (hcs : CS n st) (hn : n ≤ 8) (d : decode cc pc = .ok (.invokevirtual idx, 3)) (hS : S = As.reverse ++ rv w r :: st) (k : Go w f (pc + 3) L (ro.toList ++ st) M2) : Go w f pc L S M := by
  intro H locs ls hP hS0 hl
  obtain ⟨m1, m2, m3, m4, ⟨m5, m6, m7⟩, ⟨T, N, m8⟩, m9⟩ := mi
  have hb := kd_in (r := r) (by omega) (by omega)
  have hfr := C.fr
  have hlo := C.lo
  have hts := C.ts
  refine W_call (va_runV (bytes := bytes) (maxL := maxL) (ret := ret) (As := As) (rest := st) (C := y.cls) (b := w.2.2.1 r) ⟨C.ex, C.co, C.ml, C.ow, C.ts⟩ hM ?_ ⟨Pc_blind, ?_, ?_⟩ rfl rfl (hl.1.trans C.ml) (by rw [hS, rv_some (r := r) (by omega)]) (lv_room (by unfold CS at hcs; omega)) d ⟨C.ce, C.sl⟩) hS0 (fun H1 locs1 hP1 hS1 => k H1 locs1 ls hP1 hS1 hl)
  · exact ⟨callB_of As.length C.ts (fun x hx => (List.mem_cons.mp hx).elim (fun e => by rw [e]; exact ⟨m4, (lw_gg _ m4).2⟩) (fun h => lw_gg x h)) rfl rfl rfl (hts _ m3) (hts _ lk) ⟨m5, m6, m7⟩ ⟨by show lc + 1 + 1 ≤ _; omega, by show 8 + (maxL + 11) + 60 * (lc + 1) ≤ _; omega⟩, hts _ m1, hts _ m2⟩
  · exact va_recv C.K hP m8 (by rw [wo_at hb, cell_o m9 hr])
  · intro U hU hW
    exact ⟨by rw [rv_some (r := r) (by omega)], by rw [hU]; exact hP, va_K.moved hW.alike C.K, Ns.warm hW C.ns⟩
theorem g_callS (C : Cx w f own cc nL lev) (hM : Ct (f_l f) w y bytes maxL ret lc As M ro M2) (lk : Jvm.Cond.methodLink own idx y ∈ lw_g) (mi : MiS y bytes maxL ret As.length) (hlev : lc + 1 ≤ lev ∧ maxL ≤ 41) (hcs : CS n st) (hn : n ≤ 8) (d : decode cc pc = .ok (.invokestatic idx, 3)) (hS : S = As.reverse ++ st) (k : Go w f (pc + 3) L (ro.toList ++ st) M2) : Go w f pc L S M := by
  intro H locs ls hP hS0 hl
  obtain ⟨m1, m3, m4, ⟨m5, m6, m7⟩⟩ := mi
  have hfr := C.fr
  have hlo := C.lo
  have hts := C.ts
  refine W_call (va_runS (bytes := bytes) (maxL := maxL) (ret := ret) (As := As) (rest := st) ⟨C.ex, C.co, C.ml, C.ow, C.ts⟩ hM ?_ ⟨Pc_blind, ?_⟩ rfl rfl (hl.1.trans C.ml) (by rw [hS]) (lv_room (by unfold CS at hcs; omega)) d ⟨C.ce, C.sl⟩) hS0 (fun H1 locs1 hP1 hS1 => k H1 locs1 ls hP1 hS1 hl)
  · exact ⟨callB_of As.length C.ts (fun x hx => (List.mem_cons.mp hx).elim (fun e => by rw [e]; exact ⟨m4, (lw_gg _ m4).2⟩) (fun h => lw_gg x h)) rfl rfl rfl (hts _ m3) (hts _ lk) ⟨m5, m6, m7⟩ ⟨by show lc + 1 + 1 ≤ _; omega, by show 8 + (maxL + 11) + 60 * (lc + 1) ≤ _; omega⟩, hts _ m1⟩
  · intro U hU hW
    exact ⟨rfl, by rw [hU]; exact hP, va_K.moved hW.alike C.K, Ns.warm hW C.ns⟩
theorem g_callSN {host : String} (C : Cx w f own cc nL lev) (hM : Ct (f_l f) w y bytes maxL ret lc As M ro M2) (lk : (own, idx, y, host) ∈ nsL) (mi : MiS y bytes maxL ret As.length) (hlev : lc + 1 ≤ lev ∧ maxL ≤ 41) (hcs : CS n st) (hn : n ≤ 8) (d : decode cc pc = .ok (.invokestatic idx, 3)) (hS : S = As.reverse ++ st) (k : Go w f (pc + 3) L (ro.toList ++ st) M2) : Go w f pc L S M := by
  intro H locs ls hP hS0 hl
  obtain ⟨m1, m3, m4, ⟨m5, m6, m7⟩⟩ := mi
  have hfr := C.fr
  have hlo := C.lo
  have hts := C.ts
  have hns := C.ns _ lk
  refine W_call (va_runSN (bytes := bytes) (maxL := maxL) (ret := ret) (As := As) (rest := st) (host := host) ⟨C.ex, C.co, C.ml, C.ow, C.ts⟩ hM ?_ ⟨Pc_blind, ?_⟩ rfl rfl (hl.1.trans C.ml) (by rw [hS]) (lv_room (by unfold CS at hcs; omega)) d ⟨C.ce, C.sl⟩) hS0 (fun H1 locs1 hP1 hS1 => k H1 locs1 ls hP1 hS1 hl)
  · exact ⟨va_cnB As.length C.ts (fun x hx => (List.mem_cons.mp hx).elim (fun e => by rw [e]; exact ⟨m4, (lw_gg _ m4).2⟩) (fun h => lw_gg x h)) rfl rfl rfl hns (hts _ m3) ⟨m5, m6, m7⟩ ⟨by show lc + 1 + 1 ≤ _; omega, by show 8 + (maxL + 11) + 60 * (lc + 1) ≤ _; omega⟩, hts _ m1, trivial⟩
  · intro U hU hW
    exact ⟨rfl, by rw [hU]; exact hP, va_K.moved hW.alike C.K, Ns.warm hW C.ns⟩
theorem g_callX {Ln : Nat} {xs : Nat → Int32} (hX : Sx w f Ln xs) (C : Cx w f own cc nL lev) (hM : CtX (f_l f) w Ln xs y bytes maxL ret lc As M ro M2) (lk : Jvm.Cond.methodLink own idx y ∈ lw_g) (mi : MiS y bytes maxL ret As.length) (hlev : lc + 1 ≤ lev ∧ maxL ≤ 41) (hcs : CS n st) (hn : n ≤ 8) (d : decode cc pc = .ok (.invokestatic idx, 3)) (hS : S = As.reverse ++ st) (k : Go w f (pc + 3) L (ro.toList ++ st) M2) : Go w f pc L S M := by
  intro H locs ls hP hS0 hl
  obtain ⟨m1, m3, m4, ⟨m5, m6, m7⟩⟩ := mi
  have hfr := C.fr
  have hlo := C.lo
  have hts := C.ts
  refine W_call (va_runS (bytes := bytes) (maxL := maxL) (ret := ret) (As := As) (rest := st) ⟨C.ex, C.co, C.ml, C.ow, C.ts⟩ hM ?_ ⟨PcX_blind, ?_⟩ rfl rfl (hl.1.trans C.ml) (by rw [hS]) (lv_room (by unfold CS at hcs; omega)) d ⟨C.ce, C.sl⟩) hS0 (fun H1 locs1 hP1 hS1 => k H1 locs1 ls hP1 hS1 hl)
  · exact ⟨callB_of As.length C.ts (fun x hx => (List.mem_cons.mp hx).elim (fun e => by rw [e]; exact ⟨m4, (lw_gg _ m4).2⟩) (fun h => lw_gg x h)) rfl rfl rfl (hts _ m3) (hts _ lk) ⟨m5, m6, m7⟩ ⟨by show lc + 1 + 1 ≤ _; omega, by show 8 + (maxL + 11) + 60 * (lc + 1) ≤ _; omega⟩, hts _ m1⟩
  · intro U hU hW
    have hb : U.heap[w.2.2.1 159]? = (f_s f).heap[w.2.2.1 159]? := by rw [hU]; exact hS0.2.1 _ hX.2.1 hX.2.2
    exact ⟨rfl, ⟨by rw [hU]; exact hP, va_K.moved hW.alike C.K, Ns.warm hW C.ns⟩, (hX.1.moved hW.alike).kept hb, by rw [hU]; exact Nat.lt_of_lt_of_le hX.2.1 hS0.1, hX.2.2⟩
theorem g_sld {Ln : Nat} {xs : Nat → Int32} {i : Int32} (C : Cx w f own cc nL lev) (hX : Sx w f Ln xs) (hi : inb i Ln = true) (d : decode cc pc = .ok (.iaload, 1)) (k : Go w f (pc + 1) L (.int (xs i.toNatClampNeg) :: st) M) : Go w f pc L (.int i :: rv w 159 :: st) M :=
  fun H locs ls hP hS hl => va_sld C.ex C.co hX.1 hX.2.1 hX.2.2 hS (inb_in hi) d (k H locs ls hP hS hl)
theorem g_mabs {x : Int32} (C : Cx w f own cc nL lev) (lk : Jvm.Cond.methodLink own idx Lib.Math.abs.name ∈ lw_g) (hcs : CS n st) (hn : n ≤ 8) (d : decode cc pc = .ok (.invokestatic idx, 3)) (k : Go w f (pc + 3) L (.int (if 0 ≤ x then x else 0 - x) :: st) M) : Go w f pc L (.int x :: st) M :=
  fun H locs ls hP hS hl => va_mabs C.ex C.co hl.1.symm C.ow (C.ts _ lk) (C.ts _ mi_abs.1) (C.ts _ mi_abs.2.1) (C.ts _ mi_abs.2.2) (by have := C.fr; omega) (by have := C.lo; unfold CS at hcs; omega) C.ce C.sl d (k H locs ls hP hS hl)
theorem g_mmin {x y : Int32} (C : Cx w f own cc nL lev) (lk : Jvm.Cond.methodLink own idx Lib.Math.min.name ∈ lw_g) (hcs : CS n st) (hn : n ≤ 8) (d : decode cc pc = .ok (.invokestatic idx, 3)) (k : Go w f (pc + 3) L (.int (if y < x then y else x) :: st) M) : Go w f pc L (.int y :: .int x :: st) M :=
  fun H locs ls hP hS hl => va_mmin C.ex C.co hl.1.symm C.ow (C.ts _ lk) (C.ts _ mi_min.1) (C.ts _ mi_min.2.1) (C.ts _ mi_min.2.2) (by have := C.fr; omega) (by have := C.lo; unfold CS at hcs; omega) C.ce C.sl d (k H locs ls hP hS hl)
theorem g_slen {Ln : Nat} {xs : Nat → Int32} (C : Cx w f own cc nL lev) (hX : Sx w f Ln xs) (d : decode cc pc = .ok (.arraylength, 1)) (k : Go w f (pc + 1) L (.int (nI Ln) :: st) M) : Go w f pc L (rv w 159 :: st) M :=
  fun H locs ls hP hS hl => va_slen C.ex C.co hX.1 hX.2.1 hX.2.2 hS d (k H locs ls hP hS hl)
theorem gf_0_0 {i r : Nat} (C : Cx w f own cc nL lev) (lk : Jvm.Cond.fieldLink own i (TX0 0).1 (TX0 0).2.1 (TX0 0).2.2.1 ∈ lw_g) (hr : kd r = 1) (d : decode cc pc = .ok (.getfield i, 3)) (k : Go w f (pc + 3) L (rv w (fld r 0) :: st) M) : Go w f pc L (rv w r :: st) M := g_getf (Cn := RX0) (T := TX0) (N := 5) 0 0 (by decide) rfl (by decide) inX0 C lk hr rfl d k
theorem gf_0_1 {i r : Nat} (C : Cx w f own cc nL lev) (lk : Jvm.Cond.fieldLink own i (TX0 1).1 (TX0 1).2.1 (TX0 1).2.2.1 ∈ lw_g) (hr : kd r = 1) (d : decode cc pc = .ok (.getfield i, 3)) (k : Go w f (pc + 3) L (.int (gI M r 1) :: st) M) : Go w f pc L (rv w r :: st) M := g_getf (Cn := RX0) (T := TX0) (N := 5) 0 1 (by decide) rfl (by decide) inX0 C lk hr rfl d k
theorem pf_0_1 {i r : Nat} {x : Int32} (C : Cx w f own cc nL lev) (lk : Jvm.Cond.fieldLink own i (TX0 1).1 (TX0 1).2.1 (TX0 1).2.2.1 ∈ lw_g) (hr : kd r = 1) (d : decode cc pc = .ok (.putfield i, 3)) (k : Go w f (pc + 3) L st (sI M r 1 x)) : Go w f pc L (.int x :: rv w r :: st) M := g_putf (Cn := RX0) (T := TX0) (N := 5) 0 1 (by decide) rfl (by decide) inX0 tyX0 tyX0_ok nmX0 rfl (fun M r => by simp [flds]) (fun M r x => by simp [flds, gI, sI]) (ty := .int) (by decide +kernel) rfl rfl C lk hr d k
theorem gf_0_2 {i r : Nat} (C : Cx w f own cc nL lev) (lk : Jvm.Cond.fieldLink own i (TX0 2).1 (TX0 2).2.1 (TX0 2).2.2.1 ∈ lw_g) (hr : kd r = 1) (d : decode cc pc = .ok (.getfield i, 3)) (k : Go w f (pc + 3) L (.int (gI M r 2) :: st) M) : Go w f pc L (rv w r :: st) M := g_getf (Cn := RX0) (T := TX0) (N := 5) 0 2 (by decide) rfl (by decide) inX0 C lk hr rfl d k
theorem pf_0_2 {i r : Nat} {x : Int32} (C : Cx w f own cc nL lev) (lk : Jvm.Cond.fieldLink own i (TX0 2).1 (TX0 2).2.1 (TX0 2).2.2.1 ∈ lw_g) (hr : kd r = 1) (d : decode cc pc = .ok (.putfield i, 3)) (k : Go w f (pc + 3) L st (sI M r 2 x)) : Go w f pc L (.int x :: rv w r :: st) M := g_putf (Cn := RX0) (T := TX0) (N := 5) 0 2 (by decide) rfl (by decide) inX0 tyX0 tyX0_ok nmX0 rfl (fun M r => by simp [flds]) (fun M r x => by simp [flds, gI, sI]) (ty := .int) (by decide +kernel) rfl rfl C lk hr d k
theorem gf_0_3 {i r : Nat} (C : Cx w f own cc nL lev) (lk : Jvm.Cond.fieldLink own i (TX0 3).1 (TX0 3).2.1 (TX0 3).2.2.1 ∈ lw_g) (hr : kd r = 1) (d : decode cc pc = .ok (.getfield i, 3)) (k : Go w f (pc + 3) L (.int (gI M r 3) :: st) M) : Go w f pc L (rv w r :: st) M := g_getf (Cn := RX0) (T := TX0) (N := 5) 0 3 (by decide) rfl (by decide) inX0 C lk hr rfl d k
theorem pf_0_3 {i r : Nat} {x : Int32} (C : Cx w f own cc nL lev) (lk : Jvm.Cond.fieldLink own i (TX0 3).1 (TX0 3).2.1 (TX0 3).2.2.1 ∈ lw_g) (hr : kd r = 1) (d : decode cc pc = .ok (.putfield i, 3)) (k : Go w f (pc + 3) L st (sI M r 3 x)) : Go w f pc L (.int x :: rv w r :: st) M := g_putf (Cn := RX0) (T := TX0) (N := 5) 0 3 (by decide) rfl (by decide) inX0 tyX0 tyX0_ok nmX0 rfl (fun M r => by simp [flds]) (fun M r x => by simp [flds, gI, sI]) (ty := .int) (by decide +kernel) rfl rfl C lk hr d k
theorem gf_0_4 {i r : Nat} (C : Cx w f own cc nL lev) (lk : Jvm.Cond.fieldLink own i (TX0 4).1 (TX0 4).2.1 (TX0 4).2.2.1 ∈ lw_g) (hr : kd r = 1) (d : decode cc pc = .ok (.getfield i, 3)) (k : Go w f (pc + 3) L (.int (gI M r 4) :: st) M) : Go w f pc L (rv w r :: st) M := g_getf (Cn := RX0) (T := TX0) (N := 5) 0 4 (by decide) rfl (by decide) inX0 C lk hr rfl d k
theorem pf_0_4 {i r : Nat} {x : Int32} (C : Cx w f own cc nL lev) (lk : Jvm.Cond.fieldLink own i (TX0 4).1 (TX0 4).2.1 (TX0 4).2.2.1 ∈ lw_g) (hr : kd r = 1) (d : decode cc pc = .ok (.putfield i, 3)) (k : Go w f (pc + 3) L st (sI M r 4 x)) : Go w f pc L (.int x :: rv w r :: st) M := g_putf (Cn := RX0) (T := TX0) (N := 5) 0 4 (by decide) rfl (by decide) inX0 tyX0 tyX0_ok nmX0 rfl (fun M r => by simp [flds]) (fun M r x => by simp [flds, gI, sI]) (ty := .int) (by decide +kernel) rfl rfl C lk hr d k
theorem gf_2_0 {i r : Nat} (C : Cx w f own cc nL lev) (lk : Jvm.Cond.fieldLink own i (TX2 0).1 (TX2 0).2.1 (TX2 0).2.2.1 ∈ lw_g) (hr : kd r = 3) (d : decode cc pc = .ok (.getfield i, 3)) (k : Go w f (pc + 3) L (.int (gI M r 0) :: st) M) : Go w f pc L (rv w r :: st) M := g_getf (Cn := RX2) (T := TX2) (N := 7) 2 0 (by decide) rfl (by decide) inX2 C lk hr rfl d k
theorem pf_2_0 {i r : Nat} {x : Int32} (C : Cx w f own cc nL lev) (lk : Jvm.Cond.fieldLink own i (TX2 0).1 (TX2 0).2.1 (TX2 0).2.2.1 ∈ lw_g) (hr : kd r = 3) (d : decode cc pc = .ok (.putfield i, 3)) (k : Go w f (pc + 3) L st (sI M r 0 x)) : Go w f pc L (.int x :: rv w r :: st) M := g_putf (Cn := RX2) (T := TX2) (N := 7) 2 0 (by decide) rfl (by decide) inX2 tyX2 tyX2_ok nmX2 rfl (fun M r => by simp [flds]) (fun M r x => by simp [flds, gI, sI]) (ty := .int) (by decide +kernel) rfl rfl C lk hr d k
theorem gf_2_1 {i r : Nat} (C : Cx w f own cc nL lev) (lk : Jvm.Cond.fieldLink own i (TX2 1).1 (TX2 1).2.1 (TX2 1).2.2.1 ∈ lw_g) (hr : kd r = 3) (d : decode cc pc = .ok (.getfield i, 3)) (k : Go w f (pc + 3) L (.int (gI M r 1) :: st) M) : Go w f pc L (rv w r :: st) M := g_getf (Cn := RX2) (T := TX2) (N := 7) 2 1 (by decide) rfl (by decide) inX2 C lk hr rfl d k
theorem pf_2_1 {i r : Nat} {x : Int32} (C : Cx w f own cc nL lev) (lk : Jvm.Cond.fieldLink own i (TX2 1).1 (TX2 1).2.1 (TX2 1).2.2.1 ∈ lw_g) (hr : kd r = 3) (d : decode cc pc = .ok (.putfield i, 3)) (k : Go w f (pc + 3) L st (sI M r 1 x)) : Go w f pc L (.int x :: rv w r :: st) M := g_putf (Cn := RX2) (T := TX2) (N := 7) 2 1 (by decide) rfl (by decide) inX2 tyX2 tyX2_ok nmX2 rfl (fun M r => by simp [flds]) (fun M r x => by simp [flds, gI, sI]) (ty := .int) (by decide +kernel) rfl rfl C lk hr d k
theorem gf_2_2 {i r : Nat} (C : Cx w f own cc nL lev) (lk : Jvm.Cond.fieldLink own i (TX2 2).1 (TX2 2).2.1 (TX2 2).2.2.1 ∈ lw_g) (hr : kd r = 3) (d : decode cc pc = .ok (.getfield i, 3)) (k : Go w f (pc + 3) L (.int (gI M r 2) :: st) M) : Go w f pc L (rv w r :: st) M := g_getf (Cn := RX2) (T := TX2) (N := 7) 2 2 (by decide) rfl (by decide) inX2 C lk hr rfl d k
theorem pf_2_2 {i r : Nat} {x : Int32} (C : Cx w f own cc nL lev) (lk : Jvm.Cond.fieldLink own i (TX2 2).1 (TX2 2).2.1 (TX2 2).2.2.1 ∈ lw_g) (hr : kd r = 3) (hb : isb x = true) (d : decode cc pc = .ok (.putfield i, 3)) (k : Go w f (pc + 3) L st (sI M r 2 x)) : Go w f pc L (.int x :: rv w r :: st) M := g_putf (Cn := RX2) (T := TX2) (N := 7) 2 2 (by decide) rfl (by decide) inX2 tyX2 tyX2_ok nmX2 rfl (fun M r => by simp [flds]) (fun M r x => by simp [flds, gI, sI]) (ty := .boolean) (by decide +kernel) (nb_use hb) (fb_use hb) C lk hr d k
theorem gf_2_3 {i r : Nat} (C : Cx w f own cc nL lev) (lk : Jvm.Cond.fieldLink own i (TX2 3).1 (TX2 3).2.1 (TX2 3).2.2.1 ∈ lw_g) (hr : kd r = 3) (d : decode cc pc = .ok (.getfield i, 3)) (k : Go w f (pc + 3) L (.int (gI M r 3) :: st) M) : Go w f pc L (rv w r :: st) M := g_getf (Cn := RX2) (T := TX2) (N := 7) 2 3 (by decide) rfl (by decide) inX2 C lk hr rfl d k
theorem pf_2_3 {i r : Nat} {x : Int32} (C : Cx w f own cc nL lev) (lk : Jvm.Cond.fieldLink own i (TX2 3).1 (TX2 3).2.1 (TX2 3).2.2.1 ∈ lw_g) (hr : kd r = 3) (d : decode cc pc = .ok (.putfield i, 3)) (k : Go w f (pc + 3) L st (sI M r 3 x)) : Go w f pc L (.int x :: rv w r :: st) M := g_putf (Cn := RX2) (T := TX2) (N := 7) 2 3 (by decide) rfl (by decide) inX2 tyX2 tyX2_ok nmX2 rfl (fun M r => by simp [flds]) (fun M r x => by simp [flds, gI, sI]) (ty := .int) (by decide +kernel) rfl rfl C lk hr d k
theorem gf_2_4 {i r : Nat} (C : Cx w f own cc nL lev) (lk : Jvm.Cond.fieldLink own i (TX2 4).1 (TX2 4).2.1 (TX2 4).2.2.1 ∈ lw_g) (hr : kd r = 3) (d : decode cc pc = .ok (.getfield i, 3)) (k : Go w f (pc + 3) L (.int (gI M r 4) :: st) M) : Go w f pc L (rv w r :: st) M := g_getf (Cn := RX2) (T := TX2) (N := 7) 2 4 (by decide) rfl (by decide) inX2 C lk hr rfl d k
theorem pf_2_4 {i r : Nat} {x : Int32} (C : Cx w f own cc nL lev) (lk : Jvm.Cond.fieldLink own i (TX2 4).1 (TX2 4).2.1 (TX2 4).2.2.1 ∈ lw_g) (hr : kd r = 3) (d : decode cc pc = .ok (.putfield i, 3)) (k : Go w f (pc + 3) L st (sI M r 4 x)) : Go w f pc L (.int x :: rv w r :: st) M := g_putf (Cn := RX2) (T := TX2) (N := 7) 2 4 (by decide) rfl (by decide) inX2 tyX2 tyX2_ok nmX2 rfl (fun M r => by simp [flds]) (fun M r x => by simp [flds, gI, sI]) (ty := .int) (by decide +kernel) rfl rfl C lk hr d k
theorem gf_2_5 {i r : Nat} (C : Cx w f own cc nL lev) (lk : Jvm.Cond.fieldLink own i (TX2 5).1 (TX2 5).2.1 (TX2 5).2.2.1 ∈ lw_g) (hr : kd r = 3) (d : decode cc pc = .ok (.getfield i, 3)) (k : Go w f (pc + 3) L (.int (gI M r 5) :: st) M) : Go w f pc L (rv w r :: st) M := g_getf (Cn := RX2) (T := TX2) (N := 7) 2 5 (by decide) rfl (by decide) inX2 C lk hr rfl d k
theorem pf_2_5 {i r : Nat} {x : Int32} (C : Cx w f own cc nL lev) (lk : Jvm.Cond.fieldLink own i (TX2 5).1 (TX2 5).2.1 (TX2 5).2.2.1 ∈ lw_g) (hr : kd r = 3) (hb : isb x = true) (d : decode cc pc = .ok (.putfield i, 3)) (k : Go w f (pc + 3) L st (sI M r 5 x)) : Go w f pc L (.int x :: rv w r :: st) M := g_putf (Cn := RX2) (T := TX2) (N := 7) 2 5 (by decide) rfl (by decide) inX2 tyX2 tyX2_ok nmX2 rfl (fun M r => by simp [flds]) (fun M r x => by simp [flds, gI, sI]) (ty := .boolean) (by decide +kernel) (nb_use hb) (fb_use hb) C lk hr d k
theorem gf_2_6 {i r : Nat} (C : Cx w f own cc nL lev) (lk : Jvm.Cond.fieldLink own i (TX2 6).1 (TX2 6).2.1 (TX2 6).2.2.1 ∈ lw_g) (hr : kd r = 3) (d : decode cc pc = .ok (.getfield i, 3)) (k : Go w f (pc + 3) L (.int (gI M r 6) :: st) M) : Go w f pc L (rv w r :: st) M := g_getf (Cn := RX2) (T := TX2) (N := 7) 2 6 (by decide) rfl (by decide) inX2 C lk hr rfl d k
theorem pf_2_6 {i r : Nat} {x : Int32} (C : Cx w f own cc nL lev) (lk : Jvm.Cond.fieldLink own i (TX2 6).1 (TX2 6).2.1 (TX2 6).2.2.1 ∈ lw_g) (hr : kd r = 3) (hb : isb x = true) (d : decode cc pc = .ok (.putfield i, 3)) (k : Go w f (pc + 3) L st (sI M r 6 x)) : Go w f pc L (.int x :: rv w r :: st) M := g_putf (Cn := RX2) (T := TX2) (N := 7) 2 6 (by decide) rfl (by decide) inX2 tyX2 tyX2_ok nmX2 rfl (fun M r => by simp [flds]) (fun M r x => by simp [flds, gI, sI]) (ty := .boolean) (by decide +kernel) (nb_use hb) (fb_use hb) C lk hr d k
theorem gf_4_0 {i r : Nat} (C : Cx w f own cc nL lev) (lk : Jvm.Cond.fieldLink own i (TX4 0).1 (TX4 0).2.1 (TX4 0).2.2.1 ∈ lw_g) (hr : kd r = 5) (d : decode cc pc = .ok (.getfield i, 3)) (k : Go w f (pc + 3) L (rv w (fld r 0) :: st) M) : Go w f pc L (rv w r :: st) M := g_getf (Cn := RX4) (T := TX4) (N := 9) 4 0 (by decide) rfl (by decide) inX4 C lk hr rfl d k
theorem gf_4_1 {i r : Nat} (C : Cx w f own cc nL lev) (lk : Jvm.Cond.fieldLink own i (TX4 1).1 (TX4 1).2.1 (TX4 1).2.2.1 ∈ lw_g) (hr : kd r = 5) (d : decode cc pc = .ok (.getfield i, 3)) (k : Go w f (pc + 3) L (rv w (fld r 1) :: st) M) : Go w f pc L (rv w r :: st) M := g_getf (Cn := RX4) (T := TX4) (N := 9) 4 1 (by decide) rfl (by decide) inX4 C lk hr rfl d k
theorem gf_4_2 {i r : Nat} (C : Cx w f own cc nL lev) (lk : Jvm.Cond.fieldLink own i (TX4 2).1 (TX4 2).2.1 (TX4 2).2.2.1 ∈ lw_g) (hr : kd r = 5) (d : decode cc pc = .ok (.getfield i, 3)) (k : Go w f (pc + 3) L (rv w (fld r 2) :: st) M) : Go w f pc L (rv w r :: st) M := g_getf (Cn := RX4) (T := TX4) (N := 9) 4 2 (by decide) rfl (by decide) inX4 C lk hr rfl d k
theorem gf_4_3 {i r : Nat} (C : Cx w f own cc nL lev) (lk : Jvm.Cond.fieldLink own i (TX4 3).1 (TX4 3).2.1 (TX4 3).2.2.1 ∈ lw_g) (hr : kd r = 5) (d : decode cc pc = .ok (.getfield i, 3)) (k : Go w f (pc + 3) L (rv w (fld r 3) :: st) M) : Go w f pc L (rv w r :: st) M := g_getf (Cn := RX4) (T := TX4) (N := 9) 4 3 (by decide) rfl (by decide) inX4 C lk hr rfl d k
theorem gf_4_4 {i r : Nat} (C : Cx w f own cc nL lev) (lk : Jvm.Cond.fieldLink own i (TX4 4).1 (TX4 4).2.1 (TX4 4).2.2.1 ∈ lw_g) (hr : kd r = 5) (d : decode cc pc = .ok (.getfield i, 3)) (k : Go w f (pc + 3) L (.int (gI M r 4) :: st) M) : Go w f pc L (rv w r :: st) M := g_getf (Cn := RX4) (T := TX4) (N := 9) 4 4 (by decide) rfl (by decide) inX4 C lk hr rfl d k
theorem pf_4_4 {i r : Nat} {x : Int32} (C : Cx w f own cc nL lev) (lk : Jvm.Cond.fieldLink own i (TX4 4).1 (TX4 4).2.1 (TX4 4).2.2.1 ∈ lw_g) (hr : kd r = 5) (d : decode cc pc = .ok (.putfield i, 3)) (k : Go w f (pc + 3) L st (sI M r 4 x)) : Go w f pc L (.int x :: rv w r :: st) M := g_putf (Cn := RX4) (T := TX4) (N := 9) 4 4 (by decide) rfl (by decide) inX4 tyX4 tyX4_ok nmX4 rfl (fun M r => by simp [flds]) (fun M r x => by simp [flds, gI, sI]) (ty := .int) (by decide +kernel) rfl rfl C lk hr d k
theorem gf_4_5 {i r : Nat} (C : Cx w f own cc nL lev) (lk : Jvm.Cond.fieldLink own i (TX4 5).1 (TX4 5).2.1 (TX4 5).2.2.1 ∈ lw_g) (hr : kd r = 5) (d : decode cc pc = .ok (.getfield i, 3)) (k : Go w f (pc + 3) L (.int (gI M r 5) :: st) M) : Go w f pc L (rv w r :: st) M := g_getf (Cn := RX4) (T := TX4) (N := 9) 4 5 (by decide) rfl (by decide) inX4 C lk hr rfl d k
theorem pf_4_5 {i r : Nat} {x : Int32} (C : Cx w f own cc nL lev) (lk : Jvm.Cond.fieldLink own i (TX4 5).1 (TX4 5).2.1 (TX4 5).2.2.1 ∈ lw_g) (hr : kd r = 5) (d : decode cc pc = .ok (.putfield i, 3)) (k : Go w f (pc + 3) L st (sI M r 5 x)) : Go w f pc L (.int x :: rv w r :: st) M := g_putf (Cn := RX4) (T := TX4) (N := 9) 4 5 (by decide) rfl (by decide) inX4 tyX4 tyX4_ok nmX4 rfl (fun M r => by simp [flds]) (fun M r x => by simp [flds, gI, sI]) (ty := .int) (by decide +kernel) rfl rfl C lk hr d k
theorem gf_4_6 {i r : Nat} (C : Cx w f own cc nL lev) (lk : Jvm.Cond.fieldLink own i (TX4 6).1 (TX4 6).2.1 (TX4 6).2.2.1 ∈ lw_g) (hr : kd r = 5) (d : decode cc pc = .ok (.getfield i, 3)) (k : Go w f (pc + 3) L (.int (gI M r 6) :: st) M) : Go w f pc L (rv w r :: st) M := g_getf (Cn := RX4) (T := TX4) (N := 9) 4 6 (by decide) rfl (by decide) inX4 C lk hr rfl d k
theorem pf_4_6 {i r : Nat} {x : Int32} (C : Cx w f own cc nL lev) (lk : Jvm.Cond.fieldLink own i (TX4 6).1 (TX4 6).2.1 (TX4 6).2.2.1 ∈ lw_g) (hr : kd r = 5) (d : decode cc pc = .ok (.putfield i, 3)) (k : Go w f (pc + 3) L st (sI M r 6 x)) : Go w f pc L (.int x :: rv w r :: st) M := g_putf (Cn := RX4) (T := TX4) (N := 9) 4 6 (by decide) rfl (by decide) inX4 tyX4 tyX4_ok nmX4 rfl (fun M r => by simp [flds]) (fun M r x => by simp [flds, gI, sI]) (ty := .int) (by decide +kernel) rfl rfl C lk hr d k
theorem gf_4_7 {i r : Nat} (C : Cx w f own cc nL lev) (lk : Jvm.Cond.fieldLink own i (TX4 7).1 (TX4 7).2.1 (TX4 7).2.2.1 ∈ lw_g) (hr : kd r = 5) (d : decode cc pc = .ok (.getfield i, 3)) (k : Go w f (pc + 3) L (.int (gI M r 7) :: st) M) : Go w f pc L (rv w r :: st) M := g_getf (Cn := RX4) (T := TX4) (N := 9) 4 7 (by decide) rfl (by decide) inX4 C lk hr rfl d k
theorem pf_4_7 {i r : Nat} {x : Int32} (C : Cx w f own cc nL lev) (lk : Jvm.Cond.fieldLink own i (TX4 7).1 (TX4 7).2.1 (TX4 7).2.2.1 ∈ lw_g) (hr : kd r = 5) (d : decode cc pc = .ok (.putfield i, 3)) (k : Go w f (pc + 3) L st (sI M r 7 x)) : Go w f pc L (.int x :: rv w r :: st) M := g_putf (Cn := RX4) (T := TX4) (N := 9) 4 7 (by decide) rfl (by decide) inX4 tyX4 tyX4_ok nmX4 rfl (fun M r => by simp [flds]) (fun M r x => by simp [flds, gI, sI]) (ty := .int) (by decide +kernel) rfl rfl C lk hr d k
theorem gf_4_8 {i r : Nat} (C : Cx w f own cc nL lev) (lk : Jvm.Cond.fieldLink own i (TX4 8).1 (TX4 8).2.1 (TX4 8).2.2.1 ∈ lw_g) (hr : kd r = 5) (d : decode cc pc = .ok (.getfield i, 3)) (k : Go w f (pc + 3) L (.int (gI M r 8) :: st) M) : Go w f pc L (rv w r :: st) M := g_getf (Cn := RX4) (T := TX4) (N := 9) 4 8 (by decide) rfl (by decide) inX4 C lk hr rfl d k
theorem pf_4_8 {i r : Nat} {x : Int32} (C : Cx w f own cc nL lev) (lk : Jvm.Cond.fieldLink own i (TX4 8).1 (TX4 8).2.1 (TX4 8).2.2.1 ∈ lw_g) (hr : kd r = 5) (d : decode cc pc = .ok (.putfield i, 3)) (k : Go w f (pc + 3) L st (sI M r 8 x)) : Go w f pc L (.int x :: rv w r :: st) M := g_putf (Cn := RX4) (T := TX4) (N := 9) 4 8 (by decide) rfl (by decide) inX4 tyX4 tyX4_ok nmX4 rfl (fun M r => by simp [flds]) (fun M r x => by simp [flds, gI, sI]) (ty := .int) (by decide +kernel) rfl rfl C lk hr d k
theorem gf_1_0 {i r : Nat} (C : Cx w f own cc nL lev) (lk : Jvm.Cond.fieldLink own i (TX1 0).1 (TX1 0).2.1 (TX1 0).2.2.1 ∈ lw_g) (hr : kd r = 2) (d : decode cc pc = .ok (.getfield i, 3)) (k : Go w f (pc + 3) L (rv w (fld r 0) :: st) M) : Go w f pc L (rv w r :: st) M := g_getf (Cn := RX1) (T := TX1) (N := 2) 1 0 (by decide) rfl (by decide) inX1 C lk hr rfl d k
theorem gf_1_1 {i r : Nat} (C : Cx w f own cc nL lev) (lk : Jvm.Cond.fieldLink own i (TX1 1).1 (TX1 1).2.1 (TX1 1).2.2.1 ∈ lw_g) (hr : kd r = 2) (d : decode cc pc = .ok (.getfield i, 3)) (k : Go w f (pc + 3) L (.int (gI M r 1) :: st) M) : Go w f pc L (rv w r :: st) M := g_getf (Cn := RX1) (T := TX1) (N := 2) 1 1 (by decide) rfl (by decide) inX1 C lk hr rfl d k
theorem pf_1_1 {i r : Nat} {x : Int32} (C : Cx w f own cc nL lev) (lk : Jvm.Cond.fieldLink own i (TX1 1).1 (TX1 1).2.1 (TX1 1).2.2.1 ∈ lw_g) (hr : kd r = 2) (d : decode cc pc = .ok (.putfield i, 3)) (k : Go w f (pc + 3) L st (sI M r 1 x)) : Go w f pc L (.int x :: rv w r :: st) M := g_putf (Cn := RX1) (T := TX1) (N := 2) 1 1 (by decide) rfl (by decide) inX1 tyX1 tyX1_ok nmX1 rfl (fun M r => by simp [flds]) (fun M r x => by simp [flds, gI, sI]) (ty := .int) (by decide +kernel) rfl rfl C lk hr d k
theorem gf_3_0 {i r : Nat} (C : Cx w f own cc nL lev) (lk : Jvm.Cond.fieldLink own i (TX3 0).1 (TX3 0).2.1 (TX3 0).2.2.1 ∈ lw_g) (hr : kd r = 4) (d : decode cc pc = .ok (.getfield i, 3)) (k : Go w f (pc + 3) L (rv w (fld r 0) :: st) M) : Go w f pc L (rv w r :: st) M := g_getf (Cn := RX3) (T := TX3) (N := 7) 3 0 (by decide) rfl (by decide) inX3 C lk hr rfl d k
theorem gf_3_1 {i r : Nat} (C : Cx w f own cc nL lev) (lk : Jvm.Cond.fieldLink own i (TX3 1).1 (TX3 1).2.1 (TX3 1).2.2.1 ∈ lw_g) (hr : kd r = 4) (d : decode cc pc = .ok (.getfield i, 3)) (k : Go w f (pc + 3) L (rv w (fld r 1) :: st) M) : Go w f pc L (rv w r :: st) M := g_getf (Cn := RX3) (T := TX3) (N := 7) 3 1 (by decide) rfl (by decide) inX3 C lk hr rfl d k
theorem gf_3_2 {i r : Nat} (C : Cx w f own cc nL lev) (lk : Jvm.Cond.fieldLink own i (TX3 2).1 (TX3 2).2.1 (TX3 2).2.2.1 ∈ lw_g) (hr : kd r = 4) (d : decode cc pc = .ok (.getfield i, 3)) (k : Go w f (pc + 3) L (rv w (fld r 2) :: st) M) : Go w f pc L (rv w r :: st) M := g_getf (Cn := RX3) (T := TX3) (N := 7) 3 2 (by decide) rfl (by decide) inX3 C lk hr rfl d k
theorem gf_3_3 {i r : Nat} (C : Cx w f own cc nL lev) (lk : Jvm.Cond.fieldLink own i (TX3 3).1 (TX3 3).2.1 (TX3 3).2.2.1 ∈ lw_g) (hr : kd r = 4) (d : decode cc pc = .ok (.getfield i, 3)) (k : Go w f (pc + 3) L (rv w (fld r 3) :: st) M) : Go w f pc L (rv w r :: st) M := g_getf (Cn := RX3) (T := TX3) (N := 7) 3 3 (by decide) rfl (by decide) inX3 C lk hr rfl d k
theorem gf_3_4 {i r : Nat} (C : Cx w f own cc nL lev) (lk : Jvm.Cond.fieldLink own i (TX3 4).1 (TX3 4).2.1 (TX3 4).2.2.1 ∈ lw_g) (hr : kd r = 4) (d : decode cc pc = .ok (.getfield i, 3)) (k : Go w f (pc + 3) L (.int (gI M r 4) :: st) M) : Go w f pc L (rv w r :: st) M := g_getf (Cn := RX3) (T := TX3) (N := 7) 3 4 (by decide) rfl (by decide) inX3 C lk hr rfl d k
theorem pf_3_4 {i r : Nat} {x : Int32} (C : Cx w f own cc nL lev) (lk : Jvm.Cond.fieldLink own i (TX3 4).1 (TX3 4).2.1 (TX3 4).2.2.1 ∈ lw_g) (hr : kd r = 4) (d : decode cc pc = .ok (.putfield i, 3)) (k : Go w f (pc + 3) L st (sI M r 4 x)) : Go w f pc L (.int x :: rv w r :: st) M := g_putf (Cn := RX3) (T := TX3) (N := 7) 3 4 (by decide) rfl (by decide) inX3 tyX3 tyX3_ok nmX3 rfl (fun M r => by simp [flds]) (fun M r x => by simp [flds, gI, sI]) (ty := .int) (by decide +kernel) rfl rfl C lk hr d k
theorem gf_3_5 {i r : Nat} (C : Cx w f own cc nL lev) (lk : Jvm.Cond.fieldLink own i (TX3 5).1 (TX3 5).2.1 (TX3 5).2.2.1 ∈ lw_g) (hr : kd r = 4) (d : decode cc pc = .ok (.getfield i, 3)) (k : Go w f (pc + 3) L (.int (gI M r 5) :: st) M) : Go w f pc L (rv w r :: st) M := g_getf (Cn := RX3) (T := TX3) (N := 7) 3 5 (by decide) rfl (by decide) inX3 C lk hr rfl d k
theorem pf_3_5 {i r : Nat} {x : Int32} (C : Cx w f own cc nL lev) (lk : Jvm.Cond.fieldLink own i (TX3 5).1 (TX3 5).2.1 (TX3 5).2.2.1 ∈ lw_g) (hr : kd r = 4) (d : decode cc pc = .ok (.putfield i, 3)) (k : Go w f (pc + 3) L st (sI M r 5 x)) : Go w f pc L (.int x :: rv w r :: st) M := g_putf (Cn := RX3) (T := TX3) (N := 7) 3 5 (by decide) rfl (by decide) inX3 tyX3 tyX3_ok nmX3 rfl (fun M r => by simp [flds]) (fun M r x => by simp [flds, gI, sI]) (ty := .int) (by decide +kernel) rfl rfl C lk hr d k
theorem gf_3_6 {i r : Nat} (C : Cx w f own cc nL lev) (lk : Jvm.Cond.fieldLink own i (TX3 6).1 (TX3 6).2.1 (TX3 6).2.2.1 ∈ lw_g) (hr : kd r = 4) (d : decode cc pc = .ok (.getfield i, 3)) (k : Go w f (pc + 3) L (.int (gI M r 6) :: st) M) : Go w f pc L (rv w r :: st) M := g_getf (Cn := RX3) (T := TX3) (N := 7) 3 6 (by decide) rfl (by decide) inX3 C lk hr rfl d k
theorem pf_3_6 {i r : Nat} {x : Int32} (C : Cx w f own cc nL lev) (lk : Jvm.Cond.fieldLink own i (TX3 6).1 (TX3 6).2.1 (TX3 6).2.2.1 ∈ lw_g) (hr : kd r = 4) (d : decode cc pc = .ok (.putfield i, 3)) (k : Go w f (pc + 3) L st (sI M r 6 x)) : Go w f pc L (.int x :: rv w r :: st) M := g_putf (Cn := RX3) (T := TX3) (N := 7) 3 6 (by decide) rfl (by decide) inX3 tyX3 tyX3_ok nmX3 rfl (fun M r => by simp [flds]) (fun M r x => by simp [flds, gI, sI]) (ty := .int) (by decide +kernel) rfl rfl C lk hr d k
theorem gf_5_0 {i r : Nat} (C : Cx w f own cc nL lev) (lk : Jvm.Cond.fieldLink own i (TX5 0).1 (TX5 0).2.1 (TX5 0).2.2.1 ∈ lw_g) (hr : kd r = 6) (d : decode cc pc = .ok (.getfield i, 3)) (k : Go w f (pc + 3) L (rv w (fld r 0) :: st) M) : Go w f pc L (rv w r :: st) M := g_getf (Cn := RX5) (T := TX5) (N := 12) 5 0 (by decide) rfl (by decide) inX5 C lk hr rfl d k
theorem gf_5_1 {i r : Nat} (C : Cx w f own cc nL lev) (lk : Jvm.Cond.fieldLink own i (TX5 1).1 (TX5 1).2.1 (TX5 1).2.2.1 ∈ lw_g) (hr : kd r = 6) (d : decode cc pc = .ok (.getfield i, 3)) (k : Go w f (pc + 3) L (rv w (fld r 1) :: st) M) : Go w f pc L (rv w r :: st) M := g_getf (Cn := RX5) (T := TX5) (N := 12) 5 1 (by decide) rfl (by decide) inX5 C lk hr rfl d k
theorem gf_5_2 {i r : Nat} (C : Cx w f own cc nL lev) (lk : Jvm.Cond.fieldLink own i (TX5 2).1 (TX5 2).2.1 (TX5 2).2.2.1 ∈ lw_g) (hr : kd r = 6) (d : decode cc pc = .ok (.getfield i, 3)) (k : Go w f (pc + 3) L (rv w (fld r 2) :: st) M) : Go w f pc L (rv w r :: st) M := g_getf (Cn := RX5) (T := TX5) (N := 12) 5 2 (by decide) rfl (by decide) inX5 C lk hr rfl d k
theorem gf_5_3 {i r : Nat} (C : Cx w f own cc nL lev) (lk : Jvm.Cond.fieldLink own i (TX5 3).1 (TX5 3).2.1 (TX5 3).2.2.1 ∈ lw_g) (hr : kd r = 6) (d : decode cc pc = .ok (.getfield i, 3)) (k : Go w f (pc + 3) L (rv w (fld r 3) :: st) M) : Go w f pc L (rv w r :: st) M := g_getf (Cn := RX5) (T := TX5) (N := 12) 5 3 (by decide) rfl (by decide) inX5 C lk hr rfl d k
theorem gf_5_4 {i r : Nat} (C : Cx w f own cc nL lev) (lk : Jvm.Cond.fieldLink own i (TX5 4).1 (TX5 4).2.1 (TX5 4).2.2.1 ∈ lw_g) (hr : kd r = 6) (d : decode cc pc = .ok (.getfield i, 3)) (k : Go w f (pc + 3) L (rv w (fld r 4) :: st) M) : Go w f pc L (rv w r :: st) M := g_getf (Cn := RX5) (T := TX5) (N := 12) 5 4 (by decide) rfl (by decide) inX5 C lk hr rfl d k
theorem gf_5_5 {i r : Nat} (C : Cx w f own cc nL lev) (lk : Jvm.Cond.fieldLink own i (TX5 5).1 (TX5 5).2.1 (TX5 5).2.2.1 ∈ lw_g) (hr : kd r = 6) (d : decode cc pc = .ok (.getfield i, 3)) (k : Go w f (pc + 3) L (rv w (fld r 5) :: st) M) : Go w f pc L (rv w r :: st) M := g_getf (Cn := RX5) (T := TX5) (N := 12) 5 5 (by decide) rfl (by decide) inX5 C lk hr rfl d k
theorem gf_5_6 {i r : Nat} (C : Cx w f own cc nL lev) (lk : Jvm.Cond.fieldLink own i (TX5 6).1 (TX5 6).2.1 (TX5 6).2.2.1 ∈ lw_g) (hr : kd r = 6) (d : decode cc pc = .ok (.getfield i, 3)) (k : Go w f (pc + 3) L (.int (gI M r 6) :: st) M) : Go w f pc L (rv w r :: st) M := g_getf (Cn := RX5) (T := TX5) (N := 12) 5 6 (by decide) rfl (by decide) inX5 C lk hr rfl d k
theorem pf_5_6 {i r : Nat} {x : Int32} (C : Cx w f own cc nL lev) (lk : Jvm.Cond.fieldLink own i (TX5 6).1 (TX5 6).2.1 (TX5 6).2.2.1 ∈ lw_g) (hr : kd r = 6) (hb : isb x = true) (d : decode cc pc = .ok (.putfield i, 3)) (k : Go w f (pc + 3) L st (sI M r 6 x)) : Go w f pc L (.int x :: rv w r :: st) M := g_putf (Cn := RX5) (T := TX5) (N := 12) 5 6 (by decide) rfl (by decide) inX5 tyX5 tyX5_ok nmX5 rfl (fun M r => by simp [flds]) (fun M r x => by simp [flds, gI, sI]) (ty := .boolean) (by decide +kernel) (nb_use hb) (fb_use hb) C lk hr d k
theorem gf_5_7 {i r : Nat} (C : Cx w f own cc nL lev) (lk : Jvm.Cond.fieldLink own i (TX5 7).1 (TX5 7).2.1 (TX5 7).2.2.1 ∈ lw_g) (hr : kd r = 6) (d : decode cc pc = .ok (.getfield i, 3)) (k : Go w f (pc + 3) L (.int (gI M r 7) :: st) M) : Go w f pc L (rv w r :: st) M := g_getf (Cn := RX5) (T := TX5) (N := 12) 5 7 (by decide) rfl (by decide) inX5 C lk hr rfl d k
theorem pf_5_7 {i r : Nat} {x : Int32} (C : Cx w f own cc nL lev) (lk : Jvm.Cond.fieldLink own i (TX5 7).1 (TX5 7).2.1 (TX5 7).2.2.1 ∈ lw_g) (hr : kd r = 6) (d : decode cc pc = .ok (.putfield i, 3)) (k : Go w f (pc + 3) L st (sI M r 7 x)) : Go w f pc L (.int x :: rv w r :: st) M := g_putf (Cn := RX5) (T := TX5) (N := 12) 5 7 (by decide) rfl (by decide) inX5 tyX5 tyX5_ok nmX5 rfl (fun M r => by simp [flds]) (fun M r x => by simp [flds, gI, sI]) (ty := .int) (by decide +kernel) rfl rfl C lk hr d k
theorem gf_5_8 {i r : Nat} (C : Cx w f own cc nL lev) (lk : Jvm.Cond.fieldLink own i (TX5 8).1 (TX5 8).2.1 (TX5 8).2.2.1 ∈ lw_g) (hr : kd r = 6) (d : decode cc pc = .ok (.getfield i, 3)) (k : Go w f (pc + 3) L (.int (gI M r 8) :: st) M) : Go w f pc L (rv w r :: st) M := g_getf (Cn := RX5) (T := TX5) (N := 12) 5 8 (by decide) rfl (by decide) inX5 C lk hr rfl d k
theorem pf_5_8 {i r : Nat} {x : Int32} (C : Cx w f own cc nL lev) (lk : Jvm.Cond.fieldLink own i (TX5 8).1 (TX5 8).2.1 (TX5 8).2.2.1 ∈ lw_g) (hr : kd r = 6) (hb : isb x = true) (d : decode cc pc = .ok (.putfield i, 3)) (k : Go w f (pc + 3) L st (sI M r 8 x)) : Go w f pc L (.int x :: rv w r :: st) M := g_putf (Cn := RX5) (T := TX5) (N := 12) 5 8 (by decide) rfl (by decide) inX5 tyX5 tyX5_ok nmX5 rfl (fun M r => by simp [flds]) (fun M r x => by simp [flds, gI, sI]) (ty := .boolean) (by decide +kernel) (nb_use hb) (fb_use hb) C lk hr d k
theorem gf_5_9 {i r : Nat} (C : Cx w f own cc nL lev) (lk : Jvm.Cond.fieldLink own i (TX5 9).1 (TX5 9).2.1 (TX5 9).2.2.1 ∈ lw_g) (hr : kd r = 6) (d : decode cc pc = .ok (.getfield i, 3)) (k : Go w f (pc + 3) L (.int (gI M r 9) :: st) M) : Go w f pc L (rv w r :: st) M := g_getf (Cn := RX5) (T := TX5) (N := 12) 5 9 (by decide) rfl (by decide) inX5 C lk hr rfl d k
theorem pf_5_9 {i r : Nat} {x : Int32} (C : Cx w f own cc nL lev) (lk : Jvm.Cond.fieldLink own i (TX5 9).1 (TX5 9).2.1 (TX5 9).2.2.1 ∈ lw_g) (hr : kd r = 6) (d : decode cc pc = .ok (.putfield i, 3)) (k : Go w f (pc + 3) L st (sI M r 9 x)) : Go w f pc L (.int x :: rv w r :: st) M := g_putf (Cn := RX5) (T := TX5) (N := 12) 5 9 (by decide) rfl (by decide) inX5 tyX5 tyX5_ok nmX5 rfl (fun M r => by simp [flds]) (fun M r x => by simp [flds, gI, sI]) (ty := .int) (by decide +kernel) rfl rfl C lk hr d k
theorem gf_5_10 {i r : Nat} (C : Cx w f own cc nL lev) (lk : Jvm.Cond.fieldLink own i (TX5 10).1 (TX5 10).2.1 (TX5 10).2.2.1 ∈ lw_g) (hr : kd r = 6) (d : decode cc pc = .ok (.getfield i, 3)) (k : Go w f (pc + 3) L (.int (gI M r 10) :: st) M) : Go w f pc L (rv w r :: st) M := g_getf (Cn := RX5) (T := TX5) (N := 12) 5 10 (by decide) rfl (by decide) inX5 C lk hr rfl d k
theorem pf_5_10 {i r : Nat} {x : Int32} (C : Cx w f own cc nL lev) (lk : Jvm.Cond.fieldLink own i (TX5 10).1 (TX5 10).2.1 (TX5 10).2.2.1 ∈ lw_g) (hr : kd r = 6) (d : decode cc pc = .ok (.putfield i, 3)) (k : Go w f (pc + 3) L st (sI M r 10 x)) : Go w f pc L (.int x :: rv w r :: st) M := g_putf (Cn := RX5) (T := TX5) (N := 12) 5 10 (by decide) rfl (by decide) inX5 tyX5 tyX5_ok nmX5 rfl (fun M r => by simp [flds]) (fun M r x => by simp [flds, gI, sI]) (ty := .int) (by decide +kernel) rfl rfl C lk hr d k
theorem gf_5_11 {i r : Nat} (C : Cx w f own cc nL lev) (lk : Jvm.Cond.fieldLink own i (TX5 11).1 (TX5 11).2.1 (TX5 11).2.2.1 ∈ lw_g) (hr : kd r = 6) (d : decode cc pc = .ok (.getfield i, 3)) (k : Go w f (pc + 3) L (.int (gI M r 11) :: st) M) : Go w f pc L (rv w r :: st) M := g_getf (Cn := RX5) (T := TX5) (N := 12) 5 11 (by decide) rfl (by decide) inX5 C lk hr rfl d k
theorem pf_5_11 {i r : Nat} {x : Int32} (C : Cx w f own cc nL lev) (lk : Jvm.Cond.fieldLink own i (TX5 11).1 (TX5 11).2.1 (TX5 11).2.2.1 ∈ lw_g) (hr : kd r = 6) (d : decode cc pc = .ok (.putfield i, 3)) (k : Go w f (pc + 3) L st (sI M r 11 x)) : Go w f pc L (.int x :: rv w r :: st) M := g_putf (Cn := RX5) (T := TX5) (N := 12) 5 11 (by decide) rfl (by decide) inX5 tyX5 tyX5_ok nmX5 rfl (fun M r => by simp [flds]) (fun M r x => by simp [flds, gI, sI]) (ty := .int) (by decide +kernel) rfl rfl C lk hr d k
end CALLS
