/-! THE CONSTRUCTORS: worlds that grow; ws: what was there, E: what this constructor holds -/
def Ao (U : State) : Prop := va_AO "CommaCourt$Edition" U ∧ va_AO "CommaCourt$Ruling" U ∧ va_AO "CommaCourt$State" U
theorem Ao.moved {u U : State} (h : u.vm.Alike U.vm) (a : Ao u) : Ao U := ⟨a.1.moved h, a.2.1.moved h, a.2.2.moved h⟩
def Gn (w : Om) (f : Fr) (k n pc : Nat) (L : List (Option Value)) (st : List Value) (ws : va_W) : Prop :=
  ∀ (H : Heap) (locs : List Loc) (ls : Array Slot), va_P w.1 vwCl ws H → va_D w.2.2.2 ws → va_S w.2.2.2 (f_s f).heap H locs → lh ls (f_c f).maxLocals L → W (f_p f) (f_l f) (f_e f) (f_R f) (f_s f) (f_m f) (f_a f) (f_b f) (f_me f) (f_c f) H locs k n (f_Q f) (F0 (f_m f) pc ls st)
def Cn (w : Om) (f : Fr) (own : String) (cc : ByteArray) (nL lev mc ms : Nat) : Prop :=
  (f_p f).tables.exec = Jvm.exec ∧ (f_c f).code = cc ∧ (f_c f).maxLocals = nL ∧ (f_s f).vm.findClass own = some (f_m f).cls ∧ (∀ x ∈ lw_g, x.before (f_a f) (f_s f) = true) ∧ va_K w.1 vwCl (tys w) (f_s f) ∧ Ns (f_s f) ∧ lev + 1 ≤ (f_R f).frames ∧ 60 * (lev + 1) ≤ (f_R f).locals ∧ mc ≤ (f_R f).cells ∧ ms ≤ (f_R f).slots ∧ Ao (f_s f) ∧ ∀ q, (f_s f).heap.size ≤ q → w.2.2.2 q
section NR
variable {w : Om} {f : Fr} {own : String} {cc : ByteArray} {nL lev mc ms k n pc : Nat} {L L2 : List (Option Value)} {st : List Value} {ws E E2 : va_W}
theorem Cn.ex (C : Cn w f own cc nL lev mc ms) : (f_p f).tables.exec = Jvm.exec := C.1
theorem Cn.co (C : Cn w f own cc nL lev mc ms) : (f_c f).code = cc := C.2.1
theorem Cn.ml (C : Cn w f own cc nL lev mc ms) : (f_c f).maxLocals = nL := C.2.2.1
theorem Cn.ow (C : Cn w f own cc nL lev mc ms) : (f_s f).vm.findClass own = some (f_m f).cls := C.2.2.2.1
theorem Cn.ts (C : Cn w f own cc nL lev mc ms) : ∀ x ∈ lw_g, x.before (f_a f) (f_s f) = true := C.2.2.2.2.1
theorem Cn.K (C : Cn w f own cc nL lev mc ms) : va_K w.1 vwCl (tys w) (f_s f) := C.2.2.2.2.2.1
theorem Cn.ns (C : Cn w f own cc nL lev mc ms) : Ns (f_s f) := C.2.2.2.2.2.2.1
theorem Cn.fr (C : Cn w f own cc nL lev mc ms) : lev + 1 ≤ (f_R f).frames := C.2.2.2.2.2.2.2.1
theorem Cn.lo (C : Cn w f own cc nL lev mc ms) : 60 * (lev + 1) ≤ (f_R f).locals := C.2.2.2.2.2.2.2.2.1
theorem Cn.ce (C : Cn w f own cc nL lev mc ms) : mc ≤ (f_R f).cells := C.2.2.2.2.2.2.2.2.2.1
theorem Cn.sl (C : Cn w f own cc nL lev mc ms) : ms ≤ (f_R f).slots := C.2.2.2.2.2.2.2.2.2.2.1
theorem Cn.ao (C : Cn w f own cc nL lev mc ms) : Ao (f_s f) := C.2.2.2.2.2.2.2.2.2.2.2.1
theorem Cn.hA (C : Cn w f own cc nL lev mc ms) : ∀ q, (f_s f).heap.size ≤ q → w.2.2.2 q := C.2.2.2.2.2.2.2.2.2.2.2.2
theorem n_iconst {i : Int} {v : Int32} (C : Cn w f own cc nL lev mc ms) (d : decode cc pc = .ok (.iconst i, 1)) (hv : Int32.ofInt i = v) (kk : Gn w f k n (pc + 1) L (.int v :: st) ws) : Gn w f k n pc L st ws :=
  fun H locs ls hP hD hS hl => lv_iconst C.ex C.co d hv (kk H locs ls hP hD hS hl)
theorem n_bipush {i : Int} {v : Int32} (C : Cn w f own cc nL lev mc ms) (d : decode cc pc = .ok (.bipush i, 2)) (hv : (Int8.ofInt i).toInt32 = v) (kk : Gn w f k n (pc + 2) L (.int v :: st) ws) : Gn w f k n pc L st ws :=
  fun H locs ls hP hD hS hl => lv_bipush C.ex C.co d hv (kk H locs ls hP hD hS hl)
theorem n_sipush {i : Int} {v : Int32} (C : Cn w f own cc nL lev mc ms) (d : decode cc pc = .ok (.sipush i, 3)) (hv : (Int16.ofInt i).toInt32 = v) (kk : Gn w f k n (pc + 3) L (.int v :: st) ws) : Gn w f k n pc L st ws :=
  fun H locs ls hP hD hS hl => lv_sipush C.ex C.co d hv (kk H locs ls hP hD hS hl)
theorem n_iload_n {j : Fin 4} {i : Nat} {x : Int32} (C : Cn w f own cc nL lev mc ms) (d : decode cc pc = .ok (.iload_n j, 1)) (hi : (j : Nat) = i) (h : L[i]? = some (some (.int x))) (kk : Gn w f k n (pc + 1) L (.int x :: st) ws) : Gn w f k n pc L st ws :=
  fun H locs ls hP hD hS hl => lv_iload_n C.ex C.co d hi (hl.2.2 _ _ h) (kk H locs ls hP hD hS hl)
theorem n_aload_n {j : Fin 4} {i a : Nat} (C : Cn w f own cc nL lev mc ms) (d : decode cc pc = .ok (.aload_n j, 1)) (hi : (j : Nat) = i) (h : L[i]? = some (some (.ref a))) (kk : Gn w f k n (pc + 1) L (.ref a :: st) ws) : Gn w f k n pc L st ws :=
  fun H locs ls hP hD hS hl => lv_aload_n C.ex C.co d hi (hl.2.2 _ _ h) (kk H locs ls hP hD hS hl)
theorem n_istore_n {j : Fin 4} {i : Nat} {x : Int32} (C : Cn w f own cc nL lev mc ms) (d : decode cc pc = .ok (.istore_n j, 1)) (hi : (j : Nat) = i) (hn : i < nL) (hc : NC L i) (hL : L.set i (some (.int x)) = L2) (kk : Gn w f k n (pc + 1) L2 st ws) : Gn w f k n pc L (.int x :: st) ws := by
  subst hL
  exact fun H locs ls hP hD hS hl => lv_istore_n C.ex C.co d hi (lh_has hl) (by rw [C.ml]; exact hn) rfl (fun ls2 h2 => kk H locs ls2 hP hD hS (lh_set hc h2))
theorem n_astore_n {j : Fin 4} {i a : Nat} (C : Cn w f own cc nL lev mc ms) (d : decode cc pc = .ok (.astore_n j, 1)) (hi : (j : Nat) = i) (hn : i < nL) (hc : NC L i) (hL : L.set i (some (.ref a)) = L2) (kk : Gn w f k n (pc + 1) L2 st ws) : Gn w f k n pc L (.ref a :: st) ws := by
  subst hL
  exact fun H locs ls hP hD hS hl => lv_astore_n C.ex C.co d hi (lh_has hl) (by rw [C.ml]; exact hn) rfl (fun ls2 h2 => kk H locs ls2 hP hD hS (lh_set hc h2))
theorem n_iinc {i : Nat} {m : Int} {x v : Int32} (C : Cn w f own cc nL lev mc ms) (d : decode cc pc = .ok (.iinc i m, 3)) (h : L[i]? = some (some (.int x))) (hv : x + Int32.ofInt m = v) (hn : i < nL) (hc : NC L i) (hL : L.set i (some (.int v)) = L2) (kk : Gn w f k n (pc + 3) L2 st ws) : Gn w f k n pc L st ws := by
  subst hL
  intro H locs ls hP hD hS hl
  obtain ⟨q, hq⟩ := List.getElem?_of_mem (lvs_mem (q := (i, Value.int x)).mpr h)
  exact lv_iinc C.ex C.co d (lh_has hl) hq hv (by rw [C.ml]; exact hn) rfl (fun ls2 h2 => kk H locs ls2 hP hD hS (lh_set hc h2))
theorem n_dup {a : Nat} (C : Cn w f own cc nL lev mc ms) (d : decode cc pc = .ok (.dup, 1)) (kk : Gn w f k n (pc + 1) L (.ref a :: .ref a :: st) ws) : Gn w f k n pc L (.ref a :: st) ws :=
  fun H locs ls hP hD hS hl => lv_dup C.ex C.co d rfl (kk H locs ls hP hD hS hl)
theorem n_goto {off : Int} (tgt : Nat) (C : Cn w f own cc nL lev mc ms) (d : decode cc pc = .ok (.goto off, 3)) (ht : (pc : Int) + off = (tgt : Int)) (kk : Gn w f k n tgt L st ws) : Gn w f k n pc L st ws :=
  fun H locs ls hP hD hS hl => lv_goto C.ex C.co d ht (kk H locs ls hP hD hS hl)
theorem n_iadd {x y : Int32} {v : Int32} (C : Cn w f own cc nL lev mc ms) (d : decode cc pc = .ok (.iadd, 1)) (hv : x + y = v) (kk : Gn w f k n (pc + 1) L (.int v :: st) ws) : Gn w f k n pc L (.int y :: .int x :: st) ws := by
  subst hv
  exact fun H locs ls hP hD hS hl => lv_iadd C.ex C.co d (kk H locs ls hP hD hS hl)
theorem n_geT {x y : Int32} {off : Int} (tgt : Nat) (C : Cn w f own cc nL lev mc ms) (d : decode cc pc = .ok (.if_icmp .ge off, 3)) (ht : (pc : Int) + off = (tgt : Int)) (hc : y ≤ x) (kk : Gn w f k n tgt L st ws) : Gn w f k n pc L (.int y :: .int x :: st) ws :=
  fun H locs ls hP hD hS hl => lv_icmp_ge C.ex C.co d ht (fun _ => kk H locs ls hP hD hS hl) (fun h => absurd hc h)
theorem n_geF {x y : Int32} {off : Int} (tgt : Nat) (C : Cn w f own cc nL lev mc ms) (d : decode cc pc = .ok (.if_icmp .ge off, 3)) (ht : (pc : Int) + off = (tgt : Int)) (hc : ¬ y ≤ x) (kk : Gn w f k n (pc + 3) L st ws) : Gn w f k n pc L (.int y :: .int x :: st) ws :=
  fun H locs ls hP hD hS hl => lv_icmp_ge C.ex C.co d ht (fun h => absurd h hc) (fun _ => kk H locs ls hP hD hS hl)
theorem app_at {i : Nat} {x : Nat × va_E} (h : E[i]? = some x) : (ws ++ E)[ws.length + i]? = some x := by rw [List.getElem?_append_right (by omega), Nat.add_sub_cancel_left]; exact h
theorem app_set (i : Nat) (x : Nat × va_E) : (ws ++ E).set (ws.length + i) x = ws ++ E.set i x := by rw [List.set_append_right _ _ (by omega), Nat.add_sub_cancel_left]
theorem n_obj {i a : Nat} (C : Cn w f own cc nL lev mc ms) (h1 : Jvm.Cond.methodLink own i Lib.objectInit ∈ lw_g) (d : decode cc pc = .ok (.invokespecial i, 3)) (kk : Gn w f k n (pc + 3) L [] ws) : Gn w f k n pc L [.ref a] ws :=
  fun H locs ls hP hD hS hl => W.objInit C.ex C.co C.ow (C.ts _ h1) (C.ts _ mo_inst) (C.ts _ mo_code) rfl hl.1 rfl d (by have := C.fr; omega) (by have := C.lo; show 2 * 0 + 0 + 12 ≤ _; omega) (kk H locs ls hP hD hS hl)
theorem n_newa {m : Int32} (N : Nat) (C : Cn w f own cc nL lev mc ms) (d : decode cc pc = .ok (.newarray .int, 2)) (hm : ¬ m < 0) (hN : m.toNatClampNeg = N) (hb : N * 4 ≤ 536870912) (hk : k + 1 ≤ mc) (hn : n + N ≤ ms) (kk : ∀ q, Gn w f (k + 1) (n + N) (pc + 2) L (.ref q :: st) (ws ++ (E ++ [(q, .inl (w.2.1 0, N, .inl (fun _ => 0)))]))) : Gn w f k n pc L (.int m :: st) (ws ++ E) := by
  intro H locs ls hP hD hS hl
  refine va_newa (ty := .int) (a0 := (N, .inl (fun _ => 0))) C.ex C.co (atype := .int) (C.ts _ mo_arr) rfl C.K hP hD hS C.hA (fun cA => rfl) hm hN hb (Nat.le_trans hk C.ce) (Nat.le_trans hn C.sl) d (fun q cA H1 hK hP1 hD1 hS1 => ?_)
  have h1 := (hK.2 4 (cA, .int) rfl).2
  have h2 := (C.K.2 0 (w.2.1 0, .int) rfl).2
  have e : cA = w.2.1 0 := Option.some.inj (h1.symm.trans h2)
  subst e
  rw [List.append_assoc] at hP1 hD1
  exact kk q H1 locs ls hP1 hD1 hS1 hl
theorem n_newq {m : Int32} {Cn_ : String} (t N : Nat) {i : Nat} (ht : (tys w)[t]? = some (w.2.1 t, .object Cn_)) (C : Cn w f own cc nL lev mc ms) (hao : va_AO Cn_ (f_s f)) (hlk : Jvm.Cond.classLink own i Cn_ ∈ lw_g) (d : decode cc pc = .ok (.anewarray i, 3)) (hm : ¬ m < 0) (hN : m.toNatClampNeg = N) (hb : N * 4 ≤ 536870912) (hk : k + 1 ≤ mc) (hn : n + N ≤ ms) (kk : ∀ q, Gn w f (k + 1) (n + N) (pc + 3) L (.ref q :: st) (ws ++ (E ++ [(q, .inl (w.2.1 t, N, .inr (.inr (.inr (.inr (fun _ => none))))))]))) : Gn w f k n pc L (.int m :: st) (ws ++ E) := by
  intro H locs ls hP hD hS hl
  refine va_newq C.ex C.co C.ow (C.ts _ hlk) hao C.K hP hD hS C.hA hm hN hb (Nat.le_trans hk C.ce) (Nat.le_trans hn C.sl) d (fun q cA H1 hK hP1 hD1 hS1 => ?_)
  obtain ⟨k1, c1, -, -, -, h1⟩ := (hK.2 4 (cA, .object Cn_) rfl).2
  obtain ⟨k2, c2, -, -, -, h2⟩ := (C.K.2 t _ ht).2
  have e : cA = w.2.1 t := Option.some.inj (h1.symm.trans h2)
  subst e
  rw [List.append_assoc] at hP1 hD1
  exact kk q H1 locs ls hP1 hD1 hS1 hl
theorem n_new {Cn_ : String} {T : u_T} {N : Nat} (ci : Nat) {i : Nat} (fs : List Value) (hc : vwCl[ci]? = some (Cn_, T, N)) (hin : ∀ x ∈ u_ws Cn_ T N, x ∈ lw_g) (ty : Nat → FieldType) (hty : ∀ k, k < N → parseFieldDescriptor (T k).2.2.1 = some (ty k)) (C : Cn w f own cc nL lev mc ms) (h1 : Jvm.Cond.classLink own i Cn_ ∈ lw_g) (h2 : Jvm.Cond.instantiable Cn_ N ∈ lw_g) (h3 : Jvm.Cond.initialized Cn_ ∈ lw_g) (hfs : ∀ j, j < N → defaultValue (ty j) = vp_V fs j) (hk : k + 1 ≤ mc) (hn : n + N ≤ ms) (d : decode cc pc = .ok (.new i, 3)) (kk : ∀ q, Gn w f (k + 1) (n + N) (pc + 3) L (.ref q :: st) (ws ++ (E ++ [(q, .inr (ci, fs))]))) : Gn w f k n pc L st (ws ++ E) := by
  intro H locs ls hP hD hS hl
  refine va_new C.ex C.co C.ts hin ty hty C.ow (C.ts _ h1) (C.ts _ h2) (C.ts _ h3) C.K hP hD hS C.hA hc hfs (Nat.le_trans hk C.ce) (Nat.le_trans hn C.sl) d (fun q H1 hP1 hD1 hS1 => ?_)
  rw [List.append_assoc] at hP1 hD1
  exact kk q H1 locs ls hP1 hD1 hS1 hl
theorem n_get {Cn_ : String} {T : u_T} {N : Nat} (ci j q0 : Nat) (hc : vwCl[ci]? = some (Cn_, T, N)) (hin : ∀ x ∈ u_ws Cn_ T N, x ∈ lw_g) (hj : j < N) {i a : Nat} {v : Value} {fs : List Value} (C : Cn w f own cc nL lev mc ms) (hlk : Jvm.Cond.fieldLink own i (T j).1 (T j).2.1 (T j).2.2.1 ∈ lw_g) (he : E[q0]? = some (a, .inr (ci, fs))) (hv : fs[j]? = some v) (d : decode cc pc = .ok (.getfield i, 3)) (kk : Gn w f k n (pc + 3) L (v :: st) (ws ++ E)) : Gn w f k n pc L (.ref a :: st) (ws ++ E) :=
  fun H locs ls hP hD hS hl => va_get C.ex C.co C.ts hin C.ow C.K hP (ws.length + q0) (app_at he) hc j hj (C.ts _ hlk) (fun _ h => h) hv d (kk H locs ls hP hD hS hl)
theorem n_put {Cn_ : String} {T : u_T} {N : Nat} (ci j q0 : Nat) (hc : vwCl[ci]? = some (Cn_, T, N)) (hin : ∀ x ∈ u_ws Cn_ T N, x ∈ lw_g) (ty : Nat → FieldType) (hty : ∀ k, k < N → parseFieldDescriptor (T k).2.2.1 = some (ty k)) (hnm : ∀ a, a < N → ∀ b, b < N → a ≠ b → (T a).2.1 ≠ (T b).2.1) (hj : j < N) (hfin : (T j).2.2.2 = true) {i a b : Nat} {fs : List Value} {t1 : FieldType} (C : Cn w f own cc nL lev mc ms) (hname : (f_me f).name = "<init>") (hdecl : (T j).1 = own) (hd1 : parseFieldDescriptor (T j).2.2.1 = some t1) (hn1 : narrow t1 (.ref b) = .ref b) (hf1 : fits t1 (.ref b) = true) (hlk : Jvm.Cond.fieldLink own i (T j).1 (T j).2.1 (T j).2.2.1 ∈ lw_g) (he : E[q0]? = some (a, .inr (ci, fs))) (hlen : j < fs.length) (hE : E.set q0 (a, .inr (ci, fs.set j (.ref b))) = E2) (d : decode cc pc = .ok (.putfield i, 3)) (kk : Gn w f k n (pc + 3) L st (ws ++ E2)) : Gn w f k n pc L (.ref b :: .ref a :: st) (ws ++ E) := by
  subst hE
  intro H locs ls hP hD hS hl
  refine va_putF C.ex C.co C.ts hin ty hty hnm C.ow C.K hP hD hS (ws.length + q0) (app_at he) hc j hj (C.ts _ hlk) (fun _ h => h) hfin hname hdecl hd1 hn1 hf1 hlen d (fun H1 locs1 hP1 hD1 hS1 => ?_)
  rw [app_set] at hP1 hD1
  exact kk H1 locs1 ls hP1 hD1 hS1 hl
theorem n_alen {t q0 : Nat} {a N : Nat} {v : Int32} {z : (Nat → Int32) ⊕ (Nat → Int64) ⊕ (Nat → UInt32) ⊕ (Nat → UInt64) ⊕ (Nat → Option Nat)} {ty : FieldType} (C : Cn w f own cc nL lev mc ms) (ht : (tys w)[t]? = some (w.2.1 t, ty)) (he : E[q0]? = some (a, .inl (w.2.1 t, N, z))) (hv : Int32.ofNat N = v) (d : decode cc pc = .ok (.arraylength, 1)) (kk : Gn w f k n (pc + 1) L (.int v :: st) (ws ++ E)) : Gn w f k n pc L (.ref a :: st) (ws ++ E) :=
  fun H locs ls hP hD hS hl => va_alen (x := (N, z)) C.ex C.co C.K hP (ws.length + q0) t (app_at he) ht hv d (kk H locs ls hP hD hS hl)
theorem n_ast {q0 a N : Nat} {g : Nat → Int32} {i x : Int32} (C : Cn w f own cc nL lev mc ms) (he : E[q0]? = some (a, .inl (w.2.1 0, N, .inl g))) (hi : inb i N = true) (hE : E.set q0 (a, .inl (w.2.1 0, N, .inl (upd g i.toNatClampNeg x))) = E2) (d : decode cc pc = .ok (.iastore, 1)) (kk : Gn w f k n (pc + 1) L st (ws ++ E2)) : Gn w f k n pc L (.int x :: .int i :: .ref a :: st) (ws ++ E) := by
  subst hE
  intro H locs ls hP hD hS hl
  refine va_iast C.ex C.co C.K hP hD hS (ws.length + q0) 0 (app_at he) rfl (inb_in hi) d (fun H1 locs1 hP1 hD1 hS1 => ?_)
  rw [app_set] at hP1 hD1
  exact kk H1 locs1 ls hP1 hD1 hS1 hl
theorem n_asq {Cn_ : String} {T : u_T} {Nf : Nat} (t ci q0 qk : Nat) {a b N : Nat} {g : Nat → Option Nat} {fs : List Value} {i : Int32} (C : Cn w f own cc nL lev mc ms) (ht : (tys w)[t]? = some (w.2.1 t, .object Cn_)) (hc : vwCl[ci]? = some (Cn_, T, Nf)) (he : E[q0]? = some (a, .inl (w.2.1 t, N, .inr (.inr (.inr (.inr g)))))) (hk : E[qk]? = some (b, .inr (ci, fs))) (hi : inb i N = true) (hE : E.set q0 (a, .inl (w.2.1 t, N, .inr (.inr (.inr (.inr (va_up g i.toNatClampNeg (some b))))))) = E2) (d : decode cc pc = .ok (.aastore, 1)) (kk : Gn w f k n (pc + 1) L st (ws ++ E2)) : Gn w f k n pc L (.ref b :: .int i :: .ref a :: st) (ws ++ E) := by
  subst hE
  intro H locs ls hP hD hS hl
  refine va_astq C.ex C.co C.K hP hD hS (ws.length + q0) t (ws.length + qk) ci (r := (Cn_, T, Nf)) (app_at he) ht (app_at hk) hc (inb_in hi) d (fun H1 locs1 hP1 hD1 hS1 => ?_)
  rw [app_set] at hP1 hD1
  exact kk H1 locs1 ls hP1 hD1 hS1 hl
end NR
/-! their contracts: 'post' says what the world is behind it -/
abbrev rn (lev mc ms : Nat) : Room := { frames := lev + 1, cells := mc, slots := ms, locals := 60 * (lev + 1) }
def PcN (w : Om) (vs : List Value) (ws : va_W) : Array Value → State → Prop := va_Pc vs (fun U => va_P w.1 vwCl ws U.heap ∧ va_D w.2.2.2 ws ∧ va_K w.1 vwCl (tys w) U ∧ Ns U ∧ Ao U ∧ ∀ q, U.heap.size ≤ q → w.2.2.2 q)
def QcN (w : Om) (post : va_W → Prop) : Array Value → State → Outcome → State → Prop := fun _ st o t => (o = .returned none ∧ ∃ ws2, post ws2 ∧ va_P w.1 vwCl ws2 t.heap ∧ va_D w.2.2.2 ws2) ∧ va_F w.2.2.2 st t
def CtN (l : Launch) (w : Om) (y : MethodName) (cc : ByteArray) (nL lev mc ms : Nat) (vs : List Value) (ws : va_W) (post : va_W → Prop) : Prop := Met l y (.code y cc nL none :: lw_g) (rn lev mc ms) (PcN w vs ws) (QcN w post) mc ms w.2.2.2
theorem PcN_blind {w : Om} {vs : List Value} {ws : va_W} : FrameBlind (PcN w vs ws) := fun a U g mk q => ⟨q.1, q.2.1, q.2.2.1, va_K.moved (u := U) (U := U.calling g mk a) (Vm.Alike.refl U.vm) q.2.2.2.1, Ns.same (u := U) (U := U.calling g mk a) rfl q.2.2.2.2.1, Ao.moved (u := U) (U := U.calling g mk a) (Vm.Alike.refl U.vm) q.2.2.2.2.2.1, q.2.2.2.2.2.2⟩
def RtN (w : Om) (f : Fr) (cc : ByteArray) (mc ms : Nat) (post : va_W → Prop) : Prop := ∀ (pc : Nat) (L : List (Option Value)) (ws : va_W), post ws → decode cc pc = .ok (.return_, 1) → Gn w f mc ms pc L [] ws
theorem ctn_of {l : Launch} {w : Om} {y : MethodName} {cc : ByteArray} {nL lev mc ms : Nat} {vs : List Value} {ws : va_W} {post : va_W → Prop} (hy : plainName y.cls = true) (hcat : ∀ v ∈ vs, v.category = 1) (hlen : vs.length ≤ nL)
    (body : ∀ f : Fr, f_l f = l → (f_me f).name = y.name → Cn w f y.cls cc nL lev mc ms → RtN w f cc mc ms post → Gn w f 0 0 0 (vs.map some ++ List.replicate (nL - vs.length) none) [] ws) : CtN l w y cc nL lev mc ms vs ws post := by
  refine Met.ofW (cc := cc) (maxL := nL) (ret := none) hy rfl ?_
  intro p e s m args below meth c s₁ B hml hv
  obtain ⟨rfl, hP, hD, hK, hN, hO, hA⟩ := hv
  have hts := atoms_spec (ws := Cond.code y cc nL none :: lw_g) B.pre
  have hown : s.vm.findClass y.cls = some m.cls := findClass_of_methodNamed B.named
  have hlocks := B.notSynchronized
  have hnm : meth.name = y.name := (name_of_methodNamed B.named B.method).1
  rw [lg_entry_eq]
  have hl := lv_entry vs (n := nL) (by rw [sl_cat1 vs hcat, List.length_map]; exact hlen)
  generalize (lg_sl vs ++ List.replicate (nL - (lg_sl vs).length) Slot.unset).toArray = ls at hl ⊢
  have hC : Cn w (p, l, e, rn lev mc ms, s, m, vs.toArray, below, meth, c, 0, 0, MQ below (QcN w post) vs.toArray s mc ms w.2.2.2) y.cls cc nL lev mc ms :=
    ⟨B.exec, B.bytes, hml, hown, fun x hx => hts x (List.mem_cons_of_mem _ hx), hK, hN, Nat.le_refl _, Nat.le_refl _, Nat.le_refl _, Nat.le_refl _, hO, hA⟩
  refine body (p, l, e, rn lev mc ms, s, m, vs.toArray, below, meth, c, 0, 0, MQ below (QcN w post) vs.toArray s mc ms w.2.2.2) rfl hnm hC ?_ s.heap [] ls hP hD va_S.rf ⟨?_, hl.2.1, ?_⟩
  · intro pc L ws2 hp hd H locs ls2 hP2 hD2 hS2 hl2
    exact W.vret hC.ex hC.co B.returns (fun t ht hW => ⟨⟨rfl, ws2, hp, by rw [ht]; exact hP2, hD2⟩, hS2.F ht⟩) hS2.2.2 hd hlocks
  · exact hl.1.trans hml.symm
  · intro i v hv
    by_cases hi : i < vs.length
    · rw [List.getElem?_append_left (by rw [List.length_map]; exact hi), List.getElem?_map] at hv
      cases hq : vs[i]? with
      | none => rw [hq] at hv; cases hv
      | some u =>
        rw [hq] at hv
        have e : u = v := Option.some.inj (Option.some.inj hv)
        have h1 := args_cat1 vs 0 hcat i u hq
        rw [Nat.zero_add, e] at h1
        exact hl.2.2 _ h1
    · rw [List.getElem?_append_right (by rw [List.length_map]; omega)] at hv
      have h1 := List.eq_of_mem_replicate (List.mem_of_getElem? hv)
      cases h1
section NC2
variable {w : Om} {f : Fr} {own : String} {cc : ByteArray} {nL lev mc ms k n pc : Nat} {L : List (Option Value)} {st : List Value} {ws E : va_W}
variable {y : MethodName} {bytes : ByteArray} {maxL idx lc c2 s2 m : Nat} {As S : List Value} {post : va_W → Prop}
theorem W_callN {p : Program} {l : Launch} {e : Env} {R : Room} {s : State} {m : MethodId} {args : Array Value} {below : List Frame} {meth : Method} {c : Code} {H : Heap} {locs : List Loc} {cells slots : Nat} {Q : State → Prop} {ls : Array Slot} {rest st0 : List Value} {a : Array Value} (hr : va_Run p l e R s m args below meth c H locs cells slots c2 s2 (F0 m pc ls st0) rest (QcN w post a) w.2.2.2) (hS : va_S w.2.2.2 s.heap H locs)
    (kk : ∀ (ws2 : va_W) (H1 : Heap) (locs1 : List Loc), post ws2 → va_P w.1 vwCl ws2 H1 → va_D w.2.2.2 ws2 → va_S w.2.2.2 s.heap H1 locs1 → W p l e R s m args below meth c H1 locs1 (cells + c2) (slots + s2) Q (F0 m (pc + 3) ls rest)) : W p l e R s m args below meth c H locs cells slots Q (F0 m pc ls st0) := by
  intro T hT X
  obtain ⟨v, st₀, t, T', L2, h0, X', hL, e1, e2, ⟨⟨hv, ws2, hpo, hp, hd⟩, hz, hk⟩, st⟩ := hr T hT X
  cases hv
  rw [h0] at hz hk
  obtain ⟨t2, a1, b1⟩ := kk ws2 T'.heap (locs ++ L2) hpo (by rw [e1]; exact hp) hd
    ⟨Nat.le_trans hS.1 (by rw [e1]; exact hz), fun q h1 h2 => by rw [e1, hk q (Nat.lt_of_lt_of_le h1 hS.1) h2]; exact hS.2.1 q h1 h2, fun q hq => by
      rcases List.mem_append.mp hq with h | h
      · exact hS.2.2 q h
      · exact hL q h⟩ T' rfl X'
  exact ⟨t2, st t2 a1, b1⟩
theorem n_pre {vs : List Value} {H : Heap} {locs : List Loc} (C : Cn w f own cc nL lev mc ms) (hP : va_P w.1 vwCl ws H) (hD : va_D w.2.2.2 ws) (hS0 : va_S w.2.2.2 (f_s f).heap H locs) : ∀ U : State, U.heap = H → (f_s f).WarmedH U.vm → PcN w vs ws vs.toArray U := fun U hU hW => ⟨rfl, by rw [hU]; exact hP, hD, va_K.moved hW.alike C.K, Ns.warm hW C.ns, Ao.moved hW.alike C.ao, fun q hq => C.hA q (Nat.le_trans hS0.1 (by rw [hU] at hq; exact hq))⟩
/-- a constructor, by a plain link -/
theorem n_init {a : Nat} (C : Cn w f own cc nL lev mc ms) (hM : CtN (f_l f) w y bytes maxL lc c2 s2 [.ref a] ws post) (lk : Jvm.Cond.methodLink own idx y ∈ lw_g) (hy1 : y.name = "<init>") (mi : Jvm.Cond.instanceMethod y ∈ lw_g ∧ Jvm.Cond.initialized y.cls ∈ lw_g ∧ Jvm.Cond.code y bytes maxL none ∈ lw_g ∧ (y.cls ≠ "java/lang/invoke/MethodHandle" ∧ y.cls ≠ "java/lang/invoke/VarHandle" ∧ (parseMethodDescriptor y.desc).map (fun d => d.parameters.length) = some 0)) (hlev : lc + 1 ≤ lev ∧ maxL ≤ 41) (hst : (st.map fun v => v.category).sum ≤ 8) (hk : k + c2 ≤ mc) (hn : n + s2 ≤ ms) (d : decode cc pc = .ok (.invokespecial idx, 3)) (kk : ∀ ws2, post ws2 → Gn w f (k + c2) (n + s2) (pc + 3) L st ws2) : Gn w f k n pc L (.ref a :: st) ws := by
  intro H locs ls hP hD hS0 hl
  have hfr := C.fr
  have hlo := C.lo
  refine W_callN (va_runI (bytes := bytes) (maxL := maxL) (As := []) (rest := st) (b := a) ⟨C.ex, C.co, C.ml, C.ow, C.ts⟩ hM ?_ ⟨PcN_blind, n_pre C hP hD hS0⟩ rfl rfl (hl.1.trans C.ml) rfl (lv_room hst) d ⟨Nat.le_trans hk C.ce, Nat.le_trans hn C.sl⟩) hS0 (fun ws2 H1 locs1 hpo hP1 hD1 hS1 => kk ws2 hpo H1 locs1 ls hP1 hD1 hS1 hl)
  exact ⟨callB_of 0 C.ts (fun x hx => (List.mem_cons.mp hx).elim (fun e => by rw [e]; exact ⟨mi.2.2.1, (lw_gg _ mi.2.2.1).2⟩) (fun h => lw_gg x h)) rfl rfl rfl (C.ts _ mi.2.1) (C.ts _ lk) mi.2.2.2 ⟨by show lc + 1 + 1 ≤ _; omega, by show 8 + (maxL + 11) + 60 * (lc + 1) ≤ _; omega⟩, hy1, C.ts _ mi.1⟩
/-- a nest mate's private constructor -/
theorem n_initN {a : Nat} {host : String} (C : Cn w f own cc nL lev mc ms) (hM : CtN (f_l f) w y bytes maxL lc c2 s2 [.ref a] ws post) (lk : (own, idx, y, host) ∈ nsL) (hy1 : y.name = "<init>") (mi : Jvm.Cond.instanceMethod y ∈ lw_g ∧ Jvm.Cond.initialized y.cls ∈ lw_g ∧ Jvm.Cond.code y bytes maxL none ∈ lw_g ∧ (y.cls ≠ "java/lang/invoke/MethodHandle" ∧ y.cls ≠ "java/lang/invoke/VarHandle" ∧ (parseMethodDescriptor y.desc).map (fun d => d.parameters.length) = some 0)) (hlev : lc + 1 ≤ lev ∧ maxL ≤ 41) (hst : (st.map fun v => v.category).sum ≤ 8) (hk : k + c2 ≤ mc) (hn : n + s2 ≤ ms) (d : decode cc pc = .ok (.invokespecial idx, 3)) (kk : ∀ ws2, post ws2 → Gn w f (k + c2) (n + s2) (pc + 3) L st ws2) : Gn w f k n pc L (.ref a :: st) ws := by
  intro H locs ls hP hD hS0 hl
  have hfr := C.fr
  have hlo := C.lo
  have hns := C.ns _ lk
  refine W_callN (va_runIN (bytes := bytes) (maxL := maxL) (As := []) (rest := st) (b := a) (host := host) ⟨C.ex, C.co, C.ml, C.ow, C.ts⟩ hM ?_ ⟨PcN_blind, n_pre C hP hD hS0⟩ rfl rfl (hl.1.trans C.ml) rfl (lv_room hst) d ⟨Nat.le_trans hk C.ce, Nat.le_trans hn C.sl⟩) hS0 (fun ws2 H1 locs1 hpo hP1 hD1 hS1 => kk ws2 hpo H1 locs1 ls hP1 hD1 hS1 hl)
  exact ⟨va_cnB 0 C.ts (fun x hx => (List.mem_cons.mp hx).elim (fun e => by rw [e]; exact ⟨mi.2.2.1, (lw_gg _ mi.2.2.1).2⟩) (fun h => lw_gg x h)) rfl rfl rfl hns (C.ts _ mi.2.1) mi.2.2.2 ⟨by show lc + 1 + 1 ≤ _; omega, by show 8 + (maxL + 11) + 60 * (lc + 1) ≤ _; omega⟩, hy1, C.ts _ mi.1⟩
/-- a static nest mate's call -/
theorem n_callSN {host : String} (C : Cn w f own cc nL lev mc ms) (hM : CtN (f_l f) w y bytes maxL lc 0 0 As ws post) (lk : (own, idx, y, host) ∈ nsL) (mi : MiS y bytes maxL none As.length) (hlev : lc + 1 ≤ lev ∧ maxL ≤ 41) (hst : (st.map fun v => v.category).sum ≤ 8) (hk : k ≤ mc) (hn : n ≤ ms) (d : decode cc pc = .ok (.invokestatic idx, 3)) (hS : S = As.reverse ++ st) (kk : ∀ ws2, post ws2 → Gn w f k n (pc + 3) L st ws2) : Gn w f k n pc L S ws := by
  intro H locs ls hP hD hS0 hl
  obtain ⟨m1, m3, m4, m5⟩ := mi
  have hfr := C.fr
  have hlo := C.lo
  have hns := C.ns _ lk
  refine W_callN (va_runSN (bytes := bytes) (maxL := maxL) (ret := none) (As := As) (rest := st) (host := host) ⟨C.ex, C.co, C.ml, C.ow, C.ts⟩ hM ?_ ⟨PcN_blind, n_pre C hP hD hS0⟩ rfl rfl (hl.1.trans C.ml) (by rw [hS]) (lv_room hst) d ⟨Nat.le_trans hk C.ce, Nat.le_trans hn C.sl⟩) hS0 (fun ws2 H1 locs1 hpo hP1 hD1 hS1 => kk ws2 hpo H1 locs1 ls hP1 hD1 hS1 hl)
  exact ⟨va_cnB As.length C.ts (fun x hx => (List.mem_cons.mp hx).elim (fun e => by rw [e]; exact ⟨m4, (lw_gg _ m4).2⟩) (fun h => lw_gg x h)) rfl rfl rfl hns (C.ts _ m3) m5 ⟨by show lc + 1 + 1 ≤ _; omega, by show 8 + (maxL + 11) + 60 * (lc + 1) ≤ _; omega⟩, C.ts _ m1, trivial⟩
end NC2
