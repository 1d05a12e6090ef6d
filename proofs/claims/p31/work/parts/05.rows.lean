/-! ROWS: an instruction, a row, over the memory -/
section ROWS
variable {w : Om} {f : Fr} {own : String} {cc : ByteArray} {nL lev pc : Nat} {L L2 : List (Option Value)} {st : List Value} {M : Mem}
theorem g_iadd {x y : Int32} (C : Cx w f own cc nL lev) (d : decode cc pc = .ok (.iadd, 1))  (k : Go w f (pc + 1) L (.int (x + y) :: st) M) : Go w f pc L (.int y :: .int x :: st) M :=
  fun H locs ls hP hS hl => lv_iadd C.ex C.co d  (k H locs ls hP hS hl)
theorem g_isub {x y : Int32} (C : Cx w f own cc nL lev) (d : decode cc pc = .ok (.isub, 1))  (k : Go w f (pc + 1) L (.int (x - y) :: st) M) : Go w f pc L (.int y :: .int x :: st) M :=
  fun H locs ls hP hS hl => lv_isub C.ex C.co d  (k H locs ls hP hS hl)
theorem g_imul {x y : Int32} (C : Cx w f own cc nL lev) (d : decode cc pc = .ok (.imul, 1))  (k : Go w f (pc + 1) L (.int (x * y) :: st) M) : Go w f pc L (.int y :: .int x :: st) M :=
  fun H locs ls hP hS hl => lv_imul C.ex C.co d  (k H locs ls hP hS hl)
theorem g_iand {x y : Int32} (C : Cx w f own cc nL lev) (d : decode cc pc = .ok (.iand, 1))  (k : Go w f (pc + 1) L (.int (x &&& y) :: st) M) : Go w f pc L (.int y :: .int x :: st) M :=
  fun H locs ls hP hS hl => lv_iand C.ex C.co d  (k H locs ls hP hS hl)
theorem g_ior {x y : Int32} (C : Cx w f own cc nL lev) (d : decode cc pc = .ok (.ior, 1))  (k : Go w f (pc + 1) L (.int (x ||| y) :: st) M) : Go w f pc L (.int y :: .int x :: st) M :=
  fun H locs ls hP hS hl => lv_ior C.ex C.co d  (k H locs ls hP hS hl)
theorem g_ixor {x y : Int32} (C : Cx w f own cc nL lev) (d : decode cc pc = .ok (.ixor, 1))  (k : Go w f (pc + 1) L (.int (x ^^^ y) :: st) M) : Go w f pc L (.int y :: .int x :: st) M :=
  fun H locs ls hP hS hl => lv_ixor C.ex C.co d  (k H locs ls hP hS hl)
theorem g_ishl {x y : Int32} (C : Cx w f own cc nL lev) (d : decode cc pc = .ok (.ishl, 1))  (k : Go w f (pc + 1) L (.int (x <<< (y &&& 31)) :: st) M) : Go w f pc L (.int y :: .int x :: st) M :=
  fun H locs ls hP hS hl => lv_ishl C.ex C.co d  (k H locs ls hP hS hl)
theorem g_ishr {x y : Int32} (C : Cx w f own cc nL lev) (d : decode cc pc = .ok (.ishr, 1))  (k : Go w f (pc + 1) L (.int (x >>> (y &&& 31)) :: st) M) : Go w f pc L (.int y :: .int x :: st) M :=
  fun H locs ls hP hS hl => lv_ishr C.ex C.co d  (k H locs ls hP hS hl)
theorem g_idiv {x y : Int32} (C : Cx w f own cc nL lev) (d : decode cc pc = .ok (.idiv, 1)) (hne : ¬ y = 0) (k : Go w f (pc + 1) L (.int (x / y) :: st) M) : Go w f pc L (.int y :: .int x :: st) M :=
  fun H locs ls hP hS hl => lv_idiv C.ex C.co d hne (k H locs ls hP hS hl)
theorem g_irem {x y : Int32} (C : Cx w f own cc nL lev) (d : decode cc pc = .ok (.irem, 1)) (hne : ¬ y = 0) (k : Go w f (pc + 1) L (.int (x - x / y * y) :: st) M) : Go w f pc L (.int y :: .int x :: st) M :=
  fun H locs ls hP hS hl => lv_irem C.ex C.co d hne (k H locs ls hP hS hl)
theorem g_ineg {x : Int32} (C : Cx w f own cc nL lev) (d : decode cc pc = .ok (.ineg, 1))  (k : Go w f (pc + 1) L (.int (-x) :: st) M) : Go w f pc L (.int x :: st) M :=
  fun H locs ls hP hS hl => lv_ineg C.ex C.co d  (k H locs ls hP hS hl)
theorem g_iushr {x y : Int32} (C : Cx w f own cc nL lev) (d : decode cc pc = .ok (.iushr, 1))  (k : Go w f (pc + 1) L (.int ((x.toUInt32 >>> (y.toUInt32 &&& Int32.toUInt32 31)).toInt32) :: st) M) : Go w f pc L (.int y :: .int x :: st) M :=
  fun H locs ls hP hS hl => lv_iushr C.ex C.co d rfl (k H locs ls hP hS hl)
theorem g_i2l {x : Int32} (C : Cx w f own cc nL lev) (d : decode cc pc = .ok (.i2l, 1))  (k : Go w f (pc + 1) L (.long (Int32.toInt64 x) :: st) M) : Go w f pc L (.int x :: st) M :=
  fun H locs ls hP hS hl => lv_i2l C.ex C.co d rfl (k H locs ls hP hS hl)
theorem g_ladd {x y : Int64} (C : Cx w f own cc nL lev) (d : decode cc pc = .ok (.ladd, 1))  (k : Go w f (pc + 1) L (.long (x + y) :: st) M) : Go w f pc L (.long y :: .long x :: st) M :=
  fun H locs ls hP hS hl => lv_ladd C.ex C.co d  (k H locs ls hP hS hl)
theorem g_lmul {x y : Int64} (C : Cx w f own cc nL lev) (d : decode cc pc = .ok (.lmul, 1))  (k : Go w f (pc + 1) L (.long (x * y) :: st) M) : Go w f pc L (.long y :: .long x :: st) M :=
  fun H locs ls hP hS hl => lv_lmul C.ex C.co d  (k H locs ls hP hS hl)
theorem g_lcmp {x y : Int64} (C : Cx w f own cc nL lev) (d : decode cc pc = .ok (.lcmp, 1))  (k : Go w f (pc + 1) L (.int (lg_cmp x y) :: st) M) : Go w f pc L (.long y :: .long x :: st) M :=
  fun H locs ls hP hS hl => W.lcmp C.ex C.co d  (k H locs ls hP hS hl)
theorem g_i2d {x : Int32} (C : Cx w f own cc nL lev) (d : decode cc pc = .ok (.i2d, 1))  (k : Go w f (pc + 1) L (.double (FP.i2d x) :: st) M) : Go w f pc L (.int x :: st) M :=
  fun H locs ls hP hS hl => lv_i2d C.ex C.co d  (k H locs ls hP hS hl)
theorem g_ddiv {x y : UInt64} (C : Cx w f own cc nL lev) (d : decode cc pc = .ok (.ddiv, 1)) (hne : vf_n64 (FP.ddiv x y)) (k : Go w f (pc + 1) L (.double (FP.ddiv x y) :: st) M) : Go w f pc L (.double y :: .double x :: st) M :=
  fun H locs ls hP hS hl => lv_ddiv C.ex C.co d hne (k H locs ls hP hS hl)
theorem g_dcmp {x y : UInt64} {op : CmpOp} (C : Cx w f own cc nL lev) (d : decode cc pc = .ok (.dcmp op, 1))  (k : Go w f (pc + 1) L (.int (Op.cmpValue (FP.dcmp x y) op) :: st) M) : Go w f pc L (.double y :: .double x :: st) M :=
  fun H locs ls hP hS hl => lv_dcmp C.ex C.co d  (k H locs ls hP hS hl)
theorem g_iconst {n : Int} {v : Int32} (C : Cx w f own cc nL lev) (d : decode cc pc = .ok (.iconst n, 1)) (hv : Int32.ofInt n = v) (k : Go w f (pc + 1) L (.int v :: st) M) : Go w f pc L st M :=
  fun H locs ls hP hS hl => lv_iconst C.ex C.co d hv (k H locs ls hP hS hl)
theorem g_bipush {n : Int} {v : Int32} (C : Cx w f own cc nL lev) (d : decode cc pc = .ok (.bipush n, 2)) (hv : (Int8.ofInt n).toInt32 = v) (k : Go w f (pc + 2) L (.int v :: st) M) : Go w f pc L st M :=
  fun H locs ls hP hS hl => lv_bipush C.ex C.co d hv (k H locs ls hP hS hl)
theorem g_sipush {n : Int} {v : Int32} (C : Cx w f own cc nL lev) (d : decode cc pc = .ok (.sipush n, 3)) (hv : (Int16.ofInt n).toInt32 = v) (k : Go w f (pc + 3) L (.int v :: st) M) : Go w f pc L st M :=
  fun H locs ls hP hS hl => lv_sipush C.ex C.co d hv (k H locs ls hP hS hl)
theorem g_ldc {i : Nat} {v : Int32} (C : Cx w f own cc nL lev) (hc : Jvm.Cond.constant own i v ∈ lw_g) (d : decode cc pc = .ok (.ldc i, 2)) (k : Go w f (pc + 2) L (.int v :: st) M) : Go w f pc L st M :=
  fun H locs ls hP hS hl => lv_ldc C.ex C.co C.ow (C.ts _ hc) d (k H locs ls hP hS hl)
theorem g_ldcw {i : Nat} {v : Int32} (C : Cx w f own cc nL lev) (hc : Jvm.Cond.constant own i v ∈ lw_g) (d : decode cc pc = .ok (.ldc_w i, 3)) (k : Go w f (pc + 3) L (.int v :: st) M) : Go w f pc L st M :=
  fun H locs ls hP hS hl => lv_ldcw C.ex C.co C.ow (C.ts _ hc) d (k H locs ls hP hS hl)
theorem g_dconst0 (C : Cx w f own cc nL lev) (d : decode cc pc = .ok (.dconst 0, 1)) (k : Go w f (pc + 1) L (.double FP.dconst0 :: st) M) : Go w f pc L st M :=
  fun H locs ls hP hS hl => lv_dconst0 C.ex C.co d (k H locs ls hP hS hl)
theorem g_null (C : Cx w f own cc nL lev) (d : decode cc pc = .ok (.aconst_null, 1)) (k : Go w f (pc + 1) L (rv w 0 :: st) M) : Go w f pc L st M :=
  fun H locs ls hP hS hl => lv_null C.ex C.co d (k H locs ls hP hS hl)
theorem g_iload_n {j : Fin 4} {i : Nat} {x : Int32} (C : Cx w f own cc nL lev) (d : decode cc pc = .ok (.iload_n j, 1)) (hi : (j : Nat) = i) (h : L[i]? = some (some (.int x))) (k : Go w f (pc + 1) L (.int x :: st) M) : Go w f pc L st M :=
  fun H locs ls hP hS hl => lv_iload_n C.ex C.co d hi (hl.2.2 _ _ h) (k H locs ls hP hS hl)
theorem g_iload {i : Nat} {x : Int32} (C : Cx w f own cc nL lev) (d : decode cc pc = .ok (.iload i, 2)) (h : L[i]? = some (some (.int x))) (k : Go w f (pc + 2) L (.int x :: st) M) : Go w f pc L st M :=
  fun H locs ls hP hS hl => lv_iload C.ex C.co d (hl.2.2 _ _ h) (k H locs ls hP hS hl)
theorem g_dload {i : Nat} {x : UInt64} (C : Cx w f own cc nL lev) (d : decode cc pc = .ok (.dload i, 2)) (h : L[i]? = some (some (.double x))) (k : Go w f (pc + 2) L (.double x :: st) M) : Go w f pc L st M :=
  fun H locs ls hP hS hl => lv_dload C.ex C.co d (hl.2.2 _ _ h) (k H locs ls hP hS hl)
theorem g_lload {i : Nat} {x : Int64} (C : Cx w f own cc nL lev) (d : decode cc pc = .ok (.lload i, 2)) (h : L[i]? = some (some (.long x))) (k : Go w f (pc + 2) L (.long x :: st) M) : Go w f pc L st M :=
  fun H locs ls hP hS hl => lv_lload C.ex C.co d (hl.2.2 _ _ h) (k H locs ls hP hS hl)
theorem g_lload_n {j : Fin 4} {i : Nat} {x : Int64} (C : Cx w f own cc nL lev) (d : decode cc pc = .ok (.lload_n j, 1)) (hi : (j : Nat) = i) (h : L[i]? = some (some (.long x))) (k : Go w f (pc + 1) L (.long x :: st) M) : Go w f pc L st M :=
  fun H locs ls hP hS hl => lv_lload_n C.ex C.co d hi (hl.2.2 _ _ h) (k H locs ls hP hS hl)
theorem g_ldc2 {i : Nat} {v : Int64} (C : Cx w f own cc nL lev) (hc : Jvm.Cond.constantLong own i v ∈ lw_g) (d : decode cc pc = .ok (.ldc2_w i, 3)) (k : Go w f (pc + 3) L (.long v :: st) M) : Go w f pc L st M :=
  fun H locs ls hP hS hl => lv_ldc2 C.ex C.co C.ow (C.ts _ hc) d (k H locs ls hP hS hl)
theorem g_lstore {i : Nat} {x : Int64} (C : Cx w f own cc nL lev) (d : decode cc pc = .ok (.lstore i, 2)) (hn : i + 1 < nL) (hc : NC L i) (hL : (L.set i (some (.long x))).set (i + 1) none = L2) (k : Go w f (pc + 2) L2 st M) : Go w f pc L (.long x :: st) M := by
  subst hL
  exact fun H locs ls hP hS hl => lv_lstore C.ex C.co d (lh_has hl) (by rw [C.ml]; exact hn) rfl (fun ls2 h2 => k H locs ls2 hP hS (lh_set2 hc h2))
theorem g_lstore_n {j : Fin 4} {i : Nat} {x : Int64} (C : Cx w f own cc nL lev) (d : decode cc pc = .ok (.lstore_n j, 1)) (hi : (j : Nat) = i) (hn : i + 1 < nL) (hc : NC L i) (hL : (L.set i (some (.long x))).set (i + 1) none = L2) (k : Go w f (pc + 1) L2 st M) : Go w f pc L (.long x :: st) M := by
  subst hL
  exact fun H locs ls hP hS hl => lv_lstore_n C.ex C.co d hi (lh_has hl) (by rw [C.ml]; exact hn) rfl (fun ls2 h2 => k H locs ls2 hP hS (lh_set2 hc h2))
theorem g_aload_n {j : Fin 4} {i r : Nat} (C : Cx w f own cc nL lev) (d : decode cc pc = .ok (.aload_n j, 1)) (hi : (j : Nat) = i) (h : L[i]? = some (some (rv w r))) (k : Go w f (pc + 1) L (rv w r :: st) M) : Go w f pc L st M := by
  intro H locs ls hP hS hl
  have k1 := k H locs ls hP hS hl
  have h1 := hl.2.2 _ _ h
  rcases rv_or w r with e | ⟨a, e⟩
  · rw [e] at h1 k1
    exact lv_aload_nN C.ex C.co d hi h1 k1
  · rw [e] at h1 k1
    exact lv_aload_n C.ex C.co d hi h1 k1
theorem g_aload {i r : Nat} (C : Cx w f own cc nL lev) (d : decode cc pc = .ok (.aload i, 2)) (h : L[i]? = some (some (rv w r))) (k : Go w f (pc + 2) L (rv w r :: st) M) : Go w f pc L st M := by
  intro H locs ls hP hS hl
  have k1 := k H locs ls hP hS hl
  have h1 := hl.2.2 _ _ h
  rcases rv_or w r with e | ⟨a, e⟩
  · rw [e] at h1 k1
    exact lv_aloadN C.ex C.co d h1 k1
  · rw [e] at h1 k1
    exact lv_aload C.ex C.co d h1 k1
theorem g_istore_n {j : Fin 4} {i : Nat} {x : Int32} (C : Cx w f own cc nL lev) (d : decode cc pc = .ok (.istore_n j, 1)) (hi : (j : Nat) = i) (hn : i < nL) (hc : NC L i) (hL : L.set i (some (.int x)) = L2) (k : Go w f (pc + 1) L2 st M) : Go w f pc L (.int x :: st) M := by
  subst hL
  exact fun H locs ls hP hS hl => lv_istore_n C.ex C.co d hi (lh_has hl) (by rw [C.ml]; exact hn) rfl (fun ls2 h2 => k H locs ls2 hP hS (lh_set hc h2))
theorem g_istore {i : Nat} {x : Int32} (C : Cx w f own cc nL lev) (d : decode cc pc = .ok (.istore i, 2)) (hn : i < nL) (hc : NC L i) (hL : L.set i (some (.int x)) = L2) (k : Go w f (pc + 2) L2 st M) : Go w f pc L (.int x :: st) M := by
  subst hL
  exact fun H locs ls hP hS hl => lv_istore C.ex C.co d (lh_has hl) (by rw [C.ml]; exact hn) rfl (fun ls2 h2 => k H locs ls2 hP hS (lh_set hc h2))
theorem g_dstore {i : Nat} {x : UInt64} (C : Cx w f own cc nL lev) (d : decode cc pc = .ok (.dstore i, 2)) (hn : i + 1 < nL) (hc : NC L i) (hL : (L.set i (some (.double x))).set (i + 1) none = L2) (k : Go w f (pc + 2) L2 st M) : Go w f pc L (.double x :: st) M := by
  subst hL
  exact fun H locs ls hP hS hl => lv_dstore C.ex C.co d (lh_has hl) (by rw [C.ml]; exact hn) rfl (fun ls2 h2 => k H locs ls2 hP hS (lh_set2 hc h2))
theorem g_astore_n {j : Fin 4} {i r : Nat} (C : Cx w f own cc nL lev) (d : decode cc pc = .ok (.astore_n j, 1)) (hi : (j : Nat) = i) (hn : i < nL) (hc : NC L i) (hL : L.set i (some (rv w r)) = L2) (k : Go w f (pc + 1) L2 st M) : Go w f pc L (rv w r :: st) M := by
  subst hL
  intro H locs ls hP hS hl
  have k1 := fun ls2 h2 => k H locs ls2 hP hS (lh_set (v := rv w r) hc h2)
  rcases rv_or w r with e | ⟨a, e⟩
  · rw [e] at k1 ⊢
    exact lv_astore_nN C.ex C.co d hi (lh_has hl) (by rw [C.ml]; exact hn) rfl k1
  · rw [e] at k1 ⊢
    exact lv_astore_n C.ex C.co d hi (lh_has hl) (by rw [C.ml]; exact hn) rfl k1
theorem g_astore {i r : Nat} (C : Cx w f own cc nL lev) (d : decode cc pc = .ok (.astore i, 2)) (hn : i < nL) (hc : NC L i) (hL : L.set i (some (rv w r)) = L2) (k : Go w f (pc + 2) L2 st M) : Go w f pc L (rv w r :: st) M := by
  subst hL
  intro H locs ls hP hS hl
  have k1 := fun ls2 h2 => k H locs ls2 hP hS (lh_set (v := rv w r) hc h2)
  rcases rv_or w r with e | ⟨a, e⟩
  · rw [e] at k1 ⊢
    exact lv_astoreN C.ex C.co d (lh_has hl) (by rw [C.ml]; exact hn) rfl k1
  · rw [e] at k1 ⊢
    exact lv_astore C.ex C.co d (lh_has hl) (by rw [C.ml]; exact hn) rfl k1
theorem g_iinc {i : Nat} {n : Int} {x v : Int32} (C : Cx w f own cc nL lev) (d : decode cc pc = .ok (.iinc i n, 3)) (h : L[i]? = some (some (.int x))) (hv : x + Int32.ofInt n = v) (hn : i < nL) (hc : NC L i) (hL : L.set i (some (.int v)) = L2) (k : Go w f (pc + 3) L2 st M) : Go w f pc L st M := by
  subst hL
  intro H locs ls hP hS hl
  obtain ⟨q, hq⟩ := List.getElem?_of_mem (lvs_mem (q := (i, Value.int x)).mpr h)
  exact lv_iinc C.ex C.co d (lh_has hl) hq hv (by rw [C.ml]; exact hn) rfl (fun ls2 h2 => k H locs ls2 hP hS (lh_set hc h2))
theorem g_dup {v : Value} (C : Cx w f own cc nL lev) (hv : v.category = 1) (d : decode cc pc = .ok (.dup, 1)) (k : Go w f (pc + 1) L (v :: v :: st) M) : Go w f pc L (v :: st) M :=
  fun H locs ls hP hS hl => lv_dup C.ex C.co d hv (k H locs ls hP hS hl)
theorem g_dup2 {v u : Value} (C : Cx w f own cc nL lev) (hv : v.category = 1) (hu : u.category = 1) (d : decode cc pc = .ok (.dup2, 1)) (k : Go w f (pc + 1) L (v :: u :: v :: u :: st) M) : Go w f pc L (v :: u :: st) M :=
  fun H locs ls hP hS hl => lv_dup2_11 C.ex C.co d hv hu (k H locs ls hP hS hl)
theorem g_goto {off : Int} (tgt : Nat) (C : Cx w f own cc nL lev) (d : decode cc pc = .ok (.goto off, 3)) (ht : (pc : Int) + off = (tgt : Int)) (k : Go w f tgt L st M) : Go w f pc L st M :=
  fun H locs ls hP hS hl => lv_goto C.ex C.co d ht (k H locs ls hP hS hl)
theorem g_ifnull {off : Int} {r : Nat} (tgt : Nat) (C : Cx w f own cc nL lev) (d : decode cc pc = .ok (.ifnull off, 3)) (ht : (pc : Int) + off = (tgt : Int)) (kt : r = 0 → Go w f tgt L st M) (kf : ¬ r = 0 → Go w f (pc + 3) L st M) : Go w f pc L (rv w r :: st) M := by
  intro H locs ls hP hS hl
  by_cases h : r = 0
  · have k1 := kt h H locs ls hP hS hl
    subst h
    exact lv_ifnullN C.ex C.co d ht k1
  · have e : rv w r = .ref (w.2.2.1 r) := by unfold rv oa; rw [if_neg h]; rfl
    rw [e]
    exact lv_ifnull C.ex C.co d (kf h H locs ls hP hS hl)
theorem g_ifnonnull {off : Int} {r : Nat} (tgt : Nat) (C : Cx w f own cc nL lev) (d : decode cc pc = .ok (.ifnonnull off, 3)) (ht : (pc : Int) + off = (tgt : Int)) (kt : ¬ r = 0 → Go w f tgt L st M) (kf : r = 0 → Go w f (pc + 3) L st M) : Go w f pc L (rv w r :: st) M := by
  intro H locs ls hP hS hl
  by_cases h : r = 0
  · have k1 := kf h H locs ls hP hS hl
    subst h
    exact lv_ifnonnullN C.ex C.co d k1
  · have e : rv w r = .ref (w.2.2.1 r) := by unfold rv oa; rw [if_neg h]; rfl
    rw [e]
    exact lv_ifnonnull C.ex C.co d ht (kt h H locs ls hP hS hl)
theorem g_if_eq {x : Int32} {off : Int} (tgt : Nat) (C : Cx w f own cc nL lev) (d : decode cc pc = .ok (.ifCond .eq off, 3)) (ht : (pc : Int) + off = (tgt : Int)) (kt : x = 0 → Go w f tgt L st M) (kf : ¬ x = 0 → Go w f (pc + 3) L st M) : Go w f pc L (.int x :: st) M :=
  fun H locs ls hP hS hl => lv_if_eq C.ex C.co d ht (fun h => kt h H locs ls hP hS hl) (fun h => kf h H locs ls hP hS hl)
theorem g_icmp_eq {x y : Int32} {off : Int} (tgt : Nat) (C : Cx w f own cc nL lev) (d : decode cc pc = .ok (.if_icmp .eq off, 3)) (ht : (pc : Int) + off = (tgt : Int)) (kt : x = y → Go w f tgt L st M) (kf : ¬ x = y → Go w f (pc + 3) L st M) : Go w f pc L (.int y :: .int x :: st) M :=
  fun H locs ls hP hS hl => lv_icmp_eq C.ex C.co d ht (fun h => kt h H locs ls hP hS hl) (fun h => kf h H locs ls hP hS hl)
theorem g_if_ne {x : Int32} {off : Int} (tgt : Nat) (C : Cx w f own cc nL lev) (d : decode cc pc = .ok (.ifCond .ne off, 3)) (ht : (pc : Int) + off = (tgt : Int)) (kt : ¬ x = 0 → Go w f tgt L st M) (kf : x = 0 → Go w f (pc + 3) L st M) : Go w f pc L (.int x :: st) M :=
  fun H locs ls hP hS hl => lv_if_ne C.ex C.co d ht (fun h => kt h H locs ls hP hS hl) (fun h => kf h H locs ls hP hS hl)
theorem g_icmp_ne {x y : Int32} {off : Int} (tgt : Nat) (C : Cx w f own cc nL lev) (d : decode cc pc = .ok (.if_icmp .ne off, 3)) (ht : (pc : Int) + off = (tgt : Int)) (kt : ¬ x = y → Go w f tgt L st M) (kf : x = y → Go w f (pc + 3) L st M) : Go w f pc L (.int y :: .int x :: st) M :=
  fun H locs ls hP hS hl => lv_icmp_ne C.ex C.co d ht (fun h => kt h H locs ls hP hS hl) (fun h => kf h H locs ls hP hS hl)
theorem g_if_lt {x : Int32} {off : Int} (tgt : Nat) (C : Cx w f own cc nL lev) (d : decode cc pc = .ok (.ifCond .lt off, 3)) (ht : (pc : Int) + off = (tgt : Int)) (kt : x < 0 → Go w f tgt L st M) (kf : ¬ x < 0 → Go w f (pc + 3) L st M) : Go w f pc L (.int x :: st) M :=
  fun H locs ls hP hS hl => lv_if_lt C.ex C.co d ht (fun h => kt h H locs ls hP hS hl) (fun h => kf h H locs ls hP hS hl)
theorem g_icmp_lt {x y : Int32} {off : Int} (tgt : Nat) (C : Cx w f own cc nL lev) (d : decode cc pc = .ok (.if_icmp .lt off, 3)) (ht : (pc : Int) + off = (tgt : Int)) (kt : x < y → Go w f tgt L st M) (kf : ¬ x < y → Go w f (pc + 3) L st M) : Go w f pc L (.int y :: .int x :: st) M :=
  fun H locs ls hP hS hl => lv_icmp_lt C.ex C.co d ht (fun h => kt h H locs ls hP hS hl) (fun h => kf h H locs ls hP hS hl)
theorem g_if_ge {x : Int32} {off : Int} (tgt : Nat) (C : Cx w f own cc nL lev) (d : decode cc pc = .ok (.ifCond .ge off, 3)) (ht : (pc : Int) + off = (tgt : Int)) (kt : 0 ≤ x → Go w f tgt L st M) (kf : ¬ 0 ≤ x → Go w f (pc + 3) L st M) : Go w f pc L (.int x :: st) M :=
  fun H locs ls hP hS hl => lv_if_ge C.ex C.co d ht (fun h => kt h H locs ls hP hS hl) (fun h => kf h H locs ls hP hS hl)
theorem g_icmp_ge {x y : Int32} {off : Int} (tgt : Nat) (C : Cx w f own cc nL lev) (d : decode cc pc = .ok (.if_icmp .ge off, 3)) (ht : (pc : Int) + off = (tgt : Int)) (kt : y ≤ x → Go w f tgt L st M) (kf : ¬ y ≤ x → Go w f (pc + 3) L st M) : Go w f pc L (.int y :: .int x :: st) M :=
  fun H locs ls hP hS hl => lv_icmp_ge C.ex C.co d ht (fun h => kt h H locs ls hP hS hl) (fun h => kf h H locs ls hP hS hl)
theorem g_if_gt {x : Int32} {off : Int} (tgt : Nat) (C : Cx w f own cc nL lev) (d : decode cc pc = .ok (.ifCond .gt off, 3)) (ht : (pc : Int) + off = (tgt : Int)) (kt : 0 < x → Go w f tgt L st M) (kf : ¬ 0 < x → Go w f (pc + 3) L st M) : Go w f pc L (.int x :: st) M :=
  fun H locs ls hP hS hl => lv_if_gt C.ex C.co d ht (fun h => kt h H locs ls hP hS hl) (fun h => kf h H locs ls hP hS hl)
theorem g_icmp_gt {x y : Int32} {off : Int} (tgt : Nat) (C : Cx w f own cc nL lev) (d : decode cc pc = .ok (.if_icmp .gt off, 3)) (ht : (pc : Int) + off = (tgt : Int)) (kt : y < x → Go w f tgt L st M) (kf : ¬ y < x → Go w f (pc + 3) L st M) : Go w f pc L (.int y :: .int x :: st) M :=
  fun H locs ls hP hS hl => lv_icmp_gt C.ex C.co d ht (fun h => kt h H locs ls hP hS hl) (fun h => kf h H locs ls hP hS hl)
theorem g_if_le {x : Int32} {off : Int} (tgt : Nat) (C : Cx w f own cc nL lev) (d : decode cc pc = .ok (.ifCond .le off, 3)) (ht : (pc : Int) + off = (tgt : Int)) (kt : x ≤ 0 → Go w f tgt L st M) (kf : ¬ x ≤ 0 → Go w f (pc + 3) L st M) : Go w f pc L (.int x :: st) M :=
  fun H locs ls hP hS hl => lv_if_le C.ex C.co d ht (fun h => kt h H locs ls hP hS hl) (fun h => kf h H locs ls hP hS hl)
theorem g_icmp_le {x y : Int32} {off : Int} (tgt : Nat) (C : Cx w f own cc nL lev) (d : decode cc pc = .ok (.if_icmp .le off, 3)) (ht : (pc : Int) + off = (tgt : Int)) (kt : x ≤ y → Go w f tgt L st M) (kf : ¬ x ≤ y → Go w f (pc + 3) L st M) : Go w f pc L (.int y :: .int x :: st) M :=
  fun H locs ls hP hS hl => lv_icmp_le C.ex C.co d ht (fun h => kt h H locs ls hP hS hl) (fun h => kf h H locs ls hP hS hl)
theorem g_tsI {dflt lo hi : Int} {offs : Array Int} {len : Nat} {x : Int32} (v : Int32) (off : Int) (tgt : Nat) (C : Cx w f own cc nL lev) (d : decode cc pc = .ok (.tableswitch dflt lo hi offs, len)) (e : x = v) (h1 : ¬ v.toInt < lo) (h2 : ¬ hi < v.toInt) (ho : offs[(v.toInt - lo).toNat]? = some off) (ht : (pc : Int) + off = (tgt : Int)) (k : Go w f tgt L st M) : Go w f pc L (.int x :: st) M := by
  subst e
  exact fun H locs ls hP hS hl => lv_tableIn C.ex C.co d h1 h2 ho ht (k H locs ls hP hS hl)
theorem ts_out {x : Int32} {n : Nat} (hn : n < 1000) (h : ∀ j, j < n → ¬ x = nI j) : x.toInt < 0 ∨ ((n : Int) - 1) < x.toInt := by
  rcases pk_ix x (n := n) (by omega) with h1 | h1 | ⟨j, hj, e⟩
  · exact Or.inl (by simpa using Int32.lt_iff_toInt_lt.mp h1)
  · refine Or.inr ?_
    have h2 := Int32.le_iff_toInt_le.mp h1
    rw [nI_toInt (by omega)] at h2
    omega
  · exact absurd e (h j hj)
theorem g_tsD {dflt lo hi : Int} {offs : Array Int} {len : Nat} {x : Int32} (n : Nat) (tgt : Nat) (C : Cx w f own cc nL lev) (d : decode cc pc = .ok (.tableswitch dflt lo hi offs, len)) (hn : n < 1000) (hlo : lo = 0) (hhi : hi = (n : Int) - 1) (h : ∀ j, j < n → ¬ x = nI j) (ht : (pc : Int) + dflt = (tgt : Int)) (k : Go w f tgt L st M) : Go w f pc L (.int x :: st) M := by
  subst hlo
  subst hhi
  exact fun H locs ls hP hS hl => lv_tableOut C.ex C.co d (ts_out hn h) ht (k H locs ls hP hS hl)
theorem g_lsw {dflt : Int} {ps : Array (Int × Int)} {len : Nat} {x : Int32} (off : Int) (tgt : Nat) (C : Cx w f own cc nL lev) (d : decode cc pc = .ok (.lookupswitch dflt ps, len)) (hp : (ps.toList.zip (ps.toList.drop 1)).all (fun (a, next) => a.1 < next.1) = true) (ho : Op.lookupswitch.offset ps.toList dflt x.toInt = off) (ht : (pc : Int) + off = (tgt : Int)) (k : Go w f tgt L st M) : Go w f pc L (.int x :: st) M :=
  fun H locs ls hP hS hl => lv_lookup C.ex C.co d hp ho ht (k H locs ls hP hS hl)
/-! a value, a memory get another name -/
theorem g_topi {x v : Int32} (e : v = x) (k : Go w f pc L (.int v :: st) M) : Go w f pc L (.int x :: st) M := e ▸ k
theorem g_topr {x v : Nat} (e : v = x) (k : Go w f pc L (rv w v :: st) M) : Go w f pc L (rv w x :: st) M := e ▸ k
theorem g_topl {x v : Int64} (e : v = x) (k : Go w f pc L (.long v :: st) M) : Go w f pc L (.long x :: st) M := e ▸ k
theorem g_topd {x v : UInt64} (e : v = x) (k : Go w f pc L (.double v :: st) M) : Go w f pc L (.double x :: st) M := e ▸ k
theorem g_mem {M2 : Mem} (e : M2 = M) (k : Go w f pc L st M2) : Go w f pc L st M := e ▸ k
theorem g_loc (h : ∀ (i : Nat) (v : Value), L2[i]? = some (some v) → L[i]? = some (some v)) (k : Go w f pc L2 st M) : Go w f pc L st M :=
  fun H locs ls hP hS hl => k H locs ls hP hS ⟨hl.1, hl.2.1, fun i v e => hl.2.2 i v (h i v e)⟩
/-! fields -/
theorem g_getf {Cn : String} {T : u_T} {N : Nat} (ci k : Nat) (hci : ci < 7) (hc : vwCl[ci]? = some (Cn, T, N)) (hk : k < N) (hin : ∀ x ∈ u_ws Cn T N, x ∈ lw_g) {i : Nat} (C : Cx w f own cc nL lev) (hlk : Jvm.Cond.fieldLink own i (T k).1 (T k).2.1 (T k).2.2.1 ∈ lw_g) {r : Nat} (hr : kd r = ci + 1) {v : Value} (hv : (flds w M ci r)[k]? = some v) (d : decode cc pc = .ok (.getfield i, 3)) (kk : Go w f (pc + 3) L (v :: st) M) : Go w f pc L (rv w r :: st) M := by
  intro H locs ls hP hS hl
  have hb := kd_in (r := r) (by omega) (by omega)
  rw [rv_some (by omega)]
  exact va_get C.ex C.co C.ts hin C.ow C.K hP (r - 1) (by rw [wo_at hb, cell_o hci hr]) hc k hk (C.ts _ hlk) (fun _ h => h) hv d (kk H locs ls hP hS hl)
theorem g_putf {Cn : String} {T : u_T} {N : Nat} (ci k : Nat) (hci : ci < 7) (hc : vwCl[ci]? = some (Cn, T, N)) (hk : k < N) (hin : ∀ x ∈ u_ws Cn T N, x ∈ lw_g) (ty0 : Nat → FieldType) (hty : ∀ k, k < N → parseFieldDescriptor (T k).2.2.1 = some (ty0 k)) (hnm : ∀ a, a < N → ∀ b, b < N → a ≠ b → (T a).2.1 ≠ (T b).2.1) (hfin : (T k).2.2.2 = false) (hlen : ∀ M r, k < (flds w M ci r).length) (hset : ∀ M r x, flds w (sI M r k x) ci r = (flds w M ci r).set k (.int x)) {ty : FieldType} (hd : parseFieldDescriptor (T k).2.2.1 = some ty) {i : Nat} {x : Int32} (hn : narrow ty (.int x) = .int x) (hfit : fits ty (.int x) = true) (C : Cx w f own cc nL lev) (hlk : Jvm.Cond.fieldLink own i (T k).1 (T k).2.1 (T k).2.2.1 ∈ lw_g) {r : Nat} (hr : kd r = ci + 1) (d : decode cc pc = .ok (.putfield i, 3)) (kk : Go w f (pc + 3) L st (sI M r k x)) : Go w f pc L (.int x :: rv w r :: st) M := by
  intro H locs ls hP hS hl
  have hb := kd_in (r := r) (by omega) (by omega)
  rw [rv_some (by omega)]
  refine va_put C.ex C.co C.ts hin ty0 hty hnm C.ow C.K hP (C.wf M) hS (r - 1) (by rw [wo_at hb, cell_o hci hr]) hc k hk (C.ts _ hlk) (fun _ h => h) hfin hd hn hfit (hlen M r) d (fun H1 locs1 hP1 _ hS1 => ?_)
  rw [wo_set hb (M2 := sI M r k x) (by rw [cell_o hci hr, hset]) (fun q h => cell_sI h)] at hP1
  exact kk H1 locs1 ls hP1 hS1 hl
/-! rows of numbers and of references -/
def inb (i : Int32) (n : Nat) : Bool := decide (0 ≤ i) && decide (i.toNatClampNeg < n)
theorem inb_in {i : Int32} {n : Nat} (h : inb i n = true) : vp_in i n := by
  unfold inb at h
  rw [Bool.and_eq_true, decide_eq_true_eq, decide_eq_true_eq] at h
  rintro (h1 | h1)
  · exact absurd h1 (Int32.not_lt.mpr h.1)
  · omega
theorem g_iald {r : Nat} {i : Int32} (C : Cx w f own cc nL lev) (hr : kd r = 8) (hi : inb i (ln r) = true) (d : decode cc pc = .ok (.iaload, 1)) (k : Go w f (pc + 1) L (.int (gI M r i.toNatClampNeg) :: st) M) : Go w f pc L (.int i :: rv w r :: st) M := by
  intro H locs ls hP hS hl
  have hb := kd_in (r := r) (by omega) (by omega)
  rw [rv_some (by omega)]
  exact va_iald (f := M.1 r) (n := ln r) C.ex C.co C.K hP (r - 1) 0 (by rw [wo_at hb, cell_i hr]) rfl (inb_in hi) d (k H locs ls hP hS hl)
theorem g_iast {r : Nat} {i x : Int32} (C : Cx w f own cc nL lev) (hr : kd r = 8) (hi : inb i (ln r) = true) (d : decode cc pc = .ok (.iastore, 1)) (k : Go w f (pc + 1) L st (sI M r i.toNatClampNeg x)) : Go w f pc L (.int x :: .int i :: rv w r :: st) M := by
  intro H locs ls hP hS hl
  have hb := kd_in (r := r) (by omega) (by omega)
  rw [rv_some (by omega)]
  refine va_iast C.ex C.co C.K hP (C.wf M) hS (r - 1) 0 (by rw [wo_at hb, cell_i hr]) rfl (inb_in hi) d (fun H1 locs1 hP1 _ hS1 => ?_)
  have e : upd (M.1 r) i.toNatClampNeg x = (sI M r i.toNatClampNeg x).1 r := by funext j; simp [sI, upd]
  rw [e] at hP1
  rw [wo_set hb (M2 := sI M r i.toNatClampNeg x) (cell_i hr) (fun q h => cell_sI h)] at hP1
  exact k H1 locs1 ls hP1 hS1 hl
theorem g_aald {r : Nat} {i : Int32} (C : Cx w f own cc nL lev) (hr : kd r = 9 ∨ kd r = 10) (hi : inb i (ln r) = true) (d : decode cc pc = .ok (.aaload, 1)) (k : Go w f (pc + 1) L (rv w (fld r i.toNatClampNeg) :: st) M) : Go w f pc L (.int i :: rv w r :: st) M := by
  intro H locs ls hP hS hl
  have hb := kd_in (r := r) (by omega) (by omega)
  rw [rv_some (by omega)]
  rcases hr with e | e
  · exact va_aldq (f := fun k => oa w (fld r k)) (n := ln r) C.ex C.co C.K hP (r - 1) 1 (by rw [wo_at hb, cell_r (Or.inl e), e]) rfl (inb_in hi) d (k H locs ls hP hS hl)
  · exact va_aldq (f := fun k => oa w (fld r k)) (n := ln r) C.ex C.co C.K hP (r - 1) 2 (by rw [wo_at hb, cell_r (Or.inr e), e]) rfl (inb_in hi) d (k H locs ls hP hS hl)
theorem g_aalds {r : Nat} {i : Int32} (C : Cx w f own cc nL lev) (hr : kd r = 11) (hi : inb i (ln r) = true) (d : decode cc pc = .ok (.aaload, 1)) (k : Go w f (pc + 1) L (rv w (gH M i.toNatClampNeg) :: st) M) : Go w f pc L (.int i :: rv w r :: st) M := by
  intro H locs ls hP hS hl
  have hb := kd_in (r := r) (by omega) (by omega)
  rw [rv_some (by omega)]
  exact va_aldq (f := fun k => oa w (M.2 k)) (n := ln r) C.ex C.co C.K hP (r - 1) 3 (by rw [wo_at hb, cell_s hr]) rfl (inb_in hi) d (k H locs ls hP hS hl)
theorem sH_cell {q j v : Nat} (h : kd q ≠ 11) : cell w (sH M j v) q = cell w M q := by
  unfold cell
  rw [if_neg h, if_neg h]
  rfl
theorem g_aasts {r v : Nat} {i : Int32} (C : Cx w f own cc nL lev) (hr : kd r = 11) (hv : kd v = 5) (hi : inb i (ln r) = true) (d : decode cc pc = .ok (.aastore, 1)) (k : Go w f (pc + 1) L st (sH M i.toNatClampNeg v)) : Go w f pc L (rv w v :: .int i :: rv w r :: st) M := by
  intro H locs ls hP hS hl
  have hb := kd_in (r := r) (by omega) (by omega)
  have hb2 := kd_in (r := v) (by omega) (by omega)
  rw [rv_some (r := r) (by omega), rv_some (r := v) (by omega)]
  refine va_astq C.ex C.co C.K hP (C.wf M) hS (r - 1) 3 (v - 1) 4 (r := (RX4, TX4, 9)) (by rw [wo_at hb, cell_s hr]) rfl (by rw [wo_at hb2, cell_o (ci := 4) (by omega) hv]) rfl (inb_in hi) d (fun H1 locs1 hP1 _ hS1 => ?_)
  have e2 : r = 2 := kd_11 hr
  have e : va_up (fun k => oa w (M.2 k)) i.toNatClampNeg (some (w.2.2.1 v)) = fun k => oa w ((sH M i.toNatClampNeg v).2 k) := by
    funext j
    unfold va_up sH
    by_cases hj : j = i.toNatClampNeg
    · subst hj
      simp only [if_pos]
      unfold oa
      rw [if_neg (by omega)]
    · simp only [if_neg hj]
  rw [e] at hP1
  rw [wo_set hb (M2 := sH M i.toNatClampNeg v) (cell_s hr) (fun q h => sH_cell (fun e => h ((kd_11 e).trans e2.symm)))] at hP1
  exact k H1 locs1 ls hP1 hS1 hl
theorem g_alen {r : Nat} (C : Cx w f own cc nL lev) (hr : kd r = 8 ∨ kd r = 9 ∨ kd r = 10 ∨ kd r = 11) (d : decode cc pc = .ok (.arraylength, 1)) (k : Go w f (pc + 1) L (.int (nI (ln r)) :: st) M) : Go w f pc L (rv w r :: st) M := by
  intro H locs ls hP hS hl
  have hb := kd_in (r := r) (by omega) (by omega)
  rw [rv_some (by omega)]
  rcases hr with e | e | e | e
  · exact va_alen (x := (ln r, .inl (M.1 r))) C.ex C.co C.K hP (r - 1) 0 (by rw [wo_at hb, cell_i e]) rfl rfl d (k H locs ls hP hS hl)
  · exact va_alen (x := (ln r, .inr (.inr (.inr (.inr (fun k => oa w (fld r k))))))) C.ex C.co C.K hP (r - 1) 1 (by rw [wo_at hb, cell_r (Or.inl e), e]) rfl rfl d (k H locs ls hP hS hl)
  · exact va_alen (x := (ln r, .inr (.inr (.inr (.inr (fun k => oa w (fld r k))))))) C.ex C.co C.K hP (r - 1) 2 (by rw [wo_at hb, cell_r (Or.inr e), e]) rfl rfl d (k H locs ls hP hS hl)
  · exact va_alen (x := (ln r, .inr (.inr (.inr (.inr (fun k => oa w (M.2 k))))))) C.ex C.co C.K hP (r - 1) 3 (by rw [wo_at hb, cell_s e]) rfl rfl d (k H locs ls hP hS hl)
end ROWS
/-! CONTRACTS -/
abbrev rm (lev : Nat) : Room := { frames := lev + 1, cells := 0, slots := 0, locals := 60 * (lev + 1) }
def Pc (w : Om) (vs : List Value) (M : Mem) : Array Value → State → Prop := va_Pc vs (fun U => va_P w.1 vwCl (wo w M) U.heap ∧ va_K w.1 vwCl (tys w) U ∧ Ns U)
def Qc (w : Om) (ro : Option Value) (M : Mem) : Array Value → State → Outcome → State → Prop := fun _ st o t => (o = .returned ro ∧ va_P w.1 vwCl (wo w M) t.heap) ∧ va_F w.2.2.2 st t
def Ct (l : Launch) (w : Om) (y : MethodName) (cc : ByteArray) (nL : Nat) (ret : Option FieldType) (lev : Nat) (vs : List Value) (M : Mem) (ro : Option Value) (M2 : Mem) : Prop := Met l y (.code y cc nL ret :: lw_g) (rm lev) (Pc w vs M) (Qc w ro M2) 0 0 w.2.2.2
theorem Pc_blind {w : Om} {vs : List Value} {M : Mem} : FrameBlind (Pc w vs M) := fun a U g mk q => ⟨q.1, q.2.1, va_K.moved (u := U) (U := U.calling g mk a) (Vm.Alike.refl U.vm) q.2.2.1, Ns.same (u := U) (U := U.calling g mk a) rfl q.2.2.2⟩
/-- behind a return -/
def RtI (w : Om) (f : Fr) (cc : ByteArray) (r : Int32) (M : Mem) : Prop := ∀ (pc : Nat) (L : List (Option Value)), decode cc pc = .ok (.ireturn, 1) → Go w f pc L [.int r] M
def RtZ (w : Om) (f : Fr) (cc : ByteArray) (r : Int32) (M : Mem) : Prop := ∀ (pc : Nat) (L : List (Option Value)), decode cc pc = .ok (.ireturn, 1) → (r = 0 ∨ r = 1) → Go w f pc L [.int r] M
def RtA (w : Om) (f : Fr) (cc : ByteArray) (r : Nat) (M : Mem) : Prop := ∀ (pc : Nat) (L : List (Option Value)), decode cc pc = .ok (.areturn, 1) → Go w f pc L [rv w r] M
def RtD (w : Om) (f : Fr) (cc : ByteArray) (r : UInt64) (M : Mem) : Prop := ∀ (pc : Nat) (L : List (Option Value)), decode cc pc = .ok (.dreturn, 1) → Go w f pc L [.double r] M
def RtV (w : Om) (f : Fr) (cc : ByteArray) (M : Mem) : Prop := ∀ (pc : Nat) (L : List (Option Value)), decode cc pc = .ok (.return_, 1) → Go w f pc L [] M
def Rt (w : Om) (f : Fr) (cc : ByteArray) (ret : Option FieldType) (ro : Option Value) (M : Mem) : Prop :=
  ∀ (pc : Nat) (L : List (Option Value)), match ro with
    | none => ret = none → decode cc pc = .ok (.return_, 1) → Go w f pc L [] M
    | some (.int r) => (∃ ty, ret = some ty ∧ narrow ty (.int r) = .int r) → decode cc pc = .ok (.ireturn, 1) → Go w f pc L [.int r] M
    | some (.long r) => ret = some .long → decode cc pc = .ok (.lreturn, 1) → Go w f pc L [.long r] M
    | some (.double r) => ret = some .double → decode cc pc = .ok (.dreturn, 1) → Go w f pc L [.double r] M
    | some v => ((∃ n, ret = some (.object n)) ∨ ∃ t, ret = some (.array t)) → (v = .null ∨ ∃ a, v = .ref a) → decode cc pc = .ok (.areturn, 1) → Go w f pc L [v] M
def args1 : Nat → List Value → List (Nat × Value)
  | _, [] => []
  | i, v :: vs => (i, v) :: args1 (i + 1) vs
theorem sl_cat1 : ∀ (vs : List Value), (∀ v ∈ vs, v.category = 1) → lg_sl vs = vs.map Slot.val
  | [], _ => rfl
  | v :: vs, h => by
    have h1 : v.category = 1 := h v List.mem_cons_self
    have h2 := sl_cat1 vs (fun u hu => h u (List.mem_cons_of_mem _ hu))
    unfold lg_sl at h2 ⊢
    rw [List.flatMap_cons, h2, if_neg (by rw [h1]; decide)]
    rfl
theorem args_cat1 : ∀ (vs : List Value) (i : Nat), (∀ v ∈ vs, v.category = 1) → ∀ (k : Nat) (v : Value), vs[k]? = some v → (i + k, v) ∈ lv_args i vs
  | [], _, _, k, v, h => by simp at h
  | u :: vs, i, hc, k, v, h => by
    have h1 : u.category = 1 := hc u List.mem_cons_self
    unfold lv_args
    rw [if_neg (by rw [h1]; decide)]
    cases k with
    | zero => simp at h; subst h; exact List.mem_cons_self
    | succ k =>
      have := args_cat1 vs (i + 1) (fun u hu => hc u (List.mem_cons_of_mem _ hu)) k v (by simpa using h)
      rw [show i + (k + 1) = i + 1 + k by omega]
      exact List.mem_cons_of_mem _ this
theorem ct_of {l : Launch} {w : Om} {y : MethodName} {cc : ByteArray} {nL : Nat} {ret : Option FieldType} {lev : Nat} {vs : List Value} {M : Mem} {ro : Option Value} {M2 : Mem} (hw : Wf w) (hy : plainName y.cls = true) (hcat : ∀ v ∈ vs, v.category = 1) (hlen : vs.length ≤ nL)
    (body : ∀ f : Fr, f_l f = l → Cx w f y.cls cc nL lev → Rt w f cc ret ro M2 → Go w f 0 (vs.map some ++ List.replicate (nL - vs.length) none) [] M) : Ct l w y cc nL ret lev vs M ro M2 := by
  refine Met.ofW (cc := cc) (maxL := nL) (ret := ret) hy rfl ?_
  intro p e s m args below meth c s₁ B hml hv
  obtain ⟨rfl, hP, hK, hN⟩ := hv
  have hts := atoms_spec (ws := Cond.code y cc nL ret :: lw_g) B.pre
  have hown : s.vm.findClass y.cls = some m.cls := findClass_of_methodNamed B.named
  have hlocks := B.notSynchronized
  rw [lg_entry_eq]
  have hl := lv_entry vs (n := nL) (by rw [sl_cat1 vs hcat, List.length_map]; exact hlen)
  generalize (lg_sl vs ++ List.replicate (nL - (lg_sl vs).length) Slot.unset).toArray = ls at hl ⊢
  have hC : Cx w (p, l, e, rm lev, s, m, vs.toArray, below, meth, c, 0, 0, MQ below (Qc w ro M2) vs.toArray s 0 0 w.2.2.2) y.cls cc nL lev :=
    ⟨B.exec, B.bytes, hml, hown, fun x hx => hts x (List.mem_cons_of_mem _ hx), hK, hw, hN, Nat.le_refl _, Nat.le_refl _, Nat.zero_le _, Nat.zero_le _⟩
  refine body (p, l, e, rm lev, s, m, vs.toArray, below, meth, c, 0, 0, MQ below (Qc w ro M2) vs.toArray s 0 0 w.2.2.2) rfl hC ?_ s.heap [] ls hP va_S.rf ⟨?_, hl.2.1, ?_⟩
  · intro pc L
    match ro with
    | none =>
      intro e1 hd H locs ls2 hP2 hS2 hl2
      subst e1
      exact W.vret hC.ex hC.co B.returns (fun t ht hW => ⟨⟨rfl, by rw [ht]; exact hP2⟩, hS2.F ht⟩) hS2.2.2 hd hlocks
    | some (.int r) =>
      rintro ⟨ty, e1, hn⟩ hd H locs ls2 hP2 hS2 hl2
      subst e1
      exact W.zret hC.ex hC.co B.returns hn (fun t ht hW => ⟨⟨rfl, by rw [ht]; exact hP2⟩, hS2.F ht⟩) hS2.2.2 hd hlocks
    | some (.double r) =>
      intro e1 hd H locs ls2 hP2 hS2 hl2
      subst e1
      exact W.dret hC.ex hC.co B.returns (fun t ht hW => ⟨⟨rfl, by rw [ht]; exact hP2⟩, hS2.F ht⟩) hS2.2.2 hd hlocks
    | some .null =>
      rintro (⟨n, e1⟩ | ⟨n, e1⟩) hv hd H locs ls2 hP2 hS2 hl2
      · subst e1
        exact W.aret hC.ex hC.co B.returns (Or.inl ⟨_, rfl⟩) hv (fun t ht hW => ⟨⟨rfl, by rw [ht]; exact hP2⟩, hS2.F ht⟩) hS2.2.2 hd hlocks
      · subst e1
        exact W.aret hC.ex hC.co B.returns (Or.inr ⟨_, rfl⟩) hv (fun t ht hW => ⟨⟨rfl, by rw [ht]; exact hP2⟩, hS2.F ht⟩) hS2.2.2 hd hlocks
    | some (.ref a) =>
      rintro (⟨n, e1⟩ | ⟨n, e1⟩) hv hd H locs ls2 hP2 hS2 hl2
      · subst e1
        exact W.aret hC.ex hC.co B.returns (Or.inl ⟨_, rfl⟩) hv (fun t ht hW => ⟨⟨rfl, by rw [ht]; exact hP2⟩, hS2.F ht⟩) hS2.2.2 hd hlocks
      · subst e1
        exact W.aret hC.ex hC.co B.returns (Or.inr ⟨_, rfl⟩) hv (fun t ht hW => ⟨⟨rfl, by rw [ht]; exact hP2⟩, hS2.F ht⟩) hS2.2.2 hd hlocks
    | some (.long r) =>
      intro e1 hd H locs ls2 hP2 hS2 hl2
      subst e1
      exact W.lret hC.ex hC.co B.returns (fun t ht hW => ⟨⟨rfl, by rw [ht]; exact hP2⟩, hS2.F ht⟩) hS2.2.2 hd hlocks
    | some (.float r) =>
      rintro h1 (h2 | ⟨a, h2⟩) <;> cases h2
    | some (.retAddr r) =>
      rintro h1 (h2 | ⟨a, h2⟩) <;> cases h2
  · exact hl.1.trans hml.symm
  · intro i v hv
    by_cases hi : i < vs.length
    · rw [List.getElem?_append_left (by rw [List.length_map]; exact hi), List.getElem?_map] at hv
      cases hq : vs[i]? with
      | none => rw [hq] at hv; cases hv
      | some u =>
        rw [hq] at hv
        have e : u = v := Option.some.inj (Option.some.inj hv)
        have h1 := args_cat1 vs 0 hcat i u hq
        rw [Nat.zero_add, e] at h1
        exact hl.2.2 _ h1
    · rw [List.getElem?_append_right (by rw [List.length_map]; omega)] at hv
      have h1 := List.eq_of_mem_replicate (List.mem_of_getElem? hv)
      cases h1

