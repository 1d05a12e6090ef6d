/-! MEMORY: ints by code and slot; the references of the one row of states. Codes 1 .. 149 are the cells that the constructor makes, 159 is the script. -/
abbrev Mem : Type := (Nat → Nat → Int32) × (Nat → Nat)
def gI (M : Mem) (r k : Nat) : Int32 := M.1 r k
def sI (M : Mem) (r k : Nat) (v : Int32) : Mem := (fun r2 k2 => if r2 = r ∧ k2 = k then v else M.1 r2 k2, M.2)
def gH (M : Mem) (k : Nat) : Nat := M.2 k
def sH (M : Mem) (k v : Nat) : Mem := (M.1, fun k2 => if k2 = k then v else M.2 k2)
/-- kinds: 1 + the class's number; 8 int[], 9 Edition[], 10 Ruling[], 11 State[], 12 the script -/
def kdL : List Nat := [0, 6, 11, 2, 8, 1, 8, 4, 8, 8, 8, 8] ++ ((List.replicate 6 [5, 8, 8, 9, 10, 1, 8, 1, 8, 1, 8, 1, 8, 3, 3, 3, 3, 3, 3, 3, 3, 3, 3]).flatten ++ [0, 0, 0, 0, 0, 0, 0, 0, 0, 12])
def kd (r : Nat) : Nat := kdL.getD r 0
def lnL : List Nat := [0, 0, 4, 0, 60, 0, 12, 0, 12, 12, 12, 13] ++ ((List.replicate 6 [0, 6, 2, 4, 10, 0, 12, 0, 12, 0, 12, 0, 12, 0, 0, 0, 0, 0, 0, 0, 0, 0, 0]).flatten ++ [0, 0, 0, 0, 0, 0, 0, 0, 0, 0])
def ln (r : Nat) : Nat := lnL.getD r 0
/-- the final references -/
def fld (r k : Nat) : Nat := match kd r with
  | 1 => if k = 0 then r + 1 else 0
  | 2 => if k = 0 then r + 1 else 0
  | 4 => if k < 4 then r + 1 + k else 0
  | 5 => if k < 4 then r + 1 + k else 0
  | 6 => match k with
    | 0 => 12
    | 1 => 35
    | 2 => 2
    | 3 => 3
    | 4 => 5
    | 5 => 7
    | _ => 0
  | 9 => if k < 4 then r + 2 + 2 * k else 0
  | 10 => if k < 10 then r + 9 + k else 0
  | _ => 0
/-- the world's parameters: classes and slots; the array classes; where each code's cell is; which cells may change -/
abbrev Om : Type := va_G × (Nat → ClassId) × (Nat → Nat) × (Nat → Prop)
def oa (w : Om) (r : Nat) : Option Nat := if r = 0 then none else some (w.2.2.1 r)
def rv (w : Om) (r : Nat) : Value := va_rf (oa w r)
def flds (w : Om) (M : Mem) (ci r : Nat) : List Value := match ci with
  | 0 => [rv w (fld r 0), .int (gI M r 1), .int (gI M r 2), .int (gI M r 3), .int (gI M r 4)]
  | 1 => [rv w (fld r 0), .int (gI M r 1)]
  | 2 => [.int (gI M r 0), .int (gI M r 1), .int (gI M r 2), .int (gI M r 3), .int (gI M r 4), .int (gI M r 5), .int (gI M r 6)]
  | 3 => [rv w (fld r 0), rv w (fld r 1), rv w (fld r 2), rv w (fld r 3), .int (gI M r 4), .int (gI M r 5), .int (gI M r 6)]
  | 4 => [rv w (fld r 0), rv w (fld r 1), rv w (fld r 2), rv w (fld r 3), .int (gI M r 4), .int (gI M r 5), .int (gI M r 6), .int (gI M r 7), .int (gI M r 8)]
  | _ => [rv w (fld r 0), rv w (fld r 1), rv w (fld r 2), rv w (fld r 3), rv w (fld r 4), rv w (fld r 5), .int (gI M r 6), .int (gI M r 7), .int (gI M r 8), .int (gI M r 9), .int (gI M r 10), .int (gI M r 11)]
def cell (w : Om) (M : Mem) (r : Nat) : va_E := if kd r < 8 then .inr (kd r - 1, flds w M (kd r - 1) r) else
  if kd r = 8 then .inl (w.2.1 0, ln r, .inl (M.1 r)) else
  if kd r = 11 then .inl (w.2.1 3, ln r, .inr (.inr (.inr (.inr (fun k => oa w (M.2 k)))))) else
  .inl (w.2.1 (kd r - 8), ln r, .inr (.inr (.inr (.inr (fun k => oa w (fld r k))))))
def wo (w : Om) (M : Mem) : va_W := (List.range 149).map (fun i => (w.2.2.1 (i + 1), cell w M (i + 1)))
def tys (w : Om) : List (ClassId × FieldType) := [(w.2.1 0, .int), (w.2.1 1, .object "CommaCourt$Edition"), (w.2.1 2, .object "CommaCourt$Ruling"), (w.2.1 3, .object "CommaCourt$State")]
def Wf (w : Om) : Prop := ∀ M : Mem, va_D w.2.2.2 (wo w M)
theorem kd_all : ∀ r, r < 160 → kd r ≠ 0 → kd r ≠ 12 → 1 ≤ r ∧ r ≤ 149 := by decide +kernel
theorem kd_len : kdL.length = 160 := by decide +kernel
theorem kd_lt {r : Nat} (h : kd r ≠ 0) : r < 160 := by
  by_cases h1 : r < 160
  · exact h1
  · exact absurd (by unfold kd; rw [List.getD_eq_getElem?_getD, List.getElem?_eq_none (by rw [kd_len]; omega)]; rfl) h
theorem kd_in {r : Nat} (h : kd r ≠ 0) (h2 : kd r ≠ 12) : 1 ≤ r ∧ r ≤ 149 := kd_all r (kd_lt h) h h2
theorem kd_11a : ∀ r, r < 160 → kd r = 11 → r = 2 := by decide +kernel
theorem kd_11 {r : Nat} (h : kd r = 11) : r = 2 := kd_11a r (kd_lt (by rw [h]; decide)) h
theorem wo_at {w : Om} {M : Mem} {r : Nat} (h : 1 ≤ r ∧ r ≤ 149) : (wo w M)[r - 1]? = some (w.2.2.1 r, cell w M r) := by
  unfold wo
  rw [List.getElem?_map, List.getElem?_range (by omega)]
  simp only [Option.map_some, Option.some.injEq]
  rw [show r - 1 + 1 = r by omega]
theorem wo_set {w : Om} {M M2 : Mem} {r : Nat} {e : va_E} (h : 1 ≤ r ∧ r ≤ 149) (he : cell w M2 r = e) (ho : ∀ q, q ≠ r → cell w M2 q = cell w M q) : (wo w M).set (r - 1) (w.2.2.1 r, e) = wo w M2 := by
  apply List.ext_getElem?
  intro i
  rw [List.getElem?_set]
  by_cases h1 : r - 1 = i
  · subst h1
    rw [if_pos rfl, if_pos (by unfold wo; rw [List.length_map, List.length_range]; omega), wo_at h, he]
  · rw [if_neg h1]
    unfold wo
    rw [List.getElem?_map, List.getElem?_map]
    by_cases h2 : i < 149
    · rw [List.getElem?_range h2]
      simp only [Option.map_some, Option.some.injEq, Prod.mk.injEq, true_and]
      exact (ho _ (by omega)).symm
    · rw [List.getElem?_eq_none (by rw [List.length_range]; omega)]
      rfl
theorem sI_ne {M : Mem} {r k : Nat} {v : Int32} {q : Nat} (h : q ≠ r) : (sI M r k v).1 q = M.1 q := by
  funext j
  simp [sI, h]
theorem gI_ne {M : Mem} {r k : Nat} {v : Int32} {q j : Nat} (h : q ≠ r) : gI (sI M r k v) q j = gI M q j := by
  unfold gI
  rw [sI_ne h]
theorem flds_ne {w : Om} {M : Mem} {r k ci : Nat} {v : Int32} {q : Nat} (h : q ≠ r) : flds w (sI M r k v) ci q = flds w M ci q := by
  unfold flds
  simp only [gI_ne h]
theorem cell_sI {w : Om} {M : Mem} {r k : Nat} {v : Int32} {q : Nat} (h : q ≠ r) : cell w (sI M r k v) q = cell w M q := by
  unfold cell
  rw [flds_ne h, sI_ne h]
  rfl
theorem cell_o {w : Om} {M : Mem} {r ci : Nat} (hc : ci < 7) (h : kd r = ci + 1) : cell w M r = .inr (ci, flds w M ci r) := by
  unfold cell
  rw [if_pos (by omega), h]
  rfl
theorem cell_i {w : Om} {M : Mem} {r : Nat} (h : kd r = 8) : cell w M r = .inl (w.2.1 0, ln r, .inl (M.1 r)) := by
  unfold cell
  rw [if_neg (by omega), if_pos h]
theorem cell_r {w : Om} {M : Mem} {r : Nat} (h : kd r = 9 ∨ kd r = 10) : cell w M r = .inl (w.2.1 (kd r - 8), ln r, .inr (.inr (.inr (.inr (fun k => oa w (fld r k)))))) := by
  unfold cell
  rw [if_neg (by omega), if_neg (by omega), if_neg (by omega)]
theorem cell_s {w : Om} {M : Mem} {r : Nat} (h : kd r = 11) : cell w M r = .inl (w.2.1 3, ln r, .inr (.inr (.inr (.inr (fun k => oa w (M.2 k)))))) := by
  unfold cell
  rw [if_neg (by omega), if_neg (by omega), if_pos h]
theorem rv_some {w : Om} {r : Nat} (h : kd r ≠ 0) : rv w r = .ref (w.2.2.1 r) := by
  unfold rv oa
  rw [if_neg (by intro e; subst e; exact h (by decide))]
  rfl
theorem rv_cat (w : Om) (r : Nat) : (rv w r).category = 1 := by
  unfold rv oa
  by_cases h : r = 0
  · rw [if_pos h]; rfl
  · rw [if_neg h]; rfl
theorem rv_or (w : Om) (r : Nat) : rv w r = .null ∨ ∃ a, rv w r = .ref a := by
  unfold rv oa
  by_cases h : r = 0
  · rw [if_pos h]; exact Or.inl rfl
  · rw [if_neg h]; exact Or.inr ⟨_, rfl⟩
/-! THE WALK'S STANDING -/
def lw_g : List Cond := lw_tbl.filter goodWord
theorem lw_gg : GoodIn lw_g lw_g := fun w h => ⟨h, good_of_word (List.mem_filter.mp h).2⟩
theorem in_g {x : Cond} (k : Nat) (h : lw_tbl[k]? = some x) (hg : goodWord x = true) : x ∈ lw_g := List.mem_filter.mpr ⟨List.mem_of_getElem? h, hg⟩
/-- the links to nest mates' private members -/
def nsL : List (String × Nat × MethodName × String) := [("CommaCourt$State", 30, ⟨"CommaCourt", "put", "([III)V"⟩, "CommaCourt"), ("CommaCourt$State", 34, ⟨"CommaCourt$Edition", "<init>", "()V"⟩, "CommaCourt"), ("CommaCourt$State", 35, ⟨"CommaCourt$Ruling", "<init>", "()V"⟩, "CommaCourt"), ("CommaCourt", 25, ⟨"CommaCourt$Pad", "<init>", "()V"⟩, "CommaCourt"), ("CommaCourt", 32, ⟨"CommaCourt$Edition", "<init>", "()V"⟩, "CommaCourt"), ("CommaCourt", 39, ⟨"CommaCourt$Sheet", "<init>", "()V"⟩, "CommaCourt"), ("CommaCourt$State", 36, ⟨"CommaCourt", "at", "([II)I"⟩, "CommaCourt"), ("CommaCourt$Edition", 15, ⟨"CommaCourt", "at", "([II)I"⟩, "CommaCourt"), ("CommaCourt$Edition", 19, ⟨"CommaCourt", "put", "([III)V"⟩, "CommaCourt"), ("CommaCourt$Pad", 19, ⟨"CommaCourt", "at", "([II)I"⟩, "CommaCourt"), ("CommaCourt$Pad", 27, ⟨"CommaCourt", "isWithin", "(III)Z"⟩, "CommaCourt"), ("CommaCourt$Pad", 46, ⟨"CommaCourt", "put", "([III)V"⟩, "CommaCourt"), ("CommaCourt$Sheet", 36, ⟨"CommaCourt", "at", "([II)I"⟩, "CommaCourt"), ("CommaCourt$Sheet", 51, ⟨"CommaCourt", "put", "([III)V"⟩, "CommaCourt")]
def Ns (U : State) : Prop := ∀ q ∈ nsL, va_Nw (.methodLinkNest q.1 q.2.1 q.2.2.1 q.2.2.2) U
theorem Ns.warm {s U : State} (hW : s.WarmedH U.vm) (h : Ns s) : Ns U := fun q hq => va_Nw.warmM hW (h q hq)
theorem Ns.same {u U : State} (e : u.vm = U.vm) (h : Ns u) : Ns U := fun q hq => va_Nw.same rfl e (h q hq)
/-- locals by place: what is known of them -/
def lh (ls : Array Slot) (nL : Nat) (L : List (Option Value)) : Prop := ls.size = nL ∧ lv_wf ls ∧ ∀ (i : Nat) (v : Value), L[i]? = some (some v) → ls[i]? = some (.val v)
def lvs (L : List (Option Value)) : List (Nat × Value) := (List.range L.length).filterMap (fun i => match L[i]? with
  | some (some v) => some (i, v)
  | _ => none)
theorem lvs_mem {L : List (Option Value)} {q : Nat × Value} : q ∈ lvs L ↔ L[q.1]? = some (some q.2) := by
  obtain ⟨i, v⟩ := q
  unfold lvs
  rw [List.mem_filterMap]
  constructor
  · rintro ⟨j, hj, h⟩
    split at h
    · rename_i v2 e
      cases h
      exact e
    · cases h
  · intro h
    refine ⟨i, List.mem_range.mpr (List.getElem?_eq_some_iff.mp h).1, ?_⟩
    simp only at h
    rw [h]
theorem lh_has {ls : Array Slot} {nL : Nat} {L : List (Option Value)} (h : lh ls nL L) : lv_has ls nL (lvs L) := ⟨h.1, h.2.1, fun q hq => h.2.2 _ _ (lvs_mem.mp hq)⟩
/-- the place ahead holds no half of two -/
def NC (L : List (Option Value)) (i : Nat) : Prop := match i with
  | 0 => True
  | j + 1 => match L[j]? with
    | some (some v) => v.category = 1
    | _ => True
theorem NC_use {L : List (Option Value)} {j : Nat} (h : NC L (j + 1)) {v : Value} (e : L[j]? = some (some v)) : v.category = 1 := by
  unfold NC at h
  simp only [e] at h
  exact h
theorem lh_set {ls2 : Array Slot} {nL i : Nat} {L : List (Option Value)} {v : Value} (hc : NC L i) (h : lv_has ls2 nL ((i, v) :: (lvs L).filter (fun q => !(q.1 == i) && !(q.1 + 1 == i && q.2.category == 2)))) : lh ls2 nL (L.set i (some v)) := by
  refine ⟨h.1, h.2.1, fun k u hk => ?_⟩
  rw [List.getElem?_set] at hk
  by_cases hik : i = k
  · subst hik
    rw [if_pos rfl] at hk
    by_cases hl : i < L.length
    · rw [if_pos hl] at hk
      cases hk
      exact h.2.2 (i, v) List.mem_cons_self
    · rw [if_neg hl] at hk
      cases hk
  · rw [if_neg hik] at hk
    refine h.2.2 (k, u) (List.mem_cons_of_mem _ (List.mem_filter.mpr ⟨lvs_mem.mpr hk, ?_⟩))
    have h1 : (k == i) = false := by simpa using fun e : k = i => hik e.symm
    by_cases h2 : k + 1 = i
    · subst h2
      have := NC_use hc hk
      simp [this]
    · simp [h2]
      omega
theorem lh_set2 {ls2 : Array Slot} {nL i : Nat} {L : List (Option Value)} {v : Value} (hc : NC L i) (h : lv_has ls2 nL ((i, v) :: (lvs L).filter (fun q => !(q.1 == i) && (!(q.1 == i + 1) && !(q.1 + 1 == i && q.2.category == 2))))) : lh ls2 nL ((L.set i (some v)).set (i + 1) none) := by
  refine ⟨h.1, h.2.1, fun k u hk => ?_⟩
  rw [List.getElem?_set] at hk
  by_cases hik : i + 1 = k
  · subst hik
    rw [if_pos rfl] at hk
    split at hk <;> cases hk
  · rw [if_neg hik, List.getElem?_set] at hk
    by_cases hik2 : i = k
    · subst hik2
      rw [if_pos rfl] at hk
      by_cases hl : i < L.length
      · rw [if_pos hl] at hk
        cases hk
        exact h.2.2 (i, v) List.mem_cons_self
      · rw [if_neg hl] at hk
        cases hk
    · rw [if_neg hik2] at hk
      refine h.2.2 (k, u) (List.mem_cons_of_mem _ (List.mem_filter.mpr ⟨lvs_mem.mpr hk, ?_⟩))
      by_cases h2 : k + 1 = i
      · subst h2
        have := NC_use hc hk
        simp [this]
        omega
      · simp [h2]
        omega
/-- the frame's parameters -/
abbrev Fr : Type _ := Program × Launch × Env × Room × State × MethodId × Array Value × List Frame × Method × Code × Nat × Nat × (State → Prop)
abbrev f_p (f : Fr) : Program := f.1
abbrev f_l (f : Fr) : Launch := f.2.1
abbrev f_e (f : Fr) : Env := f.2.2.1
abbrev f_R (f : Fr) : Room := f.2.2.2.1
abbrev f_s (f : Fr) : State := f.2.2.2.2.1
abbrev f_m (f : Fr) : MethodId := f.2.2.2.2.2.1
abbrev f_a (f : Fr) : Array Value := f.2.2.2.2.2.2.1
abbrev f_b (f : Fr) : List Frame := f.2.2.2.2.2.2.2.1
abbrev f_me (f : Fr) : Method := f.2.2.2.2.2.2.2.2.1
abbrev f_c (f : Fr) : Code := f.2.2.2.2.2.2.2.2.2.1
abbrev f_ce (f : Fr) : Nat := f.2.2.2.2.2.2.2.2.2.2.1
abbrev f_sl (f : Fr) : Nat := f.2.2.2.2.2.2.2.2.2.2.2.1
abbrev f_Q (f : Fr) : State → Prop := f.2.2.2.2.2.2.2.2.2.2.2.2
def Go (w : Om) (f : Fr) (pc : Nat) (L : List (Option Value)) (st : List Value) (M : Mem) : Prop :=
  ∀ (H : Heap) (locs : List Loc) (ls : Array Slot), va_P w.1 vwCl (wo w M) H → va_S w.2.2.2 (f_s f).heap H locs → lh ls (f_c f).maxLocals L → W (f_p f) (f_l f) (f_e f) (f_R f) (f_s f) (f_m f) (f_a f) (f_b f) (f_me f) (f_c f) H locs (f_ce f) (f_sl f) (f_Q f) (F0 (f_m f) pc ls st)
/-- what holds of the frame throughout; nL: how many locals; lev: how deep calls may go -/
def Cx (w : Om) (f : Fr) (own : String) (cc : ByteArray) (nL lev : Nat) : Prop :=
  (f_p f).tables.exec = Jvm.exec ∧ (f_c f).code = cc ∧ (f_c f).maxLocals = nL ∧ (f_s f).vm.findClass own = some (f_m f).cls ∧ (∀ x ∈ lw_g, x.before (f_a f) (f_s f) = true) ∧ va_K w.1 vwCl (tys w) (f_s f) ∧ Wf w ∧ Ns (f_s f) ∧ lev + 1 ≤ (f_R f).frames ∧ 60 * (lev + 1) ≤ (f_R f).locals ∧ f_ce f ≤ (f_R f).cells ∧ f_sl f ≤ (f_R f).slots
section CX
variable {w : Om} {f : Fr} {own : String} {cc : ByteArray} {nL lev : Nat}
theorem Cx.ex (C : Cx w f own cc nL lev) : (f_p f).tables.exec = Jvm.exec := C.1
theorem Cx.co (C : Cx w f own cc nL lev) : (f_c f).code = cc := C.2.1
theorem Cx.ml (C : Cx w f own cc nL lev) : (f_c f).maxLocals = nL := C.2.2.1
theorem Cx.ow (C : Cx w f own cc nL lev) : (f_s f).vm.findClass own = some (f_m f).cls := C.2.2.2.1
theorem Cx.ts (C : Cx w f own cc nL lev) : ∀ x ∈ lw_g, x.before (f_a f) (f_s f) = true := C.2.2.2.2.1
theorem Cx.K (C : Cx w f own cc nL lev) : va_K w.1 vwCl (tys w) (f_s f) := C.2.2.2.2.2.1
theorem Cx.wf (C : Cx w f own cc nL lev) : Wf w := C.2.2.2.2.2.2.1
theorem Cx.ns (C : Cx w f own cc nL lev) : Ns (f_s f) := C.2.2.2.2.2.2.2.1
theorem Cx.fr (C : Cx w f own cc nL lev) : lev + 1 ≤ (f_R f).frames := C.2.2.2.2.2.2.2.2.1
theorem Cx.lo (C : Cx w f own cc nL lev) : 60 * (lev + 1) ≤ (f_R f).locals := C.2.2.2.2.2.2.2.2.2.1
theorem Cx.ce (C : Cx w f own cc nL lev) : f_ce f ≤ (f_R f).cells := C.2.2.2.2.2.2.2.2.2.2.1
theorem Cx.sl (C : Cx w f own cc nL lev) : f_sl f ≤ (f_R f).slots := C.2.2.2.2.2.2.2.2.2.2.2
end CX
