/-! THE CLAIM OUT OF ONE WALK OF THE LAW'S BODY. Your part is whole_start (and what it stands on); all else here is the same for every law, but numbers. -/
def R_law : String := "CommaCourtLaw"
def lw_P (b : Addr) (xs : List Int32) (args : Array Value) (s : State) : Prop := args = #[.ref b] ∧ s.IntsAt b xs ∧ xs.length ≤ 260 ∧ (Jvm.Cond.and given_1 narrow_1).before args s = true
/-- what a walk over the start with the record d0 says of its end, said of the start itself -/
theorem lw_closed {s t : State} {o : Outcome} {d0 : Drawn} {L : List Loc} {k n : Nat} (hd0 : s.drawn.sameBut d0 lw_cs) (hv : ∃ v, o = .returned v) (hW : (s.setDrawn d0).WarmedH t.vm) (hs : (s.setDrawn d0).sameButNew ({ t with vm := s.vm } : State) L k n) : State.butDraws s t lw_cs (fun t1 => Framed s o t1 L k n) := by
  have h2 : t.drawn = d0 := congrArg State.drawn hs.1
  refine ⟨⟨hv, hW, State.sameButNew.setDrawn hs s.drawn⟩, ?_, by decide⟩
  rw [h2]
  exact hd0
def lw_Q (_ : Array Value) (s : State) (o : Outcome) (t : State) : Prop := o = .returned (some (.int 1)) ∧ State.butDraws s t lw_cs (fun t1 => Framed s o t1 [] 654553 7138588)
def lw_Z (below : List Frame) (a : Array Value) (s : State) : State → Prop := fun t => ∃ o, t.status = .running ∧ Ended t below o ∧ lw_Q a s o t
/-- the law's own end, with 1 on the stack, nothing written that was there before, its room as the claim has it; d0: the record of draws at this point (at the entry s.drawn: begin with 'refine W.base ?_' and 'have hd0 := Drawn.sameBut.refl s.drawn lw_cs') -/
theorem lw_ret {p : Program} {l : Launch} {e : Env} {s : State} {m : MethodId} {below : List Frame} {meth : Method} {c : Code} {b : Nat} {d0 : Drawn} (hd0 : s.drawn.sameBut d0 lw_cs) (hx : p.tables.exec = Jvm.exec) (hb : c.code = code) (hr : meth.sig.returnType = ret) (hlocks : meth.locks = false) {pc : Nat} {H : Heap} {ls : Array Slot} (hdg : decode code pc = .ok (.ireturn, 1)) : W p l e room_1 (s.setDrawn d0) m #[Value.ref b] below meth c H [] 654553 7138588 (lw_Z below #[Value.ref b] s) (F0 m pc ls [.int 1]) := by
  intro T hT X
  obtain ⟨fs, hret, hrun, hended, hW, hframe⟩ := X.leave (v := some (.int 1)) (hlocks := hlocks) (fun h => by rw [hr] at h; cases h)
  have hmeth' : T.vm.method? m = some meth := X.method'
  refine ⟨T.setFrames fs, ?_, .returned (some (.int 1)), hrun, hended, rfl, lw_closed hd0 ⟨_, rfl⟩ hW hframe⟩
  jvm_step X.here [X.here.top, hx, hb, hdg, hmeth', hr, ret, narrow_b1]
  (try refine ⟨rfl, ?_⟩); (try refine ⟨rfl, ?_⟩)
  first | (intro acts; rw [hret _ acts rfl rfl rfl]) | rw [hret _ _ rfl rfl rfl]
  exact Steps.refl _
/-- what holds at the law's entry: the machine, the code, the tables' words (any of lw_tbl by 'hts w (by decide +kernel)'), the script of L ints xs at the cell b, what the Statement gives of the start (any of its parts by flat_of_before) -/
def lw_At (p : Program) (s : State) (m : MethodId) (meth : Method) (c : Code) (b L : Nat) (xs : Nat → Int32) : Prop :=
  p.tables.exec = Jvm.exec ∧ c.code = code ∧ meth.sig.returnType = ret ∧ c.maxLocals = 13 ∧ s.vm.findClass R_law = some m.cls ∧ (∀ w ∈ lw_tbl, w.before #[Value.ref b] s = true) ∧ va_X b L xs s s.heap ∧ b < s.heap.size ∧ meth.locks = false ∧ (Jvm.Cond.and given_1 narrow_1).before #[Value.ref b] s = true
/-- where each code's cell is -/
def adF (bs a1 : Nat) (b : Nat → Nat) (u : Nat → Nat → Nat) (v : Nat → Nat) (r : Nat) : Nat := if r = 159 then bs else if r < 12 then (if r = 1 then a1 else v r) else if r < 150 then (if (r - 12) % 23 = 0 then b ((r - 12) / 23) else u ((r - 12) / 23) ((r - 12) % 23)) else 0
theorem lcons {α : Type} {x y : α} {l m : List α} (h : x = y) (h2 : l = m) : x :: l = y :: m := by rw [h, h2]
section FIN
variable {D : va_G} {cy : Nat → ClassId} {A : Nat → Prop} {bs a1 : Nat} {b : Nat → Nat} {u : Nat → Nat → Nat} {v : Nat → Nat}
theorem kdn_0 : kd 0 = 0 := by decide +kernel
theorem kdn_1 : kd 1 = 6 := by decide +kernel
theorem kdn_2 : kd 2 = 11 := by decide +kernel
theorem kdn_3 : kd 3 = 2 := by decide +kernel
theorem kdn_4 : kd 4 = 8 := by decide +kernel
theorem kdn_5 : kd 5 = 1 := by decide +kernel
theorem kdn_6 : kd 6 = 8 := by decide +kernel
theorem kdn_7 : kd 7 = 4 := by decide +kernel
theorem kdn_8 : kd 8 = 8 := by decide +kernel
theorem kdn_9 : kd 9 = 8 := by decide +kernel
theorem kdn_10 : kd 10 = 8 := by decide +kernel
theorem kdn_11 : kd 11 = 8 := by decide +kernel
theorem kdn_12 : kd 12 = 5 := by decide +kernel
theorem kdn_13 : kd 13 = 8 := by decide +kernel
theorem kdn_14 : kd 14 = 8 := by decide +kernel
theorem kdn_15 : kd 15 = 9 := by decide +kernel
theorem kdn_16 : kd 16 = 10 := by decide +kernel
theorem kdn_17 : kd 17 = 1 := by decide +kernel
theorem kdn_18 : kd 18 = 8 := by decide +kernel
theorem kdn_19 : kd 19 = 1 := by decide +kernel
theorem kdn_20 : kd 20 = 8 := by decide +kernel
theorem kdn_21 : kd 21 = 1 := by decide +kernel
theorem kdn_22 : kd 22 = 8 := by decide +kernel
theorem kdn_23 : kd 23 = 1 := by decide +kernel
theorem kdn_24 : kd 24 = 8 := by decide +kernel
theorem kdn_25 : kd 25 = 3 := by decide +kernel
theorem kdn_26 : kd 26 = 3 := by decide +kernel
theorem kdn_27 : kd 27 = 3 := by decide +kernel
theorem kdn_28 : kd 28 = 3 := by decide +kernel
theorem kdn_29 : kd 29 = 3 := by decide +kernel
theorem kdn_30 : kd 30 = 3 := by decide +kernel
theorem kdn_31 : kd 31 = 3 := by decide +kernel
theorem kdn_32 : kd 32 = 3 := by decide +kernel
theorem kdn_33 : kd 33 = 3 := by decide +kernel
theorem kdn_34 : kd 34 = 3 := by decide +kernel
theorem kdn_35 : kd 35 = 5 := by decide +kernel
theorem kdn_36 : kd 36 = 8 := by decide +kernel
theorem kdn_37 : kd 37 = 8 := by decide +kernel
theorem kdn_38 : kd 38 = 9 := by decide +kernel
theorem kdn_39 : kd 39 = 10 := by decide +kernel
theorem kdn_40 : kd 40 = 1 := by decide +kernel
theorem kdn_41 : kd 41 = 8 := by decide +kernel
theorem kdn_42 : kd 42 = 1 := by decide +kernel
theorem kdn_43 : kd 43 = 8 := by decide +kernel
theorem kdn_44 : kd 44 = 1 := by decide +kernel
theorem kdn_45 : kd 45 = 8 := by decide +kernel
theorem kdn_46 : kd 46 = 1 := by decide +kernel
theorem kdn_47 : kd 47 = 8 := by decide +kernel
theorem kdn_48 : kd 48 = 3 := by decide +kernel
theorem kdn_49 : kd 49 = 3 := by decide +kernel
theorem kdn_50 : kd 50 = 3 := by decide +kernel
theorem kdn_51 : kd 51 = 3 := by decide +kernel
theorem kdn_52 : kd 52 = 3 := by decide +kernel
theorem kdn_53 : kd 53 = 3 := by decide +kernel
theorem kdn_54 : kd 54 = 3 := by decide +kernel
theorem kdn_55 : kd 55 = 3 := by decide +kernel
theorem kdn_56 : kd 56 = 3 := by decide +kernel
theorem kdn_57 : kd 57 = 3 := by decide +kernel
theorem kdn_58 : kd 58 = 5 := by decide +kernel
theorem kdn_59 : kd 59 = 8 := by decide +kernel
theorem kdn_60 : kd 60 = 8 := by decide +kernel
theorem kdn_61 : kd 61 = 9 := by decide +kernel
theorem kdn_62 : kd 62 = 10 := by decide +kernel
theorem kdn_63 : kd 63 = 1 := by decide +kernel
theorem kdn_64 : kd 64 = 8 := by decide +kernel
theorem kdn_65 : kd 65 = 1 := by decide +kernel
theorem kdn_66 : kd 66 = 8 := by decide +kernel
theorem kdn_67 : kd 67 = 1 := by decide +kernel
theorem kdn_68 : kd 68 = 8 := by decide +kernel
theorem kdn_69 : kd 69 = 1 := by decide +kernel
theorem kdn_70 : kd 70 = 8 := by decide +kernel
theorem kdn_71 : kd 71 = 3 := by decide +kernel
theorem kdn_72 : kd 72 = 3 := by decide +kernel
theorem kdn_73 : kd 73 = 3 := by decide +kernel
theorem kdn_74 : kd 74 = 3 := by decide +kernel
theorem kdn_75 : kd 75 = 3 := by decide +kernel
theorem kdn_76 : kd 76 = 3 := by decide +kernel
theorem kdn_77 : kd 77 = 3 := by decide +kernel
theorem kdn_78 : kd 78 = 3 := by decide +kernel
theorem kdn_79 : kd 79 = 3 := by decide +kernel
theorem kdn_80 : kd 80 = 3 := by decide +kernel
theorem kdn_81 : kd 81 = 5 := by decide +kernel
theorem kdn_82 : kd 82 = 8 := by decide +kernel
theorem kdn_83 : kd 83 = 8 := by decide +kernel
theorem kdn_84 : kd 84 = 9 := by decide +kernel
theorem kdn_85 : kd 85 = 10 := by decide +kernel
theorem kdn_86 : kd 86 = 1 := by decide +kernel
theorem kdn_87 : kd 87 = 8 := by decide +kernel
theorem kdn_88 : kd 88 = 1 := by decide +kernel
theorem kdn_89 : kd 89 = 8 := by decide +kernel
theorem kdn_90 : kd 90 = 1 := by decide +kernel
theorem kdn_91 : kd 91 = 8 := by decide +kernel
theorem kdn_92 : kd 92 = 1 := by decide +kernel
theorem kdn_93 : kd 93 = 8 := by decide +kernel
theorem kdn_94 : kd 94 = 3 := by decide +kernel
theorem kdn_95 : kd 95 = 3 := by decide +kernel
theorem kdn_96 : kd 96 = 3 := by decide +kernel
theorem kdn_97 : kd 97 = 3 := by decide +kernel
theorem kdn_98 : kd 98 = 3 := by decide +kernel
theorem kdn_99 : kd 99 = 3 := by decide +kernel
theorem kdn_100 : kd 100 = 3 := by decide +kernel
theorem kdn_101 : kd 101 = 3 := by decide +kernel
theorem kdn_102 : kd 102 = 3 := by decide +kernel
theorem kdn_103 : kd 103 = 3 := by decide +kernel
theorem kdn_104 : kd 104 = 5 := by decide +kernel
theorem kdn_105 : kd 105 = 8 := by decide +kernel
theorem kdn_106 : kd 106 = 8 := by decide +kernel
theorem kdn_107 : kd 107 = 9 := by decide +kernel
theorem kdn_108 : kd 108 = 10 := by decide +kernel
theorem kdn_109 : kd 109 = 1 := by decide +kernel
theorem kdn_110 : kd 110 = 8 := by decide +kernel
theorem kdn_111 : kd 111 = 1 := by decide +kernel
theorem kdn_112 : kd 112 = 8 := by decide +kernel
theorem kdn_113 : kd 113 = 1 := by decide +kernel
theorem kdn_114 : kd 114 = 8 := by decide +kernel
theorem kdn_115 : kd 115 = 1 := by decide +kernel
theorem kdn_116 : kd 116 = 8 := by decide +kernel
theorem kdn_117 : kd 117 = 3 := by decide +kernel
theorem kdn_118 : kd 118 = 3 := by decide +kernel
theorem kdn_119 : kd 119 = 3 := by decide +kernel
theorem kdn_120 : kd 120 = 3 := by decide +kernel
theorem kdn_121 : kd 121 = 3 := by decide +kernel
theorem kdn_122 : kd 122 = 3 := by decide +kernel
theorem kdn_123 : kd 123 = 3 := by decide +kernel
theorem kdn_124 : kd 124 = 3 := by decide +kernel
theorem kdn_125 : kd 125 = 3 := by decide +kernel
theorem kdn_126 : kd 126 = 3 := by decide +kernel
theorem kdn_127 : kd 127 = 5 := by decide +kernel
theorem kdn_128 : kd 128 = 8 := by decide +kernel
theorem kdn_129 : kd 129 = 8 := by decide +kernel
theorem kdn_130 : kd 130 = 9 := by decide +kernel
theorem kdn_131 : kd 131 = 10 := by decide +kernel
theorem kdn_132 : kd 132 = 1 := by decide +kernel
theorem kdn_133 : kd 133 = 8 := by decide +kernel
theorem kdn_134 : kd 134 = 1 := by decide +kernel
theorem kdn_135 : kd 135 = 8 := by decide +kernel
theorem kdn_136 : kd 136 = 1 := by decide +kernel
theorem kdn_137 : kd 137 = 8 := by decide +kernel
theorem kdn_138 : kd 138 = 1 := by decide +kernel
theorem kdn_139 : kd 139 = 8 := by decide +kernel
theorem kdn_140 : kd 140 = 3 := by decide +kernel
theorem kdn_141 : kd 141 = 3 := by decide +kernel
theorem kdn_142 : kd 142 = 3 := by decide +kernel
theorem kdn_143 : kd 143 = 3 := by decide +kernel
theorem kdn_144 : kd 144 = 3 := by decide +kernel
theorem kdn_145 : kd 145 = 3 := by decide +kernel
theorem kdn_146 : kd 146 = 3 := by decide +kernel
theorem kdn_147 : kd 147 = 3 := by decide +kernel
theorem kdn_148 : kd 148 = 3 := by decide +kernel
theorem kdn_149 : kd 149 = 3 := by decide +kernel
theorem kdn_150 : kd 150 = 0 := by decide +kernel
theorem kdn_151 : kd 151 = 0 := by decide +kernel
theorem kdn_152 : kd 152 = 0 := by decide +kernel
theorem kdn_153 : kd 153 = 0 := by decide +kernel
theorem kdn_154 : kd 154 = 0 := by decide +kernel
theorem kdn_155 : kd 155 = 0 := by decide +kernel
theorem kdn_156 : kd 156 = 0 := by decide +kernel
theorem kdn_157 : kd 157 = 0 := by decide +kernel
theorem kdn_158 : kd 158 = 0 := by decide +kernel
theorem kdn_159 : kd 159 = 12 := by decide +kernel
theorem fld_9 {r k : Nat} (h : kd r = 9) : fld r k = if k < 4 then r + 2 + 2 * k else 0 := by unfold fld; rw [h]; rfl
theorem fld_10 {r k : Nat} (h : kd r = 10) : fld r k = if k < 10 then r + 9 + k else 0 := by unfold fld; rw [h]; rfl
theorem fc_2 : (va_up (va_up (va_up (va_up (fun _ => none) 0 (some (b 2))) 1 (some (b 3))) 2 (some (b 4))) 3 (some (b 5))) = fun k => oa ((D, cy, adF bs a1 b u v, A) : Om) (M0.2 k) := by
  funext k
  match k with
  | 0 => rfl
  | 1 => rfl
  | 2 => rfl
  | 3 => rfl
  | k + 4 => simp [va_up, oa, M0]
theorem fc_15 : (va_up (va_up (va_up (va_up (fun _ => none) 0 (some (u 0 5))) 1 (some (u 0 7))) 2 (some (u 0 9))) 3 (some (u 0 11))) = fun k => oa ((D, cy, adF bs a1 b u v, A) : Om) (fld 15 k) := by
  funext k
  match k with
  | 0 => rfl
  | 1 => rfl
  | 2 => rfl
  | 3 => rfl
  | k + 4 => simp [va_up, oa, fld_9 kdn_15]
theorem fc_16 : (va_up (va_up (va_up (va_up (va_up (va_up (va_up (va_up (va_up (va_up (fun _ => none) 0 (some (u 0 13))) 1 (some (u 0 14))) 2 (some (u 0 15))) 3 (some (u 0 16))) 4 (some (u 0 17))) 5 (some (u 0 18))) 6 (some (u 0 19))) 7 (some (u 0 20))) 8 (some (u 0 21))) 9 (some (u 0 22))) = fun k => oa ((D, cy, adF bs a1 b u v, A) : Om) (fld 16 k) := by
  funext k
  match k with
  | 0 => rfl
  | 1 => rfl
  | 2 => rfl
  | 3 => rfl
  | 4 => rfl
  | 5 => rfl
  | 6 => rfl
  | 7 => rfl
  | 8 => rfl
  | 9 => rfl
  | k + 10 => simp [va_up, oa, fld_10 kdn_16]
theorem fc_38 : (va_up (va_up (va_up (va_up (fun _ => none) 0 (some (u 1 5))) 1 (some (u 1 7))) 2 (some (u 1 9))) 3 (some (u 1 11))) = fun k => oa ((D, cy, adF bs a1 b u v, A) : Om) (fld 38 k) := by
  funext k
  match k with
  | 0 => rfl
  | 1 => rfl
  | 2 => rfl
  | 3 => rfl
  | k + 4 => simp [va_up, oa, fld_9 kdn_38]
theorem fc_39 : (va_up (va_up (va_up (va_up (va_up (va_up (va_up (va_up (va_up (va_up (fun _ => none) 0 (some (u 1 13))) 1 (some (u 1 14))) 2 (some (u 1 15))) 3 (some (u 1 16))) 4 (some (u 1 17))) 5 (some (u 1 18))) 6 (some (u 1 19))) 7 (some (u 1 20))) 8 (some (u 1 21))) 9 (some (u 1 22))) = fun k => oa ((D, cy, adF bs a1 b u v, A) : Om) (fld 39 k) := by
  funext k
  match k with
  | 0 => rfl
  | 1 => rfl
  | 2 => rfl
  | 3 => rfl
  | 4 => rfl
  | 5 => rfl
  | 6 => rfl
  | 7 => rfl
  | 8 => rfl
  | 9 => rfl
  | k + 10 => simp [va_up, oa, fld_10 kdn_39]
theorem fc_61 : (va_up (va_up (va_up (va_up (fun _ => none) 0 (some (u 2 5))) 1 (some (u 2 7))) 2 (some (u 2 9))) 3 (some (u 2 11))) = fun k => oa ((D, cy, adF bs a1 b u v, A) : Om) (fld 61 k) := by
  funext k
  match k with
  | 0 => rfl
  | 1 => rfl
  | 2 => rfl
  | 3 => rfl
  | k + 4 => simp [va_up, oa, fld_9 kdn_61]
theorem fc_62 : (va_up (va_up (va_up (va_up (va_up (va_up (va_up (va_up (va_up (va_up (fun _ => none) 0 (some (u 2 13))) 1 (some (u 2 14))) 2 (some (u 2 15))) 3 (some (u 2 16))) 4 (some (u 2 17))) 5 (some (u 2 18))) 6 (some (u 2 19))) 7 (some (u 2 20))) 8 (some (u 2 21))) 9 (some (u 2 22))) = fun k => oa ((D, cy, adF bs a1 b u v, A) : Om) (fld 62 k) := by
  funext k
  match k with
  | 0 => rfl
  | 1 => rfl
  | 2 => rfl
  | 3 => rfl
  | 4 => rfl
  | 5 => rfl
  | 6 => rfl
  | 7 => rfl
  | 8 => rfl
  | 9 => rfl
  | k + 10 => simp [va_up, oa, fld_10 kdn_62]
theorem fc_84 : (va_up (va_up (va_up (va_up (fun _ => none) 0 (some (u 3 5))) 1 (some (u 3 7))) 2 (some (u 3 9))) 3 (some (u 3 11))) = fun k => oa ((D, cy, adF bs a1 b u v, A) : Om) (fld 84 k) := by
  funext k
  match k with
  | 0 => rfl
  | 1 => rfl
  | 2 => rfl
  | 3 => rfl
  | k + 4 => simp [va_up, oa, fld_9 kdn_84]
theorem fc_85 : (va_up (va_up (va_up (va_up (va_up (va_up (va_up (va_up (va_up (va_up (fun _ => none) 0 (some (u 3 13))) 1 (some (u 3 14))) 2 (some (u 3 15))) 3 (some (u 3 16))) 4 (some (u 3 17))) 5 (some (u 3 18))) 6 (some (u 3 19))) 7 (some (u 3 20))) 8 (some (u 3 21))) 9 (some (u 3 22))) = fun k => oa ((D, cy, adF bs a1 b u v, A) : Om) (fld 85 k) := by
  funext k
  match k with
  | 0 => rfl
  | 1 => rfl
  | 2 => rfl
  | 3 => rfl
  | 4 => rfl
  | 5 => rfl
  | 6 => rfl
  | 7 => rfl
  | 8 => rfl
  | 9 => rfl
  | k + 10 => simp [va_up, oa, fld_10 kdn_85]
theorem fc_107 : (va_up (va_up (va_up (va_up (fun _ => none) 0 (some (u 4 5))) 1 (some (u 4 7))) 2 (some (u 4 9))) 3 (some (u 4 11))) = fun k => oa ((D, cy, adF bs a1 b u v, A) : Om) (fld 107 k) := by
  funext k
  match k with
  | 0 => rfl
  | 1 => rfl
  | 2 => rfl
  | 3 => rfl
  | k + 4 => simp [va_up, oa, fld_9 kdn_107]
theorem fc_108 : (va_up (va_up (va_up (va_up (va_up (va_up (va_up (va_up (va_up (va_up (fun _ => none) 0 (some (u 4 13))) 1 (some (u 4 14))) 2 (some (u 4 15))) 3 (some (u 4 16))) 4 (some (u 4 17))) 5 (some (u 4 18))) 6 (some (u 4 19))) 7 (some (u 4 20))) 8 (some (u 4 21))) 9 (some (u 4 22))) = fun k => oa ((D, cy, adF bs a1 b u v, A) : Om) (fld 108 k) := by
  funext k
  match k with
  | 0 => rfl
  | 1 => rfl
  | 2 => rfl
  | 3 => rfl
  | 4 => rfl
  | 5 => rfl
  | 6 => rfl
  | 7 => rfl
  | 8 => rfl
  | 9 => rfl
  | k + 10 => simp [va_up, oa, fld_10 kdn_108]
theorem fc_130 : (va_up (va_up (va_up (va_up (fun _ => none) 0 (some (u 5 5))) 1 (some (u 5 7))) 2 (some (u 5 9))) 3 (some (u 5 11))) = fun k => oa ((D, cy, adF bs a1 b u v, A) : Om) (fld 130 k) := by
  funext k
  match k with
  | 0 => rfl
  | 1 => rfl
  | 2 => rfl
  | 3 => rfl
  | k + 4 => simp [va_up, oa, fld_9 kdn_130]
theorem fc_131 : (va_up (va_up (va_up (va_up (va_up (va_up (va_up (va_up (va_up (va_up (fun _ => none) 0 (some (u 5 13))) 1 (some (u 5 14))) 2 (some (u 5 15))) 3 (some (u 5 16))) 4 (some (u 5 17))) 5 (some (u 5 18))) 6 (some (u 5 19))) 7 (some (u 5 20))) 8 (some (u 5 21))) 9 (some (u 5 22))) = fun k => oa ((D, cy, adF bs a1 b u v, A) : Om) (fld 131 k) := by
  funext k
  match k with
  | 0 => rfl
  | 1 => rfl
  | 2 => rfl
  | 3 => rfl
  | 4 => rfl
  | 5 => rfl
  | 6 => rfl
  | 7 => rfl
  | 8 => rfl
  | 9 => rfl
  | k + 10 => simp [va_up, oa, fld_10 kdn_131]
/-- codes from i on, so many -/
def wb (w : Om) (M : Mem) (i n : Nat) : va_W := (List.range n).map (fun k => (w.2.2.1 (i + k), cell w M (i + k)))
set_option maxRecDepth 100000 in
theorem wb_co : wb ((D, cy, adF bs a1 b u v, A) : Om) M0 1 11 = coW ((D, cy, adF bs a1 b u v, A) : Om) a1 b v := (lcons (Prod.ext rfl (cell_o (w := ((D, cy, adF bs a1 b u v, A) : Om)) (M := M0) (ci := 5) (by decide) kdn_1))
 (lcons (Prod.ext rfl ((cell_s (w := ((D, cy, adF bs a1 b u v, A) : Om)) (M := M0) kdn_2).trans (by rw [fc_2 (D := D) (cy := cy) (A := A) (bs := bs) (a1 := a1) (u := u) (v := v)]; rfl)))
 (lcons (Prod.ext rfl (cell_o (w := ((D, cy, adF bs a1 b u v, A) : Om)) (M := M0) (ci := 1) (by decide) kdn_3))
 (lcons (Prod.ext rfl (cell_i (w := ((D, cy, adF bs a1 b u v, A) : Om)) (M := M0) kdn_4))
 (lcons (Prod.ext rfl (cell_o (w := ((D, cy, adF bs a1 b u v, A) : Om)) (M := M0) (ci := 0) (by decide) kdn_5))
 (lcons (Prod.ext rfl (cell_i (w := ((D, cy, adF bs a1 b u v, A) : Om)) (M := M0) kdn_6))
 (lcons (Prod.ext rfl (cell_o (w := ((D, cy, adF bs a1 b u v, A) : Om)) (M := M0) (ci := 3) (by decide) kdn_7))
 (lcons (Prod.ext rfl (cell_i (w := ((D, cy, adF bs a1 b u v, A) : Om)) (M := M0) kdn_8))
 (lcons (Prod.ext rfl (cell_i (w := ((D, cy, adF bs a1 b u v, A) : Om)) (M := M0) kdn_9))
 (lcons (Prod.ext rfl (cell_i (w := ((D, cy, adF bs a1 b u v, A) : Om)) (M := M0) kdn_10))
 (lcons (Prod.ext rfl (cell_i (w := ((D, cy, adF bs a1 b u v, A) : Om)) (M := M0) kdn_11))
 rfl)))))))))))
set_option maxRecDepth 100000 in
theorem wb_st0 : wb ((D, cy, adF bs a1 b u v, A) : Om) M0 12 23 = stW ((D, cy, adF bs a1 b u v, A) : Om) (b 0) (u 0) := (lcons (Prod.ext rfl (cell_o (w := ((D, cy, adF bs a1 b u v, A) : Om)) (M := M0) (ci := 4) (by decide) kdn_12))
 (lcons (Prod.ext rfl (cell_i (w := ((D, cy, adF bs a1 b u v, A) : Om)) (M := M0) kdn_13))
 (lcons (Prod.ext rfl (cell_i (w := ((D, cy, adF bs a1 b u v, A) : Om)) (M := M0) kdn_14))
 (lcons (Prod.ext rfl ((cell_r (w := ((D, cy, adF bs a1 b u v, A) : Om)) (M := M0) (Or.inl kdn_15)).trans (by rw [fc_15 (D := D) (cy := cy) (A := A) (bs := bs) (a1 := a1) (b := b) (v := v), kdn_15]; rfl)))
 (lcons (Prod.ext rfl ((cell_r (w := ((D, cy, adF bs a1 b u v, A) : Om)) (M := M0) (Or.inr kdn_16)).trans (by rw [fc_16 (D := D) (cy := cy) (A := A) (bs := bs) (a1 := a1) (b := b) (v := v), kdn_16]; rfl)))
 (lcons (Prod.ext rfl (cell_o (w := ((D, cy, adF bs a1 b u v, A) : Om)) (M := M0) (ci := 0) (by decide) kdn_17))
 (lcons (Prod.ext rfl (cell_i (w := ((D, cy, adF bs a1 b u v, A) : Om)) (M := M0) kdn_18))
 (lcons (Prod.ext rfl (cell_o (w := ((D, cy, adF bs a1 b u v, A) : Om)) (M := M0) (ci := 0) (by decide) kdn_19))
 (lcons (Prod.ext rfl (cell_i (w := ((D, cy, adF bs a1 b u v, A) : Om)) (M := M0) kdn_20))
 (lcons (Prod.ext rfl (cell_o (w := ((D, cy, adF bs a1 b u v, A) : Om)) (M := M0) (ci := 0) (by decide) kdn_21))
 (lcons (Prod.ext rfl (cell_i (w := ((D, cy, adF bs a1 b u v, A) : Om)) (M := M0) kdn_22))
 (lcons (Prod.ext rfl (cell_o (w := ((D, cy, adF bs a1 b u v, A) : Om)) (M := M0) (ci := 0) (by decide) kdn_23))
 (lcons (Prod.ext rfl (cell_i (w := ((D, cy, adF bs a1 b u v, A) : Om)) (M := M0) kdn_24))
 (lcons (Prod.ext rfl (cell_o (w := ((D, cy, adF bs a1 b u v, A) : Om)) (M := M0) (ci := 2) (by decide) kdn_25))
 (lcons (Prod.ext rfl (cell_o (w := ((D, cy, adF bs a1 b u v, A) : Om)) (M := M0) (ci := 2) (by decide) kdn_26))
 (lcons (Prod.ext rfl (cell_o (w := ((D, cy, adF bs a1 b u v, A) : Om)) (M := M0) (ci := 2) (by decide) kdn_27))
 (lcons (Prod.ext rfl (cell_o (w := ((D, cy, adF bs a1 b u v, A) : Om)) (M := M0) (ci := 2) (by decide) kdn_28))
 (lcons (Prod.ext rfl (cell_o (w := ((D, cy, adF bs a1 b u v, A) : Om)) (M := M0) (ci := 2) (by decide) kdn_29))
 (lcons (Prod.ext rfl (cell_o (w := ((D, cy, adF bs a1 b u v, A) : Om)) (M := M0) (ci := 2) (by decide) kdn_30))
 (lcons (Prod.ext rfl (cell_o (w := ((D, cy, adF bs a1 b u v, A) : Om)) (M := M0) (ci := 2) (by decide) kdn_31))
 (lcons (Prod.ext rfl (cell_o (w := ((D, cy, adF bs a1 b u v, A) : Om)) (M := M0) (ci := 2) (by decide) kdn_32))
 (lcons (Prod.ext rfl (cell_o (w := ((D, cy, adF bs a1 b u v, A) : Om)) (M := M0) (ci := 2) (by decide) kdn_33))
 (lcons (Prod.ext rfl (cell_o (w := ((D, cy, adF bs a1 b u v, A) : Om)) (M := M0) (ci := 2) (by decide) kdn_34))
 rfl)))))))))))))))))))))))
set_option maxRecDepth 100000 in
theorem wb_st1 : wb ((D, cy, adF bs a1 b u v, A) : Om) M0 35 23 = stW ((D, cy, adF bs a1 b u v, A) : Om) (b 1) (u 1) := (lcons (Prod.ext rfl (cell_o (w := ((D, cy, adF bs a1 b u v, A) : Om)) (M := M0) (ci := 4) (by decide) kdn_35))
 (lcons (Prod.ext rfl (cell_i (w := ((D, cy, adF bs a1 b u v, A) : Om)) (M := M0) kdn_36))
 (lcons (Prod.ext rfl (cell_i (w := ((D, cy, adF bs a1 b u v, A) : Om)) (M := M0) kdn_37))
 (lcons (Prod.ext rfl ((cell_r (w := ((D, cy, adF bs a1 b u v, A) : Om)) (M := M0) (Or.inl kdn_38)).trans (by rw [fc_38 (D := D) (cy := cy) (A := A) (bs := bs) (a1 := a1) (b := b) (v := v), kdn_38]; rfl)))
 (lcons (Prod.ext rfl ((cell_r (w := ((D, cy, adF bs a1 b u v, A) : Om)) (M := M0) (Or.inr kdn_39)).trans (by rw [fc_39 (D := D) (cy := cy) (A := A) (bs := bs) (a1 := a1) (b := b) (v := v), kdn_39]; rfl)))
 (lcons (Prod.ext rfl (cell_o (w := ((D, cy, adF bs a1 b u v, A) : Om)) (M := M0) (ci := 0) (by decide) kdn_40))
 (lcons (Prod.ext rfl (cell_i (w := ((D, cy, adF bs a1 b u v, A) : Om)) (M := M0) kdn_41))
 (lcons (Prod.ext rfl (cell_o (w := ((D, cy, adF bs a1 b u v, A) : Om)) (M := M0) (ci := 0) (by decide) kdn_42))
 (lcons (Prod.ext rfl (cell_i (w := ((D, cy, adF bs a1 b u v, A) : Om)) (M := M0) kdn_43))
 (lcons (Prod.ext rfl (cell_o (w := ((D, cy, adF bs a1 b u v, A) : Om)) (M := M0) (ci := 0) (by decide) kdn_44))
 (lcons (Prod.ext rfl (cell_i (w := ((D, cy, adF bs a1 b u v, A) : Om)) (M := M0) kdn_45))
 (lcons (Prod.ext rfl (cell_o (w := ((D, cy, adF bs a1 b u v, A) : Om)) (M := M0) (ci := 0) (by decide) kdn_46))
 (lcons (Prod.ext rfl (cell_i (w := ((D, cy, adF bs a1 b u v, A) : Om)) (M := M0) kdn_47))
 (lcons (Prod.ext rfl (cell_o (w := ((D, cy, adF bs a1 b u v, A) : Om)) (M := M0) (ci := 2) (by decide) kdn_48))
 (lcons (Prod.ext rfl (cell_o (w := ((D, cy, adF bs a1 b u v, A) : Om)) (M := M0) (ci := 2) (by decide) kdn_49))
 (lcons (Prod.ext rfl (cell_o (w := ((D, cy, adF bs a1 b u v, A) : Om)) (M := M0) (ci := 2) (by decide) kdn_50))
 (lcons (Prod.ext rfl (cell_o (w := ((D, cy, adF bs a1 b u v, A) : Om)) (M := M0) (ci := 2) (by decide) kdn_51))
 (lcons (Prod.ext rfl (cell_o (w := ((D, cy, adF bs a1 b u v, A) : Om)) (M := M0) (ci := 2) (by decide) kdn_52))
 (lcons (Prod.ext rfl (cell_o (w := ((D, cy, adF bs a1 b u v, A) : Om)) (M := M0) (ci := 2) (by decide) kdn_53))
 (lcons (Prod.ext rfl (cell_o (w := ((D, cy, adF bs a1 b u v, A) : Om)) (M := M0) (ci := 2) (by decide) kdn_54))
 (lcons (Prod.ext rfl (cell_o (w := ((D, cy, adF bs a1 b u v, A) : Om)) (M := M0) (ci := 2) (by decide) kdn_55))
 (lcons (Prod.ext rfl (cell_o (w := ((D, cy, adF bs a1 b u v, A) : Om)) (M := M0) (ci := 2) (by decide) kdn_56))
 (lcons (Prod.ext rfl (cell_o (w := ((D, cy, adF bs a1 b u v, A) : Om)) (M := M0) (ci := 2) (by decide) kdn_57))
 rfl)))))))))))))))))))))))
set_option maxRecDepth 100000 in
theorem wb_st2 : wb ((D, cy, adF bs a1 b u v, A) : Om) M0 58 23 = stW ((D, cy, adF bs a1 b u v, A) : Om) (b 2) (u 2) := (lcons (Prod.ext rfl (cell_o (w := ((D, cy, adF bs a1 b u v, A) : Om)) (M := M0) (ci := 4) (by decide) kdn_58))
 (lcons (Prod.ext rfl (cell_i (w := ((D, cy, adF bs a1 b u v, A) : Om)) (M := M0) kdn_59))
 (lcons (Prod.ext rfl (cell_i (w := ((D, cy, adF bs a1 b u v, A) : Om)) (M := M0) kdn_60))
 (lcons (Prod.ext rfl ((cell_r (w := ((D, cy, adF bs a1 b u v, A) : Om)) (M := M0) (Or.inl kdn_61)).trans (by rw [fc_61 (D := D) (cy := cy) (A := A) (bs := bs) (a1 := a1) (b := b) (v := v), kdn_61]; rfl)))
 (lcons (Prod.ext rfl ((cell_r (w := ((D, cy, adF bs a1 b u v, A) : Om)) (M := M0) (Or.inr kdn_62)).trans (by rw [fc_62 (D := D) (cy := cy) (A := A) (bs := bs) (a1 := a1) (b := b) (v := v), kdn_62]; rfl)))
 (lcons (Prod.ext rfl (cell_o (w := ((D, cy, adF bs a1 b u v, A) : Om)) (M := M0) (ci := 0) (by decide) kdn_63))
 (lcons (Prod.ext rfl (cell_i (w := ((D, cy, adF bs a1 b u v, A) : Om)) (M := M0) kdn_64))
 (lcons (Prod.ext rfl (cell_o (w := ((D, cy, adF bs a1 b u v, A) : Om)) (M := M0) (ci := 0) (by decide) kdn_65))
 (lcons (Prod.ext rfl (cell_i (w := ((D, cy, adF bs a1 b u v, A) : Om)) (M := M0) kdn_66))
 (lcons (Prod.ext rfl (cell_o (w := ((D, cy, adF bs a1 b u v, A) : Om)) (M := M0) (ci := 0) (by decide) kdn_67))
 (lcons (Prod.ext rfl (cell_i (w := ((D, cy, adF bs a1 b u v, A) : Om)) (M := M0) kdn_68))
 (lcons (Prod.ext rfl (cell_o (w := ((D, cy, adF bs a1 b u v, A) : Om)) (M := M0) (ci := 0) (by decide) kdn_69))
 (lcons (Prod.ext rfl (cell_i (w := ((D, cy, adF bs a1 b u v, A) : Om)) (M := M0) kdn_70))
 (lcons (Prod.ext rfl (cell_o (w := ((D, cy, adF bs a1 b u v, A) : Om)) (M := M0) (ci := 2) (by decide) kdn_71))
 (lcons (Prod.ext rfl (cell_o (w := ((D, cy, adF bs a1 b u v, A) : Om)) (M := M0) (ci := 2) (by decide) kdn_72))
 (lcons (Prod.ext rfl (cell_o (w := ((D, cy, adF bs a1 b u v, A) : Om)) (M := M0) (ci := 2) (by decide) kdn_73))
 (lcons (Prod.ext rfl (cell_o (w := ((D, cy, adF bs a1 b u v, A) : Om)) (M := M0) (ci := 2) (by decide) kdn_74))
 (lcons (Prod.ext rfl (cell_o (w := ((D, cy, adF bs a1 b u v, A) : Om)) (M := M0) (ci := 2) (by decide) kdn_75))
 (lcons (Prod.ext rfl (cell_o (w := ((D, cy, adF bs a1 b u v, A) : Om)) (M := M0) (ci := 2) (by decide) kdn_76))
 (lcons (Prod.ext rfl (cell_o (w := ((D, cy, adF bs a1 b u v, A) : Om)) (M := M0) (ci := 2) (by decide) kdn_77))
 (lcons (Prod.ext rfl (cell_o (w := ((D, cy, adF bs a1 b u v, A) : Om)) (M := M0) (ci := 2) (by decide) kdn_78))
 (lcons (Prod.ext rfl (cell_o (w := ((D, cy, adF bs a1 b u v, A) : Om)) (M := M0) (ci := 2) (by decide) kdn_79))
 (lcons (Prod.ext rfl (cell_o (w := ((D, cy, adF bs a1 b u v, A) : Om)) (M := M0) (ci := 2) (by decide) kdn_80))
 rfl)))))))))))))))))))))))
set_option maxRecDepth 100000 in
theorem wb_st3 : wb ((D, cy, adF bs a1 b u v, A) : Om) M0 81 23 = stW ((D, cy, adF bs a1 b u v, A) : Om) (b 3) (u 3) := (lcons (Prod.ext rfl (cell_o (w := ((D, cy, adF bs a1 b u v, A) : Om)) (M := M0) (ci := 4) (by decide) kdn_81))
 (lcons (Prod.ext rfl (cell_i (w := ((D, cy, adF bs a1 b u v, A) : Om)) (M := M0) kdn_82))
 (lcons (Prod.ext rfl (cell_i (w := ((D, cy, adF bs a1 b u v, A) : Om)) (M := M0) kdn_83))
 (lcons (Prod.ext rfl ((cell_r (w := ((D, cy, adF bs a1 b u v, A) : Om)) (M := M0) (Or.inl kdn_84)).trans (by rw [fc_84 (D := D) (cy := cy) (A := A) (bs := bs) (a1 := a1) (b := b) (v := v), kdn_84]; rfl)))
 (lcons (Prod.ext rfl ((cell_r (w := ((D, cy, adF bs a1 b u v, A) : Om)) (M := M0) (Or.inr kdn_85)).trans (by rw [fc_85 (D := D) (cy := cy) (A := A) (bs := bs) (a1 := a1) (b := b) (v := v), kdn_85]; rfl)))
 (lcons (Prod.ext rfl (cell_o (w := ((D, cy, adF bs a1 b u v, A) : Om)) (M := M0) (ci := 0) (by decide) kdn_86))
 (lcons (Prod.ext rfl (cell_i (w := ((D, cy, adF bs a1 b u v, A) : Om)) (M := M0) kdn_87))
 (lcons (Prod.ext rfl (cell_o (w := ((D, cy, adF bs a1 b u v, A) : Om)) (M := M0) (ci := 0) (by decide) kdn_88))
 (lcons (Prod.ext rfl (cell_i (w := ((D, cy, adF bs a1 b u v, A) : Om)) (M := M0) kdn_89))
 (lcons (Prod.ext rfl (cell_o (w := ((D, cy, adF bs a1 b u v, A) : Om)) (M := M0) (ci := 0) (by decide) kdn_90))
 (lcons (Prod.ext rfl (cell_i (w := ((D, cy, adF bs a1 b u v, A) : Om)) (M := M0) kdn_91))
 (lcons (Prod.ext rfl (cell_o (w := ((D, cy, adF bs a1 b u v, A) : Om)) (M := M0) (ci := 0) (by decide) kdn_92))
 (lcons (Prod.ext rfl (cell_i (w := ((D, cy, adF bs a1 b u v, A) : Om)) (M := M0) kdn_93))
 (lcons (Prod.ext rfl (cell_o (w := ((D, cy, adF bs a1 b u v, A) : Om)) (M := M0) (ci := 2) (by decide) kdn_94))
 (lcons (Prod.ext rfl (cell_o (w := ((D, cy, adF bs a1 b u v, A) : Om)) (M := M0) (ci := 2) (by decide) kdn_95))
 (lcons (Prod.ext rfl (cell_o (w := ((D, cy, adF bs a1 b u v, A) : Om)) (M := M0) (ci := 2) (by decide) kdn_96))
 (lcons (Prod.ext rfl (cell_o (w := ((D, cy, adF bs a1 b u v, A) : Om)) (M := M0) (ci := 2) (by decide) kdn_97))
 (lcons (Prod.ext rfl (cell_o (w := ((D, cy, adF bs a1 b u v, A) : Om)) (M := M0) (ci := 2) (by decide) kdn_98))
 (lcons (Prod.ext rfl (cell_o (w := ((D, cy, adF bs a1 b u v, A) : Om)) (M := M0) (ci := 2) (by decide) kdn_99))
 (lcons (Prod.ext rfl (cell_o (w := ((D, cy, adF bs a1 b u v, A) : Om)) (M := M0) (ci := 2) (by decide) kdn_100))
 (lcons (Prod.ext rfl (cell_o (w := ((D, cy, adF bs a1 b u v, A) : Om)) (M := M0) (ci := 2) (by decide) kdn_101))
 (lcons (Prod.ext rfl (cell_o (w := ((D, cy, adF bs a1 b u v, A) : Om)) (M := M0) (ci := 2) (by decide) kdn_102))
 (lcons (Prod.ext rfl (cell_o (w := ((D, cy, adF bs a1 b u v, A) : Om)) (M := M0) (ci := 2) (by decide) kdn_103))
 rfl)))))))))))))))))))))))
set_option maxRecDepth 100000 in
theorem wb_st4 : wb ((D, cy, adF bs a1 b u v, A) : Om) M0 104 23 = stW ((D, cy, adF bs a1 b u v, A) : Om) (b 4) (u 4) := (lcons (Prod.ext rfl (cell_o (w := ((D, cy, adF bs a1 b u v, A) : Om)) (M := M0) (ci := 4) (by decide) kdn_104))
 (lcons (Prod.ext rfl (cell_i (w := ((D, cy, adF bs a1 b u v, A) : Om)) (M := M0) kdn_105))
 (lcons (Prod.ext rfl (cell_i (w := ((D, cy, adF bs a1 b u v, A) : Om)) (M := M0) kdn_106))
 (lcons (Prod.ext rfl ((cell_r (w := ((D, cy, adF bs a1 b u v, A) : Om)) (M := M0) (Or.inl kdn_107)).trans (by rw [fc_107 (D := D) (cy := cy) (A := A) (bs := bs) (a1 := a1) (b := b) (v := v), kdn_107]; rfl)))
 (lcons (Prod.ext rfl ((cell_r (w := ((D, cy, adF bs a1 b u v, A) : Om)) (M := M0) (Or.inr kdn_108)).trans (by rw [fc_108 (D := D) (cy := cy) (A := A) (bs := bs) (a1 := a1) (b := b) (v := v), kdn_108]; rfl)))
 (lcons (Prod.ext rfl (cell_o (w := ((D, cy, adF bs a1 b u v, A) : Om)) (M := M0) (ci := 0) (by decide) kdn_109))
 (lcons (Prod.ext rfl (cell_i (w := ((D, cy, adF bs a1 b u v, A) : Om)) (M := M0) kdn_110))
 (lcons (Prod.ext rfl (cell_o (w := ((D, cy, adF bs a1 b u v, A) : Om)) (M := M0) (ci := 0) (by decide) kdn_111))
 (lcons (Prod.ext rfl (cell_i (w := ((D, cy, adF bs a1 b u v, A) : Om)) (M := M0) kdn_112))
 (lcons (Prod.ext rfl (cell_o (w := ((D, cy, adF bs a1 b u v, A) : Om)) (M := M0) (ci := 0) (by decide) kdn_113))
 (lcons (Prod.ext rfl (cell_i (w := ((D, cy, adF bs a1 b u v, A) : Om)) (M := M0) kdn_114))
 (lcons (Prod.ext rfl (cell_o (w := ((D, cy, adF bs a1 b u v, A) : Om)) (M := M0) (ci := 0) (by decide) kdn_115))
 (lcons (Prod.ext rfl (cell_i (w := ((D, cy, adF bs a1 b u v, A) : Om)) (M := M0) kdn_116))
 (lcons (Prod.ext rfl (cell_o (w := ((D, cy, adF bs a1 b u v, A) : Om)) (M := M0) (ci := 2) (by decide) kdn_117))
 (lcons (Prod.ext rfl (cell_o (w := ((D, cy, adF bs a1 b u v, A) : Om)) (M := M0) (ci := 2) (by decide) kdn_118))
 (lcons (Prod.ext rfl (cell_o (w := ((D, cy, adF bs a1 b u v, A) : Om)) (M := M0) (ci := 2) (by decide) kdn_119))
 (lcons (Prod.ext rfl (cell_o (w := ((D, cy, adF bs a1 b u v, A) : Om)) (M := M0) (ci := 2) (by decide) kdn_120))
 (lcons (Prod.ext rfl (cell_o (w := ((D, cy, adF bs a1 b u v, A) : Om)) (M := M0) (ci := 2) (by decide) kdn_121))
 (lcons (Prod.ext rfl (cell_o (w := ((D, cy, adF bs a1 b u v, A) : Om)) (M := M0) (ci := 2) (by decide) kdn_122))
 (lcons (Prod.ext rfl (cell_o (w := ((D, cy, adF bs a1 b u v, A) : Om)) (M := M0) (ci := 2) (by decide) kdn_123))
 (lcons (Prod.ext rfl (cell_o (w := ((D, cy, adF bs a1 b u v, A) : Om)) (M := M0) (ci := 2) (by decide) kdn_124))
 (lcons (Prod.ext rfl (cell_o (w := ((D, cy, adF bs a1 b u v, A) : Om)) (M := M0) (ci := 2) (by decide) kdn_125))
 (lcons (Prod.ext rfl (cell_o (w := ((D, cy, adF bs a1 b u v, A) : Om)) (M := M0) (ci := 2) (by decide) kdn_126))
 rfl)))))))))))))))))))))))
set_option maxRecDepth 100000 in
theorem wb_st5 : wb ((D, cy, adF bs a1 b u v, A) : Om) M0 127 23 = stW ((D, cy, adF bs a1 b u v, A) : Om) (b 5) (u 5) := (lcons (Prod.ext rfl (cell_o (w := ((D, cy, adF bs a1 b u v, A) : Om)) (M := M0) (ci := 4) (by decide) kdn_127))
 (lcons (Prod.ext rfl (cell_i (w := ((D, cy, adF bs a1 b u v, A) : Om)) (M := M0) kdn_128))
 (lcons (Prod.ext rfl (cell_i (w := ((D, cy, adF bs a1 b u v, A) : Om)) (M := M0) kdn_129))
 (lcons (Prod.ext rfl ((cell_r (w := ((D, cy, adF bs a1 b u v, A) : Om)) (M := M0) (Or.inl kdn_130)).trans (by rw [fc_130 (D := D) (cy := cy) (A := A) (bs := bs) (a1 := a1) (b := b) (v := v), kdn_130]; rfl)))
 (lcons (Prod.ext rfl ((cell_r (w := ((D, cy, adF bs a1 b u v, A) : Om)) (M := M0) (Or.inr kdn_131)).trans (by rw [fc_131 (D := D) (cy := cy) (A := A) (bs := bs) (a1 := a1) (b := b) (v := v), kdn_131]; rfl)))
 (lcons (Prod.ext rfl (cell_o (w := ((D, cy, adF bs a1 b u v, A) : Om)) (M := M0) (ci := 0) (by decide) kdn_132))
 (lcons (Prod.ext rfl (cell_i (w := ((D, cy, adF bs a1 b u v, A) : Om)) (M := M0) kdn_133))
 (lcons (Prod.ext rfl (cell_o (w := ((D, cy, adF bs a1 b u v, A) : Om)) (M := M0) (ci := 0) (by decide) kdn_134))
 (lcons (Prod.ext rfl (cell_i (w := ((D, cy, adF bs a1 b u v, A) : Om)) (M := M0) kdn_135))
 (lcons (Prod.ext rfl (cell_o (w := ((D, cy, adF bs a1 b u v, A) : Om)) (M := M0) (ci := 0) (by decide) kdn_136))
 (lcons (Prod.ext rfl (cell_i (w := ((D, cy, adF bs a1 b u v, A) : Om)) (M := M0) kdn_137))
 (lcons (Prod.ext rfl (cell_o (w := ((D, cy, adF bs a1 b u v, A) : Om)) (M := M0) (ci := 0) (by decide) kdn_138))
 (lcons (Prod.ext rfl (cell_i (w := ((D, cy, adF bs a1 b u v, A) : Om)) (M := M0) kdn_139))
 (lcons (Prod.ext rfl (cell_o (w := ((D, cy, adF bs a1 b u v, A) : Om)) (M := M0) (ci := 2) (by decide) kdn_140))
 (lcons (Prod.ext rfl (cell_o (w := ((D, cy, adF bs a1 b u v, A) : Om)) (M := M0) (ci := 2) (by decide) kdn_141))
 (lcons (Prod.ext rfl (cell_o (w := ((D, cy, adF bs a1 b u v, A) : Om)) (M := M0) (ci := 2) (by decide) kdn_142))
 (lcons (Prod.ext rfl (cell_o (w := ((D, cy, adF bs a1 b u v, A) : Om)) (M := M0) (ci := 2) (by decide) kdn_143))
 (lcons (Prod.ext rfl (cell_o (w := ((D, cy, adF bs a1 b u v, A) : Om)) (M := M0) (ci := 2) (by decide) kdn_144))
 (lcons (Prod.ext rfl (cell_o (w := ((D, cy, adF bs a1 b u v, A) : Om)) (M := M0) (ci := 2) (by decide) kdn_145))
 (lcons (Prod.ext rfl (cell_o (w := ((D, cy, adF bs a1 b u v, A) : Om)) (M := M0) (ci := 2) (by decide) kdn_146))
 (lcons (Prod.ext rfl (cell_o (w := ((D, cy, adF bs a1 b u v, A) : Om)) (M := M0) (ci := 2) (by decide) kdn_147))
 (lcons (Prod.ext rfl (cell_o (w := ((D, cy, adF bs a1 b u v, A) : Om)) (M := M0) (ci := 2) (by decide) kdn_148))
 (lcons (Prod.ext rfl (cell_o (w := ((D, cy, adF bs a1 b u v, A) : Om)) (M := M0) (ci := 2) (by decide) kdn_149))
 rfl)))))))))))))))))))))))
theorem wb_app {w : Om} {M : Mem} (i n m : Nat) : wb w M i (n + m) = wb w M i n ++ wb w M (i + n) m := by
  unfold wb
  rw [List.range_add, List.map_append, List.map_map]
  congr 1
  apply List.map_congr_left
  intro k _
  simp only [Function.comp]
  rw [show i + (n + k) = i + n + k by omega]
theorem wo_wb {w : Om} {M : Mem} : wo w M = wb w M 1 149 := by
  unfold wo wb
  apply List.map_congr_left
  intro k _
  rw [Nat.add_comm]
theorem wo_fin : wo ((D, cy, adF bs a1 b u v, A) : Om) M0 = coW ((D, cy, adF bs a1 b u v, A) : Om) a1 b v ++ (((((([] ++ stW ((D, cy, adF bs a1 b u v, A) : Om) (b 0) (u 0)) ++ stW ((D, cy, adF bs a1 b u v, A) : Om) (b 1) (u 1)) ++ stW ((D, cy, adF bs a1 b u v, A) : Om) (b 2) (u 2)) ++ stW ((D, cy, adF bs a1 b u v, A) : Om) (b 3) (u 3)) ++ stW ((D, cy, adF bs a1 b u v, A) : Om) (b 4) (u 4)) ++ stW ((D, cy, adF bs a1 b u v, A) : Om) (b 5) (u 5)) := by
  rw [wo_wb, wb_app 1 11 138, wb_app 12 115 23, wb_app 12 92 23, wb_app 12 69 23, wb_app 12 46 23, wb_app 12 23 23]
  show wb _ M0 1 11 ++ (((((wb _ M0 12 23 ++ wb _ M0 35 23) ++ wb _ M0 58 23) ++ wb _ M0 81 23) ++ wb _ M0 104 23) ++ wb _ M0 127 23) = _
  rw [wb_co, wb_st0, wb_st1, wb_st2, wb_st3, wb_st4, wb_st5]
  rfl
end FIN
theorem wo_addr {w : Om} {M M2 : Mem} (h : va_D w.2.2.2 (wo w M)) : va_D w.2.2.2 (wo w M2) := by
  have key : ∀ (i : Nat) (p : Nat × va_E), (wo w M2)[i]? = some p → ∃ q : Nat × va_E, (wo w M)[i]? = some q ∧ q.1 = p.1 := by
    intro i p hp
    unfold wo at hp ⊢
    rw [List.getElem?_map] at hp
    have hi : i < 149 := by
      have := (List.getElem?_eq_some_iff.mp (by rw [← List.getElem?_map] at hp; exact hp)).1
      simpa using this
    rw [List.getElem?_range hi] at hp
    refine ⟨_, by rw [List.getElem?_map, List.getElem?_range hi]; rfl, ?_⟩
    have := Option.some.inj hp
    rw [← this]
  refine ⟨fun i j p q hi hj e => ?_, fun k q hk => ?_⟩
  · obtain ⟨p2, h1, e1⟩ := key i p hi
    obtain ⟨q2, h2, e2⟩ := key j q hj
    exact h.1 i j p2 q2 h1 h2 (by rw [e1, e2]; exact e)
  · obtain ⟨p2, h1, e1⟩ := key k q hk
    rw [← e1]
    exact h.2 k p2 h1
theorem ns_in : ∀ q ∈ nsL, Jvm.Cond.methodLinkNest q.1 q.2.1 q.2.2.1 q.2.2.2 ∈ lw_tbl := by decide +kernel
