section
-- ===== PART A: goes FIRST, ahead of the names: the tables' words, and 'selects' of the private methods out of them =====
/-- a private method of a class that the tables say can be made, by its rows of tables_1 -/
def lw_okq (q : MethodName × Nat) : Prop := (q.1.cls ≠ "java/lang/invoke/MethodHandle" ∧ q.1.cls ≠ "java/lang/invoke/VarHandle") ∧ Cond.instantiable q.1.cls q.2 ∈ tables_1 ∧ Cond.privateMethod q.1 ∈ tables_1 ∧ Cond.instanceMethod q.1 ∈ tables_1
theorem lw_p0 : lw_okq (⟨"CommaCourt", "keepState", "()V"⟩, 12) := ⟨⟨by decide +kernel, by decide +kernel⟩, List.mem_of_getElem? (i := 11) (by decide +kernel), List.mem_of_getElem? (i := 239) (by decide +kernel), List.mem_of_getElem? (i := 240) (by decide +kernel)⟩
theorem lw_p1 : lw_okq (⟨"CommaCourt", "forgetOldest", "()V"⟩, 12) := ⟨⟨by decide +kernel, by decide +kernel⟩, List.mem_of_getElem? (i := 11) (by decide +kernel), List.mem_of_getElem? (i := 243) (by decide +kernel), List.mem_of_getElem? (i := 244) (by decide +kernel)⟩
theorem lw_p2 : lw_okq (⟨"CommaCourt$State", "copyEdition", "(LCommaCourt$Edition;I)V"⟩, 9) := ⟨⟨by decide +kernel, by decide +kernel⟩, List.mem_of_getElem? (i := 19) (by decide +kernel), List.mem_of_getElem? (i := 258) (by decide +kernel), List.mem_of_getElem? (i := 259) (by decide +kernel)⟩
theorem lw_p3 : lw_okq (⟨"CommaCourt", "decide", "(LCommaCourt$Edition;I)I"⟩, 12) := ⟨⟨by decide +kernel, by decide +kernel⟩, List.mem_of_getElem? (i := 11) (by decide +kernel), List.mem_of_getElem? (i := 359) (by decide +kernel), List.mem_of_getElem? (i := 360) (by decide +kernel)⟩
theorem lw_p4 : lw_okq (⟨"CommaCourt", "reasonAgainst", "(LCommaCourt$Edition;I)I"⟩, 12) := ⟨⟨by decide +kernel, by decide +kernel⟩, List.mem_of_getElem? (i := 11) (by decide +kernel), List.mem_of_getElem? (i := 384) (by decide +kernel), List.mem_of_getElem? (i := 385) (by decide +kernel)⟩
theorem lw_p5 : lw_okq (⟨"CommaCourt$Sheet", "clauseCost", "(I)I"⟩, 7) := ⟨⟨by decide +kernel, by decide +kernel⟩, List.mem_of_getElem? (i := 161) (by decide +kernel), List.mem_of_getElem? (i := 404) (by decide +kernel), List.mem_of_getElem? (i := 405) (by decide +kernel)⟩
theorem lw_p6 : lw_okq (⟨"CommaCourt", "reasonOfPart", "(I)I"⟩, 12) := ⟨⟨by decide +kernel, by decide +kernel⟩, List.mem_of_getElem? (i := 11) (by decide +kernel), List.mem_of_getElem? (i := 450) (by decide +kernel), List.mem_of_getElem? (i := 451) (by decide +kernel)⟩
theorem lw_p7 : lw_okq (⟨"CommaCourt$Sheet", "rank", "(I)I"⟩, 7) := ⟨⟨by decide +kernel, by decide +kernel⟩, List.mem_of_getElem? (i := 161) (by decide +kernel), List.mem_of_getElem? (i := 537) (by decide +kernel), List.mem_of_getElem? (i := 538) (by decide +kernel)⟩
theorem lw_p8 : lw_okq (⟨"CommaCourt$Sheet", "leastRankUpTo", "(I)I"⟩, 7) := ⟨⟨by decide +kernel, by decide +kernel⟩, List.mem_of_getElem? (i := 161) (by decide +kernel), List.mem_of_getElem? (i := 551) (by decide +kernel), List.mem_of_getElem? (i := 552) (by decide +kernel)⟩
theorem lw_p9 : lw_okq (⟨"CommaCourt$Sheet", "rankUpToClause", "(I)I"⟩, 7) := ⟨⟨by decide +kernel, by decide +kernel⟩, List.mem_of_getElem? (i := 161) (by decide +kernel), List.mem_of_getElem? (i := 555) (by decide +kernel), List.mem_of_getElem? (i := 556) (by decide +kernel)⟩
theorem lw_p10 : lw_okq (⟨"CommaCourt", "costOfAll", "()I"⟩, 12) := ⟨⟨by decide +kernel, by decide +kernel⟩, List.mem_of_getElem? (i := 11) (by decide +kernel), List.mem_of_getElem? (i := 580) (by decide +kernel), List.mem_of_getElem? (i := 581) (by decide +kernel)⟩
theorem lw_p11 : lw_okq (⟨"CommaCourt", "costOfEdition", "(I)I"⟩, 12) := ⟨⟨by decide +kernel, by decide +kernel⟩, List.mem_of_getElem? (i := 11) (by decide +kernel), List.mem_of_getElem? (i := 584) (by decide +kernel), List.mem_of_getElem? (i := 585) (by decide +kernel)⟩
theorem lw_p12 : lw_okq (⟨"CommaCourt", "cheapestEdition", "()I"⟩, 12) := ⟨⟨by decide +kernel, by decide +kernel⟩, List.mem_of_getElem? (i := 11) (by decide +kernel), List.mem_of_getElem? (i := 598) (by decide +kernel), List.mem_of_getElem? (i := 599) (by decide +kernel)⟩
theorem lw_p13 : lw_okq (⟨"CommaCourt", "stateAt", "(I)LCommaCourt$State;"⟩, 12) := ⟨⟨by decide +kernel, by decide +kernel⟩, List.mem_of_getElem? (i := 11) (by decide +kernel), List.mem_of_getElem? (i := 623) (by decide +kernel), List.mem_of_getElem? (i := 624) (by decide +kernel)⟩
theorem lw_p14 : lw_okq (⟨"CommaCourtModel", "records", "()V"⟩, 19) := ⟨⟨by decide +kernel, by decide +kernel⟩, List.mem_of_getElem? (i := 635) (by decide +kernel), List.mem_of_getElem? (i := 709) (by decide +kernel), List.mem_of_getElem? (i := 710) (by decide +kernel)⟩
theorem lw_p15 : lw_okq (⟨"CommaCourtModel", "isRuling", "(I)Z"⟩, 19) := ⟨⟨by decide +kernel, by decide +kernel⟩, List.mem_of_getElem? (i := 635) (by decide +kernel), List.mem_of_getElem? (i := 727) (by decide +kernel), List.mem_of_getElem? (i := 728) (by decide +kernel)⟩
def lw_privs_1 : List (MethodName × Nat) := [(⟨"CommaCourt", "keepState", "()V"⟩, 12), (⟨"CommaCourt", "forgetOldest", "()V"⟩, 12), (⟨"CommaCourt$State", "copyEdition", "(LCommaCourt$Edition;I)V"⟩, 9), (⟨"CommaCourt", "decide", "(LCommaCourt$Edition;I)I"⟩, 12), (⟨"CommaCourt", "reasonAgainst", "(LCommaCourt$Edition;I)I"⟩, 12), (⟨"CommaCourt$Sheet", "clauseCost", "(I)I"⟩, 7), (⟨"CommaCourt", "reasonOfPart", "(I)I"⟩, 12), (⟨"CommaCourt$Sheet", "rank", "(I)I"⟩, 7), (⟨"CommaCourt$Sheet", "leastRankUpTo", "(I)I"⟩, 7), (⟨"CommaCourt$Sheet", "rankUpToClause", "(I)I"⟩, 7), (⟨"CommaCourt", "costOfAll", "()I"⟩, 12), (⟨"CommaCourt", "costOfEdition", "(I)I"⟩, 12), (⟨"CommaCourt", "cheapestEdition", "()I"⟩, 12), (⟨"CommaCourt", "stateAt", "(I)LCommaCourt$State;"⟩, 12), (⟨"CommaCourtModel", "records", "()V"⟩, 19), (⟨"CommaCourtModel", "isRuling", "(I)Z"⟩, 19)]
theorem lw_r1 : ∀ q ∈ lw_privs_1, lw_okq q := List.forall_mem_cons.mpr ⟨lw_p0, List.forall_mem_cons.mpr ⟨lw_p1, List.forall_mem_cons.mpr ⟨lw_p2, List.forall_mem_cons.mpr ⟨lw_p3, List.forall_mem_cons.mpr ⟨lw_p4, List.forall_mem_cons.mpr ⟨lw_p5, List.forall_mem_cons.mpr ⟨lw_p6, List.forall_mem_cons.mpr ⟨lw_p7, List.forall_mem_cons.mpr ⟨lw_p8, List.forall_mem_cons.mpr ⟨lw_p9, List.forall_mem_cons.mpr ⟨lw_p10, List.forall_mem_cons.mpr ⟨lw_p11, List.forall_mem_cons.mpr ⟨lw_p12, List.forall_mem_cons.mpr ⟨lw_p13, List.forall_mem_cons.mpr ⟨lw_p14, List.forall_mem_cons.mpr ⟨lw_p15, fun _ h => absurd h List.not_mem_nil⟩⟩⟩⟩⟩⟩⟩⟩⟩⟩⟩⟩⟩⟩⟩⟩
theorem lw_p16 : lw_okq (⟨"CommaCourtModel", "addsRuling", "(IIZII)V"⟩, 19) := ⟨⟨by decide +kernel, by decide +kernel⟩, List.mem_of_getElem? (i := 635) (by decide +kernel), List.mem_of_getElem? (i := 731) (by decide +kernel), List.mem_of_getElem? (i := 732) (by decide +kernel)⟩
theorem lw_p17 : lw_okq (⟨"CommaCourtModel", "ofRuling", "(II)I"⟩, 19) := ⟨⟨by decide +kernel, by decide +kernel⟩, List.mem_of_getElem? (i := 635) (by decide +kernel), List.mem_of_getElem? (i := 739) (by decide +kernel), List.mem_of_getElem? (i := 740) (by decide +kernel)⟩
theorem lw_p18 : lw_okq (⟨"CommaCourtModel", "inForce", "()I"⟩, 19) := ⟨⟨by decide +kernel, by decide +kernel⟩, List.mem_of_getElem? (i := 635) (by decide +kernel), List.mem_of_getElem? (i := 743) (by decide +kernel), List.mem_of_getElem? (i := 744) (by decide +kernel)⟩
theorem lw_p19 : lw_okq (⟨"CommaCourtModel", "isForce", "(I)Z"⟩, 19) := ⟨⟨by decide +kernel, by decide +kernel⟩, List.mem_of_getElem? (i := 635) (by decide +kernel), List.mem_of_getElem? (i := 747) (by decide +kernel), List.mem_of_getElem? (i := 748) (by decide +kernel)⟩
theorem lw_p20 : lw_okq (⟨"CommaCourtModel", "isEdition", "(I)Z"⟩, 19) := ⟨⟨by decide +kernel, by decide +kernel⟩, List.mem_of_getElem? (i := 635) (by decide +kernel), List.mem_of_getElem? (i := 755) (by decide +kernel), List.mem_of_getElem? (i := 756) (by decide +kernel)⟩
theorem lw_p21 : lw_okq (⟨"CommaCourtModel", "isGap", "(II)Z"⟩, 19) := ⟨⟨by decide +kernel, by decide +kernel⟩, List.mem_of_getElem? (i := 635) (by decide +kernel), List.mem_of_getElem? (i := 763) (by decide +kernel), List.mem_of_getElem? (i := 764) (by decide +kernel)⟩
theorem lw_p22 : lw_okq (⟨"CommaCourtModel", "of", "(II)I"⟩, 19) := ⟨⟨by decide +kernel, by decide +kernel⟩, List.mem_of_getElem? (i := 635) (by decide +kernel), List.mem_of_getElem? (i := 767) (by decide +kernel), List.mem_of_getElem? (i := 768) (by decide +kernel)⟩
theorem lw_p23 : lw_okq (⟨"CommaCourtModel", "goSue", "(II)I"⟩, 19) := ⟨⟨by decide +kernel, by decide +kernel⟩, List.mem_of_getElem? (i := 635) (by decide +kernel), List.mem_of_getElem? (i := 771) (by decide +kernel), List.mem_of_getElem? (i := 772) (by decide +kernel)⟩
theorem lw_p24 : lw_okq (⟨"CommaCourtModel", "reasonToRefuse", "(II)I"⟩, 19) := ⟨⟨by decide +kernel, by decide +kernel⟩, List.mem_of_getElem? (i := 635) (by decide +kernel), List.mem_of_getElem? (i := 775) (by decide +kernel), List.mem_of_getElem? (i := 776) (by decide +kernel)⟩
theorem lw_p25 : lw_okq (⟨"CommaCourtModel", "isStayed", "(I)Z"⟩, 19) := ⟨⟨by decide +kernel, by decide +kernel⟩, List.mem_of_getElem? (i := 635) (by decide +kernel), List.mem_of_getElem? (i := 779) (by decide +kernel), List.mem_of_getElem? (i := 780) (by decide +kernel)⟩
theorem lw_p26 : lw_okq (⟨"CommaCourtModel", "costBy", "(II)I"⟩, 19) := ⟨⟨by decide +kernel, by decide +kernel⟩, List.mem_of_getElem? (i := 635) (by decide +kernel), List.mem_of_getElem? (i := 783) (by decide +kernel), List.mem_of_getElem? (i := 784) (by decide +kernel)⟩
theorem lw_p27 : lw_okq (⟨"CommaCourtModel", "clauseCost", "(II)I"⟩, 19) := ⟨⟨by decide +kernel, by decide +kernel⟩, List.mem_of_getElem? (i := 635) (by decide +kernel), List.mem_of_getElem? (i := 787) (by decide +kernel), List.mem_of_getElem? (i := 788) (by decide +kernel)⟩
theorem lw_p28 : lw_okq (⟨"CommaCourtModel", "weightOf", "(II)I"⟩, 19) := ⟨⟨by decide +kernel, by decide +kernel⟩, List.mem_of_getElem? (i := 635) (by decide +kernel), List.mem_of_getElem? (i := 791) (by decide +kernel), List.mem_of_getElem? (i := 792) (by decide +kernel)⟩
theorem lw_p29 : lw_okq (⟨"CommaCourtModel", "wordOf", "(II)I"⟩, 19) := ⟨⟨by decide +kernel, by decide +kernel⟩, List.mem_of_getElem? (i := 635) (by decide +kernel), List.mem_of_getElem? (i := 795) (by decide +kernel), List.mem_of_getElem? (i := 796) (by decide +kernel)⟩
theorem lw_p30 : lw_okq (⟨"CommaCourtModel", "off", "(I)I"⟩, 19) := ⟨⟨by decide +kernel, by decide +kernel⟩, List.mem_of_getElem? (i := 635) (by decide +kernel), List.mem_of_getElem? (i := 799) (by decide +kernel), List.mem_of_getElem? (i := 800) (by decide +kernel)⟩
theorem lw_p31 : lw_okq (⟨"CommaCourtModel", "finesOf", "(II)I"⟩, 19) := ⟨⟨by decide +kernel, by decide +kernel⟩, List.mem_of_getElem? (i := 635) (by decide +kernel), List.mem_of_getElem? (i := 803) (by decide +kernel), List.mem_of_getElem? (i := 804) (by decide +kernel)⟩
def lw_privs_2 : List (MethodName × Nat) := [(⟨"CommaCourtModel", "addsRuling", "(IIZII)V"⟩, 19), (⟨"CommaCourtModel", "ofRuling", "(II)I"⟩, 19), (⟨"CommaCourtModel", "inForce", "()I"⟩, 19), (⟨"CommaCourtModel", "isForce", "(I)Z"⟩, 19), (⟨"CommaCourtModel", "isEdition", "(I)Z"⟩, 19), (⟨"CommaCourtModel", "isGap", "(II)Z"⟩, 19), (⟨"CommaCourtModel", "of", "(II)I"⟩, 19), (⟨"CommaCourtModel", "goSue", "(II)I"⟩, 19), (⟨"CommaCourtModel", "reasonToRefuse", "(II)I"⟩, 19), (⟨"CommaCourtModel", "isStayed", "(I)Z"⟩, 19), (⟨"CommaCourtModel", "costBy", "(II)I"⟩, 19), (⟨"CommaCourtModel", "clauseCost", "(II)I"⟩, 19), (⟨"CommaCourtModel", "weightOf", "(II)I"⟩, 19), (⟨"CommaCourtModel", "wordOf", "(II)I"⟩, 19), (⟨"CommaCourtModel", "off", "(I)I"⟩, 19), (⟨"CommaCourtModel", "finesOf", "(II)I"⟩, 19)]
theorem lw_r2 : ∀ q ∈ lw_privs_2, lw_okq q := List.forall_mem_cons.mpr ⟨lw_p16, List.forall_mem_cons.mpr ⟨lw_p17, List.forall_mem_cons.mpr ⟨lw_p18, List.forall_mem_cons.mpr ⟨lw_p19, List.forall_mem_cons.mpr ⟨lw_p20, List.forall_mem_cons.mpr ⟨lw_p21, List.forall_mem_cons.mpr ⟨lw_p22, List.forall_mem_cons.mpr ⟨lw_p23, List.forall_mem_cons.mpr ⟨lw_p24, List.forall_mem_cons.mpr ⟨lw_p25, List.forall_mem_cons.mpr ⟨lw_p26, List.forall_mem_cons.mpr ⟨lw_p27, List.forall_mem_cons.mpr ⟨lw_p28, List.forall_mem_cons.mpr ⟨lw_p29, List.forall_mem_cons.mpr ⟨lw_p30, List.forall_mem_cons.mpr ⟨lw_p31, fun _ h => absurd h List.not_mem_nil⟩⟩⟩⟩⟩⟩⟩⟩⟩⟩⟩⟩⟩⟩⟩⟩
theorem lw_p32 : lw_okq (⟨"CommaCourtModel", "fineOf", "(III)I"⟩, 19) := ⟨⟨by decide +kernel, by decide +kernel⟩, List.mem_of_getElem? (i := 635) (by decide +kernel), List.mem_of_getElem? (i := 807) (by decide +kernel), List.mem_of_getElem? (i := 808) (by decide +kernel)⟩
theorem lw_p33 : lw_okq (⟨"CommaCourtModel", "rulingOf", "(II)I"⟩, 19) := ⟨⟨by decide +kernel, by decide +kernel⟩, List.mem_of_getElem? (i := 635) (by decide +kernel), List.mem_of_getElem? (i := 811) (by decide +kernel), List.mem_of_getElem? (i := 812) (by decide +kernel)⟩
theorem lw_p34 : lw_okq (⟨"CommaCourtModel", "counting", "(II)I"⟩, 19) := ⟨⟨by decide +kernel, by decide +kernel⟩, List.mem_of_getElem? (i := 635) (by decide +kernel), List.mem_of_getElem? (i := 815) (by decide +kernel), List.mem_of_getElem? (i := 816) (by decide +kernel)⟩
theorem lw_p35 : lw_okq (⟨"CommaCourtModel", "costOf", "(I)I"⟩, 19) := ⟨⟨by decide +kernel, by decide +kernel⟩, List.mem_of_getElem? (i := 635) (by decide +kernel), List.mem_of_getElem? (i := 819) (by decide +kernel), List.mem_of_getElem? (i := 820) (by decide +kernel)⟩
theorem lw_p36 : lw_okq (⟨"CommaCourtModel", "isTaken", "(II)Z"⟩, 19) := ⟨⟨by decide +kernel, by decide +kernel⟩, List.mem_of_getElem? (i := 635) (by decide +kernel), List.mem_of_getElem? (i := 823) (by decide +kernel), List.mem_of_getElem? (i := 824) (by decide +kernel)⟩
theorem lw_p37 : lw_okq (⟨"CommaCourtModel", "isSame", "(II)Z"⟩, 19) := ⟨⟨by decide +kernel, by decide +kernel⟩, List.mem_of_getElem? (i := 635) (by decide +kernel), List.mem_of_getElem? (i := 827) (by decide +kernel), List.mem_of_getElem? (i := 828) (by decide +kernel)⟩
theorem lw_p38 : lw_okq (⟨"CommaCourtModel", "lays", "(III)V"⟩, 19) := ⟨⟨by decide +kernel, by decide +kernel⟩, List.mem_of_getElem? (i := 635) (by decide +kernel), List.mem_of_getElem? (i := 831) (by decide +kernel), List.mem_of_getElem? (i := 832) (by decide +kernel)⟩
theorem lw_p39 : lw_okq (⟨"CommaCourtModel", "isWords", "()Z"⟩, 19) := ⟨⟨by decide +kernel, by decide +kernel⟩, List.mem_of_getElem? (i := 635) (by decide +kernel), List.mem_of_getElem? (i := 855) (by decide +kernel), List.mem_of_getElem? (i := 856) (by decide +kernel)⟩
theorem lw_p40 : lw_okq (⟨"CommaCourtModel", "here", "()I"⟩, 19) := ⟨⟨by decide +kernel, by decide +kernel⟩, List.mem_of_getElem? (i := 635) (by decide +kernel), List.mem_of_getElem? (i := 859) (by decide +kernel), List.mem_of_getElem? (i := 860) (by decide +kernel)⟩
theorem lw_p41 : lw_okq (⟨"CommaCourtModel", "takes", "(Z)V"⟩, 19) := ⟨⟨by decide +kernel, by decide +kernel⟩, List.mem_of_getElem? (i := 635) (by decide +kernel), List.mem_of_getElem? (i := 863) (by decide +kernel), List.mem_of_getElem? (i := 864) (by decide +kernel)⟩
theorem lw_p42 : lw_okq (⟨"CommaCourtModel", "areSuits", "()Z"⟩, 19) := ⟨⟨by decide +kernel, by decide +kernel⟩, List.mem_of_getElem? (i := 635) (by decide +kernel), List.mem_of_getElem? (i := 867) (by decide +kernel), List.mem_of_getElem? (i := 868) (by decide +kernel)⟩
theorem lw_p43 : lw_okq (⟨"CommaCourtModel", "takesSuit", "()V"⟩, 19) := ⟨⟨by decide +kernel, by decide +kernel⟩, List.mem_of_getElem? (i := 635) (by decide +kernel), List.mem_of_getElem? (i := 871) (by decide +kernel), List.mem_of_getElem? (i := 872) (by decide +kernel)⟩
theorem lw_p44 : lw_okq (⟨"CommaCourtModel", "isPrinted", "()Z"⟩, 19) := ⟨⟨by decide +kernel, by decide +kernel⟩, List.mem_of_getElem? (i := 635) (by decide +kernel), List.mem_of_getElem? (i := 879) (by decide +kernel), List.mem_of_getElem? (i := 880) (by decide +kernel)⟩
theorem lw_p45 : lw_okq (⟨"CommaCourtModel", "laysEdition", "()I"⟩, 19) := ⟨⟨by decide +kernel, by decide +kernel⟩, List.mem_of_getElem? (i := 635) (by decide +kernel), List.mem_of_getElem? (i := 883) (by decide +kernel), List.mem_of_getElem? (i := 884) (by decide +kernel)⟩
theorem lw_p46 : lw_okq (⟨"CommaCourtModel", "doesSuit", "()I"⟩, 19) := ⟨⟨by decide +kernel, by decide +kernel⟩, List.mem_of_getElem? (i := 635) (by decide +kernel), List.mem_of_getElem? (i := 891) (by decide +kernel), List.mem_of_getElem? (i := 892) (by decide +kernel)⟩
theorem lw_p47 : lw_okq (⟨"CommaCourtModel", "allWeight", "(I)I"⟩, 19) := ⟨⟨by decide +kernel, by decide +kernel⟩, List.mem_of_getElem? (i := 635) (by decide +kernel), List.mem_of_getElem? (i := 910) (by decide +kernel), List.mem_of_getElem? (i := 911) (by decide +kernel)⟩
def lw_privs_3 : List (MethodName × Nat) := [(⟨"CommaCourtModel", "fineOf", "(III)I"⟩, 19), (⟨"CommaCourtModel", "rulingOf", "(II)I"⟩, 19), (⟨"CommaCourtModel", "counting", "(II)I"⟩, 19), (⟨"CommaCourtModel", "costOf", "(I)I"⟩, 19), (⟨"CommaCourtModel", "isTaken", "(II)Z"⟩, 19), (⟨"CommaCourtModel", "isSame", "(II)Z"⟩, 19), (⟨"CommaCourtModel", "lays", "(III)V"⟩, 19), (⟨"CommaCourtModel", "isWords", "()Z"⟩, 19), (⟨"CommaCourtModel", "here", "()I"⟩, 19), (⟨"CommaCourtModel", "takes", "(Z)V"⟩, 19), (⟨"CommaCourtModel", "areSuits", "()Z"⟩, 19), (⟨"CommaCourtModel", "takesSuit", "()V"⟩, 19), (⟨"CommaCourtModel", "isPrinted", "()Z"⟩, 19), (⟨"CommaCourtModel", "laysEdition", "()I"⟩, 19), (⟨"CommaCourtModel", "doesSuit", "()I"⟩, 19), (⟨"CommaCourtModel", "allWeight", "(I)I"⟩, 19)]
theorem lw_r3 : ∀ q ∈ lw_privs_3, lw_okq q := List.forall_mem_cons.mpr ⟨lw_p32, List.forall_mem_cons.mpr ⟨lw_p33, List.forall_mem_cons.mpr ⟨lw_p34, List.forall_mem_cons.mpr ⟨lw_p35, List.forall_mem_cons.mpr ⟨lw_p36, List.forall_mem_cons.mpr ⟨lw_p37, List.forall_mem_cons.mpr ⟨lw_p38, List.forall_mem_cons.mpr ⟨lw_p39, List.forall_mem_cons.mpr ⟨lw_p40, List.forall_mem_cons.mpr ⟨lw_p41, List.forall_mem_cons.mpr ⟨lw_p42, List.forall_mem_cons.mpr ⟨lw_p43, List.forall_mem_cons.mpr ⟨lw_p44, List.forall_mem_cons.mpr ⟨lw_p45, List.forall_mem_cons.mpr ⟨lw_p46, List.forall_mem_cons.mpr ⟨lw_p47, fun _ h => absurd h List.not_mem_nil⟩⟩⟩⟩⟩⟩⟩⟩⟩⟩⟩⟩⟩⟩⟩⟩
theorem lw_p48 : lw_okq (⟨"CommaCourtModel", "doesCount", "(I)Z"⟩, 19) := ⟨⟨by decide +kernel, by decide +kernel⟩, List.mem_of_getElem? (i := 635) (by decide +kernel), List.mem_of_getElem? (i := 922) (by decide +kernel), List.mem_of_getElem? (i := 923) (by decide +kernel)⟩
theorem lw_p49 : lw_okq (⟨"CommaCourtModel", "citing", "(I)I"⟩, 19) := ⟨⟨by decide +kernel, by decide +kernel⟩, List.mem_of_getElem? (i := 635) (by decide +kernel), List.mem_of_getElem? (i := 926) (by decide +kernel), List.mem_of_getElem? (i := 927) (by decide +kernel)⟩
theorem lw_p50 : lw_okq (⟨"CommaCourtModel", "finesBy", "(I)I"⟩, 19) := ⟨⟨by decide +kernel, by decide +kernel⟩, List.mem_of_getElem? (i := 635) (by decide +kernel), List.mem_of_getElem? (i := 930) (by decide +kernel), List.mem_of_getElem? (i := 931) (by decide +kernel)⟩
theorem lw_p51 : lw_okq (⟨"CommaCourtModel", "bestSet", "(I)I"⟩, 19) := ⟨⟨by decide +kernel, by decide +kernel⟩, List.mem_of_getElem? (i := 635) (by decide +kernel), List.mem_of_getElem? (i := 942) (by decide +kernel), List.mem_of_getElem? (i := 943) (by decide +kernel)⟩
theorem lw_p52 : lw_okq (⟨"CommaCourtModel", "laysFines", "(I)V"⟩, 19) := ⟨⟨by decide +kernel, by decide +kernel⟩, List.mem_of_getElem? (i := 635) (by decide +kernel), List.mem_of_getElem? (i := 946) (by decide +kernel), List.mem_of_getElem? (i := 947) (by decide +kernel)⟩
theorem lw_p53 : lw_okq (⟨"CommaCourtModel", "fastCost", "(II)I"⟩, 19) := ⟨⟨by decide +kernel, by decide +kernel⟩, List.mem_of_getElem? (i := 635) (by decide +kernel), List.mem_of_getElem? (i := 950) (by decide +kernel), List.mem_of_getElem? (i := 951) (by decide +kernel)⟩
theorem lw_p54 : lw_okq (⟨"CommaCourtModel", "splits", "(I)I"⟩, 19) := ⟨⟨by decide +kernel, by decide +kernel⟩, List.mem_of_getElem? (i := 635) (by decide +kernel), List.mem_of_getElem? (i := 958) (by decide +kernel), List.mem_of_getElem? (i := 959) (by decide +kernel)⟩
theorem lw_p55 : lw_okq (⟨"CommaCourtModel", "stayed", "()I"⟩, 19) := ⟨⟨by decide +kernel, by decide +kernel⟩, List.mem_of_getElem? (i := 635) (by decide +kernel), List.mem_of_getElem? (i := 966) (by decide +kernel), List.mem_of_getElem? (i := 967) (by decide +kernel)⟩
theorem lw_p56 : lw_okq (⟨"CommaCourtModel", "allCost", "()I"⟩, 19) := ⟨⟨by decide +kernel, by decide +kernel⟩, List.mem_of_getElem? (i := 635) (by decide +kernel), List.mem_of_getElem? (i := 970) (by decide +kernel), List.mem_of_getElem? (i := 971) (by decide +kernel)⟩
theorem lw_p57 : lw_okq (⟨"CommaCourtModel", "countingOnes", "()I"⟩, 19) := ⟨⟨by decide +kernel, by decide +kernel⟩, List.mem_of_getElem? (i := 635) (by decide +kernel), List.mem_of_getElem? (i := 974) (by decide +kernel), List.mem_of_getElem? (i := 975) (by decide +kernel)⟩
theorem lw_p58 : lw_okq (⟨"CommaCourtModel", "allCommas", "()I"⟩, 19) := ⟨⟨by decide +kernel, by decide +kernel⟩, List.mem_of_getElem? (i := 635) (by decide +kernel), List.mem_of_getElem? (i := 978) (by decide +kernel), List.mem_of_getElem? (i := 979) (by decide +kernel)⟩
theorem lw_p59 : lw_okq (⟨"CommaCourtModel", "cheapest", "()I"⟩, 19) := ⟨⟨by decide +kernel, by decide +kernel⟩, List.mem_of_getElem? (i := 635) (by decide +kernel), List.mem_of_getElem? (i := 982) (by decide +kernel), List.mem_of_getElem? (i := 983) (by decide +kernel)⟩
theorem lw_p60 : lw_okq (⟨"CommaCourtModel", "fineBy", "(IIZI)I"⟩, 19) := ⟨⟨by decide +kernel, by decide +kernel⟩, List.mem_of_getElem? (i := 635) (by decide +kernel), List.mem_of_getElem? (i := 994) (by decide +kernel), List.mem_of_getElem? (i := 995) (by decide +kernel)⟩
def lw_privs_4 : List (MethodName × Nat) := [(⟨"CommaCourtModel", "doesCount", "(I)Z"⟩, 19), (⟨"CommaCourtModel", "citing", "(I)I"⟩, 19), (⟨"CommaCourtModel", "finesBy", "(I)I"⟩, 19), (⟨"CommaCourtModel", "bestSet", "(I)I"⟩, 19), (⟨"CommaCourtModel", "laysFines", "(I)V"⟩, 19), (⟨"CommaCourtModel", "fastCost", "(II)I"⟩, 19), (⟨"CommaCourtModel", "splits", "(I)I"⟩, 19), (⟨"CommaCourtModel", "stayed", "()I"⟩, 19), (⟨"CommaCourtModel", "allCost", "()I"⟩, 19), (⟨"CommaCourtModel", "countingOnes", "()I"⟩, 19), (⟨"CommaCourtModel", "allCommas", "()I"⟩, 19), (⟨"CommaCourtModel", "cheapest", "()I"⟩, 19), (⟨"CommaCourtModel", "fineBy", "(IIZI)I"⟩, 19)]
theorem lw_r4 : ∀ q ∈ lw_privs_4, lw_okq q := List.forall_mem_cons.mpr ⟨lw_p48, List.forall_mem_cons.mpr ⟨lw_p49, List.forall_mem_cons.mpr ⟨lw_p50, List.forall_mem_cons.mpr ⟨lw_p51, List.forall_mem_cons.mpr ⟨lw_p52, List.forall_mem_cons.mpr ⟨lw_p53, List.forall_mem_cons.mpr ⟨lw_p54, List.forall_mem_cons.mpr ⟨lw_p55, List.forall_mem_cons.mpr ⟨lw_p56, List.forall_mem_cons.mpr ⟨lw_p57, List.forall_mem_cons.mpr ⟨lw_p58, List.forall_mem_cons.mpr ⟨lw_p59, List.forall_mem_cons.mpr ⟨lw_p60, fun _ h => absurd h List.not_mem_nil⟩⟩⟩⟩⟩⟩⟩⟩⟩⟩⟩⟩⟩
def lw_privs : List (MethodName × Nat) := lw_privs_1 ++ (lw_privs_2 ++ (lw_privs_3 ++ (lw_privs_4)))
def lw_tbl : List Cond := k2_sels lw_privs ++ tables_1
theorem lw_privs_ok : ∀ q ∈ lw_privs, lw_okq q := by
  show ∀ q ∈ lw_privs_1 ++ (lw_privs_2 ++ (lw_privs_3 ++ (lw_privs_4))), lw_okq q
  exact List.forall_mem_append.mpr ⟨lw_r1, List.forall_mem_append.mpr ⟨lw_r2, List.forall_mem_append.mpr ⟨lw_r3, lw_r4⟩⟩⟩
/-- the streams that the claim lets the run draw from -/
abbrev lw_cs : List Choice := [Jvm.Choice.named "NaN.bits"]
theorem lw_bits : nanBits ∈ lw_cs := by first | decide | exact List.mem_cons_self | simp [lw_cs, nanBits]
end
section
def RX0 : String := "CommaCourt$Edition"
def TX0 : u_T := fun k => match k with
  | 0 => ("CommaCourt$Edition", "kinds", "[I", true)
  | 1 => ("CommaCourt$Edition", "words", "I", false)
  | 2 => ("CommaCourt$Edition", "commas", "I", false)
  | 3 => ("CommaCourt$Edition", "until", "I", false)
  | _ => ("CommaCourt$Edition", "granted", "I", false)
def tyX0 : Nat → FieldType := fun k => match k with
  | 0 => .array .int
  | 1 => .int
  | 2 => .int
  | 3 => .int
  | _ => .int
abbrev wsX00 : List Cond := u_ws RX0 TX0 5
theorem nmX0 : ∀ a, a < 5 → ∀ b, b < 5 → a ≠ b → (TX0 a).2.1 ≠ (TX0 b).2.1 := by decide +kernel
theorem tyX0_ok : ∀ k, k < 5 → parseFieldDescriptor (TX0 k).2.2.1 = some (tyX0 k) := by decide +kernel
abbrev cX0_init : ByteArray := prog_2_method_1_code
def yX0_init : MethodName := ⟨RX0, "<init>", "()V"⟩
abbrev cX0_copyFrom : ByteArray := prog_2_method_2_code
def yX0_copyFrom : MethodName := ⟨RX0, "copyFrom", "(LCommaCourt$Edition;)V"⟩
abbrev cX0_hasGap : ByteArray := prog_2_method_3_code
def yX0_hasGap : MethodName := ⟨RX0, "hasGap", "(I)Z"⟩
abbrev cX0_hasComma : ByteArray := prog_2_method_4_code
def yX0_hasComma : MethodName := ⟨RX0, "hasComma", "(I)Z"⟩
abbrev cX0_kindAt : ByteArray := prog_2_method_5_code
def yX0_kindAt : MethodName := ⟨RX0, "kindAt", "(I)I"⟩
abbrev cX0_clauses : ByteArray := prog_2_method_6_code
def yX0_clauses : MethodName := ⟨RX0, "clauses", "()I"⟩
abbrev cX0_movedCommas : ByteArray := prog_2_method_7_code
def yX0_movedCommas : MethodName := ⟨RX0, "movedCommas", "(I)I"⟩
abbrev cX0_hasWordsOf : ByteArray := prog_2_method_8_code
def yX0_hasWordsOf : MethodName := ⟨RX0, "hasWordsOf", "(LCommaCourt$Edition;)Z"⟩
abbrev cX0_textSign : ByteArray := prog_2_method_9_code
def yX0_textSign : MethodName := ⟨RX0, "textSign", "(I)I"⟩
def RX1 : String := "CommaCourt$Pad"
def TX1 : u_T := fun k => match k with
  | 0 => ("CommaCourt$Pad", "signs", "[I", true)
  | _ => ("CommaCourt$Pad", "length", "I", false)
def tyX1 : Nat → FieldType := fun k => match k with
  | 0 => .array .int
  | _ => .int
abbrev wsX10 : List Cond := u_ws RX1 TX1 2
theorem nmX1 : ∀ a, a < 2 → ∀ b, b < 2 → a ≠ b → (TX1 a).2.1 ≠ (TX1 b).2.1 := by decide +kernel
theorem tyX1_ok : ∀ k, k < 2 → parseFieldDescriptor (TX1 k).2.2.1 = some (tyX1 k) := by decide +kernel
abbrev cX1_init : ByteArray := prog_3_method_1_code
def yX1_init : MethodName := ⟨RX1, "<init>", "()V"⟩
abbrev cX1_signAt : ByteArray := prog_3_method_2_code
def yX1_signAt : MethodName := ⟨RX1, "signAt", "(I)I"⟩
abbrev cX1_editionFault : ByteArray := prog_3_method_3_code
def yX1_editionFault : MethodName := ⟨RX1, "editionFault", "()I"⟩
abbrev cX1_suitsFault : ByteArray := prog_3_method_4_code
def yX1_suitsFault : MethodName := ⟨RX1, "suitsFault", "()I"⟩
abbrev cX1_dueBehind : ByteArray := prog_3_method_5_code
def yX1_dueBehind : MethodName := ⟨RX1, "dueBehind", "(II)I"⟩
abbrev cX1_beginsPart : ByteArray := prog_3_method_6_code
def yX1_beginsPart : MethodName := ⟨RX1, "beginsPart", "(I)Z"⟩
abbrev cX1_gapAt : ByteArray := prog_3_method_7_code
def yX1_gapAt : MethodName := ⟨RX1, "gapAt", "(I)I"⟩
abbrev cX1_writeTo : ByteArray := prog_3_method_8_code
def yX1_writeTo : MethodName := ⟨RX1, "writeTo", "(LCommaCourt$Edition;)V"⟩
def RX2 : String := "CommaCourt$Ruling"
def TX2 : u_T := fun k => match k with
  | 0 => ("CommaCourt$Ruling", "first", "I", false)
  | 1 => ("CommaCourt$Ruling", "second", "I", false)
  | 2 => ("CommaCourt$Ruling", "comma", "Z", false)
  | 3 => ("CommaCourt$Ruling", "fine", "I", false)
  | 4 => ("CommaCourt$Ruling", "cites", "I", false)
  | 5 => ("CommaCourt$Ruling", "overruled", "Z", false)
  | _ => ("CommaCourt$Ruling", "inForce", "Z", false)
def tyX2 : Nat → FieldType := fun k => match k with
  | 0 => .int
  | 1 => .int
  | 2 => .boolean
  | 3 => .int
  | 4 => .int
  | 5 => .boolean
  | _ => .boolean
abbrev wsX20 : List Cond := u_ws RX2 TX2 7
theorem nmX2 : ∀ a, a < 7 → ∀ b, b < 7 → a ≠ b → (TX2 a).2.1 ≠ (TX2 b).2.1 := by decide +kernel
theorem tyX2_ok : ∀ k, k < 7 → parseFieldDescriptor (TX2 k).2.2.1 = some (tyX2 k) := by decide +kernel
abbrev cX2_init : ByteArray := prog_4_method_1_code
def yX2_init : MethodName := ⟨RX2, "<init>", "()V"⟩
abbrev cX2_copyFrom : ByteArray := prog_4_method_2_code
def yX2_copyFrom : MethodName := ⟨RX2, "copyFrom", "(LCommaCourt$Ruling;)V"⟩
abbrev cX2_fineFor : ByteArray := prog_4_method_3_code
def yX2_fineFor : MethodName := ⟨RX2, "fineFor", "(Z)I"⟩
def RX3 : String := "CommaCourt$Sheet"
def TX3 : u_T := fun k => match k with
  | 0 => ("CommaCourt$Sheet", "weights", "[I", true)
  | 1 => ("CommaCourt$Sheet", "finesWithComma", "[I", true)
  | 2 => ("CommaCourt$Sheet", "finesWithout", "[I", true)
  | 3 => ("CommaCourt$Sheet", "byWords", "[I", true)
  | 4 => ("CommaCourt$Sheet", "words", "I", false)
  | 5 => ("CommaCourt$Sheet", "heavy", "I", false)
  | _ => ("CommaCourt$Sheet", "balance", "I", false)
def tyX3 : Nat → FieldType := fun k => match k with
  | 0 => .array .int
  | 1 => .array .int
  | 2 => .array .int
  | 3 => .array .int
  | 4 => .int
  | 5 => .int
  | _ => .int
abbrev wsX30 : List Cond := u_ws RX3 TX3 7
theorem nmX3 : ∀ a, a < 7 → ∀ b, b < 7 → a ≠ b → (TX3 a).2.1 ≠ (TX3 b).2.1 := by decide +kernel
theorem tyX3_ok : ∀ k, k < 7 → parseFieldDescriptor (TX3 k).2.2.1 = some (tyX3 k) := by decide +kernel
abbrev cX3_init : ByteArray := prog_5_method_1_code
def yX3_init : MethodName := ⟨RX3, "<init>", "()V"⟩
abbrev cX3_read : ByteArray := prog_5_method_2_code
def yX3_read : MethodName := ⟨RX3, "read", "(LCommaCourt$State;LCommaCourt$Edition;)V"⟩
abbrev cX3_wholeWeight : ByteArray := prog_5_method_3_code
def yX3_wholeWeight : MethodName := ⟨RX3, "wholeWeight", "()I"⟩
abbrev cX3_clauseCost : ByteArray := prog_5_method_4_code
def yX3_clauseCost : MethodName := ⟨RX3, "clauseCost", "(I)I"⟩
abbrev cX3_clausesCost : ByteArray := prog_5_method_5_code
def yX3_clausesCost : MethodName := ⟨RX3, "clausesCost", "(I)I"⟩
abbrev cX3_fines : ByteArray := prog_5_method_6_code
def yX3_fines : MethodName := ⟨RX3, "fines", "(I)I"⟩
abbrev cX3_cost : ByteArray := prog_5_method_7_code
def yX3_cost : MethodName := ⟨RX3, "cost", "(I)I"⟩
abbrev cX3_rank : ByteArray := prog_5_method_8_code
def yX3_rank : MethodName := ⟨RX3, "rank", "(I)I"⟩
abbrev cX3_leastRankOfAllSets : ByteArray := prog_5_method_9_code
def yX3_leastRankOfAllSets : MethodName := ⟨RX3, "leastRankOfAllSets", "()I"⟩
abbrev cX3_leastRankByWords : ByteArray := prog_5_method_10_code
def yX3_leastRankByWords : MethodName := ⟨RX3, "leastRankByWords", "()I"⟩
abbrev cX3_leastRankUpTo : ByteArray := prog_5_method_11_code
def yX3_leastRankUpTo : MethodName := ⟨RX3, "leastRankUpTo", "(I)I"⟩
abbrev cX3_rankUpToClause : ByteArray := prog_5_method_12_code
def yX3_rankUpToClause : MethodName := ⟨RX3, "rankUpToClause", "(I)I"⟩
abbrev cX3_splittingsByWords : ByteArray := prog_5_method_13_code
def yX3_splittingsByWords : MethodName := ⟨RX3, "splittingsByWords", "()I"⟩
def RX4 : String := "CommaCourt$State"
def TX4 : u_T := fun k => match k with
  | 0 => ("CommaCourt$State", "weights", "[I", true)
  | 1 => ("CommaCourt$State", "settings", "[I", true)
  | 2 => ("CommaCourt$State", "editions", "[LCommaCourt$Edition;", true)
  | 3 => ("CommaCourt$State", "rulings", "[LCommaCourt$Ruling;", true)
  | 4 => ("CommaCourt$State", "editionCount", "I", false)
  | 5 => ("CommaCourt$State", "rulingCount", "I", false)
  | 6 => ("CommaCourt$State", "day", "I", false)
  | 7 => ("CommaCourt$State", "granted", "I", false)
  | _ => ("CommaCourt$State", "refused", "I", false)
def tyX4 : Nat → FieldType := fun k => match k with
  | 0 => .array .int
  | 1 => .array .int
  | 2 => .array (.object "CommaCourt$Edition")
  | 3 => .array (.object "CommaCourt$Ruling")
  | 4 => .int
  | 5 => .int
  | 6 => .int
  | 7 => .int
  | _ => .int
abbrev wsX40 : List Cond := u_ws RX4 TX4 9
theorem nmX4 : ∀ a, a < 9 → ∀ b, b < 9 → a ≠ b → (TX4 a).2.1 ≠ (TX4 b).2.1 := by decide +kernel
theorem tyX4_ok : ∀ k, k < 9 → parseFieldDescriptor (TX4 k).2.2.1 = some (tyX4 k) := by decide +kernel
abbrev cX4_init : ByteArray := prog_6_method_1_code
def yX4_init : MethodName := ⟨RX4, "<init>", "()V"⟩
abbrev cX4_copyFrom : ByteArray := prog_6_method_2_code
def yX4_copyFrom : MethodName := ⟨RX4, "copyFrom", "(LCommaCourt$State;)V"⟩
abbrev cX4_copyEdition : ByteArray := prog_6_method_3_code
def yX4_copyEdition : MethodName := ⟨RX4, "copyEdition", "(LCommaCourt$Edition;I)V"⟩
abbrev cX4_editionAt : ByteArray := prog_6_method_4_code
def yX4_editionAt : MethodName := ⟨RX4, "editionAt", "(I)LCommaCourt$Edition;"⟩
abbrev cX4_rulingAt : ByteArray := prog_6_method_5_code
def yX4_rulingAt : MethodName := ⟨RX4, "rulingAt", "(I)LCommaCourt$Ruling;"⟩
abbrev cX4_addEdition : ByteArray := prog_6_method_6_code
def yX4_addEdition : MethodName := ⟨RX4, "addEdition", "(LCommaCourt$Edition;)V"⟩
abbrev cX4_removeEdition : ByteArray := prog_6_method_7_code
def yX4_removeEdition : MethodName := ⟨RX4, "removeEdition", "(I)V"⟩
abbrev cX4_hasEditionLike : ByteArray := prog_6_method_8_code
def yX4_hasEditionLike : MethodName := ⟨RX4, "hasEditionLike", "(LCommaCourt$Edition;I)Z"⟩
abbrev cX4_isStayed : ByteArray := prog_6_method_9_code
def yX4_isStayed : MethodName := ⟨RX4, "isStayed", "(LCommaCourt$Edition;)Z"⟩
abbrev cX4_stayedEditions : ByteArray := prog_6_method_10_code
def yX4_stayedEditions : MethodName := ⟨RX4, "stayedEditions", "()I"⟩
abbrev cX4_commasOfAll : ByteArray := prog_6_method_11_code
def yX4_commasOfAll : MethodName := ⟨RX4, "commasOfAll", "()I"⟩
abbrev cX4_wordsOfAll : ByteArray := prog_6_method_12_code
def yX4_wordsOfAll : MethodName := ⟨RX4, "wordsOfAll", "()I"⟩
abbrev cX4_addRuling : ByteArray := prog_6_method_13_code
def yX4_addRuling : MethodName := ⟨RX4, "addRuling", "(IIZII)V"⟩
abbrev cX4_findForce : ByteArray := prog_6_method_14_code
def yX4_findForce : MethodName := ⟨RX4, "findForce", "()V"⟩
abbrev cX4_rulingsInForce : ByteArray := prog_6_method_15_code
def yX4_rulingsInForce : MethodName := ⟨RX4, "rulingsInForce", "()I"⟩
abbrev cX4_rulingsThatCount : ByteArray := prog_6_method_16_code
def yX4_rulingsThatCount : MethodName := ⟨RX4, "rulingsThatCount", "()I"⟩
abbrev cX4_citationsOf : ByteArray := prog_6_method_17_code
def yX4_citationsOf : MethodName := ⟨RX4, "citationsOf", "(I)I"⟩
abbrev cX4_countingAbout : ByteArray := prog_6_method_18_code
def yX4_countingAbout : MethodName := ⟨RX4, "countingAbout", "(II)I"⟩
abbrev cX4_countingAt : ByteArray := prog_6_method_19_code
def yX4_countingAt : MethodName := ⟨RX4, "countingAt", "(LCommaCourt$Edition;I)I"⟩
abbrev cX4_counts : ByteArray := prog_6_method_20_code
def yX4_counts : MethodName := ⟨RX4, "counts", "(I)Z"⟩
abbrev cX4_fineAt : ByteArray := prog_6_method_21_code
def yX4_fineAt : MethodName := ⟨RX4, "fineAt", "(LCommaCourt$Edition;I)I"⟩
abbrev cX4_finesBroughtBy : ByteArray := prog_6_method_22_code
def yX4_finesBroughtBy : MethodName := ⟨RX4, "finesBroughtBy", "(I)I"⟩
def RX5 : String := "CommaCourt"
def TX5 : u_T := fun k => match k with
  | 0 => ("CommaCourt", "now", "LCommaCourt$State;", true)
  | 1 => ("CommaCourt", "snapshot", "LCommaCourt$State;", true)
  | 2 => ("CommaCourt", "history", "[LCommaCourt$State;", true)
  | 3 => ("CommaCourt", "pad", "LCommaCourt$Pad;", true)
  | 4 => ("CommaCourt", "draft", "LCommaCourt$Edition;", true)
  | 5 => ("CommaCourt", "sheet", "LCommaCourt$Sheet;", true)
  | 6 => ("CommaCourt", "saved", "Z", false)
  | 7 => ("CommaCourt", "states", "I", false)
  | 8 => ("CommaCourt", "stopped", "Z", false)
  | 9 => ("CommaCourt", "stopReason", "I", false)
  | 10 => ("CommaCourt", "stopPart", "I", false)
  | _ => ("CommaCourt", "stopPlace", "I", false)
def tyX5 : Nat → FieldType := fun k => match k with
  | 0 => .object "CommaCourt$State"
  | 1 => .object "CommaCourt$State"
  | 2 => .array (.object "CommaCourt$State")
  | 3 => .object "CommaCourt$Pad"
  | 4 => .object "CommaCourt$Edition"
  | 5 => .object "CommaCourt$Sheet"
  | 6 => .boolean
  | 7 => .int
  | 8 => .boolean
  | 9 => .int
  | 10 => .int
  | _ => .int
abbrev wsX50 : List Cond := u_ws RX5 TX5 12
theorem nmX5 : ∀ a, a < 12 → ∀ b, b < 12 → a ≠ b → (TX5 a).2.1 ≠ (TX5 b).2.1 := by decide +kernel
theorem tyX5_ok : ∀ k, k < 12 → parseFieldDescriptor (TX5 k).2.2.1 = some (tyX5 k) := by decide +kernel
abbrev cX5_init : ByteArray := prog_1_method_1_code
def yX5_init : MethodName := ⟨RX5, "<init>", "()V"⟩
abbrev cX5_weight : ByteArray := prog_1_method_2_code
def yX5_weight : MethodName := ⟨RX5, "weight", "(II)I"⟩
abbrev cX5_set : ByteArray := prog_1_method_3_code
def yX5_set : MethodName := ⟨RX5, "set", "(II)I"⟩
abbrev cX5_rule : ByteArray := prog_1_method_4_code
def yX5_rule : MethodName := ⟨RX5, "rule", "(IIZII)I"⟩
abbrev cX5_overrule : ByteArray := prog_1_method_5_code
def yX5_overrule : MethodName := ⟨RX5, "overrule", "(I)I"⟩
abbrev cX5_print : ByteArray := prog_1_method_6_code
def yX5_print : MethodName := ⟨RX5, "print", "()I"⟩
abbrev cX5_drop : ByteArray := prog_1_method_7_code
def yX5_drop : MethodName := ⟨RX5, "drop", "(I)I"⟩
abbrev cX5_sue : ByteArray := prog_1_method_8_code
def yX5_sue : MethodName := ⟨RX5, "sue", "(II)I"⟩
abbrev cX5_stay : ByteArray := prog_1_method_9_code
def yX5_stay : MethodName := ⟨RX5, "stay", "(II)I"⟩
abbrev cX5_day : ByteArray := prog_1_method_10_code
def yX5_day : MethodName := ⟨RX5, "day", "()I"⟩
abbrev cX5_append : ByteArray := prog_1_method_11_code
def yX5_append : MethodName := ⟨RX5, "append", "(I)I"⟩
abbrev cX5_clear : ByteArray := prog_1_method_12_code
def yX5_clear : MethodName := ⟨RX5, "clear", "()I"⟩
abbrev cX5_fault : ByteArray := prog_1_method_13_code
def yX5_fault : MethodName := ⟨RX5, "fault", "(I)I"⟩
abbrev cX5_plead : ByteArray := prog_1_method_14_code
def yX5_plead : MethodName := ⟨RX5, "plead", "()I"⟩
abbrev cX5_why : ByteArray := prog_1_method_15_code
def yX5_why : MethodName := ⟨RX5, "why", "(I)I"⟩
abbrev cX5_sign : ByteArray := prog_1_method_16_code
def yX5_sign : MethodName := ⟨RX5, "sign", "(II)I"⟩
abbrev cX5_edition : ByteArray := prog_1_method_17_code
def yX5_edition : MethodName := ⟨RX5, "edition", "(II)I"⟩
abbrev cX5_gap : ByteArray := prog_1_method_18_code
def yX5_gap : MethodName := ⟨RX5, "gap", "(III)I"⟩
abbrev cX5_ruling : ByteArray := prog_1_method_19_code
def yX5_ruling : MethodName := ⟨RX5, "ruling", "(II)I"⟩
abbrev cX5_whyNot : ByteArray := prog_1_method_20_code
def yX5_whyNot : MethodName := ⟨RX5, "whyNot", "(II)I"⟩
abbrev cX5_best : ByteArray := prog_1_method_21_code
def yX5_best : MethodName := ⟨RX5, "best", "(III)I"⟩
abbrev cX5_ways : ByteArray := prog_1_method_22_code
def yX5_ways : MethodName := ⟨RX5, "ways", "(II)I"⟩
abbrev cX5_count : ByteArray := prog_1_method_23_code
def yX5_count : MethodName := ⟨RX5, "count", "(I)I"⟩
abbrev cX5_length : ByteArray := prog_1_method_24_code
def yX5_length : MethodName := ⟨RX5, "length", "()D"⟩
abbrev cX5_ifRuled : ByteArray := prog_1_method_25_code
def yX5_ifRuled : MethodName := ⟨RX5, "ifRuled", "(IIZI)I"⟩
abbrev cX5_bestSuit : ByteArray := prog_1_method_26_code
def yX5_bestSuit : MethodName := ⟨RX5, "bestSuit", "(I)I"⟩
abbrev cX5_undo : ByteArray := prog_1_method_27_code
def yX5_undo : MethodName := ⟨RX5, "undo", "()I"⟩
abbrev cX5_save : ByteArray := prog_1_method_28_code
def yX5_save : MethodName := ⟨RX5, "save", "()I"⟩
abbrev cX5_restore : ByteArray := prog_1_method_29_code
def yX5_restore : MethodName := ⟨RX5, "restore", "()I"⟩
abbrev cX5_isWithin : ByteArray := prog_1_method_30_code
def yX5_isWithin : MethodName := ⟨RX5, "isWithin", "(III)Z"⟩
abbrev cX5_isKind : ByteArray := prog_1_method_31_code
def yX5_isKind : MethodName := ⟨RX5, "isKind", "(I)Z"⟩
abbrev cX5_isAboutKinds : ByteArray := prog_1_method_32_code
def yX5_isAboutKinds : MethodName := ⟨RX5, "isAboutKinds", "(III)Z"⟩
abbrev cX5_at : ByteArray := prog_1_method_33_code
def yX5_at : MethodName := ⟨RX5, "at", "([II)I"⟩
abbrev cX5_put : ByteArray := prog_1_method_34_code
def yX5_put : MethodName := ⟨RX5, "put", "([III)V"⟩
abbrev cX5_stateAt : ByteArray := prog_1_method_35_code
def yX5_stateAt : MethodName := ⟨RX5, "stateAt", "(I)LCommaCourt$State;"⟩
abbrev cX5_keepState : ByteArray := prog_1_method_36_code
def yX5_keepState : MethodName := ⟨RX5, "keepState", "()V"⟩
abbrev cX5_forgetOldest : ByteArray := prog_1_method_37_code
def yX5_forgetOldest : MethodName := ⟨RX5, "forgetOldest", "()V"⟩
abbrev cX5_decide : ByteArray := prog_1_method_38_code
def yX5_decide : MethodName := ⟨RX5, "decide", "(LCommaCourt$Edition;I)I"⟩
abbrev cX5_reasonAgainst : ByteArray := prog_1_method_39_code
def yX5_reasonAgainst : MethodName := ⟨RX5, "reasonAgainst", "(LCommaCourt$Edition;I)I"⟩
abbrev cX5_reasonOfPart : ByteArray := prog_1_method_40_code
def yX5_reasonOfPart : MethodName := ⟨RX5, "reasonOfPart", "(I)I"⟩
abbrev cX5_costOfEdition : ByteArray := prog_1_method_41_code
def yX5_costOfEdition : MethodName := ⟨RX5, "costOfEdition", "(I)I"⟩
abbrev cX5_costOfAll : ByteArray := prog_1_method_42_code
def yX5_costOfAll : MethodName := ⟨RX5, "costOfAll", "()I"⟩
abbrev cX5_cheapestEdition : ByteArray := prog_1_method_43_code
def yX5_cheapestEdition : MethodName := ⟨RX5, "cheapestEdition", "()I"⟩
abbrev cX5_splittingsFrom : ByteArray := prog_1_method_44_code
def yX5_splittingsFrom : MethodName := ⟨RX5, "splittingsFrom", "(LCommaCourt$Sheet;II)I"⟩
def RX6 : String := "CommaCourtModel"
def TX6 : u_T := fun k => match k with
  | 0 => ("CommaCourtModel", "s", "[I", true)
  | 1 => ("CommaCourtModel", "past", "[I", true)
  | 2 => ("CommaCourtModel", "known", "I", false)
  | 3 => ("CommaCourtModel", "kept", "[I", true)
  | 4 => ("CommaCourtModel", "isKept", "Z", false)
  | 5 => ("CommaCourtModel", "pad", "[I", true)
  | 6 => ("CommaCourtModel", "length", "I", false)
  | 7 => ("CommaCourtModel", "spot", "I", false)
  | 8 => ("CommaCourtModel", "isForm", "Z", false)
  | 9 => ("CommaCourtModel", "words", "I", false)
  | 10 => ("CommaCourtModel", "commas", "I", false)
  | 11 => ("CommaCourtModel", "ofEdition", "I", false)
  | 12 => ("CommaCourtModel", "ofGap", "I", false)
  | 13 => ("CommaCourtModel", "isDay", "Z", false)
  | 14 => ("CommaCourtModel", "isStopped", "Z", false)
  | 15 => ("CommaCourtModel", "stop", "[I", true)
  | 16 => ("CommaCourtModel", "without", "[I", true)
  | 17 => ("CommaCourtModel", "with", "[I", true)
  | _ => ("CommaCourtModel", "many", "[I", true)
def tyX6 : Nat → FieldType := fun k => match k with
  | 0 => .array .int
  | 1 => .array .int
  | 2 => .int
  | 3 => .array .int
  | 4 => .boolean
  | 5 => .array .int
  | 6 => .int
  | 7 => .int
  | 8 => .boolean
  | 9 => .int
  | 10 => .int
  | 11 => .int
  | 12 => .int
  | 13 => .boolean
  | 14 => .boolean
  | 15 => .array .int
  | 16 => .array .int
  | 17 => .array .int
  | _ => .array .int
abbrev wsX60 : List Cond := u_ws RX6 TX6 19
theorem nmX6 : ∀ a, a < 19 → ∀ b, b < 19 → a ≠ b → (TX6 a).2.1 ≠ (TX6 b).2.1 := by decide +kernel
theorem tyX6_ok : ∀ k, k < 19 → parseFieldDescriptor (TX6 k).2.2.1 = some (tyX6 k) := by decide +kernel
abbrev cX6_init : ByteArray := prog_8_method_1_code
def yX6_init : MethodName := ⟨RX6, "<init>", "()V"⟩
abbrev cX6_in : ByteArray := prog_8_method_3_code
def yX6_in : MethodName := ⟨RX6, "in", "(III)Z"⟩
abbrev cX6_copies : ByteArray := prog_8_method_4_code
def yX6_copies : MethodName := ⟨RX6, "copies", "([II[II)V"⟩
abbrev cX6_records : ByteArray := prog_8_method_5_code
def yX6_records : MethodName := ⟨RX6, "records", "()V"⟩
abbrev cX6_ones : ByteArray := prog_8_method_6_code
def yX6_ones : MethodName := ⟨RX6, "ones", "(I)I"⟩
abbrev cX6_isKind : ByteArray := prog_8_method_7_code
def yX6_isKind : MethodName := ⟨RX6, "isKind", "(I)Z"⟩
abbrev cX6_isRuling : ByteArray := prog_8_method_8_code
def yX6_isRuling : MethodName := ⟨RX6, "isRuling", "(I)Z"⟩
abbrev cX6_ofRuling : ByteArray := prog_8_method_9_code
def yX6_ofRuling : MethodName := ⟨RX6, "ofRuling", "(II)I"⟩
abbrev cX6_isForce : ByteArray := prog_8_method_10_code
def yX6_isForce : MethodName := ⟨RX6, "isForce", "(I)Z"⟩
abbrev cX6_inForce : ByteArray := prog_8_method_11_code
def yX6_inForce : MethodName := ⟨RX6, "inForce", "()I"⟩
abbrev cX6_counting : ByteArray := prog_8_method_12_code
def yX6_counting : MethodName := ⟨RX6, "counting", "(II)I"⟩
abbrev cX6_doesCount : ByteArray := prog_8_method_13_code
def yX6_doesCount : MethodName := ⟨RX6, "doesCount", "(I)Z"⟩
abbrev cX6_isEdition : ByteArray := prog_8_method_14_code
def yX6_isEdition : MethodName := ⟨RX6, "isEdition", "(I)Z"⟩
abbrev cX6_of : ByteArray := prog_8_method_15_code
def yX6_of : MethodName := ⟨RX6, "of", "(II)I"⟩
abbrev cX6_lays : ByteArray := prog_8_method_16_code
def yX6_lays : MethodName := ⟨RX6, "lays", "(III)V"⟩
abbrev cX6_isGap : ByteArray := prog_8_method_17_code
def yX6_isGap : MethodName := ⟨RX6, "isGap", "(II)Z"⟩
abbrev cX6_wordOf : ByteArray := prog_8_method_18_code
def yX6_wordOf : MethodName := ⟨RX6, "wordOf", "(II)I"⟩
abbrev cX6_weightOf : ByteArray := prog_8_method_19_code
def yX6_weightOf : MethodName := ⟨RX6, "weightOf", "(II)I"⟩
abbrev cX6_off : ByteArray := prog_8_method_20_code
def yX6_off : MethodName := ⟨RX6, "off", "(I)I"⟩
abbrev cX6_clauseCost : ByteArray := prog_8_method_21_code
def yX6_clauseCost : MethodName := ⟨RX6, "clauseCost", "(II)I"⟩
abbrev cX6_rulingOf : ByteArray := prog_8_method_22_code
def yX6_rulingOf : MethodName := ⟨RX6, "rulingOf", "(II)I"⟩
abbrev cX6_fineOf : ByteArray := prog_8_method_23_code
def yX6_fineOf : MethodName := ⟨RX6, "fineOf", "(III)I"⟩
abbrev cX6_finesOf : ByteArray := prog_8_method_24_code
def yX6_finesOf : MethodName := ⟨RX6, "finesOf", "(II)I"⟩
abbrev cX6_costBy : ByteArray := prog_8_method_25_code
def yX6_costBy : MethodName := ⟨RX6, "costBy", "(II)I"⟩
abbrev cX6_costOf : ByteArray := prog_8_method_26_code
def yX6_costOf : MethodName := ⟨RX6, "costOf", "(I)I"⟩
abbrev cX6_allCost : ByteArray := prog_8_method_27_code
def yX6_allCost : MethodName := ⟨RX6, "allCost", "()I"⟩
abbrev cX6_isStayed : ByteArray := prog_8_method_28_code
def yX6_isStayed : MethodName := ⟨RX6, "isStayed", "(I)Z"⟩
abbrev cX6_isSame : ByteArray := prog_8_method_29_code
def yX6_isSame : MethodName := ⟨RX6, "isSame", "(II)Z"⟩
abbrev cX6_isTaken : ByteArray := prog_8_method_30_code
def yX6_isTaken : MethodName := ⟨RX6, "isTaken", "(II)Z"⟩
abbrev cX6_reasonToRefuse : ByteArray := prog_8_method_31_code
def yX6_reasonToRefuse : MethodName := ⟨RX6, "reasonToRefuse", "(II)I"⟩
abbrev cX6_goSue : ByteArray := prog_8_method_32_code
def yX6_goSue : MethodName := ⟨RX6, "goSue", "(II)I"⟩
abbrev cX6_weight : ByteArray := prog_8_method_33_code
def yX6_weight : MethodName := ⟨RX6, "weight", "(II)I"⟩
abbrev cX6_set : ByteArray := prog_8_method_34_code
def yX6_set : MethodName := ⟨RX6, "set", "(II)I"⟩
abbrev cX6_addsRuling : ByteArray := prog_8_method_35_code
def yX6_addsRuling : MethodName := ⟨RX6, "addsRuling", "(IIZII)V"⟩
abbrev cX6_isRule : ByteArray := prog_8_method_36_code
def yX6_isRule : MethodName := ⟨RX6, "isRule", "(III)Z"⟩
abbrev cX6_rule : ByteArray := prog_8_method_37_code
def yX6_rule : MethodName := ⟨RX6, "rule", "(IIZII)I"⟩
abbrev cX6_overrule : ByteArray := prog_8_method_38_code
def yX6_overrule : MethodName := ⟨RX6, "overrule", "(I)I"⟩
abbrev cX6_drop : ByteArray := prog_8_method_39_code
def yX6_drop : MethodName := ⟨RX6, "drop", "(I)I"⟩
abbrev cX6_sue : ByteArray := prog_8_method_40_code
def yX6_sue : MethodName := ⟨RX6, "sue", "(II)I"⟩
abbrev cX6_stay : ByteArray := prog_8_method_41_code
def yX6_stay : MethodName := ⟨RX6, "stay", "(II)I"⟩
abbrev cX6_day : ByteArray := prog_8_method_42_code
def yX6_day : MethodName := ⟨RX6, "day", "()I"⟩
abbrev cX6_append : ByteArray := prog_8_method_43_code
def yX6_append : MethodName := ⟨RX6, "append", "(I)I"⟩
abbrev cX6_clear : ByteArray := prog_8_method_44_code
def yX6_clear : MethodName := ⟨RX6, "clear", "()I"⟩
abbrev cX6_here : ByteArray := prog_8_method_45_code
def yX6_here : MethodName := ⟨RX6, "here", "()I"⟩
abbrev cX6_takes : ByteArray := prog_8_method_46_code
def yX6_takes : MethodName := ⟨RX6, "takes", "(Z)V"⟩
abbrev cX6_isWords : ByteArray := prog_8_method_47_code
def yX6_isWords : MethodName := ⟨RX6, "isWords", "()Z"⟩
abbrev cX6_takesSuit : ByteArray := prog_8_method_48_code
def yX6_takesSuit : MethodName := ⟨RX6, "takesSuit", "()V"⟩
abbrev cX6_areSuits : ByteArray := prog_8_method_49_code
def yX6_areSuits : MethodName := ⟨RX6, "areSuits", "()Z"⟩
abbrev cX6_fault : ByteArray := prog_8_method_50_code
def yX6_fault : MethodName := ⟨RX6, "fault", "(I)I"⟩
abbrev cX6_laysEdition : ByteArray := prog_8_method_51_code
def yX6_laysEdition : MethodName := ⟨RX6, "laysEdition", "()I"⟩
abbrev cX6_isPrinted : ByteArray := prog_8_method_52_code
def yX6_isPrinted : MethodName := ⟨RX6, "isPrinted", "()Z"⟩
abbrev cX6_print : ByteArray := prog_8_method_53_code
def yX6_print : MethodName := ⟨RX6, "print", "()I"⟩
abbrev cX6_doesSuit : ByteArray := prog_8_method_54_code
def yX6_doesSuit : MethodName := ⟨RX6, "doesSuit", "()I"⟩
abbrev cX6_plead : ByteArray := prog_8_method_55_code
def yX6_plead : MethodName := ⟨RX6, "plead", "()I"⟩
abbrev cX6_why : ByteArray := prog_8_method_56_code
def yX6_why : MethodName := ⟨RX6, "why", "(I)I"⟩
abbrev cX6_sign : ByteArray := prog_8_method_57_code
def yX6_sign : MethodName := ⟨RX6, "sign", "(II)I"⟩
abbrev cX6_allWeight : ByteArray := prog_8_method_58_code
def yX6_allWeight : MethodName := ⟨RX6, "allWeight", "(I)I"⟩
abbrev cX6_edition : ByteArray := prog_8_method_59_code
def yX6_edition : MethodName := ⟨RX6, "edition", "(II)I"⟩
abbrev cX6_gap : ByteArray := prog_8_method_60_code
def yX6_gap : MethodName := ⟨RX6, "gap", "(III)I"⟩
abbrev cX6_citing : ByteArray := prog_8_method_61_code
def yX6_citing : MethodName := ⟨RX6, "citing", "(I)I"⟩
abbrev cX6_finesBy : ByteArray := prog_8_method_62_code
def yX6_finesBy : MethodName := ⟨RX6, "finesBy", "(I)I"⟩
abbrev cX6_ruling : ByteArray := prog_8_method_63_code
def yX6_ruling : MethodName := ⟨RX6, "ruling", "(II)I"⟩
abbrev cX6_whyNot : ByteArray := prog_8_method_64_code
def yX6_whyNot : MethodName := ⟨RX6, "whyNot", "(II)I"⟩
abbrev cX6_laysFines : ByteArray := prog_8_method_65_code
def yX6_laysFines : MethodName := ⟨RX6, "laysFines", "(I)V"⟩
abbrev cX6_fastCost : ByteArray := prog_8_method_66_code
def yX6_fastCost : MethodName := ⟨RX6, "fastCost", "(II)I"⟩
abbrev cX6_bestSet : ByteArray := prog_8_method_67_code
def yX6_bestSet : MethodName := ⟨RX6, "bestSet", "(I)I"⟩
abbrev cX6_best : ByteArray := prog_8_method_68_code
def yX6_best : MethodName := ⟨RX6, "best", "(III)I"⟩
abbrev cX6_splits : ByteArray := prog_8_method_69_code
def yX6_splits : MethodName := ⟨RX6, "splits", "(I)I"⟩
abbrev cX6_ways : ByteArray := prog_8_method_70_code
def yX6_ways : MethodName := ⟨RX6, "ways", "(II)I"⟩
abbrev cX6_stayed : ByteArray := prog_8_method_71_code
def yX6_stayed : MethodName := ⟨RX6, "stayed", "()I"⟩
abbrev cX6_countingOnes : ByteArray := prog_8_method_72_code
def yX6_countingOnes : MethodName := ⟨RX6, "countingOnes", "()I"⟩
abbrev cX6_allCommas : ByteArray := prog_8_method_73_code
def yX6_allCommas : MethodName := ⟨RX6, "allCommas", "()I"⟩
abbrev cX6_cheapest : ByteArray := prog_8_method_74_code
def yX6_cheapest : MethodName := ⟨RX6, "cheapest", "()I"⟩
abbrev cX6_count : ByteArray := prog_8_method_75_code
def yX6_count : MethodName := ⟨RX6, "count", "(I)I"⟩
abbrev cX6_length : ByteArray := prog_8_method_76_code
def yX6_length : MethodName := ⟨RX6, "length", "()D"⟩
abbrev cX6_fineBy : ByteArray := prog_8_method_77_code
def yX6_fineBy : MethodName := ⟨RX6, "fineBy", "(IIZI)I"⟩
abbrev cX6_ifRuled : ByteArray := prog_8_method_78_code
def yX6_ifRuled : MethodName := ⟨RX6, "ifRuled", "(IIZI)I"⟩
abbrev cX6_bestSuit : ByteArray := prog_8_method_79_code
def yX6_bestSuit : MethodName := ⟨RX6, "bestSuit", "(I)I"⟩
abbrev cX6_undo : ByteArray := prog_8_method_80_code
def yX6_undo : MethodName := ⟨RX6, "undo", "()I"⟩
abbrev cX6_save : ByteArray := prog_8_method_81_code
def yX6_save : MethodName := ⟨RX6, "save", "()I"⟩
abbrev cX6_restore : ByteArray := prog_8_method_82_code
def yX6_restore : MethodName := ⟨RX6, "restore", "()I"⟩
def RJ6 : String := "java/lang/Integer"
def TJ6 : u_T := fun k => match k with
  | _ => ("", "", "", false)
def tyJ6 : Nat → FieldType := fun k => match k with
  | _ => .int
abbrev wsJ60 : List Cond := u_ws RJ6 TJ6 0
theorem nmJ6 : ∀ a, a < 0 → ∀ b, b < 0 → a ≠ b → (TJ6 a).2.1 ≠ (TJ6 b).2.1 := by decide +kernel
theorem tyJ6_ok : ∀ k, k < 0 → parseFieldDescriptor (TJ6 k).2.2.1 = some (tyJ6 k) := by decide +kernel
abbrev cJ6_bitCount_0f7a4 : ByteArray := prog_9_method_49_code
def yJ6_bitCount_0f7a4 : MethodName := ⟨RJ6, "bitCount", "(I)I"⟩
def RJ9 : String := "java/lang/Math"
def TJ9 : u_T := fun k => match k with
  | _ => ("", "", "", false)
def tyJ9 : Nat → FieldType := fun k => match k with
  | _ => .int
abbrev wsJ90 : List Cond := u_ws RJ9 TJ9 0
theorem nmJ9 : ∀ a, a < 0 → ∀ b, b < 0 → a ≠ b → (TJ9 a).2.1 ≠ (TJ9 b).2.1 := by decide +kernel
theorem tyJ9_ok : ∀ k, k < 0 → parseFieldDescriptor (TJ9 k).2.2.1 = some (tyJ9 k) := by decide +kernel
abbrev cJ9_abs_0f7a4 : ByteArray := prog_10_method_59_code
def yJ9_abs_0f7a4 : MethodName := ⟨RJ9, "abs", "(I)I"⟩
abbrev cJ9_min_7cf53 : ByteArray := prog_10_method_69_code
def yJ9_min_7cf53 : MethodName := ⟨RJ9, "min", "(II)I"⟩
def RL : String := "CommaCourtLaw"
abbrev cL_law : ByteArray := code
def yL_law : MethodName := ⟨RL, "law", "([I)Z"⟩
abbrev vwCl : List vw_C := [(RX0, TX0, 5), (RX1, TX1, 2), (RX2, TX2, 7), (RX3, TX3, 7), (RX4, TX4, 9), (RX5, TX5, 12), (RX6, TX6, 19)]
end
section
theorem dX0_init_0 : decode cX0_init 0 = .ok (.aload_n 0, 1) := by decide +kernel
theorem dX0_init_1 : decode cX0_init 1 = .ok (.invokespecial 3, 3) := by decide +kernel
theorem dX0_init_4 : decode cX0_init 4 = .ok (.aload_n 0, 1) := by decide +kernel
theorem dX0_init_5 : decode cX0_init 5 = .ok (.bipush 12, 2) := by decide +kernel
theorem dX0_init_7 : decode cX0_init 7 = .ok (.newarray .int, 2) := by decide +kernel
theorem dX0_init_9 : decode cX0_init 9 = .ok (.putfield 9, 3) := by decide +kernel
theorem dX0_init_12 : decode cX0_init 12 = .ok (.return_, 1) := by decide +kernel
theorem dX0_copyFrom_0 : decode cX0_copyFrom 0 = .ok (.iconst 0, 1) := by decide +kernel
theorem dX0_copyFrom_1 : decode cX0_copyFrom 1 = .ok (.istore_n 2, 1) := by decide +kernel
theorem dX0_copyFrom_2 : decode cX0_copyFrom 2 = .ok (.iload_n 2, 1) := by decide +kernel
theorem dX0_copyFrom_3 : decode cX0_copyFrom 3 = .ok (.bipush 12, 2) := by decide +kernel
theorem dX0_copyFrom_5 : decode cX0_copyFrom 5 = .ok (.if_icmp .ge 25, 3) := by decide +kernel
theorem dX0_copyFrom_8 : decode cX0_copyFrom 8 = .ok (.aload_n 0, 1) := by decide +kernel
theorem dX0_copyFrom_9 : decode cX0_copyFrom 9 = .ok (.getfield 9, 3) := by decide +kernel
theorem dX0_copyFrom_12 : decode cX0_copyFrom 12 = .ok (.iload_n 2, 1) := by decide +kernel
theorem dX0_copyFrom_13 : decode cX0_copyFrom 13 = .ok (.aload_n 1, 1) := by decide +kernel
theorem dX0_copyFrom_14 : decode cX0_copyFrom 14 = .ok (.getfield 9, 3) := by decide +kernel
theorem dX0_copyFrom_17 : decode cX0_copyFrom 17 = .ok (.iload_n 2, 1) := by decide +kernel
theorem dX0_copyFrom_18 : decode cX0_copyFrom 18 = .ok (.invokestatic 15, 3) := by decide +kernel
theorem dX0_copyFrom_21 : decode cX0_copyFrom 21 = .ok (.invokestatic 19, 3) := by decide +kernel
theorem dX0_copyFrom_24 : decode cX0_copyFrom 24 = .ok (.iinc 2 1, 3) := by decide +kernel
theorem dX0_copyFrom_27 : decode cX0_copyFrom 27 = .ok (.goto (-25), 3) := by decide +kernel
theorem dX0_copyFrom_30 : decode cX0_copyFrom 30 = .ok (.aload_n 0, 1) := by decide +kernel
theorem dX0_copyFrom_31 : decode cX0_copyFrom 31 = .ok (.aload_n 1, 1) := by decide +kernel
theorem dX0_copyFrom_32 : decode cX0_copyFrom 32 = .ok (.getfield 23, 3) := by decide +kernel
theorem dX0_copyFrom_35 : decode cX0_copyFrom 35 = .ok (.putfield 23, 3) := by decide +kernel
theorem dX0_copyFrom_38 : decode cX0_copyFrom 38 = .ok (.aload_n 0, 1) := by decide +kernel
theorem dX0_copyFrom_39 : decode cX0_copyFrom 39 = .ok (.aload_n 1, 1) := by decide +kernel
theorem dX0_copyFrom_40 : decode cX0_copyFrom 40 = .ok (.getfield 27, 3) := by decide +kernel
theorem dX0_copyFrom_43 : decode cX0_copyFrom 43 = .ok (.putfield 27, 3) := by decide +kernel
theorem dX0_copyFrom_46 : decode cX0_copyFrom 46 = .ok (.aload_n 0, 1) := by decide +kernel
theorem dX0_copyFrom_47 : decode cX0_copyFrom 47 = .ok (.aload_n 1, 1) := by decide +kernel
theorem dX0_copyFrom_48 : decode cX0_copyFrom 48 = .ok (.getfield 30, 3) := by decide +kernel
theorem dX0_copyFrom_51 : decode cX0_copyFrom 51 = .ok (.putfield 30, 3) := by decide +kernel
theorem dX0_copyFrom_54 : decode cX0_copyFrom 54 = .ok (.aload_n 0, 1) := by decide +kernel
theorem dX0_copyFrom_55 : decode cX0_copyFrom 55 = .ok (.aload_n 1, 1) := by decide +kernel
theorem dX0_copyFrom_56 : decode cX0_copyFrom 56 = .ok (.getfield 33, 3) := by decide +kernel
theorem dX0_copyFrom_59 : decode cX0_copyFrom 59 = .ok (.putfield 33, 3) := by decide +kernel
theorem dX0_copyFrom_62 : decode cX0_copyFrom 62 = .ok (.return_, 1) := by decide +kernel
theorem dX0_hasGap_0 : decode cX0_hasGap 0 = .ok (.iload_n 1, 1) := by decide +kernel
theorem dX0_hasGap_1 : decode cX0_hasGap 1 = .ok (.ifCond .lt 17, 3) := by decide +kernel
theorem dX0_hasGap_4 : decode cX0_hasGap 4 = .ok (.iload_n 1, 1) := by decide +kernel
theorem dX0_hasGap_5 : decode cX0_hasGap 5 = .ok (.aload_n 0, 1) := by decide +kernel
theorem dX0_hasGap_6 : decode cX0_hasGap 6 = .ok (.getfield 23, 3) := by decide +kernel
theorem dX0_hasGap_9 : decode cX0_hasGap 9 = .ok (.iconst 1, 1) := by decide +kernel
theorem dX0_hasGap_10 : decode cX0_hasGap 10 = .ok (.isub, 1) := by decide +kernel
theorem dX0_hasGap_11 : decode cX0_hasGap 11 = .ok (.if_icmp .ge 7, 3) := by decide +kernel
theorem dX0_hasGap_14 : decode cX0_hasGap 14 = .ok (.iconst 1, 1) := by decide +kernel
theorem dX0_hasGap_15 : decode cX0_hasGap 15 = .ok (.goto 4, 3) := by decide +kernel
theorem dX0_hasGap_18 : decode cX0_hasGap 18 = .ok (.iconst 0, 1) := by decide +kernel
theorem dX0_hasGap_19 : decode cX0_hasGap 19 = .ok (.ireturn, 1) := by decide +kernel
theorem dX0_hasComma_0 : decode cX0_hasComma 0 = .ok (.aload_n 0, 1) := by decide +kernel
theorem dX0_hasComma_1 : decode cX0_hasComma 1 = .ok (.getfield 27, 3) := by decide +kernel
theorem dX0_hasComma_4 : decode cX0_hasComma 4 = .ok (.iload_n 1, 1) := by decide +kernel
theorem dX0_hasComma_5 : decode cX0_hasComma 5 = .ok (.ishr, 1) := by decide +kernel
theorem dX0_hasComma_6 : decode cX0_hasComma 6 = .ok (.iconst 1, 1) := by decide +kernel
theorem dX0_hasComma_7 : decode cX0_hasComma 7 = .ok (.iand, 1) := by decide +kernel
theorem dX0_hasComma_8 : decode cX0_hasComma 8 = .ok (.iconst 1, 1) := by decide +kernel
theorem dX0_hasComma_9 : decode cX0_hasComma 9 = .ok (.if_icmp .ne 7, 3) := by decide +kernel
theorem dX0_hasComma_12 : decode cX0_hasComma 12 = .ok (.iconst 1, 1) := by decide +kernel
theorem dX0_hasComma_13 : decode cX0_hasComma 13 = .ok (.goto 4, 3) := by decide +kernel
theorem dX0_hasComma_16 : decode cX0_hasComma 16 = .ok (.iconst 0, 1) := by decide +kernel
theorem dX0_hasComma_17 : decode cX0_hasComma 17 = .ok (.ireturn, 1) := by decide +kernel
theorem dX0_kindAt_0 : decode cX0_kindAt 0 = .ok (.iload_n 1, 1) := by decide +kernel
theorem dX0_kindAt_1 : decode cX0_kindAt 1 = .ok (.ifCond .lt 21, 3) := by decide +kernel
theorem dX0_kindAt_4 : decode cX0_kindAt 4 = .ok (.iload_n 1, 1) := by decide +kernel
theorem dX0_kindAt_5 : decode cX0_kindAt 5 = .ok (.aload_n 0, 1) := by decide +kernel
theorem dX0_kindAt_6 : decode cX0_kindAt 6 = .ok (.getfield 9, 3) := by decide +kernel
theorem dX0_kindAt_9 : decode cX0_kindAt 9 = .ok (.arraylength, 1) := by decide +kernel
theorem dX0_kindAt_10 : decode cX0_kindAt 10 = .ok (.if_icmp .ge 12, 3) := by decide +kernel
theorem dX0_kindAt_13 : decode cX0_kindAt 13 = .ok (.aload_n 0, 1) := by decide +kernel
theorem dX0_kindAt_14 : decode cX0_kindAt 14 = .ok (.getfield 9, 3) := by decide +kernel
theorem dX0_kindAt_17 : decode cX0_kindAt 17 = .ok (.iload_n 1, 1) := by decide +kernel
theorem dX0_kindAt_18 : decode cX0_kindAt 18 = .ok (.iaload, 1) := by decide +kernel
theorem dX0_kindAt_19 : decode cX0_kindAt 19 = .ok (.goto 4, 3) := by decide +kernel
theorem dX0_kindAt_22 : decode cX0_kindAt 22 = .ok (.iconst 0, 1) := by decide +kernel
theorem dX0_kindAt_23 : decode cX0_kindAt 23 = .ok (.ireturn, 1) := by decide +kernel
theorem dX0_clauses_0 : decode cX0_clauses 0 = .ok (.aload_n 0, 1) := by decide +kernel
theorem dX0_clauses_1 : decode cX0_clauses 1 = .ok (.getfield 27, 3) := by decide +kernel
theorem dX0_clauses_4 : decode cX0_clauses 4 = .ok (.invokestatic 36, 3) := by decide +kernel
theorem dX0_clauses_7 : decode cX0_clauses 7 = .ok (.iconst 1, 1) := by decide +kernel
theorem dX0_clauses_8 : decode cX0_clauses 8 = .ok (.iadd, 1) := by decide +kernel
theorem dX0_clauses_9 : decode cX0_clauses 9 = .ok (.ireturn, 1) := by decide +kernel
theorem dX0_movedCommas_0 : decode cX0_movedCommas 0 = .ok (.aload_n 0, 1) := by decide +kernel
theorem dX0_movedCommas_1 : decode cX0_movedCommas 1 = .ok (.getfield 27, 3) := by decide +kernel
theorem dX0_movedCommas_4 : decode cX0_movedCommas 4 = .ok (.iconst 1, 1) := by decide +kernel
theorem dX0_movedCommas_5 : decode cX0_movedCommas 5 = .ok (.iload_n 1, 1) := by decide +kernel
theorem dX0_movedCommas_6 : decode cX0_movedCommas 6 = .ok (.ishl, 1) := by decide +kernel
theorem dX0_movedCommas_7 : decode cX0_movedCommas 7 = .ok (.ixor, 1) := by decide +kernel
theorem dX0_movedCommas_8 : decode cX0_movedCommas 8 = .ok (.ireturn, 1) := by decide +kernel
theorem dX0_hasWordsOf_0 : decode cX0_hasWordsOf 0 = .ok (.aload_n 0, 1) := by decide +kernel
theorem dX0_hasWordsOf_1 : decode cX0_hasWordsOf 1 = .ok (.getfield 23, 3) := by decide +kernel
theorem dX0_hasWordsOf_4 : decode cX0_hasWordsOf 4 = .ok (.aload_n 1, 1) := by decide +kernel
theorem dX0_hasWordsOf_5 : decode cX0_hasWordsOf 5 = .ok (.getfield 23, 3) := by decide +kernel
theorem dX0_hasWordsOf_8 : decode cX0_hasWordsOf 8 = .ok (.if_icmp .eq 5, 3) := by decide +kernel
theorem dX0_hasWordsOf_11 : decode cX0_hasWordsOf 11 = .ok (.iconst 0, 1) := by decide +kernel
theorem dX0_hasWordsOf_12 : decode cX0_hasWordsOf 12 = .ok (.ireturn, 1) := by decide +kernel
theorem dX0_hasWordsOf_13 : decode cX0_hasWordsOf 13 = .ok (.iconst 0, 1) := by decide +kernel
theorem dX0_hasWordsOf_14 : decode cX0_hasWordsOf 14 = .ok (.istore_n 2, 1) := by decide +kernel
theorem dX0_hasWordsOf_15 : decode cX0_hasWordsOf 15 = .ok (.iload_n 2, 1) := by decide +kernel
theorem dX0_hasWordsOf_16 : decode cX0_hasWordsOf 16 = .ok (.aload_n 0, 1) := by decide +kernel
theorem dX0_hasWordsOf_17 : decode cX0_hasWordsOf 17 = .ok (.getfield 23, 3) := by decide +kernel
theorem dX0_hasWordsOf_20 : decode cX0_hasWordsOf 20 = .ok (.if_icmp .ge 24, 3) := by decide +kernel
theorem dX0_hasWordsOf_23 : decode cX0_hasWordsOf 23 = .ok (.aload_n 0, 1) := by decide +kernel
theorem dX0_hasWordsOf_24 : decode cX0_hasWordsOf 24 = .ok (.iload_n 2, 1) := by decide +kernel
theorem dX0_hasWordsOf_25 : decode cX0_hasWordsOf 25 = .ok (.invokevirtual 42, 3) := by decide +kernel
theorem dX0_hasWordsOf_28 : decode cX0_hasWordsOf 28 = .ok (.aload_n 1, 1) := by decide +kernel
theorem dX0_hasWordsOf_29 : decode cX0_hasWordsOf 29 = .ok (.iload_n 2, 1) := by decide +kernel
theorem dX0_hasWordsOf_30 : decode cX0_hasWordsOf 30 = .ok (.invokevirtual 42, 3) := by decide +kernel
theorem dX0_hasWordsOf_33 : decode cX0_hasWordsOf 33 = .ok (.if_icmp .eq 5, 3) := by decide +kernel
theorem dX0_hasWordsOf_36 : decode cX0_hasWordsOf 36 = .ok (.iconst 0, 1) := by decide +kernel
theorem dX0_hasWordsOf_37 : decode cX0_hasWordsOf 37 = .ok (.ireturn, 1) := by decide +kernel
theorem dX0_hasWordsOf_38 : decode cX0_hasWordsOf 38 = .ok (.iinc 2 1, 3) := by decide +kernel
theorem dX0_hasWordsOf_41 : decode cX0_hasWordsOf 41 = .ok (.goto (-26), 3) := by decide +kernel
theorem dX0_hasWordsOf_44 : decode cX0_hasWordsOf 44 = .ok (.iconst 1, 1) := by decide +kernel
theorem dX0_hasWordsOf_45 : decode cX0_hasWordsOf 45 = .ok (.ireturn, 1) := by decide +kernel
theorem dX0_textSign_0 : decode cX0_textSign 0 = .ok (.iconst 0, 1) := by decide +kernel
theorem dX0_textSign_1 : decode cX0_textSign 1 = .ok (.istore_n 2, 1) := by decide +kernel
theorem dX0_textSign_2 : decode cX0_textSign 2 = .ok (.iconst 0, 1) := by decide +kernel
theorem dX0_textSign_3 : decode cX0_textSign 3 = .ok (.istore_n 3, 1) := by decide +kernel
theorem dX0_textSign_4 : decode cX0_textSign 4 = .ok (.iload_n 3, 1) := by decide +kernel
theorem dX0_textSign_5 : decode cX0_textSign 5 = .ok (.aload_n 0, 1) := by decide +kernel
theorem dX0_textSign_6 : decode cX0_textSign 6 = .ok (.getfield 23, 3) := by decide +kernel
theorem dX0_textSign_9 : decode cX0_textSign 9 = .ok (.if_icmp .ge 45, 3) := by decide +kernel
theorem dX0_textSign_12 : decode cX0_textSign 12 = .ok (.iload_n 2, 1) := by decide +kernel
theorem dX0_textSign_13 : decode cX0_textSign 13 = .ok (.iload_n 1, 1) := by decide +kernel
theorem dX0_textSign_14 : decode cX0_textSign 14 = .ok (.if_icmp .ne 12, 3) := by decide +kernel
theorem dX0_textSign_17 : decode cX0_textSign 17 = .ok (.bipush 97, 2) := by decide +kernel
theorem dX0_textSign_19 : decode cX0_textSign 19 = .ok (.aload_n 0, 1) := by decide +kernel
theorem dX0_textSign_20 : decode cX0_textSign 20 = .ok (.iload_n 3, 1) := by decide +kernel
theorem dX0_textSign_21 : decode cX0_textSign 21 = .ok (.invokevirtual 42, 3) := by decide +kernel
theorem dX0_textSign_24 : decode cX0_textSign 24 = .ok (.iadd, 1) := by decide +kernel
theorem dX0_textSign_25 : decode cX0_textSign 25 = .ok (.ireturn, 1) := by decide +kernel
theorem dX0_textSign_26 : decode cX0_textSign 26 = .ok (.iinc 2 1, 3) := by decide +kernel
theorem dX0_textSign_29 : decode cX0_textSign 29 = .ok (.aload_n 0, 1) := by decide +kernel
theorem dX0_textSign_30 : decode cX0_textSign 30 = .ok (.iload_n 3, 1) := by decide +kernel
theorem dX0_textSign_31 : decode cX0_textSign 31 = .ok (.invokevirtual 45, 3) := by decide +kernel
theorem dX0_textSign_34 : decode cX0_textSign 34 = .ok (.ifCond .eq 14, 3) := by decide +kernel
theorem dX0_textSign_37 : decode cX0_textSign 37 = .ok (.iload_n 2, 1) := by decide +kernel
theorem dX0_textSign_38 : decode cX0_textSign 38 = .ok (.iload_n 1, 1) := by decide +kernel
theorem dX0_textSign_39 : decode cX0_textSign 39 = .ok (.if_icmp .ne 6, 3) := by decide +kernel
theorem dX0_textSign_42 : decode cX0_textSign 42 = .ok (.bipush 44, 2) := by decide +kernel
theorem dX0_textSign_44 : decode cX0_textSign 44 = .ok (.ireturn, 1) := by decide +kernel
theorem dX0_textSign_45 : decode cX0_textSign 45 = .ok (.iinc 2 1, 3) := by decide +kernel
theorem dX0_textSign_48 : decode cX0_textSign 48 = .ok (.iinc 3 1, 3) := by decide +kernel
theorem dX0_textSign_51 : decode cX0_textSign 51 = .ok (.goto (-47), 3) := by decide +kernel
theorem dX0_textSign_54 : decode cX0_textSign 54 = .ok (.bipush (-4), 2) := by decide +kernel
theorem dX0_textSign_56 : decode cX0_textSign 56 = .ok (.ireturn, 1) := by decide +kernel
theorem dX1_init_0 : decode cX1_init 0 = .ok (.aload_n 0, 1) := by decide +kernel
theorem dX1_init_1 : decode cX1_init 1 = .ok (.invokespecial 3, 3) := by decide +kernel
theorem dX1_init_4 : decode cX1_init 4 = .ok (.aload_n 0, 1) := by decide +kernel
theorem dX1_init_5 : decode cX1_init 5 = .ok (.bipush 60, 2) := by decide +kernel
theorem dX1_init_7 : decode cX1_init 7 = .ok (.newarray .int, 2) := by decide +kernel
theorem dX1_init_9 : decode cX1_init 9 = .ok (.putfield 9, 3) := by decide +kernel
theorem dX1_init_12 : decode cX1_init 12 = .ok (.return_, 1) := by decide +kernel
theorem dX1_signAt_0 : decode cX1_signAt 0 = .ok (.iload_n 1, 1) := by decide +kernel
theorem dX1_signAt_1 : decode cX1_signAt 1 = .ok (.aload_n 0, 1) := by decide +kernel
theorem dX1_signAt_2 : decode cX1_signAt 2 = .ok (.getfield 15, 3) := by decide +kernel
theorem dX1_signAt_5 : decode cX1_signAt 5 = .ok (.if_icmp .ge 14, 3) := by decide +kernel
theorem dX1_signAt_8 : decode cX1_signAt 8 = .ok (.aload_n 0, 1) := by decide +kernel
theorem dX1_signAt_9 : decode cX1_signAt 9 = .ok (.getfield 9, 3) := by decide +kernel
theorem dX1_signAt_12 : decode cX1_signAt 12 = .ok (.iload_n 1, 1) := by decide +kernel
theorem dX1_signAt_13 : decode cX1_signAt 13 = .ok (.invokestatic 19, 3) := by decide +kernel
theorem dX1_signAt_16 : decode cX1_signAt 16 = .ok (.goto 4, 3) := by decide +kernel
theorem dX1_signAt_19 : decode cX1_signAt 19 = .ok (.iconst 0, 1) := by decide +kernel
theorem dX1_signAt_20 : decode cX1_signAt 20 = .ok (.ireturn, 1) := by decide +kernel
theorem dX1_editionFault_0 : decode cX1_editionFault 0 = .ok (.iconst 0, 1) := by decide +kernel
theorem dX1_editionFault_1 : decode cX1_editionFault 1 = .ok (.istore_n 1, 1) := by decide +kernel
theorem dX1_editionFault_2 : decode cX1_editionFault 2 = .ok (.iconst 1, 1) := by decide +kernel
theorem dX1_editionFault_3 : decode cX1_editionFault 3 = .ok (.istore_n 2, 1) := by decide +kernel
theorem dX1_editionFault_4 : decode cX1_editionFault 4 = .ok (.iconst 0, 1) := by decide +kernel
theorem dX1_editionFault_5 : decode cX1_editionFault 5 = .ok (.istore_n 3, 1) := by decide +kernel
theorem dX1_editionFault_6 : decode cX1_editionFault 6 = .ok (.iload_n 3, 1) := by decide +kernel
theorem dX1_editionFault_7 : decode cX1_editionFault 7 = .ok (.aload_n 0, 1) := by decide +kernel
theorem dX1_editionFault_8 : decode cX1_editionFault 8 = .ok (.getfield 15, 3) := by decide +kernel
theorem dX1_editionFault_11 : decode cX1_editionFault 11 = .ok (.if_icmp .ge 84, 3) := by decide +kernel
theorem dX1_editionFault_14 : decode cX1_editionFault 14 = .ok (.aload_n 0, 1) := by decide +kernel
theorem dX1_editionFault_15 : decode cX1_editionFault 15 = .ok (.iload_n 3, 1) := by decide +kernel
theorem dX1_editionFault_16 : decode cX1_editionFault 16 = .ok (.invokevirtual 23, 3) := by decide +kernel
theorem dX1_editionFault_19 : decode cX1_editionFault 19 = .ok (.istore 4, 2) := by decide +kernel
theorem dX1_editionFault_21 : decode cX1_editionFault 21 = .ok (.iload 4, 2) := by decide +kernel
theorem dX1_editionFault_23 : decode cX1_editionFault 23 = .ok (.bipush 97, 2) := by decide +kernel
theorem dX1_editionFault_25 : decode cX1_editionFault 25 = .ok (.bipush 102, 2) := by decide +kernel
theorem dX1_editionFault_27 : decode cX1_editionFault 27 = .ok (.invokestatic 27, 3) := by decide +kernel
theorem dX1_editionFault_30 : decode cX1_editionFault 30 = .ok (.ifCond .ne 14, 3) := by decide +kernel
theorem dX1_editionFault_33 : decode cX1_editionFault 33 = .ok (.iload 4, 2) := by decide +kernel
theorem dX1_editionFault_35 : decode cX1_editionFault 35 = .ok (.bipush 44, 2) := by decide +kernel
theorem dX1_editionFault_37 : decode cX1_editionFault 37 = .ok (.if_icmp .ne 11, 3) := by decide +kernel
theorem dX1_editionFault_40 : decode cX1_editionFault 40 = .ok (.iload_n 2, 1) := by decide +kernel
theorem dX1_editionFault_41 : decode cX1_editionFault 41 = .ok (.ifCond .ne 7, 3) := by decide +kernel
theorem dX1_editionFault_44 : decode cX1_editionFault 44 = .ok (.iconst 1, 1) := by decide +kernel
theorem dX1_editionFault_45 : decode cX1_editionFault 45 = .ok (.goto 4, 3) := by decide +kernel
theorem dX1_editionFault_48 : decode cX1_editionFault 48 = .ok (.iconst 0, 1) := by decide +kernel
theorem dX1_editionFault_49 : decode cX1_editionFault 49 = .ok (.istore 5, 2) := by decide +kernel
theorem dX1_editionFault_51 : decode cX1_editionFault 51 = .ok (.iload 5, 2) := by decide +kernel
theorem dX1_editionFault_53 : decode cX1_editionFault 53 = .ok (.ifCond .eq 9, 3) := by decide +kernel
theorem dX1_editionFault_56 : decode cX1_editionFault 56 = .ok (.iload_n 1, 1) := by decide +kernel
theorem dX1_editionFault_57 : decode cX1_editionFault 57 = .ok (.bipush 12, 2) := by decide +kernel
theorem dX1_editionFault_59 : decode cX1_editionFault 59 = .ok (.if_icmp .lt 5, 3) := by decide +kernel
theorem dX1_editionFault_62 : decode cX1_editionFault 62 = .ok (.iload_n 3, 1) := by decide +kernel
theorem dX1_editionFault_63 : decode cX1_editionFault 63 = .ok (.ireturn, 1) := by decide +kernel
theorem dX1_editionFault_64 : decode cX1_editionFault 64 = .ok (.iload 4, 2) := by decide +kernel
theorem dX1_editionFault_66 : decode cX1_editionFault 66 = .ok (.bipush 44, 2) := by decide +kernel
theorem dX1_editionFault_68 : decode cX1_editionFault 68 = .ok (.if_icmp .ne 7, 3) := by decide +kernel
theorem dX1_editionFault_71 : decode cX1_editionFault 71 = .ok (.iconst 1, 1) := by decide +kernel
theorem dX1_editionFault_72 : decode cX1_editionFault 72 = .ok (.goto 4, 3) := by decide +kernel
theorem dX1_editionFault_75 : decode cX1_editionFault 75 = .ok (.iconst 0, 1) := by decide +kernel
theorem dX1_editionFault_76 : decode cX1_editionFault 76 = .ok (.istore_n 2, 1) := by decide +kernel
theorem dX1_editionFault_77 : decode cX1_editionFault 77 = .ok (.iload_n 1, 1) := by decide +kernel
theorem dX1_editionFault_78 : decode cX1_editionFault 78 = .ok (.iload_n 2, 1) := by decide +kernel
theorem dX1_editionFault_79 : decode cX1_editionFault 79 = .ok (.ifCond .eq 7, 3) := by decide +kernel
theorem dX1_editionFault_82 : decode cX1_editionFault 82 = .ok (.iconst 0, 1) := by decide +kernel
theorem dX1_editionFault_83 : decode cX1_editionFault 83 = .ok (.goto 4, 3) := by decide +kernel
theorem dX1_editionFault_86 : decode cX1_editionFault 86 = .ok (.iconst 1, 1) := by decide +kernel
theorem dX1_editionFault_87 : decode cX1_editionFault 87 = .ok (.iadd, 1) := by decide +kernel
theorem dX1_editionFault_88 : decode cX1_editionFault 88 = .ok (.istore_n 1, 1) := by decide +kernel
theorem dX1_editionFault_89 : decode cX1_editionFault 89 = .ok (.iinc 3 1, 3) := by decide +kernel
theorem dX1_editionFault_92 : decode cX1_editionFault 92 = .ok (.goto (-86), 3) := by decide +kernel
theorem dX1_editionFault_95 : decode cX1_editionFault 95 = .ok (.iload_n 2, 1) := by decide +kernel
theorem dX1_editionFault_96 : decode cX1_editionFault 96 = .ok (.ifCond .eq 10, 3) := by decide +kernel
theorem dX1_editionFault_99 : decode cX1_editionFault 99 = .ok (.aload_n 0, 1) := by decide +kernel
theorem dX1_editionFault_100 : decode cX1_editionFault 100 = .ok (.getfield 15, 3) := by decide +kernel
theorem dX1_editionFault_103 : decode cX1_editionFault 103 = .ok (.goto 4, 3) := by decide +kernel
theorem dX1_editionFault_106 : decode cX1_editionFault 106 = .ok (.iconst (-1), 1) := by decide +kernel
theorem dX1_editionFault_107 : decode cX1_editionFault 107 = .ok (.ireturn, 1) := by decide +kernel
theorem dX1_suitsFault_0 : decode cX1_suitsFault 0 = .ok (.iconst 0, 1) := by decide +kernel
theorem dX1_suitsFault_1 : decode cX1_suitsFault 1 = .ok (.istore_n 1, 1) := by decide +kernel
theorem dX1_suitsFault_2 : decode cX1_suitsFault 2 = .ok (.iconst 0, 1) := by decide +kernel
theorem dX1_suitsFault_3 : decode cX1_suitsFault 3 = .ok (.istore_n 2, 1) := by decide +kernel
theorem dX1_suitsFault_4 : decode cX1_suitsFault 4 = .ok (.iload_n 2, 1) := by decide +kernel
theorem dX1_suitsFault_5 : decode cX1_suitsFault 5 = .ok (.aload_n 0, 1) := by decide +kernel
theorem dX1_suitsFault_6 : decode cX1_suitsFault 6 = .ok (.getfield 15, 3) := by decide +kernel
theorem dX1_suitsFault_9 : decode cX1_suitsFault 9 = .ok (.if_icmp .ge 26, 3) := by decide +kernel
theorem dX1_suitsFault_12 : decode cX1_suitsFault 12 = .ok (.iload_n 1, 1) := by decide +kernel
theorem dX1_suitsFault_13 : decode cX1_suitsFault 13 = .ok (.aload_n 0, 1) := by decide +kernel
theorem dX1_suitsFault_14 : decode cX1_suitsFault 14 = .ok (.iload_n 2, 1) := by decide +kernel
theorem dX1_suitsFault_15 : decode cX1_suitsFault 15 = .ok (.invokevirtual 23, 3) := by decide +kernel
theorem dX1_suitsFault_18 : decode cX1_suitsFault 18 = .ok (.invokestatic 31, 3) := by decide +kernel
theorem dX1_suitsFault_21 : decode cX1_suitsFault 21 = .ok (.istore_n 1, 1) := by decide +kernel
theorem dX1_suitsFault_22 : decode cX1_suitsFault 22 = .ok (.iload_n 1, 1) := by decide +kernel
theorem dX1_suitsFault_23 : decode cX1_suitsFault 23 = .ok (.iconst (-1), 1) := by decide +kernel
theorem dX1_suitsFault_24 : decode cX1_suitsFault 24 = .ok (.if_icmp .ne 5, 3) := by decide +kernel
theorem dX1_suitsFault_27 : decode cX1_suitsFault 27 = .ok (.iload_n 2, 1) := by decide +kernel
theorem dX1_suitsFault_28 : decode cX1_suitsFault 28 = .ok (.ireturn, 1) := by decide +kernel
theorem dX1_suitsFault_29 : decode cX1_suitsFault 29 = .ok (.iinc 2 1, 3) := by decide +kernel
theorem dX1_suitsFault_32 : decode cX1_suitsFault 32 = .ok (.goto (-28), 3) := by decide +kernel
theorem dX1_suitsFault_35 : decode cX1_suitsFault 35 = .ok (.iload_n 1, 1) := by decide +kernel
theorem dX1_suitsFault_36 : decode cX1_suitsFault 36 = .ok (.iconst 3, 1) := by decide +kernel
theorem dX1_suitsFault_37 : decode cX1_suitsFault 37 = .ok (.if_icmp .eq 8, 3) := by decide +kernel
theorem dX1_suitsFault_40 : decode cX1_suitsFault 40 = .ok (.iload_n 1, 1) := by decide +kernel
theorem dX1_suitsFault_41 : decode cX1_suitsFault 41 = .ok (.iconst 4, 1) := by decide +kernel
theorem dX1_suitsFault_42 : decode cX1_suitsFault 42 = .ok (.if_icmp .ne 7, 3) := by decide +kernel
theorem dX1_suitsFault_45 : decode cX1_suitsFault 45 = .ok (.iconst (-1), 1) := by decide +kernel
theorem dX1_suitsFault_46 : decode cX1_suitsFault 46 = .ok (.goto 7, 3) := by decide +kernel
theorem dX1_suitsFault_49 : decode cX1_suitsFault 49 = .ok (.aload_n 0, 1) := by decide +kernel
theorem dX1_suitsFault_50 : decode cX1_suitsFault 50 = .ok (.getfield 15, 3) := by decide +kernel
theorem dX1_suitsFault_53 : decode cX1_suitsFault 53 = .ok (.ireturn, 1) := by decide +kernel
theorem dX1_dueBehind_0 : decode cX1_dueBehind 0 = .ok (.iload_n 0, 1) := by decide +kernel
theorem dX1_dueBehind_1 : decode cX1_dueBehind 1 = .ok (.tableswitch 113 0 3 #[31, 56, 68, 93], 31) := by decide +kernel
theorem dX1_dueBehind_32 : decode cX1_dueBehind 32 = .ok (.iload_n 1, 1) := by decide +kernel
theorem dX1_dueBehind_33 : decode cX1_dueBehind 33 = .ok (.bipush 43, 2) := by decide +kernel
theorem dX1_dueBehind_35 : decode cX1_dueBehind 35 = .ok (.if_icmp .ne 5, 3) := by decide +kernel
theorem dX1_dueBehind_38 : decode cX1_dueBehind 38 = .ok (.iconst 4, 1) := by decide +kernel
theorem dX1_dueBehind_39 : decode cX1_dueBehind 39 = .ok (.ireturn, 1) := by decide +kernel
theorem dX1_dueBehind_40 : decode cX1_dueBehind 40 = .ok (.iload_n 1, 1) := by decide +kernel
theorem dX1_dueBehind_41 : decode cX1_dueBehind 41 = .ok (.bipush 48, 2) := by decide +kernel
theorem dX1_dueBehind_43 : decode cX1_dueBehind 43 = .ok (.bipush 51, 2) := by decide +kernel
theorem dX1_dueBehind_45 : decode cX1_dueBehind 45 = .ok (.invokestatic 27, 3) := by decide +kernel
theorem dX1_dueBehind_48 : decode cX1_dueBehind 48 = .ok (.ifCond .eq 7, 3) := by decide +kernel
theorem dX1_dueBehind_51 : decode cX1_dueBehind 51 = .ok (.iconst 1, 1) := by decide +kernel
theorem dX1_dueBehind_52 : decode cX1_dueBehind 52 = .ok (.goto 4, 3) := by decide +kernel
theorem dX1_dueBehind_55 : decode cX1_dueBehind 55 = .ok (.iconst (-1), 1) := by decide +kernel
theorem dX1_dueBehind_56 : decode cX1_dueBehind 56 = .ok (.ireturn, 1) := by decide +kernel
theorem dX1_dueBehind_57 : decode cX1_dueBehind 57 = .ok (.iload_n 1, 1) := by decide +kernel
theorem dX1_dueBehind_58 : decode cX1_dueBehind 58 = .ok (.bipush 58, 2) := by decide +kernel
theorem dX1_dueBehind_60 : decode cX1_dueBehind 60 = .ok (.if_icmp .ne 7, 3) := by decide +kernel
theorem dX1_dueBehind_63 : decode cX1_dueBehind 63 = .ok (.iconst 2, 1) := by decide +kernel
theorem dX1_dueBehind_64 : decode cX1_dueBehind 64 = .ok (.goto 4, 3) := by decide +kernel
theorem dX1_dueBehind_67 : decode cX1_dueBehind 67 = .ok (.iconst (-1), 1) := by decide +kernel
theorem dX1_dueBehind_68 : decode cX1_dueBehind 68 = .ok (.ireturn, 1) := by decide +kernel
theorem dX1_dueBehind_69 : decode cX1_dueBehind 69 = .ok (.iload_n 1, 1) := by decide +kernel
theorem dX1_dueBehind_70 : decode cX1_dueBehind 70 = .ok (.bipush 49, 2) := by decide +kernel
theorem dX1_dueBehind_72 : decode cX1_dueBehind 72 = .ok (.if_icmp .ne 5, 3) := by decide +kernel
theorem dX1_dueBehind_75 : decode cX1_dueBehind 75 = .ok (.iconst 3, 1) := by decide +kernel
theorem dX1_dueBehind_76 : decode cX1_dueBehind 76 = .ok (.ireturn, 1) := by decide +kernel
theorem dX1_dueBehind_77 : decode cX1_dueBehind 77 = .ok (.iload_n 1, 1) := by decide +kernel
theorem dX1_dueBehind_78 : decode cX1_dueBehind 78 = .ok (.bipush 48, 2) := by decide +kernel
theorem dX1_dueBehind_80 : decode cX1_dueBehind 80 = .ok (.bipush 57, 2) := by decide +kernel
theorem dX1_dueBehind_82 : decode cX1_dueBehind 82 = .ok (.invokestatic 27, 3) := by decide +kernel
theorem dX1_dueBehind_85 : decode cX1_dueBehind 85 = .ok (.ifCond .eq 7, 3) := by decide +kernel
theorem dX1_dueBehind_88 : decode cX1_dueBehind 88 = .ok (.iconst 4, 1) := by decide +kernel
theorem dX1_dueBehind_89 : decode cX1_dueBehind 89 = .ok (.goto 4, 3) := by decide +kernel
theorem dX1_dueBehind_92 : decode cX1_dueBehind 92 = .ok (.iconst (-1), 1) := by decide +kernel
theorem dX1_dueBehind_93 : decode cX1_dueBehind 93 = .ok (.ireturn, 1) := by decide +kernel
theorem dX1_dueBehind_94 : decode cX1_dueBehind 94 = .ok (.iload_n 1, 1) := by decide +kernel
theorem dX1_dueBehind_95 : decode cX1_dueBehind 95 = .ok (.bipush 48, 2) := by decide +kernel
theorem dX1_dueBehind_97 : decode cX1_dueBehind 97 = .ok (.if_icmp .ne 5, 3) := by decide +kernel
theorem dX1_dueBehind_100 : decode cX1_dueBehind 100 = .ok (.iconst 4, 1) := by decide +kernel
theorem dX1_dueBehind_101 : decode cX1_dueBehind 101 = .ok (.ireturn, 1) := by decide +kernel
theorem dX1_dueBehind_102 : decode cX1_dueBehind 102 = .ok (.iload_n 1, 1) := by decide +kernel
theorem dX1_dueBehind_103 : decode cX1_dueBehind 103 = .ok (.bipush 59, 2) := by decide +kernel
theorem dX1_dueBehind_105 : decode cX1_dueBehind 105 = .ok (.if_icmp .ne 7, 3) := by decide +kernel
theorem dX1_dueBehind_108 : decode cX1_dueBehind 108 = .ok (.iconst 0, 1) := by decide +kernel
theorem dX1_dueBehind_109 : decode cX1_dueBehind 109 = .ok (.goto 4, 3) := by decide +kernel
theorem dX1_dueBehind_112 : decode cX1_dueBehind 112 = .ok (.iconst (-1), 1) := by decide +kernel
theorem dX1_dueBehind_113 : decode cX1_dueBehind 113 = .ok (.ireturn, 1) := by decide +kernel
theorem dX1_dueBehind_114 : decode cX1_dueBehind 114 = .ok (.iload_n 1, 1) := by decide +kernel
theorem dX1_dueBehind_115 : decode cX1_dueBehind 115 = .ok (.bipush 59, 2) := by decide +kernel
theorem dX1_dueBehind_117 : decode cX1_dueBehind 117 = .ok (.if_icmp .ne 7, 3) := by decide +kernel
theorem dX1_dueBehind_120 : decode cX1_dueBehind 120 = .ok (.iconst 0, 1) := by decide +kernel
theorem dX1_dueBehind_121 : decode cX1_dueBehind 121 = .ok (.goto 4, 3) := by decide +kernel
theorem dX1_dueBehind_124 : decode cX1_dueBehind 124 = .ok (.iconst (-1), 1) := by decide +kernel
theorem dX1_dueBehind_125 : decode cX1_dueBehind 125 = .ok (.ireturn, 1) := by decide +kernel
theorem dX1_beginsPart_0 : decode cX1_beginsPart 0 = .ok (.iload_n 1, 1) := by decide +kernel
theorem dX1_beginsPart_1 : decode cX1_beginsPart 1 = .ok (.ifCond .eq 15, 3) := by decide +kernel
theorem dX1_beginsPart_4 : decode cX1_beginsPart 4 = .ok (.aload_n 0, 1) := by decide +kernel
theorem dX1_beginsPart_5 : decode cX1_beginsPart 5 = .ok (.iload_n 1, 1) := by decide +kernel
theorem dX1_beginsPart_6 : decode cX1_beginsPart 6 = .ok (.iconst 1, 1) := by decide +kernel
theorem dX1_beginsPart_7 : decode cX1_beginsPart 7 = .ok (.isub, 1) := by decide +kernel
theorem dX1_beginsPart_8 : decode cX1_beginsPart 8 = .ok (.invokevirtual 23, 3) := by decide +kernel
theorem dX1_beginsPart_11 : decode cX1_beginsPart 11 = .ok (.bipush 59, 2) := by decide +kernel
theorem dX1_beginsPart_13 : decode cX1_beginsPart 13 = .ok (.if_icmp .ne 7, 3) := by decide +kernel
theorem dX1_beginsPart_16 : decode cX1_beginsPart 16 = .ok (.iconst 1, 1) := by decide +kernel
theorem dX1_beginsPart_17 : decode cX1_beginsPart 17 = .ok (.goto 4, 3) := by decide +kernel
theorem dX1_beginsPart_20 : decode cX1_beginsPart 20 = .ok (.iconst 0, 1) := by decide +kernel
theorem dX1_beginsPart_21 : decode cX1_beginsPart 21 = .ok (.ireturn, 1) := by decide +kernel
theorem dX1_gapAt_0 : decode cX1_gapAt 0 = .ok (.aload_n 0, 1) := by decide +kernel
theorem dX1_gapAt_1 : decode cX1_gapAt 1 = .ok (.iload_n 1, 1) := by decide +kernel
theorem dX1_gapAt_2 : decode cX1_gapAt 2 = .ok (.iconst 1, 1) := by decide +kernel
theorem dX1_gapAt_3 : decode cX1_gapAt 3 = .ok (.iadd, 1) := by decide +kernel
theorem dX1_gapAt_4 : decode cX1_gapAt 4 = .ok (.invokevirtual 23, 3) := by decide +kernel
theorem dX1_gapAt_7 : decode cX1_gapAt 7 = .ok (.istore_n 2, 1) := by decide +kernel
theorem dX1_gapAt_8 : decode cX1_gapAt 8 = .ok (.iload_n 2, 1) := by decide +kernel
theorem dX1_gapAt_9 : decode cX1_gapAt 9 = .ok (.bipush 48, 2) := by decide +kernel
theorem dX1_gapAt_11 : decode cX1_gapAt 11 = .ok (.bipush 57, 2) := by decide +kernel
theorem dX1_gapAt_13 : decode cX1_gapAt 13 = .ok (.invokestatic 27, 3) := by decide +kernel
theorem dX1_gapAt_16 : decode cX1_gapAt 16 = .ok (.ifCond .eq 13, 3) := by decide +kernel
theorem dX1_gapAt_19 : decode cX1_gapAt 19 = .ok (.bipush 10, 2) := by decide +kernel
theorem dX1_gapAt_21 : decode cX1_gapAt 21 = .ok (.iload_n 2, 1) := by decide +kernel
theorem dX1_gapAt_22 : decode cX1_gapAt 22 = .ok (.iadd, 1) := by decide +kernel
theorem dX1_gapAt_23 : decode cX1_gapAt 23 = .ok (.bipush 48, 2) := by decide +kernel
theorem dX1_gapAt_25 : decode cX1_gapAt 25 = .ok (.isub, 1) := by decide +kernel
theorem dX1_gapAt_26 : decode cX1_gapAt 26 = .ok (.goto 11, 3) := by decide +kernel
theorem dX1_gapAt_29 : decode cX1_gapAt 29 = .ok (.aload_n 0, 1) := by decide +kernel
theorem dX1_gapAt_30 : decode cX1_gapAt 30 = .ok (.iload_n 1, 1) := by decide +kernel
theorem dX1_gapAt_31 : decode cX1_gapAt 31 = .ok (.invokevirtual 23, 3) := by decide +kernel
theorem dX1_gapAt_34 : decode cX1_gapAt 34 = .ok (.bipush 48, 2) := by decide +kernel
theorem dX1_gapAt_36 : decode cX1_gapAt 36 = .ok (.isub, 1) := by decide +kernel
theorem dX1_gapAt_37 : decode cX1_gapAt 37 = .ok (.ireturn, 1) := by decide +kernel
theorem dX1_writeTo_0 : decode cX1_writeTo 0 = .ok (.aload_n 1, 1) := by decide +kernel
theorem dX1_writeTo_1 : decode cX1_writeTo 1 = .ok (.iconst 0, 1) := by decide +kernel
theorem dX1_writeTo_2 : decode cX1_writeTo 2 = .ok (.putfield 35, 3) := by decide +kernel
theorem dX1_writeTo_5 : decode cX1_writeTo 5 = .ok (.aload_n 1, 1) := by decide +kernel
theorem dX1_writeTo_6 : decode cX1_writeTo 6 = .ok (.iconst 0, 1) := by decide +kernel
theorem dX1_writeTo_7 : decode cX1_writeTo 7 = .ok (.putfield 40, 3) := by decide +kernel
theorem dX1_writeTo_10 : decode cX1_writeTo 10 = .ok (.iconst 0, 1) := by decide +kernel
theorem dX1_writeTo_11 : decode cX1_writeTo 11 = .ok (.istore_n 2, 1) := by decide +kernel
theorem dX1_writeTo_12 : decode cX1_writeTo 12 = .ok (.iload_n 2, 1) := by decide +kernel
theorem dX1_writeTo_13 : decode cX1_writeTo 13 = .ok (.aload_n 0, 1) := by decide +kernel
theorem dX1_writeTo_14 : decode cX1_writeTo 14 = .ok (.getfield 15, 3) := by decide +kernel
theorem dX1_writeTo_17 : decode cX1_writeTo 17 = .ok (.if_icmp .ge 66, 3) := by decide +kernel
theorem dX1_writeTo_20 : decode cX1_writeTo 20 = .ok (.aload_n 0, 1) := by decide +kernel
theorem dX1_writeTo_21 : decode cX1_writeTo 21 = .ok (.iload_n 2, 1) := by decide +kernel
theorem dX1_writeTo_22 : decode cX1_writeTo 22 = .ok (.invokevirtual 23, 3) := by decide +kernel
theorem dX1_writeTo_25 : decode cX1_writeTo 25 = .ok (.istore_n 3, 1) := by decide +kernel
theorem dX1_writeTo_26 : decode cX1_writeTo 26 = .ok (.iload_n 3, 1) := by decide +kernel
theorem dX1_writeTo_27 : decode cX1_writeTo 27 = .ok (.bipush 44, 2) := by decide +kernel
theorem dX1_writeTo_29 : decode cX1_writeTo 29 = .ok (.if_icmp .ne 23, 3) := by decide +kernel
theorem dX1_writeTo_32 : decode cX1_writeTo 32 = .ok (.aload_n 1, 1) := by decide +kernel
theorem dX1_writeTo_33 : decode cX1_writeTo 33 = .ok (.dup, 1) := by decide +kernel
theorem dX1_writeTo_34 : decode cX1_writeTo 34 = .ok (.getfield 40, 3) := by decide +kernel
theorem dX1_writeTo_37 : decode cX1_writeTo 37 = .ok (.iconst 1, 1) := by decide +kernel
theorem dX1_writeTo_38 : decode cX1_writeTo 38 = .ok (.aload_n 1, 1) := by decide +kernel
theorem dX1_writeTo_39 : decode cX1_writeTo 39 = .ok (.getfield 35, 3) := by decide +kernel
theorem dX1_writeTo_42 : decode cX1_writeTo 42 = .ok (.iconst 1, 1) := by decide +kernel
theorem dX1_writeTo_43 : decode cX1_writeTo 43 = .ok (.isub, 1) := by decide +kernel
theorem dX1_writeTo_44 : decode cX1_writeTo 44 = .ok (.ishl, 1) := by decide +kernel
theorem dX1_writeTo_45 : decode cX1_writeTo 45 = .ok (.ior, 1) := by decide +kernel
theorem dX1_writeTo_46 : decode cX1_writeTo 46 = .ok (.putfield 40, 3) := by decide +kernel
theorem dX1_writeTo_49 : decode cX1_writeTo 49 = .ok (.goto 28, 3) := by decide +kernel
theorem dX1_writeTo_52 : decode cX1_writeTo 52 = .ok (.aload_n 1, 1) := by decide +kernel
theorem dX1_writeTo_53 : decode cX1_writeTo 53 = .ok (.getfield 43, 3) := by decide +kernel
theorem dX1_writeTo_56 : decode cX1_writeTo 56 = .ok (.aload_n 1, 1) := by decide +kernel
theorem dX1_writeTo_57 : decode cX1_writeTo 57 = .ok (.getfield 35, 3) := by decide +kernel
theorem dX1_writeTo_60 : decode cX1_writeTo 60 = .ok (.iload_n 3, 1) := by decide +kernel
theorem dX1_writeTo_61 : decode cX1_writeTo 61 = .ok (.bipush 97, 2) := by decide +kernel
theorem dX1_writeTo_63 : decode cX1_writeTo 63 = .ok (.isub, 1) := by decide +kernel
theorem dX1_writeTo_64 : decode cX1_writeTo 64 = .ok (.invokestatic 46, 3) := by decide +kernel
theorem dX1_writeTo_67 : decode cX1_writeTo 67 = .ok (.aload_n 1, 1) := by decide +kernel
theorem dX1_writeTo_68 : decode cX1_writeTo 68 = .ok (.dup, 1) := by decide +kernel
theorem dX1_writeTo_69 : decode cX1_writeTo 69 = .ok (.getfield 35, 3) := by decide +kernel
theorem dX1_writeTo_72 : decode cX1_writeTo 72 = .ok (.iconst 1, 1) := by decide +kernel
theorem dX1_writeTo_73 : decode cX1_writeTo 73 = .ok (.iadd, 1) := by decide +kernel
theorem dX1_writeTo_74 : decode cX1_writeTo 74 = .ok (.putfield 35, 3) := by decide +kernel
theorem dX1_writeTo_77 : decode cX1_writeTo 77 = .ok (.iinc 2 1, 3) := by decide +kernel
theorem dX1_writeTo_80 : decode cX1_writeTo 80 = .ok (.goto (-68), 3) := by decide +kernel
theorem dX1_writeTo_83 : decode cX1_writeTo 83 = .ok (.return_, 1) := by decide +kernel
theorem dX2_init_0 : decode cX2_init 0 = .ok (.aload_n 0, 1) := by decide +kernel
theorem dX2_init_1 : decode cX2_init 1 = .ok (.invokespecial 1, 3) := by decide +kernel
theorem dX2_init_4 : decode cX2_init 4 = .ok (.return_, 1) := by decide +kernel
theorem dX2_copyFrom_0 : decode cX2_copyFrom 0 = .ok (.aload_n 0, 1) := by decide +kernel
theorem dX2_copyFrom_1 : decode cX2_copyFrom 1 = .ok (.aload_n 1, 1) := by decide +kernel
theorem dX2_copyFrom_2 : decode cX2_copyFrom 2 = .ok (.getfield 7, 3) := by decide +kernel
theorem dX2_copyFrom_5 : decode cX2_copyFrom 5 = .ok (.putfield 7, 3) := by decide +kernel
theorem dX2_copyFrom_8 : decode cX2_copyFrom 8 = .ok (.aload_n 0, 1) := by decide +kernel
theorem dX2_copyFrom_9 : decode cX2_copyFrom 9 = .ok (.aload_n 1, 1) := by decide +kernel
theorem dX2_copyFrom_10 : decode cX2_copyFrom 10 = .ok (.getfield 13, 3) := by decide +kernel
theorem dX2_copyFrom_13 : decode cX2_copyFrom 13 = .ok (.putfield 13, 3) := by decide +kernel
theorem dX2_copyFrom_16 : decode cX2_copyFrom 16 = .ok (.aload_n 0, 1) := by decide +kernel
theorem dX2_copyFrom_17 : decode cX2_copyFrom 17 = .ok (.aload_n 1, 1) := by decide +kernel
theorem dX2_copyFrom_18 : decode cX2_copyFrom 18 = .ok (.getfield 16, 3) := by decide +kernel
theorem dX2_copyFrom_21 : decode cX2_copyFrom 21 = .ok (.putfield 16, 3) := by decide +kernel
theorem dX2_copyFrom_24 : decode cX2_copyFrom 24 = .ok (.aload_n 0, 1) := by decide +kernel
theorem dX2_copyFrom_25 : decode cX2_copyFrom 25 = .ok (.aload_n 1, 1) := by decide +kernel
theorem dX2_copyFrom_26 : decode cX2_copyFrom 26 = .ok (.getfield 20, 3) := by decide +kernel
theorem dX2_copyFrom_29 : decode cX2_copyFrom 29 = .ok (.putfield 20, 3) := by decide +kernel
theorem dX2_copyFrom_32 : decode cX2_copyFrom 32 = .ok (.aload_n 0, 1) := by decide +kernel
theorem dX2_copyFrom_33 : decode cX2_copyFrom 33 = .ok (.aload_n 1, 1) := by decide +kernel
theorem dX2_copyFrom_34 : decode cX2_copyFrom 34 = .ok (.getfield 23, 3) := by decide +kernel
theorem dX2_copyFrom_37 : decode cX2_copyFrom 37 = .ok (.putfield 23, 3) := by decide +kernel
theorem dX2_copyFrom_40 : decode cX2_copyFrom 40 = .ok (.aload_n 0, 1) := by decide +kernel
theorem dX2_copyFrom_41 : decode cX2_copyFrom 41 = .ok (.aload_n 1, 1) := by decide +kernel
theorem dX2_copyFrom_42 : decode cX2_copyFrom 42 = .ok (.getfield 26, 3) := by decide +kernel
theorem dX2_copyFrom_45 : decode cX2_copyFrom 45 = .ok (.putfield 26, 3) := by decide +kernel
theorem dX2_copyFrom_48 : decode cX2_copyFrom 48 = .ok (.aload_n 0, 1) := by decide +kernel
theorem dX2_copyFrom_49 : decode cX2_copyFrom 49 = .ok (.aload_n 1, 1) := by decide +kernel
theorem dX2_copyFrom_50 : decode cX2_copyFrom 50 = .ok (.getfield 29, 3) := by decide +kernel
theorem dX2_copyFrom_53 : decode cX2_copyFrom 53 = .ok (.putfield 29, 3) := by decide +kernel
theorem dX2_copyFrom_56 : decode cX2_copyFrom 56 = .ok (.return_, 1) := by decide +kernel
theorem dX2_fineFor_0 : decode cX2_fineFor 0 = .ok (.aload_n 0, 1) := by decide +kernel
theorem dX2_fineFor_1 : decode cX2_fineFor 1 = .ok (.getfield 16, 3) := by decide +kernel
theorem dX2_fineFor_4 : decode cX2_fineFor 4 = .ok (.iload_n 1, 1) := by decide +kernel
theorem dX2_fineFor_5 : decode cX2_fineFor 5 = .ok (.if_icmp .ne 7, 3) := by decide +kernel
theorem dX2_fineFor_8 : decode cX2_fineFor 8 = .ok (.iconst 0, 1) := by decide +kernel
theorem dX2_fineFor_9 : decode cX2_fineFor 9 = .ok (.goto 7, 3) := by decide +kernel
theorem dX2_fineFor_12 : decode cX2_fineFor 12 = .ok (.aload_n 0, 1) := by decide +kernel
theorem dX2_fineFor_13 : decode cX2_fineFor 13 = .ok (.getfield 20, 3) := by decide +kernel
theorem dX2_fineFor_16 : decode cX2_fineFor 16 = .ok (.ireturn, 1) := by decide +kernel
theorem dX3_init_0 : decode cX3_init 0 = .ok (.aload_n 0, 1) := by decide +kernel
theorem dX3_init_1 : decode cX3_init 1 = .ok (.invokespecial 3, 3) := by decide +kernel
theorem dX3_init_4 : decode cX3_init 4 = .ok (.aload_n 0, 1) := by decide +kernel
theorem dX3_init_5 : decode cX3_init 5 = .ok (.bipush 12, 2) := by decide +kernel
theorem dX3_init_7 : decode cX3_init 7 = .ok (.newarray .int, 2) := by decide +kernel
theorem dX3_init_9 : decode cX3_init 9 = .ok (.putfield 9, 3) := by decide +kernel
theorem dX3_init_12 : decode cX3_init 12 = .ok (.aload_n 0, 1) := by decide +kernel
theorem dX3_init_13 : decode cX3_init 13 = .ok (.bipush 12, 2) := by decide +kernel
theorem dX3_init_15 : decode cX3_init 15 = .ok (.newarray .int, 2) := by decide +kernel
theorem dX3_init_17 : decode cX3_init 17 = .ok (.putfield 15, 3) := by decide +kernel
theorem dX3_init_20 : decode cX3_init 20 = .ok (.aload_n 0, 1) := by decide +kernel
theorem dX3_init_21 : decode cX3_init 21 = .ok (.bipush 12, 2) := by decide +kernel
theorem dX3_init_23 : decode cX3_init 23 = .ok (.newarray .int, 2) := by decide +kernel
theorem dX3_init_25 : decode cX3_init 25 = .ok (.putfield 18, 3) := by decide +kernel
theorem dX3_init_28 : decode cX3_init 28 = .ok (.aload_n 0, 1) := by decide +kernel
theorem dX3_init_29 : decode cX3_init 29 = .ok (.bipush 13, 2) := by decide +kernel
theorem dX3_init_31 : decode cX3_init 31 = .ok (.newarray .int, 2) := by decide +kernel
theorem dX3_init_33 : decode cX3_init 33 = .ok (.putfield 21, 3) := by decide +kernel
theorem dX3_init_36 : decode cX3_init 36 = .ok (.return_, 1) := by decide +kernel
theorem dX3_read_0 : decode cX3_read 0 = .ok (.aload_n 0, 1) := by decide +kernel
theorem dX3_read_1 : decode cX3_read 1 = .ok (.aload_n 2, 1) := by decide +kernel
theorem dX3_read_2 : decode cX3_read 2 = .ok (.getfield 24, 3) := by decide +kernel
theorem dX3_read_5 : decode cX3_read 5 = .ok (.putfield 30, 3) := by decide +kernel
theorem dX3_read_8 : decode cX3_read 8 = .ok (.aload_n 0, 1) := by decide +kernel
theorem dX3_read_9 : decode cX3_read 9 = .ok (.aload_n 1, 1) := by decide +kernel
theorem dX3_read_10 : decode cX3_read 10 = .ok (.getfield 31, 3) := by decide +kernel
theorem dX3_read_13 : decode cX3_read 13 = .ok (.iconst 0, 1) := by decide +kernel
theorem dX3_read_14 : decode cX3_read 14 = .ok (.invokestatic 36, 3) := by decide +kernel
theorem dX3_read_17 : decode cX3_read 17 = .ok (.putfield 40, 3) := by decide +kernel
theorem dX3_read_20 : decode cX3_read 20 = .ok (.aload_n 0, 1) := by decide +kernel
theorem dX3_read_21 : decode cX3_read 21 = .ok (.aload_n 1, 1) := by decide +kernel
theorem dX3_read_22 : decode cX3_read 22 = .ok (.getfield 31, 3) := by decide +kernel
theorem dX3_read_25 : decode cX3_read 25 = .ok (.iconst 1, 1) := by decide +kernel
theorem dX3_read_26 : decode cX3_read 26 = .ok (.invokestatic 36, 3) := by decide +kernel
theorem dX3_read_29 : decode cX3_read 29 = .ok (.putfield 43, 3) := by decide +kernel
theorem dX3_read_32 : decode cX3_read 32 = .ok (.iconst 0, 1) := by decide +kernel
theorem dX3_read_33 : decode cX3_read 33 = .ok (.istore_n 3, 1) := by decide +kernel
theorem dX3_read_34 : decode cX3_read 34 = .ok (.iload_n 3, 1) := by decide +kernel
theorem dX3_read_35 : decode cX3_read 35 = .ok (.aload_n 0, 1) := by decide +kernel
theorem dX3_read_36 : decode cX3_read 36 = .ok (.getfield 30, 3) := by decide +kernel
theorem dX3_read_39 : decode cX3_read 39 = .ok (.if_icmp .ge 29, 3) := by decide +kernel
theorem dX3_read_42 : decode cX3_read 42 = .ok (.aload_n 0, 1) := by decide +kernel
theorem dX3_read_43 : decode cX3_read 43 = .ok (.getfield 9, 3) := by decide +kernel
theorem dX3_read_46 : decode cX3_read 46 = .ok (.iload_n 3, 1) := by decide +kernel
theorem dX3_read_47 : decode cX3_read 47 = .ok (.aload_n 1, 1) := by decide +kernel
theorem dX3_read_48 : decode cX3_read 48 = .ok (.getfield 46, 3) := by decide +kernel
theorem dX3_read_51 : decode cX3_read 51 = .ok (.aload_n 2, 1) := by decide +kernel
theorem dX3_read_52 : decode cX3_read 52 = .ok (.iload_n 3, 1) := by decide +kernel
theorem dX3_read_53 : decode cX3_read 53 = .ok (.invokevirtual 47, 3) := by decide +kernel
theorem dX3_read_56 : decode cX3_read 56 = .ok (.invokestatic 36, 3) := by decide +kernel
theorem dX3_read_59 : decode cX3_read 59 = .ok (.invokestatic 51, 3) := by decide +kernel
theorem dX3_read_62 : decode cX3_read 62 = .ok (.iinc 3 1, 3) := by decide +kernel
theorem dX3_read_65 : decode cX3_read 65 = .ok (.goto (-31), 3) := by decide +kernel
theorem dX3_read_68 : decode cX3_read 68 = .ok (.iconst 0, 1) := by decide +kernel
theorem dX3_read_69 : decode cX3_read 69 = .ok (.istore_n 3, 1) := by decide +kernel
theorem dX3_read_70 : decode cX3_read 70 = .ok (.iload_n 3, 1) := by decide +kernel
theorem dX3_read_71 : decode cX3_read 71 = .ok (.aload_n 0, 1) := by decide +kernel
theorem dX3_read_72 : decode cX3_read 72 = .ok (.getfield 30, 3) := by decide +kernel
theorem dX3_read_75 : decode cX3_read 75 = .ok (.iconst 1, 1) := by decide +kernel
theorem dX3_read_76 : decode cX3_read 76 = .ok (.isub, 1) := by decide +kernel
theorem dX3_read_77 : decode cX3_read 77 = .ok (.if_icmp .ge 67, 3) := by decide +kernel
theorem dX3_read_80 : decode cX3_read 80 = .ok (.aload_n 1, 1) := by decide +kernel
theorem dX3_read_81 : decode cX3_read 81 = .ok (.aload_n 1, 1) := by decide +kernel
theorem dX3_read_82 : decode cX3_read 82 = .ok (.aload_n 2, 1) := by decide +kernel
theorem dX3_read_83 : decode cX3_read 83 = .ok (.iload_n 3, 1) := by decide +kernel
theorem dX3_read_84 : decode cX3_read 84 = .ok (.invokevirtual 55, 3) := by decide +kernel
theorem dX3_read_87 : decode cX3_read 87 = .ok (.invokevirtual 59, 3) := by decide +kernel
theorem dX3_read_90 : decode cX3_read 90 = .ok (.astore 4, 2) := by decide +kernel
theorem dX3_read_92 : decode cX3_read 92 = .ok (.aload_n 0, 1) := by decide +kernel
theorem dX3_read_93 : decode cX3_read 93 = .ok (.getfield 15, 3) := by decide +kernel
theorem dX3_read_96 : decode cX3_read 96 = .ok (.iload_n 3, 1) := by decide +kernel
theorem dX3_read_97 : decode cX3_read 97 = .ok (.aload 4, 2) := by decide +kernel
theorem dX3_read_99 : decode cX3_read 99 = .ok (.ifnonnull 7, 3) := by decide +kernel
theorem dX3_read_102 : decode cX3_read 102 = .ok (.iconst 0, 1) := by decide +kernel
theorem dX3_read_103 : decode cX3_read 103 = .ok (.goto 9, 3) := by decide +kernel
theorem dX3_read_106 : decode cX3_read 106 = .ok (.aload 4, 2) := by decide +kernel
theorem dX3_read_108 : decode cX3_read 108 = .ok (.iconst 1, 1) := by decide +kernel
theorem dX3_read_109 : decode cX3_read 109 = .ok (.invokevirtual 63, 3) := by decide +kernel
theorem dX3_read_112 : decode cX3_read 112 = .ok (.invokestatic 51, 3) := by decide +kernel
theorem dX3_read_115 : decode cX3_read 115 = .ok (.aload_n 0, 1) := by decide +kernel
theorem dX3_read_116 : decode cX3_read 116 = .ok (.getfield 18, 3) := by decide +kernel
theorem dX3_read_119 : decode cX3_read 119 = .ok (.iload_n 3, 1) := by decide +kernel
theorem dX3_read_120 : decode cX3_read 120 = .ok (.aload 4, 2) := by decide +kernel
theorem dX3_read_122 : decode cX3_read 122 = .ok (.ifnonnull 7, 3) := by decide +kernel
theorem dX3_read_125 : decode cX3_read 125 = .ok (.iconst 0, 1) := by decide +kernel
theorem dX3_read_126 : decode cX3_read 126 = .ok (.goto 9, 3) := by decide +kernel
theorem dX3_read_129 : decode cX3_read 129 = .ok (.aload 4, 2) := by decide +kernel
theorem dX3_read_131 : decode cX3_read 131 = .ok (.iconst 0, 1) := by decide +kernel
theorem dX3_read_132 : decode cX3_read 132 = .ok (.invokevirtual 63, 3) := by decide +kernel
theorem dX3_read_135 : decode cX3_read 135 = .ok (.invokestatic 51, 3) := by decide +kernel
theorem dX3_read_138 : decode cX3_read 138 = .ok (.iinc 3 1, 3) := by decide +kernel
theorem dX3_read_141 : decode cX3_read 141 = .ok (.goto (-71), 3) := by decide +kernel
theorem dX3_read_144 : decode cX3_read 144 = .ok (.return_, 1) := by decide +kernel
theorem dX3_wholeWeight_0 : decode cX3_wholeWeight 0 = .ok (.iconst 0, 1) := by decide +kernel
theorem dX3_wholeWeight_1 : decode cX3_wholeWeight 1 = .ok (.istore_n 1, 1) := by decide +kernel
theorem dX3_wholeWeight_2 : decode cX3_wholeWeight 2 = .ok (.iconst 0, 1) := by decide +kernel
theorem dX3_wholeWeight_3 : decode cX3_wholeWeight 3 = .ok (.istore_n 2, 1) := by decide +kernel
theorem dX3_wholeWeight_4 : decode cX3_wholeWeight 4 = .ok (.iload_n 2, 1) := by decide +kernel
theorem dX3_wholeWeight_5 : decode cX3_wholeWeight 5 = .ok (.aload_n 0, 1) := by decide +kernel
theorem dX3_wholeWeight_6 : decode cX3_wholeWeight 6 = .ok (.getfield 30, 3) := by decide +kernel
theorem dX3_wholeWeight_9 : decode cX3_wholeWeight 9 = .ok (.if_icmp .ge 20, 3) := by decide +kernel
theorem dX3_wholeWeight_12 : decode cX3_wholeWeight 12 = .ok (.iload_n 1, 1) := by decide +kernel
theorem dX3_wholeWeight_13 : decode cX3_wholeWeight 13 = .ok (.aload_n 0, 1) := by decide +kernel
theorem dX3_wholeWeight_14 : decode cX3_wholeWeight 14 = .ok (.getfield 9, 3) := by decide +kernel
theorem dX3_wholeWeight_17 : decode cX3_wholeWeight 17 = .ok (.iload_n 2, 1) := by decide +kernel
theorem dX3_wholeWeight_18 : decode cX3_wholeWeight 18 = .ok (.invokestatic 36, 3) := by decide +kernel
theorem dX3_wholeWeight_21 : decode cX3_wholeWeight 21 = .ok (.iadd, 1) := by decide +kernel
theorem dX3_wholeWeight_22 : decode cX3_wholeWeight 22 = .ok (.istore_n 1, 1) := by decide +kernel
theorem dX3_wholeWeight_23 : decode cX3_wholeWeight 23 = .ok (.iinc 2 1, 3) := by decide +kernel
theorem dX3_wholeWeight_26 : decode cX3_wholeWeight 26 = .ok (.goto (-22), 3) := by decide +kernel
theorem dX3_wholeWeight_29 : decode cX3_wholeWeight 29 = .ok (.iload_n 1, 1) := by decide +kernel
theorem dX3_wholeWeight_30 : decode cX3_wholeWeight 30 = .ok (.ireturn, 1) := by decide +kernel
theorem dX3_clauseCost_0 : decode cX3_clauseCost 0 = .ok (.iload_n 1, 1) := by decide +kernel
theorem dX3_clauseCost_1 : decode cX3_clauseCost 1 = .ok (.aload_n 0, 1) := by decide +kernel
theorem dX3_clauseCost_2 : decode cX3_clauseCost 2 = .ok (.getfield 40, 3) := by decide +kernel
theorem dX3_clauseCost_5 : decode cX3_clauseCost 5 = .ok (.isub, 1) := by decide +kernel
theorem dX3_clauseCost_6 : decode cX3_clauseCost 6 = .ok (.invokestatic 69, 3) := by decide +kernel
theorem dX3_clauseCost_9 : decode cX3_clauseCost 9 = .ok (.ireturn, 1) := by decide +kernel
theorem dX3_clausesCost_0 : decode cX3_clausesCost 0 = .ok (.iconst 0, 1) := by decide +kernel
theorem dX3_clausesCost_1 : decode cX3_clausesCost 1 = .ok (.istore_n 2, 1) := by decide +kernel
theorem dX3_clausesCost_2 : decode cX3_clausesCost 2 = .ok (.iconst 0, 1) := by decide +kernel
theorem dX3_clausesCost_3 : decode cX3_clausesCost 3 = .ok (.istore_n 3, 1) := by decide +kernel
theorem dX3_clausesCost_4 : decode cX3_clausesCost 4 = .ok (.iconst 0, 1) := by decide +kernel
theorem dX3_clausesCost_5 : decode cX3_clausesCost 5 = .ok (.istore 4, 2) := by decide +kernel
theorem dX3_clausesCost_7 : decode cX3_clausesCost 7 = .ok (.iload 4, 2) := by decide +kernel
theorem dX3_clausesCost_9 : decode cX3_clausesCost 9 = .ok (.aload_n 0, 1) := by decide +kernel
theorem dX3_clausesCost_10 : decode cX3_clausesCost 10 = .ok (.getfield 30, 3) := by decide +kernel
theorem dX3_clausesCost_13 : decode cX3_clausesCost 13 = .ok (.if_icmp .ge 52, 3) := by decide +kernel
theorem dX3_clausesCost_16 : decode cX3_clausesCost 16 = .ok (.iload_n 3, 1) := by decide +kernel
theorem dX3_clausesCost_17 : decode cX3_clausesCost 17 = .ok (.aload_n 0, 1) := by decide +kernel
theorem dX3_clausesCost_18 : decode cX3_clausesCost 18 = .ok (.getfield 9, 3) := by decide +kernel
theorem dX3_clausesCost_21 : decode cX3_clausesCost 21 = .ok (.iload 4, 2) := by decide +kernel
theorem dX3_clausesCost_23 : decode cX3_clausesCost 23 = .ok (.invokestatic 36, 3) := by decide +kernel
theorem dX3_clausesCost_26 : decode cX3_clausesCost 26 = .ok (.iadd, 1) := by decide +kernel
theorem dX3_clausesCost_27 : decode cX3_clausesCost 27 = .ok (.istore_n 3, 1) := by decide +kernel
theorem dX3_clausesCost_28 : decode cX3_clausesCost 28 = .ok (.iload 4, 2) := by decide +kernel
theorem dX3_clausesCost_30 : decode cX3_clausesCost 30 = .ok (.aload_n 0, 1) := by decide +kernel
theorem dX3_clausesCost_31 : decode cX3_clausesCost 31 = .ok (.getfield 30, 3) := by decide +kernel
theorem dX3_clausesCost_34 : decode cX3_clausesCost 34 = .ok (.iconst 1, 1) := by decide +kernel
theorem dX3_clausesCost_35 : decode cX3_clausesCost 35 = .ok (.isub, 1) := by decide +kernel
theorem dX3_clausesCost_36 : decode cX3_clausesCost 36 = .ok (.if_icmp .eq 13, 3) := by decide +kernel
theorem dX3_clausesCost_39 : decode cX3_clausesCost 39 = .ok (.iload_n 1, 1) := by decide +kernel
theorem dX3_clausesCost_40 : decode cX3_clausesCost 40 = .ok (.iload 4, 2) := by decide +kernel
theorem dX3_clausesCost_42 : decode cX3_clausesCost 42 = .ok (.ishr, 1) := by decide +kernel
theorem dX3_clausesCost_43 : decode cX3_clausesCost 43 = .ok (.iconst 1, 1) := by decide +kernel
theorem dX3_clausesCost_44 : decode cX3_clausesCost 44 = .ok (.iand, 1) := by decide +kernel
theorem dX3_clausesCost_45 : decode cX3_clausesCost 45 = .ok (.iconst 1, 1) := by decide +kernel
theorem dX3_clausesCost_46 : decode cX3_clausesCost 46 = .ok (.if_icmp .ne 13, 3) := by decide +kernel
theorem dX3_clausesCost_49 : decode cX3_clausesCost 49 = .ok (.iload_n 2, 1) := by decide +kernel
theorem dX3_clausesCost_50 : decode cX3_clausesCost 50 = .ok (.aload_n 0, 1) := by decide +kernel
theorem dX3_clausesCost_51 : decode cX3_clausesCost 51 = .ok (.iload_n 3, 1) := by decide +kernel
theorem dX3_clausesCost_52 : decode cX3_clausesCost 52 = .ok (.invokevirtual 74, 3) := by decide +kernel
theorem dX3_clausesCost_55 : decode cX3_clausesCost 55 = .ok (.iadd, 1) := by decide +kernel
theorem dX3_clausesCost_56 : decode cX3_clausesCost 56 = .ok (.istore_n 2, 1) := by decide +kernel
theorem dX3_clausesCost_57 : decode cX3_clausesCost 57 = .ok (.iconst 0, 1) := by decide +kernel
theorem dX3_clausesCost_58 : decode cX3_clausesCost 58 = .ok (.istore_n 3, 1) := by decide +kernel
theorem dX3_clausesCost_59 : decode cX3_clausesCost 59 = .ok (.iinc 4 1, 3) := by decide +kernel
theorem dX3_clausesCost_62 : decode cX3_clausesCost 62 = .ok (.goto (-55), 3) := by decide +kernel
theorem dX3_clausesCost_65 : decode cX3_clausesCost 65 = .ok (.iload_n 2, 1) := by decide +kernel
theorem dX3_clausesCost_66 : decode cX3_clausesCost 66 = .ok (.ireturn, 1) := by decide +kernel
theorem dX3_fines_0 : decode cX3_fines 0 = .ok (.iconst 0, 1) := by decide +kernel
theorem dX3_fines_1 : decode cX3_fines 1 = .ok (.istore_n 2, 1) := by decide +kernel
theorem dX3_fines_2 : decode cX3_fines 2 = .ok (.iconst 0, 1) := by decide +kernel
theorem dX3_fines_3 : decode cX3_fines 3 = .ok (.istore_n 3, 1) := by decide +kernel
theorem dX3_fines_4 : decode cX3_fines 4 = .ok (.iload_n 3, 1) := by decide +kernel
theorem dX3_fines_5 : decode cX3_fines 5 = .ok (.aload_n 0, 1) := by decide +kernel
theorem dX3_fines_6 : decode cX3_fines 6 = .ok (.getfield 30, 3) := by decide +kernel
theorem dX3_fines_9 : decode cX3_fines 9 = .ok (.iconst 1, 1) := by decide +kernel
theorem dX3_fines_10 : decode cX3_fines 10 = .ok (.isub, 1) := by decide +kernel
theorem dX3_fines_11 : decode cX3_fines 11 = .ok (.if_icmp .ge 40, 3) := by decide +kernel
theorem dX3_fines_14 : decode cX3_fines 14 = .ok (.iload_n 2, 1) := by decide +kernel
theorem dX3_fines_15 : decode cX3_fines 15 = .ok (.iload_n 1, 1) := by decide +kernel
theorem dX3_fines_16 : decode cX3_fines 16 = .ok (.iload_n 3, 1) := by decide +kernel
theorem dX3_fines_17 : decode cX3_fines 17 = .ok (.ishr, 1) := by decide +kernel
theorem dX3_fines_18 : decode cX3_fines 18 = .ok (.iconst 1, 1) := by decide +kernel
theorem dX3_fines_19 : decode cX3_fines 19 = .ok (.iand, 1) := by decide +kernel
theorem dX3_fines_20 : decode cX3_fines 20 = .ok (.iconst 1, 1) := by decide +kernel
theorem dX3_fines_21 : decode cX3_fines 21 = .ok (.if_icmp .ne 14, 3) := by decide +kernel
theorem dX3_fines_24 : decode cX3_fines 24 = .ok (.aload_n 0, 1) := by decide +kernel
theorem dX3_fines_25 : decode cX3_fines 25 = .ok (.getfield 15, 3) := by decide +kernel
theorem dX3_fines_28 : decode cX3_fines 28 = .ok (.iload_n 3, 1) := by decide +kernel
theorem dX3_fines_29 : decode cX3_fines 29 = .ok (.invokestatic 36, 3) := by decide +kernel
theorem dX3_fines_32 : decode cX3_fines 32 = .ok (.goto 11, 3) := by decide +kernel
theorem dX3_fines_35 : decode cX3_fines 35 = .ok (.aload_n 0, 1) := by decide +kernel
theorem dX3_fines_36 : decode cX3_fines 36 = .ok (.getfield 18, 3) := by decide +kernel
theorem dX3_fines_39 : decode cX3_fines 39 = .ok (.iload_n 3, 1) := by decide +kernel
theorem dX3_fines_40 : decode cX3_fines 40 = .ok (.invokestatic 36, 3) := by decide +kernel
theorem dX3_fines_43 : decode cX3_fines 43 = .ok (.iadd, 1) := by decide +kernel
theorem dX3_fines_44 : decode cX3_fines 44 = .ok (.istore_n 2, 1) := by decide +kernel
theorem dX3_fines_45 : decode cX3_fines 45 = .ok (.iinc 3 1, 3) := by decide +kernel
theorem dX3_fines_48 : decode cX3_fines 48 = .ok (.goto (-44), 3) := by decide +kernel
theorem dX3_fines_51 : decode cX3_fines 51 = .ok (.iload_n 2, 1) := by decide +kernel
theorem dX3_fines_52 : decode cX3_fines 52 = .ok (.ireturn, 1) := by decide +kernel
theorem dX3_cost_0 : decode cX3_cost 0 = .ok (.aload_n 0, 1) := by decide +kernel
theorem dX3_cost_1 : decode cX3_cost 1 = .ok (.iload_n 1, 1) := by decide +kernel
theorem dX3_cost_2 : decode cX3_cost 2 = .ok (.invokevirtual 77, 3) := by decide +kernel
theorem dX3_cost_5 : decode cX3_cost 5 = .ok (.aload_n 0, 1) := by decide +kernel
theorem dX3_cost_6 : decode cX3_cost 6 = .ok (.iload_n 1, 1) := by decide +kernel
theorem dX3_cost_7 : decode cX3_cost 7 = .ok (.invokevirtual 80, 3) := by decide +kernel
theorem dX3_cost_10 : decode cX3_cost 10 = .ok (.iadd, 1) := by decide +kernel
theorem dX3_cost_11 : decode cX3_cost 11 = .ok (.ireturn, 1) := by decide +kernel
theorem dX3_rank_0 : decode cX3_rank 0 = .ok (.aload_n 0, 1) := by decide +kernel
theorem dX3_rank_1 : decode cX3_rank 1 = .ok (.iload_n 1, 1) := by decide +kernel
theorem dX3_rank_2 : decode cX3_rank 2 = .ok (.invokevirtual 83, 3) := by decide +kernel
theorem dX3_rank_5 : decode cX3_rank 5 = .ok (.ldc 86, 2) := by decide +kernel
theorem dX3_rank_7 : decode cX3_rank 7 = .ok (.imul, 1) := by decide +kernel
theorem dX3_rank_8 : decode cX3_rank 8 = .ok (.iload_n 1, 1) := by decide +kernel
theorem dX3_rank_9 : decode cX3_rank 9 = .ok (.invokestatic 87, 3) := by decide +kernel
theorem dX3_rank_12 : decode cX3_rank 12 = .ok (.sipush 2048, 3) := by decide +kernel
theorem dX3_rank_15 : decode cX3_rank 15 = .ok (.imul, 1) := by decide +kernel
theorem dX3_rank_16 : decode cX3_rank 16 = .ok (.iadd, 1) := by decide +kernel
theorem dX3_rank_17 : decode cX3_rank 17 = .ok (.iload_n 1, 1) := by decide +kernel
theorem dX3_rank_18 : decode cX3_rank 18 = .ok (.iadd, 1) := by decide +kernel
theorem dX3_rank_19 : decode cX3_rank 19 = .ok (.ireturn, 1) := by decide +kernel
theorem dX3_leastRankOfAllSets_0 : decode cX3_leastRankOfAllSets 0 = .ok (.aload_n 0, 1) := by decide +kernel
theorem dX3_leastRankOfAllSets_1 : decode cX3_leastRankOfAllSets 1 = .ok (.iconst 0, 1) := by decide +kernel
theorem dX3_leastRankOfAllSets_2 : decode cX3_leastRankOfAllSets 2 = .ok (.invokevirtual 92, 3) := by decide +kernel
theorem dX3_leastRankOfAllSets_5 : decode cX3_leastRankOfAllSets 5 = .ok (.istore_n 1, 1) := by decide +kernel
theorem dX3_leastRankOfAllSets_6 : decode cX3_leastRankOfAllSets 6 = .ok (.iconst 1, 1) := by decide +kernel
theorem dX3_leastRankOfAllSets_7 : decode cX3_leastRankOfAllSets 7 = .ok (.istore_n 2, 1) := by decide +kernel
theorem dX3_leastRankOfAllSets_8 : decode cX3_leastRankOfAllSets 8 = .ok (.iload_n 2, 1) := by decide +kernel
theorem dX3_leastRankOfAllSets_9 : decode cX3_leastRankOfAllSets 9 = .ok (.iconst 1, 1) := by decide +kernel
theorem dX3_leastRankOfAllSets_10 : decode cX3_leastRankOfAllSets 10 = .ok (.aload_n 0, 1) := by decide +kernel
theorem dX3_leastRankOfAllSets_11 : decode cX3_leastRankOfAllSets 11 = .ok (.getfield 30, 3) := by decide +kernel
theorem dX3_leastRankOfAllSets_14 : decode cX3_leastRankOfAllSets 14 = .ok (.iconst 1, 1) := by decide +kernel
theorem dX3_leastRankOfAllSets_15 : decode cX3_leastRankOfAllSets 15 = .ok (.isub, 1) := by decide +kernel
theorem dX3_leastRankOfAllSets_16 : decode cX3_leastRankOfAllSets 16 = .ok (.ishl, 1) := by decide +kernel
theorem dX3_leastRankOfAllSets_17 : decode cX3_leastRankOfAllSets 17 = .ok (.if_icmp .ge 19, 3) := by decide +kernel
theorem dX3_leastRankOfAllSets_20 : decode cX3_leastRankOfAllSets 20 = .ok (.iload_n 1, 1) := by decide +kernel
theorem dX3_leastRankOfAllSets_21 : decode cX3_leastRankOfAllSets 21 = .ok (.aload_n 0, 1) := by decide +kernel
theorem dX3_leastRankOfAllSets_22 : decode cX3_leastRankOfAllSets 22 = .ok (.iload_n 2, 1) := by decide +kernel
theorem dX3_leastRankOfAllSets_23 : decode cX3_leastRankOfAllSets 23 = .ok (.invokevirtual 92, 3) := by decide +kernel
theorem dX3_leastRankOfAllSets_26 : decode cX3_leastRankOfAllSets 26 = .ok (.invokestatic 95, 3) := by decide +kernel
theorem dX3_leastRankOfAllSets_29 : decode cX3_leastRankOfAllSets 29 = .ok (.istore_n 1, 1) := by decide +kernel
theorem dX3_leastRankOfAllSets_30 : decode cX3_leastRankOfAllSets 30 = .ok (.iinc 2 1, 3) := by decide +kernel
theorem dX3_leastRankOfAllSets_33 : decode cX3_leastRankOfAllSets 33 = .ok (.goto (-25), 3) := by decide +kernel
theorem dX3_leastRankOfAllSets_36 : decode cX3_leastRankOfAllSets 36 = .ok (.iload_n 1, 1) := by decide +kernel
theorem dX3_leastRankOfAllSets_37 : decode cX3_leastRankOfAllSets 37 = .ok (.ireturn, 1) := by decide +kernel
theorem dX3_leastRankByWords_0 : decode cX3_leastRankByWords 0 = .ok (.iconst 1, 1) := by decide +kernel
theorem dX3_leastRankByWords_1 : decode cX3_leastRankByWords 1 = .ok (.istore_n 1, 1) := by decide +kernel
theorem dX3_leastRankByWords_2 : decode cX3_leastRankByWords 2 = .ok (.iload_n 1, 1) := by decide +kernel
theorem dX3_leastRankByWords_3 : decode cX3_leastRankByWords 3 = .ok (.aload_n 0, 1) := by decide +kernel
theorem dX3_leastRankByWords_4 : decode cX3_leastRankByWords 4 = .ok (.getfield 30, 3) := by decide +kernel
theorem dX3_leastRankByWords_7 : decode cX3_leastRankByWords 7 = .ok (.if_icmp .gt 22, 3) := by decide +kernel
theorem dX3_leastRankByWords_10 : decode cX3_leastRankByWords 10 = .ok (.aload_n 0, 1) := by decide +kernel
theorem dX3_leastRankByWords_11 : decode cX3_leastRankByWords 11 = .ok (.getfield 21, 3) := by decide +kernel
theorem dX3_leastRankByWords_14 : decode cX3_leastRankByWords 14 = .ok (.iload_n 1, 1) := by decide +kernel
theorem dX3_leastRankByWords_15 : decode cX3_leastRankByWords 15 = .ok (.aload_n 0, 1) := by decide +kernel
theorem dX3_leastRankByWords_16 : decode cX3_leastRankByWords 16 = .ok (.iload_n 1, 1) := by decide +kernel
theorem dX3_leastRankByWords_17 : decode cX3_leastRankByWords 17 = .ok (.invokevirtual 99, 3) := by decide +kernel
theorem dX3_leastRankByWords_20 : decode cX3_leastRankByWords 20 = .ok (.invokestatic 51, 3) := by decide +kernel
theorem dX3_leastRankByWords_23 : decode cX3_leastRankByWords 23 = .ok (.iinc 1 1, 3) := by decide +kernel
theorem dX3_leastRankByWords_26 : decode cX3_leastRankByWords 26 = .ok (.goto (-24), 3) := by decide +kernel
theorem dX3_leastRankByWords_29 : decode cX3_leastRankByWords 29 = .ok (.aload_n 0, 1) := by decide +kernel
theorem dX3_leastRankByWords_30 : decode cX3_leastRankByWords 30 = .ok (.getfield 21, 3) := by decide +kernel
theorem dX3_leastRankByWords_33 : decode cX3_leastRankByWords 33 = .ok (.aload_n 0, 1) := by decide +kernel
theorem dX3_leastRankByWords_34 : decode cX3_leastRankByWords 34 = .ok (.getfield 30, 3) := by decide +kernel
theorem dX3_leastRankByWords_37 : decode cX3_leastRankByWords 37 = .ok (.invokestatic 36, 3) := by decide +kernel
theorem dX3_leastRankByWords_40 : decode cX3_leastRankByWords 40 = .ok (.ireturn, 1) := by decide +kernel
theorem dX3_leastRankUpTo_0 : decode cX3_leastRankUpTo 0 = .ok (.iconst 0, 1) := by decide +kernel
theorem dX3_leastRankUpTo_1 : decode cX3_leastRankUpTo 1 = .ok (.istore_n 2, 1) := by decide +kernel
theorem dX3_leastRankUpTo_2 : decode cX3_leastRankUpTo 2 = .ok (.iconst 0, 1) := by decide +kernel
theorem dX3_leastRankUpTo_3 : decode cX3_leastRankUpTo 3 = .ok (.istore_n 3, 1) := by decide +kernel
theorem dX3_leastRankUpTo_4 : decode cX3_leastRankUpTo 4 = .ok (.iconst 0, 1) := by decide +kernel
theorem dX3_leastRankUpTo_5 : decode cX3_leastRankUpTo 5 = .ok (.istore 4, 2) := by decide +kernel
theorem dX3_leastRankUpTo_7 : decode cX3_leastRankUpTo 7 = .ok (.iload_n 1, 1) := by decide +kernel
theorem dX3_leastRankUpTo_8 : decode cX3_leastRankUpTo 8 = .ok (.iconst 1, 1) := by decide +kernel
theorem dX3_leastRankUpTo_9 : decode cX3_leastRankUpTo 9 = .ok (.isub, 1) := by decide +kernel
theorem dX3_leastRankUpTo_10 : decode cX3_leastRankUpTo 10 = .ok (.istore 5, 2) := by decide +kernel
theorem dX3_leastRankUpTo_12 : decode cX3_leastRankUpTo 12 = .ok (.iload 5, 2) := by decide +kernel
theorem dX3_leastRankUpTo_14 : decode cX3_leastRankUpTo 14 = .ok (.ifCond .lt 96, 3) := by decide +kernel
theorem dX3_leastRankUpTo_17 : decode cX3_leastRankUpTo 17 = .ok (.iload 5, 2) := by decide +kernel
theorem dX3_leastRankUpTo_19 : decode cX3_leastRankUpTo 19 = .ok (.iload_n 1, 1) := by decide +kernel
theorem dX3_leastRankUpTo_20 : decode cX3_leastRankUpTo 20 = .ok (.iconst 1, 1) := by decide +kernel
theorem dX3_leastRankUpTo_21 : decode cX3_leastRankUpTo 21 = .ok (.isub, 1) := by decide +kernel
theorem dX3_leastRankUpTo_22 : decode cX3_leastRankUpTo 22 = .ok (.if_icmp .ne 7, 3) := by decide +kernel
theorem dX3_leastRankUpTo_25 : decode cX3_leastRankUpTo 25 = .ok (.iconst 1, 1) := by decide +kernel
theorem dX3_leastRankUpTo_26 : decode cX3_leastRankUpTo 26 = .ok (.goto 4, 3) := by decide +kernel
theorem dX3_leastRankUpTo_29 : decode cX3_leastRankUpTo 29 = .ok (.iconst 0, 1) := by decide +kernel
theorem dX3_leastRankUpTo_30 : decode cX3_leastRankUpTo 30 = .ok (.istore 6, 2) := by decide +kernel
theorem dX3_leastRankUpTo_32 : decode cX3_leastRankUpTo 32 = .ok (.iload_n 3, 1) := by decide +kernel
theorem dX3_leastRankUpTo_33 : decode cX3_leastRankUpTo 33 = .ok (.aload_n 0, 1) := by decide +kernel
theorem dX3_leastRankUpTo_34 : decode cX3_leastRankUpTo 34 = .ok (.getfield 9, 3) := by decide +kernel
theorem dX3_leastRankUpTo_37 : decode cX3_leastRankUpTo 37 = .ok (.iload 5, 2) := by decide +kernel
theorem dX3_leastRankUpTo_39 : decode cX3_leastRankUpTo 39 = .ok (.invokestatic 36, 3) := by decide +kernel
theorem dX3_leastRankUpTo_42 : decode cX3_leastRankUpTo 42 = .ok (.iadd, 1) := by decide +kernel
theorem dX3_leastRankUpTo_43 : decode cX3_leastRankUpTo 43 = .ok (.istore_n 3, 1) := by decide +kernel
theorem dX3_leastRankUpTo_44 : decode cX3_leastRankUpTo 44 = .ok (.iload 4, 2) := by decide +kernel
theorem dX3_leastRankUpTo_46 : decode cX3_leastRankUpTo 46 = .ok (.iload 6, 2) := by decide +kernel
theorem dX3_leastRankUpTo_48 : decode cX3_leastRankUpTo 48 = .ok (.ifCond .eq 7, 3) := by decide +kernel
theorem dX3_leastRankUpTo_51 : decode cX3_leastRankUpTo 51 = .ok (.iconst 0, 1) := by decide +kernel
theorem dX3_leastRankUpTo_52 : decode cX3_leastRankUpTo 52 = .ok (.goto 12, 3) := by decide +kernel
theorem dX3_leastRankUpTo_55 : decode cX3_leastRankUpTo 55 = .ok (.aload_n 0, 1) := by decide +kernel
theorem dX3_leastRankUpTo_56 : decode cX3_leastRankUpTo 56 = .ok (.getfield 18, 3) := by decide +kernel
theorem dX3_leastRankUpTo_59 : decode cX3_leastRankUpTo 59 = .ok (.iload 5, 2) := by decide +kernel
theorem dX3_leastRankUpTo_61 : decode cX3_leastRankUpTo 61 = .ok (.invokestatic 36, 3) := by decide +kernel
theorem dX3_leastRankUpTo_64 : decode cX3_leastRankUpTo 64 = .ok (.iadd, 1) := by decide +kernel
theorem dX3_leastRankUpTo_65 : decode cX3_leastRankUpTo 65 = .ok (.istore 4, 2) := by decide +kernel
theorem dX3_leastRankUpTo_67 : decode cX3_leastRankUpTo 67 = .ok (.aload_n 0, 1) := by decide +kernel
theorem dX3_leastRankUpTo_68 : decode cX3_leastRankUpTo 68 = .ok (.iload 5, 2) := by decide +kernel
theorem dX3_leastRankUpTo_70 : decode cX3_leastRankUpTo 70 = .ok (.invokevirtual 102, 3) := by decide +kernel
theorem dX3_leastRankUpTo_73 : decode cX3_leastRankUpTo 73 = .ok (.aload_n 0, 1) := by decide +kernel
theorem dX3_leastRankUpTo_74 : decode cX3_leastRankUpTo 74 = .ok (.iload_n 3, 1) := by decide +kernel
theorem dX3_leastRankUpTo_75 : decode cX3_leastRankUpTo 75 = .ok (.invokevirtual 74, 3) := by decide +kernel
theorem dX3_leastRankUpTo_78 : decode cX3_leastRankUpTo 78 = .ok (.iload 4, 2) := by decide +kernel
theorem dX3_leastRankUpTo_80 : decode cX3_leastRankUpTo 80 = .ok (.iadd, 1) := by decide +kernel
theorem dX3_leastRankUpTo_81 : decode cX3_leastRankUpTo 81 = .ok (.ldc 86, 2) := by decide +kernel
theorem dX3_leastRankUpTo_83 : decode cX3_leastRankUpTo 83 = .ok (.imul, 1) := by decide +kernel
theorem dX3_leastRankUpTo_84 : decode cX3_leastRankUpTo 84 = .ok (.iadd, 1) := by decide +kernel
theorem dX3_leastRankUpTo_85 : decode cX3_leastRankUpTo 85 = .ok (.istore 7, 2) := by decide +kernel
theorem dX3_leastRankUpTo_87 : decode cX3_leastRankUpTo 87 = .ok (.iload 6, 2) := by decide +kernel
theorem dX3_leastRankUpTo_89 : decode cX3_leastRankUpTo 89 = .ok (.ifCond .eq 8, 3) := by decide +kernel
theorem dX3_leastRankUpTo_92 : decode cX3_leastRankUpTo 92 = .ok (.iload 7, 2) := by decide +kernel
theorem dX3_leastRankUpTo_94 : decode cX3_leastRankUpTo 94 = .ok (.goto 9, 3) := by decide +kernel
theorem dX3_leastRankUpTo_97 : decode cX3_leastRankUpTo 97 = .ok (.iload_n 2, 1) := by decide +kernel
theorem dX3_leastRankUpTo_98 : decode cX3_leastRankUpTo 98 = .ok (.iload 7, 2) := by decide +kernel
theorem dX3_leastRankUpTo_100 : decode cX3_leastRankUpTo 100 = .ok (.invokestatic 95, 3) := by decide +kernel
theorem dX3_leastRankUpTo_103 : decode cX3_leastRankUpTo 103 = .ok (.istore_n 2, 1) := by decide +kernel
theorem dX3_leastRankUpTo_104 : decode cX3_leastRankUpTo 104 = .ok (.iinc 5 (-1), 3) := by decide +kernel
theorem dX3_leastRankUpTo_107 : decode cX3_leastRankUpTo 107 = .ok (.goto (-95), 3) := by decide +kernel
theorem dX3_leastRankUpTo_110 : decode cX3_leastRankUpTo 110 = .ok (.iload_n 2, 1) := by decide +kernel
theorem dX3_leastRankUpTo_111 : decode cX3_leastRankUpTo 111 = .ok (.ireturn, 1) := by decide +kernel
theorem dX3_rankUpToClause_0 : decode cX3_rankUpToClause 0 = .ok (.iload_n 1, 1) := by decide +kernel
theorem dX3_rankUpToClause_1 : decode cX3_rankUpToClause 1 = .ok (.ifCond .ne 5, 3) := by decide +kernel
theorem dX3_rankUpToClause_4 : decode cX3_rankUpToClause 4 = .ok (.iconst 0, 1) := by decide +kernel
theorem dX3_rankUpToClause_5 : decode cX3_rankUpToClause 5 = .ok (.ireturn, 1) := by decide +kernel
theorem dX3_rankUpToClause_6 : decode cX3_rankUpToClause 6 = .ok (.iload_n 1, 1) := by decide +kernel
theorem dX3_rankUpToClause_7 : decode cX3_rankUpToClause 7 = .ok (.iconst 1, 1) := by decide +kernel
theorem dX3_rankUpToClause_8 : decode cX3_rankUpToClause 8 = .ok (.isub, 1) := by decide +kernel
theorem dX3_rankUpToClause_9 : decode cX3_rankUpToClause 9 = .ok (.istore_n 2, 1) := by decide +kernel
theorem dX3_rankUpToClause_10 : decode cX3_rankUpToClause 10 = .ok (.aload_n 0, 1) := by decide +kernel
theorem dX3_rankUpToClause_11 : decode cX3_rankUpToClause 11 = .ok (.getfield 21, 3) := by decide +kernel
theorem dX3_rankUpToClause_14 : decode cX3_rankUpToClause 14 = .ok (.iload_n 1, 1) := by decide +kernel
theorem dX3_rankUpToClause_15 : decode cX3_rankUpToClause 15 = .ok (.invokestatic 36, 3) := by decide +kernel
theorem dX3_rankUpToClause_18 : decode cX3_rankUpToClause 18 = .ok (.aload_n 0, 1) := by decide +kernel
theorem dX3_rankUpToClause_19 : decode cX3_rankUpToClause 19 = .ok (.getfield 15, 3) := by decide +kernel
theorem dX3_rankUpToClause_22 : decode cX3_rankUpToClause 22 = .ok (.iload_n 2, 1) := by decide +kernel
theorem dX3_rankUpToClause_23 : decode cX3_rankUpToClause 23 = .ok (.invokestatic 36, 3) := by decide +kernel
theorem dX3_rankUpToClause_26 : decode cX3_rankUpToClause 26 = .ok (.ldc 86, 2) := by decide +kernel
theorem dX3_rankUpToClause_28 : decode cX3_rankUpToClause 28 = .ok (.imul, 1) := by decide +kernel
theorem dX3_rankUpToClause_29 : decode cX3_rankUpToClause 29 = .ok (.iadd, 1) := by decide +kernel
theorem dX3_rankUpToClause_30 : decode cX3_rankUpToClause 30 = .ok (.sipush 2048, 3) := by decide +kernel
theorem dX3_rankUpToClause_33 : decode cX3_rankUpToClause 33 = .ok (.iadd, 1) := by decide +kernel
theorem dX3_rankUpToClause_34 : decode cX3_rankUpToClause 34 = .ok (.iconst 1, 1) := by decide +kernel
theorem dX3_rankUpToClause_35 : decode cX3_rankUpToClause 35 = .ok (.iload_n 2, 1) := by decide +kernel
theorem dX3_rankUpToClause_36 : decode cX3_rankUpToClause 36 = .ok (.ishl, 1) := by decide +kernel
theorem dX3_rankUpToClause_37 : decode cX3_rankUpToClause 37 = .ok (.iadd, 1) := by decide +kernel
theorem dX3_rankUpToClause_38 : decode cX3_rankUpToClause 38 = .ok (.ireturn, 1) := by decide +kernel
theorem dX3_splittingsByWords_0 : decode cX3_splittingsByWords 0 = .ok (.aload_n 0, 1) := by decide +kernel
theorem dX3_splittingsByWords_1 : decode cX3_splittingsByWords 1 = .ok (.getfield 21, 3) := by decide +kernel
theorem dX3_splittingsByWords_4 : decode cX3_splittingsByWords 4 = .ok (.iconst 0, 1) := by decide +kernel
theorem dX3_splittingsByWords_5 : decode cX3_splittingsByWords 5 = .ok (.iconst 1, 1) := by decide +kernel
theorem dX3_splittingsByWords_6 : decode cX3_splittingsByWords 6 = .ok (.invokestatic 51, 3) := by decide +kernel
theorem dX3_splittingsByWords_9 : decode cX3_splittingsByWords 9 = .ok (.iconst 1, 1) := by decide +kernel
theorem dX3_splittingsByWords_10 : decode cX3_splittingsByWords 10 = .ok (.istore_n 1, 1) := by decide +kernel
theorem dX3_splittingsByWords_11 : decode cX3_splittingsByWords 11 = .ok (.iload_n 1, 1) := by decide +kernel
theorem dX3_splittingsByWords_12 : decode cX3_splittingsByWords 12 = .ok (.aload_n 0, 1) := by decide +kernel
theorem dX3_splittingsByWords_13 : decode cX3_splittingsByWords 13 = .ok (.getfield 30, 3) := by decide +kernel
theorem dX3_splittingsByWords_16 : decode cX3_splittingsByWords 16 = .ok (.if_icmp .gt 74, 3) := by decide +kernel
theorem dX3_splittingsByWords_19 : decode cX3_splittingsByWords 19 = .ok (.iconst 0, 1) := by decide +kernel
theorem dX3_splittingsByWords_20 : decode cX3_splittingsByWords 20 = .ok (.istore_n 2, 1) := by decide +kernel
theorem dX3_splittingsByWords_21 : decode cX3_splittingsByWords 21 = .ok (.iconst 0, 1) := by decide +kernel
theorem dX3_splittingsByWords_22 : decode cX3_splittingsByWords 22 = .ok (.istore_n 3, 1) := by decide +kernel
theorem dX3_splittingsByWords_23 : decode cX3_splittingsByWords 23 = .ok (.iload_n 1, 1) := by decide +kernel
theorem dX3_splittingsByWords_24 : decode cX3_splittingsByWords 24 = .ok (.iconst 1, 1) := by decide +kernel
theorem dX3_splittingsByWords_25 : decode cX3_splittingsByWords 25 = .ok (.isub, 1) := by decide +kernel
theorem dX3_splittingsByWords_26 : decode cX3_splittingsByWords 26 = .ok (.istore 4, 2) := by decide +kernel
theorem dX3_splittingsByWords_28 : decode cX3_splittingsByWords 28 = .ok (.iload 4, 2) := by decide +kernel
theorem dX3_splittingsByWords_30 : decode cX3_splittingsByWords 30 = .ok (.ifCond .lt 45, 3) := by decide +kernel
theorem dX3_splittingsByWords_33 : decode cX3_splittingsByWords 33 = .ok (.iload_n 3, 1) := by decide +kernel
theorem dX3_splittingsByWords_34 : decode cX3_splittingsByWords 34 = .ok (.aload_n 0, 1) := by decide +kernel
theorem dX3_splittingsByWords_35 : decode cX3_splittingsByWords 35 = .ok (.getfield 9, 3) := by decide +kernel
theorem dX3_splittingsByWords_38 : decode cX3_splittingsByWords 38 = .ok (.iload 4, 2) := by decide +kernel
theorem dX3_splittingsByWords_40 : decode cX3_splittingsByWords 40 = .ok (.invokestatic 36, 3) := by decide +kernel
theorem dX3_splittingsByWords_43 : decode cX3_splittingsByWords 43 = .ok (.iadd, 1) := by decide +kernel
theorem dX3_splittingsByWords_44 : decode cX3_splittingsByWords 44 = .ok (.istore_n 3, 1) := by decide +kernel
theorem dX3_splittingsByWords_45 : decode cX3_splittingsByWords 45 = .ok (.iload_n 2, 1) := by decide +kernel
theorem dX3_splittingsByWords_46 : decode cX3_splittingsByWords 46 = .ok (.iload_n 3, 1) := by decide +kernel
theorem dX3_splittingsByWords_47 : decode cX3_splittingsByWords 47 = .ok (.aload_n 0, 1) := by decide +kernel
theorem dX3_splittingsByWords_48 : decode cX3_splittingsByWords 48 = .ok (.getfield 43, 3) := by decide +kernel
theorem dX3_splittingsByWords_51 : decode cX3_splittingsByWords 51 = .ok (.if_icmp .gt 15, 3) := by decide +kernel
theorem dX3_splittingsByWords_54 : decode cX3_splittingsByWords 54 = .ok (.aload_n 0, 1) := by decide +kernel
theorem dX3_splittingsByWords_55 : decode cX3_splittingsByWords 55 = .ok (.getfield 21, 3) := by decide +kernel
theorem dX3_splittingsByWords_58 : decode cX3_splittingsByWords 58 = .ok (.iload 4, 2) := by decide +kernel
theorem dX3_splittingsByWords_60 : decode cX3_splittingsByWords 60 = .ok (.invokestatic 36, 3) := by decide +kernel
theorem dX3_splittingsByWords_63 : decode cX3_splittingsByWords 63 = .ok (.goto 4, 3) := by decide +kernel
theorem dX3_splittingsByWords_66 : decode cX3_splittingsByWords 66 = .ok (.iconst 0, 1) := by decide +kernel
theorem dX3_splittingsByWords_67 : decode cX3_splittingsByWords 67 = .ok (.iadd, 1) := by decide +kernel
theorem dX3_splittingsByWords_68 : decode cX3_splittingsByWords 68 = .ok (.istore_n 2, 1) := by decide +kernel
theorem dX3_splittingsByWords_69 : decode cX3_splittingsByWords 69 = .ok (.iinc 4 (-1), 3) := by decide +kernel
theorem dX3_splittingsByWords_72 : decode cX3_splittingsByWords 72 = .ok (.goto (-44), 3) := by decide +kernel
theorem dX3_splittingsByWords_75 : decode cX3_splittingsByWords 75 = .ok (.aload_n 0, 1) := by decide +kernel
theorem dX3_splittingsByWords_76 : decode cX3_splittingsByWords 76 = .ok (.getfield 21, 3) := by decide +kernel
theorem dX3_splittingsByWords_79 : decode cX3_splittingsByWords 79 = .ok (.iload_n 1, 1) := by decide +kernel
theorem dX3_splittingsByWords_80 : decode cX3_splittingsByWords 80 = .ok (.iload_n 2, 1) := by decide +kernel
theorem dX3_splittingsByWords_81 : decode cX3_splittingsByWords 81 = .ok (.invokestatic 51, 3) := by decide +kernel
theorem dX3_splittingsByWords_84 : decode cX3_splittingsByWords 84 = .ok (.iinc 1 1, 3) := by decide +kernel
theorem dX3_splittingsByWords_87 : decode cX3_splittingsByWords 87 = .ok (.goto (-76), 3) := by decide +kernel
theorem dX3_splittingsByWords_90 : decode cX3_splittingsByWords 90 = .ok (.aload_n 0, 1) := by decide +kernel
theorem dX3_splittingsByWords_91 : decode cX3_splittingsByWords 91 = .ok (.getfield 21, 3) := by decide +kernel
theorem dX3_splittingsByWords_94 : decode cX3_splittingsByWords 94 = .ok (.aload_n 0, 1) := by decide +kernel
theorem dX3_splittingsByWords_95 : decode cX3_splittingsByWords 95 = .ok (.getfield 30, 3) := by decide +kernel
theorem dX3_splittingsByWords_98 : decode cX3_splittingsByWords 98 = .ok (.invokestatic 36, 3) := by decide +kernel
theorem dX3_splittingsByWords_101 : decode cX3_splittingsByWords 101 = .ok (.ireturn, 1) := by decide +kernel
theorem dX4_init_0 : decode cX4_init 0 = .ok (.aload_n 0, 1) := by decide +kernel
theorem dX4_init_1 : decode cX4_init 1 = .ok (.invokespecial 3, 3) := by decide +kernel
theorem dX4_init_4 : decode cX4_init 4 = .ok (.aload_n 0, 1) := by decide +kernel
theorem dX4_init_5 : decode cX4_init 5 = .ok (.bipush 6, 2) := by decide +kernel
theorem dX4_init_7 : decode cX4_init 7 = .ok (.newarray .int, 2) := by decide +kernel
theorem dX4_init_9 : decode cX4_init 9 = .ok (.putfield 9, 3) := by decide +kernel
theorem dX4_init_12 : decode cX4_init 12 = .ok (.aload_n 0, 1) := by decide +kernel
theorem dX4_init_13 : decode cX4_init 13 = .ok (.iconst 2, 1) := by decide +kernel
theorem dX4_init_14 : decode cX4_init 14 = .ok (.newarray .int, 2) := by decide +kernel
theorem dX4_init_16 : decode cX4_init 16 = .ok (.putfield 15, 3) := by decide +kernel
theorem dX4_init_19 : decode cX4_init 19 = .ok (.aload_n 0, 1) := by decide +kernel
theorem dX4_init_20 : decode cX4_init 20 = .ok (.iconst 4, 1) := by decide +kernel
theorem dX4_init_21 : decode cX4_init 21 = .ok (.anewarray 18, 3) := by decide +kernel
theorem dX4_init_24 : decode cX4_init 24 = .ok (.putfield 20, 3) := by decide +kernel
theorem dX4_init_27 : decode cX4_init 27 = .ok (.aload_n 0, 1) := by decide +kernel
theorem dX4_init_28 : decode cX4_init 28 = .ok (.bipush 10, 2) := by decide +kernel
theorem dX4_init_30 : decode cX4_init 30 = .ok (.anewarray 24, 3) := by decide +kernel
theorem dX4_init_33 : decode cX4_init 33 = .ok (.putfield 26, 3) := by decide +kernel
theorem dX4_init_36 : decode cX4_init 36 = .ok (.iconst 0, 1) := by decide +kernel
theorem dX4_init_37 : decode cX4_init 37 = .ok (.istore_n 1, 1) := by decide +kernel
theorem dX4_init_38 : decode cX4_init 38 = .ok (.iload_n 1, 1) := by decide +kernel
theorem dX4_init_39 : decode cX4_init 39 = .ok (.bipush 6, 2) := by decide +kernel
theorem dX4_init_41 : decode cX4_init 41 = .ok (.if_icmp .ge 20, 3) := by decide +kernel
theorem dX4_init_44 : decode cX4_init 44 = .ok (.aload_n 0, 1) := by decide +kernel
theorem dX4_init_45 : decode cX4_init 45 = .ok (.getfield 9, 3) := by decide +kernel
theorem dX4_init_48 : decode cX4_init 48 = .ok (.iload_n 1, 1) := by decide +kernel
theorem dX4_init_49 : decode cX4_init 49 = .ok (.iload_n 1, 1) := by decide +kernel
theorem dX4_init_50 : decode cX4_init 50 = .ok (.iconst 1, 1) := by decide +kernel
theorem dX4_init_51 : decode cX4_init 51 = .ok (.iadd, 1) := by decide +kernel
theorem dX4_init_52 : decode cX4_init 52 = .ok (.invokestatic 30, 3) := by decide +kernel
theorem dX4_init_55 : decode cX4_init 55 = .ok (.iinc 1 1, 3) := by decide +kernel
theorem dX4_init_58 : decode cX4_init 58 = .ok (.goto (-20), 3) := by decide +kernel
theorem dX4_init_61 : decode cX4_init 61 = .ok (.aload_n 0, 1) := by decide +kernel
theorem dX4_init_62 : decode cX4_init 62 = .ok (.getfield 15, 3) := by decide +kernel
theorem dX4_init_65 : decode cX4_init 65 = .ok (.iconst 0, 1) := by decide +kernel
theorem dX4_init_66 : decode cX4_init 66 = .ok (.bipush 8, 2) := by decide +kernel
theorem dX4_init_68 : decode cX4_init 68 = .ok (.invokestatic 30, 3) := by decide +kernel
theorem dX4_init_71 : decode cX4_init 71 = .ok (.aload_n 0, 1) := by decide +kernel
theorem dX4_init_72 : decode cX4_init 72 = .ok (.getfield 15, 3) := by decide +kernel
theorem dX4_init_75 : decode cX4_init 75 = .ok (.iconst 1, 1) := by decide +kernel
theorem dX4_init_76 : decode cX4_init 76 = .ok (.bipush 15, 2) := by decide +kernel
theorem dX4_init_78 : decode cX4_init 78 = .ok (.invokestatic 30, 3) := by decide +kernel
theorem dX4_init_81 : decode cX4_init 81 = .ok (.iconst 0, 1) := by decide +kernel
theorem dX4_init_82 : decode cX4_init 82 = .ok (.istore_n 1, 1) := by decide +kernel
theorem dX4_init_83 : decode cX4_init 83 = .ok (.iload_n 1, 1) := by decide +kernel
theorem dX4_init_84 : decode cX4_init 84 = .ok (.aload_n 0, 1) := by decide +kernel
theorem dX4_init_85 : decode cX4_init 85 = .ok (.getfield 20, 3) := by decide +kernel
theorem dX4_init_88 : decode cX4_init 88 = .ok (.arraylength, 1) := by decide +kernel
theorem dX4_init_89 : decode cX4_init 89 = .ok (.if_icmp .ge 22, 3) := by decide +kernel
theorem dX4_init_92 : decode cX4_init 92 = .ok (.aload_n 0, 1) := by decide +kernel
theorem dX4_init_93 : decode cX4_init 93 = .ok (.getfield 20, 3) := by decide +kernel
theorem dX4_init_96 : decode cX4_init 96 = .ok (.iload_n 1, 1) := by decide +kernel
theorem dX4_init_97 : decode cX4_init 97 = .ok (.new 18, 3) := by decide +kernel
theorem dX4_init_100 : decode cX4_init 100 = .ok (.dup, 1) := by decide +kernel
theorem dX4_init_101 : decode cX4_init 101 = .ok (.invokespecial 34, 3) := by decide +kernel
theorem dX4_init_104 : decode cX4_init 104 = .ok (.aastore, 1) := by decide +kernel
theorem dX4_init_105 : decode cX4_init 105 = .ok (.iinc 1 1, 3) := by decide +kernel
theorem dX4_init_108 : decode cX4_init 108 = .ok (.goto (-25), 3) := by decide +kernel
theorem dX4_init_111 : decode cX4_init 111 = .ok (.iconst 0, 1) := by decide +kernel
theorem dX4_init_112 : decode cX4_init 112 = .ok (.istore_n 1, 1) := by decide +kernel
theorem dX4_init_113 : decode cX4_init 113 = .ok (.iload_n 1, 1) := by decide +kernel
theorem dX4_init_114 : decode cX4_init 114 = .ok (.aload_n 0, 1) := by decide +kernel
theorem dX4_init_115 : decode cX4_init 115 = .ok (.getfield 26, 3) := by decide +kernel
theorem dX4_init_118 : decode cX4_init 118 = .ok (.arraylength, 1) := by decide +kernel
theorem dX4_init_119 : decode cX4_init 119 = .ok (.if_icmp .ge 22, 3) := by decide +kernel
theorem dX4_init_122 : decode cX4_init 122 = .ok (.aload_n 0, 1) := by decide +kernel
theorem dX4_init_123 : decode cX4_init 123 = .ok (.getfield 26, 3) := by decide +kernel
theorem dX4_init_126 : decode cX4_init 126 = .ok (.iload_n 1, 1) := by decide +kernel
theorem dX4_init_127 : decode cX4_init 127 = .ok (.new 24, 3) := by decide +kernel
theorem dX4_init_130 : decode cX4_init 130 = .ok (.dup, 1) := by decide +kernel
theorem dX4_init_131 : decode cX4_init 131 = .ok (.invokespecial 35, 3) := by decide +kernel
theorem dX4_init_134 : decode cX4_init 134 = .ok (.aastore, 1) := by decide +kernel
theorem dX4_init_135 : decode cX4_init 135 = .ok (.iinc 1 1, 3) := by decide +kernel
theorem dX4_init_138 : decode cX4_init 138 = .ok (.goto (-25), 3) := by decide +kernel
theorem dX4_init_141 : decode cX4_init 141 = .ok (.return_, 1) := by decide +kernel
theorem dX4_copyFrom_0 : decode cX4_copyFrom 0 = .ok (.iconst 0, 1) := by decide +kernel
theorem dX4_copyFrom_1 : decode cX4_copyFrom 1 = .ok (.istore_n 2, 1) := by decide +kernel
theorem dX4_copyFrom_2 : decode cX4_copyFrom 2 = .ok (.iload_n 2, 1) := by decide +kernel
theorem dX4_copyFrom_3 : decode cX4_copyFrom 3 = .ok (.bipush 6, 2) := by decide +kernel
theorem dX4_copyFrom_5 : decode cX4_copyFrom 5 = .ok (.if_icmp .ge 25, 3) := by decide +kernel
theorem dX4_copyFrom_8 : decode cX4_copyFrom 8 = .ok (.aload_n 0, 1) := by decide +kernel
theorem dX4_copyFrom_9 : decode cX4_copyFrom 9 = .ok (.getfield 9, 3) := by decide +kernel
theorem dX4_copyFrom_12 : decode cX4_copyFrom 12 = .ok (.iload_n 2, 1) := by decide +kernel
theorem dX4_copyFrom_13 : decode cX4_copyFrom 13 = .ok (.aload_n 1, 1) := by decide +kernel
theorem dX4_copyFrom_14 : decode cX4_copyFrom 14 = .ok (.getfield 9, 3) := by decide +kernel
theorem dX4_copyFrom_17 : decode cX4_copyFrom 17 = .ok (.iload_n 2, 1) := by decide +kernel
theorem dX4_copyFrom_18 : decode cX4_copyFrom 18 = .ok (.invokestatic 36, 3) := by decide +kernel
theorem dX4_copyFrom_21 : decode cX4_copyFrom 21 = .ok (.invokestatic 30, 3) := by decide +kernel
theorem dX4_copyFrom_24 : decode cX4_copyFrom 24 = .ok (.iinc 2 1, 3) := by decide +kernel
theorem dX4_copyFrom_27 : decode cX4_copyFrom 27 = .ok (.goto (-25), 3) := by decide +kernel
theorem dX4_copyFrom_30 : decode cX4_copyFrom 30 = .ok (.iconst 0, 1) := by decide +kernel
theorem dX4_copyFrom_31 : decode cX4_copyFrom 31 = .ok (.istore_n 2, 1) := by decide +kernel
theorem dX4_copyFrom_32 : decode cX4_copyFrom 32 = .ok (.iload_n 2, 1) := by decide +kernel
theorem dX4_copyFrom_33 : decode cX4_copyFrom 33 = .ok (.iconst 2, 1) := by decide +kernel
theorem dX4_copyFrom_34 : decode cX4_copyFrom 34 = .ok (.if_icmp .ge 25, 3) := by decide +kernel
theorem dX4_copyFrom_37 : decode cX4_copyFrom 37 = .ok (.aload_n 0, 1) := by decide +kernel
theorem dX4_copyFrom_38 : decode cX4_copyFrom 38 = .ok (.getfield 15, 3) := by decide +kernel
theorem dX4_copyFrom_41 : decode cX4_copyFrom 41 = .ok (.iload_n 2, 1) := by decide +kernel
theorem dX4_copyFrom_42 : decode cX4_copyFrom 42 = .ok (.aload_n 1, 1) := by decide +kernel
theorem dX4_copyFrom_43 : decode cX4_copyFrom 43 = .ok (.getfield 15, 3) := by decide +kernel
theorem dX4_copyFrom_46 : decode cX4_copyFrom 46 = .ok (.iload_n 2, 1) := by decide +kernel
theorem dX4_copyFrom_47 : decode cX4_copyFrom 47 = .ok (.invokestatic 36, 3) := by decide +kernel
theorem dX4_copyFrom_50 : decode cX4_copyFrom 50 = .ok (.invokestatic 30, 3) := by decide +kernel
theorem dX4_copyFrom_53 : decode cX4_copyFrom 53 = .ok (.iinc 2 1, 3) := by decide +kernel
theorem dX4_copyFrom_56 : decode cX4_copyFrom 56 = .ok (.goto (-24), 3) := by decide +kernel
theorem dX4_copyFrom_59 : decode cX4_copyFrom 59 = .ok (.aload_n 0, 1) := by decide +kernel
theorem dX4_copyFrom_60 : decode cX4_copyFrom 60 = .ok (.aload_n 1, 1) := by decide +kernel
theorem dX4_copyFrom_61 : decode cX4_copyFrom 61 = .ok (.getfield 40, 3) := by decide +kernel
theorem dX4_copyFrom_64 : decode cX4_copyFrom 64 = .ok (.putfield 40, 3) := by decide +kernel
theorem dX4_copyFrom_67 : decode cX4_copyFrom 67 = .ok (.aload_n 0, 1) := by decide +kernel
theorem dX4_copyFrom_68 : decode cX4_copyFrom 68 = .ok (.aload_n 1, 1) := by decide +kernel
theorem dX4_copyFrom_69 : decode cX4_copyFrom 69 = .ok (.getfield 44, 3) := by decide +kernel
theorem dX4_copyFrom_72 : decode cX4_copyFrom 72 = .ok (.putfield 44, 3) := by decide +kernel
theorem dX4_copyFrom_75 : decode cX4_copyFrom 75 = .ok (.iconst 0, 1) := by decide +kernel
theorem dX4_copyFrom_76 : decode cX4_copyFrom 76 = .ok (.istore_n 2, 1) := by decide +kernel
theorem dX4_copyFrom_77 : decode cX4_copyFrom 77 = .ok (.iload_n 2, 1) := by decide +kernel
theorem dX4_copyFrom_78 : decode cX4_copyFrom 78 = .ok (.aload_n 0, 1) := by decide +kernel
theorem dX4_copyFrom_79 : decode cX4_copyFrom 79 = .ok (.getfield 40, 3) := by decide +kernel
theorem dX4_copyFrom_82 : decode cX4_copyFrom 82 = .ok (.if_icmp .ge 19, 3) := by decide +kernel
theorem dX4_copyFrom_85 : decode cX4_copyFrom 85 = .ok (.aload_n 0, 1) := by decide +kernel
theorem dX4_copyFrom_86 : decode cX4_copyFrom 86 = .ok (.aload_n 1, 1) := by decide +kernel
theorem dX4_copyFrom_87 : decode cX4_copyFrom 87 = .ok (.iload_n 2, 1) := by decide +kernel
theorem dX4_copyFrom_88 : decode cX4_copyFrom 88 = .ok (.invokevirtual 47, 3) := by decide +kernel
theorem dX4_copyFrom_91 : decode cX4_copyFrom 91 = .ok (.iload_n 2, 1) := by decide +kernel
theorem dX4_copyFrom_92 : decode cX4_copyFrom 92 = .ok (.invokevirtual 51, 3) := by decide +kernel
theorem dX4_copyFrom_95 : decode cX4_copyFrom 95 = .ok (.iinc 2 1, 3) := by decide +kernel
theorem dX4_copyFrom_98 : decode cX4_copyFrom 98 = .ok (.goto (-21), 3) := by decide +kernel
theorem dX4_copyFrom_101 : decode cX4_copyFrom 101 = .ok (.iconst 0, 1) := by decide +kernel
theorem dX4_copyFrom_102 : decode cX4_copyFrom 102 = .ok (.istore_n 2, 1) := by decide +kernel
theorem dX4_copyFrom_103 : decode cX4_copyFrom 103 = .ok (.iload_n 2, 1) := by decide +kernel
theorem dX4_copyFrom_104 : decode cX4_copyFrom 104 = .ok (.aload_n 0, 1) := by decide +kernel
theorem dX4_copyFrom_105 : decode cX4_copyFrom 105 = .ok (.getfield 44, 3) := by decide +kernel
theorem dX4_copyFrom_108 : decode cX4_copyFrom 108 = .ok (.if_icmp .ge 37, 3) := by decide +kernel
theorem dX4_copyFrom_111 : decode cX4_copyFrom 111 = .ok (.aload_n 1, 1) := by decide +kernel
theorem dX4_copyFrom_112 : decode cX4_copyFrom 112 = .ok (.iload_n 2, 1) := by decide +kernel
theorem dX4_copyFrom_113 : decode cX4_copyFrom 113 = .ok (.invokevirtual 55, 3) := by decide +kernel
theorem dX4_copyFrom_116 : decode cX4_copyFrom 116 = .ok (.astore_n 3, 1) := by decide +kernel
theorem dX4_copyFrom_117 : decode cX4_copyFrom 117 = .ok (.aload_n 0, 1) := by decide +kernel
theorem dX4_copyFrom_118 : decode cX4_copyFrom 118 = .ok (.iload_n 2, 1) := by decide +kernel
theorem dX4_copyFrom_119 : decode cX4_copyFrom 119 = .ok (.invokevirtual 55, 3) := by decide +kernel
theorem dX4_copyFrom_122 : decode cX4_copyFrom 122 = .ok (.astore 4, 2) := by decide +kernel
theorem dX4_copyFrom_124 : decode cX4_copyFrom 124 = .ok (.aload_n 3, 1) := by decide +kernel
theorem dX4_copyFrom_125 : decode cX4_copyFrom 125 = .ok (.ifnull 14, 3) := by decide +kernel
theorem dX4_copyFrom_128 : decode cX4_copyFrom 128 = .ok (.aload 4, 2) := by decide +kernel
theorem dX4_copyFrom_130 : decode cX4_copyFrom 130 = .ok (.ifnull 9, 3) := by decide +kernel
theorem dX4_copyFrom_133 : decode cX4_copyFrom 133 = .ok (.aload 4, 2) := by decide +kernel
theorem dX4_copyFrom_135 : decode cX4_copyFrom 135 = .ok (.aload_n 3, 1) := by decide +kernel
theorem dX4_copyFrom_136 : decode cX4_copyFrom 136 = .ok (.invokevirtual 59, 3) := by decide +kernel
theorem dX4_copyFrom_139 : decode cX4_copyFrom 139 = .ok (.iinc 2 1, 3) := by decide +kernel
theorem dX4_copyFrom_142 : decode cX4_copyFrom 142 = .ok (.goto (-39), 3) := by decide +kernel
theorem dX4_copyFrom_145 : decode cX4_copyFrom 145 = .ok (.aload_n 0, 1) := by decide +kernel
theorem dX4_copyFrom_146 : decode cX4_copyFrom 146 = .ok (.aload_n 1, 1) := by decide +kernel
theorem dX4_copyFrom_147 : decode cX4_copyFrom 147 = .ok (.getfield 63, 3) := by decide +kernel
theorem dX4_copyFrom_150 : decode cX4_copyFrom 150 = .ok (.putfield 63, 3) := by decide +kernel
theorem dX4_copyFrom_153 : decode cX4_copyFrom 153 = .ok (.aload_n 0, 1) := by decide +kernel
theorem dX4_copyFrom_154 : decode cX4_copyFrom 154 = .ok (.aload_n 1, 1) := by decide +kernel
theorem dX4_copyFrom_155 : decode cX4_copyFrom 155 = .ok (.getfield 66, 3) := by decide +kernel
theorem dX4_copyFrom_158 : decode cX4_copyFrom 158 = .ok (.putfield 66, 3) := by decide +kernel
theorem dX4_copyFrom_161 : decode cX4_copyFrom 161 = .ok (.aload_n 0, 1) := by decide +kernel
theorem dX4_copyFrom_162 : decode cX4_copyFrom 162 = .ok (.aload_n 1, 1) := by decide +kernel
theorem dX4_copyFrom_163 : decode cX4_copyFrom 163 = .ok (.getfield 69, 3) := by decide +kernel
theorem dX4_copyFrom_166 : decode cX4_copyFrom 166 = .ok (.putfield 69, 3) := by decide +kernel
theorem dX4_copyFrom_169 : decode cX4_copyFrom 169 = .ok (.return_, 1) := by decide +kernel
theorem dX4_copyEdition_0 : decode cX4_copyEdition 0 = .ok (.aload_n 0, 1) := by decide +kernel
theorem dX4_copyEdition_1 : decode cX4_copyEdition 1 = .ok (.iload_n 2, 1) := by decide +kernel
theorem dX4_copyEdition_2 : decode cX4_copyEdition 2 = .ok (.invokevirtual 47, 3) := by decide +kernel
theorem dX4_copyEdition_5 : decode cX4_copyEdition 5 = .ok (.astore_n 3, 1) := by decide +kernel
theorem dX4_copyEdition_6 : decode cX4_copyEdition 6 = .ok (.aload_n 1, 1) := by decide +kernel
theorem dX4_copyEdition_7 : decode cX4_copyEdition 7 = .ok (.ifnull 12, 3) := by decide +kernel
theorem dX4_copyEdition_10 : decode cX4_copyEdition 10 = .ok (.aload_n 3, 1) := by decide +kernel
theorem dX4_copyEdition_11 : decode cX4_copyEdition 11 = .ok (.ifnull 8, 3) := by decide +kernel
theorem dX4_copyEdition_14 : decode cX4_copyEdition 14 = .ok (.aload_n 3, 1) := by decide +kernel
theorem dX4_copyEdition_15 : decode cX4_copyEdition 15 = .ok (.aload_n 1, 1) := by decide +kernel
theorem dX4_copyEdition_16 : decode cX4_copyEdition 16 = .ok (.invokevirtual 72, 3) := by decide +kernel
theorem dX4_copyEdition_19 : decode cX4_copyEdition 19 = .ok (.return_, 1) := by decide +kernel
theorem dX4_editionAt_0 : decode cX4_editionAt 0 = .ok (.iload_n 1, 1) := by decide +kernel
theorem dX4_editionAt_1 : decode cX4_editionAt 1 = .ok (.ifCond .lt 29, 3) := by decide +kernel
theorem dX4_editionAt_4 : decode cX4_editionAt 4 = .ok (.iload_n 1, 1) := by decide +kernel
theorem dX4_editionAt_5 : decode cX4_editionAt 5 = .ok (.aload_n 0, 1) := by decide +kernel
theorem dX4_editionAt_6 : decode cX4_editionAt 6 = .ok (.getfield 40, 3) := by decide +kernel
theorem dX4_editionAt_9 : decode cX4_editionAt 9 = .ok (.if_icmp .ge 21, 3) := by decide +kernel
theorem dX4_editionAt_12 : decode cX4_editionAt 12 = .ok (.iload_n 1, 1) := by decide +kernel
theorem dX4_editionAt_13 : decode cX4_editionAt 13 = .ok (.aload_n 0, 1) := by decide +kernel
theorem dX4_editionAt_14 : decode cX4_editionAt 14 = .ok (.getfield 20, 3) := by decide +kernel
theorem dX4_editionAt_17 : decode cX4_editionAt 17 = .ok (.arraylength, 1) := by decide +kernel
theorem dX4_editionAt_18 : decode cX4_editionAt 18 = .ok (.if_icmp .ge 12, 3) := by decide +kernel
theorem dX4_editionAt_21 : decode cX4_editionAt 21 = .ok (.aload_n 0, 1) := by decide +kernel
theorem dX4_editionAt_22 : decode cX4_editionAt 22 = .ok (.getfield 20, 3) := by decide +kernel
theorem dX4_editionAt_25 : decode cX4_editionAt 25 = .ok (.iload_n 1, 1) := by decide +kernel
theorem dX4_editionAt_26 : decode cX4_editionAt 26 = .ok (.aaload, 1) := by decide +kernel
theorem dX4_editionAt_27 : decode cX4_editionAt 27 = .ok (.goto 4, 3) := by decide +kernel
theorem dX4_editionAt_30 : decode cX4_editionAt 30 = .ok (.aconst_null, 1) := by decide +kernel
theorem dX4_editionAt_31 : decode cX4_editionAt 31 = .ok (.areturn, 1) := by decide +kernel
theorem dX4_rulingAt_0 : decode cX4_rulingAt 0 = .ok (.iload_n 1, 1) := by decide +kernel
theorem dX4_rulingAt_1 : decode cX4_rulingAt 1 = .ok (.ifCond .lt 29, 3) := by decide +kernel
theorem dX4_rulingAt_4 : decode cX4_rulingAt 4 = .ok (.iload_n 1, 1) := by decide +kernel
theorem dX4_rulingAt_5 : decode cX4_rulingAt 5 = .ok (.aload_n 0, 1) := by decide +kernel
theorem dX4_rulingAt_6 : decode cX4_rulingAt 6 = .ok (.getfield 44, 3) := by decide +kernel
theorem dX4_rulingAt_9 : decode cX4_rulingAt 9 = .ok (.if_icmp .ge 21, 3) := by decide +kernel
theorem dX4_rulingAt_12 : decode cX4_rulingAt 12 = .ok (.iload_n 1, 1) := by decide +kernel
theorem dX4_rulingAt_13 : decode cX4_rulingAt 13 = .ok (.aload_n 0, 1) := by decide +kernel
theorem dX4_rulingAt_14 : decode cX4_rulingAt 14 = .ok (.getfield 26, 3) := by decide +kernel
theorem dX4_rulingAt_17 : decode cX4_rulingAt 17 = .ok (.arraylength, 1) := by decide +kernel
theorem dX4_rulingAt_18 : decode cX4_rulingAt 18 = .ok (.if_icmp .ge 12, 3) := by decide +kernel
theorem dX4_rulingAt_21 : decode cX4_rulingAt 21 = .ok (.aload_n 0, 1) := by decide +kernel
theorem dX4_rulingAt_22 : decode cX4_rulingAt 22 = .ok (.getfield 26, 3) := by decide +kernel
theorem dX4_rulingAt_25 : decode cX4_rulingAt 25 = .ok (.iload_n 1, 1) := by decide +kernel
theorem dX4_rulingAt_26 : decode cX4_rulingAt 26 = .ok (.aaload, 1) := by decide +kernel
theorem dX4_rulingAt_27 : decode cX4_rulingAt 27 = .ok (.goto 4, 3) := by decide +kernel
theorem dX4_rulingAt_30 : decode cX4_rulingAt 30 = .ok (.aconst_null, 1) := by decide +kernel
theorem dX4_rulingAt_31 : decode cX4_rulingAt 31 = .ok (.areturn, 1) := by decide +kernel
theorem dX4_addEdition_0 : decode cX4_addEdition 0 = .ok (.aload_n 0, 1) := by decide +kernel
theorem dX4_addEdition_1 : decode cX4_addEdition 1 = .ok (.dup, 1) := by decide +kernel
theorem dX4_addEdition_2 : decode cX4_addEdition 2 = .ok (.getfield 40, 3) := by decide +kernel
theorem dX4_addEdition_5 : decode cX4_addEdition 5 = .ok (.iconst 1, 1) := by decide +kernel
theorem dX4_addEdition_6 : decode cX4_addEdition 6 = .ok (.iadd, 1) := by decide +kernel
theorem dX4_addEdition_7 : decode cX4_addEdition 7 = .ok (.putfield 40, 3) := by decide +kernel
theorem dX4_addEdition_10 : decode cX4_addEdition 10 = .ok (.aload_n 0, 1) := by decide +kernel
theorem dX4_addEdition_11 : decode cX4_addEdition 11 = .ok (.aload_n 1, 1) := by decide +kernel
theorem dX4_addEdition_12 : decode cX4_addEdition 12 = .ok (.aload_n 0, 1) := by decide +kernel
theorem dX4_addEdition_13 : decode cX4_addEdition 13 = .ok (.getfield 40, 3) := by decide +kernel
theorem dX4_addEdition_16 : decode cX4_addEdition 16 = .ok (.iconst 1, 1) := by decide +kernel
theorem dX4_addEdition_17 : decode cX4_addEdition 17 = .ok (.isub, 1) := by decide +kernel
theorem dX4_addEdition_18 : decode cX4_addEdition 18 = .ok (.invokevirtual 51, 3) := by decide +kernel
theorem dX4_addEdition_21 : decode cX4_addEdition 21 = .ok (.return_, 1) := by decide +kernel
theorem dX4_removeEdition_0 : decode cX4_removeEdition 0 = .ok (.iload_n 1, 1) := by decide +kernel
theorem dX4_removeEdition_1 : decode cX4_removeEdition 1 = .ok (.iconst 1, 1) := by decide +kernel
theorem dX4_removeEdition_2 : decode cX4_removeEdition 2 = .ok (.iadd, 1) := by decide +kernel
theorem dX4_removeEdition_3 : decode cX4_removeEdition 3 = .ok (.istore_n 2, 1) := by decide +kernel
theorem dX4_removeEdition_4 : decode cX4_removeEdition 4 = .ok (.iload_n 2, 1) := by decide +kernel
theorem dX4_removeEdition_5 : decode cX4_removeEdition 5 = .ok (.aload_n 0, 1) := by decide +kernel
theorem dX4_removeEdition_6 : decode cX4_removeEdition 6 = .ok (.getfield 40, 3) := by decide +kernel
theorem dX4_removeEdition_9 : decode cX4_removeEdition 9 = .ok (.if_icmp .ge 21, 3) := by decide +kernel
theorem dX4_removeEdition_12 : decode cX4_removeEdition 12 = .ok (.aload_n 0, 1) := by decide +kernel
theorem dX4_removeEdition_13 : decode cX4_removeEdition 13 = .ok (.aload_n 0, 1) := by decide +kernel
theorem dX4_removeEdition_14 : decode cX4_removeEdition 14 = .ok (.iload_n 2, 1) := by decide +kernel
theorem dX4_removeEdition_15 : decode cX4_removeEdition 15 = .ok (.invokevirtual 47, 3) := by decide +kernel
theorem dX4_removeEdition_18 : decode cX4_removeEdition 18 = .ok (.iload_n 2, 1) := by decide +kernel
theorem dX4_removeEdition_19 : decode cX4_removeEdition 19 = .ok (.iconst 1, 1) := by decide +kernel
theorem dX4_removeEdition_20 : decode cX4_removeEdition 20 = .ok (.isub, 1) := by decide +kernel
theorem dX4_removeEdition_21 : decode cX4_removeEdition 21 = .ok (.invokevirtual 51, 3) := by decide +kernel
theorem dX4_removeEdition_24 : decode cX4_removeEdition 24 = .ok (.iinc 2 1, 3) := by decide +kernel
theorem dX4_removeEdition_27 : decode cX4_removeEdition 27 = .ok (.goto (-23), 3) := by decide +kernel
theorem dX4_removeEdition_30 : decode cX4_removeEdition 30 = .ok (.aload_n 0, 1) := by decide +kernel
theorem dX4_removeEdition_31 : decode cX4_removeEdition 31 = .ok (.dup, 1) := by decide +kernel
theorem dX4_removeEdition_32 : decode cX4_removeEdition 32 = .ok (.getfield 40, 3) := by decide +kernel
theorem dX4_removeEdition_35 : decode cX4_removeEdition 35 = .ok (.iconst 1, 1) := by decide +kernel
theorem dX4_removeEdition_36 : decode cX4_removeEdition 36 = .ok (.isub, 1) := by decide +kernel
theorem dX4_removeEdition_37 : decode cX4_removeEdition 37 = .ok (.putfield 40, 3) := by decide +kernel
theorem dX4_removeEdition_40 : decode cX4_removeEdition 40 = .ok (.return_, 1) := by decide +kernel
theorem dX4_hasEditionLike_0 : decode cX4_hasEditionLike 0 = .ok (.iconst 0, 1) := by decide +kernel
theorem dX4_hasEditionLike_1 : decode cX4_hasEditionLike 1 = .ok (.istore_n 3, 1) := by decide +kernel
theorem dX4_hasEditionLike_2 : decode cX4_hasEditionLike 2 = .ok (.iload_n 3, 1) := by decide +kernel
theorem dX4_hasEditionLike_3 : decode cX4_hasEditionLike 3 = .ok (.aload_n 0, 1) := by decide +kernel
theorem dX4_hasEditionLike_4 : decode cX4_hasEditionLike 4 = .ok (.getfield 40, 3) := by decide +kernel
theorem dX4_hasEditionLike_7 : decode cX4_hasEditionLike 7 = .ok (.if_icmp .ge 41, 3) := by decide +kernel
theorem dX4_hasEditionLike_10 : decode cX4_hasEditionLike 10 = .ok (.aload_n 0, 1) := by decide +kernel
theorem dX4_hasEditionLike_11 : decode cX4_hasEditionLike 11 = .ok (.iload_n 3, 1) := by decide +kernel
end
section
theorem dX4_hasEditionLike_12 : decode cX4_hasEditionLike 12 = .ok (.invokevirtual 47, 3) := by decide +kernel
theorem dX4_hasEditionLike_15 : decode cX4_hasEditionLike 15 = .ok (.astore 4, 2) := by decide +kernel
theorem dX4_hasEditionLike_17 : decode cX4_hasEditionLike 17 = .ok (.aload 4, 2) := by decide +kernel
theorem dX4_hasEditionLike_19 : decode cX4_hasEditionLike 19 = .ok (.ifnull 23, 3) := by decide +kernel
theorem dX4_hasEditionLike_22 : decode cX4_hasEditionLike 22 = .ok (.aload 4, 2) := by decide +kernel
theorem dX4_hasEditionLike_24 : decode cX4_hasEditionLike 24 = .ok (.getfield 75, 3) := by decide +kernel
theorem dX4_hasEditionLike_27 : decode cX4_hasEditionLike 27 = .ok (.iload_n 2, 1) := by decide +kernel
theorem dX4_hasEditionLike_28 : decode cX4_hasEditionLike 28 = .ok (.if_icmp .ne 14, 3) := by decide +kernel
theorem dX4_hasEditionLike_31 : decode cX4_hasEditionLike 31 = .ok (.aload 4, 2) := by decide +kernel
theorem dX4_hasEditionLike_33 : decode cX4_hasEditionLike 33 = .ok (.aload_n 1, 1) := by decide +kernel
theorem dX4_hasEditionLike_34 : decode cX4_hasEditionLike 34 = .ok (.invokevirtual 78, 3) := by decide +kernel
theorem dX4_hasEditionLike_37 : decode cX4_hasEditionLike 37 = .ok (.ifCond .eq 5, 3) := by decide +kernel
theorem dX4_hasEditionLike_40 : decode cX4_hasEditionLike 40 = .ok (.iconst 1, 1) := by decide +kernel
theorem dX4_hasEditionLike_41 : decode cX4_hasEditionLike 41 = .ok (.ireturn, 1) := by decide +kernel
theorem dX4_hasEditionLike_42 : decode cX4_hasEditionLike 42 = .ok (.iinc 3 1, 3) := by decide +kernel
theorem dX4_hasEditionLike_45 : decode cX4_hasEditionLike 45 = .ok (.goto (-43), 3) := by decide +kernel
theorem dX4_hasEditionLike_48 : decode cX4_hasEditionLike 48 = .ok (.iconst 0, 1) := by decide +kernel
theorem dX4_hasEditionLike_49 : decode cX4_hasEditionLike 49 = .ok (.ireturn, 1) := by decide +kernel
theorem dX4_isStayed_0 : decode cX4_isStayed 0 = .ok (.aload_n 0, 1) := by decide +kernel
theorem dX4_isStayed_1 : decode cX4_isStayed 1 = .ok (.getfield 63, 3) := by decide +kernel
theorem dX4_isStayed_4 : decode cX4_isStayed 4 = .ok (.aload_n 1, 1) := by decide +kernel
theorem dX4_isStayed_5 : decode cX4_isStayed 5 = .ok (.getfield 82, 3) := by decide +kernel
theorem dX4_isStayed_8 : decode cX4_isStayed 8 = .ok (.if_icmp .ge 7, 3) := by decide +kernel
theorem dX4_isStayed_11 : decode cX4_isStayed 11 = .ok (.iconst 1, 1) := by decide +kernel
theorem dX4_isStayed_12 : decode cX4_isStayed 12 = .ok (.goto 4, 3) := by decide +kernel
theorem dX4_isStayed_15 : decode cX4_isStayed 15 = .ok (.iconst 0, 1) := by decide +kernel
theorem dX4_isStayed_16 : decode cX4_isStayed 16 = .ok (.ireturn, 1) := by decide +kernel
theorem dX4_stayedEditions_0 : decode cX4_stayedEditions 0 = .ok (.iconst 0, 1) := by decide +kernel
theorem dX4_stayedEditions_1 : decode cX4_stayedEditions 1 = .ok (.istore_n 1, 1) := by decide +kernel
theorem dX4_stayedEditions_2 : decode cX4_stayedEditions 2 = .ok (.iconst 0, 1) := by decide +kernel
theorem dX4_stayedEditions_3 : decode cX4_stayedEditions 3 = .ok (.istore_n 2, 1) := by decide +kernel
theorem dX4_stayedEditions_4 : decode cX4_stayedEditions 4 = .ok (.iload_n 2, 1) := by decide +kernel
theorem dX4_stayedEditions_5 : decode cX4_stayedEditions 5 = .ok (.aload_n 0, 1) := by decide +kernel
theorem dX4_stayedEditions_6 : decode cX4_stayedEditions 6 = .ok (.getfield 40, 3) := by decide +kernel
theorem dX4_stayedEditions_9 : decode cX4_stayedEditions 9 = .ok (.if_icmp .ge 30, 3) := by decide +kernel
theorem dX4_stayedEditions_12 : decode cX4_stayedEditions 12 = .ok (.aload_n 0, 1) := by decide +kernel
theorem dX4_stayedEditions_13 : decode cX4_stayedEditions 13 = .ok (.iload_n 2, 1) := by decide +kernel
theorem dX4_stayedEditions_14 : decode cX4_stayedEditions 14 = .ok (.invokevirtual 47, 3) := by decide +kernel
theorem dX4_stayedEditions_17 : decode cX4_stayedEditions 17 = .ok (.astore_n 3, 1) := by decide +kernel
theorem dX4_stayedEditions_18 : decode cX4_stayedEditions 18 = .ok (.aload_n 3, 1) := by decide +kernel
theorem dX4_stayedEditions_19 : decode cX4_stayedEditions 19 = .ok (.ifnull 14, 3) := by decide +kernel
theorem dX4_stayedEditions_22 : decode cX4_stayedEditions 22 = .ok (.aload_n 0, 1) := by decide +kernel
theorem dX4_stayedEditions_23 : decode cX4_stayedEditions 23 = .ok (.aload_n 3, 1) := by decide +kernel
theorem dX4_stayedEditions_24 : decode cX4_stayedEditions 24 = .ok (.invokevirtual 85, 3) := by decide +kernel
theorem dX4_stayedEditions_27 : decode cX4_stayedEditions 27 = .ok (.ifCond .eq 6, 3) := by decide +kernel
theorem dX4_stayedEditions_30 : decode cX4_stayedEditions 30 = .ok (.iinc 1 1, 3) := by decide +kernel
theorem dX4_stayedEditions_33 : decode cX4_stayedEditions 33 = .ok (.iinc 2 1, 3) := by decide +kernel
theorem dX4_stayedEditions_36 : decode cX4_stayedEditions 36 = .ok (.goto (-32), 3) := by decide +kernel
theorem dX4_stayedEditions_39 : decode cX4_stayedEditions 39 = .ok (.iload_n 1, 1) := by decide +kernel
theorem dX4_stayedEditions_40 : decode cX4_stayedEditions 40 = .ok (.ireturn, 1) := by decide +kernel
theorem dX4_commasOfAll_0 : decode cX4_commasOfAll 0 = .ok (.iconst 0, 1) := by decide +kernel
theorem dX4_commasOfAll_1 : decode cX4_commasOfAll 1 = .ok (.istore_n 1, 1) := by decide +kernel
theorem dX4_commasOfAll_2 : decode cX4_commasOfAll 2 = .ok (.iconst 0, 1) := by decide +kernel
theorem dX4_commasOfAll_3 : decode cX4_commasOfAll 3 = .ok (.istore_n 2, 1) := by decide +kernel
theorem dX4_commasOfAll_4 : decode cX4_commasOfAll 4 = .ok (.iload_n 2, 1) := by decide +kernel
theorem dX4_commasOfAll_5 : decode cX4_commasOfAll 5 = .ok (.aload_n 0, 1) := by decide +kernel
theorem dX4_commasOfAll_6 : decode cX4_commasOfAll 6 = .ok (.getfield 40, 3) := by decide +kernel
theorem dX4_commasOfAll_9 : decode cX4_commasOfAll 9 = .ok (.if_icmp .ge 33, 3) := by decide +kernel
theorem dX4_commasOfAll_12 : decode cX4_commasOfAll 12 = .ok (.aload_n 0, 1) := by decide +kernel
theorem dX4_commasOfAll_13 : decode cX4_commasOfAll 13 = .ok (.iload_n 2, 1) := by decide +kernel
theorem dX4_commasOfAll_14 : decode cX4_commasOfAll 14 = .ok (.invokevirtual 47, 3) := by decide +kernel
theorem dX4_commasOfAll_17 : decode cX4_commasOfAll 17 = .ok (.astore_n 3, 1) := by decide +kernel
theorem dX4_commasOfAll_18 : decode cX4_commasOfAll 18 = .ok (.iload_n 1, 1) := by decide +kernel
theorem dX4_commasOfAll_19 : decode cX4_commasOfAll 19 = .ok (.aload_n 3, 1) := by decide +kernel
theorem dX4_commasOfAll_20 : decode cX4_commasOfAll 20 = .ok (.ifnonnull 7, 3) := by decide +kernel
theorem dX4_commasOfAll_23 : decode cX4_commasOfAll 23 = .ok (.iconst 0, 1) := by decide +kernel
theorem dX4_commasOfAll_24 : decode cX4_commasOfAll 24 = .ok (.goto 10, 3) := by decide +kernel
theorem dX4_commasOfAll_27 : decode cX4_commasOfAll 27 = .ok (.aload_n 3, 1) := by decide +kernel
theorem dX4_commasOfAll_28 : decode cX4_commasOfAll 28 = .ok (.getfield 75, 3) := by decide +kernel
theorem dX4_commasOfAll_31 : decode cX4_commasOfAll 31 = .ok (.invokestatic 88, 3) := by decide +kernel
theorem dX4_commasOfAll_34 : decode cX4_commasOfAll 34 = .ok (.iadd, 1) := by decide +kernel
theorem dX4_commasOfAll_35 : decode cX4_commasOfAll 35 = .ok (.istore_n 1, 1) := by decide +kernel
theorem dX4_commasOfAll_36 : decode cX4_commasOfAll 36 = .ok (.iinc 2 1, 3) := by decide +kernel
theorem dX4_commasOfAll_39 : decode cX4_commasOfAll 39 = .ok (.goto (-35), 3) := by decide +kernel
theorem dX4_commasOfAll_42 : decode cX4_commasOfAll 42 = .ok (.iload_n 1, 1) := by decide +kernel
theorem dX4_commasOfAll_43 : decode cX4_commasOfAll 43 = .ok (.ireturn, 1) := by decide +kernel
theorem dX4_wordsOfAll_0 : decode cX4_wordsOfAll 0 = .ok (.iconst 0, 1) := by decide +kernel
theorem dX4_wordsOfAll_1 : decode cX4_wordsOfAll 1 = .ok (.istore_n 1, 1) := by decide +kernel
theorem dX4_wordsOfAll_2 : decode cX4_wordsOfAll 2 = .ok (.iconst 0, 1) := by decide +kernel
theorem dX4_wordsOfAll_3 : decode cX4_wordsOfAll 3 = .ok (.istore_n 2, 1) := by decide +kernel
theorem dX4_wordsOfAll_4 : decode cX4_wordsOfAll 4 = .ok (.iload_n 2, 1) := by decide +kernel
theorem dX4_wordsOfAll_5 : decode cX4_wordsOfAll 5 = .ok (.aload_n 0, 1) := by decide +kernel
theorem dX4_wordsOfAll_6 : decode cX4_wordsOfAll 6 = .ok (.getfield 40, 3) := by decide +kernel
theorem dX4_wordsOfAll_9 : decode cX4_wordsOfAll 9 = .ok (.if_icmp .ge 30, 3) := by decide +kernel
theorem dX4_wordsOfAll_12 : decode cX4_wordsOfAll 12 = .ok (.aload_n 0, 1) := by decide +kernel
theorem dX4_wordsOfAll_13 : decode cX4_wordsOfAll 13 = .ok (.iload_n 2, 1) := by decide +kernel
theorem dX4_wordsOfAll_14 : decode cX4_wordsOfAll 14 = .ok (.invokevirtual 47, 3) := by decide +kernel
theorem dX4_wordsOfAll_17 : decode cX4_wordsOfAll 17 = .ok (.astore_n 3, 1) := by decide +kernel
theorem dX4_wordsOfAll_18 : decode cX4_wordsOfAll 18 = .ok (.iload_n 1, 1) := by decide +kernel
theorem dX4_wordsOfAll_19 : decode cX4_wordsOfAll 19 = .ok (.aload_n 3, 1) := by decide +kernel
theorem dX4_wordsOfAll_20 : decode cX4_wordsOfAll 20 = .ok (.ifnonnull 7, 3) := by decide +kernel
theorem dX4_wordsOfAll_23 : decode cX4_wordsOfAll 23 = .ok (.iconst 0, 1) := by decide +kernel
theorem dX4_wordsOfAll_24 : decode cX4_wordsOfAll 24 = .ok (.goto 7, 3) := by decide +kernel
theorem dX4_wordsOfAll_27 : decode cX4_wordsOfAll 27 = .ok (.aload_n 3, 1) := by decide +kernel
theorem dX4_wordsOfAll_28 : decode cX4_wordsOfAll 28 = .ok (.getfield 94, 3) := by decide +kernel
theorem dX4_wordsOfAll_31 : decode cX4_wordsOfAll 31 = .ok (.iadd, 1) := by decide +kernel
theorem dX4_wordsOfAll_32 : decode cX4_wordsOfAll 32 = .ok (.istore_n 1, 1) := by decide +kernel
theorem dX4_wordsOfAll_33 : decode cX4_wordsOfAll 33 = .ok (.iinc 2 1, 3) := by decide +kernel
theorem dX4_wordsOfAll_36 : decode cX4_wordsOfAll 36 = .ok (.goto (-32), 3) := by decide +kernel
theorem dX4_wordsOfAll_39 : decode cX4_wordsOfAll 39 = .ok (.iload_n 1, 1) := by decide +kernel
theorem dX4_wordsOfAll_40 : decode cX4_wordsOfAll 40 = .ok (.ireturn, 1) := by decide +kernel
theorem dX4_addRuling_0 : decode cX4_addRuling 0 = .ok (.aload_n 0, 1) := by decide +kernel
theorem dX4_addRuling_1 : decode cX4_addRuling 1 = .ok (.dup, 1) := by decide +kernel
theorem dX4_addRuling_2 : decode cX4_addRuling 2 = .ok (.getfield 44, 3) := by decide +kernel
theorem dX4_addRuling_5 : decode cX4_addRuling 5 = .ok (.iconst 1, 1) := by decide +kernel
theorem dX4_addRuling_6 : decode cX4_addRuling 6 = .ok (.iadd, 1) := by decide +kernel
theorem dX4_addRuling_7 : decode cX4_addRuling 7 = .ok (.putfield 44, 3) := by decide +kernel
theorem dX4_addRuling_10 : decode cX4_addRuling 10 = .ok (.aload_n 0, 1) := by decide +kernel
theorem dX4_addRuling_11 : decode cX4_addRuling 11 = .ok (.aload_n 0, 1) := by decide +kernel
theorem dX4_addRuling_12 : decode cX4_addRuling 12 = .ok (.getfield 44, 3) := by decide +kernel
theorem dX4_addRuling_15 : decode cX4_addRuling 15 = .ok (.iconst 1, 1) := by decide +kernel
theorem dX4_addRuling_16 : decode cX4_addRuling 16 = .ok (.isub, 1) := by decide +kernel
theorem dX4_addRuling_17 : decode cX4_addRuling 17 = .ok (.invokevirtual 55, 3) := by decide +kernel
theorem dX4_addRuling_20 : decode cX4_addRuling 20 = .ok (.astore 6, 2) := by decide +kernel
theorem dX4_addRuling_22 : decode cX4_addRuling 22 = .ok (.aload 6, 2) := by decide +kernel
theorem dX4_addRuling_24 : decode cX4_addRuling 24 = .ok (.ifnull 41, 3) := by decide +kernel
theorem dX4_addRuling_27 : decode cX4_addRuling 27 = .ok (.aload 6, 2) := by decide +kernel
theorem dX4_addRuling_29 : decode cX4_addRuling 29 = .ok (.iload_n 1, 1) := by decide +kernel
theorem dX4_addRuling_30 : decode cX4_addRuling 30 = .ok (.putfield 97, 3) := by decide +kernel
theorem dX4_addRuling_33 : decode cX4_addRuling 33 = .ok (.aload 6, 2) := by decide +kernel
theorem dX4_addRuling_35 : decode cX4_addRuling 35 = .ok (.iload_n 2, 1) := by decide +kernel
theorem dX4_addRuling_36 : decode cX4_addRuling 36 = .ok (.putfield 100, 3) := by decide +kernel
theorem dX4_addRuling_39 : decode cX4_addRuling 39 = .ok (.aload 6, 2) := by decide +kernel
theorem dX4_addRuling_41 : decode cX4_addRuling 41 = .ok (.iload_n 3, 1) := by decide +kernel
theorem dX4_addRuling_42 : decode cX4_addRuling 42 = .ok (.putfield 103, 3) := by decide +kernel
theorem dX4_addRuling_45 : decode cX4_addRuling 45 = .ok (.aload 6, 2) := by decide +kernel
theorem dX4_addRuling_47 : decode cX4_addRuling 47 = .ok (.iload 4, 2) := by decide +kernel
theorem dX4_addRuling_49 : decode cX4_addRuling 49 = .ok (.putfield 107, 3) := by decide +kernel
theorem dX4_addRuling_52 : decode cX4_addRuling 52 = .ok (.aload 6, 2) := by decide +kernel
theorem dX4_addRuling_54 : decode cX4_addRuling 54 = .ok (.iload 5, 2) := by decide +kernel
theorem dX4_addRuling_56 : decode cX4_addRuling 56 = .ok (.putfield 110, 3) := by decide +kernel
theorem dX4_addRuling_59 : decode cX4_addRuling 59 = .ok (.aload 6, 2) := by decide +kernel
theorem dX4_addRuling_61 : decode cX4_addRuling 61 = .ok (.iconst 0, 1) := by decide +kernel
theorem dX4_addRuling_62 : decode cX4_addRuling 62 = .ok (.putfield 113, 3) := by decide +kernel
theorem dX4_addRuling_65 : decode cX4_addRuling 65 = .ok (.aload_n 0, 1) := by decide +kernel
theorem dX4_addRuling_66 : decode cX4_addRuling 66 = .ok (.invokevirtual 116, 3) := by decide +kernel
theorem dX4_addRuling_69 : decode cX4_addRuling 69 = .ok (.return_, 1) := by decide +kernel
theorem dX4_findForce_0 : decode cX4_findForce 0 = .ok (.iconst 0, 1) := by decide +kernel
theorem dX4_findForce_1 : decode cX4_findForce 1 = .ok (.istore_n 1, 1) := by decide +kernel
theorem dX4_findForce_2 : decode cX4_findForce 2 = .ok (.iload_n 1, 1) := by decide +kernel
theorem dX4_findForce_3 : decode cX4_findForce 3 = .ok (.aload_n 0, 1) := by decide +kernel
theorem dX4_findForce_4 : decode cX4_findForce 4 = .ok (.getfield 44, 3) := by decide +kernel
theorem dX4_findForce_7 : decode cX4_findForce 7 = .ok (.if_icmp .ge 55, 3) := by decide +kernel
theorem dX4_findForce_10 : decode cX4_findForce 10 = .ok (.aload_n 0, 1) := by decide +kernel
theorem dX4_findForce_11 : decode cX4_findForce 11 = .ok (.iload_n 1, 1) := by decide +kernel
theorem dX4_findForce_12 : decode cX4_findForce 12 = .ok (.invokevirtual 55, 3) := by decide +kernel
theorem dX4_findForce_15 : decode cX4_findForce 15 = .ok (.astore_n 2, 1) := by decide +kernel
theorem dX4_findForce_16 : decode cX4_findForce 16 = .ok (.aload_n 2, 1) := by decide +kernel
theorem dX4_findForce_17 : decode cX4_findForce 17 = .ok (.ifnull 39, 3) := by decide +kernel
theorem dX4_findForce_20 : decode cX4_findForce 20 = .ok (.aload_n 0, 1) := by decide +kernel
theorem dX4_findForce_21 : decode cX4_findForce 21 = .ok (.aload_n 2, 1) := by decide +kernel
theorem dX4_findForce_22 : decode cX4_findForce 22 = .ok (.getfield 110, 3) := by decide +kernel
theorem dX4_findForce_25 : decode cX4_findForce 25 = .ok (.invokevirtual 55, 3) := by decide +kernel
theorem dX4_findForce_28 : decode cX4_findForce 28 = .ok (.astore_n 3, 1) := by decide +kernel
theorem dX4_findForce_29 : decode cX4_findForce 29 = .ok (.aload_n 2, 1) := by decide +kernel
theorem dX4_findForce_30 : decode cX4_findForce 30 = .ok (.aload_n 2, 1) := by decide +kernel
theorem dX4_findForce_31 : decode cX4_findForce 31 = .ok (.getfield 113, 3) := by decide +kernel
theorem dX4_findForce_34 : decode cX4_findForce 34 = .ok (.ifCond .ne 18, 3) := by decide +kernel
theorem dX4_findForce_37 : decode cX4_findForce 37 = .ok (.aload_n 3, 1) := by decide +kernel
theorem dX4_findForce_38 : decode cX4_findForce 38 = .ok (.ifnull 10, 3) := by decide +kernel
theorem dX4_findForce_41 : decode cX4_findForce 41 = .ok (.aload_n 3, 1) := by decide +kernel
theorem dX4_findForce_42 : decode cX4_findForce 42 = .ok (.getfield 119, 3) := by decide +kernel
theorem dX4_findForce_45 : decode cX4_findForce 45 = .ok (.ifCond .eq 7, 3) := by decide +kernel
theorem dX4_findForce_48 : decode cX4_findForce 48 = .ok (.iconst 1, 1) := by decide +kernel
theorem dX4_findForce_49 : decode cX4_findForce 49 = .ok (.goto 4, 3) := by decide +kernel
theorem dX4_findForce_52 : decode cX4_findForce 52 = .ok (.iconst 0, 1) := by decide +kernel
theorem dX4_findForce_53 : decode cX4_findForce 53 = .ok (.putfield 119, 3) := by decide +kernel
theorem dX4_findForce_56 : decode cX4_findForce 56 = .ok (.iinc 1 1, 3) := by decide +kernel
theorem dX4_findForce_59 : decode cX4_findForce 59 = .ok (.goto (-57), 3) := by decide +kernel
theorem dX4_findForce_62 : decode cX4_findForce 62 = .ok (.return_, 1) := by decide +kernel
theorem dX4_rulingsInForce_0 : decode cX4_rulingsInForce 0 = .ok (.iconst 0, 1) := by decide +kernel
theorem dX4_rulingsInForce_1 : decode cX4_rulingsInForce 1 = .ok (.istore_n 1, 1) := by decide +kernel
theorem dX4_rulingsInForce_2 : decode cX4_rulingsInForce 2 = .ok (.iconst 0, 1) := by decide +kernel
theorem dX4_rulingsInForce_3 : decode cX4_rulingsInForce 3 = .ok (.istore_n 2, 1) := by decide +kernel
theorem dX4_rulingsInForce_4 : decode cX4_rulingsInForce 4 = .ok (.iload_n 2, 1) := by decide +kernel
theorem dX4_rulingsInForce_5 : decode cX4_rulingsInForce 5 = .ok (.aload_n 0, 1) := by decide +kernel
theorem dX4_rulingsInForce_6 : decode cX4_rulingsInForce 6 = .ok (.getfield 44, 3) := by decide +kernel
theorem dX4_rulingsInForce_9 : decode cX4_rulingsInForce 9 = .ok (.if_icmp .ge 29, 3) := by decide +kernel
theorem dX4_rulingsInForce_12 : decode cX4_rulingsInForce 12 = .ok (.aload_n 0, 1) := by decide +kernel
theorem dX4_rulingsInForce_13 : decode cX4_rulingsInForce 13 = .ok (.iload_n 2, 1) := by decide +kernel
theorem dX4_rulingsInForce_14 : decode cX4_rulingsInForce 14 = .ok (.invokevirtual 55, 3) := by decide +kernel
theorem dX4_rulingsInForce_17 : decode cX4_rulingsInForce 17 = .ok (.astore_n 3, 1) := by decide +kernel
theorem dX4_rulingsInForce_18 : decode cX4_rulingsInForce 18 = .ok (.aload_n 3, 1) := by decide +kernel
theorem dX4_rulingsInForce_19 : decode cX4_rulingsInForce 19 = .ok (.ifnull 13, 3) := by decide +kernel
theorem dX4_rulingsInForce_22 : decode cX4_rulingsInForce 22 = .ok (.aload_n 3, 1) := by decide +kernel
theorem dX4_rulingsInForce_23 : decode cX4_rulingsInForce 23 = .ok (.getfield 119, 3) := by decide +kernel
theorem dX4_rulingsInForce_26 : decode cX4_rulingsInForce 26 = .ok (.ifCond .eq 6, 3) := by decide +kernel
theorem dX4_rulingsInForce_29 : decode cX4_rulingsInForce 29 = .ok (.iinc 1 1, 3) := by decide +kernel
theorem dX4_rulingsInForce_32 : decode cX4_rulingsInForce 32 = .ok (.iinc 2 1, 3) := by decide +kernel
theorem dX4_rulingsInForce_35 : decode cX4_rulingsInForce 35 = .ok (.goto (-31), 3) := by decide +kernel
theorem dX4_rulingsInForce_38 : decode cX4_rulingsInForce 38 = .ok (.iload_n 1, 1) := by decide +kernel
theorem dX4_rulingsInForce_39 : decode cX4_rulingsInForce 39 = .ok (.ireturn, 1) := by decide +kernel
theorem dX4_rulingsThatCount_0 : decode cX4_rulingsThatCount 0 = .ok (.iconst 0, 1) := by decide +kernel
theorem dX4_rulingsThatCount_1 : decode cX4_rulingsThatCount 1 = .ok (.istore_n 1, 1) := by decide +kernel
theorem dX4_rulingsThatCount_2 : decode cX4_rulingsThatCount 2 = .ok (.iconst 0, 1) := by decide +kernel
theorem dX4_rulingsThatCount_3 : decode cX4_rulingsThatCount 3 = .ok (.istore_n 2, 1) := by decide +kernel
theorem dX4_rulingsThatCount_4 : decode cX4_rulingsThatCount 4 = .ok (.iload_n 2, 1) := by decide +kernel
theorem dX4_rulingsThatCount_5 : decode cX4_rulingsThatCount 5 = .ok (.aload_n 0, 1) := by decide +kernel
theorem dX4_rulingsThatCount_6 : decode cX4_rulingsThatCount 6 = .ok (.getfield 44, 3) := by decide +kernel
theorem dX4_rulingsThatCount_9 : decode cX4_rulingsThatCount 9 = .ok (.if_icmp .ge 20, 3) := by decide +kernel
theorem dX4_rulingsThatCount_12 : decode cX4_rulingsThatCount 12 = .ok (.aload_n 0, 1) := by decide +kernel
theorem dX4_rulingsThatCount_13 : decode cX4_rulingsThatCount 13 = .ok (.iload_n 2, 1) := by decide +kernel
theorem dX4_rulingsThatCount_14 : decode cX4_rulingsThatCount 14 = .ok (.invokevirtual 122, 3) := by decide +kernel
theorem dX4_rulingsThatCount_17 : decode cX4_rulingsThatCount 17 = .ok (.ifCond .eq 6, 3) := by decide +kernel
theorem dX4_rulingsThatCount_20 : decode cX4_rulingsThatCount 20 = .ok (.iinc 1 1, 3) := by decide +kernel
theorem dX4_rulingsThatCount_23 : decode cX4_rulingsThatCount 23 = .ok (.iinc 2 1, 3) := by decide +kernel
theorem dX4_rulingsThatCount_26 : decode cX4_rulingsThatCount 26 = .ok (.goto (-22), 3) := by decide +kernel
theorem dX4_rulingsThatCount_29 : decode cX4_rulingsThatCount 29 = .ok (.iload_n 1, 1) := by decide +kernel
theorem dX4_rulingsThatCount_30 : decode cX4_rulingsThatCount 30 = .ok (.ireturn, 1) := by decide +kernel
theorem dX4_citationsOf_0 : decode cX4_citationsOf 0 = .ok (.iconst 0, 1) := by decide +kernel
theorem dX4_citationsOf_1 : decode cX4_citationsOf 1 = .ok (.istore_n 2, 1) := by decide +kernel
theorem dX4_citationsOf_2 : decode cX4_citationsOf 2 = .ok (.iconst 0, 1) := by decide +kernel
theorem dX4_citationsOf_3 : decode cX4_citationsOf 3 = .ok (.istore_n 3, 1) := by decide +kernel
theorem dX4_citationsOf_4 : decode cX4_citationsOf 4 = .ok (.iload_n 3, 1) := by decide +kernel
theorem dX4_citationsOf_5 : decode cX4_citationsOf 5 = .ok (.aload_n 0, 1) := by decide +kernel
theorem dX4_citationsOf_6 : decode cX4_citationsOf 6 = .ok (.getfield 44, 3) := by decide +kernel
theorem dX4_citationsOf_9 : decode cX4_citationsOf 9 = .ok (.if_icmp .ge 33, 3) := by decide +kernel
theorem dX4_citationsOf_12 : decode cX4_citationsOf 12 = .ok (.aload_n 0, 1) := by decide +kernel
theorem dX4_citationsOf_13 : decode cX4_citationsOf 13 = .ok (.iload_n 3, 1) := by decide +kernel
theorem dX4_citationsOf_14 : decode cX4_citationsOf 14 = .ok (.invokevirtual 55, 3) := by decide +kernel
theorem dX4_citationsOf_17 : decode cX4_citationsOf 17 = .ok (.astore 4, 2) := by decide +kernel
theorem dX4_citationsOf_19 : decode cX4_citationsOf 19 = .ok (.aload 4, 2) := by decide +kernel
theorem dX4_citationsOf_21 : decode cX4_citationsOf 21 = .ok (.ifnull 15, 3) := by decide +kernel
theorem dX4_citationsOf_24 : decode cX4_citationsOf 24 = .ok (.aload 4, 2) := by decide +kernel
theorem dX4_citationsOf_26 : decode cX4_citationsOf 26 = .ok (.getfield 110, 3) := by decide +kernel
theorem dX4_citationsOf_29 : decode cX4_citationsOf 29 = .ok (.iload_n 1, 1) := by decide +kernel
theorem dX4_citationsOf_30 : decode cX4_citationsOf 30 = .ok (.if_icmp .ne 6, 3) := by decide +kernel
theorem dX4_citationsOf_33 : decode cX4_citationsOf 33 = .ok (.iinc 2 1, 3) := by decide +kernel
theorem dX4_citationsOf_36 : decode cX4_citationsOf 36 = .ok (.iinc 3 1, 3) := by decide +kernel
theorem dX4_citationsOf_39 : decode cX4_citationsOf 39 = .ok (.goto (-35), 3) := by decide +kernel
theorem dX4_citationsOf_42 : decode cX4_citationsOf 42 = .ok (.iload_n 2, 1) := by decide +kernel
theorem dX4_citationsOf_43 : decode cX4_citationsOf 43 = .ok (.ireturn, 1) := by decide +kernel
theorem dX4_countingAbout_0 : decode cX4_countingAbout 0 = .ok (.aload_n 0, 1) := by decide +kernel
theorem dX4_countingAbout_1 : decode cX4_countingAbout 1 = .ok (.getfield 44, 3) := by decide +kernel
theorem dX4_countingAbout_4 : decode cX4_countingAbout 4 = .ok (.iconst 1, 1) := by decide +kernel
theorem dX4_countingAbout_5 : decode cX4_countingAbout 5 = .ok (.isub, 1) := by decide +kernel
theorem dX4_countingAbout_6 : decode cX4_countingAbout 6 = .ok (.istore_n 3, 1) := by decide +kernel
theorem dX4_countingAbout_7 : decode cX4_countingAbout 7 = .ok (.iload_n 3, 1) := by decide +kernel
theorem dX4_countingAbout_8 : decode cX4_countingAbout 8 = .ok (.ifCond .lt 49, 3) := by decide +kernel
theorem dX4_countingAbout_11 : decode cX4_countingAbout 11 = .ok (.aload_n 0, 1) := by decide +kernel
theorem dX4_countingAbout_12 : decode cX4_countingAbout 12 = .ok (.iload_n 3, 1) := by decide +kernel
theorem dX4_countingAbout_13 : decode cX4_countingAbout 13 = .ok (.invokevirtual 55, 3) := by decide +kernel
theorem dX4_countingAbout_16 : decode cX4_countingAbout 16 = .ok (.astore 4, 2) := by decide +kernel
theorem dX4_countingAbout_18 : decode cX4_countingAbout 18 = .ok (.aload 4, 2) := by decide +kernel
theorem dX4_countingAbout_20 : decode cX4_countingAbout 20 = .ok (.ifnull 31, 3) := by decide +kernel
theorem dX4_countingAbout_23 : decode cX4_countingAbout 23 = .ok (.aload 4, 2) := by decide +kernel
theorem dX4_countingAbout_25 : decode cX4_countingAbout 25 = .ok (.getfield 119, 3) := by decide +kernel
theorem dX4_countingAbout_28 : decode cX4_countingAbout 28 = .ok (.ifCond .eq 23, 3) := by decide +kernel
theorem dX4_countingAbout_31 : decode cX4_countingAbout 31 = .ok (.aload 4, 2) := by decide +kernel
theorem dX4_countingAbout_33 : decode cX4_countingAbout 33 = .ok (.getfield 97, 3) := by decide +kernel
theorem dX4_countingAbout_36 : decode cX4_countingAbout 36 = .ok (.iload_n 1, 1) := by decide +kernel
theorem dX4_countingAbout_37 : decode cX4_countingAbout 37 = .ok (.if_icmp .ne 14, 3) := by decide +kernel
theorem dX4_countingAbout_40 : decode cX4_countingAbout 40 = .ok (.aload 4, 2) := by decide +kernel
theorem dX4_countingAbout_42 : decode cX4_countingAbout 42 = .ok (.getfield 100, 3) := by decide +kernel
theorem dX4_countingAbout_45 : decode cX4_countingAbout 45 = .ok (.iload_n 2, 1) := by decide +kernel
theorem dX4_countingAbout_46 : decode cX4_countingAbout 46 = .ok (.if_icmp .ne 5, 3) := by decide +kernel
theorem dX4_countingAbout_49 : decode cX4_countingAbout 49 = .ok (.iload_n 3, 1) := by decide +kernel
theorem dX4_countingAbout_50 : decode cX4_countingAbout 50 = .ok (.ireturn, 1) := by decide +kernel
theorem dX4_countingAbout_51 : decode cX4_countingAbout 51 = .ok (.iinc 3 (-1), 3) := by decide +kernel
theorem dX4_countingAbout_54 : decode cX4_countingAbout 54 = .ok (.goto (-47), 3) := by decide +kernel
theorem dX4_countingAbout_57 : decode cX4_countingAbout 57 = .ok (.bipush (-4), 2) := by decide +kernel
theorem dX4_countingAbout_59 : decode cX4_countingAbout 59 = .ok (.ireturn, 1) := by decide +kernel
theorem dX4_countingAt_0 : decode cX4_countingAt 0 = .ok (.aload_n 0, 1) := by decide +kernel
theorem dX4_countingAt_1 : decode cX4_countingAt 1 = .ok (.aload_n 1, 1) := by decide +kernel
theorem dX4_countingAt_2 : decode cX4_countingAt 2 = .ok (.iload_n 2, 1) := by decide +kernel
theorem dX4_countingAt_3 : decode cX4_countingAt 3 = .ok (.invokevirtual 126, 3) := by decide +kernel
theorem dX4_countingAt_6 : decode cX4_countingAt 6 = .ok (.aload_n 1, 1) := by decide +kernel
theorem dX4_countingAt_7 : decode cX4_countingAt 7 = .ok (.iload_n 2, 1) := by decide +kernel
theorem dX4_countingAt_8 : decode cX4_countingAt 8 = .ok (.iconst 1, 1) := by decide +kernel
theorem dX4_countingAt_9 : decode cX4_countingAt 9 = .ok (.iadd, 1) := by decide +kernel
theorem dX4_countingAt_10 : decode cX4_countingAt 10 = .ok (.invokevirtual 126, 3) := by decide +kernel
theorem dX4_countingAt_13 : decode cX4_countingAt 13 = .ok (.invokevirtual 129, 3) := by decide +kernel
theorem dX4_countingAt_16 : decode cX4_countingAt 16 = .ok (.ireturn, 1) := by decide +kernel
theorem dX4_counts_0 : decode cX4_counts 0 = .ok (.aload_n 0, 1) := by decide +kernel
theorem dX4_counts_1 : decode cX4_counts 1 = .ok (.iload_n 1, 1) := by decide +kernel
theorem dX4_counts_2 : decode cX4_counts 2 = .ok (.invokevirtual 55, 3) := by decide +kernel
theorem dX4_counts_5 : decode cX4_counts 5 = .ok (.astore_n 2, 1) := by decide +kernel
theorem dX4_counts_6 : decode cX4_counts 6 = .ok (.aload_n 2, 1) := by decide +kernel
theorem dX4_counts_7 : decode cX4_counts 7 = .ok (.ifnull 23, 3) := by decide +kernel
theorem dX4_counts_10 : decode cX4_counts 10 = .ok (.aload_n 0, 1) := by decide +kernel
theorem dX4_counts_11 : decode cX4_counts 11 = .ok (.aload_n 2, 1) := by decide +kernel
theorem dX4_counts_12 : decode cX4_counts 12 = .ok (.getfield 97, 3) := by decide +kernel
theorem dX4_counts_15 : decode cX4_counts 15 = .ok (.aload_n 2, 1) := by decide +kernel
theorem dX4_counts_16 : decode cX4_counts 16 = .ok (.getfield 100, 3) := by decide +kernel
theorem dX4_counts_19 : decode cX4_counts 19 = .ok (.invokevirtual 129, 3) := by decide +kernel
theorem dX4_counts_22 : decode cX4_counts 22 = .ok (.iload_n 1, 1) := by decide +kernel
theorem dX4_counts_23 : decode cX4_counts 23 = .ok (.if_icmp .ne 7, 3) := by decide +kernel
theorem dX4_counts_26 : decode cX4_counts 26 = .ok (.iconst 1, 1) := by decide +kernel
theorem dX4_counts_27 : decode cX4_counts 27 = .ok (.goto 4, 3) := by decide +kernel
theorem dX4_counts_30 : decode cX4_counts 30 = .ok (.iconst 0, 1) := by decide +kernel
theorem dX4_counts_31 : decode cX4_counts 31 = .ok (.ireturn, 1) := by decide +kernel
theorem dX4_fineAt_0 : decode cX4_fineAt 0 = .ok (.aload_n 0, 1) := by decide +kernel
theorem dX4_fineAt_1 : decode cX4_fineAt 1 = .ok (.aload_n 0, 1) := by decide +kernel
theorem dX4_fineAt_2 : decode cX4_fineAt 2 = .ok (.aload_n 1, 1) := by decide +kernel
theorem dX4_fineAt_3 : decode cX4_fineAt 3 = .ok (.iload_n 2, 1) := by decide +kernel
theorem dX4_fineAt_4 : decode cX4_fineAt 4 = .ok (.invokevirtual 133, 3) := by decide +kernel
theorem dX4_fineAt_7 : decode cX4_fineAt 7 = .ok (.invokevirtual 55, 3) := by decide +kernel
theorem dX4_fineAt_10 : decode cX4_fineAt 10 = .ok (.astore_n 3, 1) := by decide +kernel
theorem dX4_fineAt_11 : decode cX4_fineAt 11 = .ok (.aload_n 3, 1) := by decide +kernel
theorem dX4_fineAt_12 : decode cX4_fineAt 12 = .ok (.ifnonnull 7, 3) := by decide +kernel
theorem dX4_fineAt_15 : decode cX4_fineAt 15 = .ok (.iconst 0, 1) := by decide +kernel
theorem dX4_fineAt_16 : decode cX4_fineAt 16 = .ok (.goto 12, 3) := by decide +kernel
theorem dX4_fineAt_19 : decode cX4_fineAt 19 = .ok (.aload_n 3, 1) := by decide +kernel
theorem dX4_fineAt_20 : decode cX4_fineAt 20 = .ok (.aload_n 1, 1) := by decide +kernel
theorem dX4_fineAt_21 : decode cX4_fineAt 21 = .ok (.iload_n 2, 1) := by decide +kernel
theorem dX4_fineAt_22 : decode cX4_fineAt 22 = .ok (.invokevirtual 137, 3) := by decide +kernel
theorem dX4_fineAt_25 : decode cX4_fineAt 25 = .ok (.invokevirtual 140, 3) := by decide +kernel
theorem dX4_fineAt_28 : decode cX4_fineAt 28 = .ok (.ireturn, 1) := by decide +kernel
theorem dX4_finesBroughtBy_0 : decode cX4_finesBroughtBy 0 = .ok (.iconst 0, 1) := by decide +kernel
theorem dX4_finesBroughtBy_1 : decode cX4_finesBroughtBy 1 = .ok (.istore_n 2, 1) := by decide +kernel
theorem dX4_finesBroughtBy_2 : decode cX4_finesBroughtBy 2 = .ok (.iconst 0, 1) := by decide +kernel
theorem dX4_finesBroughtBy_3 : decode cX4_finesBroughtBy 3 = .ok (.istore_n 3, 1) := by decide +kernel
theorem dX4_finesBroughtBy_4 : decode cX4_finesBroughtBy 4 = .ok (.iload_n 3, 1) := by decide +kernel
theorem dX4_finesBroughtBy_5 : decode cX4_finesBroughtBy 5 = .ok (.aload_n 0, 1) := by decide +kernel
theorem dX4_finesBroughtBy_6 : decode cX4_finesBroughtBy 6 = .ok (.getfield 40, 3) := by decide +kernel
theorem dX4_finesBroughtBy_9 : decode cX4_finesBroughtBy 9 = .ok (.if_icmp .ge 69, 3) := by decide +kernel
theorem dX4_finesBroughtBy_12 : decode cX4_finesBroughtBy 12 = .ok (.aload_n 0, 1) := by decide +kernel
theorem dX4_finesBroughtBy_13 : decode cX4_finesBroughtBy 13 = .ok (.iload_n 3, 1) := by decide +kernel
theorem dX4_finesBroughtBy_14 : decode cX4_finesBroughtBy 14 = .ok (.invokevirtual 47, 3) := by decide +kernel
theorem dX4_finesBroughtBy_17 : decode cX4_finesBroughtBy 17 = .ok (.astore 4, 2) := by decide +kernel
theorem dX4_finesBroughtBy_19 : decode cX4_finesBroughtBy 19 = .ok (.aload 4, 2) := by decide +kernel
theorem dX4_finesBroughtBy_21 : decode cX4_finesBroughtBy 21 = .ok (.ifnull 51, 3) := by decide +kernel
theorem dX4_finesBroughtBy_24 : decode cX4_finesBroughtBy 24 = .ok (.iconst 0, 1) := by decide +kernel
theorem dX4_finesBroughtBy_25 : decode cX4_finesBroughtBy 25 = .ok (.istore 5, 2) := by decide +kernel
theorem dX4_finesBroughtBy_27 : decode cX4_finesBroughtBy 27 = .ok (.iload 5, 2) := by decide +kernel
theorem dX4_finesBroughtBy_29 : decode cX4_finesBroughtBy 29 = .ok (.aload 4, 2) := by decide +kernel
theorem dX4_finesBroughtBy_31 : decode cX4_finesBroughtBy 31 = .ok (.getfield 94, 3) := by decide +kernel
theorem dX4_finesBroughtBy_34 : decode cX4_finesBroughtBy 34 = .ok (.iconst 1, 1) := by decide +kernel
theorem dX4_finesBroughtBy_35 : decode cX4_finesBroughtBy 35 = .ok (.isub, 1) := by decide +kernel
theorem dX4_finesBroughtBy_36 : decode cX4_finesBroughtBy 36 = .ok (.if_icmp .ge 36, 3) := by decide +kernel
theorem dX4_finesBroughtBy_39 : decode cX4_finesBroughtBy 39 = .ok (.iload_n 2, 1) := by decide +kernel
theorem dX4_finesBroughtBy_40 : decode cX4_finesBroughtBy 40 = .ok (.aload_n 0, 1) := by decide +kernel
theorem dX4_finesBroughtBy_41 : decode cX4_finesBroughtBy 41 = .ok (.aload 4, 2) := by decide +kernel
theorem dX4_finesBroughtBy_43 : decode cX4_finesBroughtBy 43 = .ok (.iload 5, 2) := by decide +kernel
theorem dX4_finesBroughtBy_45 : decode cX4_finesBroughtBy 45 = .ok (.invokevirtual 133, 3) := by decide +kernel
theorem dX4_finesBroughtBy_48 : decode cX4_finesBroughtBy 48 = .ok (.iload_n 1, 1) := by decide +kernel
theorem dX4_finesBroughtBy_49 : decode cX4_finesBroughtBy 49 = .ok (.if_icmp .ne 14, 3) := by decide +kernel
theorem dX4_finesBroughtBy_52 : decode cX4_finesBroughtBy 52 = .ok (.aload_n 0, 1) := by decide +kernel
theorem dX4_finesBroughtBy_53 : decode cX4_finesBroughtBy 53 = .ok (.aload 4, 2) := by decide +kernel
theorem dX4_finesBroughtBy_55 : decode cX4_finesBroughtBy 55 = .ok (.iload 5, 2) := by decide +kernel
theorem dX4_finesBroughtBy_57 : decode cX4_finesBroughtBy 57 = .ok (.invokevirtual 144, 3) := by decide +kernel
theorem dX4_finesBroughtBy_60 : decode cX4_finesBroughtBy 60 = .ok (.goto 4, 3) := by decide +kernel
theorem dX4_finesBroughtBy_63 : decode cX4_finesBroughtBy 63 = .ok (.iconst 0, 1) := by decide +kernel
theorem dX4_finesBroughtBy_64 : decode cX4_finesBroughtBy 64 = .ok (.iadd, 1) := by decide +kernel
theorem dX4_finesBroughtBy_65 : decode cX4_finesBroughtBy 65 = .ok (.istore_n 2, 1) := by decide +kernel
theorem dX4_finesBroughtBy_66 : decode cX4_finesBroughtBy 66 = .ok (.iinc 5 1, 3) := by decide +kernel
theorem dX4_finesBroughtBy_69 : decode cX4_finesBroughtBy 69 = .ok (.goto (-42), 3) := by decide +kernel
theorem dX4_finesBroughtBy_72 : decode cX4_finesBroughtBy 72 = .ok (.iinc 3 1, 3) := by decide +kernel
theorem dX4_finesBroughtBy_75 : decode cX4_finesBroughtBy 75 = .ok (.goto (-71), 3) := by decide +kernel
theorem dX4_finesBroughtBy_78 : decode cX4_finesBroughtBy 78 = .ok (.iload_n 2, 1) := by decide +kernel
theorem dX4_finesBroughtBy_79 : decode cX4_finesBroughtBy 79 = .ok (.ireturn, 1) := by decide +kernel
theorem dX5_init_0 : decode cX5_init 0 = .ok (.aload_n 0, 1) := by decide +kernel
theorem dX5_init_1 : decode cX5_init 1 = .ok (.invokespecial 1, 3) := by decide +kernel
theorem dX5_init_4 : decode cX5_init 4 = .ok (.aload_n 0, 1) := by decide +kernel
theorem dX5_init_5 : decode cX5_init 5 = .ok (.new 7, 3) := by decide +kernel
theorem dX5_init_8 : decode cX5_init 8 = .ok (.dup, 1) := by decide +kernel
theorem dX5_init_9 : decode cX5_init 9 = .ok (.invokespecial 9, 3) := by decide +kernel
theorem dX5_init_12 : decode cX5_init 12 = .ok (.putfield 10, 3) := by decide +kernel
theorem dX5_init_15 : decode cX5_init 15 = .ok (.aload_n 0, 1) := by decide +kernel
theorem dX5_init_16 : decode cX5_init 16 = .ok (.new 7, 3) := by decide +kernel
theorem dX5_init_19 : decode cX5_init 19 = .ok (.dup, 1) := by decide +kernel
theorem dX5_init_20 : decode cX5_init 20 = .ok (.invokespecial 9, 3) := by decide +kernel
theorem dX5_init_23 : decode cX5_init 23 = .ok (.putfield 16, 3) := by decide +kernel
theorem dX5_init_26 : decode cX5_init 26 = .ok (.aload_n 0, 1) := by decide +kernel
theorem dX5_init_27 : decode cX5_init 27 = .ok (.iconst 4, 1) := by decide +kernel
theorem dX5_init_28 : decode cX5_init 28 = .ok (.anewarray 7, 3) := by decide +kernel
theorem dX5_init_31 : decode cX5_init 31 = .ok (.putfield 19, 3) := by decide +kernel
theorem dX5_init_34 : decode cX5_init 34 = .ok (.aload_n 0, 1) := by decide +kernel
theorem dX5_init_35 : decode cX5_init 35 = .ok (.new 23, 3) := by decide +kernel
theorem dX5_init_38 : decode cX5_init 38 = .ok (.dup, 1) := by decide +kernel
theorem dX5_init_39 : decode cX5_init 39 = .ok (.invokespecial 25, 3) := by decide +kernel
theorem dX5_init_42 : decode cX5_init 42 = .ok (.putfield 26, 3) := by decide +kernel
theorem dX5_init_45 : decode cX5_init 45 = .ok (.aload_n 0, 1) := by decide +kernel
theorem dX5_init_46 : decode cX5_init 46 = .ok (.new 30, 3) := by decide +kernel
theorem dX5_init_49 : decode cX5_init 49 = .ok (.dup, 1) := by decide +kernel
theorem dX5_init_50 : decode cX5_init 50 = .ok (.invokespecial 32, 3) := by decide +kernel
theorem dX5_init_53 : decode cX5_init 53 = .ok (.putfield 33, 3) := by decide +kernel
theorem dX5_init_56 : decode cX5_init 56 = .ok (.aload_n 0, 1) := by decide +kernel
theorem dX5_init_57 : decode cX5_init 57 = .ok (.new 37, 3) := by decide +kernel
theorem dX5_init_60 : decode cX5_init 60 = .ok (.dup, 1) := by decide +kernel
theorem dX5_init_61 : decode cX5_init 61 = .ok (.invokespecial 39, 3) := by decide +kernel
theorem dX5_init_64 : decode cX5_init 64 = .ok (.putfield 40, 3) := by decide +kernel
theorem dX5_init_67 : decode cX5_init 67 = .ok (.iconst 0, 1) := by decide +kernel
theorem dX5_init_68 : decode cX5_init 68 = .ok (.istore_n 1, 1) := by decide +kernel
theorem dX5_init_69 : decode cX5_init 69 = .ok (.iload_n 1, 1) := by decide +kernel
theorem dX5_init_70 : decode cX5_init 70 = .ok (.aload_n 0, 1) := by decide +kernel
theorem dX5_init_71 : decode cX5_init 71 = .ok (.getfield 19, 3) := by decide +kernel
theorem dX5_init_74 : decode cX5_init 74 = .ok (.arraylength, 1) := by decide +kernel
theorem dX5_init_75 : decode cX5_init 75 = .ok (.if_icmp .ge 22, 3) := by decide +kernel
theorem dX5_init_78 : decode cX5_init 78 = .ok (.aload_n 0, 1) := by decide +kernel
theorem dX5_init_79 : decode cX5_init 79 = .ok (.getfield 19, 3) := by decide +kernel
theorem dX5_init_82 : decode cX5_init 82 = .ok (.iload_n 1, 1) := by decide +kernel
theorem dX5_init_83 : decode cX5_init 83 = .ok (.new 7, 3) := by decide +kernel
theorem dX5_init_86 : decode cX5_init 86 = .ok (.dup, 1) := by decide +kernel
theorem dX5_init_87 : decode cX5_init 87 = .ok (.invokespecial 9, 3) := by decide +kernel
theorem dX5_init_90 : decode cX5_init 90 = .ok (.aastore, 1) := by decide +kernel
theorem dX5_init_91 : decode cX5_init 91 = .ok (.iinc 1 1, 3) := by decide +kernel
theorem dX5_init_94 : decode cX5_init 94 = .ok (.goto (-25), 3) := by decide +kernel
theorem dX5_init_97 : decode cX5_init 97 = .ok (.return_, 1) := by decide +kernel
theorem dX5_weight_0 : decode cX5_weight 0 = .ok (.iload_n 1, 1) := by decide +kernel
theorem dX5_weight_1 : decode cX5_weight 1 = .ok (.invokestatic 44, 3) := by decide +kernel
theorem dX5_weight_4 : decode cX5_weight 4 = .ok (.ifCond .eq 13, 3) := by decide +kernel
theorem dX5_weight_7 : decode cX5_weight 7 = .ok (.iload_n 2, 1) := by decide +kernel
theorem dX5_weight_8 : decode cX5_weight 8 = .ok (.iconst 1, 1) := by decide +kernel
theorem dX5_weight_9 : decode cX5_weight 9 = .ok (.bipush 9, 2) := by decide +kernel
theorem dX5_weight_11 : decode cX5_weight 11 = .ok (.invokestatic 48, 3) := by decide +kernel
theorem dX5_weight_14 : decode cX5_weight 14 = .ok (.ifCond .ne 5, 3) := by decide +kernel
theorem dX5_weight_17 : decode cX5_weight 17 = .ok (.iconst (-1), 1) := by decide +kernel
theorem dX5_weight_18 : decode cX5_weight 18 = .ok (.ireturn, 1) := by decide +kernel
theorem dX5_weight_19 : decode cX5_weight 19 = .ok (.aload_n 0, 1) := by decide +kernel
theorem dX5_weight_20 : decode cX5_weight 20 = .ok (.invokevirtual 52, 3) := by decide +kernel
theorem dX5_weight_23 : decode cX5_weight 23 = .ok (.aload_n 0, 1) := by decide +kernel
theorem dX5_weight_24 : decode cX5_weight 24 = .ok (.getfield 10, 3) := by decide +kernel
theorem dX5_weight_27 : decode cX5_weight 27 = .ok (.getfield 55, 3) := by decide +kernel
theorem dX5_weight_30 : decode cX5_weight 30 = .ok (.iload_n 1, 1) := by decide +kernel
theorem dX5_weight_31 : decode cX5_weight 31 = .ok (.invokestatic 59, 3) := by decide +kernel
theorem dX5_weight_34 : decode cX5_weight 34 = .ok (.istore_n 3, 1) := by decide +kernel
theorem dX5_weight_35 : decode cX5_weight 35 = .ok (.aload_n 0, 1) := by decide +kernel
theorem dX5_weight_36 : decode cX5_weight 36 = .ok (.getfield 10, 3) := by decide +kernel
theorem dX5_weight_39 : decode cX5_weight 39 = .ok (.getfield 55, 3) := by decide +kernel
theorem dX5_weight_42 : decode cX5_weight 42 = .ok (.iload_n 1, 1) := by decide +kernel
theorem dX5_weight_43 : decode cX5_weight 43 = .ok (.iload_n 2, 1) := by decide +kernel
theorem dX5_weight_44 : decode cX5_weight 44 = .ok (.invokestatic 63, 3) := by decide +kernel
theorem dX5_weight_47 : decode cX5_weight 47 = .ok (.iload_n 3, 1) := by decide +kernel
theorem dX5_weight_48 : decode cX5_weight 48 = .ok (.ireturn, 1) := by decide +kernel
theorem dX5_set_0 : decode cX5_set 0 = .ok (.iload_n 1, 1) := by decide +kernel
theorem dX5_set_1 : decode cX5_set 1 = .ok (.ifCond .ne 13, 3) := by decide +kernel
theorem dX5_set_4 : decode cX5_set 4 = .ok (.iload_n 2, 1) := by decide +kernel
theorem dX5_set_5 : decode cX5_set 5 = .ok (.iconst 1, 1) := by decide +kernel
theorem dX5_set_6 : decode cX5_set 6 = .ok (.bipush 30, 2) := by decide +kernel
theorem dX5_set_8 : decode cX5_set 8 = .ok (.invokestatic 48, 3) := by decide +kernel
theorem dX5_set_11 : decode cX5_set 11 = .ok (.ifCond .ne 19, 3) := by decide +kernel
theorem dX5_set_14 : decode cX5_set 14 = .ok (.iload_n 1, 1) := by decide +kernel
theorem dX5_set_15 : decode cX5_set 15 = .ok (.iconst 1, 1) := by decide +kernel
theorem dX5_set_16 : decode cX5_set 16 = .ok (.if_icmp .ne 18, 3) := by decide +kernel
theorem dX5_set_19 : decode cX5_set 19 = .ok (.iload_n 2, 1) := by decide +kernel
theorem dX5_set_20 : decode cX5_set 20 = .ok (.bipush 9, 2) := by decide +kernel
theorem dX5_set_22 : decode cX5_set 22 = .ok (.bipush 60, 2) := by decide +kernel
theorem dX5_set_24 : decode cX5_set 24 = .ok (.invokestatic 48, 3) := by decide +kernel
theorem dX5_set_27 : decode cX5_set 27 = .ok (.ifCond .eq 7, 3) := by decide +kernel
theorem dX5_set_30 : decode cX5_set 30 = .ok (.iconst 1, 1) := by decide +kernel
theorem dX5_set_31 : decode cX5_set 31 = .ok (.goto 4, 3) := by decide +kernel
theorem dX5_set_34 : decode cX5_set 34 = .ok (.iconst 0, 1) := by decide +kernel
theorem dX5_set_35 : decode cX5_set 35 = .ok (.istore_n 3, 1) := by decide +kernel
theorem dX5_set_36 : decode cX5_set 36 = .ok (.iload_n 3, 1) := by decide +kernel
theorem dX5_set_37 : decode cX5_set 37 = .ok (.ifCond .ne 5, 3) := by decide +kernel
theorem dX5_set_40 : decode cX5_set 40 = .ok (.iconst (-1), 1) := by decide +kernel
theorem dX5_set_41 : decode cX5_set 41 = .ok (.ireturn, 1) := by decide +kernel
theorem dX5_set_42 : decode cX5_set 42 = .ok (.aload_n 0, 1) := by decide +kernel
theorem dX5_set_43 : decode cX5_set 43 = .ok (.invokevirtual 52, 3) := by decide +kernel
theorem dX5_set_46 : decode cX5_set 46 = .ok (.aload_n 0, 1) := by decide +kernel
theorem dX5_set_47 : decode cX5_set 47 = .ok (.getfield 10, 3) := by decide +kernel
theorem dX5_set_50 : decode cX5_set 50 = .ok (.getfield 67, 3) := by decide +kernel
theorem dX5_set_53 : decode cX5_set 53 = .ok (.iload_n 1, 1) := by decide +kernel
theorem dX5_set_54 : decode cX5_set 54 = .ok (.invokestatic 59, 3) := by decide +kernel
theorem dX5_set_57 : decode cX5_set 57 = .ok (.istore 4, 2) := by decide +kernel
theorem dX5_set_59 : decode cX5_set 59 = .ok (.aload_n 0, 1) := by decide +kernel
theorem dX5_set_60 : decode cX5_set 60 = .ok (.getfield 10, 3) := by decide +kernel
theorem dX5_set_63 : decode cX5_set 63 = .ok (.getfield 67, 3) := by decide +kernel
theorem dX5_set_66 : decode cX5_set 66 = .ok (.iload_n 1, 1) := by decide +kernel
theorem dX5_set_67 : decode cX5_set 67 = .ok (.iload_n 2, 1) := by decide +kernel
theorem dX5_set_68 : decode cX5_set 68 = .ok (.invokestatic 63, 3) := by decide +kernel
theorem dX5_set_71 : decode cX5_set 71 = .ok (.iload 4, 2) := by decide +kernel
theorem dX5_set_73 : decode cX5_set 73 = .ok (.ireturn, 1) := by decide +kernel
theorem dX5_rule_0 : decode cX5_rule 0 = .ok (.iload_n 1, 1) := by decide +kernel
theorem dX5_rule_1 : decode cX5_rule 1 = .ok (.iload_n 2, 1) := by decide +kernel
theorem dX5_rule_2 : decode cX5_rule 2 = .ok (.iload 4, 2) := by decide +kernel
theorem dX5_rule_4 : decode cX5_rule 4 = .ok (.invokestatic 70, 3) := by decide +kernel
theorem dX5_rule_7 : decode cX5_rule 7 = .ok (.ifCond .eq 21, 3) := by decide +kernel
theorem dX5_rule_10 : decode cX5_rule 10 = .ok (.iload 5, 2) := by decide +kernel
theorem dX5_rule_12 : decode cX5_rule 12 = .ok (.iconst (-1), 1) := by decide +kernel
theorem dX5_rule_13 : decode cX5_rule 13 = .ok (.aload_n 0, 1) := by decide +kernel
theorem dX5_rule_14 : decode cX5_rule 14 = .ok (.getfield 10, 3) := by decide +kernel
theorem dX5_rule_17 : decode cX5_rule 17 = .ok (.getfield 73, 3) := by decide +kernel
theorem dX5_rule_20 : decode cX5_rule 20 = .ok (.iconst 1, 1) := by decide +kernel
theorem dX5_rule_21 : decode cX5_rule 21 = .ok (.isub, 1) := by decide +kernel
theorem dX5_rule_22 : decode cX5_rule 22 = .ok (.invokestatic 48, 3) := by decide +kernel
theorem dX5_rule_25 : decode cX5_rule 25 = .ok (.ifCond .ne 5, 3) := by decide +kernel
theorem dX5_rule_28 : decode cX5_rule 28 = .ok (.iconst (-1), 1) := by decide +kernel
theorem dX5_rule_29 : decode cX5_rule 29 = .ok (.ireturn, 1) := by decide +kernel
theorem dX5_rule_30 : decode cX5_rule 30 = .ok (.aload_n 0, 1) := by decide +kernel
theorem dX5_rule_31 : decode cX5_rule 31 = .ok (.getfield 10, 3) := by decide +kernel
theorem dX5_rule_34 : decode cX5_rule 34 = .ok (.getfield 73, 3) := by decide +kernel
theorem dX5_rule_37 : decode cX5_rule 37 = .ok (.bipush 10, 2) := by decide +kernel
theorem dX5_rule_39 : decode cX5_rule 39 = .ok (.if_icmp .lt 6, 3) := by decide +kernel
theorem dX5_rule_42 : decode cX5_rule 42 = .ok (.bipush (-3), 2) := by decide +kernel
theorem dX5_rule_44 : decode cX5_rule 44 = .ok (.ireturn, 1) := by decide +kernel
theorem dX5_rule_45 : decode cX5_rule 45 = .ok (.aload_n 0, 1) := by decide +kernel
theorem dX5_rule_46 : decode cX5_rule 46 = .ok (.invokevirtual 52, 3) := by decide +kernel
theorem dX5_rule_49 : decode cX5_rule 49 = .ok (.aload_n 0, 1) := by decide +kernel
theorem dX5_rule_50 : decode cX5_rule 50 = .ok (.getfield 10, 3) := by decide +kernel
theorem dX5_rule_53 : decode cX5_rule 53 = .ok (.iload_n 1, 1) := by decide +kernel
theorem dX5_rule_54 : decode cX5_rule 54 = .ok (.iload_n 2, 1) := by decide +kernel
theorem dX5_rule_55 : decode cX5_rule 55 = .ok (.iload_n 3, 1) := by decide +kernel
theorem dX5_rule_56 : decode cX5_rule 56 = .ok (.iload 4, 2) := by decide +kernel
theorem dX5_rule_58 : decode cX5_rule 58 = .ok (.iload 5, 2) := by decide +kernel
theorem dX5_rule_60 : decode cX5_rule 60 = .ok (.invokevirtual 77, 3) := by decide +kernel
theorem dX5_rule_63 : decode cX5_rule 63 = .ok (.aload_n 0, 1) := by decide +kernel
theorem dX5_rule_64 : decode cX5_rule 64 = .ok (.getfield 10, 3) := by decide +kernel
theorem dX5_rule_67 : decode cX5_rule 67 = .ok (.getfield 73, 3) := by decide +kernel
theorem dX5_rule_70 : decode cX5_rule 70 = .ok (.iconst 1, 1) := by decide +kernel
theorem dX5_rule_71 : decode cX5_rule 71 = .ok (.isub, 1) := by decide +kernel
theorem dX5_rule_72 : decode cX5_rule 72 = .ok (.ireturn, 1) := by decide +kernel
theorem dX5_overrule_0 : decode cX5_overrule 0 = .ok (.aload_n 0, 1) := by decide +kernel
theorem dX5_overrule_1 : decode cX5_overrule 1 = .ok (.getfield 10, 3) := by decide +kernel
theorem dX5_overrule_4 : decode cX5_overrule 4 = .ok (.iload_n 1, 1) := by decide +kernel
theorem dX5_overrule_5 : decode cX5_overrule 5 = .ok (.invokevirtual 81, 3) := by decide +kernel
theorem dX5_overrule_8 : decode cX5_overrule 8 = .ok (.astore_n 2, 1) := by decide +kernel
theorem dX5_overrule_9 : decode cX5_overrule 9 = .ok (.aload_n 2, 1) := by decide +kernel
theorem dX5_overrule_10 : decode cX5_overrule 10 = .ok (.ifnonnull 5, 3) := by decide +kernel
theorem dX5_overrule_13 : decode cX5_overrule 13 = .ok (.iconst (-1), 1) := by decide +kernel
theorem dX5_overrule_14 : decode cX5_overrule 14 = .ok (.ireturn, 1) := by decide +kernel
theorem dX5_overrule_15 : decode cX5_overrule 15 = .ok (.aload_n 2, 1) := by decide +kernel
theorem dX5_overrule_16 : decode cX5_overrule 16 = .ok (.getfield 85, 3) := by decide +kernel
theorem dX5_overrule_19 : decode cX5_overrule 19 = .ok (.ifCond .eq 6, 3) := by decide +kernel
theorem dX5_overrule_22 : decode cX5_overrule 22 = .ok (.bipush (-2), 2) := by decide +kernel
theorem dX5_overrule_24 : decode cX5_overrule 24 = .ok (.ireturn, 1) := by decide +kernel
theorem dX5_overrule_25 : decode cX5_overrule 25 = .ok (.aload_n 0, 1) := by decide +kernel
theorem dX5_overrule_26 : decode cX5_overrule 26 = .ok (.invokevirtual 52, 3) := by decide +kernel
theorem dX5_overrule_29 : decode cX5_overrule 29 = .ok (.aload_n 0, 1) := by decide +kernel
theorem dX5_overrule_30 : decode cX5_overrule 30 = .ok (.getfield 10, 3) := by decide +kernel
theorem dX5_overrule_33 : decode cX5_overrule 33 = .ok (.invokevirtual 91, 3) := by decide +kernel
theorem dX5_overrule_36 : decode cX5_overrule 36 = .ok (.istore_n 3, 1) := by decide +kernel
theorem dX5_overrule_37 : decode cX5_overrule 37 = .ok (.aload_n 2, 1) := by decide +kernel
theorem dX5_overrule_38 : decode cX5_overrule 38 = .ok (.iconst 1, 1) := by decide +kernel
theorem dX5_overrule_39 : decode cX5_overrule 39 = .ok (.putfield 85, 3) := by decide +kernel
theorem dX5_overrule_42 : decode cX5_overrule 42 = .ok (.aload_n 0, 1) := by decide +kernel
theorem dX5_overrule_43 : decode cX5_overrule 43 = .ok (.getfield 10, 3) := by decide +kernel
theorem dX5_overrule_46 : decode cX5_overrule 46 = .ok (.invokevirtual 95, 3) := by decide +kernel
theorem dX5_overrule_49 : decode cX5_overrule 49 = .ok (.iload_n 3, 1) := by decide +kernel
theorem dX5_overrule_50 : decode cX5_overrule 50 = .ok (.aload_n 0, 1) := by decide +kernel
theorem dX5_overrule_51 : decode cX5_overrule 51 = .ok (.getfield 10, 3) := by decide +kernel
theorem dX5_overrule_54 : decode cX5_overrule 54 = .ok (.invokevirtual 91, 3) := by decide +kernel
theorem dX5_overrule_57 : decode cX5_overrule 57 = .ok (.isub, 1) := by decide +kernel
theorem dX5_overrule_58 : decode cX5_overrule 58 = .ok (.ireturn, 1) := by decide +kernel
theorem dX5_print_0 : decode cX5_print 0 = .ok (.aload_n 0, 1) := by decide +kernel
theorem dX5_print_1 : decode cX5_print 1 = .ok (.getfield 26, 3) := by decide +kernel
theorem dX5_print_4 : decode cX5_print 4 = .ok (.invokevirtual 98, 3) := by decide +kernel
theorem dX5_print_7 : decode cX5_print 7 = .ok (.iconst (-1), 1) := by decide +kernel
theorem dX5_print_8 : decode cX5_print 8 = .ok (.if_icmp .eq 6, 3) := by decide +kernel
theorem dX5_print_11 : decode cX5_print 11 = .ok (.bipush (-2), 2) := by decide +kernel
theorem dX5_print_13 : decode cX5_print 13 = .ok (.ireturn, 1) := by decide +kernel
theorem dX5_print_14 : decode cX5_print 14 = .ok (.aload_n 0, 1) := by decide +kernel
theorem dX5_print_15 : decode cX5_print 15 = .ok (.getfield 26, 3) := by decide +kernel
theorem dX5_print_18 : decode cX5_print 18 = .ok (.aload_n 0, 1) := by decide +kernel
theorem dX5_print_19 : decode cX5_print 19 = .ok (.getfield 33, 3) := by decide +kernel
theorem dX5_print_22 : decode cX5_print 22 = .ok (.invokevirtual 101, 3) := by decide +kernel
theorem dX5_print_25 : decode cX5_print 25 = .ok (.aload_n 0, 1) := by decide +kernel
theorem dX5_print_26 : decode cX5_print 26 = .ok (.getfield 10, 3) := by decide +kernel
theorem dX5_print_29 : decode cX5_print 29 = .ok (.aload_n 0, 1) := by decide +kernel
theorem dX5_print_30 : decode cX5_print 30 = .ok (.getfield 33, 3) := by decide +kernel
theorem dX5_print_33 : decode cX5_print 33 = .ok (.aload_n 0, 1) := by decide +kernel
theorem dX5_print_34 : decode cX5_print 34 = .ok (.getfield 33, 3) := by decide +kernel
theorem dX5_print_37 : decode cX5_print 37 = .ok (.getfield 105, 3) := by decide +kernel
theorem dX5_print_40 : decode cX5_print 40 = .ok (.invokevirtual 108, 3) := by decide +kernel
theorem dX5_print_43 : decode cX5_print 43 = .ok (.ifCond .eq 6, 3) := by decide +kernel
theorem dX5_print_46 : decode cX5_print 46 = .ok (.bipush (-2), 2) := by decide +kernel
theorem dX5_print_48 : decode cX5_print 48 = .ok (.ireturn, 1) := by decide +kernel
theorem dX5_print_49 : decode cX5_print 49 = .ok (.aload_n 0, 1) := by decide +kernel
theorem dX5_print_50 : decode cX5_print 50 = .ok (.getfield 10, 3) := by decide +kernel
theorem dX5_print_53 : decode cX5_print 53 = .ok (.getfield 112, 3) := by decide +kernel
theorem dX5_print_56 : decode cX5_print 56 = .ok (.iconst 4, 1) := by decide +kernel
theorem dX5_print_57 : decode cX5_print 57 = .ok (.if_icmp .lt 6, 3) := by decide +kernel
theorem dX5_print_60 : decode cX5_print 60 = .ok (.bipush (-3), 2) := by decide +kernel
theorem dX5_print_62 : decode cX5_print 62 = .ok (.ireturn, 1) := by decide +kernel
theorem dX5_print_63 : decode cX5_print 63 = .ok (.aload_n 0, 1) := by decide +kernel
theorem dX5_print_64 : decode cX5_print 64 = .ok (.invokevirtual 52, 3) := by decide +kernel
theorem dX5_print_67 : decode cX5_print 67 = .ok (.aload_n 0, 1) := by decide +kernel
theorem dX5_print_68 : decode cX5_print 68 = .ok (.getfield 10, 3) := by decide +kernel
theorem dX5_print_71 : decode cX5_print 71 = .ok (.aload_n 0, 1) := by decide +kernel
theorem dX5_print_72 : decode cX5_print 72 = .ok (.getfield 33, 3) := by decide +kernel
theorem dX5_print_75 : decode cX5_print 75 = .ok (.invokevirtual 115, 3) := by decide +kernel
theorem dX5_print_78 : decode cX5_print 78 = .ok (.aload_n 0, 1) := by decide +kernel
theorem dX5_print_79 : decode cX5_print 79 = .ok (.getfield 26, 3) := by decide +kernel
theorem dX5_print_82 : decode cX5_print 82 = .ok (.iconst 0, 1) := by decide +kernel
theorem dX5_print_83 : decode cX5_print 83 = .ok (.putfield 118, 3) := by decide +kernel
theorem dX5_print_86 : decode cX5_print 86 = .ok (.aload_n 0, 1) := by decide +kernel
theorem dX5_print_87 : decode cX5_print 87 = .ok (.getfield 10, 3) := by decide +kernel
theorem dX5_print_90 : decode cX5_print 90 = .ok (.getfield 112, 3) := by decide +kernel
theorem dX5_print_93 : decode cX5_print 93 = .ok (.iconst 1, 1) := by decide +kernel
theorem dX5_print_94 : decode cX5_print 94 = .ok (.isub, 1) := by decide +kernel
theorem dX5_print_95 : decode cX5_print 95 = .ok (.ireturn, 1) := by decide +kernel
theorem dX5_drop_0 : decode cX5_drop 0 = .ok (.aload_n 0, 1) := by decide +kernel
theorem dX5_drop_1 : decode cX5_drop 1 = .ok (.getfield 10, 3) := by decide +kernel
theorem dX5_drop_4 : decode cX5_drop 4 = .ok (.iload_n 1, 1) := by decide +kernel
theorem dX5_drop_5 : decode cX5_drop 5 = .ok (.invokevirtual 121, 3) := by decide +kernel
theorem dX5_drop_8 : decode cX5_drop 8 = .ok (.ifnonnull 5, 3) := by decide +kernel
theorem dX5_drop_11 : decode cX5_drop 11 = .ok (.iconst (-1), 1) := by decide +kernel
theorem dX5_drop_12 : decode cX5_drop 12 = .ok (.ireturn, 1) := by decide +kernel
theorem dX5_drop_13 : decode cX5_drop 13 = .ok (.aload_n 0, 1) := by decide +kernel
theorem dX5_drop_14 : decode cX5_drop 14 = .ok (.invokevirtual 52, 3) := by decide +kernel
theorem dX5_drop_17 : decode cX5_drop 17 = .ok (.aload_n 0, 1) := by decide +kernel
theorem dX5_drop_18 : decode cX5_drop 18 = .ok (.getfield 10, 3) := by decide +kernel
theorem dX5_drop_21 : decode cX5_drop 21 = .ok (.iload_n 1, 1) := by decide +kernel
theorem dX5_drop_22 : decode cX5_drop 22 = .ok (.invokevirtual 125, 3) := by decide +kernel
theorem dX5_drop_25 : decode cX5_drop 25 = .ok (.aload_n 0, 1) := by decide +kernel
theorem dX5_drop_26 : decode cX5_drop 26 = .ok (.getfield 10, 3) := by decide +kernel
theorem dX5_drop_29 : decode cX5_drop 29 = .ok (.getfield 112, 3) := by decide +kernel
theorem dX5_drop_32 : decode cX5_drop 32 = .ok (.ireturn, 1) := by decide +kernel
theorem dX5_sue_0 : decode cX5_sue 0 = .ok (.aload_n 0, 1) := by decide +kernel
theorem dX5_sue_1 : decode cX5_sue 1 = .ok (.getfield 10, 3) := by decide +kernel
theorem dX5_sue_4 : decode cX5_sue 4 = .ok (.iload_n 1, 1) := by decide +kernel
theorem dX5_sue_5 : decode cX5_sue 5 = .ok (.invokevirtual 121, 3) := by decide +kernel
theorem dX5_sue_8 : decode cX5_sue 8 = .ok (.astore_n 3, 1) := by decide +kernel
theorem dX5_sue_9 : decode cX5_sue 9 = .ok (.aload_n 3, 1) := by decide +kernel
theorem dX5_sue_10 : decode cX5_sue 10 = .ok (.ifnull 11, 3) := by decide +kernel
theorem dX5_sue_13 : decode cX5_sue 13 = .ok (.aload_n 3, 1) := by decide +kernel
theorem dX5_sue_14 : decode cX5_sue 14 = .ok (.iload_n 2, 1) := by decide +kernel
theorem dX5_sue_15 : decode cX5_sue 15 = .ok (.invokevirtual 129, 3) := by decide +kernel
theorem dX5_sue_18 : decode cX5_sue 18 = .ok (.ifCond .ne 5, 3) := by decide +kernel
theorem dX5_sue_21 : decode cX5_sue 21 = .ok (.iconst (-1), 1) := by decide +kernel
theorem dX5_sue_22 : decode cX5_sue 22 = .ok (.ireturn, 1) := by decide +kernel
theorem dX5_sue_23 : decode cX5_sue 23 = .ok (.aload_n 0, 1) := by decide +kernel
theorem dX5_sue_24 : decode cX5_sue 24 = .ok (.invokevirtual 52, 3) := by decide +kernel
theorem dX5_sue_27 : decode cX5_sue 27 = .ok (.aload_n 0, 1) := by decide +kernel
theorem dX5_sue_28 : decode cX5_sue 28 = .ok (.aload_n 3, 1) := by decide +kernel
theorem dX5_sue_29 : decode cX5_sue 29 = .ok (.iload_n 2, 1) := by decide +kernel
theorem dX5_sue_30 : decode cX5_sue 30 = .ok (.invokevirtual 132, 3) := by decide +kernel
theorem dX5_sue_33 : decode cX5_sue 33 = .ok (.ireturn, 1) := by decide +kernel
theorem dX5_stay_0 : decode cX5_stay 0 = .ok (.aload_n 0, 1) := by decide +kernel
theorem dX5_stay_1 : decode cX5_stay 1 = .ok (.getfield 10, 3) := by decide +kernel
theorem dX5_stay_4 : decode cX5_stay 4 = .ok (.iload_n 1, 1) := by decide +kernel
theorem dX5_stay_5 : decode cX5_stay 5 = .ok (.invokevirtual 121, 3) := by decide +kernel
theorem dX5_stay_8 : decode cX5_stay 8 = .ok (.astore_n 3, 1) := by decide +kernel
theorem dX5_stay_9 : decode cX5_stay 9 = .ok (.aload_n 3, 1) := by decide +kernel
theorem dX5_stay_10 : decode cX5_stay 10 = .ok (.ifnull 13, 3) := by decide +kernel
theorem dX5_stay_13 : decode cX5_stay 13 = .ok (.iload_n 2, 1) := by decide +kernel
theorem dX5_stay_14 : decode cX5_stay 14 = .ok (.iconst 0, 1) := by decide +kernel
theorem dX5_stay_15 : decode cX5_stay 15 = .ok (.bipush 30, 2) := by decide +kernel
theorem dX5_stay_17 : decode cX5_stay 17 = .ok (.invokestatic 48, 3) := by decide +kernel
theorem dX5_stay_20 : decode cX5_stay 20 = .ok (.ifCond .ne 5, 3) := by decide +kernel
theorem dX5_stay_23 : decode cX5_stay 23 = .ok (.iconst (-1), 1) := by decide +kernel
theorem dX5_stay_24 : decode cX5_stay 24 = .ok (.ireturn, 1) := by decide +kernel
theorem dX5_stay_25 : decode cX5_stay 25 = .ok (.aload_n 0, 1) := by decide +kernel
theorem dX5_stay_26 : decode cX5_stay 26 = .ok (.invokevirtual 52, 3) := by decide +kernel
theorem dX5_stay_29 : decode cX5_stay 29 = .ok (.aload_n 3, 1) := by decide +kernel
theorem dX5_stay_30 : decode cX5_stay 30 = .ok (.getfield 136, 3) := by decide +kernel
theorem dX5_stay_33 : decode cX5_stay 33 = .ok (.istore 4, 2) := by decide +kernel
theorem dX5_stay_35 : decode cX5_stay 35 = .ok (.aload_n 3, 1) := by decide +kernel
theorem dX5_stay_36 : decode cX5_stay 36 = .ok (.aload_n 0, 1) := by decide +kernel
theorem dX5_stay_37 : decode cX5_stay 37 = .ok (.getfield 10, 3) := by decide +kernel
theorem dX5_stay_40 : decode cX5_stay 40 = .ok (.getfield 139, 3) := by decide +kernel
theorem dX5_stay_43 : decode cX5_stay 43 = .ok (.iload_n 2, 1) := by decide +kernel
theorem dX5_stay_44 : decode cX5_stay 44 = .ok (.iadd, 1) := by decide +kernel
theorem dX5_stay_45 : decode cX5_stay 45 = .ok (.putfield 136, 3) := by decide +kernel
theorem dX5_stay_48 : decode cX5_stay 48 = .ok (.iload 4, 2) := by decide +kernel
theorem dX5_stay_50 : decode cX5_stay 50 = .ok (.ireturn, 1) := by decide +kernel
theorem dX5_day_0 : decode cX5_day 0 = .ok (.aload_n 0, 1) := by decide +kernel
theorem dX5_day_1 : decode cX5_day 1 = .ok (.invokevirtual 52, 3) := by decide +kernel
theorem dX5_day_4 : decode cX5_day 4 = .ok (.aload_n 0, 1) := by decide +kernel
theorem dX5_day_5 : decode cX5_day 5 = .ok (.getfield 10, 3) := by decide +kernel
theorem dX5_day_8 : decode cX5_day 8 = .ok (.dup, 1) := by decide +kernel
theorem dX5_day_9 : decode cX5_day 9 = .ok (.getfield 139, 3) := by decide +kernel
theorem dX5_day_12 : decode cX5_day 12 = .ok (.iconst 1, 1) := by decide +kernel
theorem dX5_day_13 : decode cX5_day 13 = .ok (.iadd, 1) := by decide +kernel
theorem dX5_day_14 : decode cX5_day 14 = .ok (.putfield 139, 3) := by decide +kernel
theorem dX5_day_17 : decode cX5_day 17 = .ok (.aload_n 0, 1) := by decide +kernel
theorem dX5_day_18 : decode cX5_day 18 = .ok (.getfield 10, 3) := by decide +kernel
theorem dX5_day_21 : decode cX5_day 21 = .ok (.getfield 139, 3) := by decide +kernel
theorem dX5_day_24 : decode cX5_day 24 = .ok (.ireturn, 1) := by decide +kernel
theorem dX5_append_0 : decode cX5_append 0 = .ok (.iload_n 1, 1) := by decide +kernel
theorem dX5_append_1 : decode cX5_append 1 = .ok (.bipush 33, 2) := by decide +kernel
theorem dX5_append_3 : decode cX5_append 3 = .ok (.bipush 126, 2) := by decide +kernel
theorem dX5_append_5 : decode cX5_append 5 = .ok (.invokestatic 48, 3) := by decide +kernel
theorem dX5_append_8 : decode cX5_append 8 = .ok (.ifCond .ne 5, 3) := by decide +kernel
theorem dX5_append_11 : decode cX5_append 11 = .ok (.iconst (-1), 1) := by decide +kernel
theorem dX5_append_12 : decode cX5_append 12 = .ok (.ireturn, 1) := by decide +kernel
theorem dX5_append_13 : decode cX5_append 13 = .ok (.aload_n 0, 1) := by decide +kernel
theorem dX5_append_14 : decode cX5_append 14 = .ok (.getfield 26, 3) := by decide +kernel
theorem dX5_append_17 : decode cX5_append 17 = .ok (.getfield 118, 3) := by decide +kernel
theorem dX5_append_20 : decode cX5_append 20 = .ok (.bipush 60, 2) := by decide +kernel
theorem dX5_append_22 : decode cX5_append 22 = .ok (.if_icmp .lt 6, 3) := by decide +kernel
theorem dX5_append_25 : decode cX5_append 25 = .ok (.bipush (-3), 2) := by decide +kernel
theorem dX5_append_27 : decode cX5_append 27 = .ok (.ireturn, 1) := by decide +kernel
theorem dX5_append_28 : decode cX5_append 28 = .ok (.aload_n 0, 1) := by decide +kernel
theorem dX5_append_29 : decode cX5_append 29 = .ok (.getfield 26, 3) := by decide +kernel
theorem dX5_append_32 : decode cX5_append 32 = .ok (.getfield 142, 3) := by decide +kernel
theorem dX5_append_35 : decode cX5_append 35 = .ok (.aload_n 0, 1) := by decide +kernel
theorem dX5_append_36 : decode cX5_append 36 = .ok (.getfield 26, 3) := by decide +kernel
theorem dX5_append_39 : decode cX5_append 39 = .ok (.getfield 118, 3) := by decide +kernel
theorem dX5_append_42 : decode cX5_append 42 = .ok (.iload_n 1, 1) := by decide +kernel
theorem dX5_append_43 : decode cX5_append 43 = .ok (.invokestatic 63, 3) := by decide +kernel
theorem dX5_append_46 : decode cX5_append 46 = .ok (.aload_n 0, 1) := by decide +kernel
theorem dX5_append_47 : decode cX5_append 47 = .ok (.getfield 26, 3) := by decide +kernel
theorem dX5_append_50 : decode cX5_append 50 = .ok (.dup, 1) := by decide +kernel
theorem dX5_append_51 : decode cX5_append 51 = .ok (.getfield 118, 3) := by decide +kernel
theorem dX5_append_54 : decode cX5_append 54 = .ok (.iconst 1, 1) := by decide +kernel
theorem dX5_append_55 : decode cX5_append 55 = .ok (.iadd, 1) := by decide +kernel
theorem dX5_append_56 : decode cX5_append 56 = .ok (.putfield 118, 3) := by decide +kernel
theorem dX5_append_59 : decode cX5_append 59 = .ok (.aload_n 0, 1) := by decide +kernel
theorem dX5_append_60 : decode cX5_append 60 = .ok (.getfield 26, 3) := by decide +kernel
theorem dX5_append_63 : decode cX5_append 63 = .ok (.getfield 118, 3) := by decide +kernel
theorem dX5_append_66 : decode cX5_append 66 = .ok (.ireturn, 1) := by decide +kernel
theorem dX5_clear_0 : decode cX5_clear 0 = .ok (.aload_n 0, 1) := by decide +kernel
theorem dX5_clear_1 : decode cX5_clear 1 = .ok (.getfield 26, 3) := by decide +kernel
theorem dX5_clear_4 : decode cX5_clear 4 = .ok (.getfield 118, 3) := by decide +kernel
theorem dX5_clear_7 : decode cX5_clear 7 = .ok (.istore_n 1, 1) := by decide +kernel
theorem dX5_clear_8 : decode cX5_clear 8 = .ok (.aload_n 0, 1) := by decide +kernel
theorem dX5_clear_9 : decode cX5_clear 9 = .ok (.getfield 26, 3) := by decide +kernel
theorem dX5_clear_12 : decode cX5_clear 12 = .ok (.iconst 0, 1) := by decide +kernel
theorem dX5_clear_13 : decode cX5_clear 13 = .ok (.putfield 118, 3) := by decide +kernel
theorem dX5_clear_16 : decode cX5_clear 16 = .ok (.iload_n 1, 1) := by decide +kernel
theorem dX5_clear_17 : decode cX5_clear 17 = .ok (.ireturn, 1) := by decide +kernel
theorem dX5_fault_0 : decode cX5_fault 0 = .ok (.iload_n 1, 1) := by decide +kernel
theorem dX5_fault_1 : decode cX5_fault 1 = .ok (.iconst 0, 1) := by decide +kernel
theorem dX5_fault_2 : decode cX5_fault 2 = .ok (.iconst 1, 1) := by decide +kernel
theorem dX5_fault_3 : decode cX5_fault 3 = .ok (.invokestatic 48, 3) := by decide +kernel
theorem dX5_fault_6 : decode cX5_fault 6 = .ok (.ifCond .ne 5, 3) := by decide +kernel
theorem dX5_fault_9 : decode cX5_fault 9 = .ok (.iconst (-1), 1) := by decide +kernel
theorem dX5_fault_10 : decode cX5_fault 10 = .ok (.ireturn, 1) := by decide +kernel
theorem dX5_fault_11 : decode cX5_fault 11 = .ok (.iload_n 1, 1) := by decide +kernel
theorem dX5_fault_12 : decode cX5_fault 12 = .ok (.ifCond .ne 13, 3) := by decide +kernel
theorem dX5_fault_15 : decode cX5_fault 15 = .ok (.aload_n 0, 1) := by decide +kernel
theorem dX5_fault_16 : decode cX5_fault 16 = .ok (.getfield 26, 3) := by decide +kernel
theorem dX5_fault_19 : decode cX5_fault 19 = .ok (.invokevirtual 98, 3) := by decide +kernel
theorem dX5_fault_22 : decode cX5_fault 22 = .ok (.goto 10, 3) := by decide +kernel
theorem dX5_fault_25 : decode cX5_fault 25 = .ok (.aload_n 0, 1) := by decide +kernel
theorem dX5_fault_26 : decode cX5_fault 26 = .ok (.getfield 26, 3) := by decide +kernel
theorem dX5_fault_29 : decode cX5_fault 29 = .ok (.invokevirtual 145, 3) := by decide +kernel
theorem dX5_fault_32 : decode cX5_fault 32 = .ok (.istore_n 2, 1) := by decide +kernel
theorem dX5_fault_33 : decode cX5_fault 33 = .ok (.iload_n 2, 1) := by decide +kernel
theorem dX5_fault_34 : decode cX5_fault 34 = .ok (.iconst (-1), 1) := by decide +kernel
theorem dX5_fault_35 : decode cX5_fault 35 = .ok (.if_icmp .ne 8, 3) := by decide +kernel
theorem dX5_fault_38 : decode cX5_fault 38 = .ok (.bipush (-4), 2) := by decide +kernel
theorem dX5_fault_40 : decode cX5_fault 40 = .ok (.goto 4, 3) := by decide +kernel
theorem dX5_fault_43 : decode cX5_fault 43 = .ok (.iload_n 2, 1) := by decide +kernel
theorem dX5_fault_44 : decode cX5_fault 44 = .ok (.ireturn, 1) := by decide +kernel
theorem dX5_plead_0 : decode cX5_plead 0 = .ok (.aload_n 0, 1) := by decide +kernel
theorem dX5_plead_1 : decode cX5_plead 1 = .ok (.getfield 26, 3) := by decide +kernel
theorem dX5_plead_4 : decode cX5_plead 4 = .ok (.invokevirtual 145, 3) := by decide +kernel
theorem dX5_plead_7 : decode cX5_plead 7 = .ok (.iconst (-1), 1) := by decide +kernel
theorem dX5_plead_8 : decode cX5_plead 8 = .ok (.if_icmp .eq 6, 3) := by decide +kernel
theorem dX5_plead_11 : decode cX5_plead 11 = .ok (.bipush (-2), 2) := by decide +kernel
theorem dX5_plead_13 : decode cX5_plead 13 = .ok (.ireturn, 1) := by decide +kernel
theorem dX5_plead_14 : decode cX5_plead 14 = .ok (.aload_n 0, 1) := by decide +kernel
theorem dX5_plead_15 : decode cX5_plead 15 = .ok (.invokevirtual 52, 3) := by decide +kernel
theorem dX5_plead_18 : decode cX5_plead 18 = .ok (.aload_n 0, 1) := by decide +kernel
theorem dX5_plead_19 : decode cX5_plead 19 = .ok (.iconst 0, 1) := by decide +kernel
theorem dX5_plead_20 : decode cX5_plead 20 = .ok (.putfield 148, 3) := by decide +kernel
theorem dX5_plead_23 : decode cX5_plead 23 = .ok (.iconst 0, 1) := by decide +kernel
theorem dX5_plead_24 : decode cX5_plead 24 = .ok (.istore_n 1, 1) := by decide +kernel
theorem dX5_plead_25 : decode cX5_plead 25 = .ok (.iconst 0, 1) := by decide +kernel
theorem dX5_plead_26 : decode cX5_plead 26 = .ok (.istore_n 2, 1) := by decide +kernel
theorem dX5_plead_27 : decode cX5_plead 27 = .ok (.iload_n 2, 1) := by decide +kernel
theorem dX5_plead_28 : decode cX5_plead 28 = .ok (.aload_n 0, 1) := by decide +kernel
theorem dX5_plead_29 : decode cX5_plead 29 = .ok (.getfield 26, 3) := by decide +kernel
theorem dX5_plead_32 : decode cX5_plead 32 = .ok (.getfield 118, 3) := by decide +kernel
theorem dX5_plead_35 : decode cX5_plead 35 = .ok (.if_icmp .ge 63, 3) := by decide +kernel
theorem dX5_plead_38 : decode cX5_plead 38 = .ok (.aload_n 0, 1) := by decide +kernel
theorem dX5_plead_39 : decode cX5_plead 39 = .ok (.getfield 148, 3) := by decide +kernel
theorem dX5_plead_42 : decode cX5_plead 42 = .ok (.ifCond .ne 56, 3) := by decide +kernel
theorem dX5_plead_45 : decode cX5_plead 45 = .ok (.aload_n 0, 1) := by decide +kernel
theorem dX5_plead_46 : decode cX5_plead 46 = .ok (.getfield 26, 3) := by decide +kernel
theorem dX5_plead_49 : decode cX5_plead 49 = .ok (.iload_n 2, 1) := by decide +kernel
theorem dX5_plead_50 : decode cX5_plead 50 = .ok (.invokevirtual 151, 3) := by decide +kernel
theorem dX5_plead_53 : decode cX5_plead 53 = .ok (.ifCond .eq 39, 3) := by decide +kernel
theorem dX5_plead_56 : decode cX5_plead 56 = .ok (.aload_n 0, 1) := by decide +kernel
theorem dX5_plead_57 : decode cX5_plead 57 = .ok (.iload_n 2, 1) := by decide +kernel
theorem dX5_plead_58 : decode cX5_plead 58 = .ok (.invokevirtual 154, 3) := by decide +kernel
theorem dX5_plead_61 : decode cX5_plead 61 = .ok (.istore_n 3, 1) := by decide +kernel
theorem dX5_plead_62 : decode cX5_plead 62 = .ok (.iload_n 3, 1) := by decide +kernel
theorem dX5_plead_63 : decode cX5_plead 63 = .ok (.ifCond .ne 9, 3) := by decide +kernel
theorem dX5_plead_66 : decode cX5_plead 66 = .ok (.iinc 1 1, 3) := by decide +kernel
theorem dX5_plead_69 : decode cX5_plead 69 = .ok (.goto 23, 3) := by decide +kernel
theorem dX5_plead_72 : decode cX5_plead 72 = .ok (.aload_n 0, 1) := by decide +kernel
theorem dX5_plead_73 : decode cX5_plead 73 = .ok (.iconst 1, 1) := by decide +kernel
theorem dX5_plead_74 : decode cX5_plead 74 = .ok (.putfield 148, 3) := by decide +kernel
theorem dX5_plead_77 : decode cX5_plead 77 = .ok (.aload_n 0, 1) := by decide +kernel
theorem dX5_plead_78 : decode cX5_plead 78 = .ok (.iload_n 3, 1) := by decide +kernel
theorem dX5_plead_79 : decode cX5_plead 79 = .ok (.putfield 158, 3) := by decide +kernel
theorem dX5_plead_82 : decode cX5_plead 82 = .ok (.aload_n 0, 1) := by decide +kernel
theorem dX5_plead_83 : decode cX5_plead 83 = .ok (.iload_n 1, 1) := by decide +kernel
theorem dX5_plead_84 : decode cX5_plead 84 = .ok (.putfield 161, 3) := by decide +kernel
theorem dX5_plead_87 : decode cX5_plead 87 = .ok (.aload_n 0, 1) := by decide +kernel
theorem dX5_plead_88 : decode cX5_plead 88 = .ok (.iload_n 2, 1) := by decide +kernel
theorem dX5_plead_89 : decode cX5_plead 89 = .ok (.putfield 164, 3) := by decide +kernel
theorem dX5_plead_92 : decode cX5_plead 92 = .ok (.iinc 2 1, 3) := by decide +kernel
theorem dX5_plead_95 : decode cX5_plead 95 = .ok (.goto (-68), 3) := by decide +kernel
theorem dX5_plead_98 : decode cX5_plead 98 = .ok (.aload_n 0, 1) := by decide +kernel
theorem dX5_plead_99 : decode cX5_plead 99 = .ok (.getfield 26, 3) := by decide +kernel
theorem dX5_plead_102 : decode cX5_plead 102 = .ok (.iconst 0, 1) := by decide +kernel
theorem dX5_plead_103 : decode cX5_plead 103 = .ok (.putfield 118, 3) := by decide +kernel
theorem dX5_plead_106 : decode cX5_plead 106 = .ok (.iload_n 1, 1) := by decide +kernel
theorem dX5_plead_107 : decode cX5_plead 107 = .ok (.ireturn, 1) := by decide +kernel
theorem dX5_why_0 : decode cX5_why 0 = .ok (.iload_n 1, 1) := by decide +kernel
theorem dX5_why_1 : decode cX5_why 1 = .ok (.iconst 0, 1) := by decide +kernel
theorem dX5_why_2 : decode cX5_why 2 = .ok (.iconst 2, 1) := by decide +kernel
theorem dX5_why_3 : decode cX5_why 3 = .ok (.invokestatic 48, 3) := by decide +kernel
theorem dX5_why_6 : decode cX5_why 6 = .ok (.ifCond .ne 5, 3) := by decide +kernel
theorem dX5_why_9 : decode cX5_why 9 = .ok (.iconst (-1), 1) := by decide +kernel
theorem dX5_why_10 : decode cX5_why 10 = .ok (.ireturn, 1) := by decide +kernel
theorem dX5_why_11 : decode cX5_why 11 = .ok (.aload_n 0, 1) := by decide +kernel
theorem dX5_why_12 : decode cX5_why 12 = .ok (.getfield 148, 3) := by decide +kernel
theorem dX5_why_15 : decode cX5_why 15 = .ok (.ifCond .ne 6, 3) := by decide +kernel
theorem dX5_why_18 : decode cX5_why 18 = .ok (.bipush (-4), 2) := by decide +kernel
theorem dX5_why_20 : decode cX5_why 20 = .ok (.ireturn, 1) := by decide +kernel
theorem dX5_why_21 : decode cX5_why 21 = .ok (.iload_n 1, 1) := by decide +kernel
theorem dX5_why_22 : decode cX5_why 22 = .ok (.lookupswitch 36 #[(0, 26), (1, 31)], 26) := by decide +kernel
theorem dX5_why_48 : decode cX5_why 48 = .ok (.aload_n 0, 1) := by decide +kernel
theorem dX5_why_49 : decode cX5_why 49 = .ok (.getfield 158, 3) := by decide +kernel
theorem dX5_why_52 : decode cX5_why 52 = .ok (.ireturn, 1) := by decide +kernel
theorem dX5_why_53 : decode cX5_why 53 = .ok (.aload_n 0, 1) := by decide +kernel
theorem dX5_why_54 : decode cX5_why 54 = .ok (.getfield 161, 3) := by decide +kernel
theorem dX5_why_57 : decode cX5_why 57 = .ok (.ireturn, 1) := by decide +kernel
theorem dX5_why_58 : decode cX5_why 58 = .ok (.aload_n 0, 1) := by decide +kernel
theorem dX5_why_59 : decode cX5_why 59 = .ok (.getfield 164, 3) := by decide +kernel
theorem dX5_why_62 : decode cX5_why 62 = .ok (.ireturn, 1) := by decide +kernel
theorem dX5_sign_0 : decode cX5_sign 0 = .ok (.aload_n 0, 1) := by decide +kernel
theorem dX5_sign_1 : decode cX5_sign 1 = .ok (.getfield 10, 3) := by decide +kernel
theorem dX5_sign_4 : decode cX5_sign 4 = .ok (.iload_n 1, 1) := by decide +kernel
theorem dX5_sign_5 : decode cX5_sign 5 = .ok (.invokevirtual 121, 3) := by decide +kernel
theorem dX5_sign_8 : decode cX5_sign 8 = .ok (.astore_n 3, 1) := by decide +kernel
theorem dX5_sign_9 : decode cX5_sign 9 = .ok (.aload_n 3, 1) := by decide +kernel
theorem dX5_sign_10 : decode cX5_sign 10 = .ok (.ifnull 7, 3) := by decide +kernel
theorem dX5_sign_13 : decode cX5_sign 13 = .ok (.iload_n 2, 1) := by decide +kernel
theorem dX5_sign_14 : decode cX5_sign 14 = .ok (.ifCond .ge 5, 3) := by decide +kernel
theorem dX5_sign_17 : decode cX5_sign 17 = .ok (.iconst (-1), 1) := by decide +kernel
theorem dX5_sign_18 : decode cX5_sign 18 = .ok (.ireturn, 1) := by decide +kernel
theorem dX5_sign_19 : decode cX5_sign 19 = .ok (.aload_n 3, 1) := by decide +kernel
theorem dX5_sign_20 : decode cX5_sign 20 = .ok (.iload_n 2, 1) := by decide +kernel
theorem dX5_sign_21 : decode cX5_sign 21 = .ok (.invokevirtual 167, 3) := by decide +kernel
theorem dX5_sign_24 : decode cX5_sign 24 = .ok (.ireturn, 1) := by decide +kernel
theorem dX5_edition_0 : decode cX5_edition 0 = .ok (.aload_n 0, 1) := by decide +kernel
theorem dX5_edition_1 : decode cX5_edition 1 = .ok (.getfield 10, 3) := by decide +kernel
theorem dX5_edition_4 : decode cX5_edition 4 = .ok (.iload_n 1, 1) := by decide +kernel
theorem dX5_edition_5 : decode cX5_edition 5 = .ok (.invokevirtual 121, 3) := by decide +kernel
theorem dX5_edition_8 : decode cX5_edition 8 = .ok (.astore_n 3, 1) := by decide +kernel
theorem dX5_edition_9 : decode cX5_edition 9 = .ok (.aload_n 3, 1) := by decide +kernel
theorem dX5_edition_10 : decode cX5_edition 10 = .ok (.ifnonnull 5, 3) := by decide +kernel
theorem dX5_edition_13 : decode cX5_edition 13 = .ok (.iconst (-1), 1) := by decide +kernel
theorem dX5_edition_14 : decode cX5_edition 14 = .ok (.ireturn, 1) := by decide +kernel
theorem dX5_edition_15 : decode cX5_edition 15 = .ok (.aload_n 0, 1) := by decide +kernel
theorem dX5_edition_16 : decode cX5_edition 16 = .ok (.getfield 40, 3) := by decide +kernel
theorem dX5_edition_19 : decode cX5_edition 19 = .ok (.aload_n 0, 1) := by decide +kernel
theorem dX5_edition_20 : decode cX5_edition 20 = .ok (.getfield 10, 3) := by decide +kernel
theorem dX5_edition_23 : decode cX5_edition 23 = .ok (.aload_n 3, 1) := by decide +kernel
theorem dX5_edition_24 : decode cX5_edition 24 = .ok (.invokevirtual 170, 3) := by decide +kernel
theorem dX5_edition_27 : decode cX5_edition 27 = .ok (.iload_n 2, 1) := by decide +kernel
theorem dX5_edition_28 : decode cX5_edition 28 = .ok (.tableswitch 142 0 9 #[56, 61, 66, 71, 79, 91, 103, 115, 132, 137], 56) := by decide +kernel
theorem dX5_edition_84 : decode cX5_edition 84 = .ok (.aload_n 3, 1) := by decide +kernel
theorem dX5_edition_85 : decode cX5_edition 85 = .ok (.getfield 174, 3) := by decide +kernel
theorem dX5_edition_88 : decode cX5_edition 88 = .ok (.ireturn, 1) := by decide +kernel
theorem dX5_edition_89 : decode cX5_edition 89 = .ok (.aload_n 3, 1) := by decide +kernel
theorem dX5_edition_90 : decode cX5_edition 90 = .ok (.getfield 105, 3) := by decide +kernel
theorem dX5_edition_93 : decode cX5_edition 93 = .ok (.ireturn, 1) := by decide +kernel
theorem dX5_edition_94 : decode cX5_edition 94 = .ok (.aload_n 3, 1) := by decide +kernel
theorem dX5_edition_95 : decode cX5_edition 95 = .ok (.invokevirtual 177, 3) := by decide +kernel
theorem dX5_edition_98 : decode cX5_edition 98 = .ok (.ireturn, 1) := by decide +kernel
theorem dX5_edition_99 : decode cX5_edition 99 = .ok (.aload_n 0, 1) := by decide +kernel
theorem dX5_edition_100 : decode cX5_edition 100 = .ok (.getfield 40, 3) := by decide +kernel
theorem dX5_edition_103 : decode cX5_edition 103 = .ok (.invokevirtual 180, 3) := by decide +kernel
theorem dX5_edition_106 : decode cX5_edition 106 = .ok (.ireturn, 1) := by decide +kernel
theorem dX5_edition_107 : decode cX5_edition 107 = .ok (.aload_n 0, 1) := by decide +kernel
theorem dX5_edition_108 : decode cX5_edition 108 = .ok (.getfield 40, 3) := by decide +kernel
theorem dX5_edition_111 : decode cX5_edition 111 = .ok (.aload_n 3, 1) := by decide +kernel
theorem dX5_edition_112 : decode cX5_edition 112 = .ok (.getfield 105, 3) := by decide +kernel
theorem dX5_edition_115 : decode cX5_edition 115 = .ok (.invokevirtual 183, 3) := by decide +kernel
theorem dX5_edition_118 : decode cX5_edition 118 = .ok (.ireturn, 1) := by decide +kernel
theorem dX5_edition_119 : decode cX5_edition 119 = .ok (.aload_n 0, 1) := by decide +kernel
theorem dX5_edition_120 : decode cX5_edition 120 = .ok (.getfield 40, 3) := by decide +kernel
theorem dX5_edition_123 : decode cX5_edition 123 = .ok (.aload_n 3, 1) := by decide +kernel
theorem dX5_edition_124 : decode cX5_edition 124 = .ok (.getfield 105, 3) := by decide +kernel
theorem dX5_edition_127 : decode cX5_edition 127 = .ok (.invokevirtual 186, 3) := by decide +kernel
theorem dX5_edition_130 : decode cX5_edition 130 = .ok (.ireturn, 1) := by decide +kernel
theorem dX5_edition_131 : decode cX5_edition 131 = .ok (.aload_n 0, 1) := by decide +kernel
theorem dX5_edition_132 : decode cX5_edition 132 = .ok (.getfield 40, 3) := by decide +kernel
theorem dX5_edition_135 : decode cX5_edition 135 = .ok (.aload_n 3, 1) := by decide +kernel
theorem dX5_edition_136 : decode cX5_edition 136 = .ok (.getfield 105, 3) := by decide +kernel
theorem dX5_edition_139 : decode cX5_edition 139 = .ok (.invokevirtual 189, 3) := by decide +kernel
theorem dX5_edition_142 : decode cX5_edition 142 = .ok (.ireturn, 1) := by decide +kernel
theorem dX5_edition_143 : decode cX5_edition 143 = .ok (.aload_n 0, 1) := by decide +kernel
theorem dX5_edition_144 : decode cX5_edition 144 = .ok (.getfield 10, 3) := by decide +kernel
theorem dX5_edition_147 : decode cX5_edition 147 = .ok (.aload_n 3, 1) := by decide +kernel
theorem dX5_edition_148 : decode cX5_edition 148 = .ok (.invokevirtual 192, 3) := by decide +kernel
theorem dX5_edition_151 : decode cX5_edition 151 = .ok (.ifCond .eq 7, 3) := by decide +kernel
theorem dX5_edition_154 : decode cX5_edition 154 = .ok (.iconst 1, 1) := by decide +kernel
theorem dX5_edition_155 : decode cX5_edition 155 = .ok (.goto 4, 3) := by decide +kernel
theorem dX5_edition_158 : decode cX5_edition 158 = .ok (.iconst 0, 1) := by decide +kernel
theorem dX5_edition_159 : decode cX5_edition 159 = .ok (.ireturn, 1) := by decide +kernel
theorem dX5_edition_160 : decode cX5_edition 160 = .ok (.aload_n 3, 1) := by decide +kernel
theorem dX5_edition_161 : decode cX5_edition 161 = .ok (.getfield 136, 3) := by decide +kernel
theorem dX5_edition_164 : decode cX5_edition 164 = .ok (.ireturn, 1) := by decide +kernel
theorem dX5_edition_165 : decode cX5_edition 165 = .ok (.aload_n 3, 1) := by decide +kernel
theorem dX5_edition_166 : decode cX5_edition 166 = .ok (.getfield 196, 3) := by decide +kernel
theorem dX5_edition_169 : decode cX5_edition 169 = .ok (.ireturn, 1) := by decide +kernel
theorem dX5_edition_170 : decode cX5_edition 170 = .ok (.iconst (-1), 1) := by decide +kernel
theorem dX5_edition_171 : decode cX5_edition 171 = .ok (.ireturn, 1) := by decide +kernel
theorem dX5_gap_0 : decode cX5_gap 0 = .ok (.aload_n 0, 1) := by decide +kernel
theorem dX5_gap_1 : decode cX5_gap 1 = .ok (.getfield 10, 3) := by decide +kernel
theorem dX5_gap_4 : decode cX5_gap 4 = .ok (.iload_n 1, 1) := by decide +kernel
theorem dX5_gap_5 : decode cX5_gap 5 = .ok (.invokevirtual 121, 3) := by decide +kernel
theorem dX5_gap_8 : decode cX5_gap 8 = .ok (.astore 4, 2) := by decide +kernel
theorem dX5_gap_10 : decode cX5_gap 10 = .ok (.aload 4, 2) := by decide +kernel
theorem dX5_gap_12 : decode cX5_gap 12 = .ok (.ifnull 12, 3) := by decide +kernel
theorem dX5_gap_15 : decode cX5_gap 15 = .ok (.aload 4, 2) := by decide +kernel
theorem dX5_gap_17 : decode cX5_gap 17 = .ok (.iload_n 2, 1) := by decide +kernel
theorem dX5_gap_18 : decode cX5_gap 18 = .ok (.invokevirtual 129, 3) := by decide +kernel
theorem dX5_gap_21 : decode cX5_gap 21 = .ok (.ifCond .ne 5, 3) := by decide +kernel
theorem dX5_gap_24 : decode cX5_gap 24 = .ok (.iconst (-1), 1) := by decide +kernel
theorem dX5_gap_25 : decode cX5_gap 25 = .ok (.ireturn, 1) := by decide +kernel
theorem dX5_gap_26 : decode cX5_gap 26 = .ok (.iload_n 3, 1) := by decide +kernel
theorem dX5_gap_27 : decode cX5_gap 27 = .ok (.tableswitch 110 0 3 #[29, 44, 55, 66], 29) := by decide +kernel
theorem dX5_gap_56 : decode cX5_gap 56 = .ok (.aload 4, 2) := by decide +kernel
theorem dX5_gap_58 : decode cX5_gap 58 = .ok (.iload_n 2, 1) := by decide +kernel
theorem dX5_gap_59 : decode cX5_gap 59 = .ok (.invokevirtual 199, 3) := by decide +kernel
theorem dX5_gap_62 : decode cX5_gap 62 = .ok (.ifCond .eq 7, 3) := by decide +kernel
theorem dX5_gap_65 : decode cX5_gap 65 = .ok (.iconst 1, 1) := by decide +kernel
theorem dX5_gap_66 : decode cX5_gap 66 = .ok (.goto 4, 3) := by decide +kernel
theorem dX5_gap_69 : decode cX5_gap 69 = .ok (.iconst 0, 1) := by decide +kernel
theorem dX5_gap_70 : decode cX5_gap 70 = .ok (.ireturn, 1) := by decide +kernel
theorem dX5_gap_71 : decode cX5_gap 71 = .ok (.aload_n 0, 1) := by decide +kernel
theorem dX5_gap_72 : decode cX5_gap 72 = .ok (.getfield 10, 3) := by decide +kernel
theorem dX5_gap_75 : decode cX5_gap 75 = .ok (.aload 4, 2) := by decide +kernel
theorem dX5_gap_77 : decode cX5_gap 77 = .ok (.iload_n 2, 1) := by decide +kernel
theorem dX5_gap_78 : decode cX5_gap 78 = .ok (.invokevirtual 202, 3) := by decide +kernel
theorem dX5_gap_81 : decode cX5_gap 81 = .ok (.ireturn, 1) := by decide +kernel
theorem dX5_gap_82 : decode cX5_gap 82 = .ok (.aload_n 0, 1) := by decide +kernel
theorem dX5_gap_83 : decode cX5_gap 83 = .ok (.getfield 10, 3) := by decide +kernel
theorem dX5_gap_86 : decode cX5_gap 86 = .ok (.aload 4, 2) := by decide +kernel
theorem dX5_gap_88 : decode cX5_gap 88 = .ok (.iload_n 2, 1) := by decide +kernel
theorem dX5_gap_89 : decode cX5_gap 89 = .ok (.invokevirtual 205, 3) := by decide +kernel
theorem dX5_gap_92 : decode cX5_gap 92 = .ok (.ireturn, 1) := by decide +kernel
theorem dX5_gap_93 : decode cX5_gap 93 = .ok (.aload_n 0, 1) := by decide +kernel
theorem dX5_gap_94 : decode cX5_gap 94 = .ok (.getfield 40, 3) := by decide +kernel
theorem dX5_gap_97 : decode cX5_gap 97 = .ok (.aload_n 0, 1) := by decide +kernel
theorem dX5_gap_98 : decode cX5_gap 98 = .ok (.getfield 10, 3) := by decide +kernel
theorem dX5_gap_101 : decode cX5_gap 101 = .ok (.aload 4, 2) := by decide +kernel
theorem dX5_gap_103 : decode cX5_gap 103 = .ok (.invokevirtual 170, 3) := by decide +kernel
theorem dX5_gap_106 : decode cX5_gap 106 = .ok (.sipush 1000, 3) := by decide +kernel
theorem dX5_gap_109 : decode cX5_gap 109 = .ok (.aload_n 0, 1) := by decide +kernel
theorem dX5_gap_110 : decode cX5_gap 110 = .ok (.getfield 40, 3) := by decide +kernel
theorem dX5_gap_113 : decode cX5_gap 113 = .ok (.aload 4, 2) := by decide +kernel
theorem dX5_gap_115 : decode cX5_gap 115 = .ok (.iload_n 2, 1) := by decide +kernel
theorem dX5_gap_116 : decode cX5_gap 116 = .ok (.invokevirtual 208, 3) := by decide +kernel
theorem dX5_gap_119 : decode cX5_gap 119 = .ok (.invokevirtual 189, 3) := by decide +kernel
theorem dX5_gap_122 : decode cX5_gap 122 = .ok (.iadd, 1) := by decide +kernel
theorem dX5_gap_123 : decode cX5_gap 123 = .ok (.aload_n 0, 1) := by decide +kernel
theorem dX5_gap_124 : decode cX5_gap 124 = .ok (.getfield 40, 3) := by decide +kernel
theorem dX5_gap_127 : decode cX5_gap 127 = .ok (.aload 4, 2) := by decide +kernel
theorem dX5_gap_129 : decode cX5_gap 129 = .ok (.getfield 105, 3) := by decide +kernel
theorem dX5_gap_132 : decode cX5_gap 132 = .ok (.invokevirtual 189, 3) := by decide +kernel
theorem dX5_gap_135 : decode cX5_gap 135 = .ok (.isub, 1) := by decide +kernel
theorem dX5_gap_136 : decode cX5_gap 136 = .ok (.ireturn, 1) := by decide +kernel
theorem dX5_gap_137 : decode cX5_gap 137 = .ok (.iconst (-1), 1) := by decide +kernel
theorem dX5_gap_138 : decode cX5_gap 138 = .ok (.ireturn, 1) := by decide +kernel
theorem dX5_ruling_0 : decode cX5_ruling 0 = .ok (.aload_n 0, 1) := by decide +kernel
theorem dX5_ruling_1 : decode cX5_ruling 1 = .ok (.getfield 10, 3) := by decide +kernel
theorem dX5_ruling_4 : decode cX5_ruling 4 = .ok (.iload_n 1, 1) := by decide +kernel
theorem dX5_ruling_5 : decode cX5_ruling 5 = .ok (.invokevirtual 81, 3) := by decide +kernel
theorem dX5_ruling_8 : decode cX5_ruling 8 = .ok (.astore_n 3, 1) := by decide +kernel
theorem dX5_ruling_9 : decode cX5_ruling 9 = .ok (.aload_n 3, 1) := by decide +kernel
theorem dX5_ruling_10 : decode cX5_ruling 10 = .ok (.ifnonnull 5, 3) := by decide +kernel
theorem dX5_ruling_13 : decode cX5_ruling 13 = .ok (.iconst (-1), 1) := by decide +kernel
theorem dX5_ruling_14 : decode cX5_ruling 14 = .ok (.ireturn, 1) := by decide +kernel
theorem dX5_ruling_15 : decode cX5_ruling 15 = .ok (.iload_n 2, 1) := by decide +kernel
theorem dX5_ruling_16 : decode cX5_ruling 16 = .ok (.tableswitch 146 0 8 #[52, 57, 62, 75, 80, 98, 111, 128, 137], 52) := by decide +kernel
theorem dX5_ruling_68 : decode cX5_ruling 68 = .ok (.aload_n 3, 1) := by decide +kernel
theorem dX5_ruling_69 : decode cX5_ruling 69 = .ok (.getfield 211, 3) := by decide +kernel
theorem dX5_ruling_72 : decode cX5_ruling 72 = .ok (.ireturn, 1) := by decide +kernel
theorem dX5_ruling_73 : decode cX5_ruling 73 = .ok (.aload_n 3, 1) := by decide +kernel
theorem dX5_ruling_74 : decode cX5_ruling 74 = .ok (.getfield 214, 3) := by decide +kernel
theorem dX5_ruling_77 : decode cX5_ruling 77 = .ok (.ireturn, 1) := by decide +kernel
theorem dX5_ruling_78 : decode cX5_ruling 78 = .ok (.aload_n 3, 1) := by decide +kernel
theorem dX5_ruling_79 : decode cX5_ruling 79 = .ok (.getfield 217, 3) := by decide +kernel
theorem dX5_ruling_82 : decode cX5_ruling 82 = .ok (.ifCond .eq 7, 3) := by decide +kernel
theorem dX5_ruling_85 : decode cX5_ruling 85 = .ok (.iconst 1, 1) := by decide +kernel
theorem dX5_ruling_86 : decode cX5_ruling 86 = .ok (.goto 4, 3) := by decide +kernel
theorem dX5_ruling_89 : decode cX5_ruling 89 = .ok (.iconst 0, 1) := by decide +kernel
theorem dX5_ruling_90 : decode cX5_ruling 90 = .ok (.ireturn, 1) := by decide +kernel
theorem dX5_ruling_91 : decode cX5_ruling 91 = .ok (.aload_n 3, 1) := by decide +kernel
theorem dX5_ruling_92 : decode cX5_ruling 92 = .ok (.getfield 220, 3) := by decide +kernel
theorem dX5_ruling_95 : decode cX5_ruling 95 = .ok (.ireturn, 1) := by decide +kernel
theorem dX5_ruling_96 : decode cX5_ruling 96 = .ok (.aload_n 3, 1) := by decide +kernel
theorem dX5_ruling_97 : decode cX5_ruling 97 = .ok (.getfield 223, 3) := by decide +kernel
theorem dX5_ruling_100 : decode cX5_ruling 100 = .ok (.iconst (-1), 1) := by decide +kernel
theorem dX5_ruling_101 : decode cX5_ruling 101 = .ok (.if_icmp .ne 8, 3) := by decide +kernel
theorem dX5_ruling_104 : decode cX5_ruling 104 = .ok (.bipush (-4), 2) := by decide +kernel
theorem dX5_ruling_106 : decode cX5_ruling 106 = .ok (.goto 7, 3) := by decide +kernel
theorem dX5_ruling_109 : decode cX5_ruling 109 = .ok (.aload_n 3, 1) := by decide +kernel
theorem dX5_ruling_110 : decode cX5_ruling 110 = .ok (.getfield 223, 3) := by decide +kernel
theorem dX5_ruling_113 : decode cX5_ruling 113 = .ok (.ireturn, 1) := by decide +kernel
theorem dX5_ruling_114 : decode cX5_ruling 114 = .ok (.aload_n 3, 1) := by decide +kernel
theorem dX5_ruling_115 : decode cX5_ruling 115 = .ok (.getfield 226, 3) := by decide +kernel
theorem dX5_ruling_118 : decode cX5_ruling 118 = .ok (.ifCond .eq 7, 3) := by decide +kernel
theorem dX5_ruling_121 : decode cX5_ruling 121 = .ok (.iconst 1, 1) := by decide +kernel
theorem dX5_ruling_122 : decode cX5_ruling 122 = .ok (.goto 4, 3) := by decide +kernel
theorem dX5_ruling_125 : decode cX5_ruling 125 = .ok (.iconst 0, 1) := by decide +kernel
theorem dX5_ruling_126 : decode cX5_ruling 126 = .ok (.ireturn, 1) := by decide +kernel
theorem dX5_ruling_127 : decode cX5_ruling 127 = .ok (.aload_n 0, 1) := by decide +kernel
theorem dX5_ruling_128 : decode cX5_ruling 128 = .ok (.getfield 10, 3) := by decide +kernel
theorem dX5_ruling_131 : decode cX5_ruling 131 = .ok (.iload_n 1, 1) := by decide +kernel
theorem dX5_ruling_132 : decode cX5_ruling 132 = .ok (.invokevirtual 229, 3) := by decide +kernel
theorem dX5_ruling_135 : decode cX5_ruling 135 = .ok (.ifCond .eq 7, 3) := by decide +kernel
theorem dX5_ruling_138 : decode cX5_ruling 138 = .ok (.iconst 1, 1) := by decide +kernel
theorem dX5_ruling_139 : decode cX5_ruling 139 = .ok (.goto 4, 3) := by decide +kernel
theorem dX5_ruling_142 : decode cX5_ruling 142 = .ok (.iconst 0, 1) := by decide +kernel
theorem dX5_ruling_143 : decode cX5_ruling 143 = .ok (.ireturn, 1) := by decide +kernel
theorem dX5_ruling_144 : decode cX5_ruling 144 = .ok (.aload_n 0, 1) := by decide +kernel
theorem dX5_ruling_145 : decode cX5_ruling 145 = .ok (.getfield 10, 3) := by decide +kernel
theorem dX5_ruling_148 : decode cX5_ruling 148 = .ok (.iload_n 1, 1) := by decide +kernel
theorem dX5_ruling_149 : decode cX5_ruling 149 = .ok (.invokevirtual 232, 3) := by decide +kernel
theorem dX5_ruling_152 : decode cX5_ruling 152 = .ok (.ireturn, 1) := by decide +kernel
theorem dX5_ruling_153 : decode cX5_ruling 153 = .ok (.aload_n 0, 1) := by decide +kernel
theorem dX5_ruling_154 : decode cX5_ruling 154 = .ok (.getfield 10, 3) := by decide +kernel
theorem dX5_ruling_157 : decode cX5_ruling 157 = .ok (.iload_n 1, 1) := by decide +kernel
theorem dX5_ruling_158 : decode cX5_ruling 158 = .ok (.invokevirtual 235, 3) := by decide +kernel
theorem dX5_ruling_161 : decode cX5_ruling 161 = .ok (.ireturn, 1) := by decide +kernel
theorem dX5_ruling_162 : decode cX5_ruling 162 = .ok (.iconst (-1), 1) := by decide +kernel
theorem dX5_ruling_163 : decode cX5_ruling 163 = .ok (.ireturn, 1) := by decide +kernel
theorem dX5_whyNot_0 : decode cX5_whyNot 0 = .ok (.aload_n 0, 1) := by decide +kernel
theorem dX5_whyNot_1 : decode cX5_whyNot 1 = .ok (.getfield 10, 3) := by decide +kernel
theorem dX5_whyNot_4 : decode cX5_whyNot 4 = .ok (.iload_n 1, 1) := by decide +kernel
theorem dX5_whyNot_5 : decode cX5_whyNot 5 = .ok (.invokevirtual 121, 3) := by decide +kernel
theorem dX5_whyNot_8 : decode cX5_whyNot 8 = .ok (.astore_n 3, 1) := by decide +kernel
theorem dX5_whyNot_9 : decode cX5_whyNot 9 = .ok (.aload_n 3, 1) := by decide +kernel
theorem dX5_whyNot_10 : decode cX5_whyNot 10 = .ok (.ifnull 11, 3) := by decide +kernel
theorem dX5_whyNot_13 : decode cX5_whyNot 13 = .ok (.aload_n 3, 1) := by decide +kernel
theorem dX5_whyNot_14 : decode cX5_whyNot 14 = .ok (.iload_n 2, 1) := by decide +kernel
theorem dX5_whyNot_15 : decode cX5_whyNot 15 = .ok (.invokevirtual 129, 3) := by decide +kernel
theorem dX5_whyNot_18 : decode cX5_whyNot 18 = .ok (.ifCond .ne 5, 3) := by decide +kernel
theorem dX5_whyNot_21 : decode cX5_whyNot 21 = .ok (.iconst (-1), 1) := by decide +kernel
theorem dX5_whyNot_22 : decode cX5_whyNot 22 = .ok (.ireturn, 1) := by decide +kernel
theorem dX5_whyNot_23 : decode cX5_whyNot 23 = .ok (.aload_n 0, 1) := by decide +kernel
theorem dX5_whyNot_24 : decode cX5_whyNot 24 = .ok (.getfield 40, 3) := by decide +kernel
theorem dX5_whyNot_27 : decode cX5_whyNot 27 = .ok (.aload_n 0, 1) := by decide +kernel
theorem dX5_whyNot_28 : decode cX5_whyNot 28 = .ok (.getfield 10, 3) := by decide +kernel
theorem dX5_whyNot_31 : decode cX5_whyNot 31 = .ok (.aload_n 3, 1) := by decide +kernel
theorem dX5_whyNot_32 : decode cX5_whyNot 32 = .ok (.invokevirtual 170, 3) := by decide +kernel
theorem dX5_whyNot_35 : decode cX5_whyNot 35 = .ok (.aload_n 0, 1) := by decide +kernel
theorem dX5_whyNot_36 : decode cX5_whyNot 36 = .ok (.aload_n 3, 1) := by decide +kernel
theorem dX5_whyNot_37 : decode cX5_whyNot 37 = .ok (.iload_n 2, 1) := by decide +kernel
theorem dX5_whyNot_38 : decode cX5_whyNot 38 = .ok (.invokevirtual 238, 3) := by decide +kernel
theorem dX5_whyNot_41 : decode cX5_whyNot 41 = .ok (.ireturn, 1) := by decide +kernel
theorem dX5_best_0 : decode cX5_best 0 = .ok (.aload_n 0, 1) := by decide +kernel
theorem dX5_best_1 : decode cX5_best 1 = .ok (.getfield 10, 3) := by decide +kernel
theorem dX5_best_4 : decode cX5_best 4 = .ok (.iload_n 1, 1) := by decide +kernel
theorem dX5_best_5 : decode cX5_best 5 = .ok (.invokevirtual 121, 3) := by decide +kernel
theorem dX5_best_8 : decode cX5_best 8 = .ok (.astore 4, 2) := by decide +kernel
theorem dX5_best_10 : decode cX5_best 10 = .ok (.aload 4, 2) := by decide +kernel
theorem dX5_best_12 : decode cX5_best 12 = .ok (.ifnull 21, 3) := by decide +kernel
theorem dX5_best_15 : decode cX5_best 15 = .ok (.iload_n 2, 1) := by decide +kernel
theorem dX5_best_16 : decode cX5_best 16 = .ok (.iconst 0, 1) := by decide +kernel
theorem dX5_best_17 : decode cX5_best 17 = .ok (.iconst 2, 1) := by decide +kernel
theorem dX5_best_18 : decode cX5_best 18 = .ok (.invokestatic 48, 3) := by decide +kernel
theorem dX5_best_21 : decode cX5_best 21 = .ok (.ifCond .eq 12, 3) := by decide +kernel
theorem dX5_best_24 : decode cX5_best 24 = .ok (.iload_n 3, 1) := by decide +kernel
theorem dX5_best_25 : decode cX5_best 25 = .ok (.iconst 0, 1) := by decide +kernel
theorem dX5_best_26 : decode cX5_best 26 = .ok (.iconst 1, 1) := by decide +kernel
theorem dX5_best_27 : decode cX5_best 27 = .ok (.invokestatic 48, 3) := by decide +kernel
theorem dX5_best_30 : decode cX5_best 30 = .ok (.ifCond .ne 5, 3) := by decide +kernel
theorem dX5_best_33 : decode cX5_best 33 = .ok (.iconst (-1), 1) := by decide +kernel
theorem dX5_best_34 : decode cX5_best 34 = .ok (.ireturn, 1) := by decide +kernel
theorem dX5_best_35 : decode cX5_best 35 = .ok (.aload_n 0, 1) := by decide +kernel
theorem dX5_best_36 : decode cX5_best 36 = .ok (.getfield 40, 3) := by decide +kernel
theorem dX5_best_39 : decode cX5_best 39 = .ok (.aload_n 0, 1) := by decide +kernel
theorem dX5_best_40 : decode cX5_best 40 = .ok (.getfield 10, 3) := by decide +kernel
theorem dX5_best_43 : decode cX5_best 43 = .ok (.aload 4, 2) := by decide +kernel
theorem dX5_best_45 : decode cX5_best 45 = .ok (.invokevirtual 170, 3) := by decide +kernel
theorem dX5_best_48 : decode cX5_best 48 = .ok (.iload_n 3, 1) := by decide +kernel
theorem dX5_best_49 : decode cX5_best 49 = .ok (.ifCond .ne 13, 3) := by decide +kernel
theorem dX5_best_52 : decode cX5_best 52 = .ok (.aload_n 0, 1) := by decide +kernel
theorem dX5_best_53 : decode cX5_best 53 = .ok (.getfield 40, 3) := by decide +kernel
theorem dX5_best_56 : decode cX5_best 56 = .ok (.invokevirtual 241, 3) := by decide +kernel
theorem dX5_best_59 : decode cX5_best 59 = .ok (.goto 10, 3) := by decide +kernel
theorem dX5_best_62 : decode cX5_best 62 = .ok (.aload_n 0, 1) := by decide +kernel
theorem dX5_best_63 : decode cX5_best 63 = .ok (.getfield 40, 3) := by decide +kernel
theorem dX5_best_66 : decode cX5_best 66 = .ok (.invokevirtual 244, 3) := by decide +kernel
theorem dX5_best_69 : decode cX5_best 69 = .ok (.istore 5, 2) := by decide +kernel
theorem dX5_best_71 : decode cX5_best 71 = .ok (.iload_n 2, 1) := by decide +kernel
theorem dX5_best_72 : decode cX5_best 72 = .ok (.lookupswitch 41 #[(0, 28), (1, 35)], 28) := by decide +kernel
theorem dX5_best_100 : decode cX5_best 100 = .ok (.iload 5, 2) := by decide +kernel
theorem dX5_best_102 : decode cX5_best 102 = .ok (.sipush 2048, 3) := by decide +kernel
theorem dX5_best_105 : decode cX5_best 105 = .ok (.irem, 1) := by decide +kernel
theorem dX5_best_106 : decode cX5_best 106 = .ok (.ireturn, 1) := by decide +kernel
theorem dX5_best_107 : decode cX5_best 107 = .ok (.iload 5, 2) := by decide +kernel
theorem dX5_best_109 : decode cX5_best 109 = .ok (.ldc 247, 2) := by decide +kernel
theorem dX5_best_111 : decode cX5_best 111 = .ok (.idiv, 1) := by decide +kernel
theorem dX5_best_112 : decode cX5_best 112 = .ok (.ireturn, 1) := by decide +kernel
theorem dX5_best_113 : decode cX5_best 113 = .ok (.iload 5, 2) := by decide +kernel
theorem dX5_best_115 : decode cX5_best 115 = .ok (.ldc 247, 2) := by decide +kernel
theorem dX5_best_117 : decode cX5_best 117 = .ok (.irem, 1) := by decide +kernel
theorem dX5_best_118 : decode cX5_best 118 = .ok (.sipush 2048, 3) := by decide +kernel
theorem dX5_best_121 : decode cX5_best 121 = .ok (.idiv, 1) := by decide +kernel
theorem dX5_best_122 : decode cX5_best 122 = .ok (.ireturn, 1) := by decide +kernel
theorem dX5_ways_0 : decode cX5_ways 0 = .ok (.aload_n 0, 1) := by decide +kernel
theorem dX5_ways_1 : decode cX5_ways 1 = .ok (.getfield 10, 3) := by decide +kernel
theorem dX5_ways_4 : decode cX5_ways 4 = .ok (.iload_n 1, 1) := by decide +kernel
theorem dX5_ways_5 : decode cX5_ways 5 = .ok (.invokevirtual 121, 3) := by decide +kernel
theorem dX5_ways_8 : decode cX5_ways 8 = .ok (.astore_n 3, 1) := by decide +kernel
theorem dX5_ways_9 : decode cX5_ways 9 = .ok (.aload_n 3, 1) := by decide +kernel
theorem dX5_ways_10 : decode cX5_ways 10 = .ok (.ifnull 12, 3) := by decide +kernel
theorem dX5_ways_13 : decode cX5_ways 13 = .ok (.iload_n 2, 1) := by decide +kernel
theorem dX5_ways_14 : decode cX5_ways 14 = .ok (.iconst 0, 1) := by decide +kernel
theorem dX5_ways_15 : decode cX5_ways 15 = .ok (.iconst 1, 1) := by decide +kernel
theorem dX5_ways_16 : decode cX5_ways 16 = .ok (.invokestatic 48, 3) := by decide +kernel
theorem dX5_ways_19 : decode cX5_ways 19 = .ok (.ifCond .ne 5, 3) := by decide +kernel
theorem dX5_ways_22 : decode cX5_ways 22 = .ok (.iconst (-1), 1) := by decide +kernel
theorem dX5_ways_23 : decode cX5_ways 23 = .ok (.ireturn, 1) := by decide +kernel
theorem dX5_ways_24 : decode cX5_ways 24 = .ok (.aload_n 0, 1) := by decide +kernel
theorem dX5_ways_25 : decode cX5_ways 25 = .ok (.getfield 40, 3) := by decide +kernel
end
section
theorem dX5_ways_28 : decode cX5_ways 28 = .ok (.aload_n 0, 1) := by decide +kernel
theorem dX5_ways_29 : decode cX5_ways 29 = .ok (.getfield 10, 3) := by decide +kernel
theorem dX5_ways_32 : decode cX5_ways 32 = .ok (.aload_n 3, 1) := by decide +kernel
theorem dX5_ways_33 : decode cX5_ways 33 = .ok (.invokevirtual 170, 3) := by decide +kernel
theorem dX5_ways_36 : decode cX5_ways 36 = .ok (.iload_n 2, 1) := by decide +kernel
theorem dX5_ways_37 : decode cX5_ways 37 = .ok (.ifCond .ne 13, 3) := by decide +kernel
theorem dX5_ways_40 : decode cX5_ways 40 = .ok (.aload_n 0, 1) := by decide +kernel
theorem dX5_ways_41 : decode cX5_ways 41 = .ok (.getfield 40, 3) := by decide +kernel
theorem dX5_ways_44 : decode cX5_ways 44 = .ok (.invokevirtual 248, 3) := by decide +kernel
theorem dX5_ways_47 : decode cX5_ways 47 = .ok (.goto 12, 3) := by decide +kernel
theorem dX5_ways_50 : decode cX5_ways 50 = .ok (.aload_n 0, 1) := by decide +kernel
theorem dX5_ways_51 : decode cX5_ways 51 = .ok (.getfield 40, 3) := by decide +kernel
theorem dX5_ways_54 : decode cX5_ways 54 = .ok (.iconst 0, 1) := by decide +kernel
theorem dX5_ways_55 : decode cX5_ways 55 = .ok (.iconst 0, 1) := by decide +kernel
theorem dX5_ways_56 : decode cX5_ways 56 = .ok (.invokestatic 251, 3) := by decide +kernel
theorem dX5_ways_59 : decode cX5_ways 59 = .ok (.ireturn, 1) := by decide +kernel
theorem dX5_count_0 : decode cX5_count 0 = .ok (.iload_n 1, 1) := by decide +kernel
theorem dX5_count_1 : decode cX5_count 1 = .ok (.tableswitch 194 0 14 #[75, 83, 91, 99, 104, 112, 120, 128, 136, 144, 152, 164, 176, 181, 189], 75) := by decide +kernel
theorem dX5_count_76 : decode cX5_count 76 = .ok (.aload_n 0, 1) := by decide +kernel
theorem dX5_count_77 : decode cX5_count 77 = .ok (.getfield 10, 3) := by decide +kernel
theorem dX5_count_80 : decode cX5_count 80 = .ok (.getfield 139, 3) := by decide +kernel
theorem dX5_count_83 : decode cX5_count 83 = .ok (.ireturn, 1) := by decide +kernel
theorem dX5_count_84 : decode cX5_count 84 = .ok (.aload_n 0, 1) := by decide +kernel
theorem dX5_count_85 : decode cX5_count 85 = .ok (.getfield 10, 3) := by decide +kernel
theorem dX5_count_88 : decode cX5_count 88 = .ok (.getfield 112, 3) := by decide +kernel
theorem dX5_count_91 : decode cX5_count 91 = .ok (.ireturn, 1) := by decide +kernel
theorem dX5_count_92 : decode cX5_count 92 = .ok (.aload_n 0, 1) := by decide +kernel
theorem dX5_count_93 : decode cX5_count 93 = .ok (.getfield 10, 3) := by decide +kernel
theorem dX5_count_96 : decode cX5_count 96 = .ok (.invokevirtual 255, 3) := by decide +kernel
theorem dX5_count_99 : decode cX5_count 99 = .ok (.ireturn, 1) := by decide +kernel
theorem dX5_count_100 : decode cX5_count 100 = .ok (.aload_n 0, 1) := by decide +kernel
theorem dX5_count_101 : decode cX5_count 101 = .ok (.invokevirtual 258, 3) := by decide +kernel
theorem dX5_count_104 : decode cX5_count 104 = .ok (.ireturn, 1) := by decide +kernel
theorem dX5_count_105 : decode cX5_count 105 = .ok (.aload_n 0, 1) := by decide +kernel
theorem dX5_count_106 : decode cX5_count 106 = .ok (.getfield 10, 3) := by decide +kernel
theorem dX5_count_109 : decode cX5_count 109 = .ok (.getfield 73, 3) := by decide +kernel
theorem dX5_count_112 : decode cX5_count 112 = .ok (.ireturn, 1) := by decide +kernel
theorem dX5_count_113 : decode cX5_count 113 = .ok (.aload_n 0, 1) := by decide +kernel
theorem dX5_count_114 : decode cX5_count 114 = .ok (.getfield 10, 3) := by decide +kernel
theorem dX5_count_117 : decode cX5_count 117 = .ok (.invokevirtual 91, 3) := by decide +kernel
theorem dX5_count_120 : decode cX5_count 120 = .ok (.ireturn, 1) := by decide +kernel
theorem dX5_count_121 : decode cX5_count 121 = .ok (.aload_n 0, 1) := by decide +kernel
theorem dX5_count_122 : decode cX5_count 122 = .ok (.getfield 10, 3) := by decide +kernel
theorem dX5_count_125 : decode cX5_count 125 = .ok (.invokevirtual 261, 3) := by decide +kernel
theorem dX5_count_128 : decode cX5_count 128 = .ok (.ireturn, 1) := by decide +kernel
theorem dX5_count_129 : decode cX5_count 129 = .ok (.aload_n 0, 1) := by decide +kernel
theorem dX5_count_130 : decode cX5_count 130 = .ok (.getfield 10, 3) := by decide +kernel
theorem dX5_count_133 : decode cX5_count 133 = .ok (.getfield 264, 3) := by decide +kernel
theorem dX5_count_136 : decode cX5_count 136 = .ok (.ireturn, 1) := by decide +kernel
theorem dX5_count_137 : decode cX5_count 137 = .ok (.aload_n 0, 1) := by decide +kernel
theorem dX5_count_138 : decode cX5_count 138 = .ok (.getfield 10, 3) := by decide +kernel
theorem dX5_count_141 : decode cX5_count 141 = .ok (.getfield 265, 3) := by decide +kernel
theorem dX5_count_144 : decode cX5_count 144 = .ok (.ireturn, 1) := by decide +kernel
theorem dX5_count_145 : decode cX5_count 145 = .ok (.aload_n 0, 1) := by decide +kernel
theorem dX5_count_146 : decode cX5_count 146 = .ok (.getfield 10, 3) := by decide +kernel
theorem dX5_count_149 : decode cX5_count 149 = .ok (.invokevirtual 268, 3) := by decide +kernel
theorem dX5_count_152 : decode cX5_count 152 = .ok (.ireturn, 1) := by decide +kernel
theorem dX5_count_153 : decode cX5_count 153 = .ok (.aload_n 0, 1) := by decide +kernel
theorem dX5_count_154 : decode cX5_count 154 = .ok (.getfield 10, 3) := by decide +kernel
theorem dX5_count_157 : decode cX5_count 157 = .ok (.getfield 67, 3) := by decide +kernel
theorem dX5_count_160 : decode cX5_count 160 = .ok (.iconst 0, 1) := by decide +kernel
theorem dX5_count_161 : decode cX5_count 161 = .ok (.invokestatic 59, 3) := by decide +kernel
theorem dX5_count_164 : decode cX5_count 164 = .ok (.ireturn, 1) := by decide +kernel
theorem dX5_count_165 : decode cX5_count 165 = .ok (.aload_n 0, 1) := by decide +kernel
theorem dX5_count_166 : decode cX5_count 166 = .ok (.getfield 10, 3) := by decide +kernel
theorem dX5_count_169 : decode cX5_count 169 = .ok (.getfield 67, 3) := by decide +kernel
theorem dX5_count_172 : decode cX5_count 172 = .ok (.iconst 1, 1) := by decide +kernel
theorem dX5_count_173 : decode cX5_count 173 = .ok (.invokestatic 59, 3) := by decide +kernel
theorem dX5_count_176 : decode cX5_count 176 = .ok (.ireturn, 1) := by decide +kernel
theorem dX5_count_177 : decode cX5_count 177 = .ok (.aload_n 0, 1) := by decide +kernel
theorem dX5_count_178 : decode cX5_count 178 = .ok (.invokevirtual 271, 3) := by decide +kernel
theorem dX5_count_181 : decode cX5_count 181 = .ok (.ireturn, 1) := by decide +kernel
theorem dX5_count_182 : decode cX5_count 182 = .ok (.aload_n 0, 1) := by decide +kernel
theorem dX5_count_183 : decode cX5_count 183 = .ok (.getfield 26, 3) := by decide +kernel
theorem dX5_count_186 : decode cX5_count 186 = .ok (.getfield 118, 3) := by decide +kernel
theorem dX5_count_189 : decode cX5_count 189 = .ok (.ireturn, 1) := by decide +kernel
theorem dX5_count_190 : decode cX5_count 190 = .ok (.aload_n 0, 1) := by decide +kernel
theorem dX5_count_191 : decode cX5_count 191 = .ok (.getfield 274, 3) := by decide +kernel
theorem dX5_count_194 : decode cX5_count 194 = .ok (.ireturn, 1) := by decide +kernel
theorem dX5_count_195 : decode cX5_count 195 = .ok (.iconst (-1), 1) := by decide +kernel
theorem dX5_count_196 : decode cX5_count 196 = .ok (.ireturn, 1) := by decide +kernel
theorem dX5_length_0 : decode cX5_length 0 = .ok (.aload_n 0, 1) := by decide +kernel
theorem dX5_length_1 : decode cX5_length 1 = .ok (.getfield 10, 3) := by decide +kernel
theorem dX5_length_4 : decode cX5_length 4 = .ok (.invokevirtual 277, 3) := by decide +kernel
theorem dX5_length_7 : decode cX5_length 7 = .ok (.istore_n 1, 1) := by decide +kernel
theorem dX5_length_8 : decode cX5_length 8 = .ok (.aload_n 0, 1) := by decide +kernel
theorem dX5_length_9 : decode cX5_length 9 = .ok (.getfield 10, 3) := by decide +kernel
theorem dX5_length_12 : decode cX5_length 12 = .ok (.invokevirtual 268, 3) := by decide +kernel
theorem dX5_length_15 : decode cX5_length 15 = .ok (.aload_n 0, 1) := by decide +kernel
theorem dX5_length_16 : decode cX5_length 16 = .ok (.getfield 10, 3) := by decide +kernel
theorem dX5_length_19 : decode cX5_length 19 = .ok (.getfield 112, 3) := by decide +kernel
theorem dX5_length_22 : decode cX5_length 22 = .ok (.iadd, 1) := by decide +kernel
theorem dX5_length_23 : decode cX5_length 23 = .ok (.istore_n 2, 1) := by decide +kernel
theorem dX5_length_24 : decode cX5_length 24 = .ok (.iload_n 2, 1) := by decide +kernel
theorem dX5_length_25 : decode cX5_length 25 = .ok (.ifCond .gt 5, 3) := by decide +kernel
theorem dX5_length_28 : decode cX5_length 28 = .ok (.dconst 0, 1) := by decide +kernel
theorem dX5_length_29 : decode cX5_length 29 = .ok (.dreturn, 1) := by decide +kernel
theorem dX5_length_30 : decode cX5_length 30 = .ok (.iload_n 1, 1) := by decide +kernel
theorem dX5_length_31 : decode cX5_length 31 = .ok (.i2d, 1) := by decide +kernel
theorem dX5_length_32 : decode cX5_length 32 = .ok (.iload_n 2, 1) := by decide +kernel
theorem dX5_length_33 : decode cX5_length 33 = .ok (.i2d, 1) := by decide +kernel
theorem dX5_length_34 : decode cX5_length 34 = .ok (.ddiv, 1) := by decide +kernel
theorem dX5_length_35 : decode cX5_length 35 = .ok (.dreturn, 1) := by decide +kernel
theorem dX5_ifRuled_0 : decode cX5_ifRuled 0 = .ok (.iload_n 1, 1) := by decide +kernel
theorem dX5_ifRuled_1 : decode cX5_ifRuled 1 = .ok (.iload_n 2, 1) := by decide +kernel
theorem dX5_ifRuled_2 : decode cX5_ifRuled 2 = .ok (.iload 4, 2) := by decide +kernel
theorem dX5_ifRuled_4 : decode cX5_ifRuled 4 = .ok (.invokestatic 70, 3) := by decide +kernel
theorem dX5_ifRuled_7 : decode cX5_ifRuled 7 = .ok (.ifCond .ne 5, 3) := by decide +kernel
theorem dX5_ifRuled_10 : decode cX5_ifRuled 10 = .ok (.iconst (-1), 1) := by decide +kernel
theorem dX5_ifRuled_11 : decode cX5_ifRuled 11 = .ok (.ireturn, 1) := by decide +kernel
theorem dX5_ifRuled_12 : decode cX5_ifRuled 12 = .ok (.iconst 0, 1) := by decide +kernel
theorem dX5_ifRuled_13 : decode cX5_ifRuled 13 = .ok (.istore 5, 2) := by decide +kernel
theorem dX5_ifRuled_15 : decode cX5_ifRuled 15 = .ok (.iconst 0, 1) := by decide +kernel
theorem dX5_ifRuled_16 : decode cX5_ifRuled 16 = .ok (.istore 6, 2) := by decide +kernel
theorem dX5_ifRuled_18 : decode cX5_ifRuled 18 = .ok (.iload 6, 2) := by decide +kernel
theorem dX5_ifRuled_20 : decode cX5_ifRuled 20 = .ok (.aload_n 0, 1) := by decide +kernel
theorem dX5_ifRuled_21 : decode cX5_ifRuled 21 = .ok (.getfield 10, 3) := by decide +kernel
theorem dX5_ifRuled_24 : decode cX5_ifRuled 24 = .ok (.getfield 112, 3) := by decide +kernel
theorem dX5_ifRuled_27 : decode cX5_ifRuled 27 = .ok (.if_icmp .ge 108, 3) := by decide +kernel
theorem dX5_ifRuled_30 : decode cX5_ifRuled 30 = .ok (.aload_n 0, 1) := by decide +kernel
theorem dX5_ifRuled_31 : decode cX5_ifRuled 31 = .ok (.getfield 10, 3) := by decide +kernel
theorem dX5_ifRuled_34 : decode cX5_ifRuled 34 = .ok (.iload 6, 2) := by decide +kernel
theorem dX5_ifRuled_36 : decode cX5_ifRuled 36 = .ok (.invokevirtual 121, 3) := by decide +kernel
theorem dX5_ifRuled_39 : decode cX5_ifRuled 39 = .ok (.astore 7, 2) := by decide +kernel
theorem dX5_ifRuled_41 : decode cX5_ifRuled 41 = .ok (.aload 7, 2) := by decide +kernel
theorem dX5_ifRuled_43 : decode cX5_ifRuled 43 = .ok (.ifnull 86, 3) := by decide +kernel
theorem dX5_ifRuled_46 : decode cX5_ifRuled 46 = .ok (.iconst 0, 1) := by decide +kernel
theorem dX5_ifRuled_47 : decode cX5_ifRuled 47 = .ok (.istore 8, 2) := by decide +kernel
theorem dX5_ifRuled_49 : decode cX5_ifRuled 49 = .ok (.iload 8, 2) := by decide +kernel
theorem dX5_ifRuled_51 : decode cX5_ifRuled 51 = .ok (.aload 7, 2) := by decide +kernel
theorem dX5_ifRuled_53 : decode cX5_ifRuled 53 = .ok (.getfield 174, 3) := by decide +kernel
theorem dX5_ifRuled_56 : decode cX5_ifRuled 56 = .ok (.iconst 1, 1) := by decide +kernel
theorem dX5_ifRuled_57 : decode cX5_ifRuled 57 = .ok (.isub, 1) := by decide +kernel
theorem dX5_ifRuled_58 : decode cX5_ifRuled 58 = .ok (.if_icmp .ge 71, 3) := by decide +kernel
theorem dX5_ifRuled_61 : decode cX5_ifRuled 61 = .ok (.aload 7, 2) := by decide +kernel
theorem dX5_ifRuled_63 : decode cX5_ifRuled 63 = .ok (.iload 8, 2) := by decide +kernel
theorem dX5_ifRuled_65 : decode cX5_ifRuled 65 = .ok (.invokevirtual 280, 3) := by decide +kernel
theorem dX5_ifRuled_68 : decode cX5_ifRuled 68 = .ok (.iload_n 1, 1) := by decide +kernel
theorem dX5_ifRuled_69 : decode cX5_ifRuled 69 = .ok (.if_icmp .ne 54, 3) := by decide +kernel
theorem dX5_ifRuled_72 : decode cX5_ifRuled 72 = .ok (.aload 7, 2) := by decide +kernel
theorem dX5_ifRuled_74 : decode cX5_ifRuled 74 = .ok (.iload 8, 2) := by decide +kernel
theorem dX5_ifRuled_76 : decode cX5_ifRuled 76 = .ok (.iconst 1, 1) := by decide +kernel
theorem dX5_ifRuled_77 : decode cX5_ifRuled 77 = .ok (.iadd, 1) := by decide +kernel
theorem dX5_ifRuled_78 : decode cX5_ifRuled 78 = .ok (.invokevirtual 280, 3) := by decide +kernel
theorem dX5_ifRuled_81 : decode cX5_ifRuled 81 = .ok (.iload_n 2, 1) := by decide +kernel
theorem dX5_ifRuled_82 : decode cX5_ifRuled 82 = .ok (.if_icmp .ne 41, 3) := by decide +kernel
theorem dX5_ifRuled_85 : decode cX5_ifRuled 85 = .ok (.aload 7, 2) := by decide +kernel
theorem dX5_ifRuled_87 : decode cX5_ifRuled 87 = .ok (.iload 8, 2) := by decide +kernel
theorem dX5_ifRuled_89 : decode cX5_ifRuled 89 = .ok (.invokevirtual 199, 3) := by decide +kernel
theorem dX5_ifRuled_92 : decode cX5_ifRuled 92 = .ok (.iload_n 3, 1) := by decide +kernel
theorem dX5_ifRuled_93 : decode cX5_ifRuled 93 = .ok (.if_icmp .ne 7, 3) := by decide +kernel
theorem dX5_ifRuled_96 : decode cX5_ifRuled 96 = .ok (.iconst 0, 1) := by decide +kernel
theorem dX5_ifRuled_97 : decode cX5_ifRuled 97 = .ok (.goto 5, 3) := by decide +kernel
theorem dX5_ifRuled_100 : decode cX5_ifRuled 100 = .ok (.iload 4, 2) := by decide +kernel
theorem dX5_ifRuled_102 : decode cX5_ifRuled 102 = .ok (.istore 9, 2) := by decide +kernel
theorem dX5_ifRuled_104 : decode cX5_ifRuled 104 = .ok (.iload 5, 2) := by decide +kernel
theorem dX5_ifRuled_106 : decode cX5_ifRuled 106 = .ok (.iload 9, 2) := by decide +kernel
theorem dX5_ifRuled_108 : decode cX5_ifRuled 108 = .ok (.aload_n 0, 1) := by decide +kernel
theorem dX5_ifRuled_109 : decode cX5_ifRuled 109 = .ok (.getfield 10, 3) := by decide +kernel
theorem dX5_ifRuled_112 : decode cX5_ifRuled 112 = .ok (.aload 7, 2) := by decide +kernel
theorem dX5_ifRuled_114 : decode cX5_ifRuled 114 = .ok (.iload 8, 2) := by decide +kernel
theorem dX5_ifRuled_116 : decode cX5_ifRuled 116 = .ok (.invokevirtual 205, 3) := by decide +kernel
theorem dX5_ifRuled_119 : decode cX5_ifRuled 119 = .ok (.isub, 1) := by decide +kernel
theorem dX5_ifRuled_120 : decode cX5_ifRuled 120 = .ok (.iadd, 1) := by decide +kernel
theorem dX5_ifRuled_121 : decode cX5_ifRuled 121 = .ok (.istore 5, 2) := by decide +kernel
theorem dX5_ifRuled_123 : decode cX5_ifRuled 123 = .ok (.iinc 8 1, 3) := by decide +kernel
theorem dX5_ifRuled_126 : decode cX5_ifRuled 126 = .ok (.goto (-77), 3) := by decide +kernel
theorem dX5_ifRuled_129 : decode cX5_ifRuled 129 = .ok (.iinc 6 1, 3) := by decide +kernel
theorem dX5_ifRuled_132 : decode cX5_ifRuled 132 = .ok (.goto (-114), 3) := by decide +kernel
theorem dX5_ifRuled_135 : decode cX5_ifRuled 135 = .ok (.sipush 1000, 3) := by decide +kernel
theorem dX5_ifRuled_138 : decode cX5_ifRuled 138 = .ok (.iload 5, 2) := by decide +kernel
theorem dX5_ifRuled_140 : decode cX5_ifRuled 140 = .ok (.iadd, 1) := by decide +kernel
theorem dX5_ifRuled_141 : decode cX5_ifRuled 141 = .ok (.ireturn, 1) := by decide +kernel
theorem dX5_bestSuit_0 : decode cX5_bestSuit 0 = .ok (.aload_n 0, 1) := by decide +kernel
theorem dX5_bestSuit_1 : decode cX5_bestSuit 1 = .ok (.getfield 10, 3) := by decide +kernel
theorem dX5_bestSuit_4 : decode cX5_bestSuit 4 = .ok (.iload_n 1, 1) := by decide +kernel
theorem dX5_bestSuit_5 : decode cX5_bestSuit 5 = .ok (.invokevirtual 121, 3) := by decide +kernel
theorem dX5_bestSuit_8 : decode cX5_bestSuit 8 = .ok (.astore_n 2, 1) := by decide +kernel
theorem dX5_bestSuit_9 : decode cX5_bestSuit 9 = .ok (.aload_n 2, 1) := by decide +kernel
theorem dX5_bestSuit_10 : decode cX5_bestSuit 10 = .ok (.ifnonnull 5, 3) := by decide +kernel
theorem dX5_bestSuit_13 : decode cX5_bestSuit 13 = .ok (.iconst (-1), 1) := by decide +kernel
theorem dX5_bestSuit_14 : decode cX5_bestSuit 14 = .ok (.ireturn, 1) := by decide +kernel
theorem dX5_bestSuit_15 : decode cX5_bestSuit 15 = .ok (.aload_n 0, 1) := by decide +kernel
theorem dX5_bestSuit_16 : decode cX5_bestSuit 16 = .ok (.getfield 40, 3) := by decide +kernel
theorem dX5_bestSuit_19 : decode cX5_bestSuit 19 = .ok (.aload_n 0, 1) := by decide +kernel
theorem dX5_bestSuit_20 : decode cX5_bestSuit 20 = .ok (.getfield 10, 3) := by decide +kernel
theorem dX5_bestSuit_23 : decode cX5_bestSuit 23 = .ok (.aload_n 2, 1) := by decide +kernel
theorem dX5_bestSuit_24 : decode cX5_bestSuit 24 = .ok (.invokevirtual 170, 3) := by decide +kernel
theorem dX5_bestSuit_27 : decode cX5_bestSuit 27 = .ok (.bipush (-4), 2) := by decide +kernel
theorem dX5_bestSuit_29 : decode cX5_bestSuit 29 = .ok (.istore_n 3, 1) := by decide +kernel
theorem dX5_bestSuit_30 : decode cX5_bestSuit 30 = .ok (.iconst 0, 1) := by decide +kernel
theorem dX5_bestSuit_31 : decode cX5_bestSuit 31 = .ok (.istore 4, 2) := by decide +kernel
theorem dX5_bestSuit_33 : decode cX5_bestSuit 33 = .ok (.iconst 0, 1) := by decide +kernel
theorem dX5_bestSuit_34 : decode cX5_bestSuit 34 = .ok (.istore 5, 2) := by decide +kernel
theorem dX5_bestSuit_36 : decode cX5_bestSuit 36 = .ok (.iload 5, 2) := by decide +kernel
theorem dX5_bestSuit_38 : decode cX5_bestSuit 38 = .ok (.aload_n 2, 1) := by decide +kernel
theorem dX5_bestSuit_39 : decode cX5_bestSuit 39 = .ok (.getfield 174, 3) := by decide +kernel
theorem dX5_bestSuit_42 : decode cX5_bestSuit 42 = .ok (.iconst 1, 1) := by decide +kernel
theorem dX5_bestSuit_43 : decode cX5_bestSuit 43 = .ok (.isub, 1) := by decide +kernel
theorem dX5_bestSuit_44 : decode cX5_bestSuit 44 = .ok (.if_icmp .ge 54, 3) := by decide +kernel
theorem dX5_bestSuit_47 : decode cX5_bestSuit 47 = .ok (.aload_n 0, 1) := by decide +kernel
theorem dX5_bestSuit_48 : decode cX5_bestSuit 48 = .ok (.getfield 40, 3) := by decide +kernel
theorem dX5_bestSuit_51 : decode cX5_bestSuit 51 = .ok (.aload_n 2, 1) := by decide +kernel
theorem dX5_bestSuit_52 : decode cX5_bestSuit 52 = .ok (.iload 5, 2) := by decide +kernel
theorem dX5_bestSuit_54 : decode cX5_bestSuit 54 = .ok (.invokevirtual 208, 3) := by decide +kernel
theorem dX5_bestSuit_57 : decode cX5_bestSuit 57 = .ok (.invokevirtual 189, 3) := by decide +kernel
theorem dX5_bestSuit_60 : decode cX5_bestSuit 60 = .ok (.istore 6, 2) := by decide +kernel
theorem dX5_bestSuit_62 : decode cX5_bestSuit 62 = .ok (.iload_n 3, 1) := by decide +kernel
theorem dX5_bestSuit_63 : decode cX5_bestSuit 63 = .ok (.bipush (-4), 2) := by decide +kernel
theorem dX5_bestSuit_65 : decode cX5_bestSuit 65 = .ok (.if_icmp .eq 10, 3) := by decide +kernel
theorem dX5_bestSuit_68 : decode cX5_bestSuit 68 = .ok (.iload 6, 2) := by decide +kernel
theorem dX5_bestSuit_70 : decode cX5_bestSuit 70 = .ok (.iload 4, 2) := by decide +kernel
theorem dX5_bestSuit_72 : decode cX5_bestSuit 72 = .ok (.if_icmp .ge 20, 3) := by decide +kernel
theorem dX5_bestSuit_75 : decode cX5_bestSuit 75 = .ok (.aload_n 0, 1) := by decide +kernel
theorem dX5_bestSuit_76 : decode cX5_bestSuit 76 = .ok (.aload_n 2, 1) := by decide +kernel
theorem dX5_bestSuit_77 : decode cX5_bestSuit 77 = .ok (.iload 5, 2) := by decide +kernel
theorem dX5_bestSuit_79 : decode cX5_bestSuit 79 = .ok (.invokevirtual 238, 3) := by decide +kernel
theorem dX5_bestSuit_82 : decode cX5_bestSuit 82 = .ok (.ifCond .ne 10, 3) := by decide +kernel
theorem dX5_bestSuit_85 : decode cX5_bestSuit 85 = .ok (.iload 5, 2) := by decide +kernel
theorem dX5_bestSuit_87 : decode cX5_bestSuit 87 = .ok (.istore_n 3, 1) := by decide +kernel
theorem dX5_bestSuit_88 : decode cX5_bestSuit 88 = .ok (.iload 6, 2) := by decide +kernel
theorem dX5_bestSuit_90 : decode cX5_bestSuit 90 = .ok (.istore 4, 2) := by decide +kernel
theorem dX5_bestSuit_92 : decode cX5_bestSuit 92 = .ok (.iinc 5 1, 3) := by decide +kernel
theorem dX5_bestSuit_95 : decode cX5_bestSuit 95 = .ok (.goto (-59), 3) := by decide +kernel
theorem dX5_bestSuit_98 : decode cX5_bestSuit 98 = .ok (.iload_n 3, 1) := by decide +kernel
theorem dX5_bestSuit_99 : decode cX5_bestSuit 99 = .ok (.ireturn, 1) := by decide +kernel
theorem dX5_undo_0 : decode cX5_undo 0 = .ok (.aload_n 0, 1) := by decide +kernel
theorem dX5_undo_1 : decode cX5_undo 1 = .ok (.aload_n 0, 1) := by decide +kernel
theorem dX5_undo_2 : decode cX5_undo 2 = .ok (.getfield 274, 3) := by decide +kernel
theorem dX5_undo_5 : decode cX5_undo 5 = .ok (.iconst 1, 1) := by decide +kernel
theorem dX5_undo_6 : decode cX5_undo 6 = .ok (.isub, 1) := by decide +kernel
theorem dX5_undo_7 : decode cX5_undo 7 = .ok (.invokevirtual 283, 3) := by decide +kernel
theorem dX5_undo_10 : decode cX5_undo 10 = .ok (.astore_n 1, 1) := by decide +kernel
theorem dX5_undo_11 : decode cX5_undo 11 = .ok (.aload_n 1, 1) := by decide +kernel
theorem dX5_undo_12 : decode cX5_undo 12 = .ok (.ifnonnull 6, 3) := by decide +kernel
theorem dX5_undo_15 : decode cX5_undo 15 = .ok (.bipush (-2), 2) := by decide +kernel
theorem dX5_undo_17 : decode cX5_undo 17 = .ok (.ireturn, 1) := by decide +kernel
theorem dX5_undo_18 : decode cX5_undo 18 = .ok (.aload_n 0, 1) := by decide +kernel
theorem dX5_undo_19 : decode cX5_undo 19 = .ok (.getfield 10, 3) := by decide +kernel
theorem dX5_undo_22 : decode cX5_undo 22 = .ok (.aload_n 1, 1) := by decide +kernel
theorem dX5_undo_23 : decode cX5_undo 23 = .ok (.invokevirtual 287, 3) := by decide +kernel
theorem dX5_undo_26 : decode cX5_undo 26 = .ok (.aload_n 0, 1) := by decide +kernel
theorem dX5_undo_27 : decode cX5_undo 27 = .ok (.dup, 1) := by decide +kernel
theorem dX5_undo_28 : decode cX5_undo 28 = .ok (.getfield 274, 3) := by decide +kernel
theorem dX5_undo_31 : decode cX5_undo 31 = .ok (.iconst 1, 1) := by decide +kernel
theorem dX5_undo_32 : decode cX5_undo 32 = .ok (.isub, 1) := by decide +kernel
theorem dX5_undo_33 : decode cX5_undo 33 = .ok (.putfield 274, 3) := by decide +kernel
theorem dX5_undo_36 : decode cX5_undo 36 = .ok (.aload_n 0, 1) := by decide +kernel
theorem dX5_undo_37 : decode cX5_undo 37 = .ok (.getfield 274, 3) := by decide +kernel
theorem dX5_undo_40 : decode cX5_undo 40 = .ok (.ireturn, 1) := by decide +kernel
theorem dX5_save_0 : decode cX5_save 0 = .ok (.aload_n 0, 1) := by decide +kernel
theorem dX5_save_1 : decode cX5_save 1 = .ok (.getfield 16, 3) := by decide +kernel
theorem dX5_save_4 : decode cX5_save 4 = .ok (.aload_n 0, 1) := by decide +kernel
theorem dX5_save_5 : decode cX5_save 5 = .ok (.getfield 10, 3) := by decide +kernel
theorem dX5_save_8 : decode cX5_save 8 = .ok (.invokevirtual 287, 3) := by decide +kernel
theorem dX5_save_11 : decode cX5_save 11 = .ok (.aload_n 0, 1) := by decide +kernel
theorem dX5_save_12 : decode cX5_save 12 = .ok (.iconst 1, 1) := by decide +kernel
theorem dX5_save_13 : decode cX5_save 13 = .ok (.putfield 291, 3) := by decide +kernel
theorem dX5_save_16 : decode cX5_save 16 = .ok (.aload_n 0, 1) := by decide +kernel
theorem dX5_save_17 : decode cX5_save 17 = .ok (.getfield 10, 3) := by decide +kernel
theorem dX5_save_20 : decode cX5_save 20 = .ok (.getfield 112, 3) := by decide +kernel
theorem dX5_save_23 : decode cX5_save 23 = .ok (.ireturn, 1) := by decide +kernel
theorem dX5_restore_0 : decode cX5_restore 0 = .ok (.aload_n 0, 1) := by decide +kernel
theorem dX5_restore_1 : decode cX5_restore 1 = .ok (.getfield 291, 3) := by decide +kernel
theorem dX5_restore_4 : decode cX5_restore 4 = .ok (.ifCond .ne 6, 3) := by decide +kernel
theorem dX5_restore_7 : decode cX5_restore 7 = .ok (.bipush (-2), 2) := by decide +kernel
theorem dX5_restore_9 : decode cX5_restore 9 = .ok (.ireturn, 1) := by decide +kernel
theorem dX5_restore_10 : decode cX5_restore 10 = .ok (.aload_n 0, 1) := by decide +kernel
theorem dX5_restore_11 : decode cX5_restore 11 = .ok (.invokevirtual 52, 3) := by decide +kernel
theorem dX5_restore_14 : decode cX5_restore 14 = .ok (.aload_n 0, 1) := by decide +kernel
theorem dX5_restore_15 : decode cX5_restore 15 = .ok (.getfield 10, 3) := by decide +kernel
theorem dX5_restore_18 : decode cX5_restore 18 = .ok (.aload_n 0, 1) := by decide +kernel
theorem dX5_restore_19 : decode cX5_restore 19 = .ok (.getfield 16, 3) := by decide +kernel
theorem dX5_restore_22 : decode cX5_restore 22 = .ok (.invokevirtual 287, 3) := by decide +kernel
theorem dX5_restore_25 : decode cX5_restore 25 = .ok (.aload_n 0, 1) := by decide +kernel
theorem dX5_restore_26 : decode cX5_restore 26 = .ok (.getfield 10, 3) := by decide +kernel
theorem dX5_restore_29 : decode cX5_restore 29 = .ok (.getfield 112, 3) := by decide +kernel
theorem dX5_restore_32 : decode cX5_restore 32 = .ok (.ireturn, 1) := by decide +kernel
theorem dX5_isWithin_0 : decode cX5_isWithin 0 = .ok (.iload_n 0, 1) := by decide +kernel
theorem dX5_isWithin_1 : decode cX5_isWithin 1 = .ok (.iload_n 1, 1) := by decide +kernel
theorem dX5_isWithin_2 : decode cX5_isWithin 2 = .ok (.if_icmp .lt 12, 3) := by decide +kernel
theorem dX5_isWithin_5 : decode cX5_isWithin 5 = .ok (.iload_n 0, 1) := by decide +kernel
theorem dX5_isWithin_6 : decode cX5_isWithin 6 = .ok (.iload_n 2, 1) := by decide +kernel
theorem dX5_isWithin_7 : decode cX5_isWithin 7 = .ok (.if_icmp .gt 7, 3) := by decide +kernel
theorem dX5_isWithin_10 : decode cX5_isWithin 10 = .ok (.iconst 1, 1) := by decide +kernel
theorem dX5_isWithin_11 : decode cX5_isWithin 11 = .ok (.goto 4, 3) := by decide +kernel
theorem dX5_isWithin_14 : decode cX5_isWithin 14 = .ok (.iconst 0, 1) := by decide +kernel
theorem dX5_isWithin_15 : decode cX5_isWithin 15 = .ok (.ireturn, 1) := by decide +kernel
theorem dX5_isKind_0 : decode cX5_isKind 0 = .ok (.iload_n 0, 1) := by decide +kernel
theorem dX5_isKind_1 : decode cX5_isKind 1 = .ok (.iconst 0, 1) := by decide +kernel
theorem dX5_isKind_2 : decode cX5_isKind 2 = .ok (.iconst 5, 1) := by decide +kernel
theorem dX5_isKind_3 : decode cX5_isKind 3 = .ok (.invokestatic 48, 3) := by decide +kernel
theorem dX5_isKind_6 : decode cX5_isKind 6 = .ok (.ireturn, 1) := by decide +kernel
theorem dX5_isAboutKinds_0 : decode cX5_isAboutKinds 0 = .ok (.iload_n 0, 1) := by decide +kernel
theorem dX5_isAboutKinds_1 : decode cX5_isAboutKinds 1 = .ok (.invokestatic 44, 3) := by decide +kernel
theorem dX5_isAboutKinds_4 : decode cX5_isAboutKinds 4 = .ok (.ifCond .eq 24, 3) := by decide +kernel
theorem dX5_isAboutKinds_7 : decode cX5_isAboutKinds 7 = .ok (.iload_n 1, 1) := by decide +kernel
theorem dX5_isAboutKinds_8 : decode cX5_isAboutKinds 8 = .ok (.invokestatic 44, 3) := by decide +kernel
theorem dX5_isAboutKinds_11 : decode cX5_isAboutKinds 11 = .ok (.ifCond .eq 17, 3) := by decide +kernel
theorem dX5_isAboutKinds_14 : decode cX5_isAboutKinds 14 = .ok (.iload_n 2, 1) := by decide +kernel
theorem dX5_isAboutKinds_15 : decode cX5_isAboutKinds 15 = .ok (.iconst 1, 1) := by decide +kernel
theorem dX5_isAboutKinds_16 : decode cX5_isAboutKinds 16 = .ok (.bipush 20, 2) := by decide +kernel
theorem dX5_isAboutKinds_18 : decode cX5_isAboutKinds 18 = .ok (.invokestatic 48, 3) := by decide +kernel
theorem dX5_isAboutKinds_21 : decode cX5_isAboutKinds 21 = .ok (.ifCond .eq 7, 3) := by decide +kernel
theorem dX5_isAboutKinds_24 : decode cX5_isAboutKinds 24 = .ok (.iconst 1, 1) := by decide +kernel
theorem dX5_isAboutKinds_25 : decode cX5_isAboutKinds 25 = .ok (.goto 4, 3) := by decide +kernel
theorem dX5_isAboutKinds_28 : decode cX5_isAboutKinds 28 = .ok (.iconst 0, 1) := by decide +kernel
theorem dX5_isAboutKinds_29 : decode cX5_isAboutKinds 29 = .ok (.ireturn, 1) := by decide +kernel
theorem dX5_at_0 : decode cX5_at 0 = .ok (.iload_n 1, 1) := by decide +kernel
theorem dX5_at_1 : decode cX5_at 1 = .ok (.ifCond .lt 15, 3) := by decide +kernel
theorem dX5_at_4 : decode cX5_at 4 = .ok (.iload_n 1, 1) := by decide +kernel
theorem dX5_at_5 : decode cX5_at 5 = .ok (.aload_n 0, 1) := by decide +kernel
theorem dX5_at_6 : decode cX5_at 6 = .ok (.arraylength, 1) := by decide +kernel
theorem dX5_at_7 : decode cX5_at 7 = .ok (.if_icmp .ge 9, 3) := by decide +kernel
theorem dX5_at_10 : decode cX5_at 10 = .ok (.aload_n 0, 1) := by decide +kernel
theorem dX5_at_11 : decode cX5_at 11 = .ok (.iload_n 1, 1) := by decide +kernel
theorem dX5_at_12 : decode cX5_at 12 = .ok (.iaload, 1) := by decide +kernel
theorem dX5_at_13 : decode cX5_at 13 = .ok (.goto 4, 3) := by decide +kernel
theorem dX5_at_16 : decode cX5_at 16 = .ok (.iconst 0, 1) := by decide +kernel
theorem dX5_at_17 : decode cX5_at 17 = .ok (.ireturn, 1) := by decide +kernel
theorem dX5_put_0 : decode cX5_put 0 = .ok (.iload_n 1, 1) := by decide +kernel
theorem dX5_put_1 : decode cX5_put 1 = .ok (.ifCond .lt 13, 3) := by decide +kernel
theorem dX5_put_4 : decode cX5_put 4 = .ok (.iload_n 1, 1) := by decide +kernel
theorem dX5_put_5 : decode cX5_put 5 = .ok (.aload_n 0, 1) := by decide +kernel
theorem dX5_put_6 : decode cX5_put 6 = .ok (.arraylength, 1) := by decide +kernel
theorem dX5_put_7 : decode cX5_put 7 = .ok (.if_icmp .ge 7, 3) := by decide +kernel
theorem dX5_put_10 : decode cX5_put 10 = .ok (.aload_n 0, 1) := by decide +kernel
theorem dX5_put_11 : decode cX5_put 11 = .ok (.iload_n 1, 1) := by decide +kernel
theorem dX5_put_12 : decode cX5_put 12 = .ok (.iload_n 2, 1) := by decide +kernel
theorem dX5_put_13 : decode cX5_put 13 = .ok (.iastore, 1) := by decide +kernel
theorem dX5_put_14 : decode cX5_put 14 = .ok (.return_, 1) := by decide +kernel
theorem dX5_stateAt_0 : decode cX5_stateAt 0 = .ok (.iload_n 1, 1) := by decide +kernel
theorem dX5_stateAt_1 : decode cX5_stateAt 1 = .ok (.ifCond .lt 29, 3) := by decide +kernel
theorem dX5_stateAt_4 : decode cX5_stateAt 4 = .ok (.iload_n 1, 1) := by decide +kernel
theorem dX5_stateAt_5 : decode cX5_stateAt 5 = .ok (.aload_n 0, 1) := by decide +kernel
theorem dX5_stateAt_6 : decode cX5_stateAt 6 = .ok (.getfield 274, 3) := by decide +kernel
theorem dX5_stateAt_9 : decode cX5_stateAt 9 = .ok (.if_icmp .ge 21, 3) := by decide +kernel
theorem dX5_stateAt_12 : decode cX5_stateAt 12 = .ok (.iload_n 1, 1) := by decide +kernel
theorem dX5_stateAt_13 : decode cX5_stateAt 13 = .ok (.aload_n 0, 1) := by decide +kernel
theorem dX5_stateAt_14 : decode cX5_stateAt 14 = .ok (.getfield 19, 3) := by decide +kernel
theorem dX5_stateAt_17 : decode cX5_stateAt 17 = .ok (.arraylength, 1) := by decide +kernel
theorem dX5_stateAt_18 : decode cX5_stateAt 18 = .ok (.if_icmp .ge 12, 3) := by decide +kernel
theorem dX5_stateAt_21 : decode cX5_stateAt 21 = .ok (.aload_n 0, 1) := by decide +kernel
theorem dX5_stateAt_22 : decode cX5_stateAt 22 = .ok (.getfield 19, 3) := by decide +kernel
theorem dX5_stateAt_25 : decode cX5_stateAt 25 = .ok (.iload_n 1, 1) := by decide +kernel
theorem dX5_stateAt_26 : decode cX5_stateAt 26 = .ok (.aaload, 1) := by decide +kernel
theorem dX5_stateAt_27 : decode cX5_stateAt 27 = .ok (.goto 4, 3) := by decide +kernel
theorem dX5_stateAt_30 : decode cX5_stateAt 30 = .ok (.aconst_null, 1) := by decide +kernel
theorem dX5_stateAt_31 : decode cX5_stateAt 31 = .ok (.areturn, 1) := by decide +kernel
theorem dX5_keepState_0 : decode cX5_keepState 0 = .ok (.aload_n 0, 1) := by decide +kernel
theorem dX5_keepState_1 : decode cX5_keepState 1 = .ok (.getfield 274, 3) := by decide +kernel
theorem dX5_keepState_4 : decode cX5_keepState 4 = .ok (.aload_n 0, 1) := by decide +kernel
theorem dX5_keepState_5 : decode cX5_keepState 5 = .ok (.getfield 19, 3) := by decide +kernel
theorem dX5_keepState_8 : decode cX5_keepState 8 = .ok (.arraylength, 1) := by decide +kernel
theorem dX5_keepState_9 : decode cX5_keepState 9 = .ok (.if_icmp .lt 7, 3) := by decide +kernel
theorem dX5_keepState_12 : decode cX5_keepState 12 = .ok (.aload_n 0, 1) := by decide +kernel
theorem dX5_keepState_13 : decode cX5_keepState 13 = .ok (.invokevirtual 294, 3) := by decide +kernel
theorem dX5_keepState_16 : decode cX5_keepState 16 = .ok (.aload_n 0, 1) := by decide +kernel
theorem dX5_keepState_17 : decode cX5_keepState 17 = .ok (.getfield 274, 3) := by decide +kernel
theorem dX5_keepState_20 : decode cX5_keepState 20 = .ok (.ifCond .lt 53, 3) := by decide +kernel
theorem dX5_keepState_23 : decode cX5_keepState 23 = .ok (.aload_n 0, 1) := by decide +kernel
theorem dX5_keepState_24 : decode cX5_keepState 24 = .ok (.getfield 274, 3) := by decide +kernel
theorem dX5_keepState_27 : decode cX5_keepState 27 = .ok (.aload_n 0, 1) := by decide +kernel
theorem dX5_keepState_28 : decode cX5_keepState 28 = .ok (.getfield 19, 3) := by decide +kernel
theorem dX5_keepState_31 : decode cX5_keepState 31 = .ok (.arraylength, 1) := by decide +kernel
theorem dX5_keepState_32 : decode cX5_keepState 32 = .ok (.if_icmp .ge 41, 3) := by decide +kernel
theorem dX5_keepState_35 : decode cX5_keepState 35 = .ok (.aload_n 0, 1) := by decide +kernel
theorem dX5_keepState_36 : decode cX5_keepState 36 = .ok (.getfield 19, 3) := by decide +kernel
theorem dX5_keepState_39 : decode cX5_keepState 39 = .ok (.aload_n 0, 1) := by decide +kernel
theorem dX5_keepState_40 : decode cX5_keepState 40 = .ok (.getfield 274, 3) := by decide +kernel
theorem dX5_keepState_43 : decode cX5_keepState 43 = .ok (.aaload, 1) := by decide +kernel
theorem dX5_keepState_44 : decode cX5_keepState 44 = .ok (.ifnull 29, 3) := by decide +kernel
theorem dX5_keepState_47 : decode cX5_keepState 47 = .ok (.aload_n 0, 1) := by decide +kernel
theorem dX5_keepState_48 : decode cX5_keepState 48 = .ok (.getfield 19, 3) := by decide +kernel
theorem dX5_keepState_51 : decode cX5_keepState 51 = .ok (.aload_n 0, 1) := by decide +kernel
theorem dX5_keepState_52 : decode cX5_keepState 52 = .ok (.getfield 274, 3) := by decide +kernel
theorem dX5_keepState_55 : decode cX5_keepState 55 = .ok (.aaload, 1) := by decide +kernel
theorem dX5_keepState_56 : decode cX5_keepState 56 = .ok (.aload_n 0, 1) := by decide +kernel
theorem dX5_keepState_57 : decode cX5_keepState 57 = .ok (.getfield 10, 3) := by decide +kernel
theorem dX5_keepState_60 : decode cX5_keepState 60 = .ok (.invokevirtual 287, 3) := by decide +kernel
theorem dX5_keepState_63 : decode cX5_keepState 63 = .ok (.aload_n 0, 1) := by decide +kernel
theorem dX5_keepState_64 : decode cX5_keepState 64 = .ok (.dup, 1) := by decide +kernel
theorem dX5_keepState_65 : decode cX5_keepState 65 = .ok (.getfield 274, 3) := by decide +kernel
theorem dX5_keepState_68 : decode cX5_keepState 68 = .ok (.iconst 1, 1) := by decide +kernel
theorem dX5_keepState_69 : decode cX5_keepState 69 = .ok (.iadd, 1) := by decide +kernel
theorem dX5_keepState_70 : decode cX5_keepState 70 = .ok (.putfield 274, 3) := by decide +kernel
theorem dX5_keepState_73 : decode cX5_keepState 73 = .ok (.return_, 1) := by decide +kernel
theorem dX5_forgetOldest_0 : decode cX5_forgetOldest 0 = .ok (.aload_n 0, 1) := by decide +kernel
theorem dX5_forgetOldest_1 : decode cX5_forgetOldest 1 = .ok (.getfield 19, 3) := by decide +kernel
theorem dX5_forgetOldest_4 : decode cX5_forgetOldest 4 = .ok (.arraylength, 1) := by decide +kernel
theorem dX5_forgetOldest_5 : decode cX5_forgetOldest 5 = .ok (.ifCond .ne 4, 3) := by decide +kernel
theorem dX5_forgetOldest_8 : decode cX5_forgetOldest 8 = .ok (.return_, 1) := by decide +kernel
theorem dX5_forgetOldest_9 : decode cX5_forgetOldest 9 = .ok (.aload_n 0, 1) := by decide +kernel
theorem dX5_forgetOldest_10 : decode cX5_forgetOldest 10 = .ok (.getfield 19, 3) := by decide +kernel
theorem dX5_forgetOldest_13 : decode cX5_forgetOldest 13 = .ok (.iconst 0, 1) := by decide +kernel
theorem dX5_forgetOldest_14 : decode cX5_forgetOldest 14 = .ok (.aaload, 1) := by decide +kernel
theorem dX5_forgetOldest_15 : decode cX5_forgetOldest 15 = .ok (.astore_n 1, 1) := by decide +kernel
theorem dX5_forgetOldest_16 : decode cX5_forgetOldest 16 = .ok (.iconst 1, 1) := by decide +kernel
theorem dX5_forgetOldest_17 : decode cX5_forgetOldest 17 = .ok (.istore_n 2, 1) := by decide +kernel
theorem dX5_forgetOldest_18 : decode cX5_forgetOldest 18 = .ok (.iload_n 2, 1) := by decide +kernel
theorem dX5_forgetOldest_19 : decode cX5_forgetOldest 19 = .ok (.aload_n 0, 1) := by decide +kernel
theorem dX5_forgetOldest_20 : decode cX5_forgetOldest 20 = .ok (.getfield 19, 3) := by decide +kernel
theorem dX5_forgetOldest_23 : decode cX5_forgetOldest 23 = .ok (.arraylength, 1) := by decide +kernel
theorem dX5_forgetOldest_24 : decode cX5_forgetOldest 24 = .ok (.if_icmp .ge 23, 3) := by decide +kernel
theorem dX5_forgetOldest_27 : decode cX5_forgetOldest 27 = .ok (.aload_n 0, 1) := by decide +kernel
theorem dX5_forgetOldest_28 : decode cX5_forgetOldest 28 = .ok (.getfield 19, 3) := by decide +kernel
theorem dX5_forgetOldest_31 : decode cX5_forgetOldest 31 = .ok (.iload_n 2, 1) := by decide +kernel
theorem dX5_forgetOldest_32 : decode cX5_forgetOldest 32 = .ok (.iconst 1, 1) := by decide +kernel
theorem dX5_forgetOldest_33 : decode cX5_forgetOldest 33 = .ok (.isub, 1) := by decide +kernel
theorem dX5_forgetOldest_34 : decode cX5_forgetOldest 34 = .ok (.aload_n 0, 1) := by decide +kernel
theorem dX5_forgetOldest_35 : decode cX5_forgetOldest 35 = .ok (.getfield 19, 3) := by decide +kernel
theorem dX5_forgetOldest_38 : decode cX5_forgetOldest 38 = .ok (.iload_n 2, 1) := by decide +kernel
theorem dX5_forgetOldest_39 : decode cX5_forgetOldest 39 = .ok (.aaload, 1) := by decide +kernel
theorem dX5_forgetOldest_40 : decode cX5_forgetOldest 40 = .ok (.aastore, 1) := by decide +kernel
theorem dX5_forgetOldest_41 : decode cX5_forgetOldest 41 = .ok (.iinc 2 1, 3) := by decide +kernel
theorem dX5_forgetOldest_44 : decode cX5_forgetOldest 44 = .ok (.goto (-26), 3) := by decide +kernel
theorem dX5_forgetOldest_47 : decode cX5_forgetOldest 47 = .ok (.aload_n 0, 1) := by decide +kernel
theorem dX5_forgetOldest_48 : decode cX5_forgetOldest 48 = .ok (.getfield 19, 3) := by decide +kernel
theorem dX5_forgetOldest_51 : decode cX5_forgetOldest 51 = .ok (.aload_n 0, 1) := by decide +kernel
theorem dX5_forgetOldest_52 : decode cX5_forgetOldest 52 = .ok (.getfield 19, 3) := by decide +kernel
theorem dX5_forgetOldest_55 : decode cX5_forgetOldest 55 = .ok (.arraylength, 1) := by decide +kernel
theorem dX5_forgetOldest_56 : decode cX5_forgetOldest 56 = .ok (.iconst 1, 1) := by decide +kernel
theorem dX5_forgetOldest_57 : decode cX5_forgetOldest 57 = .ok (.isub, 1) := by decide +kernel
theorem dX5_forgetOldest_58 : decode cX5_forgetOldest 58 = .ok (.aload_n 1, 1) := by decide +kernel
theorem dX5_forgetOldest_59 : decode cX5_forgetOldest 59 = .ok (.aastore, 1) := by decide +kernel
theorem dX5_forgetOldest_60 : decode cX5_forgetOldest 60 = .ok (.aload_n 0, 1) := by decide +kernel
theorem dX5_forgetOldest_61 : decode cX5_forgetOldest 61 = .ok (.aload_n 0, 1) := by decide +kernel
theorem dX5_forgetOldest_62 : decode cX5_forgetOldest 62 = .ok (.getfield 19, 3) := by decide +kernel
theorem dX5_forgetOldest_65 : decode cX5_forgetOldest 65 = .ok (.arraylength, 1) := by decide +kernel
theorem dX5_forgetOldest_66 : decode cX5_forgetOldest 66 = .ok (.iconst 1, 1) := by decide +kernel
theorem dX5_forgetOldest_67 : decode cX5_forgetOldest 67 = .ok (.isub, 1) := by decide +kernel
theorem dX5_forgetOldest_68 : decode cX5_forgetOldest 68 = .ok (.putfield 274, 3) := by decide +kernel
theorem dX5_forgetOldest_71 : decode cX5_forgetOldest 71 = .ok (.return_, 1) := by decide +kernel
theorem dX5_decide_0 : decode cX5_decide 0 = .ok (.aload_n 0, 1) := by decide +kernel
theorem dX5_decide_1 : decode cX5_decide 1 = .ok (.getfield 40, 3) := by decide +kernel
theorem dX5_decide_4 : decode cX5_decide 4 = .ok (.aload_n 0, 1) := by decide +kernel
theorem dX5_decide_5 : decode cX5_decide 5 = .ok (.getfield 10, 3) := by decide +kernel
theorem dX5_decide_8 : decode cX5_decide 8 = .ok (.aload_n 1, 1) := by decide +kernel
theorem dX5_decide_9 : decode cX5_decide 9 = .ok (.invokevirtual 170, 3) := by decide +kernel
theorem dX5_decide_12 : decode cX5_decide 12 = .ok (.aload_n 0, 1) := by decide +kernel
theorem dX5_decide_13 : decode cX5_decide 13 = .ok (.aload_n 1, 1) := by decide +kernel
theorem dX5_decide_14 : decode cX5_decide 14 = .ok (.iload_n 2, 1) := by decide +kernel
theorem dX5_decide_15 : decode cX5_decide 15 = .ok (.invokevirtual 238, 3) := by decide +kernel
theorem dX5_decide_18 : decode cX5_decide 18 = .ok (.istore_n 3, 1) := by decide +kernel
theorem dX5_decide_19 : decode cX5_decide 19 = .ok (.iload_n 3, 1) := by decide +kernel
theorem dX5_decide_20 : decode cX5_decide 20 = .ok (.ifCond .eq 18, 3) := by decide +kernel
theorem dX5_decide_23 : decode cX5_decide 23 = .ok (.aload_n 0, 1) := by decide +kernel
theorem dX5_decide_24 : decode cX5_decide 24 = .ok (.getfield 10, 3) := by decide +kernel
theorem dX5_decide_27 : decode cX5_decide 27 = .ok (.dup, 1) := by decide +kernel
theorem dX5_decide_28 : decode cX5_decide 28 = .ok (.getfield 265, 3) := by decide +kernel
theorem dX5_decide_31 : decode cX5_decide 31 = .ok (.iconst 1, 1) := by decide +kernel
theorem dX5_decide_32 : decode cX5_decide 32 = .ok (.iadd, 1) := by decide +kernel
theorem dX5_decide_33 : decode cX5_decide 33 = .ok (.putfield 265, 3) := by decide +kernel
theorem dX5_decide_36 : decode cX5_decide 36 = .ok (.iload_n 3, 1) := by decide +kernel
theorem dX5_decide_37 : decode cX5_decide 37 = .ok (.ireturn, 1) := by decide +kernel
theorem dX5_decide_38 : decode cX5_decide 38 = .ok (.aload_n 1, 1) := by decide +kernel
theorem dX5_decide_39 : decode cX5_decide 39 = .ok (.iload_n 2, 1) := by decide +kernel
theorem dX5_decide_40 : decode cX5_decide 40 = .ok (.invokevirtual 208, 3) := by decide +kernel
theorem dX5_decide_43 : decode cX5_decide 43 = .ok (.istore 4, 2) := by decide +kernel
theorem dX5_decide_45 : decode cX5_decide 45 = .ok (.aload_n 0, 1) := by decide +kernel
theorem dX5_decide_46 : decode cX5_decide 46 = .ok (.getfield 40, 3) := by decide +kernel
theorem dX5_decide_49 : decode cX5_decide 49 = .ok (.aload_n 1, 1) := by decide +kernel
theorem dX5_decide_50 : decode cX5_decide 50 = .ok (.getfield 105, 3) := by decide +kernel
theorem dX5_decide_53 : decode cX5_decide 53 = .ok (.invokevirtual 189, 3) := by decide +kernel
theorem dX5_decide_56 : decode cX5_decide 56 = .ok (.aload_n 0, 1) := by decide +kernel
theorem dX5_decide_57 : decode cX5_decide 57 = .ok (.getfield 40, 3) := by decide +kernel
theorem dX5_decide_60 : decode cX5_decide 60 = .ok (.iload 4, 2) := by decide +kernel
theorem dX5_decide_62 : decode cX5_decide 62 = .ok (.invokevirtual 189, 3) := by decide +kernel
theorem dX5_decide_65 : decode cX5_decide 65 = .ok (.isub, 1) := by decide +kernel
theorem dX5_decide_66 : decode cX5_decide 66 = .ok (.istore 5, 2) := by decide +kernel
theorem dX5_decide_68 : decode cX5_decide 68 = .ok (.aload_n 1, 1) := by decide +kernel
theorem dX5_decide_69 : decode cX5_decide 69 = .ok (.iload 4, 2) := by decide +kernel
theorem dX5_decide_71 : decode cX5_decide 71 = .ok (.putfield 105, 3) := by decide +kernel
theorem dX5_decide_74 : decode cX5_decide 74 = .ok (.aload_n 1, 1) := by decide +kernel
theorem dX5_decide_75 : decode cX5_decide 75 = .ok (.dup, 1) := by decide +kernel
theorem dX5_decide_76 : decode cX5_decide 76 = .ok (.getfield 196, 3) := by decide +kernel
theorem dX5_decide_79 : decode cX5_decide 79 = .ok (.iconst 1, 1) := by decide +kernel
theorem dX5_decide_80 : decode cX5_decide 80 = .ok (.iadd, 1) := by decide +kernel
theorem dX5_decide_81 : decode cX5_decide 81 = .ok (.putfield 196, 3) := by decide +kernel
theorem dX5_decide_84 : decode cX5_decide 84 = .ok (.aload_n 0, 1) := by decide +kernel
theorem dX5_decide_85 : decode cX5_decide 85 = .ok (.getfield 10, 3) := by decide +kernel
theorem dX5_decide_88 : decode cX5_decide 88 = .ok (.dup, 1) := by decide +kernel
theorem dX5_decide_89 : decode cX5_decide 89 = .ok (.getfield 264, 3) := by decide +kernel
theorem dX5_decide_92 : decode cX5_decide 92 = .ok (.iconst 1, 1) := by decide +kernel
theorem dX5_decide_93 : decode cX5_decide 93 = .ok (.iadd, 1) := by decide +kernel
theorem dX5_decide_94 : decode cX5_decide 94 = .ok (.putfield 264, 3) := by decide +kernel
theorem dX5_decide_97 : decode cX5_decide 97 = .ok (.bipush 10, 2) := by decide +kernel
theorem dX5_decide_99 : decode cX5_decide 99 = .ok (.iload 5, 2) := by decide +kernel
theorem dX5_decide_101 : decode cX5_decide 101 = .ok (.iadd, 1) := by decide +kernel
theorem dX5_decide_102 : decode cX5_decide 102 = .ok (.ireturn, 1) := by decide +kernel
theorem dX5_reasonAgainst_0 : decode cX5_reasonAgainst 0 = .ok (.aload_n 0, 1) := by decide +kernel
theorem dX5_reasonAgainst_1 : decode cX5_reasonAgainst 1 = .ok (.getfield 10, 3) := by decide +kernel
theorem dX5_reasonAgainst_4 : decode cX5_reasonAgainst 4 = .ok (.aload_n 1, 1) := by decide +kernel
theorem dX5_reasonAgainst_5 : decode cX5_reasonAgainst 5 = .ok (.invokevirtual 192, 3) := by decide +kernel
theorem dX5_reasonAgainst_8 : decode cX5_reasonAgainst 8 = .ok (.ifCond .eq 5, 3) := by decide +kernel
theorem dX5_reasonAgainst_11 : decode cX5_reasonAgainst 11 = .ok (.iconst 1, 1) := by decide +kernel
theorem dX5_reasonAgainst_12 : decode cX5_reasonAgainst 12 = .ok (.ireturn, 1) := by decide +kernel
theorem dX5_reasonAgainst_13 : decode cX5_reasonAgainst 13 = .ok (.aload_n 1, 1) := by decide +kernel
theorem dX5_reasonAgainst_14 : decode cX5_reasonAgainst 14 = .ok (.iload_n 2, 1) := by decide +kernel
theorem dX5_reasonAgainst_15 : decode cX5_reasonAgainst 15 = .ok (.invokevirtual 208, 3) := by decide +kernel
theorem dX5_reasonAgainst_18 : decode cX5_reasonAgainst 18 = .ok (.istore_n 3, 1) := by decide +kernel
theorem dX5_reasonAgainst_19 : decode cX5_reasonAgainst 19 = .ok (.aload_n 0, 1) := by decide +kernel
theorem dX5_reasonAgainst_20 : decode cX5_reasonAgainst 20 = .ok (.getfield 40, 3) := by decide +kernel
theorem dX5_reasonAgainst_23 : decode cX5_reasonAgainst 23 = .ok (.iload_n 3, 1) := by decide +kernel
theorem dX5_reasonAgainst_24 : decode cX5_reasonAgainst 24 = .ok (.invokevirtual 189, 3) := by decide +kernel
theorem dX5_reasonAgainst_27 : decode cX5_reasonAgainst 27 = .ok (.aload_n 0, 1) := by decide +kernel
theorem dX5_reasonAgainst_28 : decode cX5_reasonAgainst 28 = .ok (.getfield 40, 3) := by decide +kernel
theorem dX5_reasonAgainst_31 : decode cX5_reasonAgainst 31 = .ok (.aload_n 1, 1) := by decide +kernel
theorem dX5_reasonAgainst_32 : decode cX5_reasonAgainst 32 = .ok (.getfield 105, 3) := by decide +kernel
theorem dX5_reasonAgainst_35 : decode cX5_reasonAgainst 35 = .ok (.invokevirtual 189, 3) := by decide +kernel
theorem dX5_reasonAgainst_38 : decode cX5_reasonAgainst 38 = .ok (.if_icmp .lt 5, 3) := by decide +kernel
theorem dX5_reasonAgainst_41 : decode cX5_reasonAgainst 41 = .ok (.iconst 2, 1) := by decide +kernel
theorem dX5_reasonAgainst_42 : decode cX5_reasonAgainst 42 = .ok (.ireturn, 1) := by decide +kernel
theorem dX5_reasonAgainst_43 : decode cX5_reasonAgainst 43 = .ok (.aload_n 0, 1) := by decide +kernel
theorem dX5_reasonAgainst_44 : decode cX5_reasonAgainst 44 = .ok (.getfield 10, 3) := by decide +kernel
theorem dX5_reasonAgainst_47 : decode cX5_reasonAgainst 47 = .ok (.aload_n 1, 1) := by decide +kernel
theorem dX5_reasonAgainst_48 : decode cX5_reasonAgainst 48 = .ok (.iload_n 3, 1) := by decide +kernel
theorem dX5_reasonAgainst_49 : decode cX5_reasonAgainst 49 = .ok (.invokevirtual 108, 3) := by decide +kernel
theorem dX5_reasonAgainst_52 : decode cX5_reasonAgainst 52 = .ok (.ifCond .eq 7, 3) := by decide +kernel
theorem dX5_reasonAgainst_55 : decode cX5_reasonAgainst 55 = .ok (.iconst 3, 1) := by decide +kernel
theorem dX5_reasonAgainst_56 : decode cX5_reasonAgainst 56 = .ok (.goto 4, 3) := by decide +kernel
theorem dX5_reasonAgainst_59 : decode cX5_reasonAgainst 59 = .ok (.iconst 0, 1) := by decide +kernel
theorem dX5_reasonAgainst_60 : decode cX5_reasonAgainst 60 = .ok (.ireturn, 1) := by decide +kernel
theorem dX5_reasonOfPart_0 : decode cX5_reasonOfPart 0 = .ok (.aload_n 0, 1) := by decide +kernel
theorem dX5_reasonOfPart_1 : decode cX5_reasonOfPart 1 = .ok (.getfield 26, 3) := by decide +kernel
theorem dX5_reasonOfPart_4 : decode cX5_reasonOfPart 4 = .ok (.iload_n 1, 1) := by decide +kernel
theorem dX5_reasonOfPart_5 : decode cX5_reasonOfPart 5 = .ok (.invokevirtual 297, 3) := by decide +kernel
theorem dX5_reasonOfPart_8 : decode cX5_reasonOfPart 8 = .ok (.bipush 43, 2) := by decide +kernel
theorem dX5_reasonOfPart_10 : decode cX5_reasonOfPart 10 = .ok (.if_icmp .ne 18, 3) := by decide +kernel
theorem dX5_reasonOfPart_13 : decode cX5_reasonOfPart 13 = .ok (.aload_n 0, 1) := by decide +kernel
theorem dX5_reasonOfPart_14 : decode cX5_reasonOfPart 14 = .ok (.getfield 10, 3) := by decide +kernel
theorem dX5_reasonOfPart_17 : decode cX5_reasonOfPart 17 = .ok (.dup, 1) := by decide +kernel
theorem dX5_reasonOfPart_18 : decode cX5_reasonOfPart 18 = .ok (.getfield 139, 3) := by decide +kernel
theorem dX5_reasonOfPart_21 : decode cX5_reasonOfPart 21 = .ok (.iconst 1, 1) := by decide +kernel
theorem dX5_reasonOfPart_22 : decode cX5_reasonOfPart 22 = .ok (.iadd, 1) := by decide +kernel
theorem dX5_reasonOfPart_23 : decode cX5_reasonOfPart 23 = .ok (.putfield 139, 3) := by decide +kernel
theorem dX5_reasonOfPart_26 : decode cX5_reasonOfPart 26 = .ok (.iconst 0, 1) := by decide +kernel
theorem dX5_reasonOfPart_27 : decode cX5_reasonOfPart 27 = .ok (.ireturn, 1) := by decide +kernel
theorem dX5_reasonOfPart_28 : decode cX5_reasonOfPart 28 = .ok (.aload_n 0, 1) := by decide +kernel
theorem dX5_reasonOfPart_29 : decode cX5_reasonOfPart 29 = .ok (.getfield 10, 3) := by decide +kernel
theorem dX5_reasonOfPart_32 : decode cX5_reasonOfPart 32 = .ok (.aload_n 0, 1) := by decide +kernel
theorem dX5_reasonOfPart_33 : decode cX5_reasonOfPart 33 = .ok (.getfield 26, 3) := by decide +kernel
theorem dX5_reasonOfPart_36 : decode cX5_reasonOfPart 36 = .ok (.iload_n 1, 1) := by decide +kernel
theorem dX5_reasonOfPart_37 : decode cX5_reasonOfPart 37 = .ok (.invokevirtual 297, 3) := by decide +kernel
theorem dX5_reasonOfPart_40 : decode cX5_reasonOfPart 40 = .ok (.bipush 48, 2) := by decide +kernel
theorem dX5_reasonOfPart_42 : decode cX5_reasonOfPart 42 = .ok (.isub, 1) := by decide +kernel
theorem dX5_reasonOfPart_43 : decode cX5_reasonOfPart 43 = .ok (.invokevirtual 121, 3) := by decide +kernel
theorem dX5_reasonOfPart_46 : decode cX5_reasonOfPart 46 = .ok (.astore_n 2, 1) := by decide +kernel
theorem dX5_reasonOfPart_47 : decode cX5_reasonOfPart 47 = .ok (.aload_n 0, 1) := by decide +kernel
theorem dX5_reasonOfPart_48 : decode cX5_reasonOfPart 48 = .ok (.getfield 26, 3) := by decide +kernel
theorem dX5_reasonOfPart_51 : decode cX5_reasonOfPart 51 = .ok (.iload_n 1, 1) := by decide +kernel
theorem dX5_reasonOfPart_52 : decode cX5_reasonOfPart 52 = .ok (.iconst 2, 1) := by decide +kernel
theorem dX5_reasonOfPart_53 : decode cX5_reasonOfPart 53 = .ok (.iadd, 1) := by decide +kernel
theorem dX5_reasonOfPart_54 : decode cX5_reasonOfPart 54 = .ok (.invokevirtual 300, 3) := by decide +kernel
theorem dX5_reasonOfPart_57 : decode cX5_reasonOfPart 57 = .ok (.istore_n 3, 1) := by decide +kernel
theorem dX5_reasonOfPart_58 : decode cX5_reasonOfPart 58 = .ok (.aload_n 2, 1) := by decide +kernel
theorem dX5_reasonOfPart_59 : decode cX5_reasonOfPart 59 = .ok (.ifnull 11, 3) := by decide +kernel
theorem dX5_reasonOfPart_62 : decode cX5_reasonOfPart 62 = .ok (.aload_n 2, 1) := by decide +kernel
theorem dX5_reasonOfPart_63 : decode cX5_reasonOfPart 63 = .ok (.iload_n 3, 1) := by decide +kernel
theorem dX5_reasonOfPart_64 : decode cX5_reasonOfPart 64 = .ok (.invokevirtual 129, 3) := by decide +kernel
theorem dX5_reasonOfPart_67 : decode cX5_reasonOfPart 67 = .ok (.ifCond .ne 5, 3) := by decide +kernel
theorem dX5_reasonOfPart_70 : decode cX5_reasonOfPart 70 = .ok (.iconst (-1), 1) := by decide +kernel
theorem dX5_reasonOfPart_71 : decode cX5_reasonOfPart 71 = .ok (.ireturn, 1) := by decide +kernel
theorem dX5_reasonOfPart_72 : decode cX5_reasonOfPart 72 = .ok (.aload_n 0, 1) := by decide +kernel
theorem dX5_reasonOfPart_73 : decode cX5_reasonOfPart 73 = .ok (.aload_n 2, 1) := by decide +kernel
theorem dX5_reasonOfPart_74 : decode cX5_reasonOfPart 74 = .ok (.iload_n 3, 1) := by decide +kernel
theorem dX5_reasonOfPart_75 : decode cX5_reasonOfPart 75 = .ok (.invokevirtual 132, 3) := by decide +kernel
theorem dX5_reasonOfPart_78 : decode cX5_reasonOfPart 78 = .ok (.istore 4, 2) := by decide +kernel
theorem dX5_reasonOfPart_80 : decode cX5_reasonOfPart 80 = .ok (.iload 4, 2) := by decide +kernel
theorem dX5_reasonOfPart_82 : decode cX5_reasonOfPart 82 = .ok (.bipush 10, 2) := by decide +kernel
theorem dX5_reasonOfPart_84 : decode cX5_reasonOfPart 84 = .ok (.if_icmp .le 7, 3) := by decide +kernel
theorem dX5_reasonOfPart_87 : decode cX5_reasonOfPart 87 = .ok (.iconst 0, 1) := by decide +kernel
theorem dX5_reasonOfPart_88 : decode cX5_reasonOfPart 88 = .ok (.goto 5, 3) := by decide +kernel
theorem dX5_reasonOfPart_91 : decode cX5_reasonOfPart 91 = .ok (.iload 4, 2) := by decide +kernel
theorem dX5_reasonOfPart_93 : decode cX5_reasonOfPart 93 = .ok (.ireturn, 1) := by decide +kernel
theorem dX5_costOfEdition_0 : decode cX5_costOfEdition 0 = .ok (.aload_n 0, 1) := by decide +kernel
theorem dX5_costOfEdition_1 : decode cX5_costOfEdition 1 = .ok (.getfield 10, 3) := by decide +kernel
theorem dX5_costOfEdition_4 : decode cX5_costOfEdition 4 = .ok (.iload_n 1, 1) := by decide +kernel
theorem dX5_costOfEdition_5 : decode cX5_costOfEdition 5 = .ok (.invokevirtual 121, 3) := by decide +kernel
theorem dX5_costOfEdition_8 : decode cX5_costOfEdition 8 = .ok (.astore_n 2, 1) := by decide +kernel
theorem dX5_costOfEdition_9 : decode cX5_costOfEdition 9 = .ok (.aload_n 2, 1) := by decide +kernel
theorem dX5_costOfEdition_10 : decode cX5_costOfEdition 10 = .ok (.ifnonnull 5, 3) := by decide +kernel
theorem dX5_costOfEdition_13 : decode cX5_costOfEdition 13 = .ok (.iconst 0, 1) := by decide +kernel
theorem dX5_costOfEdition_14 : decode cX5_costOfEdition 14 = .ok (.ireturn, 1) := by decide +kernel
theorem dX5_costOfEdition_15 : decode cX5_costOfEdition 15 = .ok (.aload_n 0, 1) := by decide +kernel
theorem dX5_costOfEdition_16 : decode cX5_costOfEdition 16 = .ok (.getfield 40, 3) := by decide +kernel
theorem dX5_costOfEdition_19 : decode cX5_costOfEdition 19 = .ok (.aload_n 0, 1) := by decide +kernel
theorem dX5_costOfEdition_20 : decode cX5_costOfEdition 20 = .ok (.getfield 10, 3) := by decide +kernel
theorem dX5_costOfEdition_23 : decode cX5_costOfEdition 23 = .ok (.aload_n 2, 1) := by decide +kernel
theorem dX5_costOfEdition_24 : decode cX5_costOfEdition 24 = .ok (.invokevirtual 170, 3) := by decide +kernel
theorem dX5_costOfEdition_27 : decode cX5_costOfEdition 27 = .ok (.aload_n 0, 1) := by decide +kernel
theorem dX5_costOfEdition_28 : decode cX5_costOfEdition 28 = .ok (.getfield 40, 3) := by decide +kernel
theorem dX5_costOfEdition_31 : decode cX5_costOfEdition 31 = .ok (.aload_n 2, 1) := by decide +kernel
theorem dX5_costOfEdition_32 : decode cX5_costOfEdition 32 = .ok (.getfield 105, 3) := by decide +kernel
theorem dX5_costOfEdition_35 : decode cX5_costOfEdition 35 = .ok (.invokevirtual 189, 3) := by decide +kernel
theorem dX5_costOfEdition_38 : decode cX5_costOfEdition 38 = .ok (.ireturn, 1) := by decide +kernel
theorem dX5_costOfAll_0 : decode cX5_costOfAll 0 = .ok (.iconst 0, 1) := by decide +kernel
theorem dX5_costOfAll_1 : decode cX5_costOfAll 1 = .ok (.istore_n 1, 1) := by decide +kernel
theorem dX5_costOfAll_2 : decode cX5_costOfAll 2 = .ok (.iconst 0, 1) := by decide +kernel
theorem dX5_costOfAll_3 : decode cX5_costOfAll 3 = .ok (.istore_n 2, 1) := by decide +kernel
theorem dX5_costOfAll_4 : decode cX5_costOfAll 4 = .ok (.iload_n 2, 1) := by decide +kernel
theorem dX5_costOfAll_5 : decode cX5_costOfAll 5 = .ok (.aload_n 0, 1) := by decide +kernel
theorem dX5_costOfAll_6 : decode cX5_costOfAll 6 = .ok (.getfield 10, 3) := by decide +kernel
theorem dX5_costOfAll_9 : decode cX5_costOfAll 9 = .ok (.getfield 112, 3) := by decide +kernel
theorem dX5_costOfAll_12 : decode cX5_costOfAll 12 = .ok (.if_icmp .ge 17, 3) := by decide +kernel
theorem dX5_costOfAll_15 : decode cX5_costOfAll 15 = .ok (.iload_n 1, 1) := by decide +kernel
theorem dX5_costOfAll_16 : decode cX5_costOfAll 16 = .ok (.aload_n 0, 1) := by decide +kernel
theorem dX5_costOfAll_17 : decode cX5_costOfAll 17 = .ok (.iload_n 2, 1) := by decide +kernel
theorem dX5_costOfAll_18 : decode cX5_costOfAll 18 = .ok (.invokevirtual 303, 3) := by decide +kernel
theorem dX5_costOfAll_21 : decode cX5_costOfAll 21 = .ok (.iadd, 1) := by decide +kernel
theorem dX5_costOfAll_22 : decode cX5_costOfAll 22 = .ok (.istore_n 1, 1) := by decide +kernel
theorem dX5_costOfAll_23 : decode cX5_costOfAll 23 = .ok (.iinc 2 1, 3) := by decide +kernel
theorem dX5_costOfAll_26 : decode cX5_costOfAll 26 = .ok (.goto (-22), 3) := by decide +kernel
theorem dX5_costOfAll_29 : decode cX5_costOfAll 29 = .ok (.iload_n 1, 1) := by decide +kernel
theorem dX5_costOfAll_30 : decode cX5_costOfAll 30 = .ok (.ireturn, 1) := by decide +kernel
theorem dX5_cheapestEdition_0 : decode cX5_cheapestEdition 0 = .ok (.bipush (-4), 2) := by decide +kernel
theorem dX5_cheapestEdition_2 : decode cX5_cheapestEdition 2 = .ok (.istore_n 1, 1) := by decide +kernel
theorem dX5_cheapestEdition_3 : decode cX5_cheapestEdition 3 = .ok (.iconst 0, 1) := by decide +kernel
theorem dX5_cheapestEdition_4 : decode cX5_cheapestEdition 4 = .ok (.istore_n 2, 1) := by decide +kernel
theorem dX5_cheapestEdition_5 : decode cX5_cheapestEdition 5 = .ok (.iconst 0, 1) := by decide +kernel
theorem dX5_cheapestEdition_6 : decode cX5_cheapestEdition 6 = .ok (.istore_n 3, 1) := by decide +kernel
theorem dX5_cheapestEdition_7 : decode cX5_cheapestEdition 7 = .ok (.iload_n 3, 1) := by decide +kernel
theorem dX5_cheapestEdition_8 : decode cX5_cheapestEdition 8 = .ok (.aload_n 0, 1) := by decide +kernel
theorem dX5_cheapestEdition_9 : decode cX5_cheapestEdition 9 = .ok (.getfield 10, 3) := by decide +kernel
theorem dX5_cheapestEdition_12 : decode cX5_cheapestEdition 12 = .ok (.getfield 112, 3) := by decide +kernel
theorem dX5_cheapestEdition_15 : decode cX5_cheapestEdition 15 = .ok (.if_icmp .ge 33, 3) := by decide +kernel
theorem dX5_cheapestEdition_18 : decode cX5_cheapestEdition 18 = .ok (.aload_n 0, 1) := by decide +kernel
theorem dX5_cheapestEdition_19 : decode cX5_cheapestEdition 19 = .ok (.iload_n 3, 1) := by decide +kernel
theorem dX5_cheapestEdition_20 : decode cX5_cheapestEdition 20 = .ok (.invokevirtual 303, 3) := by decide +kernel
theorem dX5_cheapestEdition_23 : decode cX5_cheapestEdition 23 = .ok (.istore 4, 2) := by decide +kernel
theorem dX5_cheapestEdition_25 : decode cX5_cheapestEdition 25 = .ok (.iload_n 1, 1) := by decide +kernel
theorem dX5_cheapestEdition_26 : decode cX5_cheapestEdition 26 = .ok (.bipush (-4), 2) := by decide +kernel
theorem dX5_cheapestEdition_28 : decode cX5_cheapestEdition 28 = .ok (.if_icmp .eq 9, 3) := by decide +kernel
theorem dX5_cheapestEdition_31 : decode cX5_cheapestEdition 31 = .ok (.iload 4, 2) := by decide +kernel
theorem dX5_cheapestEdition_33 : decode cX5_cheapestEdition 33 = .ok (.iload_n 2, 1) := by decide +kernel
theorem dX5_cheapestEdition_34 : decode cX5_cheapestEdition 34 = .ok (.if_icmp .ge 8, 3) := by decide +kernel
theorem dX5_cheapestEdition_37 : decode cX5_cheapestEdition 37 = .ok (.iload_n 3, 1) := by decide +kernel
theorem dX5_cheapestEdition_38 : decode cX5_cheapestEdition 38 = .ok (.istore_n 1, 1) := by decide +kernel
theorem dX5_cheapestEdition_39 : decode cX5_cheapestEdition 39 = .ok (.iload 4, 2) := by decide +kernel
theorem dX5_cheapestEdition_41 : decode cX5_cheapestEdition 41 = .ok (.istore_n 2, 1) := by decide +kernel
theorem dX5_cheapestEdition_42 : decode cX5_cheapestEdition 42 = .ok (.iinc 3 1, 3) := by decide +kernel
theorem dX5_cheapestEdition_45 : decode cX5_cheapestEdition 45 = .ok (.goto (-38), 3) := by decide +kernel
theorem dX5_cheapestEdition_48 : decode cX5_cheapestEdition 48 = .ok (.iload_n 1, 1) := by decide +kernel
theorem dX5_cheapestEdition_49 : decode cX5_cheapestEdition 49 = .ok (.ireturn, 1) := by decide +kernel
theorem dX5_splittingsFrom_0 : decode cX5_splittingsFrom 0 = .ok (.iload_n 1, 1) := by decide +kernel
theorem dX5_splittingsFrom_1 : decode cX5_splittingsFrom 1 = .ok (.aload_n 0, 1) := by decide +kernel
theorem dX5_splittingsFrom_2 : decode cX5_splittingsFrom 2 = .ok (.getfield 306, 3) := by decide +kernel
theorem dX5_splittingsFrom_5 : decode cX5_splittingsFrom 5 = .ok (.if_icmp .lt 5, 3) := by decide +kernel
theorem dX5_splittingsFrom_8 : decode cX5_splittingsFrom 8 = .ok (.iconst 1, 1) := by decide +kernel
theorem dX5_splittingsFrom_9 : decode cX5_splittingsFrom 9 = .ok (.ireturn, 1) := by decide +kernel
theorem dX5_splittingsFrom_10 : decode cX5_splittingsFrom 10 = .ok (.iload_n 2, 1) := by decide +kernel
theorem dX5_splittingsFrom_11 : decode cX5_splittingsFrom 11 = .ok (.bipush 12, 2) := by decide +kernel
theorem dX5_splittingsFrom_13 : decode cX5_splittingsFrom 13 = .ok (.if_icmp .lt 5, 3) := by decide +kernel
theorem dX5_splittingsFrom_16 : decode cX5_splittingsFrom 16 = .ok (.iconst 0, 1) := by decide +kernel
theorem dX5_splittingsFrom_17 : decode cX5_splittingsFrom 17 = .ok (.ireturn, 1) := by decide +kernel
theorem dX5_splittingsFrom_18 : decode cX5_splittingsFrom 18 = .ok (.iconst 0, 1) := by decide +kernel
theorem dX5_splittingsFrom_19 : decode cX5_splittingsFrom 19 = .ok (.istore_n 3, 1) := by decide +kernel
theorem dX5_splittingsFrom_20 : decode cX5_splittingsFrom 20 = .ok (.iconst 0, 1) := by decide +kernel
theorem dX5_splittingsFrom_21 : decode cX5_splittingsFrom 21 = .ok (.istore 4, 2) := by decide +kernel
theorem dX5_splittingsFrom_23 : decode cX5_splittingsFrom 23 = .ok (.iload_n 1, 1) := by decide +kernel
theorem dX5_splittingsFrom_24 : decode cX5_splittingsFrom 24 = .ok (.istore 5, 2) := by decide +kernel
theorem dX5_splittingsFrom_26 : decode cX5_splittingsFrom 26 = .ok (.iload 5, 2) := by decide +kernel
theorem dX5_splittingsFrom_28 : decode cX5_splittingsFrom 28 = .ok (.aload_n 0, 1) := by decide +kernel
theorem dX5_splittingsFrom_29 : decode cX5_splittingsFrom 29 = .ok (.getfield 306, 3) := by decide +kernel
theorem dX5_splittingsFrom_32 : decode cX5_splittingsFrom 32 = .ok (.if_icmp .ge 46, 3) := by decide +kernel
theorem dX5_splittingsFrom_35 : decode cX5_splittingsFrom 35 = .ok (.iload 4, 2) := by decide +kernel
theorem dX5_splittingsFrom_37 : decode cX5_splittingsFrom 37 = .ok (.aload_n 0, 1) := by decide +kernel
theorem dX5_splittingsFrom_38 : decode cX5_splittingsFrom 38 = .ok (.getfield 307, 3) := by decide +kernel
theorem dX5_splittingsFrom_41 : decode cX5_splittingsFrom 41 = .ok (.iload 5, 2) := by decide +kernel
theorem dX5_splittingsFrom_43 : decode cX5_splittingsFrom 43 = .ok (.invokestatic 59, 3) := by decide +kernel
theorem dX5_splittingsFrom_46 : decode cX5_splittingsFrom 46 = .ok (.iadd, 1) := by decide +kernel
theorem dX5_splittingsFrom_47 : decode cX5_splittingsFrom 47 = .ok (.istore 4, 2) := by decide +kernel
theorem dX5_splittingsFrom_49 : decode cX5_splittingsFrom 49 = .ok (.iload 4, 2) := by decide +kernel
theorem dX5_splittingsFrom_51 : decode cX5_splittingsFrom 51 = .ok (.aload_n 0, 1) := by decide +kernel
theorem dX5_splittingsFrom_52 : decode cX5_splittingsFrom 52 = .ok (.getfield 308, 3) := by decide +kernel
theorem dX5_splittingsFrom_55 : decode cX5_splittingsFrom 55 = .ok (.if_icmp .gt 17, 3) := by decide +kernel
theorem dX5_splittingsFrom_58 : decode cX5_splittingsFrom 58 = .ok (.iload_n 3, 1) := by decide +kernel
theorem dX5_splittingsFrom_59 : decode cX5_splittingsFrom 59 = .ok (.aload_n 0, 1) := by decide +kernel
theorem dX5_splittingsFrom_60 : decode cX5_splittingsFrom 60 = .ok (.iload 5, 2) := by decide +kernel
theorem dX5_splittingsFrom_62 : decode cX5_splittingsFrom 62 = .ok (.iconst 1, 1) := by decide +kernel
theorem dX5_splittingsFrom_63 : decode cX5_splittingsFrom 63 = .ok (.iadd, 1) := by decide +kernel
theorem dX5_splittingsFrom_64 : decode cX5_splittingsFrom 64 = .ok (.iload_n 2, 1) := by decide +kernel
theorem dX5_splittingsFrom_65 : decode cX5_splittingsFrom 65 = .ok (.iconst 1, 1) := by decide +kernel
theorem dX5_splittingsFrom_66 : decode cX5_splittingsFrom 66 = .ok (.iadd, 1) := by decide +kernel
theorem dX5_splittingsFrom_67 : decode cX5_splittingsFrom 67 = .ok (.invokestatic 251, 3) := by decide +kernel
theorem dX5_splittingsFrom_70 : decode cX5_splittingsFrom 70 = .ok (.iadd, 1) := by decide +kernel
theorem dX5_splittingsFrom_71 : decode cX5_splittingsFrom 71 = .ok (.istore_n 3, 1) := by decide +kernel
theorem dX5_splittingsFrom_72 : decode cX5_splittingsFrom 72 = .ok (.iinc 5 1, 3) := by decide +kernel
theorem dX5_splittingsFrom_75 : decode cX5_splittingsFrom 75 = .ok (.goto (-49), 3) := by decide +kernel
theorem dX5_splittingsFrom_78 : decode cX5_splittingsFrom 78 = .ok (.iload_n 3, 1) := by decide +kernel
theorem dX5_splittingsFrom_79 : decode cX5_splittingsFrom 79 = .ok (.ireturn, 1) := by decide +kernel
theorem dX6_init_0 : decode cX6_init 0 = .ok (.aload_n 0, 1) := by decide +kernel
theorem dX6_init_1 : decode cX6_init 1 = .ok (.invokespecial 1, 3) := by decide +kernel
theorem dX6_init_4 : decode cX6_init 4 = .ok (.aload_n 0, 1) := by decide +kernel
theorem dX6_init_5 : decode cX6_init 5 = .ok (.sipush 137, 3) := by decide +kernel
theorem dX6_init_8 : decode cX6_init 8 = .ok (.newarray .int, 2) := by decide +kernel
theorem dX6_init_10 : decode cX6_init 10 = .ok (.putfield 7, 3) := by decide +kernel
theorem dX6_init_13 : decode cX6_init 13 = .ok (.aload_n 0, 1) := by decide +kernel
theorem dX6_init_14 : decode cX6_init 14 = .ok (.sipush 548, 3) := by decide +kernel
theorem dX6_init_17 : decode cX6_init 17 = .ok (.newarray .int, 2) := by decide +kernel
theorem dX6_init_19 : decode cX6_init 19 = .ok (.putfield 13, 3) := by decide +kernel
theorem dX6_init_22 : decode cX6_init 22 = .ok (.aload_n 0, 1) := by decide +kernel
theorem dX6_init_23 : decode cX6_init 23 = .ok (.sipush 137, 3) := by decide +kernel
theorem dX6_init_26 : decode cX6_init 26 = .ok (.newarray .int, 2) := by decide +kernel
theorem dX6_init_28 : decode cX6_init 28 = .ok (.putfield 16, 3) := by decide +kernel
theorem dX6_init_31 : decode cX6_init 31 = .ok (.aload_n 0, 1) := by decide +kernel
theorem dX6_init_32 : decode cX6_init 32 = .ok (.bipush 60, 2) := by decide +kernel
theorem dX6_init_34 : decode cX6_init 34 = .ok (.newarray .int, 2) := by decide +kernel
theorem dX6_init_36 : decode cX6_init 36 = .ok (.putfield 19, 3) := by decide +kernel
theorem dX6_init_39 : decode cX6_init 39 = .ok (.aload_n 0, 1) := by decide +kernel
theorem dX6_init_40 : decode cX6_init 40 = .ok (.iconst 3, 1) := by decide +kernel
theorem dX6_init_41 : decode cX6_init 41 = .ok (.newarray .int, 2) := by decide +kernel
theorem dX6_init_43 : decode cX6_init 43 = .ok (.putfield 22, 3) := by decide +kernel
theorem dX6_init_46 : decode cX6_init 46 = .ok (.aload_n 0, 1) := by decide +kernel
theorem dX6_init_47 : decode cX6_init 47 = .ok (.bipush 12, 2) := by decide +kernel
theorem dX6_init_49 : decode cX6_init 49 = .ok (.newarray .int, 2) := by decide +kernel
theorem dX6_init_51 : decode cX6_init 51 = .ok (.putfield 25, 3) := by decide +kernel
theorem dX6_init_54 : decode cX6_init 54 = .ok (.aload_n 0, 1) := by decide +kernel
theorem dX6_init_55 : decode cX6_init 55 = .ok (.bipush 12, 2) := by decide +kernel
theorem dX6_init_57 : decode cX6_init 57 = .ok (.newarray .int, 2) := by decide +kernel
theorem dX6_init_59 : decode cX6_init 59 = .ok (.putfield 28, 3) := by decide +kernel
theorem dX6_init_62 : decode cX6_init 62 = .ok (.aload_n 0, 1) := by decide +kernel
theorem dX6_init_63 : decode cX6_init 63 = .ok (.bipush 13, 2) := by decide +kernel
theorem dX6_init_65 : decode cX6_init 65 = .ok (.newarray .int, 2) := by decide +kernel
theorem dX6_init_67 : decode cX6_init 67 = .ok (.putfield 31, 3) := by decide +kernel
theorem dX6_init_70 : decode cX6_init 70 = .ok (.aload_n 0, 1) := by decide +kernel
theorem dX6_init_71 : decode cX6_init 71 = .ok (.getfield 7, 3) := by decide +kernel
theorem dX6_init_74 : decode cX6_init 74 = .ok (.iconst 1, 1) := by decide +kernel
theorem dX6_init_75 : decode cX6_init 75 = .ok (.bipush 8, 2) := by decide +kernel
theorem dX6_init_77 : decode cX6_init 77 = .ok (.iastore, 1) := by decide +kernel
theorem dX6_init_78 : decode cX6_init 78 = .ok (.aload_n 0, 1) := by decide +kernel
theorem dX6_init_79 : decode cX6_init 79 = .ok (.getfield 7, 3) := by decide +kernel
theorem dX6_init_82 : decode cX6_init 82 = .ok (.iconst 2, 1) := by decide +kernel
theorem dX6_init_83 : decode cX6_init 83 = .ok (.bipush 15, 2) := by decide +kernel
theorem dX6_init_85 : decode cX6_init 85 = .ok (.iastore, 1) := by decide +kernel
theorem dX6_init_86 : decode cX6_init 86 = .ok (.iconst 0, 1) := by decide +kernel
theorem dX6_init_87 : decode cX6_init 87 = .ok (.istore_n 1, 1) := by decide +kernel
theorem dX6_init_88 : decode cX6_init 88 = .ok (.iload_n 1, 1) := by decide +kernel
theorem dX6_init_89 : decode cX6_init 89 = .ok (.bipush 6, 2) := by decide +kernel
theorem dX6_init_91 : decode cX6_init 91 = .ok (.if_icmp .ge 21, 3) := by decide +kernel
theorem dX6_init_94 : decode cX6_init 94 = .ok (.aload_n 0, 1) := by decide +kernel
theorem dX6_init_95 : decode cX6_init 95 = .ok (.getfield 7, 3) := by decide +kernel
theorem dX6_init_98 : decode cX6_init 98 = .ok (.bipush 7, 2) := by decide +kernel
theorem dX6_init_100 : decode cX6_init 100 = .ok (.iload_n 1, 1) := by decide +kernel
theorem dX6_init_101 : decode cX6_init 101 = .ok (.iadd, 1) := by decide +kernel
theorem dX6_init_102 : decode cX6_init 102 = .ok (.iload_n 1, 1) := by decide +kernel
theorem dX6_init_103 : decode cX6_init 103 = .ok (.iconst 1, 1) := by decide +kernel
theorem dX6_init_104 : decode cX6_init 104 = .ok (.iadd, 1) := by decide +kernel
theorem dX6_init_105 : decode cX6_init 105 = .ok (.iastore, 1) := by decide +kernel
theorem dX6_init_106 : decode cX6_init 106 = .ok (.iinc 1 1, 3) := by decide +kernel
theorem dX6_init_109 : decode cX6_init 109 = .ok (.goto (-21), 3) := by decide +kernel
theorem dX6_init_112 : decode cX6_init 112 = .ok (.return_, 1) := by decide +kernel
theorem dX6_in_0 : decode cX6_in 0 = .ok (.iload_n 0, 1) := by decide +kernel
theorem dX6_in_1 : decode cX6_in 1 = .ok (.iload_n 1, 1) := by decide +kernel
theorem dX6_in_2 : decode cX6_in 2 = .ok (.if_icmp .lt 12, 3) := by decide +kernel
theorem dX6_in_5 : decode cX6_in 5 = .ok (.iload_n 0, 1) := by decide +kernel
theorem dX6_in_6 : decode cX6_in 6 = .ok (.iload_n 2, 1) := by decide +kernel
theorem dX6_in_7 : decode cX6_in 7 = .ok (.if_icmp .gt 7, 3) := by decide +kernel
theorem dX6_in_10 : decode cX6_in 10 = .ok (.iconst 1, 1) := by decide +kernel
theorem dX6_in_11 : decode cX6_in 11 = .ok (.goto 4, 3) := by decide +kernel
theorem dX6_in_14 : decode cX6_in 14 = .ok (.iconst 0, 1) := by decide +kernel
theorem dX6_in_15 : decode cX6_in 15 = .ok (.ireturn, 1) := by decide +kernel
theorem dX6_copies_0 : decode cX6_copies 0 = .ok (.iconst 0, 1) := by decide +kernel
theorem dX6_copies_1 : decode cX6_copies 1 = .ok (.istore 4, 2) := by decide +kernel
theorem dX6_copies_3 : decode cX6_copies 3 = .ok (.iload 4, 2) := by decide +kernel
theorem dX6_copies_5 : decode cX6_copies 5 = .ok (.sipush 137, 3) := by decide +kernel
theorem dX6_copies_8 : decode cX6_copies 8 = .ok (.if_icmp .ge 21, 3) := by decide +kernel
theorem dX6_copies_11 : decode cX6_copies 11 = .ok (.aload_n 2, 1) := by decide +kernel
theorem dX6_copies_12 : decode cX6_copies 12 = .ok (.iload_n 3, 1) := by decide +kernel
theorem dX6_copies_13 : decode cX6_copies 13 = .ok (.iload 4, 2) := by decide +kernel
theorem dX6_copies_15 : decode cX6_copies 15 = .ok (.iadd, 1) := by decide +kernel
theorem dX6_copies_16 : decode cX6_copies 16 = .ok (.aload_n 0, 1) := by decide +kernel
theorem dX6_copies_17 : decode cX6_copies 17 = .ok (.iload_n 1, 1) := by decide +kernel
theorem dX6_copies_18 : decode cX6_copies 18 = .ok (.iload 4, 2) := by decide +kernel
theorem dX6_copies_20 : decode cX6_copies 20 = .ok (.iadd, 1) := by decide +kernel
theorem dX6_copies_21 : decode cX6_copies 21 = .ok (.iaload, 1) := by decide +kernel
theorem dX6_copies_22 : decode cX6_copies 22 = .ok (.iastore, 1) := by decide +kernel
theorem dX6_copies_23 : decode cX6_copies 23 = .ok (.iinc 4 1, 3) := by decide +kernel
theorem dX6_copies_26 : decode cX6_copies 26 = .ok (.goto (-23), 3) := by decide +kernel
theorem dX6_copies_29 : decode cX6_copies 29 = .ok (.return_, 1) := by decide +kernel
theorem dX6_records_0 : decode cX6_records 0 = .ok (.aload_n 0, 1) := by decide +kernel
theorem dX6_records_1 : decode cX6_records 1 = .ok (.getfield 34, 3) := by decide +kernel
theorem dX6_records_4 : decode cX6_records 4 = .ok (.iconst 4, 1) := by decide +kernel
theorem dX6_records_5 : decode cX6_records 5 = .ok (.if_icmp .ne 44, 3) := by decide +kernel
theorem dX6_records_8 : decode cX6_records 8 = .ok (.iconst 0, 1) := by decide +kernel
theorem dX6_records_9 : decode cX6_records 9 = .ok (.istore_n 1, 1) := by decide +kernel
theorem dX6_records_10 : decode cX6_records 10 = .ok (.iload_n 1, 1) := by decide +kernel
theorem dX6_records_11 : decode cX6_records 11 = .ok (.sipush 411, 3) := by decide +kernel
theorem dX6_records_14 : decode cX6_records 14 = .ok (.if_icmp .ge 25, 3) := by decide +kernel
theorem dX6_records_17 : decode cX6_records 17 = .ok (.aload_n 0, 1) := by decide +kernel
theorem dX6_records_18 : decode cX6_records 18 = .ok (.getfield 13, 3) := by decide +kernel
theorem dX6_records_21 : decode cX6_records 21 = .ok (.iload_n 1, 1) := by decide +kernel
theorem dX6_records_22 : decode cX6_records 22 = .ok (.aload_n 0, 1) := by decide +kernel
theorem dX6_records_23 : decode cX6_records 23 = .ok (.getfield 13, 3) := by decide +kernel
theorem dX6_records_26 : decode cX6_records 26 = .ok (.iload_n 1, 1) := by decide +kernel
theorem dX6_records_27 : decode cX6_records 27 = .ok (.sipush 137, 3) := by decide +kernel
theorem dX6_records_30 : decode cX6_records 30 = .ok (.iadd, 1) := by decide +kernel
theorem dX6_records_31 : decode cX6_records 31 = .ok (.iaload, 1) := by decide +kernel
theorem dX6_records_32 : decode cX6_records 32 = .ok (.iastore, 1) := by decide +kernel
theorem dX6_records_33 : decode cX6_records 33 = .ok (.iinc 1 1, 3) := by decide +kernel
theorem dX6_records_36 : decode cX6_records 36 = .ok (.goto (-26), 3) := by decide +kernel
theorem dX6_records_39 : decode cX6_records 39 = .ok (.aload_n 0, 1) := by decide +kernel
theorem dX6_records_40 : decode cX6_records 40 = .ok (.dup, 1) := by decide +kernel
theorem dX6_records_41 : decode cX6_records 41 = .ok (.getfield 34, 3) := by decide +kernel
theorem dX6_records_44 : decode cX6_records 44 = .ok (.iconst 1, 1) := by decide +kernel
theorem dX6_records_45 : decode cX6_records 45 = .ok (.isub, 1) := by decide +kernel
theorem dX6_records_46 : decode cX6_records 46 = .ok (.putfield 34, 3) := by decide +kernel
theorem dX6_records_49 : decode cX6_records 49 = .ok (.aload_n 0, 1) := by decide +kernel
theorem dX6_records_50 : decode cX6_records 50 = .ok (.getfield 7, 3) := by decide +kernel
theorem dX6_records_53 : decode cX6_records 53 = .ok (.iconst 0, 1) := by decide +kernel
theorem dX6_records_54 : decode cX6_records 54 = .ok (.aload_n 0, 1) := by decide +kernel
theorem dX6_records_55 : decode cX6_records 55 = .ok (.getfield 13, 3) := by decide +kernel
theorem dX6_records_58 : decode cX6_records 58 = .ok (.sipush 137, 3) := by decide +kernel
theorem dX6_records_61 : decode cX6_records 61 = .ok (.aload_n 0, 1) := by decide +kernel
theorem dX6_records_62 : decode cX6_records 62 = .ok (.getfield 34, 3) := by decide +kernel
theorem dX6_records_65 : decode cX6_records 65 = .ok (.imul, 1) := by decide +kernel
theorem dX6_records_66 : decode cX6_records 66 = .ok (.invokestatic 38, 3) := by decide +kernel
theorem dX6_records_69 : decode cX6_records 69 = .ok (.aload_n 0, 1) := by decide +kernel
theorem dX6_records_70 : decode cX6_records 70 = .ok (.dup, 1) := by decide +kernel
theorem dX6_records_71 : decode cX6_records 71 = .ok (.getfield 34, 3) := by decide +kernel
theorem dX6_records_74 : decode cX6_records 74 = .ok (.iconst 1, 1) := by decide +kernel
theorem dX6_records_75 : decode cX6_records 75 = .ok (.iadd, 1) := by decide +kernel
theorem dX6_records_76 : decode cX6_records 76 = .ok (.putfield 34, 3) := by decide +kernel
theorem dX6_records_79 : decode cX6_records 79 = .ok (.return_, 1) := by decide +kernel
theorem dX6_ones_0 : decode cX6_ones 0 = .ok (.iconst 0, 1) := by decide +kernel
theorem dX6_ones_1 : decode cX6_ones 1 = .ok (.istore_n 1, 1) := by decide +kernel
theorem dX6_ones_2 : decode cX6_ones 2 = .ok (.iconst 0, 1) := by decide +kernel
theorem dX6_ones_3 : decode cX6_ones 3 = .ok (.istore_n 2, 1) := by decide +kernel
theorem dX6_ones_4 : decode cX6_ones 4 = .ok (.iload_n 2, 1) := by decide +kernel
theorem dX6_ones_5 : decode cX6_ones 5 = .ok (.bipush 12, 2) := by decide +kernel
theorem dX6_ones_7 : decode cX6_ones 7 = .ok (.if_icmp .ge 17, 3) := by decide +kernel
theorem dX6_ones_10 : decode cX6_ones 10 = .ok (.iload_n 1, 1) := by decide +kernel
theorem dX6_ones_11 : decode cX6_ones 11 = .ok (.iload_n 0, 1) := by decide +kernel
theorem dX6_ones_12 : decode cX6_ones 12 = .ok (.iload_n 2, 1) := by decide +kernel
theorem dX6_ones_13 : decode cX6_ones 13 = .ok (.ishr, 1) := by decide +kernel
theorem dX6_ones_14 : decode cX6_ones 14 = .ok (.iconst 1, 1) := by decide +kernel
theorem dX6_ones_15 : decode cX6_ones 15 = .ok (.iand, 1) := by decide +kernel
theorem dX6_ones_16 : decode cX6_ones 16 = .ok (.iadd, 1) := by decide +kernel
theorem dX6_ones_17 : decode cX6_ones 17 = .ok (.istore_n 1, 1) := by decide +kernel
theorem dX6_ones_18 : decode cX6_ones 18 = .ok (.iinc 2 1, 3) := by decide +kernel
theorem dX6_ones_21 : decode cX6_ones 21 = .ok (.goto (-17), 3) := by decide +kernel
theorem dX6_ones_24 : decode cX6_ones 24 = .ok (.iload_n 1, 1) := by decide +kernel
theorem dX6_ones_25 : decode cX6_ones 25 = .ok (.ireturn, 1) := by decide +kernel
theorem dX6_isKind_0 : decode cX6_isKind 0 = .ok (.iload_n 0, 1) := by decide +kernel
theorem dX6_isKind_1 : decode cX6_isKind 1 = .ok (.iconst 0, 1) := by decide +kernel
theorem dX6_isKind_2 : decode cX6_isKind 2 = .ok (.iconst 5, 1) := by decide +kernel
theorem dX6_isKind_3 : decode cX6_isKind 3 = .ok (.invokestatic 42, 3) := by decide +kernel
theorem dX6_isKind_6 : decode cX6_isKind 6 = .ok (.ireturn, 1) := by decide +kernel
theorem dX6_isRuling_0 : decode cX6_isRuling 0 = .ok (.iload_n 1, 1) := by decide +kernel
theorem dX6_isRuling_1 : decode cX6_isRuling 1 = .ok (.iconst 0, 1) := by decide +kernel
theorem dX6_isRuling_2 : decode cX6_isRuling 2 = .ok (.aload_n 0, 1) := by decide +kernel
theorem dX6_isRuling_3 : decode cX6_isRuling 3 = .ok (.getfield 7, 3) := by decide +kernel
theorem dX6_isRuling_6 : decode cX6_isRuling 6 = .ok (.iconst 4, 1) := by decide +kernel
theorem dX6_isRuling_7 : decode cX6_isRuling 7 = .ok (.iaload, 1) := by decide +kernel
theorem dX6_isRuling_8 : decode cX6_isRuling 8 = .ok (.iconst 1, 1) := by decide +kernel
theorem dX6_isRuling_9 : decode cX6_isRuling 9 = .ok (.isub, 1) := by decide +kernel
theorem dX6_isRuling_10 : decode cX6_isRuling 10 = .ok (.invokestatic 42, 3) := by decide +kernel
theorem dX6_isRuling_13 : decode cX6_isRuling 13 = .ok (.ireturn, 1) := by decide +kernel
theorem dX6_ofRuling_0 : decode cX6_ofRuling 0 = .ok (.aload_n 0, 1) := by decide +kernel
theorem dX6_ofRuling_1 : decode cX6_ofRuling 1 = .ok (.getfield 7, 3) := by decide +kernel
theorem dX6_ofRuling_4 : decode cX6_ofRuling 4 = .ok (.bipush 13, 2) := by decide +kernel
theorem dX6_ofRuling_6 : decode cX6_ofRuling 6 = .ok (.bipush 6, 2) := by decide +kernel
theorem dX6_ofRuling_8 : decode cX6_ofRuling 8 = .ok (.iload_n 1, 1) := by decide +kernel
theorem dX6_ofRuling_9 : decode cX6_ofRuling 9 = .ok (.imul, 1) := by decide +kernel
theorem dX6_ofRuling_10 : decode cX6_ofRuling 10 = .ok (.iadd, 1) := by decide +kernel
theorem dX6_ofRuling_11 : decode cX6_ofRuling 11 = .ok (.iload_n 2, 1) := by decide +kernel
theorem dX6_ofRuling_12 : decode cX6_ofRuling 12 = .ok (.iadd, 1) := by decide +kernel
theorem dX6_ofRuling_13 : decode cX6_ofRuling 13 = .ok (.iaload, 1) := by decide +kernel
theorem dX6_ofRuling_14 : decode cX6_ofRuling 14 = .ok (.ireturn, 1) := by decide +kernel
theorem dX6_isForce_0 : decode cX6_isForce 0 = .ok (.iconst 1, 1) := by decide +kernel
theorem dX6_isForce_1 : decode cX6_isForce 1 = .ok (.istore_n 2, 1) := by decide +kernel
theorem dX6_isForce_2 : decode cX6_isForce 2 = .ok (.iload_n 1, 1) := by decide +kernel
theorem dX6_isForce_3 : decode cX6_isForce 3 = .ok (.istore_n 3, 1) := by decide +kernel
theorem dX6_isForce_4 : decode cX6_isForce 4 = .ok (.iload_n 3, 1) := by decide +kernel
theorem dX6_isForce_5 : decode cX6_isForce 5 = .ok (.ifCond .lt 34, 3) := by decide +kernel
theorem dX6_isForce_8 : decode cX6_isForce 8 = .ok (.iload_n 2, 1) := by decide +kernel
theorem dX6_isForce_9 : decode cX6_isForce 9 = .ok (.ifCond .eq 16, 3) := by decide +kernel
theorem dX6_isForce_12 : decode cX6_isForce 12 = .ok (.aload_n 0, 1) := by decide +kernel
theorem dX6_isForce_13 : decode cX6_isForce 13 = .ok (.iload_n 3, 1) := by decide +kernel
theorem dX6_isForce_14 : decode cX6_isForce 14 = .ok (.iconst 5, 1) := by decide +kernel
theorem dX6_isForce_15 : decode cX6_isForce 15 = .ok (.invokevirtual 46, 3) := by decide +kernel
theorem dX6_isForce_18 : decode cX6_isForce 18 = .ok (.ifCond .ne 7, 3) := by decide +kernel
theorem dX6_isForce_21 : decode cX6_isForce 21 = .ok (.iconst 1, 1) := by decide +kernel
theorem dX6_isForce_22 : decode cX6_isForce 22 = .ok (.goto 4, 3) := by decide +kernel
theorem dX6_isForce_25 : decode cX6_isForce 25 = .ok (.iconst 0, 1) := by decide +kernel
theorem dX6_isForce_26 : decode cX6_isForce 26 = .ok (.istore_n 2, 1) := by decide +kernel
theorem dX6_isForce_27 : decode cX6_isForce 27 = .ok (.aload_n 0, 1) := by decide +kernel
theorem dX6_isForce_28 : decode cX6_isForce 28 = .ok (.iload_n 3, 1) := by decide +kernel
theorem dX6_isForce_29 : decode cX6_isForce 29 = .ok (.iconst 4, 1) := by decide +kernel
theorem dX6_isForce_30 : decode cX6_isForce 30 = .ok (.invokevirtual 46, 3) := by decide +kernel
theorem dX6_isForce_33 : decode cX6_isForce 33 = .ok (.iconst 1, 1) := by decide +kernel
theorem dX6_isForce_34 : decode cX6_isForce 34 = .ok (.isub, 1) := by decide +kernel
theorem dX6_isForce_35 : decode cX6_isForce 35 = .ok (.istore_n 3, 1) := by decide +kernel
theorem dX6_isForce_36 : decode cX6_isForce 36 = .ok (.goto (-32), 3) := by decide +kernel
theorem dX6_isForce_39 : decode cX6_isForce 39 = .ok (.iload_n 2, 1) := by decide +kernel
theorem dX6_isForce_40 : decode cX6_isForce 40 = .ok (.ireturn, 1) := by decide +kernel
theorem dX6_inForce_0 : decode cX6_inForce 0 = .ok (.iconst 0, 1) := by decide +kernel
theorem dX6_inForce_1 : decode cX6_inForce 1 = .ok (.istore_n 1, 1) := by decide +kernel
theorem dX6_inForce_2 : decode cX6_inForce 2 = .ok (.iconst 0, 1) := by decide +kernel
theorem dX6_inForce_3 : decode cX6_inForce 3 = .ok (.istore_n 2, 1) := by decide +kernel
theorem dX6_inForce_4 : decode cX6_inForce 4 = .ok (.iload_n 2, 1) := by decide +kernel
theorem dX6_inForce_5 : decode cX6_inForce 5 = .ok (.aload_n 0, 1) := by decide +kernel
theorem dX6_inForce_6 : decode cX6_inForce 6 = .ok (.getfield 7, 3) := by decide +kernel
theorem dX6_inForce_9 : decode cX6_inForce 9 = .ok (.iconst 4, 1) := by decide +kernel
theorem dX6_inForce_10 : decode cX6_inForce 10 = .ok (.iaload, 1) := by decide +kernel
theorem dX6_inForce_11 : decode cX6_inForce 11 = .ok (.if_icmp .ge 25, 3) := by decide +kernel
theorem dX6_inForce_14 : decode cX6_inForce 14 = .ok (.iload_n 1, 1) := by decide +kernel
theorem dX6_inForce_15 : decode cX6_inForce 15 = .ok (.aload_n 0, 1) := by decide +kernel
theorem dX6_inForce_16 : decode cX6_inForce 16 = .ok (.iload_n 2, 1) := by decide +kernel
theorem dX6_inForce_17 : decode cX6_inForce 17 = .ok (.invokevirtual 50, 3) := by decide +kernel
theorem dX6_inForce_20 : decode cX6_inForce 20 = .ok (.ifCond .eq 7, 3) := by decide +kernel
theorem dX6_inForce_23 : decode cX6_inForce 23 = .ok (.iconst 1, 1) := by decide +kernel
theorem dX6_inForce_24 : decode cX6_inForce 24 = .ok (.goto 4, 3) := by decide +kernel
theorem dX6_inForce_27 : decode cX6_inForce 27 = .ok (.iconst 0, 1) := by decide +kernel
theorem dX6_inForce_28 : decode cX6_inForce 28 = .ok (.iadd, 1) := by decide +kernel
theorem dX6_inForce_29 : decode cX6_inForce 29 = .ok (.istore_n 1, 1) := by decide +kernel
theorem dX6_inForce_30 : decode cX6_inForce 30 = .ok (.iinc 2 1, 3) := by decide +kernel
theorem dX6_inForce_33 : decode cX6_inForce 33 = .ok (.goto (-29), 3) := by decide +kernel
theorem dX6_inForce_36 : decode cX6_inForce 36 = .ok (.iload_n 1, 1) := by decide +kernel
theorem dX6_inForce_37 : decode cX6_inForce 37 = .ok (.ireturn, 1) := by decide +kernel
theorem dX6_counting_0 : decode cX6_counting 0 = .ok (.bipush (-4), 2) := by decide +kernel
theorem dX6_counting_2 : decode cX6_counting 2 = .ok (.istore_n 3, 1) := by decide +kernel
theorem dX6_counting_3 : decode cX6_counting 3 = .ok (.iconst 0, 1) := by decide +kernel
theorem dX6_counting_4 : decode cX6_counting 4 = .ok (.istore 4, 2) := by decide +kernel
theorem dX6_counting_6 : decode cX6_counting 6 = .ok (.iload 4, 2) := by decide +kernel
theorem dX6_counting_8 : decode cX6_counting 8 = .ok (.aload_n 0, 1) := by decide +kernel
theorem dX6_counting_9 : decode cX6_counting 9 = .ok (.getfield 7, 3) := by decide +kernel
theorem dX6_counting_12 : decode cX6_counting 12 = .ok (.iconst 4, 1) := by decide +kernel
theorem dX6_counting_13 : decode cX6_counting 13 = .ok (.iaload, 1) := by decide +kernel
theorem dX6_counting_14 : decode cX6_counting 14 = .ok (.if_icmp .ge 59, 3) := by decide +kernel
theorem dX6_counting_17 : decode cX6_counting 17 = .ok (.aload_n 0, 1) := by decide +kernel
theorem dX6_counting_18 : decode cX6_counting 18 = .ok (.iload 4, 2) := by decide +kernel
theorem dX6_counting_20 : decode cX6_counting 20 = .ok (.iconst 0, 1) := by decide +kernel
theorem dX6_counting_21 : decode cX6_counting 21 = .ok (.invokevirtual 46, 3) := by decide +kernel
theorem dX6_counting_24 : decode cX6_counting 24 = .ok (.iload_n 1, 1) := by decide +kernel
theorem dX6_counting_25 : decode cX6_counting 25 = .ok (.if_icmp .ne 18, 3) := by decide +kernel
theorem dX6_counting_28 : decode cX6_counting 28 = .ok (.aload_n 0, 1) := by decide +kernel
theorem dX6_counting_29 : decode cX6_counting 29 = .ok (.iload 4, 2) := by decide +kernel
theorem dX6_counting_31 : decode cX6_counting 31 = .ok (.iconst 1, 1) := by decide +kernel
theorem dX6_counting_32 : decode cX6_counting 32 = .ok (.invokevirtual 46, 3) := by decide +kernel
theorem dX6_counting_35 : decode cX6_counting 35 = .ok (.iload_n 2, 1) := by decide +kernel
theorem dX6_counting_36 : decode cX6_counting 36 = .ok (.if_icmp .ne 7, 3) := by decide +kernel
theorem dX6_counting_39 : decode cX6_counting 39 = .ok (.iconst 1, 1) := by decide +kernel
theorem dX6_counting_40 : decode cX6_counting 40 = .ok (.goto 4, 3) := by decide +kernel
theorem dX6_counting_43 : decode cX6_counting 43 = .ok (.iconst 0, 1) := by decide +kernel
theorem dX6_counting_44 : decode cX6_counting 44 = .ok (.istore 5, 2) := by decide +kernel
theorem dX6_counting_46 : decode cX6_counting 46 = .ok (.iload 5, 2) := by decide +kernel
theorem dX6_counting_48 : decode cX6_counting 48 = .ok (.ifCond .eq 17, 3) := by decide +kernel
theorem dX6_counting_51 : decode cX6_counting 51 = .ok (.aload_n 0, 1) := by decide +kernel
theorem dX6_counting_52 : decode cX6_counting 52 = .ok (.iload 4, 2) := by decide +kernel
theorem dX6_counting_54 : decode cX6_counting 54 = .ok (.invokevirtual 50, 3) := by decide +kernel
theorem dX6_counting_57 : decode cX6_counting 57 = .ok (.ifCond .eq 8, 3) := by decide +kernel
theorem dX6_counting_60 : decode cX6_counting 60 = .ok (.iload 4, 2) := by decide +kernel
theorem dX6_counting_62 : decode cX6_counting 62 = .ok (.goto 4, 3) := by decide +kernel
theorem dX6_counting_65 : decode cX6_counting 65 = .ok (.iload_n 3, 1) := by decide +kernel
theorem dX6_counting_66 : decode cX6_counting 66 = .ok (.istore_n 3, 1) := by decide +kernel
theorem dX6_counting_67 : decode cX6_counting 67 = .ok (.iinc 4 1, 3) := by decide +kernel
theorem dX6_counting_70 : decode cX6_counting 70 = .ok (.goto (-64), 3) := by decide +kernel
theorem dX6_counting_73 : decode cX6_counting 73 = .ok (.iload_n 3, 1) := by decide +kernel
theorem dX6_counting_74 : decode cX6_counting 74 = .ok (.ireturn, 1) := by decide +kernel
theorem dX6_doesCount_0 : decode cX6_doesCount 0 = .ok (.aload_n 0, 1) := by decide +kernel
theorem dX6_doesCount_1 : decode cX6_doesCount 1 = .ok (.aload_n 0, 1) := by decide +kernel
theorem dX6_doesCount_2 : decode cX6_doesCount 2 = .ok (.iload_n 1, 1) := by decide +kernel
theorem dX6_doesCount_3 : decode cX6_doesCount 3 = .ok (.iconst 0, 1) := by decide +kernel
theorem dX6_doesCount_4 : decode cX6_doesCount 4 = .ok (.invokevirtual 46, 3) := by decide +kernel
theorem dX6_doesCount_7 : decode cX6_doesCount 7 = .ok (.aload_n 0, 1) := by decide +kernel
theorem dX6_doesCount_8 : decode cX6_doesCount 8 = .ok (.iload_n 1, 1) := by decide +kernel
theorem dX6_doesCount_9 : decode cX6_doesCount 9 = .ok (.iconst 1, 1) := by decide +kernel
theorem dX6_doesCount_10 : decode cX6_doesCount 10 = .ok (.invokevirtual 46, 3) := by decide +kernel
theorem dX6_doesCount_13 : decode cX6_doesCount 13 = .ok (.invokevirtual 54, 3) := by decide +kernel
theorem dX6_doesCount_16 : decode cX6_doesCount 16 = .ok (.iload_n 1, 1) := by decide +kernel
theorem dX6_doesCount_17 : decode cX6_doesCount 17 = .ok (.if_icmp .ne 7, 3) := by decide +kernel
theorem dX6_doesCount_20 : decode cX6_doesCount 20 = .ok (.iconst 1, 1) := by decide +kernel
theorem dX6_doesCount_21 : decode cX6_doesCount 21 = .ok (.goto 4, 3) := by decide +kernel
theorem dX6_doesCount_24 : decode cX6_doesCount 24 = .ok (.iconst 0, 1) := by decide +kernel
theorem dX6_doesCount_25 : decode cX6_doesCount 25 = .ok (.ireturn, 1) := by decide +kernel
theorem dX6_isEdition_0 : decode cX6_isEdition 0 = .ok (.iload_n 1, 1) := by decide +kernel
theorem dX6_isEdition_1 : decode cX6_isEdition 1 = .ok (.iconst 0, 1) := by decide +kernel
theorem dX6_isEdition_2 : decode cX6_isEdition 2 = .ok (.aload_n 0, 1) := by decide +kernel
theorem dX6_isEdition_3 : decode cX6_isEdition 3 = .ok (.getfield 7, 3) := by decide +kernel
theorem dX6_isEdition_6 : decode cX6_isEdition 6 = .ok (.iconst 3, 1) := by decide +kernel
theorem dX6_isEdition_7 : decode cX6_isEdition 7 = .ok (.iaload, 1) := by decide +kernel
theorem dX6_isEdition_8 : decode cX6_isEdition 8 = .ok (.iconst 1, 1) := by decide +kernel
theorem dX6_isEdition_9 : decode cX6_isEdition 9 = .ok (.isub, 1) := by decide +kernel
theorem dX6_isEdition_10 : decode cX6_isEdition 10 = .ok (.invokestatic 42, 3) := by decide +kernel
theorem dX6_isEdition_13 : decode cX6_isEdition 13 = .ok (.ireturn, 1) := by decide +kernel
theorem dX6_of_0 : decode cX6_of 0 = .ok (.aload_n 0, 1) := by decide +kernel
theorem dX6_of_1 : decode cX6_of 1 = .ok (.getfield 7, 3) := by decide +kernel
theorem dX6_of_4 : decode cX6_of 4 = .ok (.bipush 73, 2) := by decide +kernel
theorem dX6_of_6 : decode cX6_of 6 = .ok (.bipush 16, 2) := by decide +kernel
theorem dX6_of_8 : decode cX6_of 8 = .ok (.iload_n 1, 1) := by decide +kernel
theorem dX6_of_9 : decode cX6_of 9 = .ok (.imul, 1) := by decide +kernel
theorem dX6_of_10 : decode cX6_of 10 = .ok (.iadd, 1) := by decide +kernel
theorem dX6_of_11 : decode cX6_of 11 = .ok (.iload_n 2, 1) := by decide +kernel
theorem dX6_of_12 : decode cX6_of 12 = .ok (.iadd, 1) := by decide +kernel
theorem dX6_of_13 : decode cX6_of 13 = .ok (.iaload, 1) := by decide +kernel
theorem dX6_of_14 : decode cX6_of 14 = .ok (.ireturn, 1) := by decide +kernel
theorem dX6_lays_0 : decode cX6_lays 0 = .ok (.aload_n 0, 1) := by decide +kernel
theorem dX6_lays_1 : decode cX6_lays 1 = .ok (.getfield 7, 3) := by decide +kernel
theorem dX6_lays_4 : decode cX6_lays 4 = .ok (.bipush 73, 2) := by decide +kernel
theorem dX6_lays_6 : decode cX6_lays 6 = .ok (.bipush 16, 2) := by decide +kernel
theorem dX6_lays_8 : decode cX6_lays 8 = .ok (.iload_n 1, 1) := by decide +kernel
theorem dX6_lays_9 : decode cX6_lays 9 = .ok (.imul, 1) := by decide +kernel
theorem dX6_lays_10 : decode cX6_lays 10 = .ok (.iadd, 1) := by decide +kernel
theorem dX6_lays_11 : decode cX6_lays 11 = .ok (.iload_n 2, 1) := by decide +kernel
theorem dX6_lays_12 : decode cX6_lays 12 = .ok (.iadd, 1) := by decide +kernel
theorem dX6_lays_13 : decode cX6_lays 13 = .ok (.iload_n 3, 1) := by decide +kernel
theorem dX6_lays_14 : decode cX6_lays 14 = .ok (.iastore, 1) := by decide +kernel
theorem dX6_lays_15 : decode cX6_lays 15 = .ok (.return_, 1) := by decide +kernel
theorem dX6_isGap_0 : decode cX6_isGap 0 = .ok (.aload_n 0, 1) := by decide +kernel
theorem dX6_isGap_1 : decode cX6_isGap 1 = .ok (.iload_n 1, 1) := by decide +kernel
theorem dX6_isGap_2 : decode cX6_isGap 2 = .ok (.invokevirtual 57, 3) := by decide +kernel
theorem dX6_isGap_5 : decode cX6_isGap 5 = .ok (.ifCond .eq 23, 3) := by decide +kernel
theorem dX6_isGap_8 : decode cX6_isGap 8 = .ok (.iload_n 2, 1) := by decide +kernel
theorem dX6_isGap_9 : decode cX6_isGap 9 = .ok (.iconst 0, 1) := by decide +kernel
theorem dX6_isGap_10 : decode cX6_isGap 10 = .ok (.aload_n 0, 1) := by decide +kernel
theorem dX6_isGap_11 : decode cX6_isGap 11 = .ok (.iload_n 1, 1) := by decide +kernel
theorem dX6_isGap_12 : decode cX6_isGap 12 = .ok (.iconst 0, 1) := by decide +kernel
theorem dX6_isGap_13 : decode cX6_isGap 13 = .ok (.invokevirtual 60, 3) := by decide +kernel
theorem dX6_isGap_16 : decode cX6_isGap 16 = .ok (.iconst 2, 1) := by decide +kernel
theorem dX6_isGap_17 : decode cX6_isGap 17 = .ok (.isub, 1) := by decide +kernel
theorem dX6_isGap_18 : decode cX6_isGap 18 = .ok (.invokestatic 42, 3) := by decide +kernel
theorem dX6_isGap_21 : decode cX6_isGap 21 = .ok (.ifCond .eq 7, 3) := by decide +kernel
theorem dX6_isGap_24 : decode cX6_isGap 24 = .ok (.iconst 1, 1) := by decide +kernel
theorem dX6_isGap_25 : decode cX6_isGap 25 = .ok (.goto 4, 3) := by decide +kernel
theorem dX6_isGap_28 : decode cX6_isGap 28 = .ok (.iconst 0, 1) := by decide +kernel
theorem dX6_isGap_29 : decode cX6_isGap 29 = .ok (.ireturn, 1) := by decide +kernel
theorem dX6_wordOf_0 : decode cX6_wordOf 0 = .ok (.aload_n 0, 1) := by decide +kernel
theorem dX6_wordOf_1 : decode cX6_wordOf 1 = .ok (.iload_n 1, 1) := by decide +kernel
theorem dX6_wordOf_2 : decode cX6_wordOf 2 = .ok (.iconst 4, 1) := by decide +kernel
theorem dX6_wordOf_3 : decode cX6_wordOf 3 = .ok (.iload_n 2, 1) := by decide +kernel
theorem dX6_wordOf_4 : decode cX6_wordOf 4 = .ok (.iadd, 1) := by decide +kernel
theorem dX6_wordOf_5 : decode cX6_wordOf 5 = .ok (.invokevirtual 60, 3) := by decide +kernel
theorem dX6_wordOf_8 : decode cX6_wordOf 8 = .ok (.ireturn, 1) := by decide +kernel
theorem dX6_weightOf_0 : decode cX6_weightOf 0 = .ok (.aload_n 0, 1) := by decide +kernel
theorem dX6_weightOf_1 : decode cX6_weightOf 1 = .ok (.getfield 7, 3) := by decide +kernel
theorem dX6_weightOf_4 : decode cX6_weightOf 4 = .ok (.bipush 7, 2) := by decide +kernel
theorem dX6_weightOf_6 : decode cX6_weightOf 6 = .ok (.aload_n 0, 1) := by decide +kernel
theorem dX6_weightOf_7 : decode cX6_weightOf 7 = .ok (.iload_n 1, 1) := by decide +kernel
theorem dX6_weightOf_8 : decode cX6_weightOf 8 = .ok (.iload_n 2, 1) := by decide +kernel
theorem dX6_weightOf_9 : decode cX6_weightOf 9 = .ok (.invokevirtual 63, 3) := by decide +kernel
theorem dX6_weightOf_12 : decode cX6_weightOf 12 = .ok (.iadd, 1) := by decide +kernel
theorem dX6_weightOf_13 : decode cX6_weightOf 13 = .ok (.iaload, 1) := by decide +kernel
theorem dX6_weightOf_14 : decode cX6_weightOf 14 = .ok (.ireturn, 1) := by decide +kernel
theorem dX6_off_0 : decode cX6_off 0 = .ok (.iload_n 1, 1) := by decide +kernel
theorem dX6_off_1 : decode cX6_off 1 = .ok (.aload_n 0, 1) := by decide +kernel
theorem dX6_off_2 : decode cX6_off 2 = .ok (.getfield 7, 3) := by decide +kernel
theorem dX6_off_5 : decode cX6_off 5 = .ok (.iconst 1, 1) := by decide +kernel
theorem dX6_off_6 : decode cX6_off 6 = .ok (.iaload, 1) := by decide +kernel
theorem dX6_off_7 : decode cX6_off 7 = .ok (.if_icmp .ge 14, 3) := by decide +kernel
theorem dX6_off_10 : decode cX6_off 10 = .ok (.aload_n 0, 1) := by decide +kernel
theorem dX6_off_11 : decode cX6_off 11 = .ok (.getfield 7, 3) := by decide +kernel
theorem dX6_off_14 : decode cX6_off 14 = .ok (.iconst 1, 1) := by decide +kernel
theorem dX6_off_15 : decode cX6_off 15 = .ok (.iaload, 1) := by decide +kernel
theorem dX6_off_16 : decode cX6_off 16 = .ok (.iload_n 1, 1) := by decide +kernel
theorem dX6_off_17 : decode cX6_off 17 = .ok (.isub, 1) := by decide +kernel
theorem dX6_off_18 : decode cX6_off 18 = .ok (.goto 11, 3) := by decide +kernel
theorem dX6_off_21 : decode cX6_off 21 = .ok (.iload_n 1, 1) := by decide +kernel
theorem dX6_off_22 : decode cX6_off 22 = .ok (.aload_n 0, 1) := by decide +kernel
theorem dX6_off_23 : decode cX6_off 23 = .ok (.getfield 7, 3) := by decide +kernel
theorem dX6_off_26 : decode cX6_off 26 = .ok (.iconst 1, 1) := by decide +kernel
theorem dX6_off_27 : decode cX6_off 27 = .ok (.iaload, 1) := by decide +kernel
theorem dX6_off_28 : decode cX6_off 28 = .ok (.isub, 1) := by decide +kernel
theorem dX6_off_29 : decode cX6_off 29 = .ok (.ireturn, 1) := by decide +kernel
theorem dX6_clauseCost_0 : decode cX6_clauseCost 0 = .ok (.iconst 0, 1) := by decide +kernel
theorem dX6_clauseCost_1 : decode cX6_clauseCost 1 = .ok (.istore_n 3, 1) := by decide +kernel
theorem dX6_clauseCost_2 : decode cX6_clauseCost 2 = .ok (.iconst 0, 1) := by decide +kernel
theorem dX6_clauseCost_3 : decode cX6_clauseCost 3 = .ok (.istore 4, 2) := by decide +kernel
theorem dX6_clauseCost_5 : decode cX6_clauseCost 5 = .ok (.aload_n 0, 1) := by decide +kernel
theorem dX6_clauseCost_6 : decode cX6_clauseCost 6 = .ok (.iload_n 1, 1) := by decide +kernel
theorem dX6_clauseCost_7 : decode cX6_clauseCost 7 = .ok (.iconst 0, 1) := by decide +kernel
theorem dX6_clauseCost_8 : decode cX6_clauseCost 8 = .ok (.invokevirtual 60, 3) := by decide +kernel
theorem dX6_clauseCost_11 : decode cX6_clauseCost 11 = .ok (.istore 5, 2) := by decide +kernel
theorem dX6_clauseCost_13 : decode cX6_clauseCost 13 = .ok (.iconst 0, 1) := by decide +kernel
theorem dX6_clauseCost_14 : decode cX6_clauseCost 14 = .ok (.istore 6, 2) := by decide +kernel
theorem dX6_clauseCost_16 : decode cX6_clauseCost 16 = .ok (.iload 6, 2) := by decide +kernel
theorem dX6_clauseCost_18 : decode cX6_clauseCost 18 = .ok (.iload 5, 2) := by decide +kernel
theorem dX6_clauseCost_20 : decode cX6_clauseCost 20 = .ok (.if_icmp .ge 78, 3) := by decide +kernel
theorem dX6_clauseCost_23 : decode cX6_clauseCost 23 = .ok (.iload 4, 2) := by decide +kernel
theorem dX6_clauseCost_25 : decode cX6_clauseCost 25 = .ok (.aload_n 0, 1) := by decide +kernel
theorem dX6_clauseCost_26 : decode cX6_clauseCost 26 = .ok (.iload_n 1, 1) := by decide +kernel
theorem dX6_clauseCost_27 : decode cX6_clauseCost 27 = .ok (.iload 6, 2) := by decide +kernel
theorem dX6_clauseCost_29 : decode cX6_clauseCost 29 = .ok (.invokevirtual 66, 3) := by decide +kernel
theorem dX6_clauseCost_32 : decode cX6_clauseCost 32 = .ok (.iadd, 1) := by decide +kernel
theorem dX6_clauseCost_33 : decode cX6_clauseCost 33 = .ok (.istore 4, 2) := by decide +kernel
theorem dX6_clauseCost_35 : decode cX6_clauseCost 35 = .ok (.iload 6, 2) := by decide +kernel
theorem dX6_clauseCost_37 : decode cX6_clauseCost 37 = .ok (.iload 5, 2) := by decide +kernel
theorem dX6_clauseCost_39 : decode cX6_clauseCost 39 = .ok (.iconst 1, 1) := by decide +kernel
theorem dX6_clauseCost_40 : decode cX6_clauseCost 40 = .ok (.isub, 1) := by decide +kernel
theorem dX6_clauseCost_41 : decode cX6_clauseCost 41 = .ok (.if_icmp .eq 13, 3) := by decide +kernel
theorem dX6_clauseCost_44 : decode cX6_clauseCost 44 = .ok (.iload_n 2, 1) := by decide +kernel
theorem dX6_clauseCost_45 : decode cX6_clauseCost 45 = .ok (.iload 6, 2) := by decide +kernel
theorem dX6_clauseCost_47 : decode cX6_clauseCost 47 = .ok (.ishr, 1) := by decide +kernel
theorem dX6_clauseCost_48 : decode cX6_clauseCost 48 = .ok (.iconst 1, 1) := by decide +kernel
theorem dX6_clauseCost_49 : decode cX6_clauseCost 49 = .ok (.iand, 1) := by decide +kernel
theorem dX6_clauseCost_50 : decode cX6_clauseCost 50 = .ok (.iconst 1, 1) := by decide +kernel
theorem dX6_clauseCost_51 : decode cX6_clauseCost 51 = .ok (.if_icmp .ne 7, 3) := by decide +kernel
theorem dX6_clauseCost_54 : decode cX6_clauseCost 54 = .ok (.iconst 1, 1) := by decide +kernel
theorem dX6_clauseCost_55 : decode cX6_clauseCost 55 = .ok (.goto 4, 3) := by decide +kernel
theorem dX6_clauseCost_58 : decode cX6_clauseCost 58 = .ok (.iconst 0, 1) := by decide +kernel
end
section
theorem dX6_clauseCost_59 : decode cX6_clauseCost 59 = .ok (.istore 7, 2) := by decide +kernel
theorem dX6_clauseCost_61 : decode cX6_clauseCost 61 = .ok (.iload_n 3, 1) := by decide +kernel
theorem dX6_clauseCost_62 : decode cX6_clauseCost 62 = .ok (.iload 7, 2) := by decide +kernel
theorem dX6_clauseCost_64 : decode cX6_clauseCost 64 = .ok (.ifCond .eq 12, 3) := by decide +kernel
theorem dX6_clauseCost_67 : decode cX6_clauseCost 67 = .ok (.aload_n 0, 1) := by decide +kernel
theorem dX6_clauseCost_68 : decode cX6_clauseCost 68 = .ok (.iload 4, 2) := by decide +kernel
theorem dX6_clauseCost_70 : decode cX6_clauseCost 70 = .ok (.invokevirtual 69, 3) := by decide +kernel
theorem dX6_clauseCost_73 : decode cX6_clauseCost 73 = .ok (.goto 4, 3) := by decide +kernel
theorem dX6_clauseCost_76 : decode cX6_clauseCost 76 = .ok (.iconst 0, 1) := by decide +kernel
theorem dX6_clauseCost_77 : decode cX6_clauseCost 77 = .ok (.iadd, 1) := by decide +kernel
theorem dX6_clauseCost_78 : decode cX6_clauseCost 78 = .ok (.istore_n 3, 1) := by decide +kernel
theorem dX6_clauseCost_79 : decode cX6_clauseCost 79 = .ok (.iload 7, 2) := by decide +kernel
theorem dX6_clauseCost_81 : decode cX6_clauseCost 81 = .ok (.ifCond .eq 7, 3) := by decide +kernel
theorem dX6_clauseCost_84 : decode cX6_clauseCost 84 = .ok (.iconst 0, 1) := by decide +kernel
theorem dX6_clauseCost_85 : decode cX6_clauseCost 85 = .ok (.goto 5, 3) := by decide +kernel
theorem dX6_clauseCost_88 : decode cX6_clauseCost 88 = .ok (.iload 4, 2) := by decide +kernel
theorem dX6_clauseCost_90 : decode cX6_clauseCost 90 = .ok (.istore 4, 2) := by decide +kernel
theorem dX6_clauseCost_92 : decode cX6_clauseCost 92 = .ok (.iinc 6 1, 3) := by decide +kernel
theorem dX6_clauseCost_95 : decode cX6_clauseCost 95 = .ok (.goto (-79), 3) := by decide +kernel
theorem dX6_clauseCost_98 : decode cX6_clauseCost 98 = .ok (.iload_n 3, 1) := by decide +kernel
theorem dX6_clauseCost_99 : decode cX6_clauseCost 99 = .ok (.ireturn, 1) := by decide +kernel
theorem dX6_rulingOf_0 : decode cX6_rulingOf 0 = .ok (.aload_n 0, 1) := by decide +kernel
theorem dX6_rulingOf_1 : decode cX6_rulingOf 1 = .ok (.aload_n 0, 1) := by decide +kernel
theorem dX6_rulingOf_2 : decode cX6_rulingOf 2 = .ok (.iload_n 1, 1) := by decide +kernel
theorem dX6_rulingOf_3 : decode cX6_rulingOf 3 = .ok (.iload_n 2, 1) := by decide +kernel
theorem dX6_rulingOf_4 : decode cX6_rulingOf 4 = .ok (.invokevirtual 63, 3) := by decide +kernel
theorem dX6_rulingOf_7 : decode cX6_rulingOf 7 = .ok (.aload_n 0, 1) := by decide +kernel
theorem dX6_rulingOf_8 : decode cX6_rulingOf 8 = .ok (.iload_n 1, 1) := by decide +kernel
theorem dX6_rulingOf_9 : decode cX6_rulingOf 9 = .ok (.iload_n 2, 1) := by decide +kernel
theorem dX6_rulingOf_10 : decode cX6_rulingOf 10 = .ok (.iconst 1, 1) := by decide +kernel
theorem dX6_rulingOf_11 : decode cX6_rulingOf 11 = .ok (.iadd, 1) := by decide +kernel
theorem dX6_rulingOf_12 : decode cX6_rulingOf 12 = .ok (.invokevirtual 63, 3) := by decide +kernel
theorem dX6_rulingOf_15 : decode cX6_rulingOf 15 = .ok (.invokevirtual 54, 3) := by decide +kernel
theorem dX6_rulingOf_18 : decode cX6_rulingOf 18 = .ok (.ireturn, 1) := by decide +kernel
theorem dX6_fineOf_0 : decode cX6_fineOf 0 = .ok (.aload_n 0, 1) := by decide +kernel
theorem dX6_fineOf_1 : decode cX6_fineOf 1 = .ok (.iload_n 1, 1) := by decide +kernel
theorem dX6_fineOf_2 : decode cX6_fineOf 2 = .ok (.iload_n 2, 1) := by decide +kernel
theorem dX6_fineOf_3 : decode cX6_fineOf 3 = .ok (.invokevirtual 73, 3) := by decide +kernel
theorem dX6_fineOf_6 : decode cX6_fineOf 6 = .ok (.istore 4, 2) := by decide +kernel
theorem dX6_fineOf_8 : decode cX6_fineOf 8 = .ok (.iload 4, 2) := by decide +kernel
theorem dX6_fineOf_10 : decode cX6_fineOf 10 = .ok (.ifCond .lt 18, 3) := by decide +kernel
theorem dX6_fineOf_13 : decode cX6_fineOf 13 = .ok (.aload_n 0, 1) := by decide +kernel
theorem dX6_fineOf_14 : decode cX6_fineOf 14 = .ok (.iload 4, 2) := by decide +kernel
theorem dX6_fineOf_16 : decode cX6_fineOf 16 = .ok (.iconst 2, 1) := by decide +kernel
theorem dX6_fineOf_17 : decode cX6_fineOf 17 = .ok (.invokevirtual 46, 3) := by decide +kernel
theorem dX6_fineOf_20 : decode cX6_fineOf 20 = .ok (.iload_n 3, 1) := by decide +kernel
theorem dX6_fineOf_21 : decode cX6_fineOf 21 = .ok (.iload_n 2, 1) := by decide +kernel
theorem dX6_fineOf_22 : decode cX6_fineOf 22 = .ok (.ishr, 1) := by decide +kernel
theorem dX6_fineOf_23 : decode cX6_fineOf 23 = .ok (.iconst 1, 1) := by decide +kernel
theorem dX6_fineOf_24 : decode cX6_fineOf 24 = .ok (.iand, 1) := by decide +kernel
theorem dX6_fineOf_25 : decode cX6_fineOf 25 = .ok (.if_icmp .ne 7, 3) := by decide +kernel
theorem dX6_fineOf_28 : decode cX6_fineOf 28 = .ok (.iconst 0, 1) := by decide +kernel
theorem dX6_fineOf_29 : decode cX6_fineOf 29 = .ok (.goto 10, 3) := by decide +kernel
theorem dX6_fineOf_32 : decode cX6_fineOf 32 = .ok (.aload_n 0, 1) := by decide +kernel
theorem dX6_fineOf_33 : decode cX6_fineOf 33 = .ok (.iload 4, 2) := by decide +kernel
theorem dX6_fineOf_35 : decode cX6_fineOf 35 = .ok (.iconst 3, 1) := by decide +kernel
theorem dX6_fineOf_36 : decode cX6_fineOf 36 = .ok (.invokevirtual 46, 3) := by decide +kernel
theorem dX6_fineOf_39 : decode cX6_fineOf 39 = .ok (.ireturn, 1) := by decide +kernel
theorem dX6_finesOf_0 : decode cX6_finesOf 0 = .ok (.iconst 0, 1) := by decide +kernel
theorem dX6_finesOf_1 : decode cX6_finesOf 1 = .ok (.istore_n 3, 1) := by decide +kernel
theorem dX6_finesOf_2 : decode cX6_finesOf 2 = .ok (.iconst 0, 1) := by decide +kernel
theorem dX6_finesOf_3 : decode cX6_finesOf 3 = .ok (.istore 4, 2) := by decide +kernel
theorem dX6_finesOf_5 : decode cX6_finesOf 5 = .ok (.iload 4, 2) := by decide +kernel
theorem dX6_finesOf_7 : decode cX6_finesOf 7 = .ok (.iconst 1, 1) := by decide +kernel
theorem dX6_finesOf_8 : decode cX6_finesOf 8 = .ok (.iadd, 1) := by decide +kernel
theorem dX6_finesOf_9 : decode cX6_finesOf 9 = .ok (.aload_n 0, 1) := by decide +kernel
theorem dX6_finesOf_10 : decode cX6_finesOf 10 = .ok (.iload_n 1, 1) := by decide +kernel
theorem dX6_finesOf_11 : decode cX6_finesOf 11 = .ok (.iconst 0, 1) := by decide +kernel
theorem dX6_finesOf_12 : decode cX6_finesOf 12 = .ok (.invokevirtual 60, 3) := by decide +kernel
theorem dX6_finesOf_15 : decode cX6_finesOf 15 = .ok (.if_icmp .ge 20, 3) := by decide +kernel
theorem dX6_finesOf_18 : decode cX6_finesOf 18 = .ok (.iload_n 3, 1) := by decide +kernel
theorem dX6_finesOf_19 : decode cX6_finesOf 19 = .ok (.aload_n 0, 1) := by decide +kernel
theorem dX6_finesOf_20 : decode cX6_finesOf 20 = .ok (.iload_n 1, 1) := by decide +kernel
theorem dX6_finesOf_21 : decode cX6_finesOf 21 = .ok (.iload 4, 2) := by decide +kernel
theorem dX6_finesOf_23 : decode cX6_finesOf 23 = .ok (.iload_n 2, 1) := by decide +kernel
theorem dX6_finesOf_24 : decode cX6_finesOf 24 = .ok (.invokevirtual 76, 3) := by decide +kernel
theorem dX6_finesOf_27 : decode cX6_finesOf 27 = .ok (.iadd, 1) := by decide +kernel
theorem dX6_finesOf_28 : decode cX6_finesOf 28 = .ok (.istore_n 3, 1) := by decide +kernel
theorem dX6_finesOf_29 : decode cX6_finesOf 29 = .ok (.iinc 4 1, 3) := by decide +kernel
theorem dX6_finesOf_32 : decode cX6_finesOf 32 = .ok (.goto (-27), 3) := by decide +kernel
theorem dX6_finesOf_35 : decode cX6_finesOf 35 = .ok (.iload_n 3, 1) := by decide +kernel
theorem dX6_finesOf_36 : decode cX6_finesOf 36 = .ok (.ireturn, 1) := by decide +kernel
theorem dX6_costBy_0 : decode cX6_costBy 0 = .ok (.aload_n 0, 1) := by decide +kernel
theorem dX6_costBy_1 : decode cX6_costBy 1 = .ok (.iload_n 1, 1) := by decide +kernel
theorem dX6_costBy_2 : decode cX6_costBy 2 = .ok (.iload_n 2, 1) := by decide +kernel
theorem dX6_costBy_3 : decode cX6_costBy 3 = .ok (.invokevirtual 80, 3) := by decide +kernel
theorem dX6_costBy_6 : decode cX6_costBy 6 = .ok (.aload_n 0, 1) := by decide +kernel
theorem dX6_costBy_7 : decode cX6_costBy 7 = .ok (.iload_n 1, 1) := by decide +kernel
theorem dX6_costBy_8 : decode cX6_costBy 8 = .ok (.iload_n 2, 1) := by decide +kernel
theorem dX6_costBy_9 : decode cX6_costBy 9 = .ok (.invokevirtual 83, 3) := by decide +kernel
theorem dX6_costBy_12 : decode cX6_costBy 12 = .ok (.iadd, 1) := by decide +kernel
theorem dX6_costBy_13 : decode cX6_costBy 13 = .ok (.ireturn, 1) := by decide +kernel
theorem dX6_costOf_0 : decode cX6_costOf 0 = .ok (.aload_n 0, 1) := by decide +kernel
theorem dX6_costOf_1 : decode cX6_costOf 1 = .ok (.iload_n 1, 1) := by decide +kernel
theorem dX6_costOf_2 : decode cX6_costOf 2 = .ok (.aload_n 0, 1) := by decide +kernel
theorem dX6_costOf_3 : decode cX6_costOf 3 = .ok (.iload_n 1, 1) := by decide +kernel
theorem dX6_costOf_4 : decode cX6_costOf 4 = .ok (.iconst 1, 1) := by decide +kernel
theorem dX6_costOf_5 : decode cX6_costOf 5 = .ok (.invokevirtual 60, 3) := by decide +kernel
theorem dX6_costOf_8 : decode cX6_costOf 8 = .ok (.invokevirtual 86, 3) := by decide +kernel
theorem dX6_costOf_11 : decode cX6_costOf 11 = .ok (.ireturn, 1) := by decide +kernel
theorem dX6_allCost_0 : decode cX6_allCost 0 = .ok (.iconst 0, 1) := by decide +kernel
theorem dX6_allCost_1 : decode cX6_allCost 1 = .ok (.istore_n 1, 1) := by decide +kernel
theorem dX6_allCost_2 : decode cX6_allCost 2 = .ok (.iconst 0, 1) := by decide +kernel
theorem dX6_allCost_3 : decode cX6_allCost 3 = .ok (.istore_n 2, 1) := by decide +kernel
theorem dX6_allCost_4 : decode cX6_allCost 4 = .ok (.iload_n 2, 1) := by decide +kernel
theorem dX6_allCost_5 : decode cX6_allCost 5 = .ok (.aload_n 0, 1) := by decide +kernel
theorem dX6_allCost_6 : decode cX6_allCost 6 = .ok (.getfield 7, 3) := by decide +kernel
theorem dX6_allCost_9 : decode cX6_allCost 9 = .ok (.iconst 3, 1) := by decide +kernel
theorem dX6_allCost_10 : decode cX6_allCost 10 = .ok (.iaload, 1) := by decide +kernel
theorem dX6_allCost_11 : decode cX6_allCost 11 = .ok (.if_icmp .ge 17, 3) := by decide +kernel
theorem dX6_allCost_14 : decode cX6_allCost 14 = .ok (.iload_n 1, 1) := by decide +kernel
theorem dX6_allCost_15 : decode cX6_allCost 15 = .ok (.aload_n 0, 1) := by decide +kernel
theorem dX6_allCost_16 : decode cX6_allCost 16 = .ok (.iload_n 2, 1) := by decide +kernel
theorem dX6_allCost_17 : decode cX6_allCost 17 = .ok (.invokevirtual 89, 3) := by decide +kernel
theorem dX6_allCost_20 : decode cX6_allCost 20 = .ok (.iadd, 1) := by decide +kernel
theorem dX6_allCost_21 : decode cX6_allCost 21 = .ok (.istore_n 1, 1) := by decide +kernel
theorem dX6_allCost_22 : decode cX6_allCost 22 = .ok (.iinc 2 1, 3) := by decide +kernel
theorem dX6_allCost_25 : decode cX6_allCost 25 = .ok (.goto (-21), 3) := by decide +kernel
theorem dX6_allCost_28 : decode cX6_allCost 28 = .ok (.iload_n 1, 1) := by decide +kernel
theorem dX6_allCost_29 : decode cX6_allCost 29 = .ok (.ireturn, 1) := by decide +kernel
theorem dX6_isStayed_0 : decode cX6_isStayed 0 = .ok (.aload_n 0, 1) := by decide +kernel
theorem dX6_isStayed_1 : decode cX6_isStayed 1 = .ok (.getfield 7, 3) := by decide +kernel
theorem dX6_isStayed_4 : decode cX6_isStayed 4 = .ok (.iconst 0, 1) := by decide +kernel
theorem dX6_isStayed_5 : decode cX6_isStayed 5 = .ok (.iaload, 1) := by decide +kernel
theorem dX6_isStayed_6 : decode cX6_isStayed 6 = .ok (.aload_n 0, 1) := by decide +kernel
theorem dX6_isStayed_7 : decode cX6_isStayed 7 = .ok (.iload_n 1, 1) := by decide +kernel
theorem dX6_isStayed_8 : decode cX6_isStayed 8 = .ok (.iconst 2, 1) := by decide +kernel
theorem dX6_isStayed_9 : decode cX6_isStayed 9 = .ok (.invokevirtual 60, 3) := by decide +kernel
theorem dX6_isStayed_12 : decode cX6_isStayed 12 = .ok (.if_icmp .ge 7, 3) := by decide +kernel
theorem dX6_isStayed_15 : decode cX6_isStayed 15 = .ok (.iconst 1, 1) := by decide +kernel
theorem dX6_isStayed_16 : decode cX6_isStayed 16 = .ok (.goto 4, 3) := by decide +kernel
theorem dX6_isStayed_19 : decode cX6_isStayed 19 = .ok (.iconst 0, 1) := by decide +kernel
theorem dX6_isStayed_20 : decode cX6_isStayed 20 = .ok (.ireturn, 1) := by decide +kernel
theorem dX6_isSame_0 : decode cX6_isSame 0 = .ok (.aload_n 0, 1) := by decide +kernel
theorem dX6_isSame_1 : decode cX6_isSame 1 = .ok (.iload_n 1, 1) := by decide +kernel
theorem dX6_isSame_2 : decode cX6_isSame 2 = .ok (.iconst 0, 1) := by decide +kernel
theorem dX6_isSame_3 : decode cX6_isSame 3 = .ok (.invokevirtual 60, 3) := by decide +kernel
theorem dX6_isSame_6 : decode cX6_isSame 6 = .ok (.aload_n 0, 1) := by decide +kernel
theorem dX6_isSame_7 : decode cX6_isSame 7 = .ok (.iload_n 2, 1) := by decide +kernel
theorem dX6_isSame_8 : decode cX6_isSame 8 = .ok (.iconst 0, 1) := by decide +kernel
theorem dX6_isSame_9 : decode cX6_isSame 9 = .ok (.invokevirtual 60, 3) := by decide +kernel
theorem dX6_isSame_12 : decode cX6_isSame 12 = .ok (.if_icmp .ne 7, 3) := by decide +kernel
theorem dX6_isSame_15 : decode cX6_isSame 15 = .ok (.iconst 1, 1) := by decide +kernel
theorem dX6_isSame_16 : decode cX6_isSame 16 = .ok (.goto 4, 3) := by decide +kernel
theorem dX6_isSame_19 : decode cX6_isSame 19 = .ok (.iconst 0, 1) := by decide +kernel
theorem dX6_isSame_20 : decode cX6_isSame 20 = .ok (.istore_n 3, 1) := by decide +kernel
theorem dX6_isSame_21 : decode cX6_isSame 21 = .ok (.iconst 0, 1) := by decide +kernel
theorem dX6_isSame_22 : decode cX6_isSame 22 = .ok (.istore 4, 2) := by decide +kernel
theorem dX6_isSame_24 : decode cX6_isSame 24 = .ok (.iload 4, 2) := by decide +kernel
theorem dX6_isSame_26 : decode cX6_isSame 26 = .ok (.bipush 12, 2) := by decide +kernel
theorem dX6_isSame_28 : decode cX6_isSame 28 = .ok (.if_icmp .ge 36, 3) := by decide +kernel
theorem dX6_isSame_31 : decode cX6_isSame 31 = .ok (.iload_n 3, 1) := by decide +kernel
theorem dX6_isSame_32 : decode cX6_isSame 32 = .ok (.ifCond .eq 24, 3) := by decide +kernel
theorem dX6_isSame_35 : decode cX6_isSame 35 = .ok (.aload_n 0, 1) := by decide +kernel
theorem dX6_isSame_36 : decode cX6_isSame 36 = .ok (.iload_n 1, 1) := by decide +kernel
theorem dX6_isSame_37 : decode cX6_isSame 37 = .ok (.iload 4, 2) := by decide +kernel
theorem dX6_isSame_39 : decode cX6_isSame 39 = .ok (.invokevirtual 63, 3) := by decide +kernel
theorem dX6_isSame_42 : decode cX6_isSame 42 = .ok (.aload_n 0, 1) := by decide +kernel
theorem dX6_isSame_43 : decode cX6_isSame 43 = .ok (.iload_n 2, 1) := by decide +kernel
theorem dX6_isSame_44 : decode cX6_isSame 44 = .ok (.iload 4, 2) := by decide +kernel
theorem dX6_isSame_46 : decode cX6_isSame 46 = .ok (.invokevirtual 63, 3) := by decide +kernel
theorem dX6_isSame_49 : decode cX6_isSame 49 = .ok (.if_icmp .ne 7, 3) := by decide +kernel
theorem dX6_isSame_52 : decode cX6_isSame 52 = .ok (.iconst 1, 1) := by decide +kernel
theorem dX6_isSame_53 : decode cX6_isSame 53 = .ok (.goto 4, 3) := by decide +kernel
theorem dX6_isSame_56 : decode cX6_isSame 56 = .ok (.iconst 0, 1) := by decide +kernel
theorem dX6_isSame_57 : decode cX6_isSame 57 = .ok (.istore_n 3, 1) := by decide +kernel
theorem dX6_isSame_58 : decode cX6_isSame 58 = .ok (.iinc 4 1, 3) := by decide +kernel
theorem dX6_isSame_61 : decode cX6_isSame 61 = .ok (.goto (-37), 3) := by decide +kernel
theorem dX6_isSame_64 : decode cX6_isSame 64 = .ok (.iload_n 3, 1) := by decide +kernel
theorem dX6_isSame_65 : decode cX6_isSame 65 = .ok (.ireturn, 1) := by decide +kernel
theorem dX6_isTaken_0 : decode cX6_isTaken 0 = .ok (.iconst 0, 1) := by decide +kernel
theorem dX6_isTaken_1 : decode cX6_isTaken 1 = .ok (.istore_n 3, 1) := by decide +kernel
theorem dX6_isTaken_2 : decode cX6_isTaken 2 = .ok (.iconst 0, 1) := by decide +kernel
theorem dX6_isTaken_3 : decode cX6_isTaken 3 = .ok (.istore 4, 2) := by decide +kernel
theorem dX6_isTaken_5 : decode cX6_isTaken 5 = .ok (.iload 4, 2) := by decide +kernel
theorem dX6_isTaken_7 : decode cX6_isTaken 7 = .ok (.aload_n 0, 1) := by decide +kernel
theorem dX6_isTaken_8 : decode cX6_isTaken 8 = .ok (.getfield 7, 3) := by decide +kernel
theorem dX6_isTaken_11 : decode cX6_isTaken 11 = .ok (.iconst 3, 1) := by decide +kernel
theorem dX6_isTaken_12 : decode cX6_isTaken 12 = .ok (.iaload, 1) := by decide +kernel
theorem dX6_isTaken_13 : decode cX6_isTaken 13 = .ok (.if_icmp .ge 46, 3) := by decide +kernel
theorem dX6_isTaken_16 : decode cX6_isTaken 16 = .ok (.iload_n 3, 1) := by decide +kernel
theorem dX6_isTaken_17 : decode cX6_isTaken 17 = .ok (.ifCond .ne 30, 3) := by decide +kernel
theorem dX6_isTaken_20 : decode cX6_isTaken 20 = .ok (.iload 4, 2) := by decide +kernel
theorem dX6_isTaken_22 : decode cX6_isTaken 22 = .ok (.iload_n 1, 1) := by decide +kernel
theorem dX6_isTaken_23 : decode cX6_isTaken 23 = .ok (.if_icmp .eq 28, 3) := by decide +kernel
theorem dX6_isTaken_26 : decode cX6_isTaken 26 = .ok (.aload_n 0, 1) := by decide +kernel
theorem dX6_isTaken_27 : decode cX6_isTaken 27 = .ok (.iload 4, 2) := by decide +kernel
theorem dX6_isTaken_29 : decode cX6_isTaken 29 = .ok (.iload_n 1, 1) := by decide +kernel
theorem dX6_isTaken_30 : decode cX6_isTaken 30 = .ok (.invokevirtual 92, 3) := by decide +kernel
theorem dX6_isTaken_33 : decode cX6_isTaken 33 = .ok (.ifCond .eq 18, 3) := by decide +kernel
theorem dX6_isTaken_36 : decode cX6_isTaken 36 = .ok (.aload_n 0, 1) := by decide +kernel
theorem dX6_isTaken_37 : decode cX6_isTaken 37 = .ok (.iload 4, 2) := by decide +kernel
theorem dX6_isTaken_39 : decode cX6_isTaken 39 = .ok (.iconst 1, 1) := by decide +kernel
theorem dX6_isTaken_40 : decode cX6_isTaken 40 = .ok (.invokevirtual 60, 3) := by decide +kernel
theorem dX6_isTaken_43 : decode cX6_isTaken 43 = .ok (.iload_n 2, 1) := by decide +kernel
theorem dX6_isTaken_44 : decode cX6_isTaken 44 = .ok (.if_icmp .ne 7, 3) := by decide +kernel
theorem dX6_isTaken_47 : decode cX6_isTaken 47 = .ok (.iconst 1, 1) := by decide +kernel
theorem dX6_isTaken_48 : decode cX6_isTaken 48 = .ok (.goto 4, 3) := by decide +kernel
theorem dX6_isTaken_51 : decode cX6_isTaken 51 = .ok (.iconst 0, 1) := by decide +kernel
theorem dX6_isTaken_52 : decode cX6_isTaken 52 = .ok (.istore_n 3, 1) := by decide +kernel
theorem dX6_isTaken_53 : decode cX6_isTaken 53 = .ok (.iinc 4 1, 3) := by decide +kernel
theorem dX6_isTaken_56 : decode cX6_isTaken 56 = .ok (.goto (-51), 3) := by decide +kernel
theorem dX6_isTaken_59 : decode cX6_isTaken 59 = .ok (.iload_n 3, 1) := by decide +kernel
theorem dX6_isTaken_60 : decode cX6_isTaken 60 = .ok (.ireturn, 1) := by decide +kernel
theorem dX6_reasonToRefuse_0 : decode cX6_reasonToRefuse 0 = .ok (.aload_n 0, 1) := by decide +kernel
theorem dX6_reasonToRefuse_1 : decode cX6_reasonToRefuse 1 = .ok (.iload_n 1, 1) := by decide +kernel
theorem dX6_reasonToRefuse_2 : decode cX6_reasonToRefuse 2 = .ok (.invokevirtual 96, 3) := by decide +kernel
theorem dX6_reasonToRefuse_5 : decode cX6_reasonToRefuse 5 = .ok (.ifCond .eq 5, 3) := by decide +kernel
theorem dX6_reasonToRefuse_8 : decode cX6_reasonToRefuse 8 = .ok (.iconst 1, 1) := by decide +kernel
theorem dX6_reasonToRefuse_9 : decode cX6_reasonToRefuse 9 = .ok (.ireturn, 1) := by decide +kernel
theorem dX6_reasonToRefuse_10 : decode cX6_reasonToRefuse 10 = .ok (.aload_n 0, 1) := by decide +kernel
theorem dX6_reasonToRefuse_11 : decode cX6_reasonToRefuse 11 = .ok (.iload_n 1, 1) := by decide +kernel
theorem dX6_reasonToRefuse_12 : decode cX6_reasonToRefuse 12 = .ok (.iconst 1, 1) := by decide +kernel
theorem dX6_reasonToRefuse_13 : decode cX6_reasonToRefuse 13 = .ok (.invokevirtual 60, 3) := by decide +kernel
theorem dX6_reasonToRefuse_16 : decode cX6_reasonToRefuse 16 = .ok (.iconst 1, 1) := by decide +kernel
theorem dX6_reasonToRefuse_17 : decode cX6_reasonToRefuse 17 = .ok (.iload_n 2, 1) := by decide +kernel
theorem dX6_reasonToRefuse_18 : decode cX6_reasonToRefuse 18 = .ok (.ishl, 1) := by decide +kernel
theorem dX6_reasonToRefuse_19 : decode cX6_reasonToRefuse 19 = .ok (.ixor, 1) := by decide +kernel
theorem dX6_reasonToRefuse_20 : decode cX6_reasonToRefuse 20 = .ok (.istore_n 3, 1) := by decide +kernel
theorem dX6_reasonToRefuse_21 : decode cX6_reasonToRefuse 21 = .ok (.aload_n 0, 1) := by decide +kernel
theorem dX6_reasonToRefuse_22 : decode cX6_reasonToRefuse 22 = .ok (.iload_n 1, 1) := by decide +kernel
theorem dX6_reasonToRefuse_23 : decode cX6_reasonToRefuse 23 = .ok (.iload_n 3, 1) := by decide +kernel
theorem dX6_reasonToRefuse_24 : decode cX6_reasonToRefuse 24 = .ok (.invokevirtual 86, 3) := by decide +kernel
theorem dX6_reasonToRefuse_27 : decode cX6_reasonToRefuse 27 = .ok (.aload_n 0, 1) := by decide +kernel
theorem dX6_reasonToRefuse_28 : decode cX6_reasonToRefuse 28 = .ok (.iload_n 1, 1) := by decide +kernel
theorem dX6_reasonToRefuse_29 : decode cX6_reasonToRefuse 29 = .ok (.invokevirtual 89, 3) := by decide +kernel
theorem dX6_reasonToRefuse_32 : decode cX6_reasonToRefuse 32 = .ok (.if_icmp .lt 7, 3) := by decide +kernel
theorem dX6_reasonToRefuse_35 : decode cX6_reasonToRefuse 35 = .ok (.iconst 2, 1) := by decide +kernel
theorem dX6_reasonToRefuse_36 : decode cX6_reasonToRefuse 36 = .ok (.goto 17, 3) := by decide +kernel
theorem dX6_reasonToRefuse_39 : decode cX6_reasonToRefuse 39 = .ok (.aload_n 0, 1) := by decide +kernel
theorem dX6_reasonToRefuse_40 : decode cX6_reasonToRefuse 40 = .ok (.iload_n 1, 1) := by decide +kernel
theorem dX6_reasonToRefuse_41 : decode cX6_reasonToRefuse 41 = .ok (.iload_n 3, 1) := by decide +kernel
theorem dX6_reasonToRefuse_42 : decode cX6_reasonToRefuse 42 = .ok (.invokevirtual 99, 3) := by decide +kernel
theorem dX6_reasonToRefuse_45 : decode cX6_reasonToRefuse 45 = .ok (.ifCond .eq 7, 3) := by decide +kernel
theorem dX6_reasonToRefuse_48 : decode cX6_reasonToRefuse 48 = .ok (.iconst 3, 1) := by decide +kernel
theorem dX6_reasonToRefuse_49 : decode cX6_reasonToRefuse 49 = .ok (.goto 4, 3) := by decide +kernel
theorem dX6_reasonToRefuse_52 : decode cX6_reasonToRefuse 52 = .ok (.iconst 0, 1) := by decide +kernel
theorem dX6_reasonToRefuse_53 : decode cX6_reasonToRefuse 53 = .ok (.ireturn, 1) := by decide +kernel
theorem dX6_goSue_0 : decode cX6_goSue 0 = .ok (.aload_n 0, 1) := by decide +kernel
theorem dX6_goSue_1 : decode cX6_goSue 1 = .ok (.iload_n 1, 1) := by decide +kernel
theorem dX6_goSue_2 : decode cX6_goSue 2 = .ok (.iload_n 2, 1) := by decide +kernel
theorem dX6_goSue_3 : decode cX6_goSue 3 = .ok (.invokevirtual 102, 3) := by decide +kernel
theorem dX6_goSue_6 : decode cX6_goSue 6 = .ok (.istore_n 3, 1) := by decide +kernel
theorem dX6_goSue_7 : decode cX6_goSue 7 = .ok (.iload_n 3, 1) := by decide +kernel
theorem dX6_goSue_8 : decode cX6_goSue 8 = .ok (.ifCond .le 16, 3) := by decide +kernel
theorem dX6_goSue_11 : decode cX6_goSue 11 = .ok (.aload_n 0, 1) := by decide +kernel
theorem dX6_goSue_12 : decode cX6_goSue 12 = .ok (.getfield 7, 3) := by decide +kernel
theorem dX6_goSue_15 : decode cX6_goSue 15 = .ok (.bipush 6, 2) := by decide +kernel
theorem dX6_goSue_17 : decode cX6_goSue 17 = .ok (.dup2, 1) := by decide +kernel
theorem dX6_goSue_18 : decode cX6_goSue 18 = .ok (.iaload, 1) := by decide +kernel
theorem dX6_goSue_19 : decode cX6_goSue 19 = .ok (.iconst 1, 1) := by decide +kernel
theorem dX6_goSue_20 : decode cX6_goSue 20 = .ok (.iadd, 1) := by decide +kernel
theorem dX6_goSue_21 : decode cX6_goSue 21 = .ok (.iastore, 1) := by decide +kernel
theorem dX6_goSue_22 : decode cX6_goSue 22 = .ok (.iload_n 3, 1) := by decide +kernel
theorem dX6_goSue_23 : decode cX6_goSue 23 = .ok (.ireturn, 1) := by decide +kernel
theorem dX6_goSue_24 : decode cX6_goSue 24 = .ok (.aload_n 0, 1) := by decide +kernel
theorem dX6_goSue_25 : decode cX6_goSue 25 = .ok (.iload_n 1, 1) := by decide +kernel
theorem dX6_goSue_26 : decode cX6_goSue 26 = .ok (.invokevirtual 89, 3) := by decide +kernel
theorem dX6_goSue_29 : decode cX6_goSue 29 = .ok (.istore 4, 2) := by decide +kernel
theorem dX6_goSue_31 : decode cX6_goSue 31 = .ok (.aload_n 0, 1) := by decide +kernel
theorem dX6_goSue_32 : decode cX6_goSue 32 = .ok (.iload_n 1, 1) := by decide +kernel
theorem dX6_goSue_33 : decode cX6_goSue 33 = .ok (.iconst 1, 1) := by decide +kernel
theorem dX6_goSue_34 : decode cX6_goSue 34 = .ok (.aload_n 0, 1) := by decide +kernel
theorem dX6_goSue_35 : decode cX6_goSue 35 = .ok (.iload_n 1, 1) := by decide +kernel
theorem dX6_goSue_36 : decode cX6_goSue 36 = .ok (.iconst 1, 1) := by decide +kernel
theorem dX6_goSue_37 : decode cX6_goSue 37 = .ok (.invokevirtual 60, 3) := by decide +kernel
theorem dX6_goSue_40 : decode cX6_goSue 40 = .ok (.iconst 1, 1) := by decide +kernel
theorem dX6_goSue_41 : decode cX6_goSue 41 = .ok (.iload_n 2, 1) := by decide +kernel
theorem dX6_goSue_42 : decode cX6_goSue 42 = .ok (.ishl, 1) := by decide +kernel
theorem dX6_goSue_43 : decode cX6_goSue 43 = .ok (.ixor, 1) := by decide +kernel
theorem dX6_goSue_44 : decode cX6_goSue 44 = .ok (.invokevirtual 105, 3) := by decide +kernel
theorem dX6_goSue_47 : decode cX6_goSue 47 = .ok (.aload_n 0, 1) := by decide +kernel
theorem dX6_goSue_48 : decode cX6_goSue 48 = .ok (.iload_n 1, 1) := by decide +kernel
theorem dX6_goSue_49 : decode cX6_goSue 49 = .ok (.iconst 3, 1) := by decide +kernel
theorem dX6_goSue_50 : decode cX6_goSue 50 = .ok (.aload_n 0, 1) := by decide +kernel
theorem dX6_goSue_51 : decode cX6_goSue 51 = .ok (.iload_n 1, 1) := by decide +kernel
theorem dX6_goSue_52 : decode cX6_goSue 52 = .ok (.iconst 3, 1) := by decide +kernel
theorem dX6_goSue_53 : decode cX6_goSue 53 = .ok (.invokevirtual 60, 3) := by decide +kernel
theorem dX6_goSue_56 : decode cX6_goSue 56 = .ok (.iconst 1, 1) := by decide +kernel
theorem dX6_goSue_57 : decode cX6_goSue 57 = .ok (.iadd, 1) := by decide +kernel
theorem dX6_goSue_58 : decode cX6_goSue 58 = .ok (.invokevirtual 105, 3) := by decide +kernel
theorem dX6_goSue_61 : decode cX6_goSue 61 = .ok (.aload_n 0, 1) := by decide +kernel
theorem dX6_goSue_62 : decode cX6_goSue 62 = .ok (.getfield 7, 3) := by decide +kernel
theorem dX6_goSue_65 : decode cX6_goSue 65 = .ok (.iconst 5, 1) := by decide +kernel
theorem dX6_goSue_66 : decode cX6_goSue 66 = .ok (.dup2, 1) := by decide +kernel
theorem dX6_goSue_67 : decode cX6_goSue 67 = .ok (.iaload, 1) := by decide +kernel
theorem dX6_goSue_68 : decode cX6_goSue 68 = .ok (.iconst 1, 1) := by decide +kernel
theorem dX6_goSue_69 : decode cX6_goSue 69 = .ok (.iadd, 1) := by decide +kernel
theorem dX6_goSue_70 : decode cX6_goSue 70 = .ok (.iastore, 1) := by decide +kernel
theorem dX6_goSue_71 : decode cX6_goSue 71 = .ok (.bipush 10, 2) := by decide +kernel
theorem dX6_goSue_73 : decode cX6_goSue 73 = .ok (.iload 4, 2) := by decide +kernel
theorem dX6_goSue_75 : decode cX6_goSue 75 = .ok (.iadd, 1) := by decide +kernel
theorem dX6_goSue_76 : decode cX6_goSue 76 = .ok (.aload_n 0, 1) := by decide +kernel
theorem dX6_goSue_77 : decode cX6_goSue 77 = .ok (.iload_n 1, 1) := by decide +kernel
theorem dX6_goSue_78 : decode cX6_goSue 78 = .ok (.invokevirtual 89, 3) := by decide +kernel
theorem dX6_goSue_81 : decode cX6_goSue 81 = .ok (.isub, 1) := by decide +kernel
theorem dX6_goSue_82 : decode cX6_goSue 82 = .ok (.ireturn, 1) := by decide +kernel
theorem dX6_weight_0 : decode cX6_weight 0 = .ok (.iload_n 1, 1) := by decide +kernel
theorem dX6_weight_1 : decode cX6_weight 1 = .ok (.invokestatic 109, 3) := by decide +kernel
theorem dX6_weight_4 : decode cX6_weight 4 = .ok (.ifCond .eq 13, 3) := by decide +kernel
theorem dX6_weight_7 : decode cX6_weight 7 = .ok (.iload_n 2, 1) := by decide +kernel
theorem dX6_weight_8 : decode cX6_weight 8 = .ok (.iconst 1, 1) := by decide +kernel
theorem dX6_weight_9 : decode cX6_weight 9 = .ok (.bipush 9, 2) := by decide +kernel
theorem dX6_weight_11 : decode cX6_weight 11 = .ok (.invokestatic 42, 3) := by decide +kernel
theorem dX6_weight_14 : decode cX6_weight 14 = .ok (.ifCond .ne 5, 3) := by decide +kernel
theorem dX6_weight_17 : decode cX6_weight 17 = .ok (.iconst (-1), 1) := by decide +kernel
theorem dX6_weight_18 : decode cX6_weight 18 = .ok (.ireturn, 1) := by decide +kernel
theorem dX6_weight_19 : decode cX6_weight 19 = .ok (.aload_n 0, 1) := by decide +kernel
theorem dX6_weight_20 : decode cX6_weight 20 = .ok (.invokevirtual 112, 3) := by decide +kernel
theorem dX6_weight_23 : decode cX6_weight 23 = .ok (.aload_n 0, 1) := by decide +kernel
theorem dX6_weight_24 : decode cX6_weight 24 = .ok (.getfield 7, 3) := by decide +kernel
theorem dX6_weight_27 : decode cX6_weight 27 = .ok (.bipush 7, 2) := by decide +kernel
theorem dX6_weight_29 : decode cX6_weight 29 = .ok (.iload_n 1, 1) := by decide +kernel
theorem dX6_weight_30 : decode cX6_weight 30 = .ok (.iadd, 1) := by decide +kernel
theorem dX6_weight_31 : decode cX6_weight 31 = .ok (.iaload, 1) := by decide +kernel
theorem dX6_weight_32 : decode cX6_weight 32 = .ok (.istore_n 3, 1) := by decide +kernel
theorem dX6_weight_33 : decode cX6_weight 33 = .ok (.aload_n 0, 1) := by decide +kernel
theorem dX6_weight_34 : decode cX6_weight 34 = .ok (.getfield 7, 3) := by decide +kernel
theorem dX6_weight_37 : decode cX6_weight 37 = .ok (.bipush 7, 2) := by decide +kernel
theorem dX6_weight_39 : decode cX6_weight 39 = .ok (.iload_n 1, 1) := by decide +kernel
theorem dX6_weight_40 : decode cX6_weight 40 = .ok (.iadd, 1) := by decide +kernel
theorem dX6_weight_41 : decode cX6_weight 41 = .ok (.iload_n 2, 1) := by decide +kernel
theorem dX6_weight_42 : decode cX6_weight 42 = .ok (.iastore, 1) := by decide +kernel
theorem dX6_weight_43 : decode cX6_weight 43 = .ok (.iload_n 3, 1) := by decide +kernel
theorem dX6_weight_44 : decode cX6_weight 44 = .ok (.ireturn, 1) := by decide +kernel
theorem dX6_set_0 : decode cX6_set 0 = .ok (.iload_n 1, 1) := by decide +kernel
theorem dX6_set_1 : decode cX6_set 1 = .ok (.iconst 0, 1) := by decide +kernel
theorem dX6_set_2 : decode cX6_set 2 = .ok (.iconst 1, 1) := by decide +kernel
theorem dX6_set_3 : decode cX6_set 3 = .ok (.invokestatic 42, 3) := by decide +kernel
theorem dX6_set_6 : decode cX6_set 6 = .ok (.ifCond .eq 31, 3) := by decide +kernel
theorem dX6_set_9 : decode cX6_set 9 = .ok (.iload_n 2, 1) := by decide +kernel
theorem dX6_set_10 : decode cX6_set 10 = .ok (.iload_n 1, 1) := by decide +kernel
theorem dX6_set_11 : decode cX6_set 11 = .ok (.ifCond .ne 7, 3) := by decide +kernel
theorem dX6_set_14 : decode cX6_set 14 = .ok (.iconst 1, 1) := by decide +kernel
theorem dX6_set_15 : decode cX6_set 15 = .ok (.goto 5, 3) := by decide +kernel
theorem dX6_set_18 : decode cX6_set 18 = .ok (.bipush 9, 2) := by decide +kernel
theorem dX6_set_20 : decode cX6_set 20 = .ok (.iload_n 1, 1) := by decide +kernel
theorem dX6_set_21 : decode cX6_set 21 = .ok (.ifCond .ne 8, 3) := by decide +kernel
theorem dX6_set_24 : decode cX6_set 24 = .ok (.bipush 30, 2) := by decide +kernel
theorem dX6_set_26 : decode cX6_set 26 = .ok (.goto 5, 3) := by decide +kernel
theorem dX6_set_29 : decode cX6_set 29 = .ok (.bipush 60, 2) := by decide +kernel
theorem dX6_set_31 : decode cX6_set 31 = .ok (.invokestatic 42, 3) := by decide +kernel
theorem dX6_set_34 : decode cX6_set 34 = .ok (.ifCond .ne 5, 3) := by decide +kernel
theorem dX6_set_37 : decode cX6_set 37 = .ok (.iconst (-1), 1) := by decide +kernel
theorem dX6_set_38 : decode cX6_set 38 = .ok (.ireturn, 1) := by decide +kernel
theorem dX6_set_39 : decode cX6_set 39 = .ok (.aload_n 0, 1) := by decide +kernel
theorem dX6_set_40 : decode cX6_set 40 = .ok (.invokevirtual 112, 3) := by decide +kernel
theorem dX6_set_43 : decode cX6_set 43 = .ok (.aload_n 0, 1) := by decide +kernel
theorem dX6_set_44 : decode cX6_set 44 = .ok (.getfield 7, 3) := by decide +kernel
theorem dX6_set_47 : decode cX6_set 47 = .ok (.iconst 1, 1) := by decide +kernel
theorem dX6_set_48 : decode cX6_set 48 = .ok (.iload_n 1, 1) := by decide +kernel
theorem dX6_set_49 : decode cX6_set 49 = .ok (.iadd, 1) := by decide +kernel
theorem dX6_set_50 : decode cX6_set 50 = .ok (.iaload, 1) := by decide +kernel
theorem dX6_set_51 : decode cX6_set 51 = .ok (.istore_n 3, 1) := by decide +kernel
theorem dX6_set_52 : decode cX6_set 52 = .ok (.aload_n 0, 1) := by decide +kernel
theorem dX6_set_53 : decode cX6_set 53 = .ok (.getfield 7, 3) := by decide +kernel
theorem dX6_set_56 : decode cX6_set 56 = .ok (.iconst 1, 1) := by decide +kernel
theorem dX6_set_57 : decode cX6_set 57 = .ok (.iload_n 1, 1) := by decide +kernel
theorem dX6_set_58 : decode cX6_set 58 = .ok (.iadd, 1) := by decide +kernel
theorem dX6_set_59 : decode cX6_set 59 = .ok (.iload_n 2, 1) := by decide +kernel
theorem dX6_set_60 : decode cX6_set 60 = .ok (.iastore, 1) := by decide +kernel
theorem dX6_set_61 : decode cX6_set 61 = .ok (.iload_n 3, 1) := by decide +kernel
theorem dX6_set_62 : decode cX6_set 62 = .ok (.ireturn, 1) := by decide +kernel
theorem dX6_addsRuling_0 : decode cX6_addsRuling 0 = .ok (.bipush 13, 2) := by decide +kernel
theorem dX6_addsRuling_2 : decode cX6_addsRuling 2 = .ok (.bipush 6, 2) := by decide +kernel
theorem dX6_addsRuling_4 : decode cX6_addsRuling 4 = .ok (.aload_n 0, 1) := by decide +kernel
theorem dX6_addsRuling_5 : decode cX6_addsRuling 5 = .ok (.getfield 7, 3) := by decide +kernel
theorem dX6_addsRuling_8 : decode cX6_addsRuling 8 = .ok (.iconst 4, 1) := by decide +kernel
theorem dX6_addsRuling_9 : decode cX6_addsRuling 9 = .ok (.iaload, 1) := by decide +kernel
theorem dX6_addsRuling_10 : decode cX6_addsRuling 10 = .ok (.imul, 1) := by decide +kernel
theorem dX6_addsRuling_11 : decode cX6_addsRuling 11 = .ok (.iadd, 1) := by decide +kernel
theorem dX6_addsRuling_12 : decode cX6_addsRuling 12 = .ok (.istore 6, 2) := by decide +kernel
theorem dX6_addsRuling_14 : decode cX6_addsRuling 14 = .ok (.aload_n 0, 1) := by decide +kernel
theorem dX6_addsRuling_15 : decode cX6_addsRuling 15 = .ok (.getfield 7, 3) := by decide +kernel
theorem dX6_addsRuling_18 : decode cX6_addsRuling 18 = .ok (.iload 6, 2) := by decide +kernel
theorem dX6_addsRuling_20 : decode cX6_addsRuling 20 = .ok (.iconst 0, 1) := by decide +kernel
theorem dX6_addsRuling_21 : decode cX6_addsRuling 21 = .ok (.iadd, 1) := by decide +kernel
theorem dX6_addsRuling_22 : decode cX6_addsRuling 22 = .ok (.iload_n 1, 1) := by decide +kernel
theorem dX6_addsRuling_23 : decode cX6_addsRuling 23 = .ok (.iastore, 1) := by decide +kernel
theorem dX6_addsRuling_24 : decode cX6_addsRuling 24 = .ok (.aload_n 0, 1) := by decide +kernel
theorem dX6_addsRuling_25 : decode cX6_addsRuling 25 = .ok (.getfield 7, 3) := by decide +kernel
theorem dX6_addsRuling_28 : decode cX6_addsRuling 28 = .ok (.iload 6, 2) := by decide +kernel
theorem dX6_addsRuling_30 : decode cX6_addsRuling 30 = .ok (.iconst 1, 1) := by decide +kernel
theorem dX6_addsRuling_31 : decode cX6_addsRuling 31 = .ok (.iadd, 1) := by decide +kernel
theorem dX6_addsRuling_32 : decode cX6_addsRuling 32 = .ok (.iload_n 2, 1) := by decide +kernel
theorem dX6_addsRuling_33 : decode cX6_addsRuling 33 = .ok (.iastore, 1) := by decide +kernel
theorem dX6_addsRuling_34 : decode cX6_addsRuling 34 = .ok (.aload_n 0, 1) := by decide +kernel
theorem dX6_addsRuling_35 : decode cX6_addsRuling 35 = .ok (.getfield 7, 3) := by decide +kernel
theorem dX6_addsRuling_38 : decode cX6_addsRuling 38 = .ok (.iload 6, 2) := by decide +kernel
theorem dX6_addsRuling_40 : decode cX6_addsRuling 40 = .ok (.iconst 2, 1) := by decide +kernel
theorem dX6_addsRuling_41 : decode cX6_addsRuling 41 = .ok (.iadd, 1) := by decide +kernel
theorem dX6_addsRuling_42 : decode cX6_addsRuling 42 = .ok (.iload_n 3, 1) := by decide +kernel
theorem dX6_addsRuling_43 : decode cX6_addsRuling 43 = .ok (.ifCond .eq 7, 3) := by decide +kernel
theorem dX6_addsRuling_46 : decode cX6_addsRuling 46 = .ok (.iconst 1, 1) := by decide +kernel
theorem dX6_addsRuling_47 : decode cX6_addsRuling 47 = .ok (.goto 4, 3) := by decide +kernel
theorem dX6_addsRuling_50 : decode cX6_addsRuling 50 = .ok (.iconst 0, 1) := by decide +kernel
theorem dX6_addsRuling_51 : decode cX6_addsRuling 51 = .ok (.iastore, 1) := by decide +kernel
theorem dX6_addsRuling_52 : decode cX6_addsRuling 52 = .ok (.aload_n 0, 1) := by decide +kernel
theorem dX6_addsRuling_53 : decode cX6_addsRuling 53 = .ok (.getfield 7, 3) := by decide +kernel
theorem dX6_addsRuling_56 : decode cX6_addsRuling 56 = .ok (.iload 6, 2) := by decide +kernel
theorem dX6_addsRuling_58 : decode cX6_addsRuling 58 = .ok (.iconst 3, 1) := by decide +kernel
theorem dX6_addsRuling_59 : decode cX6_addsRuling 59 = .ok (.iadd, 1) := by decide +kernel
theorem dX6_addsRuling_60 : decode cX6_addsRuling 60 = .ok (.iload 4, 2) := by decide +kernel
theorem dX6_addsRuling_62 : decode cX6_addsRuling 62 = .ok (.iastore, 1) := by decide +kernel
theorem dX6_addsRuling_63 : decode cX6_addsRuling 63 = .ok (.aload_n 0, 1) := by decide +kernel
theorem dX6_addsRuling_64 : decode cX6_addsRuling 64 = .ok (.getfield 7, 3) := by decide +kernel
theorem dX6_addsRuling_67 : decode cX6_addsRuling 67 = .ok (.iload 6, 2) := by decide +kernel
theorem dX6_addsRuling_69 : decode cX6_addsRuling 69 = .ok (.iconst 4, 1) := by decide +kernel
theorem dX6_addsRuling_70 : decode cX6_addsRuling 70 = .ok (.iadd, 1) := by decide +kernel
theorem dX6_addsRuling_71 : decode cX6_addsRuling 71 = .ok (.iload 5, 2) := by decide +kernel
theorem dX6_addsRuling_73 : decode cX6_addsRuling 73 = .ok (.iconst 1, 1) := by decide +kernel
theorem dX6_addsRuling_74 : decode cX6_addsRuling 74 = .ok (.iadd, 1) := by decide +kernel
theorem dX6_addsRuling_75 : decode cX6_addsRuling 75 = .ok (.iastore, 1) := by decide +kernel
theorem dX6_addsRuling_76 : decode cX6_addsRuling 76 = .ok (.aload_n 0, 1) := by decide +kernel
theorem dX6_addsRuling_77 : decode cX6_addsRuling 77 = .ok (.getfield 7, 3) := by decide +kernel
theorem dX6_addsRuling_80 : decode cX6_addsRuling 80 = .ok (.iload 6, 2) := by decide +kernel
theorem dX6_addsRuling_82 : decode cX6_addsRuling 82 = .ok (.iconst 5, 1) := by decide +kernel
theorem dX6_addsRuling_83 : decode cX6_addsRuling 83 = .ok (.iadd, 1) := by decide +kernel
theorem dX6_addsRuling_84 : decode cX6_addsRuling 84 = .ok (.iconst 0, 1) := by decide +kernel
theorem dX6_addsRuling_85 : decode cX6_addsRuling 85 = .ok (.iastore, 1) := by decide +kernel
theorem dX6_addsRuling_86 : decode cX6_addsRuling 86 = .ok (.aload_n 0, 1) := by decide +kernel
theorem dX6_addsRuling_87 : decode cX6_addsRuling 87 = .ok (.getfield 7, 3) := by decide +kernel
theorem dX6_addsRuling_90 : decode cX6_addsRuling 90 = .ok (.iconst 4, 1) := by decide +kernel
theorem dX6_addsRuling_91 : decode cX6_addsRuling 91 = .ok (.dup2, 1) := by decide +kernel
theorem dX6_addsRuling_92 : decode cX6_addsRuling 92 = .ok (.iaload, 1) := by decide +kernel
theorem dX6_addsRuling_93 : decode cX6_addsRuling 93 = .ok (.iconst 1, 1) := by decide +kernel
theorem dX6_addsRuling_94 : decode cX6_addsRuling 94 = .ok (.iadd, 1) := by decide +kernel
theorem dX6_addsRuling_95 : decode cX6_addsRuling 95 = .ok (.iastore, 1) := by decide +kernel
theorem dX6_addsRuling_96 : decode cX6_addsRuling 96 = .ok (.return_, 1) := by decide +kernel
theorem dX6_isRule_0 : decode cX6_isRule 0 = .ok (.iload_n 0, 1) := by decide +kernel
theorem dX6_isRule_1 : decode cX6_isRule 1 = .ok (.invokestatic 109, 3) := by decide +kernel
theorem dX6_isRule_4 : decode cX6_isRule 4 = .ok (.ifCond .eq 24, 3) := by decide +kernel
theorem dX6_isRule_7 : decode cX6_isRule 7 = .ok (.iload_n 1, 1) := by decide +kernel
theorem dX6_isRule_8 : decode cX6_isRule 8 = .ok (.invokestatic 109, 3) := by decide +kernel
theorem dX6_isRule_11 : decode cX6_isRule 11 = .ok (.ifCond .eq 17, 3) := by decide +kernel
theorem dX6_isRule_14 : decode cX6_isRule 14 = .ok (.iload_n 2, 1) := by decide +kernel
theorem dX6_isRule_15 : decode cX6_isRule 15 = .ok (.iconst 1, 1) := by decide +kernel
theorem dX6_isRule_16 : decode cX6_isRule 16 = .ok (.bipush 20, 2) := by decide +kernel
theorem dX6_isRule_18 : decode cX6_isRule 18 = .ok (.invokestatic 42, 3) := by decide +kernel
theorem dX6_isRule_21 : decode cX6_isRule 21 = .ok (.ifCond .eq 7, 3) := by decide +kernel
theorem dX6_isRule_24 : decode cX6_isRule 24 = .ok (.iconst 1, 1) := by decide +kernel
theorem dX6_isRule_25 : decode cX6_isRule 25 = .ok (.goto 4, 3) := by decide +kernel
theorem dX6_isRule_28 : decode cX6_isRule 28 = .ok (.iconst 0, 1) := by decide +kernel
theorem dX6_isRule_29 : decode cX6_isRule 29 = .ok (.ireturn, 1) := by decide +kernel
theorem dX6_rule_0 : decode cX6_rule 0 = .ok (.iload_n 1, 1) := by decide +kernel
theorem dX6_rule_1 : decode cX6_rule 1 = .ok (.iload_n 2, 1) := by decide +kernel
theorem dX6_rule_2 : decode cX6_rule 2 = .ok (.iload 4, 2) := by decide +kernel
theorem dX6_rule_4 : decode cX6_rule 4 = .ok (.invokestatic 115, 3) := by decide +kernel
theorem dX6_rule_7 : decode cX6_rule 7 = .ok (.ifCond .eq 18, 3) := by decide +kernel
theorem dX6_rule_10 : decode cX6_rule 10 = .ok (.iload 5, 2) := by decide +kernel
theorem dX6_rule_12 : decode cX6_rule 12 = .ok (.iconst (-1), 1) := by decide +kernel
theorem dX6_rule_13 : decode cX6_rule 13 = .ok (.if_icmp .eq 14, 3) := by decide +kernel
theorem dX6_rule_16 : decode cX6_rule 16 = .ok (.aload_n 0, 1) := by decide +kernel
theorem dX6_rule_17 : decode cX6_rule 17 = .ok (.iload 5, 2) := by decide +kernel
theorem dX6_rule_19 : decode cX6_rule 19 = .ok (.invokevirtual 118, 3) := by decide +kernel
theorem dX6_rule_22 : decode cX6_rule 22 = .ok (.ifCond .ne 5, 3) := by decide +kernel
theorem dX6_rule_25 : decode cX6_rule 25 = .ok (.iconst (-1), 1) := by decide +kernel
theorem dX6_rule_26 : decode cX6_rule 26 = .ok (.ireturn, 1) := by decide +kernel
theorem dX6_rule_27 : decode cX6_rule 27 = .ok (.aload_n 0, 1) := by decide +kernel
theorem dX6_rule_28 : decode cX6_rule 28 = .ok (.getfield 7, 3) := by decide +kernel
theorem dX6_rule_31 : decode cX6_rule 31 = .ok (.iconst 4, 1) := by decide +kernel
theorem dX6_rule_32 : decode cX6_rule 32 = .ok (.iaload, 1) := by decide +kernel
theorem dX6_rule_33 : decode cX6_rule 33 = .ok (.bipush 10, 2) := by decide +kernel
theorem dX6_rule_35 : decode cX6_rule 35 = .ok (.if_icmp .ne 6, 3) := by decide +kernel
theorem dX6_rule_38 : decode cX6_rule 38 = .ok (.bipush (-3), 2) := by decide +kernel
theorem dX6_rule_40 : decode cX6_rule 40 = .ok (.ireturn, 1) := by decide +kernel
theorem dX6_rule_41 : decode cX6_rule 41 = .ok (.aload_n 0, 1) := by decide +kernel
theorem dX6_rule_42 : decode cX6_rule 42 = .ok (.invokevirtual 112, 3) := by decide +kernel
theorem dX6_rule_45 : decode cX6_rule 45 = .ok (.aload_n 0, 1) := by decide +kernel
theorem dX6_rule_46 : decode cX6_rule 46 = .ok (.iload_n 1, 1) := by decide +kernel
theorem dX6_rule_47 : decode cX6_rule 47 = .ok (.iload_n 2, 1) := by decide +kernel
theorem dX6_rule_48 : decode cX6_rule 48 = .ok (.iload_n 3, 1) := by decide +kernel
theorem dX6_rule_49 : decode cX6_rule 49 = .ok (.iload 4, 2) := by decide +kernel
theorem dX6_rule_51 : decode cX6_rule 51 = .ok (.iload 5, 2) := by decide +kernel
theorem dX6_rule_53 : decode cX6_rule 53 = .ok (.invokevirtual 121, 3) := by decide +kernel
theorem dX6_rule_56 : decode cX6_rule 56 = .ok (.aload_n 0, 1) := by decide +kernel
theorem dX6_rule_57 : decode cX6_rule 57 = .ok (.getfield 7, 3) := by decide +kernel
theorem dX6_rule_60 : decode cX6_rule 60 = .ok (.iconst 4, 1) := by decide +kernel
theorem dX6_rule_61 : decode cX6_rule 61 = .ok (.iaload, 1) := by decide +kernel
theorem dX6_rule_62 : decode cX6_rule 62 = .ok (.iconst 1, 1) := by decide +kernel
theorem dX6_rule_63 : decode cX6_rule 63 = .ok (.isub, 1) := by decide +kernel
theorem dX6_rule_64 : decode cX6_rule 64 = .ok (.ireturn, 1) := by decide +kernel
theorem dX6_overrule_0 : decode cX6_overrule 0 = .ok (.aload_n 0, 1) := by decide +kernel
theorem dX6_overrule_1 : decode cX6_overrule 1 = .ok (.iload_n 1, 1) := by decide +kernel
theorem dX6_overrule_2 : decode cX6_overrule 2 = .ok (.invokevirtual 118, 3) := by decide +kernel
theorem dX6_overrule_5 : decode cX6_overrule 5 = .ok (.ifCond .ne 5, 3) := by decide +kernel
theorem dX6_overrule_8 : decode cX6_overrule 8 = .ok (.iconst (-1), 1) := by decide +kernel
theorem dX6_overrule_9 : decode cX6_overrule 9 = .ok (.ireturn, 1) := by decide +kernel
theorem dX6_overrule_10 : decode cX6_overrule 10 = .ok (.aload_n 0, 1) := by decide +kernel
theorem dX6_overrule_11 : decode cX6_overrule 11 = .ok (.iload_n 1, 1) := by decide +kernel
theorem dX6_overrule_12 : decode cX6_overrule 12 = .ok (.iconst 5, 1) := by decide +kernel
theorem dX6_overrule_13 : decode cX6_overrule 13 = .ok (.invokevirtual 46, 3) := by decide +kernel
theorem dX6_overrule_16 : decode cX6_overrule 16 = .ok (.iconst 1, 1) := by decide +kernel
theorem dX6_overrule_17 : decode cX6_overrule 17 = .ok (.if_icmp .ne 6, 3) := by decide +kernel
theorem dX6_overrule_20 : decode cX6_overrule 20 = .ok (.bipush (-2), 2) := by decide +kernel
theorem dX6_overrule_22 : decode cX6_overrule 22 = .ok (.ireturn, 1) := by decide +kernel
theorem dX6_overrule_23 : decode cX6_overrule 23 = .ok (.aload_n 0, 1) := by decide +kernel
theorem dX6_overrule_24 : decode cX6_overrule 24 = .ok (.invokevirtual 112, 3) := by decide +kernel
theorem dX6_overrule_27 : decode cX6_overrule 27 = .ok (.aload_n 0, 1) := by decide +kernel
theorem dX6_overrule_28 : decode cX6_overrule 28 = .ok (.invokevirtual 125, 3) := by decide +kernel
theorem dX6_overrule_31 : decode cX6_overrule 31 = .ok (.istore_n 2, 1) := by decide +kernel
theorem dX6_overrule_32 : decode cX6_overrule 32 = .ok (.aload_n 0, 1) := by decide +kernel
theorem dX6_overrule_33 : decode cX6_overrule 33 = .ok (.getfield 7, 3) := by decide +kernel
theorem dX6_overrule_36 : decode cX6_overrule 36 = .ok (.bipush 13, 2) := by decide +kernel
theorem dX6_overrule_38 : decode cX6_overrule 38 = .ok (.bipush 6, 2) := by decide +kernel
theorem dX6_overrule_40 : decode cX6_overrule 40 = .ok (.iload_n 1, 1) := by decide +kernel
theorem dX6_overrule_41 : decode cX6_overrule 41 = .ok (.imul, 1) := by decide +kernel
theorem dX6_overrule_42 : decode cX6_overrule 42 = .ok (.iadd, 1) := by decide +kernel
theorem dX6_overrule_43 : decode cX6_overrule 43 = .ok (.iconst 5, 1) := by decide +kernel
theorem dX6_overrule_44 : decode cX6_overrule 44 = .ok (.iadd, 1) := by decide +kernel
theorem dX6_overrule_45 : decode cX6_overrule 45 = .ok (.iconst 1, 1) := by decide +kernel
theorem dX6_overrule_46 : decode cX6_overrule 46 = .ok (.iastore, 1) := by decide +kernel
theorem dX6_overrule_47 : decode cX6_overrule 47 = .ok (.iload_n 2, 1) := by decide +kernel
theorem dX6_overrule_48 : decode cX6_overrule 48 = .ok (.aload_n 0, 1) := by decide +kernel
theorem dX6_overrule_49 : decode cX6_overrule 49 = .ok (.invokevirtual 125, 3) := by decide +kernel
theorem dX6_overrule_52 : decode cX6_overrule 52 = .ok (.isub, 1) := by decide +kernel
theorem dX6_overrule_53 : decode cX6_overrule 53 = .ok (.ireturn, 1) := by decide +kernel
theorem dX6_drop_0 : decode cX6_drop 0 = .ok (.aload_n 0, 1) := by decide +kernel
theorem dX6_drop_1 : decode cX6_drop 1 = .ok (.iload_n 1, 1) := by decide +kernel
theorem dX6_drop_2 : decode cX6_drop 2 = .ok (.invokevirtual 57, 3) := by decide +kernel
theorem dX6_drop_5 : decode cX6_drop 5 = .ok (.ifCond .ne 5, 3) := by decide +kernel
theorem dX6_drop_8 : decode cX6_drop 8 = .ok (.iconst (-1), 1) := by decide +kernel
theorem dX6_drop_9 : decode cX6_drop 9 = .ok (.ireturn, 1) := by decide +kernel
theorem dX6_drop_10 : decode cX6_drop 10 = .ok (.aload_n 0, 1) := by decide +kernel
theorem dX6_drop_11 : decode cX6_drop 11 = .ok (.invokevirtual 112, 3) := by decide +kernel
theorem dX6_drop_14 : decode cX6_drop 14 = .ok (.aload_n 0, 1) := by decide +kernel
theorem dX6_drop_15 : decode cX6_drop 15 = .ok (.getfield 7, 3) := by decide +kernel
theorem dX6_drop_18 : decode cX6_drop 18 = .ok (.iconst 3, 1) := by decide +kernel
theorem dX6_drop_19 : decode cX6_drop 19 = .ok (.dup2, 1) := by decide +kernel
theorem dX6_drop_20 : decode cX6_drop 20 = .ok (.iaload, 1) := by decide +kernel
theorem dX6_drop_21 : decode cX6_drop 21 = .ok (.iconst 1, 1) := by decide +kernel
theorem dX6_drop_22 : decode cX6_drop 22 = .ok (.isub, 1) := by decide +kernel
theorem dX6_drop_23 : decode cX6_drop 23 = .ok (.iastore, 1) := by decide +kernel
theorem dX6_drop_24 : decode cX6_drop 24 = .ok (.bipush 73, 2) := by decide +kernel
theorem dX6_drop_26 : decode cX6_drop 26 = .ok (.bipush 16, 2) := by decide +kernel
theorem dX6_drop_28 : decode cX6_drop 28 = .ok (.iload_n 1, 1) := by decide +kernel
theorem dX6_drop_29 : decode cX6_drop 29 = .ok (.imul, 1) := by decide +kernel
theorem dX6_drop_30 : decode cX6_drop 30 = .ok (.iadd, 1) := by decide +kernel
theorem dX6_drop_31 : decode cX6_drop 31 = .ok (.istore_n 2, 1) := by decide +kernel
theorem dX6_drop_32 : decode cX6_drop 32 = .ok (.iload_n 2, 1) := by decide +kernel
theorem dX6_drop_33 : decode cX6_drop 33 = .ok (.sipush 137, 3) := by decide +kernel
theorem dX6_drop_36 : decode cX6_drop 36 = .ok (.if_icmp .ge 38, 3) := by decide +kernel
theorem dX6_drop_39 : decode cX6_drop 39 = .ok (.aload_n 0, 1) := by decide +kernel
theorem dX6_drop_40 : decode cX6_drop 40 = .ok (.getfield 7, 3) := by decide +kernel
theorem dX6_drop_43 : decode cX6_drop 43 = .ok (.iload_n 2, 1) := by decide +kernel
theorem dX6_drop_44 : decode cX6_drop 44 = .ok (.iload_n 2, 1) := by decide +kernel
theorem dX6_drop_45 : decode cX6_drop 45 = .ok (.bipush 16, 2) := by decide +kernel
theorem dX6_drop_47 : decode cX6_drop 47 = .ok (.iadd, 1) := by decide +kernel
theorem dX6_drop_48 : decode cX6_drop 48 = .ok (.sipush 137, 3) := by decide +kernel
theorem dX6_drop_51 : decode cX6_drop 51 = .ok (.if_icmp .ge 15, 3) := by decide +kernel
theorem dX6_drop_54 : decode cX6_drop 54 = .ok (.aload_n 0, 1) := by decide +kernel
theorem dX6_drop_55 : decode cX6_drop 55 = .ok (.getfield 7, 3) := by decide +kernel
theorem dX6_drop_58 : decode cX6_drop 58 = .ok (.iload_n 2, 1) := by decide +kernel
theorem dX6_drop_59 : decode cX6_drop 59 = .ok (.bipush 16, 2) := by decide +kernel
theorem dX6_drop_61 : decode cX6_drop 61 = .ok (.iadd, 1) := by decide +kernel
theorem dX6_drop_62 : decode cX6_drop 62 = .ok (.iaload, 1) := by decide +kernel
theorem dX6_drop_63 : decode cX6_drop 63 = .ok (.goto 4, 3) := by decide +kernel
theorem dX6_drop_66 : decode cX6_drop 66 = .ok (.iconst 0, 1) := by decide +kernel
theorem dX6_drop_67 : decode cX6_drop 67 = .ok (.iastore, 1) := by decide +kernel
theorem dX6_drop_68 : decode cX6_drop 68 = .ok (.iinc 2 1, 3) := by decide +kernel
theorem dX6_drop_71 : decode cX6_drop 71 = .ok (.goto (-39), 3) := by decide +kernel
theorem dX6_drop_74 : decode cX6_drop 74 = .ok (.aload_n 0, 1) := by decide +kernel
theorem dX6_drop_75 : decode cX6_drop 75 = .ok (.getfield 7, 3) := by decide +kernel
theorem dX6_drop_78 : decode cX6_drop 78 = .ok (.iconst 3, 1) := by decide +kernel
theorem dX6_drop_79 : decode cX6_drop 79 = .ok (.iaload, 1) := by decide +kernel
theorem dX6_drop_80 : decode cX6_drop 80 = .ok (.ireturn, 1) := by decide +kernel
theorem dX6_sue_0 : decode cX6_sue 0 = .ok (.aload_n 0, 1) := by decide +kernel
theorem dX6_sue_1 : decode cX6_sue 1 = .ok (.iload_n 1, 1) := by decide +kernel
theorem dX6_sue_2 : decode cX6_sue 2 = .ok (.iload_n 2, 1) := by decide +kernel
theorem dX6_sue_3 : decode cX6_sue 3 = .ok (.invokevirtual 129, 3) := by decide +kernel
theorem dX6_sue_6 : decode cX6_sue 6 = .ok (.ifCond .ne 5, 3) := by decide +kernel
theorem dX6_sue_9 : decode cX6_sue 9 = .ok (.iconst (-1), 1) := by decide +kernel
theorem dX6_sue_10 : decode cX6_sue 10 = .ok (.ireturn, 1) := by decide +kernel
theorem dX6_sue_11 : decode cX6_sue 11 = .ok (.aload_n 0, 1) := by decide +kernel
theorem dX6_sue_12 : decode cX6_sue 12 = .ok (.invokevirtual 112, 3) := by decide +kernel
theorem dX6_sue_15 : decode cX6_sue 15 = .ok (.aload_n 0, 1) := by decide +kernel
theorem dX6_sue_16 : decode cX6_sue 16 = .ok (.iload_n 1, 1) := by decide +kernel
theorem dX6_sue_17 : decode cX6_sue 17 = .ok (.iload_n 2, 1) := by decide +kernel
theorem dX6_sue_18 : decode cX6_sue 18 = .ok (.invokevirtual 132, 3) := by decide +kernel
theorem dX6_sue_21 : decode cX6_sue 21 = .ok (.ireturn, 1) := by decide +kernel
theorem dX6_stay_0 : decode cX6_stay 0 = .ok (.aload_n 0, 1) := by decide +kernel
theorem dX6_stay_1 : decode cX6_stay 1 = .ok (.iload_n 1, 1) := by decide +kernel
theorem dX6_stay_2 : decode cX6_stay 2 = .ok (.invokevirtual 57, 3) := by decide +kernel
theorem dX6_stay_5 : decode cX6_stay 5 = .ok (.ifCond .eq 13, 3) := by decide +kernel
theorem dX6_stay_8 : decode cX6_stay 8 = .ok (.iload_n 2, 1) := by decide +kernel
theorem dX6_stay_9 : decode cX6_stay 9 = .ok (.iconst 0, 1) := by decide +kernel
theorem dX6_stay_10 : decode cX6_stay 10 = .ok (.bipush 30, 2) := by decide +kernel
theorem dX6_stay_12 : decode cX6_stay 12 = .ok (.invokestatic 42, 3) := by decide +kernel
theorem dX6_stay_15 : decode cX6_stay 15 = .ok (.ifCond .ne 5, 3) := by decide +kernel
theorem dX6_stay_18 : decode cX6_stay 18 = .ok (.iconst (-1), 1) := by decide +kernel
theorem dX6_stay_19 : decode cX6_stay 19 = .ok (.ireturn, 1) := by decide +kernel
theorem dX6_stay_20 : decode cX6_stay 20 = .ok (.aload_n 0, 1) := by decide +kernel
theorem dX6_stay_21 : decode cX6_stay 21 = .ok (.invokevirtual 112, 3) := by decide +kernel
theorem dX6_stay_24 : decode cX6_stay 24 = .ok (.aload_n 0, 1) := by decide +kernel
theorem dX6_stay_25 : decode cX6_stay 25 = .ok (.iload_n 1, 1) := by decide +kernel
theorem dX6_stay_26 : decode cX6_stay 26 = .ok (.iconst 2, 1) := by decide +kernel
theorem dX6_stay_27 : decode cX6_stay 27 = .ok (.invokevirtual 60, 3) := by decide +kernel
theorem dX6_stay_30 : decode cX6_stay 30 = .ok (.istore_n 3, 1) := by decide +kernel
theorem dX6_stay_31 : decode cX6_stay 31 = .ok (.aload_n 0, 1) := by decide +kernel
theorem dX6_stay_32 : decode cX6_stay 32 = .ok (.iload_n 1, 1) := by decide +kernel
theorem dX6_stay_33 : decode cX6_stay 33 = .ok (.iconst 2, 1) := by decide +kernel
theorem dX6_stay_34 : decode cX6_stay 34 = .ok (.aload_n 0, 1) := by decide +kernel
theorem dX6_stay_35 : decode cX6_stay 35 = .ok (.getfield 7, 3) := by decide +kernel
theorem dX6_stay_38 : decode cX6_stay 38 = .ok (.iconst 0, 1) := by decide +kernel
theorem dX6_stay_39 : decode cX6_stay 39 = .ok (.iaload, 1) := by decide +kernel
theorem dX6_stay_40 : decode cX6_stay 40 = .ok (.iload_n 2, 1) := by decide +kernel
theorem dX6_stay_41 : decode cX6_stay 41 = .ok (.iadd, 1) := by decide +kernel
theorem dX6_stay_42 : decode cX6_stay 42 = .ok (.invokevirtual 105, 3) := by decide +kernel
theorem dX6_stay_45 : decode cX6_stay 45 = .ok (.iload_n 3, 1) := by decide +kernel
theorem dX6_stay_46 : decode cX6_stay 46 = .ok (.ireturn, 1) := by decide +kernel
theorem dX6_day_0 : decode cX6_day 0 = .ok (.aload_n 0, 1) := by decide +kernel
theorem dX6_day_1 : decode cX6_day 1 = .ok (.invokevirtual 112, 3) := by decide +kernel
theorem dX6_day_4 : decode cX6_day 4 = .ok (.aload_n 0, 1) := by decide +kernel
theorem dX6_day_5 : decode cX6_day 5 = .ok (.getfield 7, 3) := by decide +kernel
theorem dX6_day_8 : decode cX6_day 8 = .ok (.iconst 0, 1) := by decide +kernel
theorem dX6_day_9 : decode cX6_day 9 = .ok (.dup2, 1) := by decide +kernel
theorem dX6_day_10 : decode cX6_day 10 = .ok (.iaload, 1) := by decide +kernel
theorem dX6_day_11 : decode cX6_day 11 = .ok (.iconst 1, 1) := by decide +kernel
theorem dX6_day_12 : decode cX6_day 12 = .ok (.iadd, 1) := by decide +kernel
theorem dX6_day_13 : decode cX6_day 13 = .ok (.iastore, 1) := by decide +kernel
theorem dX6_day_14 : decode cX6_day 14 = .ok (.aload_n 0, 1) := by decide +kernel
theorem dX6_day_15 : decode cX6_day 15 = .ok (.getfield 7, 3) := by decide +kernel
theorem dX6_day_18 : decode cX6_day 18 = .ok (.iconst 0, 1) := by decide +kernel
theorem dX6_day_19 : decode cX6_day 19 = .ok (.iaload, 1) := by decide +kernel
theorem dX6_day_20 : decode cX6_day 20 = .ok (.ireturn, 1) := by decide +kernel
theorem dX6_append_0 : decode cX6_append 0 = .ok (.iload_n 1, 1) := by decide +kernel
theorem dX6_append_1 : decode cX6_append 1 = .ok (.bipush 33, 2) := by decide +kernel
theorem dX6_append_3 : decode cX6_append 3 = .ok (.bipush 126, 2) := by decide +kernel
theorem dX6_append_5 : decode cX6_append 5 = .ok (.invokestatic 42, 3) := by decide +kernel
theorem dX6_append_8 : decode cX6_append 8 = .ok (.ifCond .ne 5, 3) := by decide +kernel
theorem dX6_append_11 : decode cX6_append 11 = .ok (.iconst (-1), 1) := by decide +kernel
theorem dX6_append_12 : decode cX6_append 12 = .ok (.ireturn, 1) := by decide +kernel
theorem dX6_append_13 : decode cX6_append 13 = .ok (.aload_n 0, 1) := by decide +kernel
theorem dX6_append_14 : decode cX6_append 14 = .ok (.getfield 135, 3) := by decide +kernel
theorem dX6_append_17 : decode cX6_append 17 = .ok (.bipush 60, 2) := by decide +kernel
theorem dX6_append_19 : decode cX6_append 19 = .ok (.if_icmp .ne 6, 3) := by decide +kernel
theorem dX6_append_22 : decode cX6_append 22 = .ok (.bipush (-3), 2) := by decide +kernel
theorem dX6_append_24 : decode cX6_append 24 = .ok (.ireturn, 1) := by decide +kernel
theorem dX6_append_25 : decode cX6_append 25 = .ok (.aload_n 0, 1) := by decide +kernel
theorem dX6_append_26 : decode cX6_append 26 = .ok (.getfield 19, 3) := by decide +kernel
theorem dX6_append_29 : decode cX6_append 29 = .ok (.aload_n 0, 1) := by decide +kernel
theorem dX6_append_30 : decode cX6_append 30 = .ok (.getfield 135, 3) := by decide +kernel
theorem dX6_append_33 : decode cX6_append 33 = .ok (.iload_n 1, 1) := by decide +kernel
theorem dX6_append_34 : decode cX6_append 34 = .ok (.iastore, 1) := by decide +kernel
theorem dX6_append_35 : decode cX6_append 35 = .ok (.aload_n 0, 1) := by decide +kernel
theorem dX6_append_36 : decode cX6_append 36 = .ok (.dup, 1) := by decide +kernel
theorem dX6_append_37 : decode cX6_append 37 = .ok (.getfield 135, 3) := by decide +kernel
theorem dX6_append_40 : decode cX6_append 40 = .ok (.iconst 1, 1) := by decide +kernel
theorem dX6_append_41 : decode cX6_append 41 = .ok (.iadd, 1) := by decide +kernel
theorem dX6_append_42 : decode cX6_append 42 = .ok (.putfield 135, 3) := by decide +kernel
theorem dX6_append_45 : decode cX6_append 45 = .ok (.aload_n 0, 1) := by decide +kernel
theorem dX6_append_46 : decode cX6_append 46 = .ok (.getfield 135, 3) := by decide +kernel
theorem dX6_append_49 : decode cX6_append 49 = .ok (.ireturn, 1) := by decide +kernel
theorem dX6_clear_0 : decode cX6_clear 0 = .ok (.aload_n 0, 1) := by decide +kernel
theorem dX6_clear_1 : decode cX6_clear 1 = .ok (.getfield 135, 3) := by decide +kernel
theorem dX6_clear_4 : decode cX6_clear 4 = .ok (.istore_n 1, 1) := by decide +kernel
theorem dX6_clear_5 : decode cX6_clear 5 = .ok (.aload_n 0, 1) := by decide +kernel
theorem dX6_clear_6 : decode cX6_clear 6 = .ok (.iconst 0, 1) := by decide +kernel
theorem dX6_clear_7 : decode cX6_clear 7 = .ok (.putfield 135, 3) := by decide +kernel
theorem dX6_clear_10 : decode cX6_clear 10 = .ok (.iload_n 1, 1) := by decide +kernel
theorem dX6_clear_11 : decode cX6_clear 11 = .ok (.ireturn, 1) := by decide +kernel
theorem dX6_here_0 : decode cX6_here 0 = .ok (.aload_n 0, 1) := by decide +kernel
theorem dX6_here_1 : decode cX6_here 1 = .ok (.getfield 138, 3) := by decide +kernel
theorem dX6_here_4 : decode cX6_here 4 = .ok (.aload_n 0, 1) := by decide +kernel
theorem dX6_here_5 : decode cX6_here 5 = .ok (.getfield 135, 3) := by decide +kernel
theorem dX6_here_8 : decode cX6_here 8 = .ok (.if_icmp .ge 15, 3) := by decide +kernel
theorem dX6_here_11 : decode cX6_here 11 = .ok (.aload_n 0, 1) := by decide +kernel
theorem dX6_here_12 : decode cX6_here 12 = .ok (.getfield 19, 3) := by decide +kernel
theorem dX6_here_15 : decode cX6_here 15 = .ok (.aload_n 0, 1) := by decide +kernel
theorem dX6_here_16 : decode cX6_here 16 = .ok (.getfield 138, 3) := by decide +kernel
theorem dX6_here_19 : decode cX6_here 19 = .ok (.iaload, 1) := by decide +kernel
theorem dX6_here_20 : decode cX6_here 20 = .ok (.goto 4, 3) := by decide +kernel
theorem dX6_here_23 : decode cX6_here 23 = .ok (.iconst 0, 1) := by decide +kernel
theorem dX6_here_24 : decode cX6_here 24 = .ok (.ireturn, 1) := by decide +kernel
theorem dX6_takes_0 : decode cX6_takes 0 = .ok (.aload_n 0, 1) := by decide +kernel
theorem dX6_takes_1 : decode cX6_takes 1 = .ok (.aload_n 0, 1) := by decide +kernel
theorem dX6_takes_2 : decode cX6_takes 2 = .ok (.getfield 141, 3) := by decide +kernel
theorem dX6_takes_5 : decode cX6_takes 5 = .ok (.ifCond .eq 11, 3) := by decide +kernel
theorem dX6_takes_8 : decode cX6_takes 8 = .ok (.iload_n 1, 1) := by decide +kernel
theorem dX6_takes_9 : decode cX6_takes 9 = .ok (.ifCond .eq 7, 3) := by decide +kernel
theorem dX6_takes_12 : decode cX6_takes 12 = .ok (.iconst 1, 1) := by decide +kernel
theorem dX6_takes_13 : decode cX6_takes 13 = .ok (.goto 4, 3) := by decide +kernel
theorem dX6_takes_16 : decode cX6_takes 16 = .ok (.iconst 0, 1) := by decide +kernel
theorem dX6_takes_17 : decode cX6_takes 17 = .ok (.putfield 141, 3) := by decide +kernel
theorem dX6_takes_20 : decode cX6_takes 20 = .ok (.aload_n 0, 1) := by decide +kernel
theorem dX6_takes_21 : decode cX6_takes 21 = .ok (.dup, 1) := by decide +kernel
theorem dX6_takes_22 : decode cX6_takes 22 = .ok (.getfield 138, 3) := by decide +kernel
theorem dX6_takes_25 : decode cX6_takes 25 = .ok (.aload_n 0, 1) := by decide +kernel
theorem dX6_takes_26 : decode cX6_takes 26 = .ok (.getfield 141, 3) := by decide +kernel
theorem dX6_takes_29 : decode cX6_takes 29 = .ok (.ifCond .eq 7, 3) := by decide +kernel
theorem dX6_takes_32 : decode cX6_takes 32 = .ok (.iconst 1, 1) := by decide +kernel
theorem dX6_takes_33 : decode cX6_takes 33 = .ok (.goto 4, 3) := by decide +kernel
theorem dX6_takes_36 : decode cX6_takes 36 = .ok (.iconst 0, 1) := by decide +kernel
theorem dX6_takes_37 : decode cX6_takes 37 = .ok (.iadd, 1) := by decide +kernel
theorem dX6_takes_38 : decode cX6_takes 38 = .ok (.putfield 138, 3) := by decide +kernel
theorem dX6_takes_41 : decode cX6_takes 41 = .ok (.return_, 1) := by decide +kernel
theorem dX6_isWords_0 : decode cX6_isWords 0 = .ok (.aload_n 0, 1) := by decide +kernel
theorem dX6_isWords_1 : decode cX6_isWords 1 = .ok (.iconst 0, 1) := by decide +kernel
theorem dX6_isWords_2 : decode cX6_isWords 2 = .ok (.putfield 138, 3) := by decide +kernel
theorem dX6_isWords_5 : decode cX6_isWords 5 = .ok (.aload_n 0, 1) := by decide +kernel
theorem dX6_isWords_6 : decode cX6_isWords 6 = .ok (.iconst 1, 1) := by decide +kernel
theorem dX6_isWords_7 : decode cX6_isWords 7 = .ok (.putfield 141, 3) := by decide +kernel
theorem dX6_isWords_10 : decode cX6_isWords 10 = .ok (.aload_n 0, 1) := by decide +kernel
theorem dX6_isWords_11 : decode cX6_isWords 11 = .ok (.iconst 0, 1) := by decide +kernel
theorem dX6_isWords_12 : decode cX6_isWords 12 = .ok (.putfield 145, 3) := by decide +kernel
theorem dX6_isWords_15 : decode cX6_isWords 15 = .ok (.aload_n 0, 1) := by decide +kernel
theorem dX6_isWords_16 : decode cX6_isWords 16 = .ok (.iconst 0, 1) := by decide +kernel
theorem dX6_isWords_17 : decode cX6_isWords 17 = .ok (.putfield 148, 3) := by decide +kernel
theorem dX6_isWords_20 : decode cX6_isWords 20 = .ok (.iconst 1, 1) := by decide +kernel
theorem dX6_isWords_21 : decode cX6_isWords 21 = .ok (.istore_n 1, 1) := by decide +kernel
theorem dX6_isWords_22 : decode cX6_isWords 22 = .ok (.iload_n 1, 1) := by decide +kernel
theorem dX6_isWords_23 : decode cX6_isWords 23 = .ok (.ifCond .eq 153, 3) := by decide +kernel
theorem dX6_isWords_26 : decode cX6_isWords 26 = .ok (.aload_n 0, 1) := by decide +kernel
theorem dX6_isWords_27 : decode cX6_isWords 27 = .ok (.aload_n 0, 1) := by decide +kernel
theorem dX6_isWords_28 : decode cX6_isWords 28 = .ok (.invokevirtual 151, 3) := by decide +kernel
theorem dX6_isWords_31 : decode cX6_isWords 31 = .ok (.bipush 97, 2) := by decide +kernel
theorem dX6_isWords_33 : decode cX6_isWords 33 = .ok (.bipush 102, 2) := by decide +kernel
theorem dX6_isWords_35 : decode cX6_isWords 35 = .ok (.invokestatic 42, 3) := by decide +kernel
theorem dX6_isWords_38 : decode cX6_isWords 38 = .ok (.invokevirtual 154, 3) := by decide +kernel
theorem dX6_isWords_41 : decode cX6_isWords 41 = .ok (.aload_n 0, 1) := by decide +kernel
theorem dX6_isWords_42 : decode cX6_isWords 42 = .ok (.dup, 1) := by decide +kernel
theorem dX6_isWords_43 : decode cX6_isWords 43 = .ok (.getfield 145, 3) := by decide +kernel
theorem dX6_isWords_46 : decode cX6_isWords 46 = .ok (.aload_n 0, 1) := by decide +kernel
theorem dX6_isWords_47 : decode cX6_isWords 47 = .ok (.getfield 141, 3) := by decide +kernel
theorem dX6_isWords_50 : decode cX6_isWords 50 = .ok (.ifCond .eq 7, 3) := by decide +kernel
theorem dX6_isWords_53 : decode cX6_isWords 53 = .ok (.iconst 1, 1) := by decide +kernel
theorem dX6_isWords_54 : decode cX6_isWords 54 = .ok (.goto 4, 3) := by decide +kernel
theorem dX6_isWords_57 : decode cX6_isWords 57 = .ok (.iconst 0, 1) := by decide +kernel
theorem dX6_isWords_58 : decode cX6_isWords 58 = .ok (.iadd, 1) := by decide +kernel
theorem dX6_isWords_59 : decode cX6_isWords 59 = .ok (.putfield 145, 3) := by decide +kernel
theorem dX6_isWords_62 : decode cX6_isWords 62 = .ok (.aload_n 0, 1) := by decide +kernel
theorem dX6_isWords_63 : decode cX6_isWords 63 = .ok (.getfield 141, 3) := by decide +kernel
theorem dX6_isWords_66 : decode cX6_isWords 66 = .ok (.ifCond .eq 25, 3) := by decide +kernel
theorem dX6_isWords_69 : decode cX6_isWords 69 = .ok (.aload_n 0, 1) := by decide +kernel
theorem dX6_isWords_70 : decode cX6_isWords 70 = .ok (.getfield 145, 3) := by decide +kernel
theorem dX6_isWords_73 : decode cX6_isWords 73 = .ok (.bipush 12, 2) := by decide +kernel
theorem dX6_isWords_75 : decode cX6_isWords 75 = .ok (.if_icmp .ge 16, 3) := by decide +kernel
theorem dX6_isWords_78 : decode cX6_isWords 78 = .ok (.aload_n 0, 1) := by decide +kernel
theorem dX6_isWords_79 : decode cX6_isWords 79 = .ok (.invokevirtual 151, 3) := by decide +kernel
theorem dX6_isWords_82 : decode cX6_isWords 82 = .ok (.bipush 44, 2) := by decide +kernel
theorem dX6_isWords_84 : decode cX6_isWords 84 = .ok (.if_icmp .ne 7, 3) := by decide +kernel
theorem dX6_isWords_87 : decode cX6_isWords 87 = .ok (.iconst 1, 1) := by decide +kernel
theorem dX6_isWords_88 : decode cX6_isWords 88 = .ok (.goto 4, 3) := by decide +kernel
theorem dX6_isWords_91 : decode cX6_isWords 91 = .ok (.iconst 0, 1) := by decide +kernel
theorem dX6_isWords_92 : decode cX6_isWords 92 = .ok (.istore_n 2, 1) := by decide +kernel
theorem dX6_isWords_93 : decode cX6_isWords 93 = .ok (.aload_n 0, 1) := by decide +kernel
theorem dX6_isWords_94 : decode cX6_isWords 94 = .ok (.dup, 1) := by decide +kernel
theorem dX6_isWords_95 : decode cX6_isWords 95 = .ok (.getfield 148, 3) := by decide +kernel
theorem dX6_isWords_98 : decode cX6_isWords 98 = .ok (.iload_n 2, 1) := by decide +kernel
theorem dX6_isWords_99 : decode cX6_isWords 99 = .ok (.ifCond .eq 14, 3) := by decide +kernel
theorem dX6_isWords_102 : decode cX6_isWords 102 = .ok (.iconst 1, 1) := by decide +kernel
theorem dX6_isWords_103 : decode cX6_isWords 103 = .ok (.aload_n 0, 1) := by decide +kernel
theorem dX6_isWords_104 : decode cX6_isWords 104 = .ok (.getfield 145, 3) := by decide +kernel
theorem dX6_isWords_107 : decode cX6_isWords 107 = .ok (.iconst 1, 1) := by decide +kernel
theorem dX6_isWords_108 : decode cX6_isWords 108 = .ok (.isub, 1) := by decide +kernel
theorem dX6_isWords_109 : decode cX6_isWords 109 = .ok (.ishl, 1) := by decide +kernel
theorem dX6_isWords_110 : decode cX6_isWords 110 = .ok (.goto 4, 3) := by decide +kernel
theorem dX6_isWords_113 : decode cX6_isWords 113 = .ok (.iconst 0, 1) := by decide +kernel
theorem dX6_isWords_114 : decode cX6_isWords 114 = .ok (.ior, 1) := by decide +kernel
theorem dX6_isWords_115 : decode cX6_isWords 115 = .ok (.putfield 148, 3) := by decide +kernel
theorem dX6_isWords_118 : decode cX6_isWords 118 = .ok (.aload_n 0, 1) := by decide +kernel
theorem dX6_isWords_119 : decode cX6_isWords 119 = .ok (.dup, 1) := by decide +kernel
theorem dX6_isWords_120 : decode cX6_isWords 120 = .ok (.getfield 138, 3) := by decide +kernel
theorem dX6_isWords_123 : decode cX6_isWords 123 = .ok (.iload_n 2, 1) := by decide +kernel
theorem dX6_isWords_124 : decode cX6_isWords 124 = .ok (.ifCond .eq 7, 3) := by decide +kernel
theorem dX6_isWords_127 : decode cX6_isWords 127 = .ok (.iconst 1, 1) := by decide +kernel
theorem dX6_isWords_128 : decode cX6_isWords 128 = .ok (.goto 4, 3) := by decide +kernel
theorem dX6_isWords_131 : decode cX6_isWords 131 = .ok (.iconst 0, 1) := by decide +kernel
theorem dX6_isWords_132 : decode cX6_isWords 132 = .ok (.iadd, 1) := by decide +kernel
theorem dX6_isWords_133 : decode cX6_isWords 133 = .ok (.putfield 138, 3) := by decide +kernel
theorem dX6_isWords_136 : decode cX6_isWords 136 = .ok (.aload_n 0, 1) := by decide +kernel
theorem dX6_isWords_137 : decode cX6_isWords 137 = .ok (.getfield 141, 3) := by decide +kernel
theorem dX6_isWords_140 : decode cX6_isWords 140 = .ok (.ifCond .eq 31, 3) := by decide +kernel
theorem dX6_isWords_143 : decode cX6_isWords 143 = .ok (.iload_n 2, 1) := by decide +kernel
theorem dX6_isWords_144 : decode cX6_isWords 144 = .ok (.ifCond .ne 23, 3) := by decide +kernel
theorem dX6_isWords_147 : decode cX6_isWords 147 = .ok (.aload_n 0, 1) := by decide +kernel
theorem dX6_isWords_148 : decode cX6_isWords 148 = .ok (.getfield 145, 3) := by decide +kernel
theorem dX6_isWords_151 : decode cX6_isWords 151 = .ok (.bipush 12, 2) := by decide +kernel
theorem dX6_isWords_153 : decode cX6_isWords 153 = .ok (.if_icmp .ge 18, 3) := by decide +kernel
theorem dX6_isWords_156 : decode cX6_isWords 156 = .ok (.aload_n 0, 1) := by decide +kernel
theorem dX6_isWords_157 : decode cX6_isWords 157 = .ok (.getfield 138, 3) := by decide +kernel
theorem dX6_isWords_160 : decode cX6_isWords 160 = .ok (.aload_n 0, 1) := by decide +kernel
theorem dX6_isWords_161 : decode cX6_isWords 161 = .ok (.getfield 135, 3) := by decide +kernel
theorem dX6_isWords_164 : decode cX6_isWords 164 = .ok (.if_icmp .ge 7, 3) := by decide +kernel
theorem dX6_isWords_167 : decode cX6_isWords 167 = .ok (.iconst 1, 1) := by decide +kernel
theorem dX6_isWords_168 : decode cX6_isWords 168 = .ok (.goto 4, 3) := by decide +kernel
theorem dX6_isWords_171 : decode cX6_isWords 171 = .ok (.iconst 0, 1) := by decide +kernel
theorem dX6_isWords_172 : decode cX6_isWords 172 = .ok (.istore_n 1, 1) := by decide +kernel
theorem dX6_isWords_173 : decode cX6_isWords 173 = .ok (.goto (-151), 3) := by decide +kernel
theorem dX6_isWords_176 : decode cX6_isWords 176 = .ok (.aload_n 0, 1) := by decide +kernel
theorem dX6_isWords_177 : decode cX6_isWords 177 = .ok (.getfield 141, 3) := by decide +kernel
theorem dX6_isWords_180 : decode cX6_isWords 180 = .ok (.ifCond .eq 18, 3) := by decide +kernel
theorem dX6_isWords_183 : decode cX6_isWords 183 = .ok (.aload_n 0, 1) := by decide +kernel
theorem dX6_isWords_184 : decode cX6_isWords 184 = .ok (.getfield 138, 3) := by decide +kernel
theorem dX6_isWords_187 : decode cX6_isWords 187 = .ok (.aload_n 0, 1) := by decide +kernel
theorem dX6_isWords_188 : decode cX6_isWords 188 = .ok (.getfield 135, 3) := by decide +kernel
theorem dX6_isWords_191 : decode cX6_isWords 191 = .ok (.if_icmp .ne 7, 3) := by decide +kernel
theorem dX6_isWords_194 : decode cX6_isWords 194 = .ok (.iconst 1, 1) := by decide +kernel
theorem dX6_isWords_195 : decode cX6_isWords 195 = .ok (.goto 4, 3) := by decide +kernel
theorem dX6_isWords_198 : decode cX6_isWords 198 = .ok (.iconst 0, 1) := by decide +kernel
theorem dX6_isWords_199 : decode cX6_isWords 199 = .ok (.ireturn, 1) := by decide +kernel
theorem dX6_takesSuit_0 : decode cX6_takesSuit 0 = .ok (.aload_n 0, 1) := by decide +kernel
theorem dX6_takesSuit_1 : decode cX6_takesSuit 1 = .ok (.aload_n 0, 1) := by decide +kernel
theorem dX6_takesSuit_2 : decode cX6_takesSuit 2 = .ok (.invokevirtual 151, 3) := by decide +kernel
theorem dX6_takesSuit_5 : decode cX6_takesSuit 5 = .ok (.bipush 43, 2) := by decide +kernel
theorem dX6_takesSuit_7 : decode cX6_takesSuit 7 = .ok (.if_icmp .ne 7, 3) := by decide +kernel
theorem dX6_takesSuit_10 : decode cX6_takesSuit 10 = .ok (.iconst 1, 1) := by decide +kernel
theorem dX6_takesSuit_11 : decode cX6_takesSuit 11 = .ok (.goto 4, 3) := by decide +kernel
theorem dX6_takesSuit_14 : decode cX6_takesSuit 14 = .ok (.iconst 0, 1) := by decide +kernel
theorem dX6_takesSuit_15 : decode cX6_takesSuit 15 = .ok (.putfield 158, 3) := by decide +kernel
theorem dX6_takesSuit_18 : decode cX6_takesSuit 18 = .ok (.aload_n 0, 1) := by decide +kernel
theorem dX6_takesSuit_19 : decode cX6_takesSuit 19 = .ok (.getfield 158, 3) := by decide +kernel
theorem dX6_takesSuit_22 : decode cX6_takesSuit 22 = .ok (.ifCond .eq 14, 3) := by decide +kernel
theorem dX6_takesSuit_25 : decode cX6_takesSuit 25 = .ok (.aload_n 0, 1) := by decide +kernel
theorem dX6_takesSuit_26 : decode cX6_takesSuit 26 = .ok (.dup, 1) := by decide +kernel
theorem dX6_takesSuit_27 : decode cX6_takesSuit 27 = .ok (.getfield 138, 3) := by decide +kernel
theorem dX6_takesSuit_30 : decode cX6_takesSuit 30 = .ok (.iconst 1, 1) := by decide +kernel
theorem dX6_takesSuit_31 : decode cX6_takesSuit 31 = .ok (.iadd, 1) := by decide +kernel
theorem dX6_takesSuit_32 : decode cX6_takesSuit 32 = .ok (.putfield 138, 3) := by decide +kernel
theorem dX6_takesSuit_35 : decode cX6_takesSuit 35 = .ok (.return_, 1) := by decide +kernel
theorem dX6_takesSuit_36 : decode cX6_takesSuit 36 = .ok (.aload_n 0, 1) := by decide +kernel
theorem dX6_takesSuit_37 : decode cX6_takesSuit 37 = .ok (.aload_n 0, 1) := by decide +kernel
theorem dX6_takesSuit_38 : decode cX6_takesSuit 38 = .ok (.invokevirtual 151, 3) := by decide +kernel
theorem dX6_takesSuit_41 : decode cX6_takesSuit 41 = .ok (.bipush 48, 2) := by decide +kernel
theorem dX6_takesSuit_43 : decode cX6_takesSuit 43 = .ok (.isub, 1) := by decide +kernel
theorem dX6_takesSuit_44 : decode cX6_takesSuit 44 = .ok (.putfield 161, 3) := by decide +kernel
theorem dX6_takesSuit_47 : decode cX6_takesSuit 47 = .ok (.aload_n 0, 1) := by decide +kernel
theorem dX6_takesSuit_48 : decode cX6_takesSuit 48 = .ok (.aload_n 0, 1) := by decide +kernel
theorem dX6_takesSuit_49 : decode cX6_takesSuit 49 = .ok (.getfield 161, 3) := by decide +kernel
theorem dX6_takesSuit_52 : decode cX6_takesSuit 52 = .ok (.iconst 0, 1) := by decide +kernel
theorem dX6_takesSuit_53 : decode cX6_takesSuit 53 = .ok (.iconst 3, 1) := by decide +kernel
theorem dX6_takesSuit_54 : decode cX6_takesSuit 54 = .ok (.invokestatic 42, 3) := by decide +kernel
theorem dX6_takesSuit_57 : decode cX6_takesSuit 57 = .ok (.invokevirtual 154, 3) := by decide +kernel
theorem dX6_takesSuit_60 : decode cX6_takesSuit 60 = .ok (.aload_n 0, 1) := by decide +kernel
theorem dX6_takesSuit_61 : decode cX6_takesSuit 61 = .ok (.aload_n 0, 1) := by decide +kernel
theorem dX6_takesSuit_62 : decode cX6_takesSuit 62 = .ok (.invokevirtual 151, 3) := by decide +kernel
theorem dX6_takesSuit_65 : decode cX6_takesSuit 65 = .ok (.bipush 58, 2) := by decide +kernel
theorem dX6_takesSuit_67 : decode cX6_takesSuit 67 = .ok (.if_icmp .ne 7, 3) := by decide +kernel
theorem dX6_takesSuit_70 : decode cX6_takesSuit 70 = .ok (.iconst 1, 1) := by decide +kernel
theorem dX6_takesSuit_71 : decode cX6_takesSuit 71 = .ok (.goto 4, 3) := by decide +kernel
theorem dX6_takesSuit_74 : decode cX6_takesSuit 74 = .ok (.iconst 0, 1) := by decide +kernel
theorem dX6_takesSuit_75 : decode cX6_takesSuit 75 = .ok (.invokevirtual 154, 3) := by decide +kernel
theorem dX6_takesSuit_78 : decode cX6_takesSuit 78 = .ok (.aload_n 0, 1) := by decide +kernel
theorem dX6_takesSuit_79 : decode cX6_takesSuit 79 = .ok (.aload_n 0, 1) := by decide +kernel
theorem dX6_takesSuit_80 : decode cX6_takesSuit 80 = .ok (.invokevirtual 151, 3) := by decide +kernel
theorem dX6_takesSuit_83 : decode cX6_takesSuit 83 = .ok (.bipush 48, 2) := by decide +kernel
theorem dX6_takesSuit_85 : decode cX6_takesSuit 85 = .ok (.isub, 1) := by decide +kernel
theorem dX6_takesSuit_86 : decode cX6_takesSuit 86 = .ok (.putfield 164, 3) := by decide +kernel
theorem dX6_takesSuit_89 : decode cX6_takesSuit 89 = .ok (.aload_n 0, 1) := by decide +kernel
theorem dX6_takesSuit_90 : decode cX6_takesSuit 90 = .ok (.aload_n 0, 1) := by decide +kernel
theorem dX6_takesSuit_91 : decode cX6_takesSuit 91 = .ok (.getfield 164, 3) := by decide +kernel
theorem dX6_takesSuit_94 : decode cX6_takesSuit 94 = .ok (.iconst 0, 1) := by decide +kernel
theorem dX6_takesSuit_95 : decode cX6_takesSuit 95 = .ok (.bipush 9, 2) := by decide +kernel
theorem dX6_takesSuit_97 : decode cX6_takesSuit 97 = .ok (.invokestatic 42, 3) := by decide +kernel
theorem dX6_takesSuit_100 : decode cX6_takesSuit 100 = .ok (.invokevirtual 154, 3) := by decide +kernel
theorem dX6_takesSuit_103 : decode cX6_takesSuit 103 = .ok (.aload_n 0, 1) := by decide +kernel
theorem dX6_takesSuit_104 : decode cX6_takesSuit 104 = .ok (.getfield 141, 3) := by decide +kernel
theorem dX6_takesSuit_107 : decode cX6_takesSuit 107 = .ok (.ifCond .eq 36, 3) := by decide +kernel
theorem dX6_takesSuit_110 : decode cX6_takesSuit 110 = .ok (.aload_n 0, 1) := by decide +kernel
theorem dX6_takesSuit_111 : decode cX6_takesSuit 111 = .ok (.getfield 164, 3) := by decide +kernel
theorem dX6_takesSuit_114 : decode cX6_takesSuit 114 = .ok (.iconst 1, 1) := by decide +kernel
theorem dX6_takesSuit_115 : decode cX6_takesSuit 115 = .ok (.if_icmp .ne 28, 3) := by decide +kernel
theorem dX6_takesSuit_118 : decode cX6_takesSuit 118 = .ok (.aload_n 0, 1) := by decide +kernel
theorem dX6_takesSuit_119 : decode cX6_takesSuit 119 = .ok (.invokevirtual 151, 3) := by decide +kernel
theorem dX6_takesSuit_122 : decode cX6_takesSuit 122 = .ok (.bipush 48, 2) := by decide +kernel
theorem dX6_takesSuit_124 : decode cX6_takesSuit 124 = .ok (.if_icmp .ne 19, 3) := by decide +kernel
theorem dX6_takesSuit_127 : decode cX6_takesSuit 127 = .ok (.aload_n 0, 1) := by decide +kernel
theorem dX6_takesSuit_128 : decode cX6_takesSuit 128 = .ok (.dup, 1) := by decide +kernel
theorem dX6_takesSuit_129 : decode cX6_takesSuit 129 = .ok (.getfield 138, 3) := by decide +kernel
theorem dX6_takesSuit_132 : decode cX6_takesSuit 132 = .ok (.iconst 1, 1) := by decide +kernel
theorem dX6_takesSuit_133 : decode cX6_takesSuit 133 = .ok (.iadd, 1) := by decide +kernel
theorem dX6_takesSuit_134 : decode cX6_takesSuit 134 = .ok (.putfield 138, 3) := by decide +kernel
theorem dX6_takesSuit_137 : decode cX6_takesSuit 137 = .ok (.aload_n 0, 1) := by decide +kernel
theorem dX6_takesSuit_138 : decode cX6_takesSuit 138 = .ok (.bipush 10, 2) := by decide +kernel
theorem dX6_takesSuit_140 : decode cX6_takesSuit 140 = .ok (.putfield 164, 3) := by decide +kernel
theorem dX6_takesSuit_143 : decode cX6_takesSuit 143 = .ok (.return_, 1) := by decide +kernel
theorem dX6_areSuits_0 : decode cX6_areSuits 0 = .ok (.aload_n 0, 1) := by decide +kernel
theorem dX6_areSuits_1 : decode cX6_areSuits 1 = .ok (.iconst 0, 1) := by decide +kernel
theorem dX6_areSuits_2 : decode cX6_areSuits 2 = .ok (.putfield 138, 3) := by decide +kernel
theorem dX6_areSuits_5 : decode cX6_areSuits 5 = .ok (.aload_n 0, 1) := by decide +kernel
theorem dX6_areSuits_6 : decode cX6_areSuits 6 = .ok (.iconst 1, 1) := by decide +kernel
theorem dX6_areSuits_7 : decode cX6_areSuits 7 = .ok (.putfield 141, 3) := by decide +kernel
theorem dX6_areSuits_10 : decode cX6_areSuits 10 = .ok (.aload_n 0, 1) := by decide +kernel
theorem dX6_areSuits_11 : decode cX6_areSuits 11 = .ok (.invokevirtual 167, 3) := by decide +kernel
theorem dX6_areSuits_14 : decode cX6_areSuits 14 = .ok (.aload_n 0, 1) := by decide +kernel
theorem dX6_areSuits_15 : decode cX6_areSuits 15 = .ok (.getfield 141, 3) := by decide +kernel
theorem dX6_areSuits_18 : decode cX6_areSuits 18 = .ok (.ifCond .eq 46, 3) := by decide +kernel
theorem dX6_areSuits_21 : decode cX6_areSuits 21 = .ok (.aload_n 0, 1) := by decide +kernel
theorem dX6_areSuits_22 : decode cX6_areSuits 22 = .ok (.getfield 138, 3) := by decide +kernel
theorem dX6_areSuits_25 : decode cX6_areSuits 25 = .ok (.aload_n 0, 1) := by decide +kernel
theorem dX6_areSuits_26 : decode cX6_areSuits 26 = .ok (.getfield 135, 3) := by decide +kernel
theorem dX6_areSuits_29 : decode cX6_areSuits 29 = .ok (.if_icmp .ge 35, 3) := by decide +kernel
theorem dX6_areSuits_32 : decode cX6_areSuits 32 = .ok (.aload_n 0, 1) := by decide +kernel
theorem dX6_areSuits_33 : decode cX6_areSuits 33 = .ok (.aload_n 0, 1) := by decide +kernel
theorem dX6_areSuits_34 : decode cX6_areSuits 34 = .ok (.invokevirtual 151, 3) := by decide +kernel
theorem dX6_areSuits_37 : decode cX6_areSuits 37 = .ok (.bipush 59, 2) := by decide +kernel
theorem dX6_areSuits_39 : decode cX6_areSuits 39 = .ok (.if_icmp .ne 7, 3) := by decide +kernel
theorem dX6_areSuits_42 : decode cX6_areSuits 42 = .ok (.iconst 1, 1) := by decide +kernel
theorem dX6_areSuits_43 : decode cX6_areSuits 43 = .ok (.goto 4, 3) := by decide +kernel
theorem dX6_areSuits_46 : decode cX6_areSuits 46 = .ok (.iconst 0, 1) := by decide +kernel
theorem dX6_areSuits_47 : decode cX6_areSuits 47 = .ok (.invokevirtual 154, 3) := by decide +kernel
theorem dX6_areSuits_50 : decode cX6_areSuits 50 = .ok (.aload_n 0, 1) := by decide +kernel
theorem dX6_areSuits_51 : decode cX6_areSuits 51 = .ok (.getfield 141, 3) := by decide +kernel
theorem dX6_areSuits_54 : decode cX6_areSuits 54 = .ok (.ifCond .eq (-40), 3) := by decide +kernel
theorem dX6_areSuits_57 : decode cX6_areSuits 57 = .ok (.aload_n 0, 1) := by decide +kernel
theorem dX6_areSuits_58 : decode cX6_areSuits 58 = .ok (.invokevirtual 167, 3) := by decide +kernel
theorem dX6_areSuits_61 : decode cX6_areSuits 61 = .ok (.goto (-47), 3) := by decide +kernel
theorem dX6_areSuits_64 : decode cX6_areSuits 64 = .ok (.aload_n 0, 1) := by decide +kernel
theorem dX6_areSuits_65 : decode cX6_areSuits 65 = .ok (.getfield 141, 3) := by decide +kernel
theorem dX6_areSuits_68 : decode cX6_areSuits 68 = .ok (.ireturn, 1) := by decide +kernel
theorem dX6_fault_0 : decode cX6_fault 0 = .ok (.iload_n 1, 1) := by decide +kernel
theorem dX6_fault_1 : decode cX6_fault 1 = .ok (.iconst 0, 1) := by decide +kernel
theorem dX6_fault_2 : decode cX6_fault 2 = .ok (.iconst 1, 1) := by decide +kernel
theorem dX6_fault_3 : decode cX6_fault 3 = .ok (.invokestatic 42, 3) := by decide +kernel
theorem dX6_fault_6 : decode cX6_fault 6 = .ok (.ifCond .ne 5, 3) := by decide +kernel
theorem dX6_fault_9 : decode cX6_fault 9 = .ok (.iconst (-1), 1) := by decide +kernel
theorem dX6_fault_10 : decode cX6_fault 10 = .ok (.ireturn, 1) := by decide +kernel
theorem dX6_fault_11 : decode cX6_fault 11 = .ok (.iload_n 1, 1) := by decide +kernel
theorem dX6_fault_12 : decode cX6_fault 12 = .ok (.ifCond .ne 13, 3) := by decide +kernel
theorem dX6_fault_15 : decode cX6_fault 15 = .ok (.aload_n 0, 1) := by decide +kernel
theorem dX6_fault_16 : decode cX6_fault 16 = .ok (.invokevirtual 170, 3) := by decide +kernel
theorem dX6_fault_19 : decode cX6_fault 19 = .ok (.ifCond .eq 18, 3) := by decide +kernel
theorem dX6_fault_22 : decode cX6_fault 22 = .ok (.goto 10, 3) := by decide +kernel
theorem dX6_fault_25 : decode cX6_fault 25 = .ok (.aload_n 0, 1) := by decide +kernel
theorem dX6_fault_26 : decode cX6_fault 26 = .ok (.invokevirtual 174, 3) := by decide +kernel
theorem dX6_fault_29 : decode cX6_fault 29 = .ok (.ifCond .eq 8, 3) := by decide +kernel
theorem dX6_fault_32 : decode cX6_fault 32 = .ok (.bipush (-4), 2) := by decide +kernel
theorem dX6_fault_34 : decode cX6_fault 34 = .ok (.goto 7, 3) := by decide +kernel
theorem dX6_fault_37 : decode cX6_fault 37 = .ok (.aload_n 0, 1) := by decide +kernel
theorem dX6_fault_38 : decode cX6_fault 38 = .ok (.getfield 138, 3) := by decide +kernel
theorem dX6_fault_41 : decode cX6_fault 41 = .ok (.ireturn, 1) := by decide +kernel
theorem dX6_laysEdition_0 : decode cX6_laysEdition 0 = .ok (.aload_n 0, 1) := by decide +kernel
theorem dX6_laysEdition_1 : decode cX6_laysEdition 1 = .ok (.getfield 7, 3) := by decide +kernel
theorem dX6_laysEdition_4 : decode cX6_laysEdition 4 = .ok (.iconst 3, 1) := by decide +kernel
theorem dX6_laysEdition_5 : decode cX6_laysEdition 5 = .ok (.iaload, 1) := by decide +kernel
theorem dX6_laysEdition_6 : decode cX6_laysEdition 6 = .ok (.istore_n 1, 1) := by decide +kernel
theorem dX6_laysEdition_7 : decode cX6_laysEdition 7 = .ok (.bipush 73, 2) := by decide +kernel
theorem dX6_laysEdition_9 : decode cX6_laysEdition 9 = .ok (.bipush 16, 2) := by decide +kernel
theorem dX6_laysEdition_11 : decode cX6_laysEdition 11 = .ok (.iload_n 1, 1) := by decide +kernel
theorem dX6_laysEdition_12 : decode cX6_laysEdition 12 = .ok (.imul, 1) := by decide +kernel
theorem dX6_laysEdition_13 : decode cX6_laysEdition 13 = .ok (.iadd, 1) := by decide +kernel
theorem dX6_laysEdition_14 : decode cX6_laysEdition 14 = .ok (.istore_n 2, 1) := by decide +kernel
theorem dX6_laysEdition_15 : decode cX6_laysEdition 15 = .ok (.iconst 0, 1) := by decide +kernel
theorem dX6_laysEdition_16 : decode cX6_laysEdition 16 = .ok (.istore_n 3, 1) := by decide +kernel
theorem dX6_laysEdition_17 : decode cX6_laysEdition 17 = .ok (.iconst 0, 1) := by decide +kernel
theorem dX6_laysEdition_18 : decode cX6_laysEdition 18 = .ok (.istore 4, 2) := by decide +kernel
theorem dX6_laysEdition_20 : decode cX6_laysEdition 20 = .ok (.iload 4, 2) := by decide +kernel
theorem dX6_laysEdition_22 : decode cX6_laysEdition 22 = .ok (.bipush 16, 2) := by decide +kernel
theorem dX6_laysEdition_24 : decode cX6_laysEdition 24 = .ok (.if_icmp .ge 19, 3) := by decide +kernel
theorem dX6_laysEdition_27 : decode cX6_laysEdition 27 = .ok (.aload_n 0, 1) := by decide +kernel
theorem dX6_laysEdition_28 : decode cX6_laysEdition 28 = .ok (.getfield 7, 3) := by decide +kernel
theorem dX6_laysEdition_31 : decode cX6_laysEdition 31 = .ok (.iload_n 2, 1) := by decide +kernel
theorem dX6_laysEdition_32 : decode cX6_laysEdition 32 = .ok (.iload 4, 2) := by decide +kernel
theorem dX6_laysEdition_34 : decode cX6_laysEdition 34 = .ok (.iadd, 1) := by decide +kernel
theorem dX6_laysEdition_35 : decode cX6_laysEdition 35 = .ok (.iconst 0, 1) := by decide +kernel
theorem dX6_laysEdition_36 : decode cX6_laysEdition 36 = .ok (.iastore, 1) := by decide +kernel
theorem dX6_laysEdition_37 : decode cX6_laysEdition 37 = .ok (.iinc 4 1, 3) := by decide +kernel
theorem dX6_laysEdition_40 : decode cX6_laysEdition 40 = .ok (.goto (-20), 3) := by decide +kernel
theorem dX6_laysEdition_43 : decode cX6_laysEdition 43 = .ok (.iconst 0, 1) := by decide +kernel
theorem dX6_laysEdition_44 : decode cX6_laysEdition 44 = .ok (.istore 4, 2) := by decide +kernel
theorem dX6_laysEdition_46 : decode cX6_laysEdition 46 = .ok (.iload 4, 2) := by decide +kernel
theorem dX6_laysEdition_48 : decode cX6_laysEdition 48 = .ok (.aload_n 0, 1) := by decide +kernel
theorem dX6_laysEdition_49 : decode cX6_laysEdition 49 = .ok (.getfield 135, 3) := by decide +kernel
theorem dX6_laysEdition_52 : decode cX6_laysEdition 52 = .ok (.if_icmp .ge 42, 3) := by decide +kernel
theorem dX6_laysEdition_55 : decode cX6_laysEdition 55 = .ok (.aload_n 0, 1) := by decide +kernel
theorem dX6_laysEdition_56 : decode cX6_laysEdition 56 = .ok (.getfield 19, 3) := by decide +kernel
theorem dX6_laysEdition_59 : decode cX6_laysEdition 59 = .ok (.iload 4, 2) := by decide +kernel
theorem dX6_laysEdition_61 : decode cX6_laysEdition 61 = .ok (.iaload, 1) := by decide +kernel
theorem dX6_laysEdition_62 : decode cX6_laysEdition 62 = .ok (.bipush 44, 2) := by decide +kernel
theorem dX6_laysEdition_64 : decode cX6_laysEdition 64 = .ok (.if_icmp .eq 24, 3) := by decide +kernel
theorem dX6_laysEdition_67 : decode cX6_laysEdition 67 = .ok (.aload_n 0, 1) := by decide +kernel
theorem dX6_laysEdition_68 : decode cX6_laysEdition 68 = .ok (.iload_n 1, 1) := by decide +kernel
theorem dX6_laysEdition_69 : decode cX6_laysEdition 69 = .ok (.iconst 4, 1) := by decide +kernel
theorem dX6_laysEdition_70 : decode cX6_laysEdition 70 = .ok (.iload_n 3, 1) := by decide +kernel
theorem dX6_laysEdition_71 : decode cX6_laysEdition 71 = .ok (.iadd, 1) := by decide +kernel
theorem dX6_laysEdition_72 : decode cX6_laysEdition 72 = .ok (.aload_n 0, 1) := by decide +kernel
theorem dX6_laysEdition_73 : decode cX6_laysEdition 73 = .ok (.getfield 19, 3) := by decide +kernel
theorem dX6_laysEdition_76 : decode cX6_laysEdition 76 = .ok (.iload 4, 2) := by decide +kernel
theorem dX6_laysEdition_78 : decode cX6_laysEdition 78 = .ok (.iaload, 1) := by decide +kernel
theorem dX6_laysEdition_79 : decode cX6_laysEdition 79 = .ok (.bipush 97, 2) := by decide +kernel
theorem dX6_laysEdition_81 : decode cX6_laysEdition 81 = .ok (.isub, 1) := by decide +kernel
theorem dX6_laysEdition_82 : decode cX6_laysEdition 82 = .ok (.invokevirtual 105, 3) := by decide +kernel
theorem dX6_laysEdition_85 : decode cX6_laysEdition 85 = .ok (.iinc 3 1, 3) := by decide +kernel
theorem dX6_laysEdition_88 : decode cX6_laysEdition 88 = .ok (.iinc 4 1, 3) := by decide +kernel
theorem dX6_laysEdition_91 : decode cX6_laysEdition 91 = .ok (.goto (-45), 3) := by decide +kernel
theorem dX6_laysEdition_94 : decode cX6_laysEdition 94 = .ok (.aload_n 0, 1) := by decide +kernel
theorem dX6_laysEdition_95 : decode cX6_laysEdition 95 = .ok (.iload_n 1, 1) := by decide +kernel
theorem dX6_laysEdition_96 : decode cX6_laysEdition 96 = .ok (.iconst 0, 1) := by decide +kernel
theorem dX6_laysEdition_97 : decode cX6_laysEdition 97 = .ok (.aload_n 0, 1) := by decide +kernel
theorem dX6_laysEdition_98 : decode cX6_laysEdition 98 = .ok (.getfield 145, 3) := by decide +kernel
theorem dX6_laysEdition_101 : decode cX6_laysEdition 101 = .ok (.invokevirtual 105, 3) := by decide +kernel
theorem dX6_laysEdition_104 : decode cX6_laysEdition 104 = .ok (.aload_n 0, 1) := by decide +kernel
theorem dX6_laysEdition_105 : decode cX6_laysEdition 105 = .ok (.iload_n 1, 1) := by decide +kernel
theorem dX6_laysEdition_106 : decode cX6_laysEdition 106 = .ok (.iconst 1, 1) := by decide +kernel
theorem dX6_laysEdition_107 : decode cX6_laysEdition 107 = .ok (.aload_n 0, 1) := by decide +kernel
theorem dX6_laysEdition_108 : decode cX6_laysEdition 108 = .ok (.getfield 148, 3) := by decide +kernel
theorem dX6_laysEdition_111 : decode cX6_laysEdition 111 = .ok (.invokevirtual 105, 3) := by decide +kernel
theorem dX6_laysEdition_114 : decode cX6_laysEdition 114 = .ok (.iload_n 1, 1) := by decide +kernel
theorem dX6_laysEdition_115 : decode cX6_laysEdition 115 = .ok (.ireturn, 1) := by decide +kernel
theorem dX6_isPrinted_0 : decode cX6_isPrinted 0 = .ok (.iconst 0, 1) := by decide +kernel
theorem dX6_isPrinted_1 : decode cX6_isPrinted 1 = .ok (.istore_n 1, 1) := by decide +kernel
theorem dX6_isPrinted_2 : decode cX6_isPrinted 2 = .ok (.iconst 0, 1) := by decide +kernel
theorem dX6_isPrinted_3 : decode cX6_isPrinted 3 = .ok (.istore_n 2, 1) := by decide +kernel
theorem dX6_isPrinted_4 : decode cX6_isPrinted 4 = .ok (.iload_n 2, 1) := by decide +kernel
theorem dX6_isPrinted_5 : decode cX6_isPrinted 5 = .ok (.aload_n 0, 1) := by decide +kernel
theorem dX6_isPrinted_6 : decode cX6_isPrinted 6 = .ok (.getfield 7, 3) := by decide +kernel
theorem dX6_isPrinted_9 : decode cX6_isPrinted 9 = .ok (.iconst 3, 1) := by decide +kernel
theorem dX6_isPrinted_10 : decode cX6_isPrinted 10 = .ok (.iaload, 1) := by decide +kernel
theorem dX6_isPrinted_11 : decode cX6_isPrinted 11 = .ok (.if_icmp .ge 140, 3) := by decide +kernel
theorem dX6_isPrinted_14 : decode cX6_isPrinted 14 = .ok (.aload_n 0, 1) := by decide +kernel
theorem dX6_isPrinted_15 : decode cX6_isPrinted 15 = .ok (.iload_n 2, 1) := by decide +kernel
theorem dX6_isPrinted_16 : decode cX6_isPrinted 16 = .ok (.iconst 0, 1) := by decide +kernel
theorem dX6_isPrinted_17 : decode cX6_isPrinted 17 = .ok (.invokevirtual 60, 3) := by decide +kernel
theorem dX6_isPrinted_20 : decode cX6_isPrinted 20 = .ok (.aload_n 0, 1) := by decide +kernel
theorem dX6_isPrinted_21 : decode cX6_isPrinted 21 = .ok (.getfield 145, 3) := by decide +kernel
theorem dX6_isPrinted_24 : decode cX6_isPrinted 24 = .ok (.if_icmp .ne 20, 3) := by decide +kernel
theorem dX6_isPrinted_27 : decode cX6_isPrinted 27 = .ok (.aload_n 0, 1) := by decide +kernel
theorem dX6_isPrinted_28 : decode cX6_isPrinted 28 = .ok (.iload_n 2, 1) := by decide +kernel
theorem dX6_isPrinted_29 : decode cX6_isPrinted 29 = .ok (.iconst 1, 1) := by decide +kernel
theorem dX6_isPrinted_30 : decode cX6_isPrinted 30 = .ok (.invokevirtual 60, 3) := by decide +kernel
theorem dX6_isPrinted_33 : decode cX6_isPrinted 33 = .ok (.aload_n 0, 1) := by decide +kernel
theorem dX6_isPrinted_34 : decode cX6_isPrinted 34 = .ok (.getfield 148, 3) := by decide +kernel
theorem dX6_isPrinted_37 : decode cX6_isPrinted 37 = .ok (.if_icmp .ne 7, 3) := by decide +kernel
theorem dX6_isPrinted_40 : decode cX6_isPrinted 40 = .ok (.iconst 1, 1) := by decide +kernel
theorem dX6_isPrinted_41 : decode cX6_isPrinted 41 = .ok (.goto 4, 3) := by decide +kernel
theorem dX6_isPrinted_44 : decode cX6_isPrinted 44 = .ok (.iconst 0, 1) := by decide +kernel
theorem dX6_isPrinted_45 : decode cX6_isPrinted 45 = .ok (.istore_n 3, 1) := by decide +kernel
theorem dX6_isPrinted_46 : decode cX6_isPrinted 46 = .ok (.iconst 0, 1) := by decide +kernel
theorem dX6_isPrinted_47 : decode cX6_isPrinted 47 = .ok (.istore 4, 2) := by decide +kernel
theorem dX6_isPrinted_49 : decode cX6_isPrinted 49 = .ok (.iconst 0, 1) := by decide +kernel
theorem dX6_isPrinted_50 : decode cX6_isPrinted 50 = .ok (.istore 5, 2) := by decide +kernel
theorem dX6_isPrinted_52 : decode cX6_isPrinted 52 = .ok (.iload 5, 2) := by decide +kernel
theorem dX6_isPrinted_54 : decode cX6_isPrinted 54 = .ok (.aload_n 0, 1) := by decide +kernel
theorem dX6_isPrinted_55 : decode cX6_isPrinted 55 = .ok (.getfield 135, 3) := by decide +kernel
theorem dX6_isPrinted_58 : decode cX6_isPrinted 58 = .ok (.if_icmp .ge 73, 3) := by decide +kernel
theorem dX6_isPrinted_61 : decode cX6_isPrinted 61 = .ok (.iload_n 3, 1) := by decide +kernel
theorem dX6_isPrinted_62 : decode cX6_isPrinted 62 = .ok (.ifCond .eq 39, 3) := by decide +kernel
theorem dX6_isPrinted_65 : decode cX6_isPrinted 65 = .ok (.aload_n 0, 1) := by decide +kernel
theorem dX6_isPrinted_66 : decode cX6_isPrinted 66 = .ok (.getfield 19, 3) := by decide +kernel
theorem dX6_isPrinted_69 : decode cX6_isPrinted 69 = .ok (.iload 5, 2) := by decide +kernel
theorem dX6_isPrinted_71 : decode cX6_isPrinted 71 = .ok (.iaload, 1) := by decide +kernel
theorem dX6_isPrinted_72 : decode cX6_isPrinted 72 = .ok (.bipush 44, 2) := by decide +kernel
theorem dX6_isPrinted_74 : decode cX6_isPrinted 74 = .ok (.if_icmp .eq 23, 3) := by decide +kernel
theorem dX6_isPrinted_77 : decode cX6_isPrinted 77 = .ok (.aload_n 0, 1) := by decide +kernel
theorem dX6_isPrinted_78 : decode cX6_isPrinted 78 = .ok (.iload_n 2, 1) := by decide +kernel
theorem dX6_isPrinted_79 : decode cX6_isPrinted 79 = .ok (.iload 4, 2) := by decide +kernel
theorem dX6_isPrinted_81 : decode cX6_isPrinted 81 = .ok (.invokevirtual 63, 3) := by decide +kernel
theorem dX6_isPrinted_84 : decode cX6_isPrinted 84 = .ok (.aload_n 0, 1) := by decide +kernel
theorem dX6_isPrinted_85 : decode cX6_isPrinted 85 = .ok (.getfield 19, 3) := by decide +kernel
theorem dX6_isPrinted_88 : decode cX6_isPrinted 88 = .ok (.iload 5, 2) := by decide +kernel
theorem dX6_isPrinted_90 : decode cX6_isPrinted 90 = .ok (.iaload, 1) := by decide +kernel
theorem dX6_isPrinted_91 : decode cX6_isPrinted 91 = .ok (.bipush 97, 2) := by decide +kernel
theorem dX6_isPrinted_93 : decode cX6_isPrinted 93 = .ok (.isub, 1) := by decide +kernel
theorem dX6_isPrinted_94 : decode cX6_isPrinted 94 = .ok (.if_icmp .ne 7, 3) := by decide +kernel
theorem dX6_isPrinted_97 : decode cX6_isPrinted 97 = .ok (.iconst 1, 1) := by decide +kernel
theorem dX6_isPrinted_98 : decode cX6_isPrinted 98 = .ok (.goto 4, 3) := by decide +kernel
theorem dX6_isPrinted_101 : decode cX6_isPrinted 101 = .ok (.iconst 0, 1) := by decide +kernel
theorem dX6_isPrinted_102 : decode cX6_isPrinted 102 = .ok (.istore_n 3, 1) := by decide +kernel
theorem dX6_isPrinted_103 : decode cX6_isPrinted 103 = .ok (.iload 4, 2) := by decide +kernel
theorem dX6_isPrinted_105 : decode cX6_isPrinted 105 = .ok (.aload_n 0, 1) := by decide +kernel
theorem dX6_isPrinted_106 : decode cX6_isPrinted 106 = .ok (.getfield 19, 3) := by decide +kernel
theorem dX6_isPrinted_109 : decode cX6_isPrinted 109 = .ok (.iload 5, 2) := by decide +kernel
theorem dX6_isPrinted_111 : decode cX6_isPrinted 111 = .ok (.iaload, 1) := by decide +kernel
theorem dX6_isPrinted_112 : decode cX6_isPrinted 112 = .ok (.bipush 44, 2) := by decide +kernel
theorem dX6_isPrinted_114 : decode cX6_isPrinted 114 = .ok (.if_icmp .ne 7, 3) := by decide +kernel
theorem dX6_isPrinted_117 : decode cX6_isPrinted 117 = .ok (.iconst 0, 1) := by decide +kernel
theorem dX6_isPrinted_118 : decode cX6_isPrinted 118 = .ok (.goto 4, 3) := by decide +kernel
theorem dX6_isPrinted_121 : decode cX6_isPrinted 121 = .ok (.iconst 1, 1) := by decide +kernel
theorem dX6_isPrinted_122 : decode cX6_isPrinted 122 = .ok (.iadd, 1) := by decide +kernel
theorem dX6_isPrinted_123 : decode cX6_isPrinted 123 = .ok (.istore 4, 2) := by decide +kernel
theorem dX6_isPrinted_125 : decode cX6_isPrinted 125 = .ok (.iinc 5 1, 3) := by decide +kernel
theorem dX6_isPrinted_128 : decode cX6_isPrinted 128 = .ok (.goto (-76), 3) := by decide +kernel
theorem dX6_isPrinted_131 : decode cX6_isPrinted 131 = .ok (.iload_n 1, 1) := by decide +kernel
theorem dX6_isPrinted_132 : decode cX6_isPrinted 132 = .ok (.ifCond .ne 7, 3) := by decide +kernel
theorem dX6_isPrinted_135 : decode cX6_isPrinted 135 = .ok (.iload_n 3, 1) := by decide +kernel
theorem dX6_isPrinted_136 : decode cX6_isPrinted 136 = .ok (.ifCond .eq 7, 3) := by decide +kernel
theorem dX6_isPrinted_139 : decode cX6_isPrinted 139 = .ok (.iconst 1, 1) := by decide +kernel
theorem dX6_isPrinted_140 : decode cX6_isPrinted 140 = .ok (.goto 4, 3) := by decide +kernel
theorem dX6_isPrinted_143 : decode cX6_isPrinted 143 = .ok (.iconst 0, 1) := by decide +kernel
theorem dX6_isPrinted_144 : decode cX6_isPrinted 144 = .ok (.istore_n 1, 1) := by decide +kernel
theorem dX6_isPrinted_145 : decode cX6_isPrinted 145 = .ok (.iinc 2 1, 3) := by decide +kernel
theorem dX6_isPrinted_148 : decode cX6_isPrinted 148 = .ok (.goto (-144), 3) := by decide +kernel
theorem dX6_isPrinted_151 : decode cX6_isPrinted 151 = .ok (.iload_n 1, 1) := by decide +kernel
theorem dX6_isPrinted_152 : decode cX6_isPrinted 152 = .ok (.ireturn, 1) := by decide +kernel
theorem dX6_print_0 : decode cX6_print 0 = .ok (.aload_n 0, 1) := by decide +kernel
theorem dX6_print_1 : decode cX6_print 1 = .ok (.invokevirtual 170, 3) := by decide +kernel
theorem dX6_print_4 : decode cX6_print 4 = .ok (.ifCond .eq 10, 3) := by decide +kernel
theorem dX6_print_7 : decode cX6_print 7 = .ok (.aload_n 0, 1) := by decide +kernel
theorem dX6_print_8 : decode cX6_print 8 = .ok (.invokevirtual 177, 3) := by decide +kernel
theorem dX6_print_11 : decode cX6_print 11 = .ok (.ifCond .eq 6, 3) := by decide +kernel
theorem dX6_print_14 : decode cX6_print 14 = .ok (.bipush (-2), 2) := by decide +kernel
theorem dX6_print_16 : decode cX6_print 16 = .ok (.ireturn, 1) := by decide +kernel
theorem dX6_print_17 : decode cX6_print 17 = .ok (.aload_n 0, 1) := by decide +kernel
theorem dX6_print_18 : decode cX6_print 18 = .ok (.getfield 7, 3) := by decide +kernel
theorem dX6_print_21 : decode cX6_print 21 = .ok (.iconst 3, 1) := by decide +kernel
theorem dX6_print_22 : decode cX6_print 22 = .ok (.iaload, 1) := by decide +kernel
theorem dX6_print_23 : decode cX6_print 23 = .ok (.iconst 4, 1) := by decide +kernel
theorem dX6_print_24 : decode cX6_print 24 = .ok (.if_icmp .ne 6, 3) := by decide +kernel
theorem dX6_print_27 : decode cX6_print 27 = .ok (.bipush (-3), 2) := by decide +kernel
theorem dX6_print_29 : decode cX6_print 29 = .ok (.ireturn, 1) := by decide +kernel
end
section
theorem dX6_print_30 : decode cX6_print 30 = .ok (.aload_n 0, 1) := by decide +kernel
theorem dX6_print_31 : decode cX6_print 31 = .ok (.invokevirtual 112, 3) := by decide +kernel
theorem dX6_print_34 : decode cX6_print 34 = .ok (.aload_n 0, 1) := by decide +kernel
theorem dX6_print_35 : decode cX6_print 35 = .ok (.invokevirtual 180, 3) := by decide +kernel
theorem dX6_print_38 : decode cX6_print 38 = .ok (.istore_n 1, 1) := by decide +kernel
theorem dX6_print_39 : decode cX6_print 39 = .ok (.aload_n 0, 1) := by decide +kernel
theorem dX6_print_40 : decode cX6_print 40 = .ok (.getfield 7, 3) := by decide +kernel
theorem dX6_print_43 : decode cX6_print 43 = .ok (.iconst 3, 1) := by decide +kernel
theorem dX6_print_44 : decode cX6_print 44 = .ok (.dup2, 1) := by decide +kernel
theorem dX6_print_45 : decode cX6_print 45 = .ok (.iaload, 1) := by decide +kernel
theorem dX6_print_46 : decode cX6_print 46 = .ok (.iconst 1, 1) := by decide +kernel
theorem dX6_print_47 : decode cX6_print 47 = .ok (.iadd, 1) := by decide +kernel
theorem dX6_print_48 : decode cX6_print 48 = .ok (.iastore, 1) := by decide +kernel
theorem dX6_print_49 : decode cX6_print 49 = .ok (.aload_n 0, 1) := by decide +kernel
theorem dX6_print_50 : decode cX6_print 50 = .ok (.iconst 0, 1) := by decide +kernel
theorem dX6_print_51 : decode cX6_print 51 = .ok (.putfield 135, 3) := by decide +kernel
theorem dX6_print_54 : decode cX6_print 54 = .ok (.iload_n 1, 1) := by decide +kernel
theorem dX6_print_55 : decode cX6_print 55 = .ok (.ireturn, 1) := by decide +kernel
theorem dX6_doesSuit_0 : decode cX6_doesSuit 0 = .ok (.aload_n 0, 1) := by decide +kernel
theorem dX6_doesSuit_1 : decode cX6_doesSuit 1 = .ok (.getfield 158, 3) := by decide +kernel
theorem dX6_doesSuit_4 : decode cX6_doesSuit 4 = .ok (.ifCond .eq 16, 3) := by decide +kernel
theorem dX6_doesSuit_7 : decode cX6_doesSuit 7 = .ok (.aload_n 0, 1) := by decide +kernel
theorem dX6_doesSuit_8 : decode cX6_doesSuit 8 = .ok (.getfield 7, 3) := by decide +kernel
theorem dX6_doesSuit_11 : decode cX6_doesSuit 11 = .ok (.iconst 0, 1) := by decide +kernel
theorem dX6_doesSuit_12 : decode cX6_doesSuit 12 = .ok (.dup2, 1) := by decide +kernel
theorem dX6_doesSuit_13 : decode cX6_doesSuit 13 = .ok (.iaload, 1) := by decide +kernel
theorem dX6_doesSuit_14 : decode cX6_doesSuit 14 = .ok (.iconst 1, 1) := by decide +kernel
theorem dX6_doesSuit_15 : decode cX6_doesSuit 15 = .ok (.iadd, 1) := by decide +kernel
theorem dX6_doesSuit_16 : decode cX6_doesSuit 16 = .ok (.iastore, 1) := by decide +kernel
theorem dX6_doesSuit_17 : decode cX6_doesSuit 17 = .ok (.bipush 10, 2) := by decide +kernel
theorem dX6_doesSuit_19 : decode cX6_doesSuit 19 = .ok (.ireturn, 1) := by decide +kernel
theorem dX6_doesSuit_20 : decode cX6_doesSuit 20 = .ok (.aload_n 0, 1) := by decide +kernel
theorem dX6_doesSuit_21 : decode cX6_doesSuit 21 = .ok (.aload_n 0, 1) := by decide +kernel
theorem dX6_doesSuit_22 : decode cX6_doesSuit 22 = .ok (.getfield 161, 3) := by decide +kernel
theorem dX6_doesSuit_25 : decode cX6_doesSuit 25 = .ok (.aload_n 0, 1) := by decide +kernel
theorem dX6_doesSuit_26 : decode cX6_doesSuit 26 = .ok (.getfield 164, 3) := by decide +kernel
theorem dX6_doesSuit_29 : decode cX6_doesSuit 29 = .ok (.invokevirtual 129, 3) := by decide +kernel
theorem dX6_doesSuit_32 : decode cX6_doesSuit 32 = .ok (.ifCond .eq 18, 3) := by decide +kernel
theorem dX6_doesSuit_35 : decode cX6_doesSuit 35 = .ok (.aload_n 0, 1) := by decide +kernel
theorem dX6_doesSuit_36 : decode cX6_doesSuit 36 = .ok (.aload_n 0, 1) := by decide +kernel
theorem dX6_doesSuit_37 : decode cX6_doesSuit 37 = .ok (.getfield 161, 3) := by decide +kernel
theorem dX6_doesSuit_40 : decode cX6_doesSuit 40 = .ok (.aload_n 0, 1) := by decide +kernel
theorem dX6_doesSuit_41 : decode cX6_doesSuit 41 = .ok (.getfield 164, 3) := by decide +kernel
theorem dX6_doesSuit_44 : decode cX6_doesSuit 44 = .ok (.invokevirtual 132, 3) := by decide +kernel
theorem dX6_doesSuit_47 : decode cX6_doesSuit 47 = .ok (.goto 4, 3) := by decide +kernel
theorem dX6_doesSuit_50 : decode cX6_doesSuit 50 = .ok (.iconst (-1), 1) := by decide +kernel
theorem dX6_doesSuit_51 : decode cX6_doesSuit 51 = .ok (.ireturn, 1) := by decide +kernel
theorem dX6_plead_0 : decode cX6_plead 0 = .ok (.aload_n 0, 1) := by decide +kernel
theorem dX6_plead_1 : decode cX6_plead 1 = .ok (.invokevirtual 174, 3) := by decide +kernel
theorem dX6_plead_4 : decode cX6_plead 4 = .ok (.ifCond .ne 6, 3) := by decide +kernel
theorem dX6_plead_7 : decode cX6_plead 7 = .ok (.bipush (-2), 2) := by decide +kernel
theorem dX6_plead_9 : decode cX6_plead 9 = .ok (.ireturn, 1) := by decide +kernel
theorem dX6_plead_10 : decode cX6_plead 10 = .ok (.aload_n 0, 1) := by decide +kernel
theorem dX6_plead_11 : decode cX6_plead 11 = .ok (.invokevirtual 112, 3) := by decide +kernel
theorem dX6_plead_14 : decode cX6_plead 14 = .ok (.aload_n 0, 1) := by decide +kernel
theorem dX6_plead_15 : decode cX6_plead 15 = .ok (.iconst 0, 1) := by decide +kernel
theorem dX6_plead_16 : decode cX6_plead 16 = .ok (.putfield 138, 3) := by decide +kernel
theorem dX6_plead_19 : decode cX6_plead 19 = .ok (.aload_n 0, 1) := by decide +kernel
theorem dX6_plead_20 : decode cX6_plead 20 = .ok (.iconst 0, 1) := by decide +kernel
theorem dX6_plead_21 : decode cX6_plead 21 = .ok (.putfield 183, 3) := by decide +kernel
theorem dX6_plead_24 : decode cX6_plead 24 = .ok (.iconst 0, 1) := by decide +kernel
theorem dX6_plead_25 : decode cX6_plead 25 = .ok (.istore_n 1, 1) := by decide +kernel
theorem dX6_plead_26 : decode cX6_plead 26 = .ok (.aload_n 0, 1) := by decide +kernel
theorem dX6_plead_27 : decode cX6_plead 27 = .ok (.getfield 183, 3) := by decide +kernel
theorem dX6_plead_30 : decode cX6_plead 30 = .ok (.ifCond .ne 79, 3) := by decide +kernel
theorem dX6_plead_33 : decode cX6_plead 33 = .ok (.aload_n 0, 1) := by decide +kernel
theorem dX6_plead_34 : decode cX6_plead 34 = .ok (.getfield 138, 3) := by decide +kernel
theorem dX6_plead_37 : decode cX6_plead 37 = .ok (.aload_n 0, 1) := by decide +kernel
theorem dX6_plead_38 : decode cX6_plead 38 = .ok (.getfield 135, 3) := by decide +kernel
theorem dX6_plead_41 : decode cX6_plead 41 = .ok (.if_icmp .ge 68, 3) := by decide +kernel
theorem dX6_plead_44 : decode cX6_plead 44 = .ok (.aload_n 0, 1) := by decide +kernel
theorem dX6_plead_45 : decode cX6_plead 45 = .ok (.getfield 138, 3) := by decide +kernel
theorem dX6_plead_48 : decode cX6_plead 48 = .ok (.istore_n 2, 1) := by decide +kernel
theorem dX6_plead_49 : decode cX6_plead 49 = .ok (.aload_n 0, 1) := by decide +kernel
theorem dX6_plead_50 : decode cX6_plead 50 = .ok (.invokevirtual 167, 3) := by decide +kernel
theorem dX6_plead_53 : decode cX6_plead 53 = .ok (.aload_n 0, 1) := by decide +kernel
theorem dX6_plead_54 : decode cX6_plead 54 = .ok (.dup, 1) := by decide +kernel
theorem dX6_plead_55 : decode cX6_plead 55 = .ok (.getfield 138, 3) := by decide +kernel
theorem dX6_plead_58 : decode cX6_plead 58 = .ok (.iconst 1, 1) := by decide +kernel
theorem dX6_plead_59 : decode cX6_plead 59 = .ok (.iadd, 1) := by decide +kernel
theorem dX6_plead_60 : decode cX6_plead 60 = .ok (.putfield 138, 3) := by decide +kernel
theorem dX6_plead_63 : decode cX6_plead 63 = .ok (.aload_n 0, 1) := by decide +kernel
theorem dX6_plead_64 : decode cX6_plead 64 = .ok (.invokevirtual 186, 3) := by decide +kernel
theorem dX6_plead_67 : decode cX6_plead 67 = .ok (.istore_n 3, 1) := by decide +kernel
theorem dX6_plead_68 : decode cX6_plead 68 = .ok (.iload_n 3, 1) := by decide +kernel
theorem dX6_plead_69 : decode cX6_plead 69 = .ok (.bipush 10, 2) := by decide +kernel
theorem dX6_plead_71 : decode cX6_plead 71 = .ok (.if_icmp .ge 32, 3) := by decide +kernel
theorem dX6_plead_74 : decode cX6_plead 74 = .ok (.aload_n 0, 1) := by decide +kernel
theorem dX6_plead_75 : decode cX6_plead 75 = .ok (.iconst 1, 1) := by decide +kernel
theorem dX6_plead_76 : decode cX6_plead 76 = .ok (.putfield 183, 3) := by decide +kernel
theorem dX6_plead_79 : decode cX6_plead 79 = .ok (.aload_n 0, 1) := by decide +kernel
theorem dX6_plead_80 : decode cX6_plead 80 = .ok (.getfield 22, 3) := by decide +kernel
theorem dX6_plead_83 : decode cX6_plead 83 = .ok (.iconst 0, 1) := by decide +kernel
theorem dX6_plead_84 : decode cX6_plead 84 = .ok (.iload_n 3, 1) := by decide +kernel
theorem dX6_plead_85 : decode cX6_plead 85 = .ok (.iastore, 1) := by decide +kernel
theorem dX6_plead_86 : decode cX6_plead 86 = .ok (.aload_n 0, 1) := by decide +kernel
theorem dX6_plead_87 : decode cX6_plead 87 = .ok (.getfield 22, 3) := by decide +kernel
theorem dX6_plead_90 : decode cX6_plead 90 = .ok (.iconst 1, 1) := by decide +kernel
theorem dX6_plead_91 : decode cX6_plead 91 = .ok (.iload_n 1, 1) := by decide +kernel
theorem dX6_plead_92 : decode cX6_plead 92 = .ok (.iastore, 1) := by decide +kernel
theorem dX6_plead_93 : decode cX6_plead 93 = .ok (.aload_n 0, 1) := by decide +kernel
theorem dX6_plead_94 : decode cX6_plead 94 = .ok (.getfield 22, 3) := by decide +kernel
theorem dX6_plead_97 : decode cX6_plead 97 = .ok (.iconst 2, 1) := by decide +kernel
theorem dX6_plead_98 : decode cX6_plead 98 = .ok (.iload_n 2, 1) := by decide +kernel
theorem dX6_plead_99 : decode cX6_plead 99 = .ok (.iastore, 1) := by decide +kernel
theorem dX6_plead_100 : decode cX6_plead 100 = .ok (.goto 6, 3) := by decide +kernel
theorem dX6_plead_103 : decode cX6_plead 103 = .ok (.iinc 1 1, 3) := by decide +kernel
theorem dX6_plead_106 : decode cX6_plead 106 = .ok (.goto (-80), 3) := by decide +kernel
theorem dX6_plead_109 : decode cX6_plead 109 = .ok (.aload_n 0, 1) := by decide +kernel
theorem dX6_plead_110 : decode cX6_plead 110 = .ok (.iconst 0, 1) := by decide +kernel
theorem dX6_plead_111 : decode cX6_plead 111 = .ok (.putfield 135, 3) := by decide +kernel
theorem dX6_plead_114 : decode cX6_plead 114 = .ok (.iload_n 1, 1) := by decide +kernel
theorem dX6_plead_115 : decode cX6_plead 115 = .ok (.ireturn, 1) := by decide +kernel
theorem dX6_why_0 : decode cX6_why 0 = .ok (.iload_n 1, 1) := by decide +kernel
theorem dX6_why_1 : decode cX6_why 1 = .ok (.iconst 0, 1) := by decide +kernel
theorem dX6_why_2 : decode cX6_why 2 = .ok (.iconst 2, 1) := by decide +kernel
theorem dX6_why_3 : decode cX6_why 3 = .ok (.invokestatic 42, 3) := by decide +kernel
theorem dX6_why_6 : decode cX6_why 6 = .ok (.ifCond .ne 5, 3) := by decide +kernel
theorem dX6_why_9 : decode cX6_why 9 = .ok (.iconst (-1), 1) := by decide +kernel
theorem dX6_why_10 : decode cX6_why 10 = .ok (.ireturn, 1) := by decide +kernel
theorem dX6_why_11 : decode cX6_why 11 = .ok (.aload_n 0, 1) := by decide +kernel
theorem dX6_why_12 : decode cX6_why 12 = .ok (.getfield 183, 3) := by decide +kernel
theorem dX6_why_15 : decode cX6_why 15 = .ok (.ifCond .eq 12, 3) := by decide +kernel
theorem dX6_why_18 : decode cX6_why 18 = .ok (.aload_n 0, 1) := by decide +kernel
theorem dX6_why_19 : decode cX6_why 19 = .ok (.getfield 22, 3) := by decide +kernel
theorem dX6_why_22 : decode cX6_why 22 = .ok (.iload_n 1, 1) := by decide +kernel
theorem dX6_why_23 : decode cX6_why 23 = .ok (.iaload, 1) := by decide +kernel
theorem dX6_why_24 : decode cX6_why 24 = .ok (.goto 5, 3) := by decide +kernel
theorem dX6_why_27 : decode cX6_why 27 = .ok (.bipush (-4), 2) := by decide +kernel
theorem dX6_why_29 : decode cX6_why 29 = .ok (.ireturn, 1) := by decide +kernel
theorem dX6_sign_0 : decode cX6_sign 0 = .ok (.aload_n 0, 1) := by decide +kernel
theorem dX6_sign_1 : decode cX6_sign 1 = .ok (.iload_n 1, 1) := by decide +kernel
theorem dX6_sign_2 : decode cX6_sign 2 = .ok (.invokevirtual 57, 3) := by decide +kernel
theorem dX6_sign_5 : decode cX6_sign 5 = .ok (.ifCond .eq 7, 3) := by decide +kernel
theorem dX6_sign_8 : decode cX6_sign 8 = .ok (.iload_n 2, 1) := by decide +kernel
theorem dX6_sign_9 : decode cX6_sign 9 = .ok (.ifCond .ge 5, 3) := by decide +kernel
theorem dX6_sign_12 : decode cX6_sign 12 = .ok (.iconst (-1), 1) := by decide +kernel
theorem dX6_sign_13 : decode cX6_sign 13 = .ok (.ireturn, 1) := by decide +kernel
theorem dX6_sign_14 : decode cX6_sign 14 = .ok (.bipush (-4), 2) := by decide +kernel
theorem dX6_sign_16 : decode cX6_sign 16 = .ok (.istore_n 3, 1) := by decide +kernel
theorem dX6_sign_17 : decode cX6_sign 17 = .ok (.iconst 0, 1) := by decide +kernel
theorem dX6_sign_18 : decode cX6_sign 18 = .ok (.istore 4, 2) := by decide +kernel
theorem dX6_sign_20 : decode cX6_sign 20 = .ok (.iconst 0, 1) := by decide +kernel
theorem dX6_sign_21 : decode cX6_sign 21 = .ok (.istore 5, 2) := by decide +kernel
theorem dX6_sign_23 : decode cX6_sign 23 = .ok (.iload 5, 2) := by decide +kernel
theorem dX6_sign_25 : decode cX6_sign 25 = .ok (.aload_n 0, 1) := by decide +kernel
theorem dX6_sign_26 : decode cX6_sign 26 = .ok (.iload_n 1, 1) := by decide +kernel
theorem dX6_sign_27 : decode cX6_sign 27 = .ok (.iconst 0, 1) := by decide +kernel
theorem dX6_sign_28 : decode cX6_sign 28 = .ok (.invokevirtual 60, 3) := by decide +kernel
theorem dX6_sign_31 : decode cX6_sign 31 = .ok (.if_icmp .ge 64, 3) := by decide +kernel
theorem dX6_sign_34 : decode cX6_sign 34 = .ok (.iload 4, 2) := by decide +kernel
theorem dX6_sign_36 : decode cX6_sign 36 = .ok (.iload_n 2, 1) := by decide +kernel
theorem dX6_sign_37 : decode cX6_sign 37 = .ok (.if_icmp .ne 16, 3) := by decide +kernel
theorem dX6_sign_40 : decode cX6_sign 40 = .ok (.bipush 97, 2) := by decide +kernel
theorem dX6_sign_42 : decode cX6_sign 42 = .ok (.aload_n 0, 1) := by decide +kernel
theorem dX6_sign_43 : decode cX6_sign 43 = .ok (.iload_n 1, 1) := by decide +kernel
theorem dX6_sign_44 : decode cX6_sign 44 = .ok (.iload 5, 2) := by decide +kernel
theorem dX6_sign_46 : decode cX6_sign 46 = .ok (.invokevirtual 63, 3) := by decide +kernel
theorem dX6_sign_49 : decode cX6_sign 49 = .ok (.iadd, 1) := by decide +kernel
theorem dX6_sign_50 : decode cX6_sign 50 = .ok (.goto 4, 3) := by decide +kernel
theorem dX6_sign_53 : decode cX6_sign 53 = .ok (.iload_n 3, 1) := by decide +kernel
theorem dX6_sign_54 : decode cX6_sign 54 = .ok (.istore_n 3, 1) := by decide +kernel
theorem dX6_sign_55 : decode cX6_sign 55 = .ok (.iinc 4 1, 3) := by decide +kernel
theorem dX6_sign_58 : decode cX6_sign 58 = .ok (.aload_n 0, 1) := by decide +kernel
theorem dX6_sign_59 : decode cX6_sign 59 = .ok (.iload_n 1, 1) := by decide +kernel
theorem dX6_sign_60 : decode cX6_sign 60 = .ok (.iconst 1, 1) := by decide +kernel
theorem dX6_sign_61 : decode cX6_sign 61 = .ok (.invokevirtual 60, 3) := by decide +kernel
theorem dX6_sign_64 : decode cX6_sign 64 = .ok (.iload 5, 2) := by decide +kernel
theorem dX6_sign_66 : decode cX6_sign 66 = .ok (.ishr, 1) := by decide +kernel
theorem dX6_sign_67 : decode cX6_sign 67 = .ok (.iconst 1, 1) := by decide +kernel
theorem dX6_sign_68 : decode cX6_sign 68 = .ok (.iand, 1) := by decide +kernel
theorem dX6_sign_69 : decode cX6_sign 69 = .ok (.iconst 1, 1) := by decide +kernel
theorem dX6_sign_70 : decode cX6_sign 70 = .ok (.if_icmp .ne 19, 3) := by decide +kernel
theorem dX6_sign_73 : decode cX6_sign 73 = .ok (.iload 4, 2) := by decide +kernel
theorem dX6_sign_75 : decode cX6_sign 75 = .ok (.iload_n 2, 1) := by decide +kernel
theorem dX6_sign_76 : decode cX6_sign 76 = .ok (.if_icmp .ne 8, 3) := by decide +kernel
theorem dX6_sign_79 : decode cX6_sign 79 = .ok (.bipush 44, 2) := by decide +kernel
theorem dX6_sign_81 : decode cX6_sign 81 = .ok (.goto 4, 3) := by decide +kernel
theorem dX6_sign_84 : decode cX6_sign 84 = .ok (.iload_n 3, 1) := by decide +kernel
theorem dX6_sign_85 : decode cX6_sign 85 = .ok (.istore_n 3, 1) := by decide +kernel
theorem dX6_sign_86 : decode cX6_sign 86 = .ok (.iinc 4 1, 3) := by decide +kernel
theorem dX6_sign_89 : decode cX6_sign 89 = .ok (.iinc 5 1, 3) := by decide +kernel
theorem dX6_sign_92 : decode cX6_sign 92 = .ok (.goto (-69), 3) := by decide +kernel
theorem dX6_sign_95 : decode cX6_sign 95 = .ok (.iload_n 3, 1) := by decide +kernel
theorem dX6_sign_96 : decode cX6_sign 96 = .ok (.ireturn, 1) := by decide +kernel
theorem dX6_allWeight_0 : decode cX6_allWeight 0 = .ok (.iconst 0, 1) := by decide +kernel
theorem dX6_allWeight_1 : decode cX6_allWeight 1 = .ok (.istore_n 2, 1) := by decide +kernel
theorem dX6_allWeight_2 : decode cX6_allWeight 2 = .ok (.iconst 0, 1) := by decide +kernel
theorem dX6_allWeight_3 : decode cX6_allWeight 3 = .ok (.istore_n 3, 1) := by decide +kernel
theorem dX6_allWeight_4 : decode cX6_allWeight 4 = .ok (.iload_n 3, 1) := by decide +kernel
theorem dX6_allWeight_5 : decode cX6_allWeight 5 = .ok (.aload_n 0, 1) := by decide +kernel
theorem dX6_allWeight_6 : decode cX6_allWeight 6 = .ok (.iload_n 1, 1) := by decide +kernel
theorem dX6_allWeight_7 : decode cX6_allWeight 7 = .ok (.iconst 0, 1) := by decide +kernel
theorem dX6_allWeight_8 : decode cX6_allWeight 8 = .ok (.invokevirtual 60, 3) := by decide +kernel
theorem dX6_allWeight_11 : decode cX6_allWeight 11 = .ok (.if_icmp .ge 18, 3) := by decide +kernel
theorem dX6_allWeight_14 : decode cX6_allWeight 14 = .ok (.iload_n 2, 1) := by decide +kernel
theorem dX6_allWeight_15 : decode cX6_allWeight 15 = .ok (.aload_n 0, 1) := by decide +kernel
theorem dX6_allWeight_16 : decode cX6_allWeight 16 = .ok (.iload_n 1, 1) := by decide +kernel
theorem dX6_allWeight_17 : decode cX6_allWeight 17 = .ok (.iload_n 3, 1) := by decide +kernel
theorem dX6_allWeight_18 : decode cX6_allWeight 18 = .ok (.invokevirtual 66, 3) := by decide +kernel
theorem dX6_allWeight_21 : decode cX6_allWeight 21 = .ok (.iadd, 1) := by decide +kernel
theorem dX6_allWeight_22 : decode cX6_allWeight 22 = .ok (.istore_n 2, 1) := by decide +kernel
theorem dX6_allWeight_23 : decode cX6_allWeight 23 = .ok (.iinc 3 1, 3) := by decide +kernel
theorem dX6_allWeight_26 : decode cX6_allWeight 26 = .ok (.goto (-22), 3) := by decide +kernel
theorem dX6_allWeight_29 : decode cX6_allWeight 29 = .ok (.iload_n 2, 1) := by decide +kernel
theorem dX6_allWeight_30 : decode cX6_allWeight 30 = .ok (.ireturn, 1) := by decide +kernel
theorem dX6_edition_0 : decode cX6_edition 0 = .ok (.aload_n 0, 1) := by decide +kernel
theorem dX6_edition_1 : decode cX6_edition 1 = .ok (.iload_n 1, 1) := by decide +kernel
theorem dX6_edition_2 : decode cX6_edition 2 = .ok (.invokevirtual 57, 3) := by decide +kernel
theorem dX6_edition_5 : decode cX6_edition 5 = .ok (.ifCond .ne 5, 3) := by decide +kernel
theorem dX6_edition_8 : decode cX6_edition 8 = .ok (.iconst (-1), 1) := by decide +kernel
theorem dX6_edition_9 : decode cX6_edition 9 = .ok (.ireturn, 1) := by decide +kernel
theorem dX6_edition_10 : decode cX6_edition 10 = .ok (.aload_n 0, 1) := by decide +kernel
theorem dX6_edition_11 : decode cX6_edition 11 = .ok (.iload_n 1, 1) := by decide +kernel
theorem dX6_edition_12 : decode cX6_edition 12 = .ok (.iconst 1, 1) := by decide +kernel
theorem dX6_edition_13 : decode cX6_edition 13 = .ok (.invokevirtual 60, 3) := by decide +kernel
theorem dX6_edition_16 : decode cX6_edition 16 = .ok (.istore_n 3, 1) := by decide +kernel
theorem dX6_edition_17 : decode cX6_edition 17 = .ok (.iload_n 2, 1) := by decide +kernel
theorem dX6_edition_18 : decode cX6_edition 18 = .ok (.tableswitch 124 0 9 #[54, 61, 63, 70, 76, 83, 90, 96, 110, 117], 54) := by decide +kernel
theorem dX6_edition_72 : decode cX6_edition 72 = .ok (.aload_n 0, 1) := by decide +kernel
theorem dX6_edition_73 : decode cX6_edition 73 = .ok (.iload_n 1, 1) := by decide +kernel
theorem dX6_edition_74 : decode cX6_edition 74 = .ok (.iconst 0, 1) := by decide +kernel
theorem dX6_edition_75 : decode cX6_edition 75 = .ok (.invokevirtual 60, 3) := by decide +kernel
theorem dX6_edition_78 : decode cX6_edition 78 = .ok (.ireturn, 1) := by decide +kernel
theorem dX6_edition_79 : decode cX6_edition 79 = .ok (.iload_n 3, 1) := by decide +kernel
theorem dX6_edition_80 : decode cX6_edition 80 = .ok (.ireturn, 1) := by decide +kernel
theorem dX6_edition_81 : decode cX6_edition 81 = .ok (.iload_n 3, 1) := by decide +kernel
theorem dX6_edition_82 : decode cX6_edition 82 = .ok (.invokestatic 189, 3) := by decide +kernel
theorem dX6_edition_85 : decode cX6_edition 85 = .ok (.iconst 1, 1) := by decide +kernel
theorem dX6_edition_86 : decode cX6_edition 86 = .ok (.iadd, 1) := by decide +kernel
theorem dX6_edition_87 : decode cX6_edition 87 = .ok (.ireturn, 1) := by decide +kernel
theorem dX6_edition_88 : decode cX6_edition 88 = .ok (.aload_n 0, 1) := by decide +kernel
theorem dX6_edition_89 : decode cX6_edition 89 = .ok (.iload_n 1, 1) := by decide +kernel
theorem dX6_edition_90 : decode cX6_edition 90 = .ok (.invokevirtual 192, 3) := by decide +kernel
theorem dX6_edition_93 : decode cX6_edition 93 = .ok (.ireturn, 1) := by decide +kernel
theorem dX6_edition_94 : decode cX6_edition 94 = .ok (.aload_n 0, 1) := by decide +kernel
theorem dX6_edition_95 : decode cX6_edition 95 = .ok (.iload_n 1, 1) := by decide +kernel
theorem dX6_edition_96 : decode cX6_edition 96 = .ok (.iload_n 3, 1) := by decide +kernel
theorem dX6_edition_97 : decode cX6_edition 97 = .ok (.invokevirtual 80, 3) := by decide +kernel
theorem dX6_edition_100 : decode cX6_edition 100 = .ok (.ireturn, 1) := by decide +kernel
theorem dX6_edition_101 : decode cX6_edition 101 = .ok (.aload_n 0, 1) := by decide +kernel
theorem dX6_edition_102 : decode cX6_edition 102 = .ok (.iload_n 1, 1) := by decide +kernel
theorem dX6_edition_103 : decode cX6_edition 103 = .ok (.iload_n 3, 1) := by decide +kernel
theorem dX6_edition_104 : decode cX6_edition 104 = .ok (.invokevirtual 83, 3) := by decide +kernel
theorem dX6_edition_107 : decode cX6_edition 107 = .ok (.ireturn, 1) := by decide +kernel
theorem dX6_edition_108 : decode cX6_edition 108 = .ok (.aload_n 0, 1) := by decide +kernel
theorem dX6_edition_109 : decode cX6_edition 109 = .ok (.iload_n 1, 1) := by decide +kernel
theorem dX6_edition_110 : decode cX6_edition 110 = .ok (.invokevirtual 89, 3) := by decide +kernel
theorem dX6_edition_113 : decode cX6_edition 113 = .ok (.ireturn, 1) := by decide +kernel
theorem dX6_edition_114 : decode cX6_edition 114 = .ok (.aload_n 0, 1) := by decide +kernel
theorem dX6_edition_115 : decode cX6_edition 115 = .ok (.iload_n 1, 1) := by decide +kernel
theorem dX6_edition_116 : decode cX6_edition 116 = .ok (.invokevirtual 96, 3) := by decide +kernel
theorem dX6_edition_119 : decode cX6_edition 119 = .ok (.ifCond .eq 7, 3) := by decide +kernel
theorem dX6_edition_122 : decode cX6_edition 122 = .ok (.iconst 1, 1) := by decide +kernel
theorem dX6_edition_123 : decode cX6_edition 123 = .ok (.goto 4, 3) := by decide +kernel
theorem dX6_edition_126 : decode cX6_edition 126 = .ok (.iconst 0, 1) := by decide +kernel
theorem dX6_edition_127 : decode cX6_edition 127 = .ok (.ireturn, 1) := by decide +kernel
theorem dX6_edition_128 : decode cX6_edition 128 = .ok (.aload_n 0, 1) := by decide +kernel
theorem dX6_edition_129 : decode cX6_edition 129 = .ok (.iload_n 1, 1) := by decide +kernel
theorem dX6_edition_130 : decode cX6_edition 130 = .ok (.iconst 2, 1) := by decide +kernel
theorem dX6_edition_131 : decode cX6_edition 131 = .ok (.invokevirtual 60, 3) := by decide +kernel
theorem dX6_edition_134 : decode cX6_edition 134 = .ok (.ireturn, 1) := by decide +kernel
theorem dX6_edition_135 : decode cX6_edition 135 = .ok (.aload_n 0, 1) := by decide +kernel
theorem dX6_edition_136 : decode cX6_edition 136 = .ok (.iload_n 1, 1) := by decide +kernel
theorem dX6_edition_137 : decode cX6_edition 137 = .ok (.iconst 3, 1) := by decide +kernel
theorem dX6_edition_138 : decode cX6_edition 138 = .ok (.invokevirtual 60, 3) := by decide +kernel
theorem dX6_edition_141 : decode cX6_edition 141 = .ok (.ireturn, 1) := by decide +kernel
theorem dX6_edition_142 : decode cX6_edition 142 = .ok (.iconst (-1), 1) := by decide +kernel
theorem dX6_edition_143 : decode cX6_edition 143 = .ok (.ireturn, 1) := by decide +kernel
theorem dX6_gap_0 : decode cX6_gap 0 = .ok (.aload_n 0, 1) := by decide +kernel
theorem dX6_gap_1 : decode cX6_gap 1 = .ok (.iload_n 1, 1) := by decide +kernel
theorem dX6_gap_2 : decode cX6_gap 2 = .ok (.iload_n 2, 1) := by decide +kernel
theorem dX6_gap_3 : decode cX6_gap 3 = .ok (.invokevirtual 129, 3) := by decide +kernel
theorem dX6_gap_6 : decode cX6_gap 6 = .ok (.ifCond .ne 5, 3) := by decide +kernel
theorem dX6_gap_9 : decode cX6_gap 9 = .ok (.iconst (-1), 1) := by decide +kernel
theorem dX6_gap_10 : decode cX6_gap 10 = .ok (.ireturn, 1) := by decide +kernel
theorem dX6_gap_11 : decode cX6_gap 11 = .ok (.aload_n 0, 1) := by decide +kernel
theorem dX6_gap_12 : decode cX6_gap 12 = .ok (.iload_n 1, 1) := by decide +kernel
theorem dX6_gap_13 : decode cX6_gap 13 = .ok (.iconst 1, 1) := by decide +kernel
theorem dX6_gap_14 : decode cX6_gap 14 = .ok (.invokevirtual 60, 3) := by decide +kernel
theorem dX6_gap_17 : decode cX6_gap 17 = .ok (.istore 4, 2) := by decide +kernel
theorem dX6_gap_19 : decode cX6_gap 19 = .ok (.iload_n 3, 1) := by decide +kernel
theorem dX6_gap_20 : decode cX6_gap 20 = .ok (.tableswitch 77 0 3 #[32, 39, 46, 55], 32) := by decide +kernel
theorem dX6_gap_52 : decode cX6_gap 52 = .ok (.iload 4, 2) := by decide +kernel
theorem dX6_gap_54 : decode cX6_gap 54 = .ok (.iload_n 2, 1) := by decide +kernel
theorem dX6_gap_55 : decode cX6_gap 55 = .ok (.ishr, 1) := by decide +kernel
theorem dX6_gap_56 : decode cX6_gap 56 = .ok (.iconst 1, 1) := by decide +kernel
theorem dX6_gap_57 : decode cX6_gap 57 = .ok (.iand, 1) := by decide +kernel
theorem dX6_gap_58 : decode cX6_gap 58 = .ok (.ireturn, 1) := by decide +kernel
theorem dX6_gap_59 : decode cX6_gap 59 = .ok (.aload_n 0, 1) := by decide +kernel
theorem dX6_gap_60 : decode cX6_gap 60 = .ok (.iload_n 1, 1) := by decide +kernel
theorem dX6_gap_61 : decode cX6_gap 61 = .ok (.iload_n 2, 1) := by decide +kernel
theorem dX6_gap_62 : decode cX6_gap 62 = .ok (.invokevirtual 73, 3) := by decide +kernel
theorem dX6_gap_65 : decode cX6_gap 65 = .ok (.ireturn, 1) := by decide +kernel
theorem dX6_gap_66 : decode cX6_gap 66 = .ok (.aload_n 0, 1) := by decide +kernel
theorem dX6_gap_67 : decode cX6_gap 67 = .ok (.iload_n 1, 1) := by decide +kernel
theorem dX6_gap_68 : decode cX6_gap 68 = .ok (.iload_n 2, 1) := by decide +kernel
theorem dX6_gap_69 : decode cX6_gap 69 = .ok (.iload 4, 2) := by decide +kernel
theorem dX6_gap_71 : decode cX6_gap 71 = .ok (.invokevirtual 76, 3) := by decide +kernel
theorem dX6_gap_74 : decode cX6_gap 74 = .ok (.ireturn, 1) := by decide +kernel
theorem dX6_gap_75 : decode cX6_gap 75 = .ok (.sipush 1000, 3) := by decide +kernel
theorem dX6_gap_78 : decode cX6_gap 78 = .ok (.aload_n 0, 1) := by decide +kernel
theorem dX6_gap_79 : decode cX6_gap 79 = .ok (.iload_n 1, 1) := by decide +kernel
theorem dX6_gap_80 : decode cX6_gap 80 = .ok (.iload 4, 2) := by decide +kernel
theorem dX6_gap_82 : decode cX6_gap 82 = .ok (.iconst 1, 1) := by decide +kernel
theorem dX6_gap_83 : decode cX6_gap 83 = .ok (.iload_n 2, 1) := by decide +kernel
theorem dX6_gap_84 : decode cX6_gap 84 = .ok (.ishl, 1) := by decide +kernel
theorem dX6_gap_85 : decode cX6_gap 85 = .ok (.ixor, 1) := by decide +kernel
theorem dX6_gap_86 : decode cX6_gap 86 = .ok (.invokevirtual 86, 3) := by decide +kernel
theorem dX6_gap_89 : decode cX6_gap 89 = .ok (.iadd, 1) := by decide +kernel
theorem dX6_gap_90 : decode cX6_gap 90 = .ok (.aload_n 0, 1) := by decide +kernel
theorem dX6_gap_91 : decode cX6_gap 91 = .ok (.iload_n 1, 1) := by decide +kernel
theorem dX6_gap_92 : decode cX6_gap 92 = .ok (.invokevirtual 89, 3) := by decide +kernel
theorem dX6_gap_95 : decode cX6_gap 95 = .ok (.isub, 1) := by decide +kernel
theorem dX6_gap_96 : decode cX6_gap 96 = .ok (.ireturn, 1) := by decide +kernel
theorem dX6_gap_97 : decode cX6_gap 97 = .ok (.iconst (-1), 1) := by decide +kernel
theorem dX6_gap_98 : decode cX6_gap 98 = .ok (.ireturn, 1) := by decide +kernel
theorem dX6_citing_0 : decode cX6_citing 0 = .ok (.iconst 0, 1) := by decide +kernel
theorem dX6_citing_1 : decode cX6_citing 1 = .ok (.istore_n 2, 1) := by decide +kernel
theorem dX6_citing_2 : decode cX6_citing 2 = .ok (.iconst 0, 1) := by decide +kernel
theorem dX6_citing_3 : decode cX6_citing 3 = .ok (.istore_n 3, 1) := by decide +kernel
theorem dX6_citing_4 : decode cX6_citing 4 = .ok (.iload_n 3, 1) := by decide +kernel
theorem dX6_citing_5 : decode cX6_citing 5 = .ok (.aload_n 0, 1) := by decide +kernel
theorem dX6_citing_6 : decode cX6_citing 6 = .ok (.getfield 7, 3) := by decide +kernel
theorem dX6_citing_9 : decode cX6_citing 9 = .ok (.iconst 4, 1) := by decide +kernel
theorem dX6_citing_10 : decode cX6_citing 10 = .ok (.iaload, 1) := by decide +kernel
theorem dX6_citing_11 : decode cX6_citing 11 = .ok (.if_icmp .ge 29, 3) := by decide +kernel
theorem dX6_citing_14 : decode cX6_citing 14 = .ok (.iload_n 2, 1) := by decide +kernel
theorem dX6_citing_15 : decode cX6_citing 15 = .ok (.aload_n 0, 1) := by decide +kernel
theorem dX6_citing_16 : decode cX6_citing 16 = .ok (.iload_n 3, 1) := by decide +kernel
theorem dX6_citing_17 : decode cX6_citing 17 = .ok (.iconst 4, 1) := by decide +kernel
theorem dX6_citing_18 : decode cX6_citing 18 = .ok (.invokevirtual 46, 3) := by decide +kernel
theorem dX6_citing_21 : decode cX6_citing 21 = .ok (.iload_n 1, 1) := by decide +kernel
theorem dX6_citing_22 : decode cX6_citing 22 = .ok (.iconst 1, 1) := by decide +kernel
theorem dX6_citing_23 : decode cX6_citing 23 = .ok (.iadd, 1) := by decide +kernel
theorem dX6_citing_24 : decode cX6_citing 24 = .ok (.if_icmp .ne 7, 3) := by decide +kernel
theorem dX6_citing_27 : decode cX6_citing 27 = .ok (.iconst 1, 1) := by decide +kernel
theorem dX6_citing_28 : decode cX6_citing 28 = .ok (.goto 4, 3) := by decide +kernel
theorem dX6_citing_31 : decode cX6_citing 31 = .ok (.iconst 0, 1) := by decide +kernel
theorem dX6_citing_32 : decode cX6_citing 32 = .ok (.iadd, 1) := by decide +kernel
theorem dX6_citing_33 : decode cX6_citing 33 = .ok (.istore_n 2, 1) := by decide +kernel
theorem dX6_citing_34 : decode cX6_citing 34 = .ok (.iinc 3 1, 3) := by decide +kernel
theorem dX6_citing_37 : decode cX6_citing 37 = .ok (.goto (-33), 3) := by decide +kernel
theorem dX6_citing_40 : decode cX6_citing 40 = .ok (.iload_n 2, 1) := by decide +kernel
theorem dX6_citing_41 : decode cX6_citing 41 = .ok (.ireturn, 1) := by decide +kernel
theorem dX6_finesBy_0 : decode cX6_finesBy 0 = .ok (.iconst 0, 1) := by decide +kernel
theorem dX6_finesBy_1 : decode cX6_finesBy 1 = .ok (.istore_n 2, 1) := by decide +kernel
theorem dX6_finesBy_2 : decode cX6_finesBy 2 = .ok (.iconst 0, 1) := by decide +kernel
theorem dX6_finesBy_3 : decode cX6_finesBy 3 = .ok (.istore_n 3, 1) := by decide +kernel
theorem dX6_finesBy_4 : decode cX6_finesBy 4 = .ok (.iload_n 3, 1) := by decide +kernel
theorem dX6_finesBy_5 : decode cX6_finesBy 5 = .ok (.aload_n 0, 1) := by decide +kernel
theorem dX6_finesBy_6 : decode cX6_finesBy 6 = .ok (.getfield 7, 3) := by decide +kernel
theorem dX6_finesBy_9 : decode cX6_finesBy 9 = .ok (.iconst 3, 1) := by decide +kernel
theorem dX6_finesBy_10 : decode cX6_finesBy 10 = .ok (.iaload, 1) := by decide +kernel
theorem dX6_finesBy_11 : decode cX6_finesBy 11 = .ok (.if_icmp .ge 62, 3) := by decide +kernel
theorem dX6_finesBy_14 : decode cX6_finesBy 14 = .ok (.iconst 0, 1) := by decide +kernel
theorem dX6_finesBy_15 : decode cX6_finesBy 15 = .ok (.istore 4, 2) := by decide +kernel
theorem dX6_finesBy_17 : decode cX6_finesBy 17 = .ok (.iload 4, 2) := by decide +kernel
theorem dX6_finesBy_19 : decode cX6_finesBy 19 = .ok (.iconst 1, 1) := by decide +kernel
theorem dX6_finesBy_20 : decode cX6_finesBy 20 = .ok (.iadd, 1) := by decide +kernel
theorem dX6_finesBy_21 : decode cX6_finesBy 21 = .ok (.aload_n 0, 1) := by decide +kernel
theorem dX6_finesBy_22 : decode cX6_finesBy 22 = .ok (.iload_n 3, 1) := by decide +kernel
theorem dX6_finesBy_23 : decode cX6_finesBy 23 = .ok (.iconst 0, 1) := by decide +kernel
theorem dX6_finesBy_24 : decode cX6_finesBy 24 = .ok (.invokevirtual 60, 3) := by decide +kernel
theorem dX6_finesBy_27 : decode cX6_finesBy 27 = .ok (.if_icmp .ge 40, 3) := by decide +kernel
theorem dX6_finesBy_30 : decode cX6_finesBy 30 = .ok (.iload_n 2, 1) := by decide +kernel
theorem dX6_finesBy_31 : decode cX6_finesBy 31 = .ok (.aload_n 0, 1) := by decide +kernel
theorem dX6_finesBy_32 : decode cX6_finesBy 32 = .ok (.iload_n 3, 1) := by decide +kernel
theorem dX6_finesBy_33 : decode cX6_finesBy 33 = .ok (.iload 4, 2) := by decide +kernel
theorem dX6_finesBy_35 : decode cX6_finesBy 35 = .ok (.invokevirtual 73, 3) := by decide +kernel
theorem dX6_finesBy_38 : decode cX6_finesBy 38 = .ok (.iload_n 1, 1) := by decide +kernel
theorem dX6_finesBy_39 : decode cX6_finesBy 39 = .ok (.if_icmp .ne 19, 3) := by decide +kernel
theorem dX6_finesBy_42 : decode cX6_finesBy 42 = .ok (.aload_n 0, 1) := by decide +kernel
theorem dX6_finesBy_43 : decode cX6_finesBy 43 = .ok (.iload_n 3, 1) := by decide +kernel
theorem dX6_finesBy_44 : decode cX6_finesBy 44 = .ok (.iload 4, 2) := by decide +kernel
theorem dX6_finesBy_46 : decode cX6_finesBy 46 = .ok (.aload_n 0, 1) := by decide +kernel
theorem dX6_finesBy_47 : decode cX6_finesBy 47 = .ok (.iload_n 3, 1) := by decide +kernel
theorem dX6_finesBy_48 : decode cX6_finesBy 48 = .ok (.iconst 1, 1) := by decide +kernel
theorem dX6_finesBy_49 : decode cX6_finesBy 49 = .ok (.invokevirtual 60, 3) := by decide +kernel
theorem dX6_finesBy_52 : decode cX6_finesBy 52 = .ok (.invokevirtual 76, 3) := by decide +kernel
theorem dX6_finesBy_55 : decode cX6_finesBy 55 = .ok (.goto 4, 3) := by decide +kernel
theorem dX6_finesBy_58 : decode cX6_finesBy 58 = .ok (.iconst 0, 1) := by decide +kernel
theorem dX6_finesBy_59 : decode cX6_finesBy 59 = .ok (.iadd, 1) := by decide +kernel
theorem dX6_finesBy_60 : decode cX6_finesBy 60 = .ok (.istore_n 2, 1) := by decide +kernel
theorem dX6_finesBy_61 : decode cX6_finesBy 61 = .ok (.iinc 4 1, 3) := by decide +kernel
theorem dX6_finesBy_64 : decode cX6_finesBy 64 = .ok (.goto (-47), 3) := by decide +kernel
theorem dX6_finesBy_67 : decode cX6_finesBy 67 = .ok (.iinc 3 1, 3) := by decide +kernel
theorem dX6_finesBy_70 : decode cX6_finesBy 70 = .ok (.goto (-66), 3) := by decide +kernel
theorem dX6_finesBy_73 : decode cX6_finesBy 73 = .ok (.iload_n 2, 1) := by decide +kernel
theorem dX6_finesBy_74 : decode cX6_finesBy 74 = .ok (.ireturn, 1) := by decide +kernel
theorem dX6_ruling_0 : decode cX6_ruling 0 = .ok (.aload_n 0, 1) := by decide +kernel
theorem dX6_ruling_1 : decode cX6_ruling 1 = .ok (.iload_n 1, 1) := by decide +kernel
theorem dX6_ruling_2 : decode cX6_ruling 2 = .ok (.invokevirtual 118, 3) := by decide +kernel
theorem dX6_ruling_5 : decode cX6_ruling 5 = .ok (.ifCond .ne 5, 3) := by decide +kernel
theorem dX6_ruling_8 : decode cX6_ruling 8 = .ok (.iconst (-1), 1) := by decide +kernel
theorem dX6_ruling_9 : decode cX6_ruling 9 = .ok (.ireturn, 1) := by decide +kernel
theorem dX6_ruling_10 : decode cX6_ruling 10 = .ok (.iload_n 2, 1) := by decide +kernel
theorem dX6_ruling_11 : decode cX6_ruling 11 = .ok (.tableswitch 119 0 8 #[49, 49, 49, 49, 56, 79, 93, 107, 113], 49) := by decide +kernel
theorem dX6_ruling_60 : decode cX6_ruling 60 = .ok (.aload_n 0, 1) := by decide +kernel
theorem dX6_ruling_61 : decode cX6_ruling 61 = .ok (.iload_n 1, 1) := by decide +kernel
theorem dX6_ruling_62 : decode cX6_ruling 62 = .ok (.iload_n 2, 1) := by decide +kernel
theorem dX6_ruling_63 : decode cX6_ruling 63 = .ok (.invokevirtual 46, 3) := by decide +kernel
theorem dX6_ruling_66 : decode cX6_ruling 66 = .ok (.ireturn, 1) := by decide +kernel
theorem dX6_ruling_67 : decode cX6_ruling 67 = .ok (.aload_n 0, 1) := by decide +kernel
theorem dX6_ruling_68 : decode cX6_ruling 68 = .ok (.iload_n 1, 1) := by decide +kernel
theorem dX6_ruling_69 : decode cX6_ruling 69 = .ok (.iconst 4, 1) := by decide +kernel
theorem dX6_ruling_70 : decode cX6_ruling 70 = .ok (.invokevirtual 46, 3) := by decide +kernel
theorem dX6_ruling_73 : decode cX6_ruling 73 = .ok (.ifCond .ne 8, 3) := by decide +kernel
theorem dX6_ruling_76 : decode cX6_ruling 76 = .ok (.bipush (-4), 2) := by decide +kernel
theorem dX6_ruling_78 : decode cX6_ruling 78 = .ok (.goto 11, 3) := by decide +kernel
theorem dX6_ruling_81 : decode cX6_ruling 81 = .ok (.aload_n 0, 1) := by decide +kernel
theorem dX6_ruling_82 : decode cX6_ruling 82 = .ok (.iload_n 1, 1) := by decide +kernel
theorem dX6_ruling_83 : decode cX6_ruling 83 = .ok (.iconst 4, 1) := by decide +kernel
theorem dX6_ruling_84 : decode cX6_ruling 84 = .ok (.invokevirtual 46, 3) := by decide +kernel
theorem dX6_ruling_87 : decode cX6_ruling 87 = .ok (.iconst 1, 1) := by decide +kernel
theorem dX6_ruling_88 : decode cX6_ruling 88 = .ok (.isub, 1) := by decide +kernel
theorem dX6_ruling_89 : decode cX6_ruling 89 = .ok (.ireturn, 1) := by decide +kernel
theorem dX6_ruling_90 : decode cX6_ruling 90 = .ok (.aload_n 0, 1) := by decide +kernel
theorem dX6_ruling_91 : decode cX6_ruling 91 = .ok (.iload_n 1, 1) := by decide +kernel
theorem dX6_ruling_92 : decode cX6_ruling 92 = .ok (.invokevirtual 50, 3) := by decide +kernel
theorem dX6_ruling_95 : decode cX6_ruling 95 = .ok (.ifCond .eq 7, 3) := by decide +kernel
theorem dX6_ruling_98 : decode cX6_ruling 98 = .ok (.iconst 1, 1) := by decide +kernel
theorem dX6_ruling_99 : decode cX6_ruling 99 = .ok (.goto 4, 3) := by decide +kernel
theorem dX6_ruling_102 : decode cX6_ruling 102 = .ok (.iconst 0, 1) := by decide +kernel
theorem dX6_ruling_103 : decode cX6_ruling 103 = .ok (.ireturn, 1) := by decide +kernel
theorem dX6_ruling_104 : decode cX6_ruling 104 = .ok (.aload_n 0, 1) := by decide +kernel
theorem dX6_ruling_105 : decode cX6_ruling 105 = .ok (.iload_n 1, 1) := by decide +kernel
theorem dX6_ruling_106 : decode cX6_ruling 106 = .ok (.invokevirtual 195, 3) := by decide +kernel
theorem dX6_ruling_109 : decode cX6_ruling 109 = .ok (.ifCond .eq 7, 3) := by decide +kernel
theorem dX6_ruling_112 : decode cX6_ruling 112 = .ok (.iconst 1, 1) := by decide +kernel
theorem dX6_ruling_113 : decode cX6_ruling 113 = .ok (.goto 4, 3) := by decide +kernel
theorem dX6_ruling_116 : decode cX6_ruling 116 = .ok (.iconst 0, 1) := by decide +kernel
theorem dX6_ruling_117 : decode cX6_ruling 117 = .ok (.ireturn, 1) := by decide +kernel
theorem dX6_ruling_118 : decode cX6_ruling 118 = .ok (.aload_n 0, 1) := by decide +kernel
theorem dX6_ruling_119 : decode cX6_ruling 119 = .ok (.iload_n 1, 1) := by decide +kernel
theorem dX6_ruling_120 : decode cX6_ruling 120 = .ok (.invokevirtual 198, 3) := by decide +kernel
theorem dX6_ruling_123 : decode cX6_ruling 123 = .ok (.ireturn, 1) := by decide +kernel
theorem dX6_ruling_124 : decode cX6_ruling 124 = .ok (.aload_n 0, 1) := by decide +kernel
theorem dX6_ruling_125 : decode cX6_ruling 125 = .ok (.iload_n 1, 1) := by decide +kernel
theorem dX6_ruling_126 : decode cX6_ruling 126 = .ok (.invokevirtual 201, 3) := by decide +kernel
theorem dX6_ruling_129 : decode cX6_ruling 129 = .ok (.ireturn, 1) := by decide +kernel
theorem dX6_ruling_130 : decode cX6_ruling 130 = .ok (.iconst (-1), 1) := by decide +kernel
theorem dX6_ruling_131 : decode cX6_ruling 131 = .ok (.ireturn, 1) := by decide +kernel
theorem dX6_whyNot_0 : decode cX6_whyNot 0 = .ok (.aload_n 0, 1) := by decide +kernel
theorem dX6_whyNot_1 : decode cX6_whyNot 1 = .ok (.iload_n 1, 1) := by decide +kernel
theorem dX6_whyNot_2 : decode cX6_whyNot 2 = .ok (.iload_n 2, 1) := by decide +kernel
theorem dX6_whyNot_3 : decode cX6_whyNot 3 = .ok (.invokevirtual 129, 3) := by decide +kernel
theorem dX6_whyNot_6 : decode cX6_whyNot 6 = .ok (.ifCond .eq 12, 3) := by decide +kernel
theorem dX6_whyNot_9 : decode cX6_whyNot 9 = .ok (.aload_n 0, 1) := by decide +kernel
theorem dX6_whyNot_10 : decode cX6_whyNot 10 = .ok (.iload_n 1, 1) := by decide +kernel
theorem dX6_whyNot_11 : decode cX6_whyNot 11 = .ok (.iload_n 2, 1) := by decide +kernel
theorem dX6_whyNot_12 : decode cX6_whyNot 12 = .ok (.invokevirtual 102, 3) := by decide +kernel
theorem dX6_whyNot_15 : decode cX6_whyNot 15 = .ok (.goto 4, 3) := by decide +kernel
theorem dX6_whyNot_18 : decode cX6_whyNot 18 = .ok (.iconst (-1), 1) := by decide +kernel
theorem dX6_whyNot_19 : decode cX6_whyNot 19 = .ok (.ireturn, 1) := by decide +kernel
theorem dX6_laysFines_0 : decode cX6_laysFines 0 = .ok (.iconst 0, 1) := by decide +kernel
theorem dX6_laysFines_1 : decode cX6_laysFines 1 = .ok (.istore_n 2, 1) := by decide +kernel
theorem dX6_laysFines_2 : decode cX6_laysFines 2 = .ok (.iload_n 2, 1) := by decide +kernel
theorem dX6_laysFines_3 : decode cX6_laysFines 3 = .ok (.iconst 1, 1) := by decide +kernel
theorem dX6_laysFines_4 : decode cX6_laysFines 4 = .ok (.iadd, 1) := by decide +kernel
theorem dX6_laysFines_5 : decode cX6_laysFines 5 = .ok (.aload_n 0, 1) := by decide +kernel
theorem dX6_laysFines_6 : decode cX6_laysFines 6 = .ok (.iload_n 1, 1) := by decide +kernel
theorem dX6_laysFines_7 : decode cX6_laysFines 7 = .ok (.iconst 0, 1) := by decide +kernel
theorem dX6_laysFines_8 : decode cX6_laysFines 8 = .ok (.invokevirtual 60, 3) := by decide +kernel
theorem dX6_laysFines_11 : decode cX6_laysFines 11 = .ok (.if_icmp .ge 37, 3) := by decide +kernel
theorem dX6_laysFines_14 : decode cX6_laysFines 14 = .ok (.aload_n 0, 1) := by decide +kernel
theorem dX6_laysFines_15 : decode cX6_laysFines 15 = .ok (.getfield 25, 3) := by decide +kernel
theorem dX6_laysFines_18 : decode cX6_laysFines 18 = .ok (.iload_n 2, 1) := by decide +kernel
theorem dX6_laysFines_19 : decode cX6_laysFines 19 = .ok (.aload_n 0, 1) := by decide +kernel
theorem dX6_laysFines_20 : decode cX6_laysFines 20 = .ok (.iload_n 1, 1) := by decide +kernel
theorem dX6_laysFines_21 : decode cX6_laysFines 21 = .ok (.iload_n 2, 1) := by decide +kernel
theorem dX6_laysFines_22 : decode cX6_laysFines 22 = .ok (.iconst 0, 1) := by decide +kernel
theorem dX6_laysFines_23 : decode cX6_laysFines 23 = .ok (.invokevirtual 76, 3) := by decide +kernel
theorem dX6_laysFines_26 : decode cX6_laysFines 26 = .ok (.iastore, 1) := by decide +kernel
theorem dX6_laysFines_27 : decode cX6_laysFines 27 = .ok (.aload_n 0, 1) := by decide +kernel
theorem dX6_laysFines_28 : decode cX6_laysFines 28 = .ok (.getfield 28, 3) := by decide +kernel
theorem dX6_laysFines_31 : decode cX6_laysFines 31 = .ok (.iload_n 2, 1) := by decide +kernel
theorem dX6_laysFines_32 : decode cX6_laysFines 32 = .ok (.aload_n 0, 1) := by decide +kernel
theorem dX6_laysFines_33 : decode cX6_laysFines 33 = .ok (.iload_n 1, 1) := by decide +kernel
theorem dX6_laysFines_34 : decode cX6_laysFines 34 = .ok (.iload_n 2, 1) := by decide +kernel
theorem dX6_laysFines_35 : decode cX6_laysFines 35 = .ok (.iconst 1, 1) := by decide +kernel
theorem dX6_laysFines_36 : decode cX6_laysFines 36 = .ok (.iload_n 2, 1) := by decide +kernel
theorem dX6_laysFines_37 : decode cX6_laysFines 37 = .ok (.ishl, 1) := by decide +kernel
theorem dX6_laysFines_38 : decode cX6_laysFines 38 = .ok (.invokevirtual 76, 3) := by decide +kernel
theorem dX6_laysFines_41 : decode cX6_laysFines 41 = .ok (.iastore, 1) := by decide +kernel
theorem dX6_laysFines_42 : decode cX6_laysFines 42 = .ok (.iinc 2 1, 3) := by decide +kernel
theorem dX6_laysFines_45 : decode cX6_laysFines 45 = .ok (.goto (-43), 3) := by decide +kernel
theorem dX6_laysFines_48 : decode cX6_laysFines 48 = .ok (.return_, 1) := by decide +kernel
theorem dX6_fastCost_0 : decode cX6_fastCost 0 = .ok (.aload_n 0, 1) := by decide +kernel
theorem dX6_fastCost_1 : decode cX6_fastCost 1 = .ok (.iload_n 1, 1) := by decide +kernel
theorem dX6_fastCost_2 : decode cX6_fastCost 2 = .ok (.iload_n 2, 1) := by decide +kernel
theorem dX6_fastCost_3 : decode cX6_fastCost 3 = .ok (.invokevirtual 80, 3) := by decide +kernel
theorem dX6_fastCost_6 : decode cX6_fastCost 6 = .ok (.istore_n 3, 1) := by decide +kernel
theorem dX6_fastCost_7 : decode cX6_fastCost 7 = .ok (.iconst 0, 1) := by decide +kernel
theorem dX6_fastCost_8 : decode cX6_fastCost 8 = .ok (.istore 4, 2) := by decide +kernel
theorem dX6_fastCost_10 : decode cX6_fastCost 10 = .ok (.iload 4, 2) := by decide +kernel
theorem dX6_fastCost_12 : decode cX6_fastCost 12 = .ok (.iconst 1, 1) := by decide +kernel
theorem dX6_fastCost_13 : decode cX6_fastCost 13 = .ok (.iadd, 1) := by decide +kernel
theorem dX6_fastCost_14 : decode cX6_fastCost 14 = .ok (.aload_n 0, 1) := by decide +kernel
theorem dX6_fastCost_15 : decode cX6_fastCost 15 = .ok (.iload_n 1, 1) := by decide +kernel
theorem dX6_fastCost_16 : decode cX6_fastCost 16 = .ok (.iconst 0, 1) := by decide +kernel
theorem dX6_fastCost_17 : decode cX6_fastCost 17 = .ok (.invokevirtual 60, 3) := by decide +kernel
theorem dX6_fastCost_20 : decode cX6_fastCost 20 = .ok (.if_icmp .ge 39, 3) := by decide +kernel
theorem dX6_fastCost_23 : decode cX6_fastCost 23 = .ok (.iload_n 3, 1) := by decide +kernel
theorem dX6_fastCost_24 : decode cX6_fastCost 24 = .ok (.iload_n 2, 1) := by decide +kernel
theorem dX6_fastCost_25 : decode cX6_fastCost 25 = .ok (.iload 4, 2) := by decide +kernel
theorem dX6_fastCost_27 : decode cX6_fastCost 27 = .ok (.ishr, 1) := by decide +kernel
theorem dX6_fastCost_28 : decode cX6_fastCost 28 = .ok (.iconst 1, 1) := by decide +kernel
theorem dX6_fastCost_29 : decode cX6_fastCost 29 = .ok (.iand, 1) := by decide +kernel
theorem dX6_fastCost_30 : decode cX6_fastCost 30 = .ok (.iconst 1, 1) := by decide +kernel
theorem dX6_fastCost_31 : decode cX6_fastCost 31 = .ok (.if_icmp .ne 13, 3) := by decide +kernel
theorem dX6_fastCost_34 : decode cX6_fastCost 34 = .ok (.aload_n 0, 1) := by decide +kernel
theorem dX6_fastCost_35 : decode cX6_fastCost 35 = .ok (.getfield 28, 3) := by decide +kernel
theorem dX6_fastCost_38 : decode cX6_fastCost 38 = .ok (.iload 4, 2) := by decide +kernel
theorem dX6_fastCost_40 : decode cX6_fastCost 40 = .ok (.iaload, 1) := by decide +kernel
theorem dX6_fastCost_41 : decode cX6_fastCost 41 = .ok (.goto 10, 3) := by decide +kernel
theorem dX6_fastCost_44 : decode cX6_fastCost 44 = .ok (.aload_n 0, 1) := by decide +kernel
theorem dX6_fastCost_45 : decode cX6_fastCost 45 = .ok (.getfield 25, 3) := by decide +kernel
theorem dX6_fastCost_48 : decode cX6_fastCost 48 = .ok (.iload 4, 2) := by decide +kernel
theorem dX6_fastCost_50 : decode cX6_fastCost 50 = .ok (.iaload, 1) := by decide +kernel
theorem dX6_fastCost_51 : decode cX6_fastCost 51 = .ok (.iadd, 1) := by decide +kernel
theorem dX6_fastCost_52 : decode cX6_fastCost 52 = .ok (.istore_n 3, 1) := by decide +kernel
theorem dX6_fastCost_53 : decode cX6_fastCost 53 = .ok (.iinc 4 1, 3) := by decide +kernel
theorem dX6_fastCost_56 : decode cX6_fastCost 56 = .ok (.goto (-46), 3) := by decide +kernel
theorem dX6_fastCost_59 : decode cX6_fastCost 59 = .ok (.iload_n 3, 1) := by decide +kernel
theorem dX6_fastCost_60 : decode cX6_fastCost 60 = .ok (.ireturn, 1) := by decide +kernel
theorem dX6_bestSet_0 : decode cX6_bestSet 0 = .ok (.aload_n 0, 1) := by decide +kernel
theorem dX6_bestSet_1 : decode cX6_bestSet 1 = .ok (.iload_n 1, 1) := by decide +kernel
theorem dX6_bestSet_2 : decode cX6_bestSet 2 = .ok (.invokevirtual 204, 3) := by decide +kernel
theorem dX6_bestSet_5 : decode cX6_bestSet 5 = .ok (.iconst 0, 1) := by decide +kernel
theorem dX6_bestSet_6 : decode cX6_bestSet 6 = .ok (.istore_n 2, 1) := by decide +kernel
theorem dX6_bestSet_7 : decode cX6_bestSet 7 = .ok (.aload_n 0, 1) := by decide +kernel
theorem dX6_bestSet_8 : decode cX6_bestSet 8 = .ok (.iload_n 1, 1) := by decide +kernel
theorem dX6_bestSet_9 : decode cX6_bestSet 9 = .ok (.iconst 0, 1) := by decide +kernel
theorem dX6_bestSet_10 : decode cX6_bestSet 10 = .ok (.invokevirtual 208, 3) := by decide +kernel
theorem dX6_bestSet_13 : decode cX6_bestSet 13 = .ok (.istore_n 3, 1) := by decide +kernel
theorem dX6_bestSet_14 : decode cX6_bestSet 14 = .ok (.iconst 1, 1) := by decide +kernel
theorem dX6_bestSet_15 : decode cX6_bestSet 15 = .ok (.istore 4, 2) := by decide +kernel
theorem dX6_bestSet_17 : decode cX6_bestSet 17 = .ok (.iload 4, 2) := by decide +kernel
theorem dX6_bestSet_19 : decode cX6_bestSet 19 = .ok (.iconst 1, 1) := by decide +kernel
theorem dX6_bestSet_20 : decode cX6_bestSet 20 = .ok (.aload_n 0, 1) := by decide +kernel
theorem dX6_bestSet_21 : decode cX6_bestSet 21 = .ok (.iload_n 1, 1) := by decide +kernel
theorem dX6_bestSet_22 : decode cX6_bestSet 22 = .ok (.iconst 0, 1) := by decide +kernel
theorem dX6_bestSet_23 : decode cX6_bestSet 23 = .ok (.invokevirtual 60, 3) := by decide +kernel
theorem dX6_bestSet_26 : decode cX6_bestSet 26 = .ok (.iconst 1, 1) := by decide +kernel
theorem dX6_bestSet_27 : decode cX6_bestSet 27 = .ok (.isub, 1) := by decide +kernel
theorem dX6_bestSet_28 : decode cX6_bestSet 28 = .ok (.ishl, 1) := by decide +kernel
theorem dX6_bestSet_29 : decode cX6_bestSet 29 = .ok (.if_icmp .ge 73, 3) := by decide +kernel
theorem dX6_bestSet_32 : decode cX6_bestSet 32 = .ok (.aload_n 0, 1) := by decide +kernel
theorem dX6_bestSet_33 : decode cX6_bestSet 33 = .ok (.iload_n 1, 1) := by decide +kernel
theorem dX6_bestSet_34 : decode cX6_bestSet 34 = .ok (.iload 4, 2) := by decide +kernel
theorem dX6_bestSet_36 : decode cX6_bestSet 36 = .ok (.invokevirtual 208, 3) := by decide +kernel
theorem dX6_bestSet_39 : decode cX6_bestSet 39 = .ok (.istore 5, 2) := by decide +kernel
theorem dX6_bestSet_41 : decode cX6_bestSet 41 = .ok (.iload 5, 2) := by decide +kernel
theorem dX6_bestSet_43 : decode cX6_bestSet 43 = .ok (.iload_n 3, 1) := by decide +kernel
theorem dX6_bestSet_44 : decode cX6_bestSet 44 = .ok (.if_icmp .lt 21, 3) := by decide +kernel
theorem dX6_bestSet_47 : decode cX6_bestSet 47 = .ok (.iload 5, 2) := by decide +kernel
theorem dX6_bestSet_49 : decode cX6_bestSet 49 = .ok (.iload_n 3, 1) := by decide +kernel
theorem dX6_bestSet_50 : decode cX6_bestSet 50 = .ok (.if_icmp .ne 19, 3) := by decide +kernel
theorem dX6_bestSet_53 : decode cX6_bestSet 53 = .ok (.iload 4, 2) := by decide +kernel
theorem dX6_bestSet_55 : decode cX6_bestSet 55 = .ok (.invokestatic 189, 3) := by decide +kernel
theorem dX6_bestSet_58 : decode cX6_bestSet 58 = .ok (.iload_n 2, 1) := by decide +kernel
theorem dX6_bestSet_59 : decode cX6_bestSet 59 = .ok (.invokestatic 189, 3) := by decide +kernel
theorem dX6_bestSet_62 : decode cX6_bestSet 62 = .ok (.if_icmp .ge 7, 3) := by decide +kernel
theorem dX6_bestSet_65 : decode cX6_bestSet 65 = .ok (.iconst 1, 1) := by decide +kernel
theorem dX6_bestSet_66 : decode cX6_bestSet 66 = .ok (.goto 4, 3) := by decide +kernel
theorem dX6_bestSet_69 : decode cX6_bestSet 69 = .ok (.iconst 0, 1) := by decide +kernel
theorem dX6_bestSet_70 : decode cX6_bestSet 70 = .ok (.istore 6, 2) := by decide +kernel
theorem dX6_bestSet_72 : decode cX6_bestSet 72 = .ok (.iload 6, 2) := by decide +kernel
theorem dX6_bestSet_74 : decode cX6_bestSet 74 = .ok (.ifCond .eq 8, 3) := by decide +kernel
theorem dX6_bestSet_77 : decode cX6_bestSet 77 = .ok (.iload 4, 2) := by decide +kernel
theorem dX6_bestSet_79 : decode cX6_bestSet 79 = .ok (.goto 4, 3) := by decide +kernel
theorem dX6_bestSet_82 : decode cX6_bestSet 82 = .ok (.iload_n 2, 1) := by decide +kernel
theorem dX6_bestSet_83 : decode cX6_bestSet 83 = .ok (.istore_n 2, 1) := by decide +kernel
theorem dX6_bestSet_84 : decode cX6_bestSet 84 = .ok (.iload 6, 2) := by decide +kernel
theorem dX6_bestSet_86 : decode cX6_bestSet 86 = .ok (.ifCond .eq 8, 3) := by decide +kernel
theorem dX6_bestSet_89 : decode cX6_bestSet 89 = .ok (.iload 5, 2) := by decide +kernel
theorem dX6_bestSet_91 : decode cX6_bestSet 91 = .ok (.goto 4, 3) := by decide +kernel
theorem dX6_bestSet_94 : decode cX6_bestSet 94 = .ok (.iload_n 3, 1) := by decide +kernel
theorem dX6_bestSet_95 : decode cX6_bestSet 95 = .ok (.istore_n 3, 1) := by decide +kernel
theorem dX6_bestSet_96 : decode cX6_bestSet 96 = .ok (.iinc 4 1, 3) := by decide +kernel
theorem dX6_bestSet_99 : decode cX6_bestSet 99 = .ok (.goto (-82), 3) := by decide +kernel
theorem dX6_bestSet_102 : decode cX6_bestSet 102 = .ok (.iload_n 2, 1) := by decide +kernel
theorem dX6_bestSet_103 : decode cX6_bestSet 103 = .ok (.ireturn, 1) := by decide +kernel
theorem dX6_best_0 : decode cX6_best 0 = .ok (.aload_n 0, 1) := by decide +kernel
theorem dX6_best_1 : decode cX6_best 1 = .ok (.iload_n 1, 1) := by decide +kernel
theorem dX6_best_2 : decode cX6_best 2 = .ok (.invokevirtual 57, 3) := by decide +kernel
theorem dX6_best_5 : decode cX6_best 5 = .ok (.ifCond .eq 21, 3) := by decide +kernel
theorem dX6_best_8 : decode cX6_best 8 = .ok (.iload_n 2, 1) := by decide +kernel
theorem dX6_best_9 : decode cX6_best 9 = .ok (.iconst 0, 1) := by decide +kernel
theorem dX6_best_10 : decode cX6_best 10 = .ok (.iconst 2, 1) := by decide +kernel
theorem dX6_best_11 : decode cX6_best 11 = .ok (.invokestatic 42, 3) := by decide +kernel
theorem dX6_best_14 : decode cX6_best 14 = .ok (.ifCond .eq 12, 3) := by decide +kernel
theorem dX6_best_17 : decode cX6_best 17 = .ok (.iload_n 3, 1) := by decide +kernel
theorem dX6_best_18 : decode cX6_best 18 = .ok (.iconst 0, 1) := by decide +kernel
theorem dX6_best_19 : decode cX6_best 19 = .ok (.iconst 1, 1) := by decide +kernel
theorem dX6_best_20 : decode cX6_best 20 = .ok (.invokestatic 42, 3) := by decide +kernel
theorem dX6_best_23 : decode cX6_best 23 = .ok (.ifCond .ne 5, 3) := by decide +kernel
theorem dX6_best_26 : decode cX6_best 26 = .ok (.iconst (-1), 1) := by decide +kernel
theorem dX6_best_27 : decode cX6_best 27 = .ok (.ireturn, 1) := by decide +kernel
theorem dX6_best_28 : decode cX6_best 28 = .ok (.aload_n 0, 1) := by decide +kernel
theorem dX6_best_29 : decode cX6_best 29 = .ok (.iload_n 1, 1) := by decide +kernel
theorem dX6_best_30 : decode cX6_best 30 = .ok (.invokevirtual 211, 3) := by decide +kernel
theorem dX6_best_33 : decode cX6_best 33 = .ok (.istore 4, 2) := by decide +kernel
theorem dX6_best_35 : decode cX6_best 35 = .ok (.iload_n 2, 1) := by decide +kernel
theorem dX6_best_36 : decode cX6_best 36 = .ok (.ifCond .ne 8, 3) := by decide +kernel
theorem dX6_best_39 : decode cX6_best 39 = .ok (.iload 4, 2) := by decide +kernel
theorem dX6_best_41 : decode cX6_best 41 = .ok (.goto 23, 3) := by decide +kernel
theorem dX6_best_44 : decode cX6_best 44 = .ok (.iload_n 2, 1) := by decide +kernel
theorem dX6_best_45 : decode cX6_best 45 = .ok (.iconst 1, 1) := by decide +kernel
theorem dX6_best_46 : decode cX6_best 46 = .ok (.if_icmp .ne 13, 3) := by decide +kernel
theorem dX6_best_49 : decode cX6_best 49 = .ok (.aload_n 0, 1) := by decide +kernel
theorem dX6_best_50 : decode cX6_best 50 = .ok (.iload_n 1, 1) := by decide +kernel
theorem dX6_best_51 : decode cX6_best 51 = .ok (.iload 4, 2) := by decide +kernel
theorem dX6_best_53 : decode cX6_best 53 = .ok (.invokevirtual 86, 3) := by decide +kernel
theorem dX6_best_56 : decode cX6_best 56 = .ok (.goto 8, 3) := by decide +kernel
theorem dX6_best_59 : decode cX6_best 59 = .ok (.iload 4, 2) := by decide +kernel
theorem dX6_best_61 : decode cX6_best 61 = .ok (.invokestatic 189, 3) := by decide +kernel
theorem dX6_best_64 : decode cX6_best 64 = .ok (.ireturn, 1) := by decide +kernel
theorem dX6_splits_0 : decode cX6_splits 0 = .ok (.aload_n 0, 1) := by decide +kernel
theorem dX6_splits_1 : decode cX6_splits 1 = .ok (.iload_n 1, 1) := by decide +kernel
theorem dX6_splits_2 : decode cX6_splits 2 = .ok (.iconst 0, 1) := by decide +kernel
theorem dX6_splits_3 : decode cX6_splits 3 = .ok (.invokevirtual 60, 3) := by decide +kernel
theorem dX6_splits_6 : decode cX6_splits 6 = .ok (.istore_n 2, 1) := by decide +kernel
theorem dX6_splits_7 : decode cX6_splits 7 = .ok (.aload_n 0, 1) := by decide +kernel
theorem dX6_splits_8 : decode cX6_splits 8 = .ok (.getfield 31, 3) := by decide +kernel
theorem dX6_splits_11 : decode cX6_splits 11 = .ok (.iconst 0, 1) := by decide +kernel
theorem dX6_splits_12 : decode cX6_splits 12 = .ok (.iconst 1, 1) := by decide +kernel
theorem dX6_splits_13 : decode cX6_splits 13 = .ok (.iastore, 1) := by decide +kernel
theorem dX6_splits_14 : decode cX6_splits 14 = .ok (.iconst 1, 1) := by decide +kernel
theorem dX6_splits_15 : decode cX6_splits 15 = .ok (.istore_n 3, 1) := by decide +kernel
theorem dX6_splits_16 : decode cX6_splits 16 = .ok (.iload_n 3, 1) := by decide +kernel
theorem dX6_splits_17 : decode cX6_splits 17 = .ok (.iload_n 2, 1) := by decide +kernel
theorem dX6_splits_18 : decode cX6_splits 18 = .ok (.if_icmp .gt 78, 3) := by decide +kernel
theorem dX6_splits_21 : decode cX6_splits 21 = .ok (.iconst 0, 1) := by decide +kernel
theorem dX6_splits_22 : decode cX6_splits 22 = .ok (.istore 4, 2) := by decide +kernel
theorem dX6_splits_24 : decode cX6_splits 24 = .ok (.aload_n 0, 1) := by decide +kernel
theorem dX6_splits_25 : decode cX6_splits 25 = .ok (.getfield 31, 3) := by decide +kernel
theorem dX6_splits_28 : decode cX6_splits 28 = .ok (.iload_n 3, 1) := by decide +kernel
theorem dX6_splits_29 : decode cX6_splits 29 = .ok (.iconst 0, 1) := by decide +kernel
theorem dX6_splits_30 : decode cX6_splits 30 = .ok (.iastore, 1) := by decide +kernel
theorem dX6_splits_31 : decode cX6_splits 31 = .ok (.iload_n 3, 1) := by decide +kernel
theorem dX6_splits_32 : decode cX6_splits 32 = .ok (.iconst 1, 1) := by decide +kernel
theorem dX6_splits_33 : decode cX6_splits 33 = .ok (.isub, 1) := by decide +kernel
theorem dX6_splits_34 : decode cX6_splits 34 = .ok (.istore 5, 2) := by decide +kernel
theorem dX6_splits_36 : decode cX6_splits 36 = .ok (.iload 5, 2) := by decide +kernel
theorem dX6_splits_38 : decode cX6_splits 38 = .ok (.ifCond .lt 52, 3) := by decide +kernel
theorem dX6_splits_41 : decode cX6_splits 41 = .ok (.iload 4, 2) := by decide +kernel
theorem dX6_splits_43 : decode cX6_splits 43 = .ok (.aload_n 0, 1) := by decide +kernel
theorem dX6_splits_44 : decode cX6_splits 44 = .ok (.iload_n 1, 1) := by decide +kernel
theorem dX6_splits_45 : decode cX6_splits 45 = .ok (.iload 5, 2) := by decide +kernel
theorem dX6_splits_47 : decode cX6_splits 47 = .ok (.invokevirtual 66, 3) := by decide +kernel
theorem dX6_splits_50 : decode cX6_splits 50 = .ok (.iadd, 1) := by decide +kernel
theorem dX6_splits_51 : decode cX6_splits 51 = .ok (.istore 4, 2) := by decide +kernel
theorem dX6_splits_53 : decode cX6_splits 53 = .ok (.aload_n 0, 1) := by decide +kernel
theorem dX6_splits_54 : decode cX6_splits 54 = .ok (.getfield 31, 3) := by decide +kernel
theorem dX6_splits_57 : decode cX6_splits 57 = .ok (.iload_n 3, 1) := by decide +kernel
theorem dX6_splits_58 : decode cX6_splits 58 = .ok (.dup2, 1) := by decide +kernel
theorem dX6_splits_59 : decode cX6_splits 59 = .ok (.iaload, 1) := by decide +kernel
theorem dX6_splits_60 : decode cX6_splits 60 = .ok (.iload 4, 2) := by decide +kernel
theorem dX6_splits_62 : decode cX6_splits 62 = .ok (.aload_n 0, 1) := by decide +kernel
theorem dX6_splits_63 : decode cX6_splits 63 = .ok (.getfield 7, 3) := by decide +kernel
theorem dX6_splits_66 : decode cX6_splits 66 = .ok (.iconst 2, 1) := by decide +kernel
theorem dX6_splits_67 : decode cX6_splits 67 = .ok (.iaload, 1) := by decide +kernel
theorem dX6_splits_68 : decode cX6_splits 68 = .ok (.if_icmp .gt 13, 3) := by decide +kernel
theorem dX6_splits_71 : decode cX6_splits 71 = .ok (.aload_n 0, 1) := by decide +kernel
theorem dX6_splits_72 : decode cX6_splits 72 = .ok (.getfield 31, 3) := by decide +kernel
theorem dX6_splits_75 : decode cX6_splits 75 = .ok (.iload 5, 2) := by decide +kernel
theorem dX6_splits_77 : decode cX6_splits 77 = .ok (.iaload, 1) := by decide +kernel
theorem dX6_splits_78 : decode cX6_splits 78 = .ok (.goto 4, 3) := by decide +kernel
theorem dX6_splits_81 : decode cX6_splits 81 = .ok (.iconst 0, 1) := by decide +kernel
theorem dX6_splits_82 : decode cX6_splits 82 = .ok (.iadd, 1) := by decide +kernel
theorem dX6_splits_83 : decode cX6_splits 83 = .ok (.iastore, 1) := by decide +kernel
theorem dX6_splits_84 : decode cX6_splits 84 = .ok (.iinc 5 (-1), 3) := by decide +kernel
theorem dX6_splits_87 : decode cX6_splits 87 = .ok (.goto (-51), 3) := by decide +kernel
theorem dX6_splits_90 : decode cX6_splits 90 = .ok (.iinc 3 1, 3) := by decide +kernel
theorem dX6_splits_93 : decode cX6_splits 93 = .ok (.goto (-77), 3) := by decide +kernel
theorem dX6_splits_96 : decode cX6_splits 96 = .ok (.aload_n 0, 1) := by decide +kernel
theorem dX6_splits_97 : decode cX6_splits 97 = .ok (.getfield 31, 3) := by decide +kernel
theorem dX6_splits_100 : decode cX6_splits 100 = .ok (.iload_n 2, 1) := by decide +kernel
theorem dX6_splits_101 : decode cX6_splits 101 = .ok (.iaload, 1) := by decide +kernel
theorem dX6_splits_102 : decode cX6_splits 102 = .ok (.ireturn, 1) := by decide +kernel
theorem dX6_ways_0 : decode cX6_ways 0 = .ok (.aload_n 0, 1) := by decide +kernel
theorem dX6_ways_1 : decode cX6_ways 1 = .ok (.iload_n 1, 1) := by decide +kernel
theorem dX6_ways_2 : decode cX6_ways 2 = .ok (.invokevirtual 57, 3) := by decide +kernel
theorem dX6_ways_5 : decode cX6_ways 5 = .ok (.ifCond .eq 20, 3) := by decide +kernel
theorem dX6_ways_8 : decode cX6_ways 8 = .ok (.iload_n 2, 1) := by decide +kernel
theorem dX6_ways_9 : decode cX6_ways 9 = .ok (.iconst 0, 1) := by decide +kernel
theorem dX6_ways_10 : decode cX6_ways 10 = .ok (.iconst 1, 1) := by decide +kernel
theorem dX6_ways_11 : decode cX6_ways 11 = .ok (.invokestatic 42, 3) := by decide +kernel
theorem dX6_ways_14 : decode cX6_ways 14 = .ok (.ifCond .eq 11, 3) := by decide +kernel
theorem dX6_ways_17 : decode cX6_ways 17 = .ok (.aload_n 0, 1) := by decide +kernel
theorem dX6_ways_18 : decode cX6_ways 18 = .ok (.iload_n 1, 1) := by decide +kernel
theorem dX6_ways_19 : decode cX6_ways 19 = .ok (.invokevirtual 214, 3) := by decide +kernel
theorem dX6_ways_22 : decode cX6_ways 22 = .ok (.goto 4, 3) := by decide +kernel
theorem dX6_ways_25 : decode cX6_ways 25 = .ok (.iconst (-1), 1) := by decide +kernel
theorem dX6_ways_26 : decode cX6_ways 26 = .ok (.ireturn, 1) := by decide +kernel
theorem dX6_stayed_0 : decode cX6_stayed 0 = .ok (.iconst 0, 1) := by decide +kernel
theorem dX6_stayed_1 : decode cX6_stayed 1 = .ok (.istore_n 1, 1) := by decide +kernel
theorem dX6_stayed_2 : decode cX6_stayed 2 = .ok (.iconst 0, 1) := by decide +kernel
theorem dX6_stayed_3 : decode cX6_stayed 3 = .ok (.istore_n 2, 1) := by decide +kernel
theorem dX6_stayed_4 : decode cX6_stayed 4 = .ok (.iload_n 2, 1) := by decide +kernel
theorem dX6_stayed_5 : decode cX6_stayed 5 = .ok (.aload_n 0, 1) := by decide +kernel
theorem dX6_stayed_6 : decode cX6_stayed 6 = .ok (.getfield 7, 3) := by decide +kernel
theorem dX6_stayed_9 : decode cX6_stayed 9 = .ok (.iconst 3, 1) := by decide +kernel
theorem dX6_stayed_10 : decode cX6_stayed 10 = .ok (.iaload, 1) := by decide +kernel
theorem dX6_stayed_11 : decode cX6_stayed 11 = .ok (.if_icmp .ge 25, 3) := by decide +kernel
theorem dX6_stayed_14 : decode cX6_stayed 14 = .ok (.iload_n 1, 1) := by decide +kernel
theorem dX6_stayed_15 : decode cX6_stayed 15 = .ok (.aload_n 0, 1) := by decide +kernel
theorem dX6_stayed_16 : decode cX6_stayed 16 = .ok (.iload_n 2, 1) := by decide +kernel
theorem dX6_stayed_17 : decode cX6_stayed 17 = .ok (.invokevirtual 96, 3) := by decide +kernel
theorem dX6_stayed_20 : decode cX6_stayed 20 = .ok (.ifCond .eq 7, 3) := by decide +kernel
theorem dX6_stayed_23 : decode cX6_stayed 23 = .ok (.iconst 1, 1) := by decide +kernel
theorem dX6_stayed_24 : decode cX6_stayed 24 = .ok (.goto 4, 3) := by decide +kernel
theorem dX6_stayed_27 : decode cX6_stayed 27 = .ok (.iconst 0, 1) := by decide +kernel
theorem dX6_stayed_28 : decode cX6_stayed 28 = .ok (.iadd, 1) := by decide +kernel
theorem dX6_stayed_29 : decode cX6_stayed 29 = .ok (.istore_n 1, 1) := by decide +kernel
theorem dX6_stayed_30 : decode cX6_stayed 30 = .ok (.iinc 2 1, 3) := by decide +kernel
theorem dX6_stayed_33 : decode cX6_stayed 33 = .ok (.goto (-29), 3) := by decide +kernel
theorem dX6_stayed_36 : decode cX6_stayed 36 = .ok (.iload_n 1, 1) := by decide +kernel
theorem dX6_stayed_37 : decode cX6_stayed 37 = .ok (.ireturn, 1) := by decide +kernel
theorem dX6_countingOnes_0 : decode cX6_countingOnes 0 = .ok (.iconst 0, 1) := by decide +kernel
theorem dX6_countingOnes_1 : decode cX6_countingOnes 1 = .ok (.istore_n 1, 1) := by decide +kernel
theorem dX6_countingOnes_2 : decode cX6_countingOnes 2 = .ok (.iconst 0, 1) := by decide +kernel
theorem dX6_countingOnes_3 : decode cX6_countingOnes 3 = .ok (.istore_n 2, 1) := by decide +kernel
theorem dX6_countingOnes_4 : decode cX6_countingOnes 4 = .ok (.iload_n 2, 1) := by decide +kernel
theorem dX6_countingOnes_5 : decode cX6_countingOnes 5 = .ok (.aload_n 0, 1) := by decide +kernel
theorem dX6_countingOnes_6 : decode cX6_countingOnes 6 = .ok (.getfield 7, 3) := by decide +kernel
theorem dX6_countingOnes_9 : decode cX6_countingOnes 9 = .ok (.iconst 4, 1) := by decide +kernel
theorem dX6_countingOnes_10 : decode cX6_countingOnes 10 = .ok (.iaload, 1) := by decide +kernel
theorem dX6_countingOnes_11 : decode cX6_countingOnes 11 = .ok (.if_icmp .ge 25, 3) := by decide +kernel
theorem dX6_countingOnes_14 : decode cX6_countingOnes 14 = .ok (.iload_n 1, 1) := by decide +kernel
theorem dX6_countingOnes_15 : decode cX6_countingOnes 15 = .ok (.aload_n 0, 1) := by decide +kernel
theorem dX6_countingOnes_16 : decode cX6_countingOnes 16 = .ok (.iload_n 2, 1) := by decide +kernel
theorem dX6_countingOnes_17 : decode cX6_countingOnes 17 = .ok (.invokevirtual 195, 3) := by decide +kernel
theorem dX6_countingOnes_20 : decode cX6_countingOnes 20 = .ok (.ifCond .eq 7, 3) := by decide +kernel
theorem dX6_countingOnes_23 : decode cX6_countingOnes 23 = .ok (.iconst 1, 1) := by decide +kernel
theorem dX6_countingOnes_24 : decode cX6_countingOnes 24 = .ok (.goto 4, 3) := by decide +kernel
theorem dX6_countingOnes_27 : decode cX6_countingOnes 27 = .ok (.iconst 0, 1) := by decide +kernel
theorem dX6_countingOnes_28 : decode cX6_countingOnes 28 = .ok (.iadd, 1) := by decide +kernel
theorem dX6_countingOnes_29 : decode cX6_countingOnes 29 = .ok (.istore_n 1, 1) := by decide +kernel
theorem dX6_countingOnes_30 : decode cX6_countingOnes 30 = .ok (.iinc 2 1, 3) := by decide +kernel
theorem dX6_countingOnes_33 : decode cX6_countingOnes 33 = .ok (.goto (-29), 3) := by decide +kernel
theorem dX6_countingOnes_36 : decode cX6_countingOnes 36 = .ok (.iload_n 1, 1) := by decide +kernel
theorem dX6_countingOnes_37 : decode cX6_countingOnes 37 = .ok (.ireturn, 1) := by decide +kernel
theorem dX6_allCommas_0 : decode cX6_allCommas 0 = .ok (.iconst 0, 1) := by decide +kernel
theorem dX6_allCommas_1 : decode cX6_allCommas 1 = .ok (.istore_n 1, 1) := by decide +kernel
theorem dX6_allCommas_2 : decode cX6_allCommas 2 = .ok (.iconst 0, 1) := by decide +kernel
theorem dX6_allCommas_3 : decode cX6_allCommas 3 = .ok (.istore_n 2, 1) := by decide +kernel
theorem dX6_allCommas_4 : decode cX6_allCommas 4 = .ok (.iload_n 2, 1) := by decide +kernel
theorem dX6_allCommas_5 : decode cX6_allCommas 5 = .ok (.aload_n 0, 1) := by decide +kernel
theorem dX6_allCommas_6 : decode cX6_allCommas 6 = .ok (.getfield 7, 3) := by decide +kernel
theorem dX6_allCommas_9 : decode cX6_allCommas 9 = .ok (.iconst 3, 1) := by decide +kernel
theorem dX6_allCommas_10 : decode cX6_allCommas 10 = .ok (.iaload, 1) := by decide +kernel
theorem dX6_allCommas_11 : decode cX6_allCommas 11 = .ok (.if_icmp .ge 21, 3) := by decide +kernel
theorem dX6_allCommas_14 : decode cX6_allCommas 14 = .ok (.iload_n 1, 1) := by decide +kernel
theorem dX6_allCommas_15 : decode cX6_allCommas 15 = .ok (.aload_n 0, 1) := by decide +kernel
theorem dX6_allCommas_16 : decode cX6_allCommas 16 = .ok (.iload_n 2, 1) := by decide +kernel
theorem dX6_allCommas_17 : decode cX6_allCommas 17 = .ok (.iconst 1, 1) := by decide +kernel
theorem dX6_allCommas_18 : decode cX6_allCommas 18 = .ok (.invokevirtual 60, 3) := by decide +kernel
theorem dX6_allCommas_21 : decode cX6_allCommas 21 = .ok (.invokestatic 189, 3) := by decide +kernel
theorem dX6_allCommas_24 : decode cX6_allCommas 24 = .ok (.iadd, 1) := by decide +kernel
theorem dX6_allCommas_25 : decode cX6_allCommas 25 = .ok (.istore_n 1, 1) := by decide +kernel
theorem dX6_allCommas_26 : decode cX6_allCommas 26 = .ok (.iinc 2 1, 3) := by decide +kernel
theorem dX6_allCommas_29 : decode cX6_allCommas 29 = .ok (.goto (-25), 3) := by decide +kernel
theorem dX6_allCommas_32 : decode cX6_allCommas 32 = .ok (.iload_n 1, 1) := by decide +kernel
theorem dX6_allCommas_33 : decode cX6_allCommas 33 = .ok (.ireturn, 1) := by decide +kernel
theorem dX6_cheapest_0 : decode cX6_cheapest 0 = .ok (.bipush (-4), 2) := by decide +kernel
theorem dX6_cheapest_2 : decode cX6_cheapest 2 = .ok (.istore_n 1, 1) := by decide +kernel
theorem dX6_cheapest_3 : decode cX6_cheapest 3 = .ok (.aload_n 0, 1) := by decide +kernel
theorem dX6_cheapest_4 : decode cX6_cheapest 4 = .ok (.getfield 7, 3) := by decide +kernel
theorem dX6_cheapest_7 : decode cX6_cheapest 7 = .ok (.iconst 3, 1) := by decide +kernel
theorem dX6_cheapest_8 : decode cX6_cheapest 8 = .ok (.iaload, 1) := by decide +kernel
theorem dX6_cheapest_9 : decode cX6_cheapest 9 = .ok (.iconst 1, 1) := by decide +kernel
theorem dX6_cheapest_10 : decode cX6_cheapest 10 = .ok (.isub, 1) := by decide +kernel
theorem dX6_cheapest_11 : decode cX6_cheapest 11 = .ok (.istore_n 2, 1) := by decide +kernel
theorem dX6_cheapest_12 : decode cX6_cheapest 12 = .ok (.iload_n 2, 1) := by decide +kernel
theorem dX6_cheapest_13 : decode cX6_cheapest 13 = .ok (.ifCond .lt 34, 3) := by decide +kernel
theorem dX6_cheapest_16 : decode cX6_cheapest 16 = .ok (.iload_n 1, 1) := by decide +kernel
theorem dX6_cheapest_17 : decode cX6_cheapest 17 = .ok (.bipush (-4), 2) := by decide +kernel
theorem dX6_cheapest_19 : decode cX6_cheapest 19 = .ok (.if_icmp .eq 16, 3) := by decide +kernel
theorem dX6_cheapest_22 : decode cX6_cheapest 22 = .ok (.aload_n 0, 1) := by decide +kernel
theorem dX6_cheapest_23 : decode cX6_cheapest 23 = .ok (.iload_n 2, 1) := by decide +kernel
theorem dX6_cheapest_24 : decode cX6_cheapest 24 = .ok (.invokevirtual 89, 3) := by decide +kernel
theorem dX6_cheapest_27 : decode cX6_cheapest 27 = .ok (.aload_n 0, 1) := by decide +kernel
theorem dX6_cheapest_28 : decode cX6_cheapest 28 = .ok (.iload_n 1, 1) := by decide +kernel
theorem dX6_cheapest_29 : decode cX6_cheapest 29 = .ok (.invokevirtual 89, 3) := by decide +kernel
theorem dX6_cheapest_32 : decode cX6_cheapest 32 = .ok (.if_icmp .gt 7, 3) := by decide +kernel
theorem dX6_cheapest_35 : decode cX6_cheapest 35 = .ok (.iload_n 2, 1) := by decide +kernel
theorem dX6_cheapest_36 : decode cX6_cheapest 36 = .ok (.goto 4, 3) := by decide +kernel
theorem dX6_cheapest_39 : decode cX6_cheapest 39 = .ok (.iload_n 1, 1) := by decide +kernel
theorem dX6_cheapest_40 : decode cX6_cheapest 40 = .ok (.istore_n 1, 1) := by decide +kernel
theorem dX6_cheapest_41 : decode cX6_cheapest 41 = .ok (.iinc 2 (-1), 3) := by decide +kernel
theorem dX6_cheapest_44 : decode cX6_cheapest 44 = .ok (.goto (-32), 3) := by decide +kernel
theorem dX6_cheapest_47 : decode cX6_cheapest 47 = .ok (.iload_n 1, 1) := by decide +kernel
theorem dX6_cheapest_48 : decode cX6_cheapest 48 = .ok (.ireturn, 1) := by decide +kernel
theorem dX6_count_0 : decode cX6_count 0 = .ok (.iload_n 1, 1) := by decide +kernel
theorem dX6_count_1 : decode cX6_count 1 = .ok (.tableswitch 163 0 14 #[75, 82, 89, 94, 99, 106, 111, 116, 123, 131, 136, 136, 148, 153, 158], 75) := by decide +kernel
theorem dX6_count_76 : decode cX6_count 76 = .ok (.aload_n 0, 1) := by decide +kernel
theorem dX6_count_77 : decode cX6_count 77 = .ok (.getfield 7, 3) := by decide +kernel
theorem dX6_count_80 : decode cX6_count 80 = .ok (.iconst 0, 1) := by decide +kernel
theorem dX6_count_81 : decode cX6_count 81 = .ok (.iaload, 1) := by decide +kernel
theorem dX6_count_82 : decode cX6_count 82 = .ok (.ireturn, 1) := by decide +kernel
theorem dX6_count_83 : decode cX6_count 83 = .ok (.aload_n 0, 1) := by decide +kernel
theorem dX6_count_84 : decode cX6_count 84 = .ok (.getfield 7, 3) := by decide +kernel
theorem dX6_count_87 : decode cX6_count 87 = .ok (.iconst 3, 1) := by decide +kernel
theorem dX6_count_88 : decode cX6_count 88 = .ok (.iaload, 1) := by decide +kernel
theorem dX6_count_89 : decode cX6_count 89 = .ok (.ireturn, 1) := by decide +kernel
theorem dX6_count_90 : decode cX6_count 90 = .ok (.aload_n 0, 1) := by decide +kernel
theorem dX6_count_91 : decode cX6_count 91 = .ok (.invokevirtual 217, 3) := by decide +kernel
theorem dX6_count_94 : decode cX6_count 94 = .ok (.ireturn, 1) := by decide +kernel
theorem dX6_count_95 : decode cX6_count 95 = .ok (.aload_n 0, 1) := by decide +kernel
theorem dX6_count_96 : decode cX6_count 96 = .ok (.invokevirtual 220, 3) := by decide +kernel
theorem dX6_count_99 : decode cX6_count 99 = .ok (.ireturn, 1) := by decide +kernel
theorem dX6_count_100 : decode cX6_count 100 = .ok (.aload_n 0, 1) := by decide +kernel
theorem dX6_count_101 : decode cX6_count 101 = .ok (.getfield 7, 3) := by decide +kernel
theorem dX6_count_104 : decode cX6_count 104 = .ok (.iconst 4, 1) := by decide +kernel
theorem dX6_count_105 : decode cX6_count 105 = .ok (.iaload, 1) := by decide +kernel
theorem dX6_count_106 : decode cX6_count 106 = .ok (.ireturn, 1) := by decide +kernel
theorem dX6_count_107 : decode cX6_count 107 = .ok (.aload_n 0, 1) := by decide +kernel
theorem dX6_count_108 : decode cX6_count 108 = .ok (.invokevirtual 125, 3) := by decide +kernel
theorem dX6_count_111 : decode cX6_count 111 = .ok (.ireturn, 1) := by decide +kernel
theorem dX6_count_112 : decode cX6_count 112 = .ok (.aload_n 0, 1) := by decide +kernel
theorem dX6_count_113 : decode cX6_count 113 = .ok (.invokevirtual 223, 3) := by decide +kernel
theorem dX6_count_116 : decode cX6_count 116 = .ok (.ireturn, 1) := by decide +kernel
theorem dX6_count_117 : decode cX6_count 117 = .ok (.aload_n 0, 1) := by decide +kernel
theorem dX6_count_118 : decode cX6_count 118 = .ok (.getfield 7, 3) := by decide +kernel
theorem dX6_count_121 : decode cX6_count 121 = .ok (.iconst 5, 1) := by decide +kernel
theorem dX6_count_122 : decode cX6_count 122 = .ok (.iaload, 1) := by decide +kernel
theorem dX6_count_123 : decode cX6_count 123 = .ok (.ireturn, 1) := by decide +kernel
theorem dX6_count_124 : decode cX6_count 124 = .ok (.aload_n 0, 1) := by decide +kernel
theorem dX6_count_125 : decode cX6_count 125 = .ok (.getfield 7, 3) := by decide +kernel
theorem dX6_count_128 : decode cX6_count 128 = .ok (.bipush 6, 2) := by decide +kernel
theorem dX6_count_130 : decode cX6_count 130 = .ok (.iaload, 1) := by decide +kernel
theorem dX6_count_131 : decode cX6_count 131 = .ok (.ireturn, 1) := by decide +kernel
theorem dX6_count_132 : decode cX6_count 132 = .ok (.aload_n 0, 1) := by decide +kernel
theorem dX6_count_133 : decode cX6_count 133 = .ok (.invokevirtual 226, 3) := by decide +kernel
theorem dX6_count_136 : decode cX6_count 136 = .ok (.ireturn, 1) := by decide +kernel
theorem dX6_count_137 : decode cX6_count 137 = .ok (.aload_n 0, 1) := by decide +kernel
theorem dX6_count_138 : decode cX6_count 138 = .ok (.getfield 7, 3) := by decide +kernel
theorem dX6_count_141 : decode cX6_count 141 = .ok (.iconst 1, 1) := by decide +kernel
theorem dX6_count_142 : decode cX6_count 142 = .ok (.iload_n 1, 1) := by decide +kernel
theorem dX6_count_143 : decode cX6_count 143 = .ok (.iadd, 1) := by decide +kernel
theorem dX6_count_144 : decode cX6_count 144 = .ok (.bipush 10, 2) := by decide +kernel
theorem dX6_count_146 : decode cX6_count 146 = .ok (.isub, 1) := by decide +kernel
theorem dX6_count_147 : decode cX6_count 147 = .ok (.iaload, 1) := by decide +kernel
theorem dX6_count_148 : decode cX6_count 148 = .ok (.ireturn, 1) := by decide +kernel
theorem dX6_count_149 : decode cX6_count 149 = .ok (.aload_n 0, 1) := by decide +kernel
theorem dX6_count_150 : decode cX6_count 150 = .ok (.invokevirtual 229, 3) := by decide +kernel
theorem dX6_count_153 : decode cX6_count 153 = .ok (.ireturn, 1) := by decide +kernel
theorem dX6_count_154 : decode cX6_count 154 = .ok (.aload_n 0, 1) := by decide +kernel
theorem dX6_count_155 : decode cX6_count 155 = .ok (.getfield 135, 3) := by decide +kernel
theorem dX6_count_158 : decode cX6_count 158 = .ok (.ireturn, 1) := by decide +kernel
theorem dX6_count_159 : decode cX6_count 159 = .ok (.aload_n 0, 1) := by decide +kernel
theorem dX6_count_160 : decode cX6_count 160 = .ok (.getfield 34, 3) := by decide +kernel
theorem dX6_count_163 : decode cX6_count 163 = .ok (.ireturn, 1) := by decide +kernel
theorem dX6_count_164 : decode cX6_count 164 = .ok (.iconst (-1), 1) := by decide +kernel
theorem dX6_count_165 : decode cX6_count 165 = .ok (.ireturn, 1) := by decide +kernel
theorem dX6_length_0 : decode cX6_length 0 = .ok (.iconst 0, 1) := by decide +kernel
theorem dX6_length_1 : decode cX6_length 1 = .ok (.istore_n 1, 1) := by decide +kernel
theorem dX6_length_2 : decode cX6_length 2 = .ok (.iconst 0, 1) := by decide +kernel
theorem dX6_length_3 : decode cX6_length 3 = .ok (.istore_n 2, 1) := by decide +kernel
theorem dX6_length_4 : decode cX6_length 4 = .ok (.iload_n 2, 1) := by decide +kernel
theorem dX6_length_5 : decode cX6_length 5 = .ok (.aload_n 0, 1) := by decide +kernel
theorem dX6_length_6 : decode cX6_length 6 = .ok (.getfield 7, 3) := by decide +kernel
theorem dX6_length_9 : decode cX6_length 9 = .ok (.iconst 3, 1) := by decide +kernel
theorem dX6_length_10 : decode cX6_length 10 = .ok (.iaload, 1) := by decide +kernel
theorem dX6_length_11 : decode cX6_length 11 = .ok (.if_icmp .ge 18, 3) := by decide +kernel
theorem dX6_length_14 : decode cX6_length 14 = .ok (.iload_n 1, 1) := by decide +kernel
theorem dX6_length_15 : decode cX6_length 15 = .ok (.aload_n 0, 1) := by decide +kernel
theorem dX6_length_16 : decode cX6_length 16 = .ok (.iload_n 2, 1) := by decide +kernel
theorem dX6_length_17 : decode cX6_length 17 = .ok (.iconst 0, 1) := by decide +kernel
theorem dX6_length_18 : decode cX6_length 18 = .ok (.invokevirtual 60, 3) := by decide +kernel
theorem dX6_length_21 : decode cX6_length 21 = .ok (.iadd, 1) := by decide +kernel
theorem dX6_length_22 : decode cX6_length 22 = .ok (.istore_n 1, 1) := by decide +kernel
theorem dX6_length_23 : decode cX6_length 23 = .ok (.iinc 2 1, 3) := by decide +kernel
theorem dX6_length_26 : decode cX6_length 26 = .ok (.goto (-22), 3) := by decide +kernel
theorem dX6_length_29 : decode cX6_length 29 = .ok (.aload_n 0, 1) := by decide +kernel
theorem dX6_length_30 : decode cX6_length 30 = .ok (.getfield 7, 3) := by decide +kernel
theorem dX6_length_33 : decode cX6_length 33 = .ok (.iconst 3, 1) := by decide +kernel
theorem dX6_length_34 : decode cX6_length 34 = .ok (.iaload, 1) := by decide +kernel
theorem dX6_length_35 : decode cX6_length 35 = .ok (.ifCond .ne 7, 3) := by decide +kernel
theorem dX6_length_38 : decode cX6_length 38 = .ok (.dconst 0, 1) := by decide +kernel
theorem dX6_length_39 : decode cX6_length 39 = .ok (.goto 18, 3) := by decide +kernel
theorem dX6_length_42 : decode cX6_length 42 = .ok (.iload_n 1, 1) := by decide +kernel
theorem dX6_length_43 : decode cX6_length 43 = .ok (.i2d, 1) := by decide +kernel
theorem dX6_length_44 : decode cX6_length 44 = .ok (.aload_n 0, 1) := by decide +kernel
theorem dX6_length_45 : decode cX6_length 45 = .ok (.invokevirtual 226, 3) := by decide +kernel
theorem dX6_length_48 : decode cX6_length 48 = .ok (.aload_n 0, 1) := by decide +kernel
theorem dX6_length_49 : decode cX6_length 49 = .ok (.getfield 7, 3) := by decide +kernel
theorem dX6_length_52 : decode cX6_length 52 = .ok (.iconst 3, 1) := by decide +kernel
theorem dX6_length_53 : decode cX6_length 53 = .ok (.iaload, 1) := by decide +kernel
theorem dX6_length_54 : decode cX6_length 54 = .ok (.iadd, 1) := by decide +kernel
theorem dX6_length_55 : decode cX6_length 55 = .ok (.i2d, 1) := by decide +kernel
theorem dX6_length_56 : decode cX6_length 56 = .ok (.ddiv, 1) := by decide +kernel
theorem dX6_length_57 : decode cX6_length 57 = .ok (.dreturn, 1) := by decide +kernel
theorem dX6_fineBy_0 : decode cX6_fineBy 0 = .ok (.aload_n 0, 1) := by decide +kernel
theorem dX6_fineBy_1 : decode cX6_fineBy 1 = .ok (.iload_n 1, 1) := by decide +kernel
theorem dX6_fineBy_2 : decode cX6_fineBy 2 = .ok (.iconst 1, 1) := by decide +kernel
theorem dX6_fineBy_3 : decode cX6_fineBy 3 = .ok (.invokevirtual 60, 3) := by decide +kernel
theorem dX6_fineBy_6 : decode cX6_fineBy 6 = .ok (.iload_n 2, 1) := by decide +kernel
theorem dX6_fineBy_7 : decode cX6_fineBy 7 = .ok (.ishr, 1) := by decide +kernel
theorem dX6_fineBy_8 : decode cX6_fineBy 8 = .ok (.iconst 1, 1) := by decide +kernel
theorem dX6_fineBy_9 : decode cX6_fineBy 9 = .ok (.iand, 1) := by decide +kernel
theorem dX6_fineBy_10 : decode cX6_fineBy 10 = .ok (.iconst 1, 1) := by decide +kernel
theorem dX6_fineBy_11 : decode cX6_fineBy 11 = .ok (.if_icmp .ne 7, 3) := by decide +kernel
theorem dX6_fineBy_14 : decode cX6_fineBy 14 = .ok (.iconst 1, 1) := by decide +kernel
theorem dX6_fineBy_15 : decode cX6_fineBy 15 = .ok (.goto 4, 3) := by decide +kernel
theorem dX6_fineBy_18 : decode cX6_fineBy 18 = .ok (.iconst 0, 1) := by decide +kernel
theorem dX6_fineBy_19 : decode cX6_fineBy 19 = .ok (.istore 5, 2) := by decide +kernel
theorem dX6_fineBy_21 : decode cX6_fineBy 21 = .ok (.iload 5, 2) := by decide +kernel
theorem dX6_fineBy_23 : decode cX6_fineBy 23 = .ok (.iload_n 3, 1) := by decide +kernel
theorem dX6_fineBy_24 : decode cX6_fineBy 24 = .ok (.if_icmp .ne 7, 3) := by decide +kernel
theorem dX6_fineBy_27 : decode cX6_fineBy 27 = .ok (.iconst 0, 1) := by decide +kernel
theorem dX6_fineBy_28 : decode cX6_fineBy 28 = .ok (.goto 5, 3) := by decide +kernel
theorem dX6_fineBy_31 : decode cX6_fineBy 31 = .ok (.iload 4, 2) := by decide +kernel
theorem dX6_fineBy_33 : decode cX6_fineBy 33 = .ok (.ireturn, 1) := by decide +kernel
theorem dX6_ifRuled_0 : decode cX6_ifRuled 0 = .ok (.iload_n 1, 1) := by decide +kernel
theorem dX6_ifRuled_1 : decode cX6_ifRuled 1 = .ok (.iload_n 2, 1) := by decide +kernel
theorem dX6_ifRuled_2 : decode cX6_ifRuled 2 = .ok (.iload 4, 2) := by decide +kernel
theorem dX6_ifRuled_4 : decode cX6_ifRuled 4 = .ok (.invokestatic 115, 3) := by decide +kernel
theorem dX6_ifRuled_7 : decode cX6_ifRuled 7 = .ok (.ifCond .ne 5, 3) := by decide +kernel
theorem dX6_ifRuled_10 : decode cX6_ifRuled 10 = .ok (.iconst (-1), 1) := by decide +kernel
theorem dX6_ifRuled_11 : decode cX6_ifRuled 11 = .ok (.ireturn, 1) := by decide +kernel
theorem dX6_ifRuled_12 : decode cX6_ifRuled 12 = .ok (.iconst 0, 1) := by decide +kernel
theorem dX6_ifRuled_13 : decode cX6_ifRuled 13 = .ok (.istore 5, 2) := by decide +kernel
theorem dX6_ifRuled_15 : decode cX6_ifRuled 15 = .ok (.iconst 0, 1) := by decide +kernel
theorem dX6_ifRuled_16 : decode cX6_ifRuled 16 = .ok (.istore 6, 2) := by decide +kernel
theorem dX6_ifRuled_18 : decode cX6_ifRuled 18 = .ok (.iload 6, 2) := by decide +kernel
theorem dX6_ifRuled_20 : decode cX6_ifRuled 20 = .ok (.aload_n 0, 1) := by decide +kernel
theorem dX6_ifRuled_21 : decode cX6_ifRuled 21 = .ok (.getfield 7, 3) := by decide +kernel
theorem dX6_ifRuled_24 : decode cX6_ifRuled 24 = .ok (.iconst 3, 1) := by decide +kernel
theorem dX6_ifRuled_25 : decode cX6_ifRuled 25 = .ok (.iaload, 1) := by decide +kernel
theorem dX6_ifRuled_26 : decode cX6_ifRuled 26 = .ok (.if_icmp .ge 106, 3) := by decide +kernel
theorem dX6_ifRuled_29 : decode cX6_ifRuled 29 = .ok (.iconst 0, 1) := by decide +kernel
theorem dX6_ifRuled_30 : decode cX6_ifRuled 30 = .ok (.istore 7, 2) := by decide +kernel
theorem dX6_ifRuled_32 : decode cX6_ifRuled 32 = .ok (.iload 7, 2) := by decide +kernel
theorem dX6_ifRuled_34 : decode cX6_ifRuled 34 = .ok (.iconst 1, 1) := by decide +kernel
theorem dX6_ifRuled_35 : decode cX6_ifRuled 35 = .ok (.iadd, 1) := by decide +kernel
theorem dX6_ifRuled_36 : decode cX6_ifRuled 36 = .ok (.aload_n 0, 1) := by decide +kernel
theorem dX6_ifRuled_37 : decode cX6_ifRuled 37 = .ok (.iload 6, 2) := by decide +kernel
theorem dX6_ifRuled_39 : decode cX6_ifRuled 39 = .ok (.iconst 0, 1) := by decide +kernel
theorem dX6_ifRuled_40 : decode cX6_ifRuled 40 = .ok (.invokevirtual 60, 3) := by decide +kernel
theorem dX6_ifRuled_43 : decode cX6_ifRuled 43 = .ok (.if_icmp .ge 83, 3) := by decide +kernel
theorem dX6_ifRuled_46 : decode cX6_ifRuled 46 = .ok (.aload_n 0, 1) := by decide +kernel
theorem dX6_ifRuled_47 : decode cX6_ifRuled 47 = .ok (.iload 6, 2) := by decide +kernel
theorem dX6_ifRuled_49 : decode cX6_ifRuled 49 = .ok (.iload 7, 2) := by decide +kernel
theorem dX6_ifRuled_51 : decode cX6_ifRuled 51 = .ok (.invokevirtual 63, 3) := by decide +kernel
theorem dX6_ifRuled_54 : decode cX6_ifRuled 54 = .ok (.iload_n 1, 1) := by decide +kernel
theorem dX6_ifRuled_55 : decode cX6_ifRuled 55 = .ok (.if_icmp .ne 21, 3) := by decide +kernel
theorem dX6_ifRuled_58 : decode cX6_ifRuled 58 = .ok (.aload_n 0, 1) := by decide +kernel
theorem dX6_ifRuled_59 : decode cX6_ifRuled 59 = .ok (.iload 6, 2) := by decide +kernel
theorem dX6_ifRuled_61 : decode cX6_ifRuled 61 = .ok (.iload 7, 2) := by decide +kernel
theorem dX6_ifRuled_63 : decode cX6_ifRuled 63 = .ok (.iconst 1, 1) := by decide +kernel
theorem dX6_ifRuled_64 : decode cX6_ifRuled 64 = .ok (.iadd, 1) := by decide +kernel
theorem dX6_ifRuled_65 : decode cX6_ifRuled 65 = .ok (.invokevirtual 63, 3) := by decide +kernel
theorem dX6_ifRuled_68 : decode cX6_ifRuled 68 = .ok (.iload_n 2, 1) := by decide +kernel
theorem dX6_ifRuled_69 : decode cX6_ifRuled 69 = .ok (.if_icmp .ne 7, 3) := by decide +kernel
theorem dX6_ifRuled_72 : decode cX6_ifRuled 72 = .ok (.iconst 1, 1) := by decide +kernel
theorem dX6_ifRuled_73 : decode cX6_ifRuled 73 = .ok (.goto 4, 3) := by decide +kernel
theorem dX6_ifRuled_76 : decode cX6_ifRuled 76 = .ok (.iconst 0, 1) := by decide +kernel
theorem dX6_ifRuled_77 : decode cX6_ifRuled 77 = .ok (.istore 8, 2) := by decide +kernel
theorem dX6_ifRuled_79 : decode cX6_ifRuled 79 = .ok (.iload 5, 2) := by decide +kernel
theorem dX6_ifRuled_81 : decode cX6_ifRuled 81 = .ok (.iload 8, 2) := by decide +kernel
theorem dX6_ifRuled_83 : decode cX6_ifRuled 83 = .ok (.ifCond .eq 33, 3) := by decide +kernel
theorem dX6_ifRuled_86 : decode cX6_ifRuled 86 = .ok (.aload_n 0, 1) := by decide +kernel
theorem dX6_ifRuled_87 : decode cX6_ifRuled 87 = .ok (.iload 6, 2) := by decide +kernel
theorem dX6_ifRuled_89 : decode cX6_ifRuled 89 = .ok (.iload 7, 2) := by decide +kernel
theorem dX6_ifRuled_91 : decode cX6_ifRuled 91 = .ok (.iload_n 3, 1) := by decide +kernel
theorem dX6_ifRuled_92 : decode cX6_ifRuled 92 = .ok (.iload 4, 2) := by decide +kernel
theorem dX6_ifRuled_94 : decode cX6_ifRuled 94 = .ok (.invokevirtual 232, 3) := by decide +kernel
theorem dX6_ifRuled_97 : decode cX6_ifRuled 97 = .ok (.aload_n 0, 1) := by decide +kernel
theorem dX6_ifRuled_98 : decode cX6_ifRuled 98 = .ok (.iload 6, 2) := by decide +kernel
theorem dX6_ifRuled_100 : decode cX6_ifRuled 100 = .ok (.iload 7, 2) := by decide +kernel
theorem dX6_ifRuled_102 : decode cX6_ifRuled 102 = .ok (.aload_n 0, 1) := by decide +kernel
theorem dX6_ifRuled_103 : decode cX6_ifRuled 103 = .ok (.iload 6, 2) := by decide +kernel
theorem dX6_ifRuled_105 : decode cX6_ifRuled 105 = .ok (.iconst 1, 1) := by decide +kernel
theorem dX6_ifRuled_106 : decode cX6_ifRuled 106 = .ok (.invokevirtual 60, 3) := by decide +kernel
theorem dX6_ifRuled_109 : decode cX6_ifRuled 109 = .ok (.invokevirtual 76, 3) := by decide +kernel
theorem dX6_ifRuled_112 : decode cX6_ifRuled 112 = .ok (.isub, 1) := by decide +kernel
theorem dX6_ifRuled_113 : decode cX6_ifRuled 113 = .ok (.goto 4, 3) := by decide +kernel
theorem dX6_ifRuled_116 : decode cX6_ifRuled 116 = .ok (.iconst 0, 1) := by decide +kernel
theorem dX6_ifRuled_117 : decode cX6_ifRuled 117 = .ok (.iadd, 1) := by decide +kernel
theorem dX6_ifRuled_118 : decode cX6_ifRuled 118 = .ok (.istore 5, 2) := by decide +kernel
theorem dX6_ifRuled_120 : decode cX6_ifRuled 120 = .ok (.iinc 7 1, 3) := by decide +kernel
theorem dX6_ifRuled_123 : decode cX6_ifRuled 123 = .ok (.goto (-91), 3) := by decide +kernel
theorem dX6_ifRuled_126 : decode cX6_ifRuled 126 = .ok (.iinc 6 1, 3) := by decide +kernel
theorem dX6_ifRuled_129 : decode cX6_ifRuled 129 = .ok (.goto (-111), 3) := by decide +kernel
theorem dX6_ifRuled_132 : decode cX6_ifRuled 132 = .ok (.sipush 1000, 3) := by decide +kernel
theorem dX6_ifRuled_135 : decode cX6_ifRuled 135 = .ok (.iload 5, 2) := by decide +kernel
theorem dX6_ifRuled_137 : decode cX6_ifRuled 137 = .ok (.iadd, 1) := by decide +kernel
theorem dX6_ifRuled_138 : decode cX6_ifRuled 138 = .ok (.ireturn, 1) := by decide +kernel
theorem dX6_bestSuit_0 : decode cX6_bestSuit 0 = .ok (.aload_n 0, 1) := by decide +kernel
theorem dX6_bestSuit_1 : decode cX6_bestSuit 1 = .ok (.iload_n 1, 1) := by decide +kernel
theorem dX6_bestSuit_2 : decode cX6_bestSuit 2 = .ok (.invokevirtual 57, 3) := by decide +kernel
theorem dX6_bestSuit_5 : decode cX6_bestSuit 5 = .ok (.ifCond .ne 5, 3) := by decide +kernel
theorem dX6_bestSuit_8 : decode cX6_bestSuit 8 = .ok (.iconst (-1), 1) := by decide +kernel
theorem dX6_bestSuit_9 : decode cX6_bestSuit 9 = .ok (.ireturn, 1) := by decide +kernel
theorem dX6_bestSuit_10 : decode cX6_bestSuit 10 = .ok (.bipush (-4), 2) := by decide +kernel
theorem dX6_bestSuit_12 : decode cX6_bestSuit 12 = .ok (.istore_n 2, 1) := by decide +kernel
theorem dX6_bestSuit_13 : decode cX6_bestSuit 13 = .ok (.iconst 0, 1) := by decide +kernel
theorem dX6_bestSuit_14 : decode cX6_bestSuit 14 = .ok (.istore_n 3, 1) := by decide +kernel
theorem dX6_bestSuit_15 : decode cX6_bestSuit 15 = .ok (.iconst 0, 1) := by decide +kernel
theorem dX6_bestSuit_16 : decode cX6_bestSuit 16 = .ok (.istore 4, 2) := by decide +kernel
theorem dX6_bestSuit_18 : decode cX6_bestSuit 18 = .ok (.iload 4, 2) := by decide +kernel
theorem dX6_bestSuit_20 : decode cX6_bestSuit 20 = .ok (.iconst 1, 1) := by decide +kernel
theorem dX6_bestSuit_21 : decode cX6_bestSuit 21 = .ok (.iadd, 1) := by decide +kernel
theorem dX6_bestSuit_22 : decode cX6_bestSuit 22 = .ok (.aload_n 0, 1) := by decide +kernel
theorem dX6_bestSuit_23 : decode cX6_bestSuit 23 = .ok (.iload_n 1, 1) := by decide +kernel
theorem dX6_bestSuit_24 : decode cX6_bestSuit 24 = .ok (.iconst 0, 1) := by decide +kernel
theorem dX6_bestSuit_25 : decode cX6_bestSuit 25 = .ok (.invokevirtual 60, 3) := by decide +kernel
theorem dX6_bestSuit_28 : decode cX6_bestSuit 28 = .ok (.if_icmp .ge 80, 3) := by decide +kernel
theorem dX6_bestSuit_31 : decode cX6_bestSuit 31 = .ok (.aload_n 0, 1) := by decide +kernel
theorem dX6_bestSuit_32 : decode cX6_bestSuit 32 = .ok (.iload_n 1, 1) := by decide +kernel
theorem dX6_bestSuit_33 : decode cX6_bestSuit 33 = .ok (.aload_n 0, 1) := by decide +kernel
theorem dX6_bestSuit_34 : decode cX6_bestSuit 34 = .ok (.iload_n 1, 1) := by decide +kernel
theorem dX6_bestSuit_35 : decode cX6_bestSuit 35 = .ok (.iconst 1, 1) := by decide +kernel
theorem dX6_bestSuit_36 : decode cX6_bestSuit 36 = .ok (.invokevirtual 60, 3) := by decide +kernel
theorem dX6_bestSuit_39 : decode cX6_bestSuit 39 = .ok (.iconst 1, 1) := by decide +kernel
theorem dX6_bestSuit_40 : decode cX6_bestSuit 40 = .ok (.iload 4, 2) := by decide +kernel
theorem dX6_bestSuit_42 : decode cX6_bestSuit 42 = .ok (.ishl, 1) := by decide +kernel
theorem dX6_bestSuit_43 : decode cX6_bestSuit 43 = .ok (.ixor, 1) := by decide +kernel
theorem dX6_bestSuit_44 : decode cX6_bestSuit 44 = .ok (.invokevirtual 86, 3) := by decide +kernel
theorem dX6_bestSuit_47 : decode cX6_bestSuit 47 = .ok (.istore 5, 2) := by decide +kernel
theorem dX6_bestSuit_49 : decode cX6_bestSuit 49 = .ok (.aload_n 0, 1) := by decide +kernel
theorem dX6_bestSuit_50 : decode cX6_bestSuit 50 = .ok (.iload_n 1, 1) := by decide +kernel
theorem dX6_bestSuit_51 : decode cX6_bestSuit 51 = .ok (.iload 4, 2) := by decide +kernel
theorem dX6_bestSuit_53 : decode cX6_bestSuit 53 = .ok (.invokevirtual 102, 3) := by decide +kernel
theorem dX6_bestSuit_56 : decode cX6_bestSuit 56 = .ok (.ifCond .ne 19, 3) := by decide +kernel
theorem dX6_bestSuit_59 : decode cX6_bestSuit 59 = .ok (.iload_n 2, 1) := by decide +kernel
theorem dX6_bestSuit_60 : decode cX6_bestSuit 60 = .ok (.bipush (-4), 2) := by decide +kernel
theorem dX6_bestSuit_62 : decode cX6_bestSuit 62 = .ok (.if_icmp .eq 9, 3) := by decide +kernel
theorem dX6_bestSuit_65 : decode cX6_bestSuit 65 = .ok (.iload 5, 2) := by decide +kernel
theorem dX6_bestSuit_67 : decode cX6_bestSuit 67 = .ok (.iload_n 3, 1) := by decide +kernel
theorem dX6_bestSuit_68 : decode cX6_bestSuit 68 = .ok (.if_icmp .ge 7, 3) := by decide +kernel
theorem dX6_bestSuit_71 : decode cX6_bestSuit 71 = .ok (.iconst 1, 1) := by decide +kernel
theorem dX6_bestSuit_72 : decode cX6_bestSuit 72 = .ok (.goto 4, 3) := by decide +kernel
theorem dX6_bestSuit_75 : decode cX6_bestSuit 75 = .ok (.iconst 0, 1) := by decide +kernel
theorem dX6_bestSuit_76 : decode cX6_bestSuit 76 = .ok (.istore 6, 2) := by decide +kernel
theorem dX6_bestSuit_78 : decode cX6_bestSuit 78 = .ok (.iload 6, 2) := by decide +kernel
theorem dX6_bestSuit_80 : decode cX6_bestSuit 80 = .ok (.ifCond .eq 8, 3) := by decide +kernel
theorem dX6_bestSuit_83 : decode cX6_bestSuit 83 = .ok (.iload 4, 2) := by decide +kernel
theorem dX6_bestSuit_85 : decode cX6_bestSuit 85 = .ok (.goto 4, 3) := by decide +kernel
theorem dX6_bestSuit_88 : decode cX6_bestSuit 88 = .ok (.iload_n 2, 1) := by decide +kernel
theorem dX6_bestSuit_89 : decode cX6_bestSuit 89 = .ok (.istore_n 2, 1) := by decide +kernel
theorem dX6_bestSuit_90 : decode cX6_bestSuit 90 = .ok (.iload 6, 2) := by decide +kernel
theorem dX6_bestSuit_92 : decode cX6_bestSuit 92 = .ok (.ifCond .eq 8, 3) := by decide +kernel
theorem dX6_bestSuit_95 : decode cX6_bestSuit 95 = .ok (.iload 5, 2) := by decide +kernel
theorem dX6_bestSuit_97 : decode cX6_bestSuit 97 = .ok (.goto 4, 3) := by decide +kernel
theorem dX6_bestSuit_100 : decode cX6_bestSuit 100 = .ok (.iload_n 3, 1) := by decide +kernel
theorem dX6_bestSuit_101 : decode cX6_bestSuit 101 = .ok (.istore_n 3, 1) := by decide +kernel
theorem dX6_bestSuit_102 : decode cX6_bestSuit 102 = .ok (.iinc 4 1, 3) := by decide +kernel
theorem dX6_bestSuit_105 : decode cX6_bestSuit 105 = .ok (.goto (-87), 3) := by decide +kernel
theorem dX6_bestSuit_108 : decode cX6_bestSuit 108 = .ok (.iload_n 2, 1) := by decide +kernel
theorem dX6_bestSuit_109 : decode cX6_bestSuit 109 = .ok (.ireturn, 1) := by decide +kernel
theorem dX6_undo_0 : decode cX6_undo 0 = .ok (.aload_n 0, 1) := by decide +kernel
theorem dX6_undo_1 : decode cX6_undo 1 = .ok (.getfield 34, 3) := by decide +kernel
theorem dX6_undo_4 : decode cX6_undo 4 = .ok (.ifCond .ne 6, 3) := by decide +kernel
theorem dX6_undo_7 : decode cX6_undo 7 = .ok (.bipush (-2), 2) := by decide +kernel
theorem dX6_undo_9 : decode cX6_undo 9 = .ok (.ireturn, 1) := by decide +kernel
theorem dX6_undo_10 : decode cX6_undo 10 = .ok (.aload_n 0, 1) := by decide +kernel
theorem dX6_undo_11 : decode cX6_undo 11 = .ok (.dup, 1) := by decide +kernel
theorem dX6_undo_12 : decode cX6_undo 12 = .ok (.getfield 34, 3) := by decide +kernel
theorem dX6_undo_15 : decode cX6_undo 15 = .ok (.iconst 1, 1) := by decide +kernel
theorem dX6_undo_16 : decode cX6_undo 16 = .ok (.isub, 1) := by decide +kernel
theorem dX6_undo_17 : decode cX6_undo 17 = .ok (.putfield 34, 3) := by decide +kernel
theorem dX6_undo_20 : decode cX6_undo 20 = .ok (.aload_n 0, 1) := by decide +kernel
theorem dX6_undo_21 : decode cX6_undo 21 = .ok (.getfield 13, 3) := by decide +kernel
theorem dX6_undo_24 : decode cX6_undo 24 = .ok (.sipush 137, 3) := by decide +kernel
theorem dX6_undo_27 : decode cX6_undo 27 = .ok (.aload_n 0, 1) := by decide +kernel
theorem dX6_undo_28 : decode cX6_undo 28 = .ok (.getfield 34, 3) := by decide +kernel
theorem dX6_undo_31 : decode cX6_undo 31 = .ok (.imul, 1) := by decide +kernel
theorem dX6_undo_32 : decode cX6_undo 32 = .ok (.aload_n 0, 1) := by decide +kernel
theorem dX6_undo_33 : decode cX6_undo 33 = .ok (.getfield 7, 3) := by decide +kernel
theorem dX6_undo_36 : decode cX6_undo 36 = .ok (.iconst 0, 1) := by decide +kernel
theorem dX6_undo_37 : decode cX6_undo 37 = .ok (.invokestatic 38, 3) := by decide +kernel
theorem dX6_undo_40 : decode cX6_undo 40 = .ok (.aload_n 0, 1) := by decide +kernel
theorem dX6_undo_41 : decode cX6_undo 41 = .ok (.getfield 34, 3) := by decide +kernel
theorem dX6_undo_44 : decode cX6_undo 44 = .ok (.ireturn, 1) := by decide +kernel
theorem dX6_save_0 : decode cX6_save 0 = .ok (.aload_n 0, 1) := by decide +kernel
theorem dX6_save_1 : decode cX6_save 1 = .ok (.getfield 7, 3) := by decide +kernel
theorem dX6_save_4 : decode cX6_save 4 = .ok (.iconst 0, 1) := by decide +kernel
theorem dX6_save_5 : decode cX6_save 5 = .ok (.aload_n 0, 1) := by decide +kernel
theorem dX6_save_6 : decode cX6_save 6 = .ok (.getfield 16, 3) := by decide +kernel
theorem dX6_save_9 : decode cX6_save 9 = .ok (.iconst 0, 1) := by decide +kernel
theorem dX6_save_10 : decode cX6_save 10 = .ok (.invokestatic 38, 3) := by decide +kernel
theorem dX6_save_13 : decode cX6_save 13 = .ok (.aload_n 0, 1) := by decide +kernel
theorem dX6_save_14 : decode cX6_save 14 = .ok (.iconst 1, 1) := by decide +kernel
theorem dX6_save_15 : decode cX6_save 15 = .ok (.putfield 236, 3) := by decide +kernel
theorem dX6_save_18 : decode cX6_save 18 = .ok (.aload_n 0, 1) := by decide +kernel
theorem dX6_save_19 : decode cX6_save 19 = .ok (.getfield 7, 3) := by decide +kernel
theorem dX6_save_22 : decode cX6_save 22 = .ok (.iconst 3, 1) := by decide +kernel
theorem dX6_save_23 : decode cX6_save 23 = .ok (.iaload, 1) := by decide +kernel
theorem dX6_save_24 : decode cX6_save 24 = .ok (.ireturn, 1) := by decide +kernel
theorem dX6_restore_0 : decode cX6_restore 0 = .ok (.aload_n 0, 1) := by decide +kernel
theorem dX6_restore_1 : decode cX6_restore 1 = .ok (.getfield 236, 3) := by decide +kernel
theorem dX6_restore_4 : decode cX6_restore 4 = .ok (.ifCond .ne 6, 3) := by decide +kernel
theorem dX6_restore_7 : decode cX6_restore 7 = .ok (.bipush (-2), 2) := by decide +kernel
theorem dX6_restore_9 : decode cX6_restore 9 = .ok (.ireturn, 1) := by decide +kernel
theorem dX6_restore_10 : decode cX6_restore 10 = .ok (.aload_n 0, 1) := by decide +kernel
end
section
theorem dX6_restore_11 : decode cX6_restore 11 = .ok (.invokevirtual 112, 3) := by decide +kernel
theorem dX6_restore_14 : decode cX6_restore 14 = .ok (.aload_n 0, 1) := by decide +kernel
theorem dX6_restore_15 : decode cX6_restore 15 = .ok (.getfield 16, 3) := by decide +kernel
theorem dX6_restore_18 : decode cX6_restore 18 = .ok (.iconst 0, 1) := by decide +kernel
theorem dX6_restore_19 : decode cX6_restore 19 = .ok (.aload_n 0, 1) := by decide +kernel
theorem dX6_restore_20 : decode cX6_restore 20 = .ok (.getfield 7, 3) := by decide +kernel
theorem dX6_restore_23 : decode cX6_restore 23 = .ok (.iconst 0, 1) := by decide +kernel
theorem dX6_restore_24 : decode cX6_restore 24 = .ok (.invokestatic 38, 3) := by decide +kernel
theorem dX6_restore_27 : decode cX6_restore 27 = .ok (.aload_n 0, 1) := by decide +kernel
theorem dX6_restore_28 : decode cX6_restore 28 = .ok (.getfield 7, 3) := by decide +kernel
theorem dX6_restore_31 : decode cX6_restore 31 = .ok (.iconst 3, 1) := by decide +kernel
theorem dX6_restore_32 : decode cX6_restore 32 = .ok (.iaload, 1) := by decide +kernel
theorem dX6_restore_33 : decode cX6_restore 33 = .ok (.ireturn, 1) := by decide +kernel
theorem dJ6_bitCount_0f7a4_0 : decode cJ6_bitCount_0f7a4 0 = .ok (.iload_n 0, 1) := by decide +kernel
theorem dJ6_bitCount_0f7a4_1 : decode cJ6_bitCount_0f7a4 1 = .ok (.iload_n 0, 1) := by decide +kernel
theorem dJ6_bitCount_0f7a4_2 : decode cJ6_bitCount_0f7a4 2 = .ok (.iconst 1, 1) := by decide +kernel
theorem dJ6_bitCount_0f7a4_3 : decode cJ6_bitCount_0f7a4 3 = .ok (.iushr, 1) := by decide +kernel
theorem dJ6_bitCount_0f7a4_4 : decode cJ6_bitCount_0f7a4 4 = .ok (.ldc_w 265, 3) := by decide +kernel
theorem dJ6_bitCount_0f7a4_7 : decode cJ6_bitCount_0f7a4 7 = .ok (.iand, 1) := by decide +kernel
theorem dJ6_bitCount_0f7a4_8 : decode cJ6_bitCount_0f7a4 8 = .ok (.isub, 1) := by decide +kernel
theorem dJ6_bitCount_0f7a4_9 : decode cJ6_bitCount_0f7a4 9 = .ok (.istore_n 0, 1) := by decide +kernel
theorem dJ6_bitCount_0f7a4_10 : decode cJ6_bitCount_0f7a4 10 = .ok (.iload_n 0, 1) := by decide +kernel
theorem dJ6_bitCount_0f7a4_11 : decode cJ6_bitCount_0f7a4 11 = .ok (.ldc_w 266, 3) := by decide +kernel
theorem dJ6_bitCount_0f7a4_14 : decode cJ6_bitCount_0f7a4 14 = .ok (.iand, 1) := by decide +kernel
theorem dJ6_bitCount_0f7a4_15 : decode cJ6_bitCount_0f7a4 15 = .ok (.iload_n 0, 1) := by decide +kernel
theorem dJ6_bitCount_0f7a4_16 : decode cJ6_bitCount_0f7a4 16 = .ok (.iconst 2, 1) := by decide +kernel
theorem dJ6_bitCount_0f7a4_17 : decode cJ6_bitCount_0f7a4 17 = .ok (.iushr, 1) := by decide +kernel
theorem dJ6_bitCount_0f7a4_18 : decode cJ6_bitCount_0f7a4 18 = .ok (.ldc_w 266, 3) := by decide +kernel
theorem dJ6_bitCount_0f7a4_21 : decode cJ6_bitCount_0f7a4 21 = .ok (.iand, 1) := by decide +kernel
theorem dJ6_bitCount_0f7a4_22 : decode cJ6_bitCount_0f7a4 22 = .ok (.iadd, 1) := by decide +kernel
theorem dJ6_bitCount_0f7a4_23 : decode cJ6_bitCount_0f7a4 23 = .ok (.istore_n 0, 1) := by decide +kernel
theorem dJ6_bitCount_0f7a4_24 : decode cJ6_bitCount_0f7a4 24 = .ok (.iload_n 0, 1) := by decide +kernel
theorem dJ6_bitCount_0f7a4_25 : decode cJ6_bitCount_0f7a4 25 = .ok (.iload_n 0, 1) := by decide +kernel
theorem dJ6_bitCount_0f7a4_26 : decode cJ6_bitCount_0f7a4 26 = .ok (.iconst 4, 1) := by decide +kernel
theorem dJ6_bitCount_0f7a4_27 : decode cJ6_bitCount_0f7a4 27 = .ok (.iushr, 1) := by decide +kernel
theorem dJ6_bitCount_0f7a4_28 : decode cJ6_bitCount_0f7a4 28 = .ok (.iadd, 1) := by decide +kernel
theorem dJ6_bitCount_0f7a4_29 : decode cJ6_bitCount_0f7a4 29 = .ok (.ldc_w 267, 3) := by decide +kernel
theorem dJ6_bitCount_0f7a4_32 : decode cJ6_bitCount_0f7a4 32 = .ok (.iand, 1) := by decide +kernel
theorem dJ6_bitCount_0f7a4_33 : decode cJ6_bitCount_0f7a4 33 = .ok (.istore_n 0, 1) := by decide +kernel
theorem dJ6_bitCount_0f7a4_34 : decode cJ6_bitCount_0f7a4 34 = .ok (.iload_n 0, 1) := by decide +kernel
theorem dJ6_bitCount_0f7a4_35 : decode cJ6_bitCount_0f7a4 35 = .ok (.iload_n 0, 1) := by decide +kernel
theorem dJ6_bitCount_0f7a4_36 : decode cJ6_bitCount_0f7a4 36 = .ok (.bipush 8, 2) := by decide +kernel
theorem dJ6_bitCount_0f7a4_38 : decode cJ6_bitCount_0f7a4 38 = .ok (.iushr, 1) := by decide +kernel
theorem dJ6_bitCount_0f7a4_39 : decode cJ6_bitCount_0f7a4 39 = .ok (.iadd, 1) := by decide +kernel
theorem dJ6_bitCount_0f7a4_40 : decode cJ6_bitCount_0f7a4 40 = .ok (.istore_n 0, 1) := by decide +kernel
theorem dJ6_bitCount_0f7a4_41 : decode cJ6_bitCount_0f7a4 41 = .ok (.iload_n 0, 1) := by decide +kernel
theorem dJ6_bitCount_0f7a4_42 : decode cJ6_bitCount_0f7a4 42 = .ok (.iload_n 0, 1) := by decide +kernel
theorem dJ6_bitCount_0f7a4_43 : decode cJ6_bitCount_0f7a4 43 = .ok (.bipush 16, 2) := by decide +kernel
theorem dJ6_bitCount_0f7a4_45 : decode cJ6_bitCount_0f7a4 45 = .ok (.iushr, 1) := by decide +kernel
theorem dJ6_bitCount_0f7a4_46 : decode cJ6_bitCount_0f7a4 46 = .ok (.iadd, 1) := by decide +kernel
theorem dJ6_bitCount_0f7a4_47 : decode cJ6_bitCount_0f7a4 47 = .ok (.istore_n 0, 1) := by decide +kernel
theorem dJ6_bitCount_0f7a4_48 : decode cJ6_bitCount_0f7a4 48 = .ok (.iload_n 0, 1) := by decide +kernel
theorem dJ6_bitCount_0f7a4_49 : decode cJ6_bitCount_0f7a4 49 = .ok (.bipush 63, 2) := by decide +kernel
theorem dJ6_bitCount_0f7a4_51 : decode cJ6_bitCount_0f7a4 51 = .ok (.iand, 1) := by decide +kernel
theorem dJ6_bitCount_0f7a4_52 : decode cJ6_bitCount_0f7a4 52 = .ok (.ireturn, 1) := by decide +kernel
theorem dJ9_abs_0f7a4_0 : decode cJ9_abs_0f7a4 0 = .ok (.iload_n 0, 1) := by decide +kernel
theorem dJ9_abs_0f7a4_1 : decode cJ9_abs_0f7a4 1 = .ok (.ifCond .ge 8, 3) := by decide +kernel
theorem dJ9_abs_0f7a4_4 : decode cJ9_abs_0f7a4 4 = .ok (.iload_n 0, 1) := by decide +kernel
theorem dJ9_abs_0f7a4_5 : decode cJ9_abs_0f7a4 5 = .ok (.ineg, 1) := by decide +kernel
theorem dJ9_abs_0f7a4_6 : decode cJ9_abs_0f7a4 6 = .ok (.goto 4, 3) := by decide +kernel
theorem dJ9_abs_0f7a4_9 : decode cJ9_abs_0f7a4 9 = .ok (.iload_n 0, 1) := by decide +kernel
theorem dJ9_abs_0f7a4_10 : decode cJ9_abs_0f7a4 10 = .ok (.ireturn, 1) := by decide +kernel
theorem dJ9_min_7cf53_0 : decode cJ9_min_7cf53 0 = .ok (.iload_n 0, 1) := by decide +kernel
theorem dJ9_min_7cf53_1 : decode cJ9_min_7cf53 1 = .ok (.iload_n 1, 1) := by decide +kernel
theorem dJ9_min_7cf53_2 : decode cJ9_min_7cf53 2 = .ok (.if_icmp .gt 7, 3) := by decide +kernel
theorem dJ9_min_7cf53_5 : decode cJ9_min_7cf53 5 = .ok (.iload_n 0, 1) := by decide +kernel
theorem dJ9_min_7cf53_6 : decode cJ9_min_7cf53 6 = .ok (.goto 4, 3) := by decide +kernel
theorem dJ9_min_7cf53_9 : decode cJ9_min_7cf53 9 = .ok (.iload_n 1, 1) := by decide +kernel
theorem dJ9_min_7cf53_10 : decode cJ9_min_7cf53 10 = .ok (.ireturn, 1) := by decide +kernel
theorem dL_law_0 : decode cL_law 0 = .ok (.new 7, 3) := by decide +kernel
theorem dL_law_3 : decode cL_law 3 = .ok (.dup, 1) := by decide +kernel
theorem dL_law_4 : decode cL_law 4 = .ok (.invokespecial 9, 3) := by decide +kernel
theorem dL_law_7 : decode cL_law 7 = .ok (.astore_n 1, 1) := by decide +kernel
theorem dL_law_8 : decode cL_law 8 = .ok (.new 10, 3) := by decide +kernel
theorem dL_law_11 : decode cL_law 11 = .ok (.dup, 1) := by decide +kernel
theorem dL_law_12 : decode cL_law 12 = .ok (.invokespecial 12, 3) := by decide +kernel
theorem dL_law_15 : decode cL_law 15 = .ok (.astore_n 2, 1) := by decide +kernel
theorem dL_law_16 : decode cL_law 16 = .ok (.iconst 0, 1) := by decide +kernel
theorem dL_law_17 : decode cL_law 17 = .ok (.istore_n 3, 1) := by decide +kernel
theorem dL_law_18 : decode cL_law 18 = .ok (.iload_n 3, 1) := by decide +kernel
theorem dL_law_19 : decode cL_law 19 = .ok (.aload_n 0, 1) := by decide +kernel
theorem dL_law_20 : decode cL_law 20 = .ok (.arraylength, 1) := by decide +kernel
theorem dL_law_21 : decode cL_law 21 = .ok (.bipush 6, 2) := by decide +kernel
theorem dL_law_23 : decode cL_law 23 = .ok (.isub, 1) := by decide +kernel
theorem dL_law_24 : decode cL_law 24 = .ok (.if_icmp .gt 966, 3) := by decide +kernel
theorem dL_law_27 : decode cL_law 27 = .ok (.aload_n 0, 1) := by decide +kernel
theorem dL_law_28 : decode cL_law 28 = .ok (.iload_n 3, 1) := by decide +kernel
theorem dL_law_29 : decode cL_law 29 = .ok (.iaload, 1) := by decide +kernel
theorem dL_law_30 : decode cL_law 30 = .ok (.bipush 31, 2) := by decide +kernel
theorem dL_law_32 : decode cL_law 32 = .ok (.iand, 1) := by decide +kernel
theorem dL_law_33 : decode cL_law 33 = .ok (.tableswitch 951 0 27 #[127, 160, 193, 272, 295, 308, 331, 364, 397, 410, 433, 446, 469, 482, 505, 538, 571, 614, 647, 680, 723, 756, 779, 820, 889, 912, 925, 938], 127) := by decide +kernel
theorem dL_law_160 : decode cL_law 160 = .ok (.aload_n 1, 1) := by decide +kernel
theorem dL_law_161 : decode cL_law 161 = .ok (.aload_n 0, 1) := by decide +kernel
theorem dL_law_162 : decode cL_law 162 = .ok (.iload_n 3, 1) := by decide +kernel
theorem dL_law_163 : decode cL_law 163 = .ok (.iconst 1, 1) := by decide +kernel
theorem dL_law_164 : decode cL_law 164 = .ok (.iadd, 1) := by decide +kernel
theorem dL_law_165 : decode cL_law 165 = .ok (.iaload, 1) := by decide +kernel
theorem dL_law_166 : decode cL_law 166 = .ok (.aload_n 0, 1) := by decide +kernel
theorem dL_law_167 : decode cL_law 167 = .ok (.iload_n 3, 1) := by decide +kernel
theorem dL_law_168 : decode cL_law 168 = .ok (.iconst 2, 1) := by decide +kernel
theorem dL_law_169 : decode cL_law 169 = .ok (.iadd, 1) := by decide +kernel
theorem dL_law_170 : decode cL_law 170 = .ok (.iaload, 1) := by decide +kernel
theorem dL_law_171 : decode cL_law 171 = .ok (.invokevirtual 13, 3) := by decide +kernel
theorem dL_law_174 : decode cL_law 174 = .ok (.aload_n 2, 1) := by decide +kernel
theorem dL_law_175 : decode cL_law 175 = .ok (.aload_n 0, 1) := by decide +kernel
theorem dL_law_176 : decode cL_law 176 = .ok (.iload_n 3, 1) := by decide +kernel
theorem dL_law_177 : decode cL_law 177 = .ok (.iconst 1, 1) := by decide +kernel
theorem dL_law_178 : decode cL_law 178 = .ok (.iadd, 1) := by decide +kernel
theorem dL_law_179 : decode cL_law 179 = .ok (.iaload, 1) := by decide +kernel
theorem dL_law_180 : decode cL_law 180 = .ok (.aload_n 0, 1) := by decide +kernel
theorem dL_law_181 : decode cL_law 181 = .ok (.iload_n 3, 1) := by decide +kernel
theorem dL_law_182 : decode cL_law 182 = .ok (.iconst 2, 1) := by decide +kernel
theorem dL_law_183 : decode cL_law 183 = .ok (.iadd, 1) := by decide +kernel
theorem dL_law_184 : decode cL_law 184 = .ok (.iaload, 1) := by decide +kernel
theorem dL_law_185 : decode cL_law 185 = .ok (.invokevirtual 17, 3) := by decide +kernel
theorem dL_law_188 : decode cL_law 188 = .ok (.if_icmp .eq 796, 3) := by decide +kernel
theorem dL_law_191 : decode cL_law 191 = .ok (.iconst 0, 1) := by decide +kernel
theorem dL_law_192 : decode cL_law 192 = .ok (.ireturn, 1) := by decide +kernel
theorem dL_law_193 : decode cL_law 193 = .ok (.aload_n 1, 1) := by decide +kernel
theorem dL_law_194 : decode cL_law 194 = .ok (.aload_n 0, 1) := by decide +kernel
theorem dL_law_195 : decode cL_law 195 = .ok (.iload_n 3, 1) := by decide +kernel
theorem dL_law_196 : decode cL_law 196 = .ok (.iconst 1, 1) := by decide +kernel
theorem dL_law_197 : decode cL_law 197 = .ok (.iadd, 1) := by decide +kernel
theorem dL_law_198 : decode cL_law 198 = .ok (.iaload, 1) := by decide +kernel
theorem dL_law_199 : decode cL_law 199 = .ok (.aload_n 0, 1) := by decide +kernel
theorem dL_law_200 : decode cL_law 200 = .ok (.iload_n 3, 1) := by decide +kernel
theorem dL_law_201 : decode cL_law 201 = .ok (.iconst 2, 1) := by decide +kernel
theorem dL_law_202 : decode cL_law 202 = .ok (.iadd, 1) := by decide +kernel
theorem dL_law_203 : decode cL_law 203 = .ok (.iaload, 1) := by decide +kernel
theorem dL_law_204 : decode cL_law 204 = .ok (.invokevirtual 18, 3) := by decide +kernel
theorem dL_law_207 : decode cL_law 207 = .ok (.aload_n 2, 1) := by decide +kernel
theorem dL_law_208 : decode cL_law 208 = .ok (.aload_n 0, 1) := by decide +kernel
theorem dL_law_209 : decode cL_law 209 = .ok (.iload_n 3, 1) := by decide +kernel
theorem dL_law_210 : decode cL_law 210 = .ok (.iconst 1, 1) := by decide +kernel
theorem dL_law_211 : decode cL_law 211 = .ok (.iadd, 1) := by decide +kernel
theorem dL_law_212 : decode cL_law 212 = .ok (.iaload, 1) := by decide +kernel
theorem dL_law_213 : decode cL_law 213 = .ok (.aload_n 0, 1) := by decide +kernel
theorem dL_law_214 : decode cL_law 214 = .ok (.iload_n 3, 1) := by decide +kernel
theorem dL_law_215 : decode cL_law 215 = .ok (.iconst 2, 1) := by decide +kernel
theorem dL_law_216 : decode cL_law 216 = .ok (.iadd, 1) := by decide +kernel
theorem dL_law_217 : decode cL_law 217 = .ok (.iaload, 1) := by decide +kernel
theorem dL_law_218 : decode cL_law 218 = .ok (.invokevirtual 21, 3) := by decide +kernel
theorem dL_law_221 : decode cL_law 221 = .ok (.if_icmp .eq 763, 3) := by decide +kernel
theorem dL_law_224 : decode cL_law 224 = .ok (.iconst 0, 1) := by decide +kernel
theorem dL_law_225 : decode cL_law 225 = .ok (.ireturn, 1) := by decide +kernel
theorem dL_law_226 : decode cL_law 226 = .ok (.aload_n 1, 1) := by decide +kernel
theorem dL_law_227 : decode cL_law 227 = .ok (.aload_n 0, 1) := by decide +kernel
theorem dL_law_228 : decode cL_law 228 = .ok (.iload_n 3, 1) := by decide +kernel
theorem dL_law_229 : decode cL_law 229 = .ok (.iconst 1, 1) := by decide +kernel
theorem dL_law_230 : decode cL_law 230 = .ok (.iadd, 1) := by decide +kernel
theorem dL_law_231 : decode cL_law 231 = .ok (.iaload, 1) := by decide +kernel
theorem dL_law_232 : decode cL_law 232 = .ok (.aload_n 0, 1) := by decide +kernel
theorem dL_law_233 : decode cL_law 233 = .ok (.iload_n 3, 1) := by decide +kernel
theorem dL_law_234 : decode cL_law 234 = .ok (.iconst 2, 1) := by decide +kernel
theorem dL_law_235 : decode cL_law 235 = .ok (.iadd, 1) := by decide +kernel
theorem dL_law_236 : decode cL_law 236 = .ok (.iaload, 1) := by decide +kernel
theorem dL_law_237 : decode cL_law 237 = .ok (.aload_n 0, 1) := by decide +kernel
theorem dL_law_238 : decode cL_law 238 = .ok (.iload_n 3, 1) := by decide +kernel
theorem dL_law_239 : decode cL_law 239 = .ok (.iconst 3, 1) := by decide +kernel
theorem dL_law_240 : decode cL_law 240 = .ok (.iadd, 1) := by decide +kernel
theorem dL_law_241 : decode cL_law 241 = .ok (.iaload, 1) := by decide +kernel
theorem dL_law_242 : decode cL_law 242 = .ok (.ifCond .eq 7, 3) := by decide +kernel
theorem dL_law_245 : decode cL_law 245 = .ok (.iconst 1, 1) := by decide +kernel
theorem dL_law_246 : decode cL_law 246 = .ok (.goto 4, 3) := by decide +kernel
theorem dL_law_249 : decode cL_law 249 = .ok (.iconst 0, 1) := by decide +kernel
theorem dL_law_250 : decode cL_law 250 = .ok (.aload_n 0, 1) := by decide +kernel
theorem dL_law_251 : decode cL_law 251 = .ok (.iload_n 3, 1) := by decide +kernel
theorem dL_law_252 : decode cL_law 252 = .ok (.iconst 4, 1) := by decide +kernel
theorem dL_law_253 : decode cL_law 253 = .ok (.iadd, 1) := by decide +kernel
theorem dL_law_254 : decode cL_law 254 = .ok (.iaload, 1) := by decide +kernel
theorem dL_law_255 : decode cL_law 255 = .ok (.aload_n 0, 1) := by decide +kernel
theorem dL_law_256 : decode cL_law 256 = .ok (.iload_n 3, 1) := by decide +kernel
theorem dL_law_257 : decode cL_law 257 = .ok (.iconst 5, 1) := by decide +kernel
theorem dL_law_258 : decode cL_law 258 = .ok (.iadd, 1) := by decide +kernel
theorem dL_law_259 : decode cL_law 259 = .ok (.iaload, 1) := by decide +kernel
theorem dL_law_260 : decode cL_law 260 = .ok (.invokevirtual 22, 3) := by decide +kernel
theorem dL_law_263 : decode cL_law 263 = .ok (.aload_n 2, 1) := by decide +kernel
theorem dL_law_264 : decode cL_law 264 = .ok (.aload_n 0, 1) := by decide +kernel
theorem dL_law_265 : decode cL_law 265 = .ok (.iload_n 3, 1) := by decide +kernel
theorem dL_law_266 : decode cL_law 266 = .ok (.iconst 1, 1) := by decide +kernel
theorem dL_law_267 : decode cL_law 267 = .ok (.iadd, 1) := by decide +kernel
theorem dL_law_268 : decode cL_law 268 = .ok (.iaload, 1) := by decide +kernel
theorem dL_law_269 : decode cL_law 269 = .ok (.aload_n 0, 1) := by decide +kernel
theorem dL_law_270 : decode cL_law 270 = .ok (.iload_n 3, 1) := by decide +kernel
theorem dL_law_271 : decode cL_law 271 = .ok (.iconst 2, 1) := by decide +kernel
theorem dL_law_272 : decode cL_law 272 = .ok (.iadd, 1) := by decide +kernel
theorem dL_law_273 : decode cL_law 273 = .ok (.iaload, 1) := by decide +kernel
theorem dL_law_274 : decode cL_law 274 = .ok (.aload_n 0, 1) := by decide +kernel
theorem dL_law_275 : decode cL_law 275 = .ok (.iload_n 3, 1) := by decide +kernel
theorem dL_law_276 : decode cL_law 276 = .ok (.iconst 3, 1) := by decide +kernel
theorem dL_law_277 : decode cL_law 277 = .ok (.iadd, 1) := by decide +kernel
theorem dL_law_278 : decode cL_law 278 = .ok (.iaload, 1) := by decide +kernel
theorem dL_law_279 : decode cL_law 279 = .ok (.ifCond .eq 7, 3) := by decide +kernel
theorem dL_law_282 : decode cL_law 282 = .ok (.iconst 1, 1) := by decide +kernel
theorem dL_law_283 : decode cL_law 283 = .ok (.goto 4, 3) := by decide +kernel
theorem dL_law_286 : decode cL_law 286 = .ok (.iconst 0, 1) := by decide +kernel
theorem dL_law_287 : decode cL_law 287 = .ok (.aload_n 0, 1) := by decide +kernel
theorem dL_law_288 : decode cL_law 288 = .ok (.iload_n 3, 1) := by decide +kernel
theorem dL_law_289 : decode cL_law 289 = .ok (.iconst 4, 1) := by decide +kernel
theorem dL_law_290 : decode cL_law 290 = .ok (.iadd, 1) := by decide +kernel
theorem dL_law_291 : decode cL_law 291 = .ok (.iaload, 1) := by decide +kernel
theorem dL_law_292 : decode cL_law 292 = .ok (.aload_n 0, 1) := by decide +kernel
theorem dL_law_293 : decode cL_law 293 = .ok (.iload_n 3, 1) := by decide +kernel
theorem dL_law_294 : decode cL_law 294 = .ok (.iconst 5, 1) := by decide +kernel
theorem dL_law_295 : decode cL_law 295 = .ok (.iadd, 1) := by decide +kernel
theorem dL_law_296 : decode cL_law 296 = .ok (.iaload, 1) := by decide +kernel
theorem dL_law_297 : decode cL_law 297 = .ok (.invokevirtual 26, 3) := by decide +kernel
theorem dL_law_300 : decode cL_law 300 = .ok (.if_icmp .eq 684, 3) := by decide +kernel
theorem dL_law_303 : decode cL_law 303 = .ok (.iconst 0, 1) := by decide +kernel
theorem dL_law_304 : decode cL_law 304 = .ok (.ireturn, 1) := by decide +kernel
theorem dL_law_305 : decode cL_law 305 = .ok (.aload_n 1, 1) := by decide +kernel
theorem dL_law_306 : decode cL_law 306 = .ok (.aload_n 0, 1) := by decide +kernel
theorem dL_law_307 : decode cL_law 307 = .ok (.iload_n 3, 1) := by decide +kernel
theorem dL_law_308 : decode cL_law 308 = .ok (.iconst 1, 1) := by decide +kernel
theorem dL_law_309 : decode cL_law 309 = .ok (.iadd, 1) := by decide +kernel
theorem dL_law_310 : decode cL_law 310 = .ok (.iaload, 1) := by decide +kernel
theorem dL_law_311 : decode cL_law 311 = .ok (.invokevirtual 27, 3) := by decide +kernel
theorem dL_law_314 : decode cL_law 314 = .ok (.aload_n 2, 1) := by decide +kernel
theorem dL_law_315 : decode cL_law 315 = .ok (.aload_n 0, 1) := by decide +kernel
theorem dL_law_316 : decode cL_law 316 = .ok (.iload_n 3, 1) := by decide +kernel
theorem dL_law_317 : decode cL_law 317 = .ok (.iconst 1, 1) := by decide +kernel
theorem dL_law_318 : decode cL_law 318 = .ok (.iadd, 1) := by decide +kernel
theorem dL_law_319 : decode cL_law 319 = .ok (.iaload, 1) := by decide +kernel
theorem dL_law_320 : decode cL_law 320 = .ok (.invokevirtual 31, 3) := by decide +kernel
theorem dL_law_323 : decode cL_law 323 = .ok (.if_icmp .eq 661, 3) := by decide +kernel
theorem dL_law_326 : decode cL_law 326 = .ok (.iconst 0, 1) := by decide +kernel
theorem dL_law_327 : decode cL_law 327 = .ok (.ireturn, 1) := by decide +kernel
theorem dL_law_328 : decode cL_law 328 = .ok (.aload_n 1, 1) := by decide +kernel
theorem dL_law_329 : decode cL_law 329 = .ok (.invokevirtual 32, 3) := by decide +kernel
theorem dL_law_332 : decode cL_law 332 = .ok (.aload_n 2, 1) := by decide +kernel
theorem dL_law_333 : decode cL_law 333 = .ok (.invokevirtual 36, 3) := by decide +kernel
theorem dL_law_336 : decode cL_law 336 = .ok (.if_icmp .eq 648, 3) := by decide +kernel
theorem dL_law_339 : decode cL_law 339 = .ok (.iconst 0, 1) := by decide +kernel
theorem dL_law_340 : decode cL_law 340 = .ok (.ireturn, 1) := by decide +kernel
theorem dL_law_341 : decode cL_law 341 = .ok (.aload_n 1, 1) := by decide +kernel
theorem dL_law_342 : decode cL_law 342 = .ok (.aload_n 0, 1) := by decide +kernel
theorem dL_law_343 : decode cL_law 343 = .ok (.iload_n 3, 1) := by decide +kernel
theorem dL_law_344 : decode cL_law 344 = .ok (.iconst 1, 1) := by decide +kernel
theorem dL_law_345 : decode cL_law 345 = .ok (.iadd, 1) := by decide +kernel
theorem dL_law_346 : decode cL_law 346 = .ok (.iaload, 1) := by decide +kernel
theorem dL_law_347 : decode cL_law 347 = .ok (.invokevirtual 37, 3) := by decide +kernel
theorem dL_law_350 : decode cL_law 350 = .ok (.aload_n 2, 1) := by decide +kernel
theorem dL_law_351 : decode cL_law 351 = .ok (.aload_n 0, 1) := by decide +kernel
theorem dL_law_352 : decode cL_law 352 = .ok (.iload_n 3, 1) := by decide +kernel
theorem dL_law_353 : decode cL_law 353 = .ok (.iconst 1, 1) := by decide +kernel
theorem dL_law_354 : decode cL_law 354 = .ok (.iadd, 1) := by decide +kernel
theorem dL_law_355 : decode cL_law 355 = .ok (.iaload, 1) := by decide +kernel
theorem dL_law_356 : decode cL_law 356 = .ok (.invokevirtual 40, 3) := by decide +kernel
theorem dL_law_359 : decode cL_law 359 = .ok (.if_icmp .eq 625, 3) := by decide +kernel
theorem dL_law_362 : decode cL_law 362 = .ok (.iconst 0, 1) := by decide +kernel
theorem dL_law_363 : decode cL_law 363 = .ok (.ireturn, 1) := by decide +kernel
theorem dL_law_364 : decode cL_law 364 = .ok (.aload_n 1, 1) := by decide +kernel
theorem dL_law_365 : decode cL_law 365 = .ok (.aload_n 0, 1) := by decide +kernel
theorem dL_law_366 : decode cL_law 366 = .ok (.iload_n 3, 1) := by decide +kernel
theorem dL_law_367 : decode cL_law 367 = .ok (.iconst 1, 1) := by decide +kernel
theorem dL_law_368 : decode cL_law 368 = .ok (.iadd, 1) := by decide +kernel
theorem dL_law_369 : decode cL_law 369 = .ok (.iaload, 1) := by decide +kernel
theorem dL_law_370 : decode cL_law 370 = .ok (.aload_n 0, 1) := by decide +kernel
theorem dL_law_371 : decode cL_law 371 = .ok (.iload_n 3, 1) := by decide +kernel
theorem dL_law_372 : decode cL_law 372 = .ok (.iconst 2, 1) := by decide +kernel
theorem dL_law_373 : decode cL_law 373 = .ok (.iadd, 1) := by decide +kernel
theorem dL_law_374 : decode cL_law 374 = .ok (.iaload, 1) := by decide +kernel
theorem dL_law_375 : decode cL_law 375 = .ok (.invokevirtual 41, 3) := by decide +kernel
theorem dL_law_378 : decode cL_law 378 = .ok (.aload_n 2, 1) := by decide +kernel
theorem dL_law_379 : decode cL_law 379 = .ok (.aload_n 0, 1) := by decide +kernel
theorem dL_law_380 : decode cL_law 380 = .ok (.iload_n 3, 1) := by decide +kernel
theorem dL_law_381 : decode cL_law 381 = .ok (.iconst 1, 1) := by decide +kernel
theorem dL_law_382 : decode cL_law 382 = .ok (.iadd, 1) := by decide +kernel
theorem dL_law_383 : decode cL_law 383 = .ok (.iaload, 1) := by decide +kernel
theorem dL_law_384 : decode cL_law 384 = .ok (.aload_n 0, 1) := by decide +kernel
theorem dL_law_385 : decode cL_law 385 = .ok (.iload_n 3, 1) := by decide +kernel
theorem dL_law_386 : decode cL_law 386 = .ok (.iconst 2, 1) := by decide +kernel
theorem dL_law_387 : decode cL_law 387 = .ok (.iadd, 1) := by decide +kernel
theorem dL_law_388 : decode cL_law 388 = .ok (.iaload, 1) := by decide +kernel
theorem dL_law_389 : decode cL_law 389 = .ok (.invokevirtual 44, 3) := by decide +kernel
theorem dL_law_392 : decode cL_law 392 = .ok (.if_icmp .eq 592, 3) := by decide +kernel
theorem dL_law_395 : decode cL_law 395 = .ok (.iconst 0, 1) := by decide +kernel
theorem dL_law_396 : decode cL_law 396 = .ok (.ireturn, 1) := by decide +kernel
theorem dL_law_397 : decode cL_law 397 = .ok (.aload_n 1, 1) := by decide +kernel
theorem dL_law_398 : decode cL_law 398 = .ok (.aload_n 0, 1) := by decide +kernel
theorem dL_law_399 : decode cL_law 399 = .ok (.iload_n 3, 1) := by decide +kernel
theorem dL_law_400 : decode cL_law 400 = .ok (.iconst 1, 1) := by decide +kernel
theorem dL_law_401 : decode cL_law 401 = .ok (.iadd, 1) := by decide +kernel
theorem dL_law_402 : decode cL_law 402 = .ok (.iaload, 1) := by decide +kernel
theorem dL_law_403 : decode cL_law 403 = .ok (.aload_n 0, 1) := by decide +kernel
theorem dL_law_404 : decode cL_law 404 = .ok (.iload_n 3, 1) := by decide +kernel
theorem dL_law_405 : decode cL_law 405 = .ok (.iconst 2, 1) := by decide +kernel
theorem dL_law_406 : decode cL_law 406 = .ok (.iadd, 1) := by decide +kernel
theorem dL_law_407 : decode cL_law 407 = .ok (.iaload, 1) := by decide +kernel
theorem dL_law_408 : decode cL_law 408 = .ok (.invokevirtual 45, 3) := by decide +kernel
theorem dL_law_411 : decode cL_law 411 = .ok (.aload_n 2, 1) := by decide +kernel
theorem dL_law_412 : decode cL_law 412 = .ok (.aload_n 0, 1) := by decide +kernel
theorem dL_law_413 : decode cL_law 413 = .ok (.iload_n 3, 1) := by decide +kernel
theorem dL_law_414 : decode cL_law 414 = .ok (.iconst 1, 1) := by decide +kernel
theorem dL_law_415 : decode cL_law 415 = .ok (.iadd, 1) := by decide +kernel
theorem dL_law_416 : decode cL_law 416 = .ok (.iaload, 1) := by decide +kernel
theorem dL_law_417 : decode cL_law 417 = .ok (.aload_n 0, 1) := by decide +kernel
theorem dL_law_418 : decode cL_law 418 = .ok (.iload_n 3, 1) := by decide +kernel
theorem dL_law_419 : decode cL_law 419 = .ok (.iconst 2, 1) := by decide +kernel
theorem dL_law_420 : decode cL_law 420 = .ok (.iadd, 1) := by decide +kernel
theorem dL_law_421 : decode cL_law 421 = .ok (.iaload, 1) := by decide +kernel
theorem dL_law_422 : decode cL_law 422 = .ok (.invokevirtual 48, 3) := by decide +kernel
theorem dL_law_425 : decode cL_law 425 = .ok (.if_icmp .eq 559, 3) := by decide +kernel
theorem dL_law_428 : decode cL_law 428 = .ok (.iconst 0, 1) := by decide +kernel
theorem dL_law_429 : decode cL_law 429 = .ok (.ireturn, 1) := by decide +kernel
theorem dL_law_430 : decode cL_law 430 = .ok (.aload_n 1, 1) := by decide +kernel
theorem dL_law_431 : decode cL_law 431 = .ok (.invokevirtual 49, 3) := by decide +kernel
theorem dL_law_434 : decode cL_law 434 = .ok (.aload_n 2, 1) := by decide +kernel
theorem dL_law_435 : decode cL_law 435 = .ok (.invokevirtual 52, 3) := by decide +kernel
theorem dL_law_438 : decode cL_law 438 = .ok (.if_icmp .eq 546, 3) := by decide +kernel
theorem dL_law_441 : decode cL_law 441 = .ok (.iconst 0, 1) := by decide +kernel
theorem dL_law_442 : decode cL_law 442 = .ok (.ireturn, 1) := by decide +kernel
theorem dL_law_443 : decode cL_law 443 = .ok (.aload_n 1, 1) := by decide +kernel
theorem dL_law_444 : decode cL_law 444 = .ok (.aload_n 0, 1) := by decide +kernel
theorem dL_law_445 : decode cL_law 445 = .ok (.iload_n 3, 1) := by decide +kernel
theorem dL_law_446 : decode cL_law 446 = .ok (.iconst 1, 1) := by decide +kernel
theorem dL_law_447 : decode cL_law 447 = .ok (.iadd, 1) := by decide +kernel
theorem dL_law_448 : decode cL_law 448 = .ok (.iaload, 1) := by decide +kernel
theorem dL_law_449 : decode cL_law 449 = .ok (.invokevirtual 53, 3) := by decide +kernel
theorem dL_law_452 : decode cL_law 452 = .ok (.aload_n 2, 1) := by decide +kernel
theorem dL_law_453 : decode cL_law 453 = .ok (.aload_n 0, 1) := by decide +kernel
theorem dL_law_454 : decode cL_law 454 = .ok (.iload_n 3, 1) := by decide +kernel
theorem dL_law_455 : decode cL_law 455 = .ok (.iconst 1, 1) := by decide +kernel
theorem dL_law_456 : decode cL_law 456 = .ok (.iadd, 1) := by decide +kernel
theorem dL_law_457 : decode cL_law 457 = .ok (.iaload, 1) := by decide +kernel
theorem dL_law_458 : decode cL_law 458 = .ok (.invokevirtual 56, 3) := by decide +kernel
theorem dL_law_461 : decode cL_law 461 = .ok (.if_icmp .eq 523, 3) := by decide +kernel
theorem dL_law_464 : decode cL_law 464 = .ok (.iconst 0, 1) := by decide +kernel
theorem dL_law_465 : decode cL_law 465 = .ok (.ireturn, 1) := by decide +kernel
theorem dL_law_466 : decode cL_law 466 = .ok (.aload_n 1, 1) := by decide +kernel
theorem dL_law_467 : decode cL_law 467 = .ok (.invokevirtual 57, 3) := by decide +kernel
theorem dL_law_470 : decode cL_law 470 = .ok (.aload_n 2, 1) := by decide +kernel
theorem dL_law_471 : decode cL_law 471 = .ok (.invokevirtual 60, 3) := by decide +kernel
theorem dL_law_474 : decode cL_law 474 = .ok (.if_icmp .eq 510, 3) := by decide +kernel
theorem dL_law_477 : decode cL_law 477 = .ok (.iconst 0, 1) := by decide +kernel
theorem dL_law_478 : decode cL_law 478 = .ok (.ireturn, 1) := by decide +kernel
theorem dL_law_479 : decode cL_law 479 = .ok (.aload_n 1, 1) := by decide +kernel
theorem dL_law_480 : decode cL_law 480 = .ok (.aload_n 0, 1) := by decide +kernel
theorem dL_law_481 : decode cL_law 481 = .ok (.iload_n 3, 1) := by decide +kernel
theorem dL_law_482 : decode cL_law 482 = .ok (.iconst 1, 1) := by decide +kernel
theorem dL_law_483 : decode cL_law 483 = .ok (.iadd, 1) := by decide +kernel
theorem dL_law_484 : decode cL_law 484 = .ok (.iaload, 1) := by decide +kernel
theorem dL_law_485 : decode cL_law 485 = .ok (.invokevirtual 61, 3) := by decide +kernel
theorem dL_law_488 : decode cL_law 488 = .ok (.aload_n 2, 1) := by decide +kernel
theorem dL_law_489 : decode cL_law 489 = .ok (.aload_n 0, 1) := by decide +kernel
theorem dL_law_490 : decode cL_law 490 = .ok (.iload_n 3, 1) := by decide +kernel
theorem dL_law_491 : decode cL_law 491 = .ok (.iconst 1, 1) := by decide +kernel
theorem dL_law_492 : decode cL_law 492 = .ok (.iadd, 1) := by decide +kernel
theorem dL_law_493 : decode cL_law 493 = .ok (.iaload, 1) := by decide +kernel
theorem dL_law_494 : decode cL_law 494 = .ok (.invokevirtual 64, 3) := by decide +kernel
theorem dL_law_497 : decode cL_law 497 = .ok (.if_icmp .eq 487, 3) := by decide +kernel
theorem dL_law_500 : decode cL_law 500 = .ok (.iconst 0, 1) := by decide +kernel
theorem dL_law_501 : decode cL_law 501 = .ok (.ireturn, 1) := by decide +kernel
theorem dL_law_502 : decode cL_law 502 = .ok (.aload_n 1, 1) := by decide +kernel
theorem dL_law_503 : decode cL_law 503 = .ok (.invokevirtual 65, 3) := by decide +kernel
theorem dL_law_506 : decode cL_law 506 = .ok (.aload_n 2, 1) := by decide +kernel
theorem dL_law_507 : decode cL_law 507 = .ok (.invokevirtual 68, 3) := by decide +kernel
theorem dL_law_510 : decode cL_law 510 = .ok (.if_icmp .eq 474, 3) := by decide +kernel
theorem dL_law_513 : decode cL_law 513 = .ok (.iconst 0, 1) := by decide +kernel
theorem dL_law_514 : decode cL_law 514 = .ok (.ireturn, 1) := by decide +kernel
theorem dL_law_515 : decode cL_law 515 = .ok (.aload_n 1, 1) := by decide +kernel
theorem dL_law_516 : decode cL_law 516 = .ok (.aload_n 0, 1) := by decide +kernel
theorem dL_law_517 : decode cL_law 517 = .ok (.iload_n 3, 1) := by decide +kernel
theorem dL_law_518 : decode cL_law 518 = .ok (.iconst 1, 1) := by decide +kernel
theorem dL_law_519 : decode cL_law 519 = .ok (.iadd, 1) := by decide +kernel
theorem dL_law_520 : decode cL_law 520 = .ok (.iaload, 1) := by decide +kernel
theorem dL_law_521 : decode cL_law 521 = .ok (.invokevirtual 69, 3) := by decide +kernel
theorem dL_law_524 : decode cL_law 524 = .ok (.aload_n 2, 1) := by decide +kernel
theorem dL_law_525 : decode cL_law 525 = .ok (.aload_n 0, 1) := by decide +kernel
theorem dL_law_526 : decode cL_law 526 = .ok (.iload_n 3, 1) := by decide +kernel
theorem dL_law_527 : decode cL_law 527 = .ok (.iconst 1, 1) := by decide +kernel
theorem dL_law_528 : decode cL_law 528 = .ok (.iadd, 1) := by decide +kernel
theorem dL_law_529 : decode cL_law 529 = .ok (.iaload, 1) := by decide +kernel
theorem dL_law_530 : decode cL_law 530 = .ok (.invokevirtual 72, 3) := by decide +kernel
theorem dL_law_533 : decode cL_law 533 = .ok (.if_icmp .eq 451, 3) := by decide +kernel
theorem dL_law_536 : decode cL_law 536 = .ok (.iconst 0, 1) := by decide +kernel
theorem dL_law_537 : decode cL_law 537 = .ok (.ireturn, 1) := by decide +kernel
theorem dL_law_538 : decode cL_law 538 = .ok (.aload_n 1, 1) := by decide +kernel
theorem dL_law_539 : decode cL_law 539 = .ok (.aload_n 0, 1) := by decide +kernel
theorem dL_law_540 : decode cL_law 540 = .ok (.iload_n 3, 1) := by decide +kernel
theorem dL_law_541 : decode cL_law 541 = .ok (.iconst 1, 1) := by decide +kernel
theorem dL_law_542 : decode cL_law 542 = .ok (.iadd, 1) := by decide +kernel
theorem dL_law_543 : decode cL_law 543 = .ok (.iaload, 1) := by decide +kernel
theorem dL_law_544 : decode cL_law 544 = .ok (.aload_n 0, 1) := by decide +kernel
theorem dL_law_545 : decode cL_law 545 = .ok (.iload_n 3, 1) := by decide +kernel
theorem dL_law_546 : decode cL_law 546 = .ok (.iconst 2, 1) := by decide +kernel
theorem dL_law_547 : decode cL_law 547 = .ok (.iadd, 1) := by decide +kernel
theorem dL_law_548 : decode cL_law 548 = .ok (.iaload, 1) := by decide +kernel
theorem dL_law_549 : decode cL_law 549 = .ok (.invokevirtual 73, 3) := by decide +kernel
theorem dL_law_552 : decode cL_law 552 = .ok (.aload_n 2, 1) := by decide +kernel
theorem dL_law_553 : decode cL_law 553 = .ok (.aload_n 0, 1) := by decide +kernel
theorem dL_law_554 : decode cL_law 554 = .ok (.iload_n 3, 1) := by decide +kernel
theorem dL_law_555 : decode cL_law 555 = .ok (.iconst 1, 1) := by decide +kernel
theorem dL_law_556 : decode cL_law 556 = .ok (.iadd, 1) := by decide +kernel
theorem dL_law_557 : decode cL_law 557 = .ok (.iaload, 1) := by decide +kernel
theorem dL_law_558 : decode cL_law 558 = .ok (.aload_n 0, 1) := by decide +kernel
theorem dL_law_559 : decode cL_law 559 = .ok (.iload_n 3, 1) := by decide +kernel
theorem dL_law_560 : decode cL_law 560 = .ok (.iconst 2, 1) := by decide +kernel
theorem dL_law_561 : decode cL_law 561 = .ok (.iadd, 1) := by decide +kernel
theorem dL_law_562 : decode cL_law 562 = .ok (.iaload, 1) := by decide +kernel
theorem dL_law_563 : decode cL_law 563 = .ok (.invokevirtual 76, 3) := by decide +kernel
theorem dL_law_566 : decode cL_law 566 = .ok (.if_icmp .eq 418, 3) := by decide +kernel
theorem dL_law_569 : decode cL_law 569 = .ok (.iconst 0, 1) := by decide +kernel
theorem dL_law_570 : decode cL_law 570 = .ok (.ireturn, 1) := by decide +kernel
theorem dL_law_571 : decode cL_law 571 = .ok (.aload_n 1, 1) := by decide +kernel
theorem dL_law_572 : decode cL_law 572 = .ok (.aload_n 0, 1) := by decide +kernel
theorem dL_law_573 : decode cL_law 573 = .ok (.iload_n 3, 1) := by decide +kernel
theorem dL_law_574 : decode cL_law 574 = .ok (.iconst 1, 1) := by decide +kernel
theorem dL_law_575 : decode cL_law 575 = .ok (.iadd, 1) := by decide +kernel
theorem dL_law_576 : decode cL_law 576 = .ok (.iaload, 1) := by decide +kernel
theorem dL_law_577 : decode cL_law 577 = .ok (.aload_n 0, 1) := by decide +kernel
theorem dL_law_578 : decode cL_law 578 = .ok (.iload_n 3, 1) := by decide +kernel
theorem dL_law_579 : decode cL_law 579 = .ok (.iconst 2, 1) := by decide +kernel
theorem dL_law_580 : decode cL_law 580 = .ok (.iadd, 1) := by decide +kernel
theorem dL_law_581 : decode cL_law 581 = .ok (.iaload, 1) := by decide +kernel
theorem dL_law_582 : decode cL_law 582 = .ok (.invokevirtual 77, 3) := by decide +kernel
theorem dL_law_585 : decode cL_law 585 = .ok (.aload_n 2, 1) := by decide +kernel
theorem dL_law_586 : decode cL_law 586 = .ok (.aload_n 0, 1) := by decide +kernel
theorem dL_law_587 : decode cL_law 587 = .ok (.iload_n 3, 1) := by decide +kernel
theorem dL_law_588 : decode cL_law 588 = .ok (.iconst 1, 1) := by decide +kernel
theorem dL_law_589 : decode cL_law 589 = .ok (.iadd, 1) := by decide +kernel
theorem dL_law_590 : decode cL_law 590 = .ok (.iaload, 1) := by decide +kernel
theorem dL_law_591 : decode cL_law 591 = .ok (.aload_n 0, 1) := by decide +kernel
theorem dL_law_592 : decode cL_law 592 = .ok (.iload_n 3, 1) := by decide +kernel
theorem dL_law_593 : decode cL_law 593 = .ok (.iconst 2, 1) := by decide +kernel
theorem dL_law_594 : decode cL_law 594 = .ok (.iadd, 1) := by decide +kernel
theorem dL_law_595 : decode cL_law 595 = .ok (.iaload, 1) := by decide +kernel
theorem dL_law_596 : decode cL_law 596 = .ok (.invokevirtual 80, 3) := by decide +kernel
theorem dL_law_599 : decode cL_law 599 = .ok (.if_icmp .eq 385, 3) := by decide +kernel
theorem dL_law_602 : decode cL_law 602 = .ok (.iconst 0, 1) := by decide +kernel
theorem dL_law_603 : decode cL_law 603 = .ok (.ireturn, 1) := by decide +kernel
theorem dL_law_604 : decode cL_law 604 = .ok (.aload_n 1, 1) := by decide +kernel
theorem dL_law_605 : decode cL_law 605 = .ok (.aload_n 0, 1) := by decide +kernel
theorem dL_law_606 : decode cL_law 606 = .ok (.iload_n 3, 1) := by decide +kernel
theorem dL_law_607 : decode cL_law 607 = .ok (.iconst 1, 1) := by decide +kernel
theorem dL_law_608 : decode cL_law 608 = .ok (.iadd, 1) := by decide +kernel
theorem dL_law_609 : decode cL_law 609 = .ok (.iaload, 1) := by decide +kernel
theorem dL_law_610 : decode cL_law 610 = .ok (.aload_n 0, 1) := by decide +kernel
theorem dL_law_611 : decode cL_law 611 = .ok (.iload_n 3, 1) := by decide +kernel
theorem dL_law_612 : decode cL_law 612 = .ok (.iconst 2, 1) := by decide +kernel
theorem dL_law_613 : decode cL_law 613 = .ok (.iadd, 1) := by decide +kernel
theorem dL_law_614 : decode cL_law 614 = .ok (.iaload, 1) := by decide +kernel
theorem dL_law_615 : decode cL_law 615 = .ok (.aload_n 0, 1) := by decide +kernel
theorem dL_law_616 : decode cL_law 616 = .ok (.iload_n 3, 1) := by decide +kernel
theorem dL_law_617 : decode cL_law 617 = .ok (.iconst 3, 1) := by decide +kernel
theorem dL_law_618 : decode cL_law 618 = .ok (.iadd, 1) := by decide +kernel
theorem dL_law_619 : decode cL_law 619 = .ok (.iaload, 1) := by decide +kernel
theorem dL_law_620 : decode cL_law 620 = .ok (.invokevirtual 81, 3) := by decide +kernel
theorem dL_law_623 : decode cL_law 623 = .ok (.aload_n 2, 1) := by decide +kernel
theorem dL_law_624 : decode cL_law 624 = .ok (.aload_n 0, 1) := by decide +kernel
theorem dL_law_625 : decode cL_law 625 = .ok (.iload_n 3, 1) := by decide +kernel
theorem dL_law_626 : decode cL_law 626 = .ok (.iconst 1, 1) := by decide +kernel
theorem dL_law_627 : decode cL_law 627 = .ok (.iadd, 1) := by decide +kernel
theorem dL_law_628 : decode cL_law 628 = .ok (.iaload, 1) := by decide +kernel
theorem dL_law_629 : decode cL_law 629 = .ok (.aload_n 0, 1) := by decide +kernel
theorem dL_law_630 : decode cL_law 630 = .ok (.iload_n 3, 1) := by decide +kernel
theorem dL_law_631 : decode cL_law 631 = .ok (.iconst 2, 1) := by decide +kernel
theorem dL_law_632 : decode cL_law 632 = .ok (.iadd, 1) := by decide +kernel
theorem dL_law_633 : decode cL_law 633 = .ok (.iaload, 1) := by decide +kernel
theorem dL_law_634 : decode cL_law 634 = .ok (.aload_n 0, 1) := by decide +kernel
theorem dL_law_635 : decode cL_law 635 = .ok (.iload_n 3, 1) := by decide +kernel
theorem dL_law_636 : decode cL_law 636 = .ok (.iconst 3, 1) := by decide +kernel
theorem dL_law_637 : decode cL_law 637 = .ok (.iadd, 1) := by decide +kernel
theorem dL_law_638 : decode cL_law 638 = .ok (.iaload, 1) := by decide +kernel
theorem dL_law_639 : decode cL_law 639 = .ok (.invokevirtual 85, 3) := by decide +kernel
theorem dL_law_642 : decode cL_law 642 = .ok (.if_icmp .eq 342, 3) := by decide +kernel
theorem dL_law_645 : decode cL_law 645 = .ok (.iconst 0, 1) := by decide +kernel
theorem dL_law_646 : decode cL_law 646 = .ok (.ireturn, 1) := by decide +kernel
theorem dL_law_647 : decode cL_law 647 = .ok (.aload_n 1, 1) := by decide +kernel
theorem dL_law_648 : decode cL_law 648 = .ok (.aload_n 0, 1) := by decide +kernel
theorem dL_law_649 : decode cL_law 649 = .ok (.iload_n 3, 1) := by decide +kernel
theorem dL_law_650 : decode cL_law 650 = .ok (.iconst 1, 1) := by decide +kernel
theorem dL_law_651 : decode cL_law 651 = .ok (.iadd, 1) := by decide +kernel
theorem dL_law_652 : decode cL_law 652 = .ok (.iaload, 1) := by decide +kernel
theorem dL_law_653 : decode cL_law 653 = .ok (.aload_n 0, 1) := by decide +kernel
theorem dL_law_654 : decode cL_law 654 = .ok (.iload_n 3, 1) := by decide +kernel
theorem dL_law_655 : decode cL_law 655 = .ok (.iconst 2, 1) := by decide +kernel
theorem dL_law_656 : decode cL_law 656 = .ok (.iadd, 1) := by decide +kernel
theorem dL_law_657 : decode cL_law 657 = .ok (.iaload, 1) := by decide +kernel
theorem dL_law_658 : decode cL_law 658 = .ok (.invokevirtual 86, 3) := by decide +kernel
theorem dL_law_661 : decode cL_law 661 = .ok (.aload_n 2, 1) := by decide +kernel
theorem dL_law_662 : decode cL_law 662 = .ok (.aload_n 0, 1) := by decide +kernel
theorem dL_law_663 : decode cL_law 663 = .ok (.iload_n 3, 1) := by decide +kernel
theorem dL_law_664 : decode cL_law 664 = .ok (.iconst 1, 1) := by decide +kernel
theorem dL_law_665 : decode cL_law 665 = .ok (.iadd, 1) := by decide +kernel
theorem dL_law_666 : decode cL_law 666 = .ok (.iaload, 1) := by decide +kernel
theorem dL_law_667 : decode cL_law 667 = .ok (.aload_n 0, 1) := by decide +kernel
theorem dL_law_668 : decode cL_law 668 = .ok (.iload_n 3, 1) := by decide +kernel
theorem dL_law_669 : decode cL_law 669 = .ok (.iconst 2, 1) := by decide +kernel
theorem dL_law_670 : decode cL_law 670 = .ok (.iadd, 1) := by decide +kernel
theorem dL_law_671 : decode cL_law 671 = .ok (.iaload, 1) := by decide +kernel
theorem dL_law_672 : decode cL_law 672 = .ok (.invokevirtual 89, 3) := by decide +kernel
theorem dL_law_675 : decode cL_law 675 = .ok (.if_icmp .eq 309, 3) := by decide +kernel
theorem dL_law_678 : decode cL_law 678 = .ok (.iconst 0, 1) := by decide +kernel
theorem dL_law_679 : decode cL_law 679 = .ok (.ireturn, 1) := by decide +kernel
theorem dL_law_680 : decode cL_law 680 = .ok (.aload_n 1, 1) := by decide +kernel
theorem dL_law_681 : decode cL_law 681 = .ok (.aload_n 0, 1) := by decide +kernel
theorem dL_law_682 : decode cL_law 682 = .ok (.iload_n 3, 1) := by decide +kernel
theorem dL_law_683 : decode cL_law 683 = .ok (.iconst 1, 1) := by decide +kernel
theorem dL_law_684 : decode cL_law 684 = .ok (.iadd, 1) := by decide +kernel
theorem dL_law_685 : decode cL_law 685 = .ok (.iaload, 1) := by decide +kernel
theorem dL_law_686 : decode cL_law 686 = .ok (.aload_n 0, 1) := by decide +kernel
theorem dL_law_687 : decode cL_law 687 = .ok (.iload_n 3, 1) := by decide +kernel
theorem dL_law_688 : decode cL_law 688 = .ok (.iconst 2, 1) := by decide +kernel
theorem dL_law_689 : decode cL_law 689 = .ok (.iadd, 1) := by decide +kernel
theorem dL_law_690 : decode cL_law 690 = .ok (.iaload, 1) := by decide +kernel
theorem dL_law_691 : decode cL_law 691 = .ok (.invokevirtual 90, 3) := by decide +kernel
theorem dL_law_694 : decode cL_law 694 = .ok (.aload_n 2, 1) := by decide +kernel
theorem dL_law_695 : decode cL_law 695 = .ok (.aload_n 0, 1) := by decide +kernel
theorem dL_law_696 : decode cL_law 696 = .ok (.iload_n 3, 1) := by decide +kernel
theorem dL_law_697 : decode cL_law 697 = .ok (.iconst 1, 1) := by decide +kernel
theorem dL_law_698 : decode cL_law 698 = .ok (.iadd, 1) := by decide +kernel
theorem dL_law_699 : decode cL_law 699 = .ok (.iaload, 1) := by decide +kernel
theorem dL_law_700 : decode cL_law 700 = .ok (.aload_n 0, 1) := by decide +kernel
theorem dL_law_701 : decode cL_law 701 = .ok (.iload_n 3, 1) := by decide +kernel
theorem dL_law_702 : decode cL_law 702 = .ok (.iconst 2, 1) := by decide +kernel
theorem dL_law_703 : decode cL_law 703 = .ok (.iadd, 1) := by decide +kernel
theorem dL_law_704 : decode cL_law 704 = .ok (.iaload, 1) := by decide +kernel
theorem dL_law_705 : decode cL_law 705 = .ok (.invokevirtual 93, 3) := by decide +kernel
theorem dL_law_708 : decode cL_law 708 = .ok (.if_icmp .eq 276, 3) := by decide +kernel
theorem dL_law_711 : decode cL_law 711 = .ok (.iconst 0, 1) := by decide +kernel
theorem dL_law_712 : decode cL_law 712 = .ok (.ireturn, 1) := by decide +kernel
theorem dL_law_713 : decode cL_law 713 = .ok (.aload_n 1, 1) := by decide +kernel
theorem dL_law_714 : decode cL_law 714 = .ok (.aload_n 0, 1) := by decide +kernel
theorem dL_law_715 : decode cL_law 715 = .ok (.iload_n 3, 1) := by decide +kernel
theorem dL_law_716 : decode cL_law 716 = .ok (.iconst 1, 1) := by decide +kernel
theorem dL_law_717 : decode cL_law 717 = .ok (.iadd, 1) := by decide +kernel
theorem dL_law_718 : decode cL_law 718 = .ok (.iaload, 1) := by decide +kernel
theorem dL_law_719 : decode cL_law 719 = .ok (.aload_n 0, 1) := by decide +kernel
theorem dL_law_720 : decode cL_law 720 = .ok (.iload_n 3, 1) := by decide +kernel
theorem dL_law_721 : decode cL_law 721 = .ok (.iconst 2, 1) := by decide +kernel
theorem dL_law_722 : decode cL_law 722 = .ok (.iadd, 1) := by decide +kernel
theorem dL_law_723 : decode cL_law 723 = .ok (.iaload, 1) := by decide +kernel
theorem dL_law_724 : decode cL_law 724 = .ok (.aload_n 0, 1) := by decide +kernel
theorem dL_law_725 : decode cL_law 725 = .ok (.iload_n 3, 1) := by decide +kernel
theorem dL_law_726 : decode cL_law 726 = .ok (.iconst 3, 1) := by decide +kernel
theorem dL_law_727 : decode cL_law 727 = .ok (.iadd, 1) := by decide +kernel
theorem dL_law_728 : decode cL_law 728 = .ok (.iaload, 1) := by decide +kernel
theorem dL_law_729 : decode cL_law 729 = .ok (.invokevirtual 94, 3) := by decide +kernel
theorem dL_law_732 : decode cL_law 732 = .ok (.aload_n 2, 1) := by decide +kernel
theorem dL_law_733 : decode cL_law 733 = .ok (.aload_n 0, 1) := by decide +kernel
theorem dL_law_734 : decode cL_law 734 = .ok (.iload_n 3, 1) := by decide +kernel
theorem dL_law_735 : decode cL_law 735 = .ok (.iconst 1, 1) := by decide +kernel
theorem dL_law_736 : decode cL_law 736 = .ok (.iadd, 1) := by decide +kernel
theorem dL_law_737 : decode cL_law 737 = .ok (.iaload, 1) := by decide +kernel
theorem dL_law_738 : decode cL_law 738 = .ok (.aload_n 0, 1) := by decide +kernel
theorem dL_law_739 : decode cL_law 739 = .ok (.iload_n 3, 1) := by decide +kernel
theorem dL_law_740 : decode cL_law 740 = .ok (.iconst 2, 1) := by decide +kernel
theorem dL_law_741 : decode cL_law 741 = .ok (.iadd, 1) := by decide +kernel
theorem dL_law_742 : decode cL_law 742 = .ok (.iaload, 1) := by decide +kernel
theorem dL_law_743 : decode cL_law 743 = .ok (.aload_n 0, 1) := by decide +kernel
theorem dL_law_744 : decode cL_law 744 = .ok (.iload_n 3, 1) := by decide +kernel
theorem dL_law_745 : decode cL_law 745 = .ok (.iconst 3, 1) := by decide +kernel
theorem dL_law_746 : decode cL_law 746 = .ok (.iadd, 1) := by decide +kernel
theorem dL_law_747 : decode cL_law 747 = .ok (.iaload, 1) := by decide +kernel
theorem dL_law_748 : decode cL_law 748 = .ok (.invokevirtual 97, 3) := by decide +kernel
theorem dL_law_751 : decode cL_law 751 = .ok (.if_icmp .eq 233, 3) := by decide +kernel
theorem dL_law_754 : decode cL_law 754 = .ok (.iconst 0, 1) := by decide +kernel
theorem dL_law_755 : decode cL_law 755 = .ok (.ireturn, 1) := by decide +kernel
theorem dL_law_756 : decode cL_law 756 = .ok (.aload_n 1, 1) := by decide +kernel
theorem dL_law_757 : decode cL_law 757 = .ok (.aload_n 0, 1) := by decide +kernel
theorem dL_law_758 : decode cL_law 758 = .ok (.iload_n 3, 1) := by decide +kernel
theorem dL_law_759 : decode cL_law 759 = .ok (.iconst 1, 1) := by decide +kernel
theorem dL_law_760 : decode cL_law 760 = .ok (.iadd, 1) := by decide +kernel
theorem dL_law_761 : decode cL_law 761 = .ok (.iaload, 1) := by decide +kernel
theorem dL_law_762 : decode cL_law 762 = .ok (.aload_n 0, 1) := by decide +kernel
theorem dL_law_763 : decode cL_law 763 = .ok (.iload_n 3, 1) := by decide +kernel
theorem dL_law_764 : decode cL_law 764 = .ok (.iconst 2, 1) := by decide +kernel
theorem dL_law_765 : decode cL_law 765 = .ok (.iadd, 1) := by decide +kernel
theorem dL_law_766 : decode cL_law 766 = .ok (.iaload, 1) := by decide +kernel
theorem dL_law_767 : decode cL_law 767 = .ok (.invokevirtual 98, 3) := by decide +kernel
theorem dL_law_770 : decode cL_law 770 = .ok (.aload_n 2, 1) := by decide +kernel
theorem dL_law_771 : decode cL_law 771 = .ok (.aload_n 0, 1) := by decide +kernel
theorem dL_law_772 : decode cL_law 772 = .ok (.iload_n 3, 1) := by decide +kernel
theorem dL_law_773 : decode cL_law 773 = .ok (.iconst 1, 1) := by decide +kernel
theorem dL_law_774 : decode cL_law 774 = .ok (.iadd, 1) := by decide +kernel
theorem dL_law_775 : decode cL_law 775 = .ok (.iaload, 1) := by decide +kernel
theorem dL_law_776 : decode cL_law 776 = .ok (.aload_n 0, 1) := by decide +kernel
theorem dL_law_777 : decode cL_law 777 = .ok (.iload_n 3, 1) := by decide +kernel
theorem dL_law_778 : decode cL_law 778 = .ok (.iconst 2, 1) := by decide +kernel
theorem dL_law_779 : decode cL_law 779 = .ok (.iadd, 1) := by decide +kernel
theorem dL_law_780 : decode cL_law 780 = .ok (.iaload, 1) := by decide +kernel
theorem dL_law_781 : decode cL_law 781 = .ok (.invokevirtual 101, 3) := by decide +kernel
theorem dL_law_784 : decode cL_law 784 = .ok (.if_icmp .eq 200, 3) := by decide +kernel
theorem dL_law_787 : decode cL_law 787 = .ok (.iconst 0, 1) := by decide +kernel
theorem dL_law_788 : decode cL_law 788 = .ok (.ireturn, 1) := by decide +kernel
theorem dL_law_789 : decode cL_law 789 = .ok (.aload_n 1, 1) := by decide +kernel
theorem dL_law_790 : decode cL_law 790 = .ok (.aload_n 0, 1) := by decide +kernel
theorem dL_law_791 : decode cL_law 791 = .ok (.iload_n 3, 1) := by decide +kernel
theorem dL_law_792 : decode cL_law 792 = .ok (.iconst 1, 1) := by decide +kernel
theorem dL_law_793 : decode cL_law 793 = .ok (.iadd, 1) := by decide +kernel
theorem dL_law_794 : decode cL_law 794 = .ok (.iaload, 1) := by decide +kernel
theorem dL_law_795 : decode cL_law 795 = .ok (.invokevirtual 102, 3) := by decide +kernel
theorem dL_law_798 : decode cL_law 798 = .ok (.aload_n 2, 1) := by decide +kernel
theorem dL_law_799 : decode cL_law 799 = .ok (.aload_n 0, 1) := by decide +kernel
theorem dL_law_800 : decode cL_law 800 = .ok (.iload_n 3, 1) := by decide +kernel
theorem dL_law_801 : decode cL_law 801 = .ok (.iconst 1, 1) := by decide +kernel
theorem dL_law_802 : decode cL_law 802 = .ok (.iadd, 1) := by decide +kernel
theorem dL_law_803 : decode cL_law 803 = .ok (.iaload, 1) := by decide +kernel
theorem dL_law_804 : decode cL_law 804 = .ok (.invokevirtual 105, 3) := by decide +kernel
theorem dL_law_807 : decode cL_law 807 = .ok (.if_icmp .eq 177, 3) := by decide +kernel
theorem dL_law_810 : decode cL_law 810 = .ok (.iconst 0, 1) := by decide +kernel
theorem dL_law_811 : decode cL_law 811 = .ok (.ireturn, 1) := by decide +kernel
theorem dL_law_812 : decode cL_law 812 = .ok (.aload_n 1, 1) := by decide +kernel
theorem dL_law_813 : decode cL_law 813 = .ok (.invokevirtual 106, 3) := by decide +kernel
theorem dL_law_816 : decode cL_law 816 = .ok (.dstore 4, 2) := by decide +kernel
theorem dL_law_818 : decode cL_law 818 = .ok (.aload_n 2, 1) := by decide +kernel
theorem dL_law_819 : decode cL_law 819 = .ok (.invokevirtual 110, 3) := by decide +kernel
theorem dL_law_822 : decode cL_law 822 = .ok (.dstore 6, 2) := by decide +kernel
theorem dL_law_824 : decode cL_law 824 = .ok (.dload 4, 2) := by decide +kernel
theorem dL_law_826 : decode cL_law 826 = .ok (.dload 6, 2) := by decide +kernel
theorem dL_law_828 : decode cL_law 828 = .ok (.dcmp .l, 1) := by decide +kernel
theorem dL_law_829 : decode cL_law 829 = .ok (.ifCond .eq 21, 3) := by decide +kernel
theorem dL_law_832 : decode cL_law 832 = .ok (.dload 4, 2) := by decide +kernel
theorem dL_law_834 : decode cL_law 834 = .ok (.dload 4, 2) := by decide +kernel
theorem dL_law_836 : decode cL_law 836 = .ok (.dcmp .l, 1) := by decide +kernel
theorem dL_law_837 : decode cL_law 837 = .ok (.ifCond .eq 11, 3) := by decide +kernel
theorem dL_law_840 : decode cL_law 840 = .ok (.dload 6, 2) := by decide +kernel
theorem dL_law_842 : decode cL_law 842 = .ok (.dload 6, 2) := by decide +kernel
theorem dL_law_844 : decode cL_law 844 = .ok (.dcmp .l, 1) := by decide +kernel
theorem dL_law_845 : decode cL_law 845 = .ok (.ifCond .ne 5, 3) := by decide +kernel
theorem dL_law_848 : decode cL_law 848 = .ok (.iconst 0, 1) := by decide +kernel
theorem dL_law_849 : decode cL_law 849 = .ok (.ireturn, 1) := by decide +kernel
theorem dL_law_850 : decode cL_law 850 = .ok (.goto 134, 3) := by decide +kernel
theorem dL_law_853 : decode cL_law 853 = .ok (.aload_n 1, 1) := by decide +kernel
theorem dL_law_854 : decode cL_law 854 = .ok (.aload_n 0, 1) := by decide +kernel
theorem dL_law_855 : decode cL_law 855 = .ok (.iload_n 3, 1) := by decide +kernel
theorem dL_law_856 : decode cL_law 856 = .ok (.iconst 1, 1) := by decide +kernel
theorem dL_law_857 : decode cL_law 857 = .ok (.iadd, 1) := by decide +kernel
theorem dL_law_858 : decode cL_law 858 = .ok (.iaload, 1) := by decide +kernel
theorem dL_law_859 : decode cL_law 859 = .ok (.aload_n 0, 1) := by decide +kernel
theorem dL_law_860 : decode cL_law 860 = .ok (.iload_n 3, 1) := by decide +kernel
theorem dL_law_861 : decode cL_law 861 = .ok (.iconst 2, 1) := by decide +kernel
theorem dL_law_862 : decode cL_law 862 = .ok (.iadd, 1) := by decide +kernel
theorem dL_law_863 : decode cL_law 863 = .ok (.iaload, 1) := by decide +kernel
theorem dL_law_864 : decode cL_law 864 = .ok (.aload_n 0, 1) := by decide +kernel
theorem dL_law_865 : decode cL_law 865 = .ok (.iload_n 3, 1) := by decide +kernel
theorem dL_law_866 : decode cL_law 866 = .ok (.iconst 3, 1) := by decide +kernel
theorem dL_law_867 : decode cL_law 867 = .ok (.iadd, 1) := by decide +kernel
theorem dL_law_868 : decode cL_law 868 = .ok (.iaload, 1) := by decide +kernel
theorem dL_law_869 : decode cL_law 869 = .ok (.ifCond .eq 7, 3) := by decide +kernel
theorem dL_law_872 : decode cL_law 872 = .ok (.iconst 1, 1) := by decide +kernel
theorem dL_law_873 : decode cL_law 873 = .ok (.goto 4, 3) := by decide +kernel
theorem dL_law_876 : decode cL_law 876 = .ok (.iconst 0, 1) := by decide +kernel
theorem dL_law_877 : decode cL_law 877 = .ok (.aload_n 0, 1) := by decide +kernel
theorem dL_law_878 : decode cL_law 878 = .ok (.iload_n 3, 1) := by decide +kernel
theorem dL_law_879 : decode cL_law 879 = .ok (.iconst 4, 1) := by decide +kernel
theorem dL_law_880 : decode cL_law 880 = .ok (.iadd, 1) := by decide +kernel
theorem dL_law_881 : decode cL_law 881 = .ok (.iaload, 1) := by decide +kernel
theorem dL_law_882 : decode cL_law 882 = .ok (.invokevirtual 111, 3) := by decide +kernel
theorem dL_law_885 : decode cL_law 885 = .ok (.aload_n 2, 1) := by decide +kernel
theorem dL_law_886 : decode cL_law 886 = .ok (.aload_n 0, 1) := by decide +kernel
theorem dL_law_887 : decode cL_law 887 = .ok (.iload_n 3, 1) := by decide +kernel
theorem dL_law_888 : decode cL_law 888 = .ok (.iconst 1, 1) := by decide +kernel
theorem dL_law_889 : decode cL_law 889 = .ok (.iadd, 1) := by decide +kernel
theorem dL_law_890 : decode cL_law 890 = .ok (.iaload, 1) := by decide +kernel
theorem dL_law_891 : decode cL_law 891 = .ok (.aload_n 0, 1) := by decide +kernel
theorem dL_law_892 : decode cL_law 892 = .ok (.iload_n 3, 1) := by decide +kernel
theorem dL_law_893 : decode cL_law 893 = .ok (.iconst 2, 1) := by decide +kernel
theorem dL_law_894 : decode cL_law 894 = .ok (.iadd, 1) := by decide +kernel
theorem dL_law_895 : decode cL_law 895 = .ok (.iaload, 1) := by decide +kernel
theorem dL_law_896 : decode cL_law 896 = .ok (.aload_n 0, 1) := by decide +kernel
theorem dL_law_897 : decode cL_law 897 = .ok (.iload_n 3, 1) := by decide +kernel
theorem dL_law_898 : decode cL_law 898 = .ok (.iconst 3, 1) := by decide +kernel
theorem dL_law_899 : decode cL_law 899 = .ok (.iadd, 1) := by decide +kernel
theorem dL_law_900 : decode cL_law 900 = .ok (.iaload, 1) := by decide +kernel
theorem dL_law_901 : decode cL_law 901 = .ok (.ifCond .eq 7, 3) := by decide +kernel
theorem dL_law_904 : decode cL_law 904 = .ok (.iconst 1, 1) := by decide +kernel
theorem dL_law_905 : decode cL_law 905 = .ok (.goto 4, 3) := by decide +kernel
theorem dL_law_908 : decode cL_law 908 = .ok (.iconst 0, 1) := by decide +kernel
theorem dL_law_909 : decode cL_law 909 = .ok (.aload_n 0, 1) := by decide +kernel
theorem dL_law_910 : decode cL_law 910 = .ok (.iload_n 3, 1) := by decide +kernel
theorem dL_law_911 : decode cL_law 911 = .ok (.iconst 4, 1) := by decide +kernel
theorem dL_law_912 : decode cL_law 912 = .ok (.iadd, 1) := by decide +kernel
theorem dL_law_913 : decode cL_law 913 = .ok (.iaload, 1) := by decide +kernel
theorem dL_law_914 : decode cL_law 914 = .ok (.invokevirtual 115, 3) := by decide +kernel
theorem dL_law_917 : decode cL_law 917 = .ok (.if_icmp .eq 67, 3) := by decide +kernel
theorem dL_law_920 : decode cL_law 920 = .ok (.iconst 0, 1) := by decide +kernel
theorem dL_law_921 : decode cL_law 921 = .ok (.ireturn, 1) := by decide +kernel
theorem dL_law_922 : decode cL_law 922 = .ok (.aload_n 1, 1) := by decide +kernel
theorem dL_law_923 : decode cL_law 923 = .ok (.aload_n 0, 1) := by decide +kernel
theorem dL_law_924 : decode cL_law 924 = .ok (.iload_n 3, 1) := by decide +kernel
theorem dL_law_925 : decode cL_law 925 = .ok (.iconst 1, 1) := by decide +kernel
theorem dL_law_926 : decode cL_law 926 = .ok (.iadd, 1) := by decide +kernel
theorem dL_law_927 : decode cL_law 927 = .ok (.iaload, 1) := by decide +kernel
theorem dL_law_928 : decode cL_law 928 = .ok (.invokevirtual 116, 3) := by decide +kernel
theorem dL_law_931 : decode cL_law 931 = .ok (.aload_n 2, 1) := by decide +kernel
theorem dL_law_932 : decode cL_law 932 = .ok (.aload_n 0, 1) := by decide +kernel
theorem dL_law_933 : decode cL_law 933 = .ok (.iload_n 3, 1) := by decide +kernel
theorem dL_law_934 : decode cL_law 934 = .ok (.iconst 1, 1) := by decide +kernel
theorem dL_law_935 : decode cL_law 935 = .ok (.iadd, 1) := by decide +kernel
theorem dL_law_936 : decode cL_law 936 = .ok (.iaload, 1) := by decide +kernel
theorem dL_law_937 : decode cL_law 937 = .ok (.invokevirtual 119, 3) := by decide +kernel
theorem dL_law_940 : decode cL_law 940 = .ok (.if_icmp .eq 44, 3) := by decide +kernel
theorem dL_law_943 : decode cL_law 943 = .ok (.iconst 0, 1) := by decide +kernel
theorem dL_law_944 : decode cL_law 944 = .ok (.ireturn, 1) := by decide +kernel
theorem dL_law_945 : decode cL_law 945 = .ok (.aload_n 1, 1) := by decide +kernel
theorem dL_law_946 : decode cL_law 946 = .ok (.invokevirtual 120, 3) := by decide +kernel
theorem dL_law_949 : decode cL_law 949 = .ok (.aload_n 2, 1) := by decide +kernel
theorem dL_law_950 : decode cL_law 950 = .ok (.invokevirtual 123, 3) := by decide +kernel
theorem dL_law_953 : decode cL_law 953 = .ok (.if_icmp .eq 31, 3) := by decide +kernel
theorem dL_law_956 : decode cL_law 956 = .ok (.iconst 0, 1) := by decide +kernel
theorem dL_law_957 : decode cL_law 957 = .ok (.ireturn, 1) := by decide +kernel
theorem dL_law_958 : decode cL_law 958 = .ok (.aload_n 1, 1) := by decide +kernel
theorem dL_law_959 : decode cL_law 959 = .ok (.invokevirtual 124, 3) := by decide +kernel
theorem dL_law_962 : decode cL_law 962 = .ok (.aload_n 2, 1) := by decide +kernel
theorem dL_law_963 : decode cL_law 963 = .ok (.invokevirtual 127, 3) := by decide +kernel
theorem dL_law_966 : decode cL_law 966 = .ok (.if_icmp .eq 18, 3) := by decide +kernel
theorem dL_law_969 : decode cL_law 969 = .ok (.iconst 0, 1) := by decide +kernel
theorem dL_law_970 : decode cL_law 970 = .ok (.ireturn, 1) := by decide +kernel
theorem dL_law_971 : decode cL_law 971 = .ok (.aload_n 1, 1) := by decide +kernel
theorem dL_law_972 : decode cL_law 972 = .ok (.invokevirtual 128, 3) := by decide +kernel
theorem dL_law_975 : decode cL_law 975 = .ok (.aload_n 2, 1) := by decide +kernel
theorem dL_law_976 : decode cL_law 976 = .ok (.invokevirtual 131, 3) := by decide +kernel
theorem dL_law_979 : decode cL_law 979 = .ok (.if_icmp .eq 5, 3) := by decide +kernel
theorem dL_law_982 : decode cL_law 982 = .ok (.iconst 0, 1) := by decide +kernel
theorem dL_law_983 : decode cL_law 983 = .ok (.ireturn, 1) := by decide +kernel
theorem dL_law_984 : decode cL_law 984 = .ok (.iinc 3 6, 3) := by decide +kernel
theorem dL_law_987 : decode cL_law 987 = .ok (.goto (-969), 3) := by decide +kernel
theorem dL_law_990 : decode cL_law 990 = .ok (.iconst 1, 1) := by decide +kernel
theorem dL_law_991 : decode cL_law 991 = .ok (.ireturn, 1) := by decide +kernel
end
section
/-! MEMORY: ints by code and slot; the references of the one row of states. Codes 1 .. 158 are the cells that the two constructors make, 159 is the script. -/
abbrev Mem : Type := (Nat → Nat → Int32) × (Nat → Nat)
def gI (M : Mem) (r k : Nat) : Int32 := M.1 r k
def sI (M : Mem) (r k : Nat) (v : Int32) : Mem := (fun r2 k2 => if r2 = r ∧ k2 = k then v else M.1 r2 k2, M.2)
def gH (M : Mem) (k : Nat) : Nat := M.2 k
def sH (M : Mem) (k v : Nat) : Mem := (M.1, fun k2 => if k2 = k then v else M.2 k2)
/-- kinds: 1 + the class's number; 8 int[], 9 Edition[], 10 Ruling[], 11 State[], 12 the script -/
def kdL : List Nat := [0, 6, 11, 2, 8, 1, 8, 4, 8, 8, 8, 8] ++ ((List.replicate 6 [5, 8, 8, 9, 10, 1, 8, 1, 8, 1, 8, 1, 8, 3, 3, 3, 3, 3, 3, 3, 3, 3, 3]).flatten ++ [7, 8, 8, 8, 8, 8, 8, 8, 8, 12])
def kd (r : Nat) : Nat := kdL.getD r 0
def lnL : List Nat := [0, 0, 4, 0, 60, 0, 12, 0, 12, 12, 12, 13] ++ ((List.replicate 6 [0, 6, 2, 4, 10, 0, 12, 0, 12, 0, 12, 0, 12, 0, 0, 0, 0, 0, 0, 0, 0, 0, 0]).flatten ++ [0, 137, 548, 137, 60, 3, 12, 12, 13, 0])
def ln (r : Nat) : Nat := lnL.getD r 0
/-- the final references -/
def fld (r k : Nat) : Nat := match kd r with
  | 1 => if k = 0 then r + 1 else 0
  | 2 => if k = 0 then r + 1 else 0
  | 4 => if k < 4 then r + 1 + k else 0
  | 5 => if k < 4 then r + 1 + k else 0
  | 6 => match k with
    | 0 => 12
    | 1 => 35
    | 2 => 2
    | 3 => 3
    | 4 => 5
    | 5 => 7
    | _ => 0
  | 7 => match k with
    | 0 => 151
    | 1 => 152
    | 3 => 153
    | 5 => 154
    | 15 => 155
    | 16 => 156
    | 17 => 157
    | 18 => 158
    | _ => 0
  | 9 => if k < 4 then r + 2 + 2 * k else 0
  | 10 => if k < 10 then r + 9 + k else 0
  | _ => 0
/-- the world's parameters: classes and slots; the array classes; where each code's cell is; which cells may change -/
abbrev Om : Type := va_G × (Nat → ClassId) × (Nat → Nat) × (Nat → Prop)
def oa (w : Om) (r : Nat) : Option Nat := if r = 0 then none else some (w.2.2.1 r)
def rv (w : Om) (r : Nat) : Value := va_rf (oa w r)
def flds (w : Om) (M : Mem) (ci r : Nat) : List Value := match ci with
  | 0 => [rv w (fld r 0), .int (gI M r 1), .int (gI M r 2), .int (gI M r 3), .int (gI M r 4)]
  | 1 => [rv w (fld r 0), .int (gI M r 1)]
  | 2 => [.int (gI M r 0), .int (gI M r 1), .int (gI M r 2), .int (gI M r 3), .int (gI M r 4), .int (gI M r 5), .int (gI M r 6)]
  | 3 => [rv w (fld r 0), rv w (fld r 1), rv w (fld r 2), rv w (fld r 3), .int (gI M r 4), .int (gI M r 5), .int (gI M r 6)]
  | 4 => [rv w (fld r 0), rv w (fld r 1), rv w (fld r 2), rv w (fld r 3), .int (gI M r 4), .int (gI M r 5), .int (gI M r 6), .int (gI M r 7), .int (gI M r 8)]
  | 5 => [rv w (fld r 0), rv w (fld r 1), rv w (fld r 2), rv w (fld r 3), rv w (fld r 4), rv w (fld r 5), .int (gI M r 6), .int (gI M r 7), .int (gI M r 8), .int (gI M r 9), .int (gI M r 10), .int (gI M r 11)]
  | _ => [rv w (fld r 0), rv w (fld r 1), .int (gI M r 2), rv w (fld r 3), .int (gI M r 4), rv w (fld r 5), .int (gI M r 6), .int (gI M r 7), .int (gI M r 8), .int (gI M r 9), .int (gI M r 10), .int (gI M r 11), .int (gI M r 12), .int (gI M r 13), .int (gI M r 14), rv w (fld r 15), rv w (fld r 16), rv w (fld r 17), rv w (fld r 18)]
def cell (w : Om) (M : Mem) (r : Nat) : va_E := if kd r < 8 then .inr (kd r - 1, flds w M (kd r - 1) r) else
  if kd r = 8 then .inl (w.2.1 0, ln r, .inl (M.1 r)) else
  if kd r = 11 then .inl (w.2.1 3, ln r, .inr (.inr (.inr (.inr (fun k => oa w (M.2 k)))))) else
  .inl (w.2.1 (kd r - 8), ln r, .inr (.inr (.inr (.inr (fun k => oa w (fld r k))))))
def wo (w : Om) (M : Mem) : va_W := (List.range 158).map (fun i => (w.2.2.1 (i + 1), cell w M (i + 1)))
def tys (w : Om) : List (ClassId × FieldType) := [(w.2.1 0, .int), (w.2.1 1, .object "CommaCourt$Edition"), (w.2.1 2, .object "CommaCourt$Ruling"), (w.2.1 3, .object "CommaCourt$State")]
def Wf (w : Om) : Prop := ∀ M : Mem, va_D w.2.2.2 (wo w M)
theorem kd_all : ∀ r, r < 160 → kd r ≠ 0 → kd r ≠ 12 → 1 ≤ r ∧ r ≤ 158 := by decide +kernel
theorem kd_len : kdL.length = 160 := by decide +kernel
theorem kd_lt {r : Nat} (h : kd r ≠ 0) : r < 160 := by
  by_cases h1 : r < 160
  · exact h1
  · exact absurd (by unfold kd; rw [List.getD_eq_getElem?_getD, List.getElem?_eq_none (by rw [kd_len]; omega)]; rfl) h
theorem kd_in {r : Nat} (h : kd r ≠ 0) (h2 : kd r ≠ 12) : 1 ≤ r ∧ r ≤ 158 := kd_all r (kd_lt h) h h2
theorem kd_11a : ∀ r, r < 160 → kd r = 11 → r = 2 := by decide +kernel
theorem kd_11 {r : Nat} (h : kd r = 11) : r = 2 := kd_11a r (kd_lt (by rw [h]; decide)) h
theorem wo_at {w : Om} {M : Mem} {r : Nat} (h : 1 ≤ r ∧ r ≤ 158) : (wo w M)[r - 1]? = some (w.2.2.1 r, cell w M r) := by
  unfold wo
  rw [List.getElem?_map, List.getElem?_range (by omega)]
  simp only [Option.map_some, Option.some.injEq]
  rw [show r - 1 + 1 = r by omega]
theorem wo_set {w : Om} {M M2 : Mem} {r : Nat} {e : va_E} (h : 1 ≤ r ∧ r ≤ 158) (he : cell w M2 r = e) (ho : ∀ q, q ≠ r → cell w M2 q = cell w M q) : (wo w M).set (r - 1) (w.2.2.1 r, e) = wo w M2 := by
  apply List.ext_getElem?
  intro i
  rw [List.getElem?_set]
  by_cases h1 : r - 1 = i
  · subst h1
    rw [if_pos rfl, if_pos (by unfold wo; rw [List.length_map, List.length_range]; omega), wo_at h, he]
  · rw [if_neg h1]
    unfold wo
    rw [List.getElem?_map, List.getElem?_map]
    by_cases h2 : i < 158
    · rw [List.getElem?_range h2]
      simp only [Option.map_some, Option.some.injEq, Prod.mk.injEq, true_and]
      exact (ho _ (by omega)).symm
    · rw [List.getElem?_eq_none (by rw [List.length_range]; omega)]
      rfl
theorem sI_ne {M : Mem} {r k : Nat} {v : Int32} {q : Nat} (h : q ≠ r) : (sI M r k v).1 q = M.1 q := by
  funext j
  simp [sI, h]
theorem gI_ne {M : Mem} {r k : Nat} {v : Int32} {q j : Nat} (h : q ≠ r) : gI (sI M r k v) q j = gI M q j := by
  unfold gI
  rw [sI_ne h]
theorem flds_ne {w : Om} {M : Mem} {r k ci : Nat} {v : Int32} {q : Nat} (h : q ≠ r) : flds w (sI M r k v) ci q = flds w M ci q := by
  unfold flds
  simp only [gI_ne h]
theorem cell_sI {w : Om} {M : Mem} {r k : Nat} {v : Int32} {q : Nat} (h : q ≠ r) : cell w (sI M r k v) q = cell w M q := by
  unfold cell
  rw [flds_ne h, sI_ne h]
  rfl
theorem cell_o {w : Om} {M : Mem} {r ci : Nat} (hc : ci < 7) (h : kd r = ci + 1) : cell w M r = .inr (ci, flds w M ci r) := by
  unfold cell
  rw [if_pos (by omega), h]
  rfl
theorem cell_i {w : Om} {M : Mem} {r : Nat} (h : kd r = 8) : cell w M r = .inl (w.2.1 0, ln r, .inl (M.1 r)) := by
  unfold cell
  rw [if_neg (by omega), if_pos h]
theorem cell_r {w : Om} {M : Mem} {r : Nat} (h : kd r = 9 ∨ kd r = 10) : cell w M r = .inl (w.2.1 (kd r - 8), ln r, .inr (.inr (.inr (.inr (fun k => oa w (fld r k)))))) := by
  unfold cell
  rw [if_neg (by omega), if_neg (by omega), if_neg (by omega)]
theorem cell_s {w : Om} {M : Mem} {r : Nat} (h : kd r = 11) : cell w M r = .inl (w.2.1 3, ln r, .inr (.inr (.inr (.inr (fun k => oa w (M.2 k)))))) := by
  unfold cell
  rw [if_neg (by omega), if_neg (by omega), if_pos h]
theorem rv_some {w : Om} {r : Nat} (h : kd r ≠ 0) : rv w r = .ref (w.2.2.1 r) := by
  unfold rv oa
  rw [if_neg (by intro e; subst e; exact h (by decide))]
  rfl
theorem rv_cat (w : Om) (r : Nat) : (rv w r).category = 1 := by
  unfold rv oa
  by_cases h : r = 0
  · rw [if_pos h]; rfl
  · rw [if_neg h]; rfl
theorem rv_or (w : Om) (r : Nat) : rv w r = .null ∨ ∃ a, rv w r = .ref a := by
  unfold rv oa
  by_cases h : r = 0
  · rw [if_pos h]; exact Or.inl rfl
  · rw [if_neg h]; exact Or.inr ⟨_, rfl⟩
/-! THE WALK'S STANDING -/
def lw_g : List Cond := lw_tbl.filter goodWord
theorem lw_gg : GoodIn lw_g lw_g := fun w h => ⟨h, good_of_word (List.mem_filter.mp h).2⟩
theorem in_g {x : Cond} (k : Nat) (h : lw_tbl[k]? = some x) (hg : goodWord x = true) : x ∈ lw_g := List.mem_filter.mpr ⟨List.mem_of_getElem? h, hg⟩
/-- the links to nest mates' private members -/
def nsL : List (String × Nat × MethodName × String) := [("CommaCourt$State", 30, ⟨"CommaCourt", "put", "([III)V"⟩, "CommaCourt"), ("CommaCourt$State", 34, ⟨"CommaCourt$Edition", "<init>", "()V"⟩, "CommaCourt"), ("CommaCourt$State", 35, ⟨"CommaCourt$Ruling", "<init>", "()V"⟩, "CommaCourt"), ("CommaCourt", 25, ⟨"CommaCourt$Pad", "<init>", "()V"⟩, "CommaCourt"), ("CommaCourt", 32, ⟨"CommaCourt$Edition", "<init>", "()V"⟩, "CommaCourt"), ("CommaCourt", 39, ⟨"CommaCourt$Sheet", "<init>", "()V"⟩, "CommaCourt"), ("CommaCourt$State", 36, ⟨"CommaCourt", "at", "([II)I"⟩, "CommaCourt"), ("CommaCourt$Edition", 15, ⟨"CommaCourt", "at", "([II)I"⟩, "CommaCourt"), ("CommaCourt$Edition", 19, ⟨"CommaCourt", "put", "([III)V"⟩, "CommaCourt"), ("CommaCourt$Pad", 19, ⟨"CommaCourt", "at", "([II)I"⟩, "CommaCourt"), ("CommaCourt$Pad", 27, ⟨"CommaCourt", "isWithin", "(III)Z"⟩, "CommaCourt"), ("CommaCourt$Pad", 46, ⟨"CommaCourt", "put", "([III)V"⟩, "CommaCourt"), ("CommaCourt$Sheet", 36, ⟨"CommaCourt", "at", "([II)I"⟩, "CommaCourt"), ("CommaCourt$Sheet", 51, ⟨"CommaCourt", "put", "([III)V"⟩, "CommaCourt")]
def Ns (U : State) : Prop := ∀ q ∈ nsL, va_Nw (.methodLinkNest q.1 q.2.1 q.2.2.1 q.2.2.2) U
theorem Ns.warm {s U : State} (hW : s.WarmedH U.vm) (h : Ns s) : Ns U := fun q hq => va_Nw.warmM hW (h q hq)
theorem Ns.same {u U : State} (e : u.vm = U.vm) (h : Ns u) : Ns U := fun q hq => va_Nw.same rfl e (h q hq)
/-- locals by place: what is known of them -/
def lh (ls : Array Slot) (nL : Nat) (L : List (Option Value)) : Prop := ls.size = nL ∧ lv_wf ls ∧ ∀ (i : Nat) (v : Value), L[i]? = some (some v) → ls[i]? = some (.val v)
def lvs (L : List (Option Value)) : List (Nat × Value) := (List.range L.length).filterMap (fun i => match L[i]? with
  | some (some v) => some (i, v)
  | _ => none)
theorem lvs_mem {L : List (Option Value)} {q : Nat × Value} : q ∈ lvs L ↔ L[q.1]? = some (some q.2) := by
  obtain ⟨i, v⟩ := q
  unfold lvs
  rw [List.mem_filterMap]
  constructor
  · rintro ⟨j, hj, h⟩
    split at h
    · rename_i v2 e
      cases h
      exact e
    · cases h
  · intro h
    refine ⟨i, List.mem_range.mpr (List.getElem?_eq_some_iff.mp h).1, ?_⟩
    simp only at h
    rw [h]
theorem lh_has {ls : Array Slot} {nL : Nat} {L : List (Option Value)} (h : lh ls nL L) : lv_has ls nL (lvs L) := ⟨h.1, h.2.1, fun q hq => h.2.2 _ _ (lvs_mem.mp hq)⟩
/-- the place ahead holds no half of two -/
def NC (L : List (Option Value)) (i : Nat) : Prop := match i with
  | 0 => True
  | j + 1 => match L[j]? with
    | some (some v) => v.category = 1
    | _ => True
theorem NC_use {L : List (Option Value)} {j : Nat} (h : NC L (j + 1)) {v : Value} (e : L[j]? = some (some v)) : v.category = 1 := by
  unfold NC at h
  simp only [e] at h
  exact h
theorem lh_set {ls2 : Array Slot} {nL i : Nat} {L : List (Option Value)} {v : Value} (hc : NC L i) (h : lv_has ls2 nL ((i, v) :: (lvs L).filter (fun q => !(q.1 == i) && !(q.1 + 1 == i && q.2.category == 2)))) : lh ls2 nL (L.set i (some v)) := by
  refine ⟨h.1, h.2.1, fun k u hk => ?_⟩
  rw [List.getElem?_set] at hk
  by_cases hik : i = k
  · subst hik
    rw [if_pos rfl] at hk
    by_cases hl : i < L.length
    · rw [if_pos hl] at hk
      cases hk
      exact h.2.2 (i, v) List.mem_cons_self
    · rw [if_neg hl] at hk
      cases hk
  · rw [if_neg hik] at hk
    refine h.2.2 (k, u) (List.mem_cons_of_mem _ (List.mem_filter.mpr ⟨lvs_mem.mpr hk, ?_⟩))
    have h1 : (k == i) = false := by simpa using fun e : k = i => hik e.symm
    by_cases h2 : k + 1 = i
    · subst h2
      have := NC_use hc hk
      simp [this]
    · simp [h2]
      omega
theorem lh_set2 {ls2 : Array Slot} {nL i : Nat} {L : List (Option Value)} {v : Value} (hc : NC L i) (h : lv_has ls2 nL ((i, v) :: (lvs L).filter (fun q => !(q.1 == i) && (!(q.1 == i + 1) && !(q.1 + 1 == i && q.2.category == 2))))) : lh ls2 nL ((L.set i (some v)).set (i + 1) none) := by
  refine ⟨h.1, h.2.1, fun k u hk => ?_⟩
  rw [List.getElem?_set] at hk
  by_cases hik : i + 1 = k
  · subst hik
    rw [if_pos rfl] at hk
    split at hk <;> cases hk
  · rw [if_neg hik, List.getElem?_set] at hk
    by_cases hik2 : i = k
    · subst hik2
      rw [if_pos rfl] at hk
      by_cases hl : i < L.length
      · rw [if_pos hl] at hk
        cases hk
        exact h.2.2 (i, v) List.mem_cons_self
      · rw [if_neg hl] at hk
        cases hk
    · rw [if_neg hik2] at hk
      refine h.2.2 (k, u) (List.mem_cons_of_mem _ (List.mem_filter.mpr ⟨lvs_mem.mpr hk, ?_⟩))
      by_cases h2 : k + 1 = i
      · subst h2
        have := NC_use hc hk
        simp [this]
        omega
      · simp [h2]
        omega
/-- the frame's parameters -/
abbrev Fr : Type _ := Program × Launch × Env × Room × State × MethodId × Array Value × List Frame × Method × Code × Nat × Nat × (State → Prop)
abbrev f_p (f : Fr) : Program := f.1
abbrev f_l (f : Fr) : Launch := f.2.1
abbrev f_e (f : Fr) : Env := f.2.2.1
abbrev f_R (f : Fr) : Room := f.2.2.2.1
abbrev f_s (f : Fr) : State := f.2.2.2.2.1
abbrev f_m (f : Fr) : MethodId := f.2.2.2.2.2.1
abbrev f_a (f : Fr) : Array Value := f.2.2.2.2.2.2.1
abbrev f_b (f : Fr) : List Frame := f.2.2.2.2.2.2.2.1
abbrev f_me (f : Fr) : Method := f.2.2.2.2.2.2.2.2.1
abbrev f_c (f : Fr) : Code := f.2.2.2.2.2.2.2.2.2.1
abbrev f_ce (f : Fr) : Nat := f.2.2.2.2.2.2.2.2.2.2.1
abbrev f_sl (f : Fr) : Nat := f.2.2.2.2.2.2.2.2.2.2.2.1
abbrev f_Q (f : Fr) : State → Prop := f.2.2.2.2.2.2.2.2.2.2.2.2
def Go (w : Om) (f : Fr) (pc : Nat) (L : List (Option Value)) (st : List Value) (M : Mem) : Prop :=
  ∀ (H : Heap) (locs : List Loc) (ls : Array Slot), va_P w.1 vwCl (wo w M) H → va_S w.2.2.2 (f_s f).heap H locs → lh ls (f_c f).maxLocals L → W (f_p f) (f_l f) (f_e f) (f_R f) (f_s f) (f_m f) (f_a f) (f_b f) (f_me f) (f_c f) H locs (f_ce f) (f_sl f) (f_Q f) (F0 (f_m f) pc ls st)
/-- what holds of the frame throughout; nL: how many locals; lev: how deep calls may go -/
def Cx (w : Om) (f : Fr) (own : String) (cc : ByteArray) (nL lev : Nat) : Prop :=
  (f_p f).tables.exec = Jvm.exec ∧ (f_c f).code = cc ∧ (f_c f).maxLocals = nL ∧ (f_s f).vm.findClass own = some (f_m f).cls ∧ (∀ x ∈ lw_g, x.before (f_a f) (f_s f) = true) ∧ va_K w.1 vwCl (tys w) (f_s f) ∧ Wf w ∧ Ns (f_s f) ∧ lev + 1 ≤ (f_R f).frames ∧ 60 * (lev + 1) ≤ (f_R f).locals ∧ f_ce f ≤ (f_R f).cells ∧ f_sl f ≤ (f_R f).slots
section CX
variable {w : Om} {f : Fr} {own : String} {cc : ByteArray} {nL lev : Nat}
theorem Cx.ex (C : Cx w f own cc nL lev) : (f_p f).tables.exec = Jvm.exec := C.1
theorem Cx.co (C : Cx w f own cc nL lev) : (f_c f).code = cc := C.2.1
theorem Cx.ml (C : Cx w f own cc nL lev) : (f_c f).maxLocals = nL := C.2.2.1
theorem Cx.ow (C : Cx w f own cc nL lev) : (f_s f).vm.findClass own = some (f_m f).cls := C.2.2.2.1
theorem Cx.ts (C : Cx w f own cc nL lev) : ∀ x ∈ lw_g, x.before (f_a f) (f_s f) = true := C.2.2.2.2.1
theorem Cx.K (C : Cx w f own cc nL lev) : va_K w.1 vwCl (tys w) (f_s f) := C.2.2.2.2.2.1
theorem Cx.wf (C : Cx w f own cc nL lev) : Wf w := C.2.2.2.2.2.2.1
theorem Cx.ns (C : Cx w f own cc nL lev) : Ns (f_s f) := C.2.2.2.2.2.2.2.1
theorem Cx.fr (C : Cx w f own cc nL lev) : lev + 1 ≤ (f_R f).frames := C.2.2.2.2.2.2.2.2.1
theorem Cx.lo (C : Cx w f own cc nL lev) : 60 * (lev + 1) ≤ (f_R f).locals := C.2.2.2.2.2.2.2.2.2.1
theorem Cx.ce (C : Cx w f own cc nL lev) : f_ce f ≤ (f_R f).cells := C.2.2.2.2.2.2.2.2.2.2.1
theorem Cx.sl (C : Cx w f own cc nL lev) : f_sl f ≤ (f_R f).slots := C.2.2.2.2.2.2.2.2.2.2.2
end CX
end
section
/-! WORDS: each in lw_g, by its place -/
theorem fl_RX0_9 : Jvm.Cond.fieldLink RX0 9 (TX0 0).1 (TX0 0).2.1 (TX0 0).2.2.1 ∈ lw_g := in_g 97 (by decide +kernel) rfl
theorem fl_RX1_43 : Jvm.Cond.fieldLink RX1 43 (TX0 0).1 (TX0 0).2.1 (TX0 0).2.2.1 ∈ lw_g := in_g 98 (by decide +kernel) rfl
theorem fl_RX3_24 : Jvm.Cond.fieldLink RX3 24 (TX0 1).1 (TX0 1).2.1 (TX0 1).2.2.1 ∈ lw_g := in_g 99 (by decide +kernel) rfl
theorem fl_RX0_23 : Jvm.Cond.fieldLink RX0 23 (TX0 1).1 (TX0 1).2.1 (TX0 1).2.2.1 ∈ lw_g := in_g 100 (by decide +kernel) rfl
theorem fl_RX1_35 : Jvm.Cond.fieldLink RX1 35 (TX0 1).1 (TX0 1).2.1 (TX0 1).2.2.1 ∈ lw_g := in_g 101 (by decide +kernel) rfl
theorem fl_RX4_94 : Jvm.Cond.fieldLink RX4 94 (TX0 1).1 (TX0 1).2.1 (TX0 1).2.2.1 ∈ lw_g := in_g 102 (by decide +kernel) rfl
theorem fl_RX5_174 : Jvm.Cond.fieldLink RX5 174 (TX0 1).1 (TX0 1).2.1 (TX0 1).2.2.1 ∈ lw_g := in_g 103 (by decide +kernel) rfl
theorem fl_RX0_27 : Jvm.Cond.fieldLink RX0 27 (TX0 2).1 (TX0 2).2.1 (TX0 2).2.2.1 ∈ lw_g := in_g 104 (by decide +kernel) rfl
theorem fl_RX5_105 : Jvm.Cond.fieldLink RX5 105 (TX0 2).1 (TX0 2).2.1 (TX0 2).2.2.1 ∈ lw_g := in_g 105 (by decide +kernel) rfl
theorem fl_RX1_40 : Jvm.Cond.fieldLink RX1 40 (TX0 2).1 (TX0 2).2.1 (TX0 2).2.2.1 ∈ lw_g := in_g 106 (by decide +kernel) rfl
theorem fl_RX4_75 : Jvm.Cond.fieldLink RX4 75 (TX0 2).1 (TX0 2).2.1 (TX0 2).2.2.1 ∈ lw_g := in_g 107 (by decide +kernel) rfl
theorem fl_RX0_30 : Jvm.Cond.fieldLink RX0 30 (TX0 3).1 (TX0 3).2.1 (TX0 3).2.2.1 ∈ lw_g := in_g 108 (by decide +kernel) rfl
theorem fl_RX4_82 : Jvm.Cond.fieldLink RX4 82 (TX0 3).1 (TX0 3).2.1 (TX0 3).2.2.1 ∈ lw_g := in_g 109 (by decide +kernel) rfl
theorem fl_RX5_136 : Jvm.Cond.fieldLink RX5 136 (TX0 3).1 (TX0 3).2.1 (TX0 3).2.2.1 ∈ lw_g := in_g 110 (by decide +kernel) rfl
theorem fl_RX0_33 : Jvm.Cond.fieldLink RX0 33 (TX0 4).1 (TX0 4).2.1 (TX0 4).2.2.1 ∈ lw_g := in_g 111 (by decide +kernel) rfl
theorem fl_RX5_196 : Jvm.Cond.fieldLink RX5 196 (TX0 4).1 (TX0 4).2.1 (TX0 4).2.2.1 ∈ lw_g := in_g 112 (by decide +kernel) rfl
theorem fl_RX2_7 : Jvm.Cond.fieldLink RX2 7 (TX2 0).1 (TX2 0).2.1 (TX2 0).2.2.1 ∈ lw_g := in_g 130 (by decide +kernel) rfl
theorem fl_RX4_97 : Jvm.Cond.fieldLink RX4 97 (TX2 0).1 (TX2 0).2.1 (TX2 0).2.2.1 ∈ lw_g := in_g 131 (by decide +kernel) rfl
theorem fl_RX5_211 : Jvm.Cond.fieldLink RX5 211 (TX2 0).1 (TX2 0).2.1 (TX2 0).2.2.1 ∈ lw_g := in_g 132 (by decide +kernel) rfl
theorem fl_RX2_13 : Jvm.Cond.fieldLink RX2 13 (TX2 1).1 (TX2 1).2.1 (TX2 1).2.2.1 ∈ lw_g := in_g 133 (by decide +kernel) rfl
theorem fl_RX4_100 : Jvm.Cond.fieldLink RX4 100 (TX2 1).1 (TX2 1).2.1 (TX2 1).2.2.1 ∈ lw_g := in_g 134 (by decide +kernel) rfl
theorem fl_RX5_214 : Jvm.Cond.fieldLink RX5 214 (TX2 1).1 (TX2 1).2.1 (TX2 1).2.2.1 ∈ lw_g := in_g 135 (by decide +kernel) rfl
theorem fl_RX2_16 : Jvm.Cond.fieldLink RX2 16 (TX2 2).1 (TX2 2).2.1 (TX2 2).2.2.1 ∈ lw_g := in_g 136 (by decide +kernel) rfl
theorem fl_RX4_103 : Jvm.Cond.fieldLink RX4 103 (TX2 2).1 (TX2 2).2.1 (TX2 2).2.2.1 ∈ lw_g := in_g 137 (by decide +kernel) rfl
theorem fl_RX5_217 : Jvm.Cond.fieldLink RX5 217 (TX2 2).1 (TX2 2).2.1 (TX2 2).2.2.1 ∈ lw_g := in_g 138 (by decide +kernel) rfl
theorem fl_RX2_20 : Jvm.Cond.fieldLink RX2 20 (TX2 3).1 (TX2 3).2.1 (TX2 3).2.2.1 ∈ lw_g := in_g 139 (by decide +kernel) rfl
theorem fl_RX4_107 : Jvm.Cond.fieldLink RX4 107 (TX2 3).1 (TX2 3).2.1 (TX2 3).2.2.1 ∈ lw_g := in_g 140 (by decide +kernel) rfl
theorem fl_RX5_220 : Jvm.Cond.fieldLink RX5 220 (TX2 3).1 (TX2 3).2.1 (TX2 3).2.2.1 ∈ lw_g := in_g 141 (by decide +kernel) rfl
theorem fl_RX2_23 : Jvm.Cond.fieldLink RX2 23 (TX2 4).1 (TX2 4).2.1 (TX2 4).2.2.1 ∈ lw_g := in_g 142 (by decide +kernel) rfl
theorem fl_RX4_110 : Jvm.Cond.fieldLink RX4 110 (TX2 4).1 (TX2 4).2.1 (TX2 4).2.2.1 ∈ lw_g := in_g 143 (by decide +kernel) rfl
theorem fl_RX5_223 : Jvm.Cond.fieldLink RX5 223 (TX2 4).1 (TX2 4).2.1 (TX2 4).2.2.1 ∈ lw_g := in_g 144 (by decide +kernel) rfl
theorem fl_RX2_26 : Jvm.Cond.fieldLink RX2 26 (TX2 5).1 (TX2 5).2.1 (TX2 5).2.2.1 ∈ lw_g := in_g 145 (by decide +kernel) rfl
theorem fl_RX5_85 : Jvm.Cond.fieldLink RX5 85 (TX2 5).1 (TX2 5).2.1 (TX2 5).2.2.1 ∈ lw_g := in_g 146 (by decide +kernel) rfl
theorem fl_RX4_113 : Jvm.Cond.fieldLink RX4 113 (TX2 5).1 (TX2 5).2.1 (TX2 5).2.2.1 ∈ lw_g := in_g 147 (by decide +kernel) rfl
theorem fl_RX2_29 : Jvm.Cond.fieldLink RX2 29 (TX2 6).1 (TX2 6).2.1 (TX2 6).2.2.1 ∈ lw_g := in_g 148 (by decide +kernel) rfl
theorem fl_RX4_119 : Jvm.Cond.fieldLink RX4 119 (TX2 6).1 (TX2 6).2.1 (TX2 6).2.2.1 ∈ lw_g := in_g 149 (by decide +kernel) rfl
theorem fl_RX5_226 : Jvm.Cond.fieldLink RX5 226 (TX2 6).1 (TX2 6).2.1 (TX2 6).2.2.1 ∈ lw_g := in_g 150 (by decide +kernel) rfl
theorem fl_RX4_9 : Jvm.Cond.fieldLink RX4 9 (TX4 0).1 (TX4 0).2.1 (TX4 0).2.2.1 ∈ lw_g := in_g 166 (by decide +kernel) rfl
theorem fl_RX5_55 : Jvm.Cond.fieldLink RX5 55 (TX4 0).1 (TX4 0).2.1 (TX4 0).2.2.1 ∈ lw_g := in_g 167 (by decide +kernel) rfl
theorem fl_RX3_46 : Jvm.Cond.fieldLink RX3 46 (TX4 0).1 (TX4 0).2.1 (TX4 0).2.2.1 ∈ lw_g := in_g 168 (by decide +kernel) rfl
theorem fl_RX4_15 : Jvm.Cond.fieldLink RX4 15 (TX4 1).1 (TX4 1).2.1 (TX4 1).2.2.1 ∈ lw_g := in_g 169 (by decide +kernel) rfl
theorem fl_RX3_31 : Jvm.Cond.fieldLink RX3 31 (TX4 1).1 (TX4 1).2.1 (TX4 1).2.2.1 ∈ lw_g := in_g 170 (by decide +kernel) rfl
theorem fl_RX5_67 : Jvm.Cond.fieldLink RX5 67 (TX4 1).1 (TX4 1).2.1 (TX4 1).2.2.1 ∈ lw_g := in_g 171 (by decide +kernel) rfl
theorem fl_RX4_20 : Jvm.Cond.fieldLink RX4 20 (TX4 2).1 (TX4 2).2.1 (TX4 2).2.2.1 ∈ lw_g := in_g 172 (by decide +kernel) rfl
theorem fl_RX4_26 : Jvm.Cond.fieldLink RX4 26 (TX4 3).1 (TX4 3).2.1 (TX4 3).2.2.1 ∈ lw_g := in_g 173 (by decide +kernel) rfl
theorem fl_RX4_40 : Jvm.Cond.fieldLink RX4 40 (TX4 4).1 (TX4 4).2.1 (TX4 4).2.2.1 ∈ lw_g := in_g 174 (by decide +kernel) rfl
theorem fl_RX5_112 : Jvm.Cond.fieldLink RX5 112 (TX4 4).1 (TX4 4).2.1 (TX4 4).2.2.1 ∈ lw_g := in_g 175 (by decide +kernel) rfl
theorem fl_RX4_44 : Jvm.Cond.fieldLink RX4 44 (TX4 5).1 (TX4 5).2.1 (TX4 5).2.2.1 ∈ lw_g := in_g 176 (by decide +kernel) rfl
theorem fl_RX5_73 : Jvm.Cond.fieldLink RX5 73 (TX4 5).1 (TX4 5).2.1 (TX4 5).2.2.1 ∈ lw_g := in_g 177 (by decide +kernel) rfl
theorem fl_RX4_63 : Jvm.Cond.fieldLink RX4 63 (TX4 6).1 (TX4 6).2.1 (TX4 6).2.2.1 ∈ lw_g := in_g 178 (by decide +kernel) rfl
theorem fl_RX5_139 : Jvm.Cond.fieldLink RX5 139 (TX4 6).1 (TX4 6).2.1 (TX4 6).2.2.1 ∈ lw_g := in_g 179 (by decide +kernel) rfl
theorem fl_RX4_66 : Jvm.Cond.fieldLink RX4 66 (TX4 7).1 (TX4 7).2.1 (TX4 7).2.2.1 ∈ lw_g := in_g 180 (by decide +kernel) rfl
theorem fl_RX5_264 : Jvm.Cond.fieldLink RX5 264 (TX4 7).1 (TX4 7).2.1 (TX4 7).2.2.1 ∈ lw_g := in_g 181 (by decide +kernel) rfl
theorem fl_RX4_69 : Jvm.Cond.fieldLink RX4 69 (TX4 8).1 (TX4 8).2.1 (TX4 8).2.2.1 ∈ lw_g := in_g 182 (by decide +kernel) rfl
theorem fl_RX5_265 : Jvm.Cond.fieldLink RX5 265 (TX4 8).1 (TX4 8).2.1 (TX4 8).2.2.1 ∈ lw_g := in_g 183 (by decide +kernel) rfl
theorem fl_RX1_9 : Jvm.Cond.fieldLink RX1 9 (TX1 0).1 (TX1 0).2.1 (TX1 0).2.2.1 ∈ lw_g := in_g 210 (by decide +kernel) rfl
theorem fl_RX5_142 : Jvm.Cond.fieldLink RX5 142 (TX1 0).1 (TX1 0).2.1 (TX1 0).2.2.1 ∈ lw_g := in_g 211 (by decide +kernel) rfl
theorem fl_RX1_15 : Jvm.Cond.fieldLink RX1 15 (TX1 1).1 (TX1 1).2.1 (TX1 1).2.2.1 ∈ lw_g := in_g 212 (by decide +kernel) rfl
theorem fl_RX5_118 : Jvm.Cond.fieldLink RX5 118 (TX1 1).1 (TX1 1).2.1 (TX1 1).2.2.1 ∈ lw_g := in_g 213 (by decide +kernel) rfl
theorem fl_RX3_9 : Jvm.Cond.fieldLink RX3 9 (TX3 0).1 (TX3 0).2.1 (TX3 0).2.2.1 ∈ lw_g := in_g 227 (by decide +kernel) rfl
theorem fl_RX5_307 : Jvm.Cond.fieldLink RX5 307 (TX3 0).1 (TX3 0).2.1 (TX3 0).2.2.1 ∈ lw_g := in_g 228 (by decide +kernel) rfl
theorem fl_RX3_15 : Jvm.Cond.fieldLink RX3 15 (TX3 1).1 (TX3 1).2.1 (TX3 1).2.2.1 ∈ lw_g := in_g 229 (by decide +kernel) rfl
theorem fl_RX3_18 : Jvm.Cond.fieldLink RX3 18 (TX3 2).1 (TX3 2).2.1 (TX3 2).2.2.1 ∈ lw_g := in_g 230 (by decide +kernel) rfl
theorem fl_RX3_21 : Jvm.Cond.fieldLink RX3 21 (TX3 3).1 (TX3 3).2.1 (TX3 3).2.2.1 ∈ lw_g := in_g 231 (by decide +kernel) rfl
theorem fl_RX3_30 : Jvm.Cond.fieldLink RX3 30 (TX3 4).1 (TX3 4).2.1 (TX3 4).2.2.1 ∈ lw_g := in_g 232 (by decide +kernel) rfl
theorem fl_RX5_306 : Jvm.Cond.fieldLink RX5 306 (TX3 4).1 (TX3 4).2.1 (TX3 4).2.2.1 ∈ lw_g := in_g 233 (by decide +kernel) rfl
theorem fl_RX3_43 : Jvm.Cond.fieldLink RX3 43 (TX3 5).1 (TX3 5).2.1 (TX3 5).2.2.1 ∈ lw_g := in_g 234 (by decide +kernel) rfl
theorem fl_RX5_308 : Jvm.Cond.fieldLink RX5 308 (TX3 5).1 (TX3 5).2.1 (TX3 5).2.2.1 ∈ lw_g := in_g 235 (by decide +kernel) rfl
theorem fl_RX3_40 : Jvm.Cond.fieldLink RX3 40 (TX3 6).1 (TX3 6).2.1 (TX3 6).2.2.1 ∈ lw_g := in_g 236 (by decide +kernel) rfl
theorem fl_RX5_10 : Jvm.Cond.fieldLink RX5 10 (TX5 0).1 (TX5 0).2.1 (TX5 0).2.2.1 ∈ lw_g := in_g 252 (by decide +kernel) rfl
theorem fl_RX5_16 : Jvm.Cond.fieldLink RX5 16 (TX5 1).1 (TX5 1).2.1 (TX5 1).2.2.1 ∈ lw_g := in_g 253 (by decide +kernel) rfl
theorem fl_RX5_19 : Jvm.Cond.fieldLink RX5 19 (TX5 2).1 (TX5 2).2.1 (TX5 2).2.2.1 ∈ lw_g := in_g 254 (by decide +kernel) rfl
theorem fl_RX5_26 : Jvm.Cond.fieldLink RX5 26 (TX5 3).1 (TX5 3).2.1 (TX5 3).2.2.1 ∈ lw_g := in_g 255 (by decide +kernel) rfl
theorem fl_RX5_33 : Jvm.Cond.fieldLink RX5 33 (TX5 4).1 (TX5 4).2.1 (TX5 4).2.2.1 ∈ lw_g := in_g 256 (by decide +kernel) rfl
theorem fl_RX5_40 : Jvm.Cond.fieldLink RX5 40 (TX5 5).1 (TX5 5).2.1 (TX5 5).2.2.1 ∈ lw_g := in_g 257 (by decide +kernel) rfl
theorem fl_RX5_291 : Jvm.Cond.fieldLink RX5 291 (TX5 6).1 (TX5 6).2.1 (TX5 6).2.2.1 ∈ lw_g := in_g 258 (by decide +kernel) rfl
theorem fl_RX5_274 : Jvm.Cond.fieldLink RX5 274 (TX5 7).1 (TX5 7).2.1 (TX5 7).2.2.1 ∈ lw_g := in_g 259 (by decide +kernel) rfl
theorem fl_RX5_148 : Jvm.Cond.fieldLink RX5 148 (TX5 8).1 (TX5 8).2.1 (TX5 8).2.2.1 ∈ lw_g := in_g 260 (by decide +kernel) rfl
theorem fl_RX5_158 : Jvm.Cond.fieldLink RX5 158 (TX5 9).1 (TX5 9).2.1 (TX5 9).2.2.1 ∈ lw_g := in_g 261 (by decide +kernel) rfl
theorem fl_RX5_161 : Jvm.Cond.fieldLink RX5 161 (TX5 10).1 (TX5 10).2.1 (TX5 10).2.2.1 ∈ lw_g := in_g 262 (by decide +kernel) rfl
theorem fl_RX5_164 : Jvm.Cond.fieldLink RX5 164 (TX5 11).1 (TX5 11).2.1 (TX5 11).2.2.1 ∈ lw_g := in_g 263 (by decide +kernel) rfl
theorem fl_RX6_7 : Jvm.Cond.fieldLink RX6 7 (TX6 0).1 (TX6 0).2.1 (TX6 0).2.2.1 ∈ lw_g := in_g 701 (by decide +kernel) rfl
theorem fl_RX6_13 : Jvm.Cond.fieldLink RX6 13 (TX6 1).1 (TX6 1).2.1 (TX6 1).2.2.1 ∈ lw_g := in_g 702 (by decide +kernel) rfl
theorem fl_RX6_34 : Jvm.Cond.fieldLink RX6 34 (TX6 2).1 (TX6 2).2.1 (TX6 2).2.2.1 ∈ lw_g := in_g 703 (by decide +kernel) rfl
theorem fl_RX6_16 : Jvm.Cond.fieldLink RX6 16 (TX6 3).1 (TX6 3).2.1 (TX6 3).2.2.1 ∈ lw_g := in_g 704 (by decide +kernel) rfl
theorem fl_RX6_236 : Jvm.Cond.fieldLink RX6 236 (TX6 4).1 (TX6 4).2.1 (TX6 4).2.2.1 ∈ lw_g := in_g 705 (by decide +kernel) rfl
theorem fl_RX6_19 : Jvm.Cond.fieldLink RX6 19 (TX6 5).1 (TX6 5).2.1 (TX6 5).2.2.1 ∈ lw_g := in_g 706 (by decide +kernel) rfl
theorem fl_RX6_135 : Jvm.Cond.fieldLink RX6 135 (TX6 6).1 (TX6 6).2.1 (TX6 6).2.2.1 ∈ lw_g := in_g 707 (by decide +kernel) rfl
theorem fl_RX6_138 : Jvm.Cond.fieldLink RX6 138 (TX6 7).1 (TX6 7).2.1 (TX6 7).2.2.1 ∈ lw_g := in_g 708 (by decide +kernel) rfl
theorem fl_RX6_141 : Jvm.Cond.fieldLink RX6 141 (TX6 8).1 (TX6 8).2.1 (TX6 8).2.2.1 ∈ lw_g := in_g 709 (by decide +kernel) rfl
theorem fl_RX6_145 : Jvm.Cond.fieldLink RX6 145 (TX6 9).1 (TX6 9).2.1 (TX6 9).2.2.1 ∈ lw_g := in_g 710 (by decide +kernel) rfl
theorem fl_RX6_148 : Jvm.Cond.fieldLink RX6 148 (TX6 10).1 (TX6 10).2.1 (TX6 10).2.2.1 ∈ lw_g := in_g 711 (by decide +kernel) rfl
theorem fl_RX6_161 : Jvm.Cond.fieldLink RX6 161 (TX6 11).1 (TX6 11).2.1 (TX6 11).2.2.1 ∈ lw_g := in_g 712 (by decide +kernel) rfl
theorem fl_RX6_164 : Jvm.Cond.fieldLink RX6 164 (TX6 12).1 (TX6 12).2.1 (TX6 12).2.2.1 ∈ lw_g := in_g 713 (by decide +kernel) rfl
theorem fl_RX6_158 : Jvm.Cond.fieldLink RX6 158 (TX6 13).1 (TX6 13).2.1 (TX6 13).2.2.1 ∈ lw_g := in_g 714 (by decide +kernel) rfl
theorem fl_RX6_183 : Jvm.Cond.fieldLink RX6 183 (TX6 14).1 (TX6 14).2.1 (TX6 14).2.2.1 ∈ lw_g := in_g 715 (by decide +kernel) rfl
theorem fl_RX6_22 : Jvm.Cond.fieldLink RX6 22 (TX6 15).1 (TX6 15).2.1 (TX6 15).2.2.1 ∈ lw_g := in_g 716 (by decide +kernel) rfl
theorem fl_RX6_25 : Jvm.Cond.fieldLink RX6 25 (TX6 16).1 (TX6 16).2.1 (TX6 16).2.2.1 ∈ lw_g := in_g 717 (by decide +kernel) rfl
theorem fl_RX6_28 : Jvm.Cond.fieldLink RX6 28 (TX6 17).1 (TX6 17).2.1 (TX6 17).2.2.1 ∈ lw_g := in_g 718 (by decide +kernel) rfl
theorem fl_RX6_31 : Jvm.Cond.fieldLink RX6 31 (TX6 18).1 (TX6 18).2.1 (TX6 18).2.2.1 ∈ lw_g := in_g 719 (by decide +kernel) rfl
theorem lk_RL_9 : Jvm.Cond.methodLink RL 9 yX5_init ∈ lw_g := in_g 73 (by decide +kernel) rfl
theorem lk_RX5_9 : Jvm.Cond.methodLink RX5 9 yX4_init ∈ lw_g := in_g 81 (by decide +kernel) rfl
theorem lk_RL_13 : Jvm.Cond.methodLink RL 13 yX5_weight ∈ lw_g := in_g 289 (by decide +kernel) rfl
theorem lk_RX5_44 : Jvm.Cond.methodLink RX5 44 yX5_isKind ∈ lw_g := in_g 293 (by decide +kernel) rfl
theorem lk_RX5_48 : Jvm.Cond.methodLink RX5 48 yX5_isWithin ∈ lw_g := in_g 296 (by decide +kernel) rfl
theorem lk_RX5_52 : Jvm.Cond.methodLink RX5 52 yX5_keepState ∈ lw_g := in_g 299 (by decide +kernel) rfl
theorem lk_RX5_294 : Jvm.Cond.methodLink RX5 294 yX5_forgetOldest ∈ lw_g := in_g 303 (by decide +kernel) rfl
theorem lk_RX5_287 : Jvm.Cond.methodLink RX5 287 yX4_copyFrom ∈ lw_g := in_g 307 (by decide +kernel) rfl
theorem lk_RX4_47 : Jvm.Cond.methodLink RX4 47 yX4_editionAt ∈ lw_g := in_g 314 (by decide +kernel) rfl
theorem lk_RX4_51 : Jvm.Cond.methodLink RX4 51 yX4_copyEdition ∈ lw_g := in_g 318 (by decide +kernel) rfl
theorem lk_RX4_72 : Jvm.Cond.methodLink RX4 72 yX0_copyFrom ∈ lw_g := in_g 322 (by decide +kernel) rfl
theorem lk_RX4_55 : Jvm.Cond.methodLink RX4 55 yX4_rulingAt ∈ lw_g := in_g 328 (by decide +kernel) rfl
theorem lk_RX4_59 : Jvm.Cond.methodLink RX4 59 yX2_copyFrom ∈ lw_g := in_g 332 (by decide +kernel) rfl
theorem lk_RX5_59 : Jvm.Cond.methodLink RX5 59 yX5_at ∈ lw_g := in_g 336 (by decide +kernel) rfl
theorem lk_RX5_63 : Jvm.Cond.methodLink RX5 63 yX5_put ∈ lw_g := in_g 337 (by decide +kernel) rfl
theorem lk_RL_18 : Jvm.Cond.methodLink RL 18 yX5_set ∈ lw_g := in_g 338 (by decide +kernel) rfl
theorem lk_RL_22 : Jvm.Cond.methodLink RL 22 yX5_rule ∈ lw_g := in_g 342 (by decide +kernel) rfl
theorem lk_RX5_70 : Jvm.Cond.methodLink RX5 70 yX5_isAboutKinds ∈ lw_g := in_g 346 (by decide +kernel) rfl
theorem lk_RX5_77 : Jvm.Cond.methodLink RX5 77 yX4_addRuling ∈ lw_g := in_g 349 (by decide +kernel) rfl
theorem lk_RX4_116 : Jvm.Cond.methodLink RX4 116 yX4_findForce ∈ lw_g := in_g 353 (by decide +kernel) rfl
theorem lk_RL_27 : Jvm.Cond.methodLink RL 27 yX5_overrule ∈ lw_g := in_g 357 (by decide +kernel) rfl
theorem lk_RX5_81 : Jvm.Cond.methodLink RX5 81 yX4_rulingAt ∈ lw_g := in_g 361 (by decide +kernel) rfl
theorem lk_RX5_91 : Jvm.Cond.methodLink RX5 91 yX4_rulingsInForce ∈ lw_g := in_g 362 (by decide +kernel) rfl
theorem lk_RX5_95 : Jvm.Cond.methodLink RX5 95 yX4_findForce ∈ lw_g := in_g 366 (by decide +kernel) rfl
theorem lk_RL_32 : Jvm.Cond.methodLink RL 32 yX5_print ∈ lw_g := in_g 367 (by decide +kernel) rfl
theorem lk_RX5_98 : Jvm.Cond.methodLink RX5 98 yX1_editionFault ∈ lw_g := in_g 371 (by decide +kernel) rfl
theorem lk_RX1_23 : Jvm.Cond.methodLink RX1 23 yX1_signAt ∈ lw_g := in_g 375 (by decide +kernel) rfl
theorem lk_RX5_101 : Jvm.Cond.methodLink RX5 101 yX1_writeTo ∈ lw_g := in_g 381 (by decide +kernel) rfl
theorem lk_RX5_108 : Jvm.Cond.methodLink RX5 108 yX4_hasEditionLike ∈ lw_g := in_g 386 (by decide +kernel) rfl
theorem lk_RX4_78 : Jvm.Cond.methodLink RX4 78 yX0_hasWordsOf ∈ lw_g := in_g 390 (by decide +kernel) rfl
theorem lk_RX0_42 : Jvm.Cond.methodLink RX0 42 yX0_kindAt ∈ lw_g := in_g 394 (by decide +kernel) rfl
theorem lk_RX5_115 : Jvm.Cond.methodLink RX5 115 yX4_addEdition ∈ lw_g := in_g 398 (by decide +kernel) rfl
theorem lk_RL_37 : Jvm.Cond.methodLink RL 37 yX5_drop ∈ lw_g := in_g 402 (by decide +kernel) rfl
theorem lk_RX5_121 : Jvm.Cond.methodLink RX5 121 yX4_editionAt ∈ lw_g := in_g 406 (by decide +kernel) rfl
theorem lk_RX5_125 : Jvm.Cond.methodLink RX5 125 yX4_removeEdition ∈ lw_g := in_g 407 (by decide +kernel) rfl
theorem lk_RL_41 : Jvm.Cond.methodLink RL 41 yX5_sue ∈ lw_g := in_g 411 (by decide +kernel) rfl
theorem lk_RX5_129 : Jvm.Cond.methodLink RX5 129 yX0_hasGap ∈ lw_g := in_g 415 (by decide +kernel) rfl
theorem lk_RX5_132 : Jvm.Cond.methodLink RX5 132 yX5_decide ∈ lw_g := in_g 419 (by decide +kernel) rfl
theorem lk_RX5_170 : Jvm.Cond.methodLink RX5 170 yX3_read ∈ lw_g := in_g 423 (by decide +kernel) rfl
theorem lk_RX3_47 : Jvm.Cond.methodLink RX3 47 yX0_kindAt ∈ lw_g := in_g 428 (by decide +kernel) rfl
theorem lk_RX3_55 : Jvm.Cond.methodLink RX3 55 yX4_countingAt ∈ lw_g := in_g 430 (by decide +kernel) rfl
theorem lk_RX4_126 : Jvm.Cond.methodLink RX4 126 yX0_kindAt ∈ lw_g := in_g 434 (by decide +kernel) rfl
theorem lk_RX4_129 : Jvm.Cond.methodLink RX4 129 yX4_countingAbout ∈ lw_g := in_g 435 (by decide +kernel) rfl
theorem lk_RX3_59 : Jvm.Cond.methodLink RX3 59 yX4_rulingAt ∈ lw_g := in_g 439 (by decide +kernel) rfl
theorem lk_RX3_63 : Jvm.Cond.methodLink RX3 63 yX2_fineFor ∈ lw_g := in_g 440 (by decide +kernel) rfl
theorem lk_RX5_238 : Jvm.Cond.methodLink RX5 238 yX5_reasonAgainst ∈ lw_g := in_g 444 (by decide +kernel) rfl
theorem lk_RX5_192 : Jvm.Cond.methodLink RX5 192 yX4_isStayed ∈ lw_g := in_g 448 (by decide +kernel) rfl
theorem lk_RX5_208 : Jvm.Cond.methodLink RX5 208 yX0_movedCommas ∈ lw_g := in_g 452 (by decide +kernel) rfl
theorem lk_RX5_189 : Jvm.Cond.methodLink RX5 189 yX3_cost ∈ lw_g := in_g 456 (by decide +kernel) rfl
theorem lk_RX3_77 : Jvm.Cond.methodLink RX3 77 yX3_clausesCost ∈ lw_g := in_g 460 (by decide +kernel) rfl
theorem lk_RX3_74 : Jvm.Cond.methodLink RX3 74 yX3_clauseCost ∈ lw_g := in_g 464 (by decide +kernel) rfl
theorem lk_RX3_69 : Jvm.Cond.methodLink RX3 69 yJ9_abs_0f7a4 ∈ lw_g := in_g 468 (by decide +kernel) rfl
theorem lk_RX3_80 : Jvm.Cond.methodLink RX3 80 yX3_fines ∈ lw_g := in_g 471 (by decide +kernel) rfl
theorem lk_RL_45 : Jvm.Cond.methodLink RL 45 yX5_stay ∈ lw_g := in_g 475 (by decide +kernel) rfl
theorem lk_RL_49 : Jvm.Cond.methodLink RL 49 yX5_day ∈ lw_g := in_g 479 (by decide +kernel) rfl
theorem lk_RL_53 : Jvm.Cond.methodLink RL 53 yX5_append ∈ lw_g := in_g 483 (by decide +kernel) rfl
theorem lk_RL_57 : Jvm.Cond.methodLink RL 57 yX5_clear ∈ lw_g := in_g 487 (by decide +kernel) rfl
theorem lk_RL_61 : Jvm.Cond.methodLink RL 61 yX5_fault ∈ lw_g := in_g 491 (by decide +kernel) rfl
theorem lk_RX5_145 : Jvm.Cond.methodLink RX5 145 yX1_suitsFault ∈ lw_g := in_g 495 (by decide +kernel) rfl
theorem lk_RX1_31 : Jvm.Cond.methodLink RX1 31 yX1_dueBehind ∈ lw_g := in_g 499 (by decide +kernel) rfl
theorem lk_RL_65 : Jvm.Cond.methodLink RL 65 yX5_plead ∈ lw_g := in_g 502 (by decide +kernel) rfl
theorem lk_RX5_151 : Jvm.Cond.methodLink RX5 151 yX1_beginsPart ∈ lw_g := in_g 506 (by decide +kernel) rfl
theorem lk_RX5_154 : Jvm.Cond.methodLink RX5 154 yX5_reasonOfPart ∈ lw_g := in_g 510 (by decide +kernel) rfl
theorem lk_RX5_297 : Jvm.Cond.methodLink RX5 297 yX1_signAt ∈ lw_g := in_g 514 (by decide +kernel) rfl
theorem lk_RX5_300 : Jvm.Cond.methodLink RX5 300 yX1_gapAt ∈ lw_g := in_g 515 (by decide +kernel) rfl
theorem lk_RL_69 : Jvm.Cond.methodLink RL 69 yX5_why ∈ lw_g := in_g 519 (by decide +kernel) rfl
theorem lk_RL_73 : Jvm.Cond.methodLink RL 73 yX5_sign ∈ lw_g := in_g 523 (by decide +kernel) rfl
theorem lk_RX5_167 : Jvm.Cond.methodLink RX5 167 yX0_textSign ∈ lw_g := in_g 527 (by decide +kernel) rfl
theorem lk_RX0_45 : Jvm.Cond.methodLink RX0 45 yX0_hasComma ∈ lw_g := in_g 531 (by decide +kernel) rfl
theorem lk_RL_77 : Jvm.Cond.methodLink RL 77 yX5_edition ∈ lw_g := in_g 535 (by decide +kernel) rfl
theorem lk_RX5_177 : Jvm.Cond.methodLink RX5 177 yX0_clauses ∈ lw_g := in_g 539 (by decide +kernel) rfl
theorem lk_RX0_36 : Jvm.Cond.methodLink RX0 36 yJ6_bitCount_0f7a4 ∈ lw_g := in_g 543 (by decide +kernel) rfl
theorem lk_RX5_180 : Jvm.Cond.methodLink RX5 180 yX3_wholeWeight ∈ lw_g := in_g 549 (by decide +kernel) rfl
theorem lk_RX5_183 : Jvm.Cond.methodLink RX5 183 yX3_clausesCost ∈ lw_g := in_g 553 (by decide +kernel) rfl
theorem lk_RX5_186 : Jvm.Cond.methodLink RX5 186 yX3_fines ∈ lw_g := in_g 554 (by decide +kernel) rfl
theorem lk_RL_81 : Jvm.Cond.methodLink RL 81 yX5_gap ∈ lw_g := in_g 555 (by decide +kernel) rfl
theorem lk_RX5_199 : Jvm.Cond.methodLink RX5 199 yX0_hasComma ∈ lw_g := in_g 559 (by decide +kernel) rfl
theorem lk_RX5_202 : Jvm.Cond.methodLink RX5 202 yX4_countingAt ∈ lw_g := in_g 560 (by decide +kernel) rfl
theorem lk_RX5_205 : Jvm.Cond.methodLink RX5 205 yX4_fineAt ∈ lw_g := in_g 561 (by decide +kernel) rfl
theorem lk_RX4_133 : Jvm.Cond.methodLink RX4 133 yX4_countingAt ∈ lw_g := in_g 565 (by decide +kernel) rfl
theorem lk_RX4_137 : Jvm.Cond.methodLink RX4 137 yX0_hasComma ∈ lw_g := in_g 566 (by decide +kernel) rfl
theorem lk_RX4_140 : Jvm.Cond.methodLink RX4 140 yX2_fineFor ∈ lw_g := in_g 567 (by decide +kernel) rfl
theorem lk_RL_86 : Jvm.Cond.methodLink RL 86 yX5_ruling ∈ lw_g := in_g 568 (by decide +kernel) rfl
theorem lk_RX5_229 : Jvm.Cond.methodLink RX5 229 yX4_counts ∈ lw_g := in_g 572 (by decide +kernel) rfl
theorem lk_RX5_232 : Jvm.Cond.methodLink RX5 232 yX4_citationsOf ∈ lw_g := in_g 576 (by decide +kernel) rfl
theorem lk_RX5_235 : Jvm.Cond.methodLink RX5 235 yX4_finesBroughtBy ∈ lw_g := in_g 580 (by decide +kernel) rfl
theorem lk_RX4_144 : Jvm.Cond.methodLink RX4 144 yX4_fineAt ∈ lw_g := in_g 584 (by decide +kernel) rfl
theorem lk_RL_90 : Jvm.Cond.methodLink RL 90 yX5_whyNot ∈ lw_g := in_g 585 (by decide +kernel) rfl
theorem lk_RL_94 : Jvm.Cond.methodLink RL 94 yX5_best ∈ lw_g := in_g 589 (by decide +kernel) rfl
theorem lk_RX5_241 : Jvm.Cond.methodLink RX5 241 yX3_leastRankOfAllSets ∈ lw_g := in_g 593 (by decide +kernel) rfl
theorem lk_RX3_92 : Jvm.Cond.methodLink RX3 92 yX3_rank ∈ lw_g := in_g 597 (by decide +kernel) rfl
theorem lk_RX3_83 : Jvm.Cond.methodLink RX3 83 yX3_cost ∈ lw_g := in_g 601 (by decide +kernel) rfl
theorem lk_RX3_87 : Jvm.Cond.methodLink RX3 87 yJ6_bitCount_0f7a4 ∈ lw_g := in_g 603 (by decide +kernel) rfl
theorem lk_RX3_95 : Jvm.Cond.methodLink RX3 95 yJ9_min_7cf53 ∈ lw_g := in_g 604 (by decide +kernel) rfl
theorem lk_RX5_244 : Jvm.Cond.methodLink RX5 244 yX3_leastRankByWords ∈ lw_g := in_g 607 (by decide +kernel) rfl
theorem lk_RX3_99 : Jvm.Cond.methodLink RX3 99 yX3_leastRankUpTo ∈ lw_g := in_g 611 (by decide +kernel) rfl
theorem lk_RX3_102 : Jvm.Cond.methodLink RX3 102 yX3_rankUpToClause ∈ lw_g := in_g 615 (by decide +kernel) rfl
theorem lk_RL_98 : Jvm.Cond.methodLink RL 98 yX5_ways ∈ lw_g := in_g 620 (by decide +kernel) rfl
theorem lk_RX5_248 : Jvm.Cond.methodLink RX5 248 yX3_splittingsByWords ∈ lw_g := in_g 624 (by decide +kernel) rfl
theorem lk_RX5_251 : Jvm.Cond.methodLink RX5 251 yX5_splittingsFrom ∈ lw_g := in_g 628 (by decide +kernel) rfl
theorem lk_RL_102 : Jvm.Cond.methodLink RL 102 yX5_count ∈ lw_g := in_g 631 (by decide +kernel) rfl
theorem lk_RX5_255 : Jvm.Cond.methodLink RX5 255 yX4_stayedEditions ∈ lw_g := in_g 635 (by decide +kernel) rfl
theorem lk_RX4_85 : Jvm.Cond.methodLink RX4 85 yX4_isStayed ∈ lw_g := in_g 639 (by decide +kernel) rfl
theorem lk_RX5_258 : Jvm.Cond.methodLink RX5 258 yX5_costOfAll ∈ lw_g := in_g 640 (by decide +kernel) rfl
theorem lk_RX5_303 : Jvm.Cond.methodLink RX5 303 yX5_costOfEdition ∈ lw_g := in_g 644 (by decide +kernel) rfl
theorem lk_RX5_261 : Jvm.Cond.methodLink RX5 261 yX4_rulingsThatCount ∈ lw_g := in_g 648 (by decide +kernel) rfl
theorem lk_RX4_122 : Jvm.Cond.methodLink RX4 122 yX4_counts ∈ lw_g := in_g 652 (by decide +kernel) rfl
theorem lk_RX5_268 : Jvm.Cond.methodLink RX5 268 yX4_commasOfAll ∈ lw_g := in_g 653 (by decide +kernel) rfl
theorem lk_RX4_88 : Jvm.Cond.methodLink RX4 88 yJ6_bitCount_0f7a4 ∈ lw_g := in_g 657 (by decide +kernel) rfl
theorem lk_RX5_271 : Jvm.Cond.methodLink RX5 271 yX5_cheapestEdition ∈ lw_g := in_g 658 (by decide +kernel) rfl
theorem lk_RL_106 : Jvm.Cond.methodLink RL 106 yX5_length ∈ lw_g := in_g 662 (by decide +kernel) rfl
theorem lk_RX5_277 : Jvm.Cond.methodLink RX5 277 yX4_wordsOfAll ∈ lw_g := in_g 666 (by decide +kernel) rfl
theorem lk_RL_111 : Jvm.Cond.methodLink RL 111 yX5_ifRuled ∈ lw_g := in_g 670 (by decide +kernel) rfl
theorem lk_RX5_280 : Jvm.Cond.methodLink RX5 280 yX0_kindAt ∈ lw_g := in_g 674 (by decide +kernel) rfl
theorem lk_RL_116 : Jvm.Cond.methodLink RL 116 yX5_bestSuit ∈ lw_g := in_g 675 (by decide +kernel) rfl
theorem lk_RL_120 : Jvm.Cond.methodLink RL 120 yX5_undo ∈ lw_g := in_g 679 (by decide +kernel) rfl
theorem lk_RX5_283 : Jvm.Cond.methodLink RX5 283 yX5_stateAt ∈ lw_g := in_g 683 (by decide +kernel) rfl
theorem lk_RL_124 : Jvm.Cond.methodLink RL 124 yX5_save ∈ lw_g := in_g 687 (by decide +kernel) rfl
theorem lk_RL_128 : Jvm.Cond.methodLink RL 128 yX5_restore ∈ lw_g := in_g 691 (by decide +kernel) rfl
theorem lk_RL_12 : Jvm.Cond.methodLink RL 12 yX6_init ∈ lw_g := in_g 697 (by decide +kernel) rfl
theorem lk_RL_17 : Jvm.Cond.methodLink RL 17 yX6_weight ∈ lw_g := in_g 759 (by decide +kernel) rfl
theorem lk_RX6_109 : Jvm.Cond.methodLink RX6 109 yX6_isKind ∈ lw_g := in_g 763 (by decide +kernel) rfl
theorem lk_RX6_42 : Jvm.Cond.methodLink RX6 42 yX6_in ∈ lw_g := in_g 766 (by decide +kernel) rfl
theorem lk_RX6_112 : Jvm.Cond.methodLink RX6 112 yX6_records ∈ lw_g := in_g 769 (by decide +kernel) rfl
theorem lk_RX6_38 : Jvm.Cond.methodLink RX6 38 yX6_copies ∈ lw_g := in_g 773 (by decide +kernel) rfl
theorem lk_RL_21 : Jvm.Cond.methodLink RL 21 yX6_set ∈ lw_g := in_g 776 (by decide +kernel) rfl
theorem lk_RL_26 : Jvm.Cond.methodLink RL 26 yX6_rule ∈ lw_g := in_g 780 (by decide +kernel) rfl
theorem lk_RX6_115 : Jvm.Cond.methodLink RX6 115 yX6_isRule ∈ lw_g := in_g 784 (by decide +kernel) rfl
theorem lk_RX6_118 : Jvm.Cond.methodLink RX6 118 yX6_isRuling ∈ lw_g := in_g 787 (by decide +kernel) rfl
theorem lk_RX6_121 : Jvm.Cond.methodLink RX6 121 yX6_addsRuling ∈ lw_g := in_g 791 (by decide +kernel) rfl
theorem lk_RL_31 : Jvm.Cond.methodLink RL 31 yX6_overrule ∈ lw_g := in_g 795 (by decide +kernel) rfl
theorem lk_RX6_46 : Jvm.Cond.methodLink RX6 46 yX6_ofRuling ∈ lw_g := in_g 799 (by decide +kernel) rfl
theorem lk_RX6_125 : Jvm.Cond.methodLink RX6 125 yX6_inForce ∈ lw_g := in_g 803 (by decide +kernel) rfl
theorem lk_RX6_50 : Jvm.Cond.methodLink RX6 50 yX6_isForce ∈ lw_g := in_g 807 (by decide +kernel) rfl
theorem lk_RL_40 : Jvm.Cond.methodLink RL 40 yX6_drop ∈ lw_g := in_g 811 (by decide +kernel) rfl
theorem lk_RX6_57 : Jvm.Cond.methodLink RX6 57 yX6_isEdition ∈ lw_g := in_g 815 (by decide +kernel) rfl
theorem lk_RL_44 : Jvm.Cond.methodLink RL 44 yX6_sue ∈ lw_g := in_g 819 (by decide +kernel) rfl
theorem lk_RX6_129 : Jvm.Cond.methodLink RX6 129 yX6_isGap ∈ lw_g := in_g 823 (by decide +kernel) rfl
theorem lk_RX6_60 : Jvm.Cond.methodLink RX6 60 yX6_of ∈ lw_g := in_g 827 (by decide +kernel) rfl
theorem lk_RX6_132 : Jvm.Cond.methodLink RX6 132 yX6_goSue ∈ lw_g := in_g 831 (by decide +kernel) rfl
theorem lk_RX6_102 : Jvm.Cond.methodLink RX6 102 yX6_reasonToRefuse ∈ lw_g := in_g 835 (by decide +kernel) rfl
theorem lk_RX6_96 : Jvm.Cond.methodLink RX6 96 yX6_isStayed ∈ lw_g := in_g 839 (by decide +kernel) rfl
theorem lk_RX6_86 : Jvm.Cond.methodLink RX6 86 yX6_costBy ∈ lw_g := in_g 843 (by decide +kernel) rfl
theorem lk_RX6_80 : Jvm.Cond.methodLink RX6 80 yX6_clauseCost ∈ lw_g := in_g 847 (by decide +kernel) rfl
theorem lk_RX6_66 : Jvm.Cond.methodLink RX6 66 yX6_weightOf ∈ lw_g := in_g 851 (by decide +kernel) rfl
theorem lk_RX6_63 : Jvm.Cond.methodLink RX6 63 yX6_wordOf ∈ lw_g := in_g 855 (by decide +kernel) rfl
theorem lk_RX6_69 : Jvm.Cond.methodLink RX6 69 yX6_off ∈ lw_g := in_g 859 (by decide +kernel) rfl
theorem lk_RX6_83 : Jvm.Cond.methodLink RX6 83 yX6_finesOf ∈ lw_g := in_g 863 (by decide +kernel) rfl
theorem lk_RX6_76 : Jvm.Cond.methodLink RX6 76 yX6_fineOf ∈ lw_g := in_g 867 (by decide +kernel) rfl
theorem lk_RX6_73 : Jvm.Cond.methodLink RX6 73 yX6_rulingOf ∈ lw_g := in_g 871 (by decide +kernel) rfl
theorem lk_RX6_54 : Jvm.Cond.methodLink RX6 54 yX6_counting ∈ lw_g := in_g 875 (by decide +kernel) rfl
theorem lk_RX6_89 : Jvm.Cond.methodLink RX6 89 yX6_costOf ∈ lw_g := in_g 879 (by decide +kernel) rfl
theorem lk_RX6_99 : Jvm.Cond.methodLink RX6 99 yX6_isTaken ∈ lw_g := in_g 883 (by decide +kernel) rfl
theorem lk_RX6_92 : Jvm.Cond.methodLink RX6 92 yX6_isSame ∈ lw_g := in_g 887 (by decide +kernel) rfl
theorem lk_RX6_105 : Jvm.Cond.methodLink RX6 105 yX6_lays ∈ lw_g := in_g 891 (by decide +kernel) rfl
theorem lk_RL_48 : Jvm.Cond.methodLink RL 48 yX6_stay ∈ lw_g := in_g 895 (by decide +kernel) rfl
theorem lk_RL_52 : Jvm.Cond.methodLink RL 52 yX6_day ∈ lw_g := in_g 899 (by decide +kernel) rfl
theorem lk_RL_56 : Jvm.Cond.methodLink RL 56 yX6_append ∈ lw_g := in_g 903 (by decide +kernel) rfl
theorem lk_RL_60 : Jvm.Cond.methodLink RL 60 yX6_clear ∈ lw_g := in_g 907 (by decide +kernel) rfl
theorem lk_RL_64 : Jvm.Cond.methodLink RL 64 yX6_fault ∈ lw_g := in_g 911 (by decide +kernel) rfl
theorem lk_RX6_170 : Jvm.Cond.methodLink RX6 170 yX6_isWords ∈ lw_g := in_g 915 (by decide +kernel) rfl
theorem lk_RX6_151 : Jvm.Cond.methodLink RX6 151 yX6_here ∈ lw_g := in_g 919 (by decide +kernel) rfl
theorem lk_RX6_154 : Jvm.Cond.methodLink RX6 154 yX6_takes ∈ lw_g := in_g 923 (by decide +kernel) rfl
theorem lk_RX6_174 : Jvm.Cond.methodLink RX6 174 yX6_areSuits ∈ lw_g := in_g 927 (by decide +kernel) rfl
theorem lk_RX6_167 : Jvm.Cond.methodLink RX6 167 yX6_takesSuit ∈ lw_g := in_g 931 (by decide +kernel) rfl
theorem lk_RL_36 : Jvm.Cond.methodLink RL 36 yX6_print ∈ lw_g := in_g 935 (by decide +kernel) rfl
theorem lk_RX6_177 : Jvm.Cond.methodLink RX6 177 yX6_isPrinted ∈ lw_g := in_g 939 (by decide +kernel) rfl
theorem lk_RX6_180 : Jvm.Cond.methodLink RX6 180 yX6_laysEdition ∈ lw_g := in_g 943 (by decide +kernel) rfl
theorem lk_RL_68 : Jvm.Cond.methodLink RL 68 yX6_plead ∈ lw_g := in_g 947 (by decide +kernel) rfl
theorem lk_RX6_186 : Jvm.Cond.methodLink RX6 186 yX6_doesSuit ∈ lw_g := in_g 951 (by decide +kernel) rfl
theorem lk_RL_72 : Jvm.Cond.methodLink RL 72 yX6_why ∈ lw_g := in_g 955 (by decide +kernel) rfl
theorem lk_RL_76 : Jvm.Cond.methodLink RL 76 yX6_sign ∈ lw_g := in_g 959 (by decide +kernel) rfl
theorem lk_RL_80 : Jvm.Cond.methodLink RL 80 yX6_edition ∈ lw_g := in_g 963 (by decide +kernel) rfl
theorem lk_RX6_189 : Jvm.Cond.methodLink RX6 189 yX6_ones ∈ lw_g := in_g 967 (by decide +kernel) rfl
theorem lk_RX6_192 : Jvm.Cond.methodLink RX6 192 yX6_allWeight ∈ lw_g := in_g 970 (by decide +kernel) rfl
theorem lk_RL_85 : Jvm.Cond.methodLink RL 85 yX6_gap ∈ lw_g := in_g 974 (by decide +kernel) rfl
theorem lk_RL_89 : Jvm.Cond.methodLink RL 89 yX6_ruling ∈ lw_g := in_g 978 (by decide +kernel) rfl
theorem lk_RX6_195 : Jvm.Cond.methodLink RX6 195 yX6_doesCount ∈ lw_g := in_g 982 (by decide +kernel) rfl
theorem lk_RX6_198 : Jvm.Cond.methodLink RX6 198 yX6_citing ∈ lw_g := in_g 986 (by decide +kernel) rfl
theorem lk_RX6_201 : Jvm.Cond.methodLink RX6 201 yX6_finesBy ∈ lw_g := in_g 990 (by decide +kernel) rfl
theorem lk_RL_93 : Jvm.Cond.methodLink RL 93 yX6_whyNot ∈ lw_g := in_g 994 (by decide +kernel) rfl
theorem lk_RL_97 : Jvm.Cond.methodLink RL 97 yX6_best ∈ lw_g := in_g 998 (by decide +kernel) rfl
theorem lk_RX6_211 : Jvm.Cond.methodLink RX6 211 yX6_bestSet ∈ lw_g := in_g 1002 (by decide +kernel) rfl
theorem lk_RX6_204 : Jvm.Cond.methodLink RX6 204 yX6_laysFines ∈ lw_g := in_g 1006 (by decide +kernel) rfl
theorem lk_RX6_208 : Jvm.Cond.methodLink RX6 208 yX6_fastCost ∈ lw_g := in_g 1010 (by decide +kernel) rfl
theorem lk_RL_101 : Jvm.Cond.methodLink RL 101 yX6_ways ∈ lw_g := in_g 1014 (by decide +kernel) rfl
theorem lk_RX6_214 : Jvm.Cond.methodLink RX6 214 yX6_splits ∈ lw_g := in_g 1018 (by decide +kernel) rfl
theorem lk_RL_105 : Jvm.Cond.methodLink RL 105 yX6_count ∈ lw_g := in_g 1022 (by decide +kernel) rfl
theorem lk_RX6_217 : Jvm.Cond.methodLink RX6 217 yX6_stayed ∈ lw_g := in_g 1026 (by decide +kernel) rfl
theorem lk_RX6_220 : Jvm.Cond.methodLink RX6 220 yX6_allCost ∈ lw_g := in_g 1030 (by decide +kernel) rfl
theorem lk_RX6_223 : Jvm.Cond.methodLink RX6 223 yX6_countingOnes ∈ lw_g := in_g 1034 (by decide +kernel) rfl
theorem lk_RX6_226 : Jvm.Cond.methodLink RX6 226 yX6_allCommas ∈ lw_g := in_g 1038 (by decide +kernel) rfl
theorem lk_RX6_229 : Jvm.Cond.methodLink RX6 229 yX6_cheapest ∈ lw_g := in_g 1042 (by decide +kernel) rfl
theorem lk_RL_110 : Jvm.Cond.methodLink RL 110 yX6_length ∈ lw_g := in_g 1046 (by decide +kernel) rfl
theorem lk_RL_115 : Jvm.Cond.methodLink RL 115 yX6_ifRuled ∈ lw_g := in_g 1050 (by decide +kernel) rfl
theorem lk_RX6_232 : Jvm.Cond.methodLink RX6 232 yX6_fineBy ∈ lw_g := in_g 1054 (by decide +kernel) rfl
theorem lk_RL_119 : Jvm.Cond.methodLink RL 119 yX6_bestSuit ∈ lw_g := in_g 1058 (by decide +kernel) rfl
theorem lk_RL_123 : Jvm.Cond.methodLink RL 123 yX6_undo ∈ lw_g := in_g 1062 (by decide +kernel) rfl
theorem lk_RL_127 : Jvm.Cond.methodLink RL 127 yX6_save ∈ lw_g := in_g 1066 (by decide +kernel) rfl
theorem lk_RL_131 : Jvm.Cond.methodLink RL 131 yX6_restore ∈ lw_g := in_g 1070 (by decide +kernel) rfl
theorem ln_RX4_30 : (RX4, 30, yX5_put, "CommaCourt") ∈ nsL := by decide +kernel
theorem ln_RX4_34 : (RX4, 34, yX0_init, "CommaCourt") ∈ nsL := by decide +kernel
theorem ln_RX4_35 : (RX4, 35, yX2_init, "CommaCourt") ∈ nsL := by decide +kernel
theorem ln_RX5_25 : (RX5, 25, yX1_init, "CommaCourt") ∈ nsL := by decide +kernel
theorem ln_RX5_32 : (RX5, 32, yX0_init, "CommaCourt") ∈ nsL := by decide +kernel
theorem ln_RX5_39 : (RX5, 39, yX3_init, "CommaCourt") ∈ nsL := by decide +kernel
theorem ln_RX4_36 : (RX4, 36, yX5_at, "CommaCourt") ∈ nsL := by decide +kernel
theorem ln_RX0_15 : (RX0, 15, yX5_at, "CommaCourt") ∈ nsL := by decide +kernel
theorem ln_RX0_19 : (RX0, 19, yX5_put, "CommaCourt") ∈ nsL := by decide +kernel
theorem ln_RX1_19 : (RX1, 19, yX5_at, "CommaCourt") ∈ nsL := by decide +kernel
theorem ln_RX1_27 : (RX1, 27, yX5_isWithin, "CommaCourt") ∈ nsL := by decide +kernel
theorem ln_RX1_46 : (RX1, 46, yX5_put, "CommaCourt") ∈ nsL := by decide +kernel
theorem ln_RX3_36 : (RX3, 36, yX5_at, "CommaCourt") ∈ nsL := by decide +kernel
theorem ln_RX3_51 : (RX3, 51, yX5_put, "CommaCourt") ∈ nsL := by decide +kernel
theorem kc_RJ6_265 : Jvm.Cond.constant RJ6 265 (1431655765) ∈ lw_g := in_g 546 (by decide +kernel) rfl
theorem kc_RJ6_266 : Jvm.Cond.constant RJ6 266 (858993459) ∈ lw_g := in_g 547 (by decide +kernel) rfl
theorem kc_RJ6_267 : Jvm.Cond.constant RJ6 267 (252645135) ∈ lw_g := in_g 548 (by decide +kernel) rfl
theorem kc_RX3_86 : Jvm.Cond.constant RX3 86 (32768) ∈ lw_g := in_g 602 (by decide +kernel) rfl
theorem kc_RX5_247 : Jvm.Cond.constant RX5 247 (32768) ∈ lw_g := in_g 619 (by decide +kernel) rfl
def MiV (y : MethodName) (bytes : ByteArray) (maxL : Nat) (ret : Option FieldType) (ci k : Nat) : Prop := Jvm.Cond.instanceMethod y ∈ lw_g ∧ Jvm.Cond.selects y.cls y y ∈ lw_g ∧ Jvm.Cond.initialized y.cls ∈ lw_g ∧ Jvm.Cond.code y bytes maxL ret ∈ lw_g ∧ (y.cls ≠ "java/lang/invoke/MethodHandle" ∧ y.cls ≠ "java/lang/invoke/VarHandle" ∧ (parseMethodDescriptor y.desc).map (fun d => d.parameters.length) = some k) ∧ (∃ (T : u_T) (N : Nat), vwCl[ci]? = some (y.cls, T, N)) ∧ ci < 7
def MiS (y : MethodName) (bytes : ByteArray) (maxL : Nat) (ret : Option FieldType) (k : Nat) : Prop := Jvm.Cond.static y ∈ lw_g ∧ Jvm.Cond.initialized y.cls ∈ lw_g ∧ Jvm.Cond.code y bytes maxL ret ∈ lw_g ∧ (y.cls ≠ "java/lang/invoke/MethodHandle" ∧ y.cls ≠ "java/lang/invoke/VarHandle" ∧ (parseMethodDescriptor y.desc).map (fun d => d.parameters.length) = some k)
theorem mi_X5_put : MiS yX5_put cX5_put 3 none 3 := ⟨in_g 90 (by decide +kernel) rfl, in_g 62 (by decide +kernel) rfl, in_g 91 (by decide +kernel) rfl, by decide +kernel, by decide +kernel, by decide +kernel⟩
theorem mi_X5_weight : MiV yX5_weight cX5_weight 4 (some .int) 5 2 := ⟨in_g 290 (by decide +kernel) rfl, in_g 291 (by decide +kernel) rfl, in_g 62 (by decide +kernel) rfl, in_g 292 (by decide +kernel) rfl, ⟨by decide +kernel, by decide +kernel, by decide +kernel⟩, ⟨_, _, rfl⟩, by decide⟩
theorem mi_X5_isKind : MiS yX5_isKind cX5_isKind 1 (some .boolean) 1 := ⟨in_g 294 (by decide +kernel) rfl, in_g 62 (by decide +kernel) rfl, in_g 295 (by decide +kernel) rfl, by decide +kernel, by decide +kernel, by decide +kernel⟩
theorem mi_X5_isWithin : MiS yX5_isWithin cX5_isWithin 3 (some .boolean) 3 := ⟨in_g 297 (by decide +kernel) rfl, in_g 62 (by decide +kernel) rfl, in_g 298 (by decide +kernel) rfl, by decide +kernel, by decide +kernel, by decide +kernel⟩
theorem mi_X5_keepState : MiV yX5_keepState cX5_keepState 1 none 5 0 := ⟨in_g 301 (by decide +kernel) rfl, in_g 0 (by decide +kernel) rfl, in_g 62 (by decide +kernel) rfl, in_g 302 (by decide +kernel) rfl, ⟨by decide +kernel, by decide +kernel, by decide +kernel⟩, ⟨_, _, rfl⟩, by decide⟩
theorem mi_X5_forgetOldest : MiV yX5_forgetOldest cX5_forgetOldest 3 none 5 0 := ⟨in_g 305 (by decide +kernel) rfl, in_g 1 (by decide +kernel) rfl, in_g 62 (by decide +kernel) rfl, in_g 306 (by decide +kernel) rfl, ⟨by decide +kernel, by decide +kernel, by decide +kernel⟩, ⟨_, _, rfl⟩, by decide⟩
theorem mi_X4_copyFrom : MiV yX4_copyFrom cX4_copyFrom 5 none 4 1 := ⟨in_g 308 (by decide +kernel) rfl, in_g 309 (by decide +kernel) rfl, in_g 63 (by decide +kernel) rfl, in_g 310 (by decide +kernel) rfl, ⟨by decide +kernel, by decide +kernel, by decide +kernel⟩, ⟨_, _, rfl⟩, by decide⟩
theorem mi_X5_at : MiS yX5_at cX5_at 2 (some .int) 2 := ⟨in_g 312 (by decide +kernel) rfl, in_g 62 (by decide +kernel) rfl, in_g 313 (by decide +kernel) rfl, by decide +kernel, by decide +kernel, by decide +kernel⟩
theorem mi_X4_editionAt : MiV yX4_editionAt cX4_editionAt 2 (some (.object "CommaCourt$Edition")) 4 1 := ⟨in_g 315 (by decide +kernel) rfl, in_g 316 (by decide +kernel) rfl, in_g 63 (by decide +kernel) rfl, in_g 317 (by decide +kernel) rfl, ⟨by decide +kernel, by decide +kernel, by decide +kernel⟩, ⟨_, _, rfl⟩, by decide⟩
theorem mi_X4_copyEdition : MiV yX4_copyEdition cX4_copyEdition 4 none 4 2 := ⟨in_g 320 (by decide +kernel) rfl, in_g 2 (by decide +kernel) rfl, in_g 63 (by decide +kernel) rfl, in_g 321 (by decide +kernel) rfl, ⟨by decide +kernel, by decide +kernel, by decide +kernel⟩, ⟨_, _, rfl⟩, by decide⟩
theorem mi_X0_copyFrom : MiV yX0_copyFrom cX0_copyFrom 3 none 0 1 := ⟨in_g 323 (by decide +kernel) rfl, in_g 324 (by decide +kernel) rfl, in_g 64 (by decide +kernel) rfl, in_g 325 (by decide +kernel) rfl, ⟨by decide +kernel, by decide +kernel, by decide +kernel⟩, ⟨_, _, rfl⟩, by decide⟩
theorem mi_X4_rulingAt : MiV yX4_rulingAt cX4_rulingAt 2 (some (.object "CommaCourt$Ruling")) 4 1 := ⟨in_g 329 (by decide +kernel) rfl, in_g 330 (by decide +kernel) rfl, in_g 63 (by decide +kernel) rfl, in_g 331 (by decide +kernel) rfl, ⟨by decide +kernel, by decide +kernel, by decide +kernel⟩, ⟨_, _, rfl⟩, by decide⟩
theorem mi_X2_copyFrom : MiV yX2_copyFrom cX2_copyFrom 2 none 2 1 := ⟨in_g 333 (by decide +kernel) rfl, in_g 334 (by decide +kernel) rfl, in_g 65 (by decide +kernel) rfl, in_g 335 (by decide +kernel) rfl, ⟨by decide +kernel, by decide +kernel, by decide +kernel⟩, ⟨_, _, rfl⟩, by decide⟩
theorem mi_X5_set : MiV yX5_set cX5_set 5 (some .int) 5 2 := ⟨in_g 339 (by decide +kernel) rfl, in_g 340 (by decide +kernel) rfl, in_g 62 (by decide +kernel) rfl, in_g 341 (by decide +kernel) rfl, ⟨by decide +kernel, by decide +kernel, by decide +kernel⟩, ⟨_, _, rfl⟩, by decide⟩
theorem mi_X5_rule : MiV yX5_rule cX5_rule 6 (some .int) 5 5 := ⟨in_g 343 (by decide +kernel) rfl, in_g 344 (by decide +kernel) rfl, in_g 62 (by decide +kernel) rfl, in_g 345 (by decide +kernel) rfl, ⟨by decide +kernel, by decide +kernel, by decide +kernel⟩, ⟨_, _, rfl⟩, by decide⟩
theorem mi_X5_isAboutKinds : MiS yX5_isAboutKinds cX5_isAboutKinds 3 (some .boolean) 3 := ⟨in_g 347 (by decide +kernel) rfl, in_g 62 (by decide +kernel) rfl, in_g 348 (by decide +kernel) rfl, by decide +kernel, by decide +kernel, by decide +kernel⟩
theorem mi_X4_addRuling : MiV yX4_addRuling cX4_addRuling 7 none 4 5 := ⟨in_g 350 (by decide +kernel) rfl, in_g 351 (by decide +kernel) rfl, in_g 63 (by decide +kernel) rfl, in_g 352 (by decide +kernel) rfl, ⟨by decide +kernel, by decide +kernel, by decide +kernel⟩, ⟨_, _, rfl⟩, by decide⟩
theorem mi_X4_findForce : MiV yX4_findForce cX4_findForce 4 none 4 0 := ⟨in_g 354 (by decide +kernel) rfl, in_g 355 (by decide +kernel) rfl, in_g 63 (by decide +kernel) rfl, in_g 356 (by decide +kernel) rfl, ⟨by decide +kernel, by decide +kernel, by decide +kernel⟩, ⟨_, _, rfl⟩, by decide⟩
theorem mi_X5_overrule : MiV yX5_overrule cX5_overrule 4 (some .int) 5 1 := ⟨in_g 358 (by decide +kernel) rfl, in_g 359 (by decide +kernel) rfl, in_g 62 (by decide +kernel) rfl, in_g 360 (by decide +kernel) rfl, ⟨by decide +kernel, by decide +kernel, by decide +kernel⟩, ⟨_, _, rfl⟩, by decide⟩
theorem mi_X4_rulingsInForce : MiV yX4_rulingsInForce cX4_rulingsInForce 4 (some .int) 4 0 := ⟨in_g 363 (by decide +kernel) rfl, in_g 364 (by decide +kernel) rfl, in_g 63 (by decide +kernel) rfl, in_g 365 (by decide +kernel) rfl, ⟨by decide +kernel, by decide +kernel, by decide +kernel⟩, ⟨_, _, rfl⟩, by decide⟩
theorem mi_X5_print : MiV yX5_print cX5_print 1 (some .int) 5 0 := ⟨in_g 368 (by decide +kernel) rfl, in_g 369 (by decide +kernel) rfl, in_g 62 (by decide +kernel) rfl, in_g 370 (by decide +kernel) rfl, ⟨by decide +kernel, by decide +kernel, by decide +kernel⟩, ⟨_, _, rfl⟩, by decide⟩
theorem mi_X1_editionFault : MiV yX1_editionFault cX1_editionFault 6 (some .int) 1 0 := ⟨in_g 372 (by decide +kernel) rfl, in_g 373 (by decide +kernel) rfl, in_g 66 (by decide +kernel) rfl, in_g 374 (by decide +kernel) rfl, ⟨by decide +kernel, by decide +kernel, by decide +kernel⟩, ⟨_, _, rfl⟩, by decide⟩
theorem mi_X1_signAt : MiV yX1_signAt cX1_signAt 2 (some .int) 1 1 := ⟨in_g 376 (by decide +kernel) rfl, in_g 377 (by decide +kernel) rfl, in_g 66 (by decide +kernel) rfl, in_g 378 (by decide +kernel) rfl, ⟨by decide +kernel, by decide +kernel, by decide +kernel⟩, ⟨_, _, rfl⟩, by decide⟩
theorem mi_X1_writeTo : MiV yX1_writeTo cX1_writeTo 4 none 1 1 := ⟨in_g 382 (by decide +kernel) rfl, in_g 383 (by decide +kernel) rfl, in_g 66 (by decide +kernel) rfl, in_g 384 (by decide +kernel) rfl, ⟨by decide +kernel, by decide +kernel, by decide +kernel⟩, ⟨_, _, rfl⟩, by decide⟩
theorem mi_X4_hasEditionLike : MiV yX4_hasEditionLike cX4_hasEditionLike 5 (some .boolean) 4 2 := ⟨in_g 387 (by decide +kernel) rfl, in_g 388 (by decide +kernel) rfl, in_g 63 (by decide +kernel) rfl, in_g 389 (by decide +kernel) rfl, ⟨by decide +kernel, by decide +kernel, by decide +kernel⟩, ⟨_, _, rfl⟩, by decide⟩
theorem mi_X0_hasWordsOf : MiV yX0_hasWordsOf cX0_hasWordsOf 3 (some .boolean) 0 1 := ⟨in_g 391 (by decide +kernel) rfl, in_g 392 (by decide +kernel) rfl, in_g 64 (by decide +kernel) rfl, in_g 393 (by decide +kernel) rfl, ⟨by decide +kernel, by decide +kernel, by decide +kernel⟩, ⟨_, _, rfl⟩, by decide⟩
theorem mi_X0_kindAt : MiV yX0_kindAt cX0_kindAt 2 (some .int) 0 1 := ⟨in_g 395 (by decide +kernel) rfl, in_g 396 (by decide +kernel) rfl, in_g 64 (by decide +kernel) rfl, in_g 397 (by decide +kernel) rfl, ⟨by decide +kernel, by decide +kernel, by decide +kernel⟩, ⟨_, _, rfl⟩, by decide⟩
theorem mi_X4_addEdition : MiV yX4_addEdition cX4_addEdition 2 none 4 1 := ⟨in_g 399 (by decide +kernel) rfl, in_g 400 (by decide +kernel) rfl, in_g 63 (by decide +kernel) rfl, in_g 401 (by decide +kernel) rfl, ⟨by decide +kernel, by decide +kernel, by decide +kernel⟩, ⟨_, _, rfl⟩, by decide⟩
theorem mi_X5_drop : MiV yX5_drop cX5_drop 2 (some .int) 5 1 := ⟨in_g 403 (by decide +kernel) rfl, in_g 404 (by decide +kernel) rfl, in_g 62 (by decide +kernel) rfl, in_g 405 (by decide +kernel) rfl, ⟨by decide +kernel, by decide +kernel, by decide +kernel⟩, ⟨_, _, rfl⟩, by decide⟩
theorem mi_X4_removeEdition : MiV yX4_removeEdition cX4_removeEdition 3 none 4 1 := ⟨in_g 408 (by decide +kernel) rfl, in_g 409 (by decide +kernel) rfl, in_g 63 (by decide +kernel) rfl, in_g 410 (by decide +kernel) rfl, ⟨by decide +kernel, by decide +kernel, by decide +kernel⟩, ⟨_, _, rfl⟩, by decide⟩
theorem mi_X5_sue : MiV yX5_sue cX5_sue 4 (some .int) 5 2 := ⟨in_g 412 (by decide +kernel) rfl, in_g 413 (by decide +kernel) rfl, in_g 62 (by decide +kernel) rfl, in_g 414 (by decide +kernel) rfl, ⟨by decide +kernel, by decide +kernel, by decide +kernel⟩, ⟨_, _, rfl⟩, by decide⟩
theorem mi_X0_hasGap : MiV yX0_hasGap cX0_hasGap 2 (some .boolean) 0 1 := ⟨in_g 416 (by decide +kernel) rfl, in_g 417 (by decide +kernel) rfl, in_g 64 (by decide +kernel) rfl, in_g 418 (by decide +kernel) rfl, ⟨by decide +kernel, by decide +kernel, by decide +kernel⟩, ⟨_, _, rfl⟩, by decide⟩
theorem mi_X5_decide : MiV yX5_decide cX5_decide 6 (some .int) 5 2 := ⟨in_g 421 (by decide +kernel) rfl, in_g 3 (by decide +kernel) rfl, in_g 62 (by decide +kernel) rfl, in_g 422 (by decide +kernel) rfl, ⟨by decide +kernel, by decide +kernel, by decide +kernel⟩, ⟨_, _, rfl⟩, by decide⟩
theorem mi_X3_read : MiV yX3_read cX3_read 5 none 3 2 := ⟨in_g 424 (by decide +kernel) rfl, in_g 425 (by decide +kernel) rfl, in_g 67 (by decide +kernel) rfl, in_g 426 (by decide +kernel) rfl, ⟨by decide +kernel, by decide +kernel, by decide +kernel⟩, ⟨_, _, rfl⟩, by decide⟩
theorem mi_X4_countingAt : MiV yX4_countingAt cX4_countingAt 3 (some .int) 4 2 := ⟨in_g 431 (by decide +kernel) rfl, in_g 432 (by decide +kernel) rfl, in_g 63 (by decide +kernel) rfl, in_g 433 (by decide +kernel) rfl, ⟨by decide +kernel, by decide +kernel, by decide +kernel⟩, ⟨_, _, rfl⟩, by decide⟩
theorem mi_X4_countingAbout : MiV yX4_countingAbout cX4_countingAbout 5 (some .int) 4 2 := ⟨in_g 436 (by decide +kernel) rfl, in_g 437 (by decide +kernel) rfl, in_g 63 (by decide +kernel) rfl, in_g 438 (by decide +kernel) rfl, ⟨by decide +kernel, by decide +kernel, by decide +kernel⟩, ⟨_, _, rfl⟩, by decide⟩
theorem mi_X2_fineFor : MiV yX2_fineFor cX2_fineFor 2 (some .int) 2 1 := ⟨in_g 441 (by decide +kernel) rfl, in_g 442 (by decide +kernel) rfl, in_g 65 (by decide +kernel) rfl, in_g 443 (by decide +kernel) rfl, ⟨by decide +kernel, by decide +kernel, by decide +kernel⟩, ⟨_, _, rfl⟩, by decide⟩
theorem mi_X5_reasonAgainst : MiV yX5_reasonAgainst cX5_reasonAgainst 4 (some .int) 5 2 := ⟨in_g 446 (by decide +kernel) rfl, in_g 4 (by decide +kernel) rfl, in_g 62 (by decide +kernel) rfl, in_g 447 (by decide +kernel) rfl, ⟨by decide +kernel, by decide +kernel, by decide +kernel⟩, ⟨_, _, rfl⟩, by decide⟩
theorem mi_X4_isStayed : MiV yX4_isStayed cX4_isStayed 2 (some .boolean) 4 1 := ⟨in_g 449 (by decide +kernel) rfl, in_g 450 (by decide +kernel) rfl, in_g 63 (by decide +kernel) rfl, in_g 451 (by decide +kernel) rfl, ⟨by decide +kernel, by decide +kernel, by decide +kernel⟩, ⟨_, _, rfl⟩, by decide⟩
theorem mi_X0_movedCommas : MiV yX0_movedCommas cX0_movedCommas 2 (some .int) 0 1 := ⟨in_g 453 (by decide +kernel) rfl, in_g 454 (by decide +kernel) rfl, in_g 64 (by decide +kernel) rfl, in_g 455 (by decide +kernel) rfl, ⟨by decide +kernel, by decide +kernel, by decide +kernel⟩, ⟨_, _, rfl⟩, by decide⟩
theorem mi_X3_cost : MiV yX3_cost cX3_cost 2 (some .int) 3 1 := ⟨in_g 457 (by decide +kernel) rfl, in_g 458 (by decide +kernel) rfl, in_g 67 (by decide +kernel) rfl, in_g 459 (by decide +kernel) rfl, ⟨by decide +kernel, by decide +kernel, by decide +kernel⟩, ⟨_, _, rfl⟩, by decide⟩
theorem mi_X3_clausesCost : MiV yX3_clausesCost cX3_clausesCost 5 (some .int) 3 1 := ⟨in_g 461 (by decide +kernel) rfl, in_g 462 (by decide +kernel) rfl, in_g 67 (by decide +kernel) rfl, in_g 463 (by decide +kernel) rfl, ⟨by decide +kernel, by decide +kernel, by decide +kernel⟩, ⟨_, _, rfl⟩, by decide⟩
theorem mi_X3_clauseCost : MiV yX3_clauseCost cX3_clauseCost 2 (some .int) 3 1 := ⟨in_g 466 (by decide +kernel) rfl, in_g 5 (by decide +kernel) rfl, in_g 67 (by decide +kernel) rfl, in_g 467 (by decide +kernel) rfl, ⟨by decide +kernel, by decide +kernel, by decide +kernel⟩, ⟨_, _, rfl⟩, by decide⟩
theorem mi_J9_abs_0f7a4 : MiS yJ9_abs_0f7a4 cJ9_abs_0f7a4 1 (some .int) 1 := ⟨in_g 469 (by decide +kernel) rfl, in_g 69 (by decide +kernel) rfl, in_g 470 (by decide +kernel) rfl, by decide +kernel, by decide +kernel, by decide +kernel⟩
theorem mi_X3_fines : MiV yX3_fines cX3_fines 4 (some .int) 3 1 := ⟨in_g 472 (by decide +kernel) rfl, in_g 473 (by decide +kernel) rfl, in_g 67 (by decide +kernel) rfl, in_g 474 (by decide +kernel) rfl, ⟨by decide +kernel, by decide +kernel, by decide +kernel⟩, ⟨_, _, rfl⟩, by decide⟩
theorem mi_X5_stay : MiV yX5_stay cX5_stay 5 (some .int) 5 2 := ⟨in_g 476 (by decide +kernel) rfl, in_g 477 (by decide +kernel) rfl, in_g 62 (by decide +kernel) rfl, in_g 478 (by decide +kernel) rfl, ⟨by decide +kernel, by decide +kernel, by decide +kernel⟩, ⟨_, _, rfl⟩, by decide⟩
theorem mi_X5_day : MiV yX5_day cX5_day 1 (some .int) 5 0 := ⟨in_g 480 (by decide +kernel) rfl, in_g 481 (by decide +kernel) rfl, in_g 62 (by decide +kernel) rfl, in_g 482 (by decide +kernel) rfl, ⟨by decide +kernel, by decide +kernel, by decide +kernel⟩, ⟨_, _, rfl⟩, by decide⟩
theorem mi_X5_append : MiV yX5_append cX5_append 2 (some .int) 5 1 := ⟨in_g 484 (by decide +kernel) rfl, in_g 485 (by decide +kernel) rfl, in_g 62 (by decide +kernel) rfl, in_g 486 (by decide +kernel) rfl, ⟨by decide +kernel, by decide +kernel, by decide +kernel⟩, ⟨_, _, rfl⟩, by decide⟩
theorem mi_X5_clear : MiV yX5_clear cX5_clear 2 (some .int) 5 0 := ⟨in_g 488 (by decide +kernel) rfl, in_g 489 (by decide +kernel) rfl, in_g 62 (by decide +kernel) rfl, in_g 490 (by decide +kernel) rfl, ⟨by decide +kernel, by decide +kernel, by decide +kernel⟩, ⟨_, _, rfl⟩, by decide⟩
theorem mi_X5_fault : MiV yX5_fault cX5_fault 3 (some .int) 5 1 := ⟨in_g 492 (by decide +kernel) rfl, in_g 493 (by decide +kernel) rfl, in_g 62 (by decide +kernel) rfl, in_g 494 (by decide +kernel) rfl, ⟨by decide +kernel, by decide +kernel, by decide +kernel⟩, ⟨_, _, rfl⟩, by decide⟩
theorem mi_X1_suitsFault : MiV yX1_suitsFault cX1_suitsFault 3 (some .int) 1 0 := ⟨in_g 496 (by decide +kernel) rfl, in_g 497 (by decide +kernel) rfl, in_g 66 (by decide +kernel) rfl, in_g 498 (by decide +kernel) rfl, ⟨by decide +kernel, by decide +kernel, by decide +kernel⟩, ⟨_, _, rfl⟩, by decide⟩
theorem mi_X1_dueBehind : MiS yX1_dueBehind cX1_dueBehind 2 (some .int) 2 := ⟨in_g 500 (by decide +kernel) rfl, in_g 66 (by decide +kernel) rfl, in_g 501 (by decide +kernel) rfl, by decide +kernel, by decide +kernel, by decide +kernel⟩
theorem mi_X5_plead : MiV yX5_plead cX5_plead 4 (some .int) 5 0 := ⟨in_g 503 (by decide +kernel) rfl, in_g 504 (by decide +kernel) rfl, in_g 62 (by decide +kernel) rfl, in_g 505 (by decide +kernel) rfl, ⟨by decide +kernel, by decide +kernel, by decide +kernel⟩, ⟨_, _, rfl⟩, by decide⟩
theorem mi_X1_beginsPart : MiV yX1_beginsPart cX1_beginsPart 2 (some .boolean) 1 1 := ⟨in_g 507 (by decide +kernel) rfl, in_g 508 (by decide +kernel) rfl, in_g 66 (by decide +kernel) rfl, in_g 509 (by decide +kernel) rfl, ⟨by decide +kernel, by decide +kernel, by decide +kernel⟩, ⟨_, _, rfl⟩, by decide⟩
theorem mi_X5_reasonOfPart : MiV yX5_reasonOfPart cX5_reasonOfPart 5 (some .int) 5 1 := ⟨in_g 512 (by decide +kernel) rfl, in_g 6 (by decide +kernel) rfl, in_g 62 (by decide +kernel) rfl, in_g 513 (by decide +kernel) rfl, ⟨by decide +kernel, by decide +kernel, by decide +kernel⟩, ⟨_, _, rfl⟩, by decide⟩
theorem mi_X1_gapAt : MiV yX1_gapAt cX1_gapAt 3 (some .int) 1 1 := ⟨in_g 516 (by decide +kernel) rfl, in_g 517 (by decide +kernel) rfl, in_g 66 (by decide +kernel) rfl, in_g 518 (by decide +kernel) rfl, ⟨by decide +kernel, by decide +kernel, by decide +kernel⟩, ⟨_, _, rfl⟩, by decide⟩
theorem mi_X5_why : MiV yX5_why cX5_why 2 (some .int) 5 1 := ⟨in_g 520 (by decide +kernel) rfl, in_g 521 (by decide +kernel) rfl, in_g 62 (by decide +kernel) rfl, in_g 522 (by decide +kernel) rfl, ⟨by decide +kernel, by decide +kernel, by decide +kernel⟩, ⟨_, _, rfl⟩, by decide⟩
theorem mi_X5_sign : MiV yX5_sign cX5_sign 4 (some .int) 5 2 := ⟨in_g 524 (by decide +kernel) rfl, in_g 525 (by decide +kernel) rfl, in_g 62 (by decide +kernel) rfl, in_g 526 (by decide +kernel) rfl, ⟨by decide +kernel, by decide +kernel, by decide +kernel⟩, ⟨_, _, rfl⟩, by decide⟩
theorem mi_X0_textSign : MiV yX0_textSign cX0_textSign 4 (some .int) 0 1 := ⟨in_g 528 (by decide +kernel) rfl, in_g 529 (by decide +kernel) rfl, in_g 64 (by decide +kernel) rfl, in_g 530 (by decide +kernel) rfl, ⟨by decide +kernel, by decide +kernel, by decide +kernel⟩, ⟨_, _, rfl⟩, by decide⟩
theorem mi_X0_hasComma : MiV yX0_hasComma cX0_hasComma 2 (some .boolean) 0 1 := ⟨in_g 532 (by decide +kernel) rfl, in_g 533 (by decide +kernel) rfl, in_g 64 (by decide +kernel) rfl, in_g 534 (by decide +kernel) rfl, ⟨by decide +kernel, by decide +kernel, by decide +kernel⟩, ⟨_, _, rfl⟩, by decide⟩
theorem mi_X5_edition : MiV yX5_edition cX5_edition 4 (some .int) 5 2 := ⟨in_g 536 (by decide +kernel) rfl, in_g 537 (by decide +kernel) rfl, in_g 62 (by decide +kernel) rfl, in_g 538 (by decide +kernel) rfl, ⟨by decide +kernel, by decide +kernel, by decide +kernel⟩, ⟨_, _, rfl⟩, by decide⟩
theorem mi_X0_clauses : MiV yX0_clauses cX0_clauses 1 (some .int) 0 0 := ⟨in_g 540 (by decide +kernel) rfl, in_g 541 (by decide +kernel) rfl, in_g 64 (by decide +kernel) rfl, in_g 542 (by decide +kernel) rfl, ⟨by decide +kernel, by decide +kernel, by decide +kernel⟩, ⟨_, _, rfl⟩, by decide⟩
theorem mi_J6_bitCount_0f7a4 : MiS yJ6_bitCount_0f7a4 cJ6_bitCount_0f7a4 1 (some .int) 1 := ⟨in_g 544 (by decide +kernel) rfl, in_g 70 (by decide +kernel) rfl, in_g 545 (by decide +kernel) rfl, by decide +kernel, by decide +kernel, by decide +kernel⟩
theorem mi_X3_wholeWeight : MiV yX3_wholeWeight cX3_wholeWeight 3 (some .int) 3 0 := ⟨in_g 550 (by decide +kernel) rfl, in_g 551 (by decide +kernel) rfl, in_g 67 (by decide +kernel) rfl, in_g 552 (by decide +kernel) rfl, ⟨by decide +kernel, by decide +kernel, by decide +kernel⟩, ⟨_, _, rfl⟩, by decide⟩
theorem mi_X5_gap : MiV yX5_gap cX5_gap 5 (some .int) 5 3 := ⟨in_g 556 (by decide +kernel) rfl, in_g 557 (by decide +kernel) rfl, in_g 62 (by decide +kernel) rfl, in_g 558 (by decide +kernel) rfl, ⟨by decide +kernel, by decide +kernel, by decide +kernel⟩, ⟨_, _, rfl⟩, by decide⟩
theorem mi_X4_fineAt : MiV yX4_fineAt cX4_fineAt 4 (some .int) 4 2 := ⟨in_g 562 (by decide +kernel) rfl, in_g 563 (by decide +kernel) rfl, in_g 63 (by decide +kernel) rfl, in_g 564 (by decide +kernel) rfl, ⟨by decide +kernel, by decide +kernel, by decide +kernel⟩, ⟨_, _, rfl⟩, by decide⟩
theorem mi_X5_ruling : MiV yX5_ruling cX5_ruling 4 (some .int) 5 2 := ⟨in_g 569 (by decide +kernel) rfl, in_g 570 (by decide +kernel) rfl, in_g 62 (by decide +kernel) rfl, in_g 571 (by decide +kernel) rfl, ⟨by decide +kernel, by decide +kernel, by decide +kernel⟩, ⟨_, _, rfl⟩, by decide⟩
theorem mi_X4_counts : MiV yX4_counts cX4_counts 3 (some .boolean) 4 1 := ⟨in_g 573 (by decide +kernel) rfl, in_g 574 (by decide +kernel) rfl, in_g 63 (by decide +kernel) rfl, in_g 575 (by decide +kernel) rfl, ⟨by decide +kernel, by decide +kernel, by decide +kernel⟩, ⟨_, _, rfl⟩, by decide⟩
theorem mi_X4_citationsOf : MiV yX4_citationsOf cX4_citationsOf 5 (some .int) 4 1 := ⟨in_g 577 (by decide +kernel) rfl, in_g 578 (by decide +kernel) rfl, in_g 63 (by decide +kernel) rfl, in_g 579 (by decide +kernel) rfl, ⟨by decide +kernel, by decide +kernel, by decide +kernel⟩, ⟨_, _, rfl⟩, by decide⟩
theorem mi_X4_finesBroughtBy : MiV yX4_finesBroughtBy cX4_finesBroughtBy 6 (some .int) 4 1 := ⟨in_g 581 (by decide +kernel) rfl, in_g 582 (by decide +kernel) rfl, in_g 63 (by decide +kernel) rfl, in_g 583 (by decide +kernel) rfl, ⟨by decide +kernel, by decide +kernel, by decide +kernel⟩, ⟨_, _, rfl⟩, by decide⟩
theorem mi_X5_whyNot : MiV yX5_whyNot cX5_whyNot 4 (some .int) 5 2 := ⟨in_g 586 (by decide +kernel) rfl, in_g 587 (by decide +kernel) rfl, in_g 62 (by decide +kernel) rfl, in_g 588 (by decide +kernel) rfl, ⟨by decide +kernel, by decide +kernel, by decide +kernel⟩, ⟨_, _, rfl⟩, by decide⟩
theorem mi_X5_best : MiV yX5_best cX5_best 6 (some .int) 5 3 := ⟨in_g 590 (by decide +kernel) rfl, in_g 591 (by decide +kernel) rfl, in_g 62 (by decide +kernel) rfl, in_g 592 (by decide +kernel) rfl, ⟨by decide +kernel, by decide +kernel, by decide +kernel⟩, ⟨_, _, rfl⟩, by decide⟩
theorem mi_X3_leastRankOfAllSets : MiV yX3_leastRankOfAllSets cX3_leastRankOfAllSets 3 (some .int) 3 0 := ⟨in_g 594 (by decide +kernel) rfl, in_g 595 (by decide +kernel) rfl, in_g 67 (by decide +kernel) rfl, in_g 596 (by decide +kernel) rfl, ⟨by decide +kernel, by decide +kernel, by decide +kernel⟩, ⟨_, _, rfl⟩, by decide⟩
theorem mi_X3_rank : MiV yX3_rank cX3_rank 2 (some .int) 3 1 := ⟨in_g 599 (by decide +kernel) rfl, in_g 7 (by decide +kernel) rfl, in_g 67 (by decide +kernel) rfl, in_g 600 (by decide +kernel) rfl, ⟨by decide +kernel, by decide +kernel, by decide +kernel⟩, ⟨_, _, rfl⟩, by decide⟩
theorem mi_J9_min_7cf53 : MiS yJ9_min_7cf53 cJ9_min_7cf53 2 (some .int) 2 := ⟨in_g 605 (by decide +kernel) rfl, in_g 69 (by decide +kernel) rfl, in_g 606 (by decide +kernel) rfl, by decide +kernel, by decide +kernel, by decide +kernel⟩
theorem mi_X3_leastRankByWords : MiV yX3_leastRankByWords cX3_leastRankByWords 2 (some .int) 3 0 := ⟨in_g 608 (by decide +kernel) rfl, in_g 609 (by decide +kernel) rfl, in_g 67 (by decide +kernel) rfl, in_g 610 (by decide +kernel) rfl, ⟨by decide +kernel, by decide +kernel, by decide +kernel⟩, ⟨_, _, rfl⟩, by decide⟩
theorem mi_X3_leastRankUpTo : MiV yX3_leastRankUpTo cX3_leastRankUpTo 8 (some .int) 3 1 := ⟨in_g 613 (by decide +kernel) rfl, in_g 8 (by decide +kernel) rfl, in_g 67 (by decide +kernel) rfl, in_g 614 (by decide +kernel) rfl, ⟨by decide +kernel, by decide +kernel, by decide +kernel⟩, ⟨_, _, rfl⟩, by decide⟩
theorem mi_X3_rankUpToClause : MiV yX3_rankUpToClause cX3_rankUpToClause 3 (some .int) 3 1 := ⟨in_g 617 (by decide +kernel) rfl, in_g 9 (by decide +kernel) rfl, in_g 67 (by decide +kernel) rfl, in_g 618 (by decide +kernel) rfl, ⟨by decide +kernel, by decide +kernel, by decide +kernel⟩, ⟨_, _, rfl⟩, by decide⟩
theorem mi_X5_ways : MiV yX5_ways cX5_ways 4 (some .int) 5 2 := ⟨in_g 621 (by decide +kernel) rfl, in_g 622 (by decide +kernel) rfl, in_g 62 (by decide +kernel) rfl, in_g 623 (by decide +kernel) rfl, ⟨by decide +kernel, by decide +kernel, by decide +kernel⟩, ⟨_, _, rfl⟩, by decide⟩
theorem mi_X3_splittingsByWords : MiV yX3_splittingsByWords cX3_splittingsByWords 5 (some .int) 3 0 := ⟨in_g 625 (by decide +kernel) rfl, in_g 626 (by decide +kernel) rfl, in_g 67 (by decide +kernel) rfl, in_g 627 (by decide +kernel) rfl, ⟨by decide +kernel, by decide +kernel, by decide +kernel⟩, ⟨_, _, rfl⟩, by decide⟩
theorem mi_X5_splittingsFrom : MiS yX5_splittingsFrom cX5_splittingsFrom 6 (some .int) 3 := ⟨in_g 629 (by decide +kernel) rfl, in_g 62 (by decide +kernel) rfl, in_g 630 (by decide +kernel) rfl, by decide +kernel, by decide +kernel, by decide +kernel⟩
theorem mi_X5_count : MiV yX5_count cX5_count 2 (some .int) 5 1 := ⟨in_g 632 (by decide +kernel) rfl, in_g 633 (by decide +kernel) rfl, in_g 62 (by decide +kernel) rfl, in_g 634 (by decide +kernel) rfl, ⟨by decide +kernel, by decide +kernel, by decide +kernel⟩, ⟨_, _, rfl⟩, by decide⟩
theorem mi_X4_stayedEditions : MiV yX4_stayedEditions cX4_stayedEditions 4 (some .int) 4 0 := ⟨in_g 636 (by decide +kernel) rfl, in_g 637 (by decide +kernel) rfl, in_g 63 (by decide +kernel) rfl, in_g 638 (by decide +kernel) rfl, ⟨by decide +kernel, by decide +kernel, by decide +kernel⟩, ⟨_, _, rfl⟩, by decide⟩
theorem mi_X5_costOfAll : MiV yX5_costOfAll cX5_costOfAll 3 (some .int) 5 0 := ⟨in_g 642 (by decide +kernel) rfl, in_g 10 (by decide +kernel) rfl, in_g 62 (by decide +kernel) rfl, in_g 643 (by decide +kernel) rfl, ⟨by decide +kernel, by decide +kernel, by decide +kernel⟩, ⟨_, _, rfl⟩, by decide⟩
theorem mi_X5_costOfEdition : MiV yX5_costOfEdition cX5_costOfEdition 3 (some .int) 5 1 := ⟨in_g 646 (by decide +kernel) rfl, in_g 11 (by decide +kernel) rfl, in_g 62 (by decide +kernel) rfl, in_g 647 (by decide +kernel) rfl, ⟨by decide +kernel, by decide +kernel, by decide +kernel⟩, ⟨_, _, rfl⟩, by decide⟩
theorem mi_X4_rulingsThatCount : MiV yX4_rulingsThatCount cX4_rulingsThatCount 3 (some .int) 4 0 := ⟨in_g 649 (by decide +kernel) rfl, in_g 650 (by decide +kernel) rfl, in_g 63 (by decide +kernel) rfl, in_g 651 (by decide +kernel) rfl, ⟨by decide +kernel, by decide +kernel, by decide +kernel⟩, ⟨_, _, rfl⟩, by decide⟩
theorem mi_X4_commasOfAll : MiV yX4_commasOfAll cX4_commasOfAll 4 (some .int) 4 0 := ⟨in_g 654 (by decide +kernel) rfl, in_g 655 (by decide +kernel) rfl, in_g 63 (by decide +kernel) rfl, in_g 656 (by decide +kernel) rfl, ⟨by decide +kernel, by decide +kernel, by decide +kernel⟩, ⟨_, _, rfl⟩, by decide⟩
theorem mi_X5_cheapestEdition : MiV yX5_cheapestEdition cX5_cheapestEdition 5 (some .int) 5 0 := ⟨in_g 660 (by decide +kernel) rfl, in_g 12 (by decide +kernel) rfl, in_g 62 (by decide +kernel) rfl, in_g 661 (by decide +kernel) rfl, ⟨by decide +kernel, by decide +kernel, by decide +kernel⟩, ⟨_, _, rfl⟩, by decide⟩
theorem mi_X5_length : MiV yX5_length cX5_length 3 (some .double) 5 0 := ⟨in_g 663 (by decide +kernel) rfl, in_g 664 (by decide +kernel) rfl, in_g 62 (by decide +kernel) rfl, in_g 665 (by decide +kernel) rfl, ⟨by decide +kernel, by decide +kernel, by decide +kernel⟩, ⟨_, _, rfl⟩, by decide⟩
theorem mi_X4_wordsOfAll : MiV yX4_wordsOfAll cX4_wordsOfAll 4 (some .int) 4 0 := ⟨in_g 667 (by decide +kernel) rfl, in_g 668 (by decide +kernel) rfl, in_g 63 (by decide +kernel) rfl, in_g 669 (by decide +kernel) rfl, ⟨by decide +kernel, by decide +kernel, by decide +kernel⟩, ⟨_, _, rfl⟩, by decide⟩
theorem mi_X5_ifRuled : MiV yX5_ifRuled cX5_ifRuled 10 (some .int) 5 4 := ⟨in_g 671 (by decide +kernel) rfl, in_g 672 (by decide +kernel) rfl, in_g 62 (by decide +kernel) rfl, in_g 673 (by decide +kernel) rfl, ⟨by decide +kernel, by decide +kernel, by decide +kernel⟩, ⟨_, _, rfl⟩, by decide⟩
theorem mi_X5_bestSuit : MiV yX5_bestSuit cX5_bestSuit 7 (some .int) 5 1 := ⟨in_g 676 (by decide +kernel) rfl, in_g 677 (by decide +kernel) rfl, in_g 62 (by decide +kernel) rfl, in_g 678 (by decide +kernel) rfl, ⟨by decide +kernel, by decide +kernel, by decide +kernel⟩, ⟨_, _, rfl⟩, by decide⟩
theorem mi_X5_undo : MiV yX5_undo cX5_undo 2 (some .int) 5 0 := ⟨in_g 680 (by decide +kernel) rfl, in_g 681 (by decide +kernel) rfl, in_g 62 (by decide +kernel) rfl, in_g 682 (by decide +kernel) rfl, ⟨by decide +kernel, by decide +kernel, by decide +kernel⟩, ⟨_, _, rfl⟩, by decide⟩
theorem mi_X5_stateAt : MiV yX5_stateAt cX5_stateAt 2 (some (.object "CommaCourt$State")) 5 1 := ⟨in_g 685 (by decide +kernel) rfl, in_g 13 (by decide +kernel) rfl, in_g 62 (by decide +kernel) rfl, in_g 686 (by decide +kernel) rfl, ⟨by decide +kernel, by decide +kernel, by decide +kernel⟩, ⟨_, _, rfl⟩, by decide⟩
theorem mi_X5_save : MiV yX5_save cX5_save 1 (some .int) 5 0 := ⟨in_g 688 (by decide +kernel) rfl, in_g 689 (by decide +kernel) rfl, in_g 62 (by decide +kernel) rfl, in_g 690 (by decide +kernel) rfl, ⟨by decide +kernel, by decide +kernel, by decide +kernel⟩, ⟨_, _, rfl⟩, by decide⟩
theorem mi_X5_restore : MiV yX5_restore cX5_restore 1 (some .int) 5 0 := ⟨in_g 692 (by decide +kernel) rfl, in_g 693 (by decide +kernel) rfl, in_g 62 (by decide +kernel) rfl, in_g 694 (by decide +kernel) rfl, ⟨by decide +kernel, by decide +kernel, by decide +kernel⟩, ⟨_, _, rfl⟩, by decide⟩
theorem mi_X6_weight : MiV yX6_weight cX6_weight 4 (some .int) 6 2 := ⟨in_g 760 (by decide +kernel) rfl, in_g 761 (by decide +kernel) rfl, in_g 68 (by decide +kernel) rfl, in_g 762 (by decide +kernel) rfl, ⟨by decide +kernel, by decide +kernel, by decide +kernel⟩, ⟨_, _, rfl⟩, by decide⟩
theorem mi_X6_isKind : MiS yX6_isKind cX6_isKind 1 (some .boolean) 1 := ⟨in_g 764 (by decide +kernel) rfl, in_g 68 (by decide +kernel) rfl, in_g 765 (by decide +kernel) rfl, by decide +kernel, by decide +kernel, by decide +kernel⟩
theorem mi_X6_in : MiS yX6_in cX6_in 3 (some .boolean) 3 := ⟨in_g 767 (by decide +kernel) rfl, in_g 68 (by decide +kernel) rfl, in_g 768 (by decide +kernel) rfl, by decide +kernel, by decide +kernel, by decide +kernel⟩
theorem mi_X6_records : MiV yX6_records cX6_records 2 none 6 0 := ⟨in_g 771 (by decide +kernel) rfl, in_g 14 (by decide +kernel) rfl, in_g 68 (by decide +kernel) rfl, in_g 772 (by decide +kernel) rfl, ⟨by decide +kernel, by decide +kernel, by decide +kernel⟩, ⟨_, _, rfl⟩, by decide⟩
theorem mi_X6_copies : MiS yX6_copies cX6_copies 5 none 4 := ⟨in_g 774 (by decide +kernel) rfl, in_g 68 (by decide +kernel) rfl, in_g 775 (by decide +kernel) rfl, by decide +kernel, by decide +kernel, by decide +kernel⟩
theorem mi_X6_set : MiV yX6_set cX6_set 4 (some .int) 6 2 := ⟨in_g 777 (by decide +kernel) rfl, in_g 778 (by decide +kernel) rfl, in_g 68 (by decide +kernel) rfl, in_g 779 (by decide +kernel) rfl, ⟨by decide +kernel, by decide +kernel, by decide +kernel⟩, ⟨_, _, rfl⟩, by decide⟩
theorem mi_X6_rule : MiV yX6_rule cX6_rule 6 (some .int) 6 5 := ⟨in_g 781 (by decide +kernel) rfl, in_g 782 (by decide +kernel) rfl, in_g 68 (by decide +kernel) rfl, in_g 783 (by decide +kernel) rfl, ⟨by decide +kernel, by decide +kernel, by decide +kernel⟩, ⟨_, _, rfl⟩, by decide⟩
theorem mi_X6_isRule : MiS yX6_isRule cX6_isRule 3 (some .boolean) 3 := ⟨in_g 785 (by decide +kernel) rfl, in_g 68 (by decide +kernel) rfl, in_g 786 (by decide +kernel) rfl, by decide +kernel, by decide +kernel, by decide +kernel⟩
theorem mi_X6_isRuling : MiV yX6_isRuling cX6_isRuling 2 (some .boolean) 6 1 := ⟨in_g 789 (by decide +kernel) rfl, in_g 15 (by decide +kernel) rfl, in_g 68 (by decide +kernel) rfl, in_g 790 (by decide +kernel) rfl, ⟨by decide +kernel, by decide +kernel, by decide +kernel⟩, ⟨_, _, rfl⟩, by decide⟩
theorem mi_X6_addsRuling : MiV yX6_addsRuling cX6_addsRuling 7 none 6 5 := ⟨in_g 793 (by decide +kernel) rfl, in_g 16 (by decide +kernel) rfl, in_g 68 (by decide +kernel) rfl, in_g 794 (by decide +kernel) rfl, ⟨by decide +kernel, by decide +kernel, by decide +kernel⟩, ⟨_, _, rfl⟩, by decide⟩
theorem mi_X6_overrule : MiV yX6_overrule cX6_overrule 3 (some .int) 6 1 := ⟨in_g 796 (by decide +kernel) rfl, in_g 797 (by decide +kernel) rfl, in_g 68 (by decide +kernel) rfl, in_g 798 (by decide +kernel) rfl, ⟨by decide +kernel, by decide +kernel, by decide +kernel⟩, ⟨_, _, rfl⟩, by decide⟩
theorem mi_X6_ofRuling : MiV yX6_ofRuling cX6_ofRuling 3 (some .int) 6 2 := ⟨in_g 801 (by decide +kernel) rfl, in_g 17 (by decide +kernel) rfl, in_g 68 (by decide +kernel) rfl, in_g 802 (by decide +kernel) rfl, ⟨by decide +kernel, by decide +kernel, by decide +kernel⟩, ⟨_, _, rfl⟩, by decide⟩
theorem mi_X6_inForce : MiV yX6_inForce cX6_inForce 3 (some .int) 6 0 := ⟨in_g 805 (by decide +kernel) rfl, in_g 18 (by decide +kernel) rfl, in_g 68 (by decide +kernel) rfl, in_g 806 (by decide +kernel) rfl, ⟨by decide +kernel, by decide +kernel, by decide +kernel⟩, ⟨_, _, rfl⟩, by decide⟩
theorem mi_X6_isForce : MiV yX6_isForce cX6_isForce 4 (some .boolean) 6 1 := ⟨in_g 809 (by decide +kernel) rfl, in_g 19 (by decide +kernel) rfl, in_g 68 (by decide +kernel) rfl, in_g 810 (by decide +kernel) rfl, ⟨by decide +kernel, by decide +kernel, by decide +kernel⟩, ⟨_, _, rfl⟩, by decide⟩
theorem mi_X6_drop : MiV yX6_drop cX6_drop 3 (some .int) 6 1 := ⟨in_g 812 (by decide +kernel) rfl, in_g 813 (by decide +kernel) rfl, in_g 68 (by decide +kernel) rfl, in_g 814 (by decide +kernel) rfl, ⟨by decide +kernel, by decide +kernel, by decide +kernel⟩, ⟨_, _, rfl⟩, by decide⟩
theorem mi_X6_isEdition : MiV yX6_isEdition cX6_isEdition 2 (some .boolean) 6 1 := ⟨in_g 817 (by decide +kernel) rfl, in_g 20 (by decide +kernel) rfl, in_g 68 (by decide +kernel) rfl, in_g 818 (by decide +kernel) rfl, ⟨by decide +kernel, by decide +kernel, by decide +kernel⟩, ⟨_, _, rfl⟩, by decide⟩
theorem mi_X6_sue : MiV yX6_sue cX6_sue 3 (some .int) 6 2 := ⟨in_g 820 (by decide +kernel) rfl, in_g 821 (by decide +kernel) rfl, in_g 68 (by decide +kernel) rfl, in_g 822 (by decide +kernel) rfl, ⟨by decide +kernel, by decide +kernel, by decide +kernel⟩, ⟨_, _, rfl⟩, by decide⟩
theorem mi_X6_isGap : MiV yX6_isGap cX6_isGap 3 (some .boolean) 6 2 := ⟨in_g 825 (by decide +kernel) rfl, in_g 21 (by decide +kernel) rfl, in_g 68 (by decide +kernel) rfl, in_g 826 (by decide +kernel) rfl, ⟨by decide +kernel, by decide +kernel, by decide +kernel⟩, ⟨_, _, rfl⟩, by decide⟩
theorem mi_X6_of : MiV yX6_of cX6_of 3 (some .int) 6 2 := ⟨in_g 829 (by decide +kernel) rfl, in_g 22 (by decide +kernel) rfl, in_g 68 (by decide +kernel) rfl, in_g 830 (by decide +kernel) rfl, ⟨by decide +kernel, by decide +kernel, by decide +kernel⟩, ⟨_, _, rfl⟩, by decide⟩
theorem mi_X6_goSue : MiV yX6_goSue cX6_goSue 5 (some .int) 6 2 := ⟨in_g 833 (by decide +kernel) rfl, in_g 23 (by decide +kernel) rfl, in_g 68 (by decide +kernel) rfl, in_g 834 (by decide +kernel) rfl, ⟨by decide +kernel, by decide +kernel, by decide +kernel⟩, ⟨_, _, rfl⟩, by decide⟩
theorem mi_X6_reasonToRefuse : MiV yX6_reasonToRefuse cX6_reasonToRefuse 4 (some .int) 6 2 := ⟨in_g 837 (by decide +kernel) rfl, in_g 24 (by decide +kernel) rfl, in_g 68 (by decide +kernel) rfl, in_g 838 (by decide +kernel) rfl, ⟨by decide +kernel, by decide +kernel, by decide +kernel⟩, ⟨_, _, rfl⟩, by decide⟩
theorem mi_X6_isStayed : MiV yX6_isStayed cX6_isStayed 2 (some .boolean) 6 1 := ⟨in_g 841 (by decide +kernel) rfl, in_g 25 (by decide +kernel) rfl, in_g 68 (by decide +kernel) rfl, in_g 842 (by decide +kernel) rfl, ⟨by decide +kernel, by decide +kernel, by decide +kernel⟩, ⟨_, _, rfl⟩, by decide⟩
theorem mi_X6_costBy : MiV yX6_costBy cX6_costBy 3 (some .int) 6 2 := ⟨in_g 845 (by decide +kernel) rfl, in_g 26 (by decide +kernel) rfl, in_g 68 (by decide +kernel) rfl, in_g 846 (by decide +kernel) rfl, ⟨by decide +kernel, by decide +kernel, by decide +kernel⟩, ⟨_, _, rfl⟩, by decide⟩
theorem mi_X6_clauseCost : MiV yX6_clauseCost cX6_clauseCost 8 (some .int) 6 2 := ⟨in_g 849 (by decide +kernel) rfl, in_g 27 (by decide +kernel) rfl, in_g 68 (by decide +kernel) rfl, in_g 850 (by decide +kernel) rfl, ⟨by decide +kernel, by decide +kernel, by decide +kernel⟩, ⟨_, _, rfl⟩, by decide⟩
theorem mi_X6_weightOf : MiV yX6_weightOf cX6_weightOf 3 (some .int) 6 2 := ⟨in_g 853 (by decide +kernel) rfl, in_g 28 (by decide +kernel) rfl, in_g 68 (by decide +kernel) rfl, in_g 854 (by decide +kernel) rfl, ⟨by decide +kernel, by decide +kernel, by decide +kernel⟩, ⟨_, _, rfl⟩, by decide⟩
theorem mi_X6_wordOf : MiV yX6_wordOf cX6_wordOf 3 (some .int) 6 2 := ⟨in_g 857 (by decide +kernel) rfl, in_g 29 (by decide +kernel) rfl, in_g 68 (by decide +kernel) rfl, in_g 858 (by decide +kernel) rfl, ⟨by decide +kernel, by decide +kernel, by decide +kernel⟩, ⟨_, _, rfl⟩, by decide⟩
theorem mi_X6_off : MiV yX6_off cX6_off 2 (some .int) 6 1 := ⟨in_g 861 (by decide +kernel) rfl, in_g 30 (by decide +kernel) rfl, in_g 68 (by decide +kernel) rfl, in_g 862 (by decide +kernel) rfl, ⟨by decide +kernel, by decide +kernel, by decide +kernel⟩, ⟨_, _, rfl⟩, by decide⟩
theorem mi_X6_finesOf : MiV yX6_finesOf cX6_finesOf 5 (some .int) 6 2 := ⟨in_g 865 (by decide +kernel) rfl, in_g 31 (by decide +kernel) rfl, in_g 68 (by decide +kernel) rfl, in_g 866 (by decide +kernel) rfl, ⟨by decide +kernel, by decide +kernel, by decide +kernel⟩, ⟨_, _, rfl⟩, by decide⟩
theorem mi_X6_fineOf : MiV yX6_fineOf cX6_fineOf 5 (some .int) 6 3 := ⟨in_g 869 (by decide +kernel) rfl, in_g 32 (by decide +kernel) rfl, in_g 68 (by decide +kernel) rfl, in_g 870 (by decide +kernel) rfl, ⟨by decide +kernel, by decide +kernel, by decide +kernel⟩, ⟨_, _, rfl⟩, by decide⟩
theorem mi_X6_rulingOf : MiV yX6_rulingOf cX6_rulingOf 3 (some .int) 6 2 := ⟨in_g 873 (by decide +kernel) rfl, in_g 33 (by decide +kernel) rfl, in_g 68 (by decide +kernel) rfl, in_g 874 (by decide +kernel) rfl, ⟨by decide +kernel, by decide +kernel, by decide +kernel⟩, ⟨_, _, rfl⟩, by decide⟩
theorem mi_X6_counting : MiV yX6_counting cX6_counting 6 (some .int) 6 2 := ⟨in_g 877 (by decide +kernel) rfl, in_g 34 (by decide +kernel) rfl, in_g 68 (by decide +kernel) rfl, in_g 878 (by decide +kernel) rfl, ⟨by decide +kernel, by decide +kernel, by decide +kernel⟩, ⟨_, _, rfl⟩, by decide⟩
theorem mi_X6_costOf : MiV yX6_costOf cX6_costOf 2 (some .int) 6 1 := ⟨in_g 881 (by decide +kernel) rfl, in_g 35 (by decide +kernel) rfl, in_g 68 (by decide +kernel) rfl, in_g 882 (by decide +kernel) rfl, ⟨by decide +kernel, by decide +kernel, by decide +kernel⟩, ⟨_, _, rfl⟩, by decide⟩
theorem mi_X6_isTaken : MiV yX6_isTaken cX6_isTaken 5 (some .boolean) 6 2 := ⟨in_g 885 (by decide +kernel) rfl, in_g 36 (by decide +kernel) rfl, in_g 68 (by decide +kernel) rfl, in_g 886 (by decide +kernel) rfl, ⟨by decide +kernel, by decide +kernel, by decide +kernel⟩, ⟨_, _, rfl⟩, by decide⟩
theorem mi_X6_isSame : MiV yX6_isSame cX6_isSame 5 (some .boolean) 6 2 := ⟨in_g 889 (by decide +kernel) rfl, in_g 37 (by decide +kernel) rfl, in_g 68 (by decide +kernel) rfl, in_g 890 (by decide +kernel) rfl, ⟨by decide +kernel, by decide +kernel, by decide +kernel⟩, ⟨_, _, rfl⟩, by decide⟩
theorem mi_X6_lays : MiV yX6_lays cX6_lays 4 none 6 3 := ⟨in_g 893 (by decide +kernel) rfl, in_g 38 (by decide +kernel) rfl, in_g 68 (by decide +kernel) rfl, in_g 894 (by decide +kernel) rfl, ⟨by decide +kernel, by decide +kernel, by decide +kernel⟩, ⟨_, _, rfl⟩, by decide⟩
theorem mi_X6_stay : MiV yX6_stay cX6_stay 4 (some .int) 6 2 := ⟨in_g 896 (by decide +kernel) rfl, in_g 897 (by decide +kernel) rfl, in_g 68 (by decide +kernel) rfl, in_g 898 (by decide +kernel) rfl, ⟨by decide +kernel, by decide +kernel, by decide +kernel⟩, ⟨_, _, rfl⟩, by decide⟩
theorem mi_X6_day : MiV yX6_day cX6_day 1 (some .int) 6 0 := ⟨in_g 900 (by decide +kernel) rfl, in_g 901 (by decide +kernel) rfl, in_g 68 (by decide +kernel) rfl, in_g 902 (by decide +kernel) rfl, ⟨by decide +kernel, by decide +kernel, by decide +kernel⟩, ⟨_, _, rfl⟩, by decide⟩
theorem mi_X6_append : MiV yX6_append cX6_append 2 (some .int) 6 1 := ⟨in_g 904 (by decide +kernel) rfl, in_g 905 (by decide +kernel) rfl, in_g 68 (by decide +kernel) rfl, in_g 906 (by decide +kernel) rfl, ⟨by decide +kernel, by decide +kernel, by decide +kernel⟩, ⟨_, _, rfl⟩, by decide⟩
theorem mi_X6_clear : MiV yX6_clear cX6_clear 2 (some .int) 6 0 := ⟨in_g 908 (by decide +kernel) rfl, in_g 909 (by decide +kernel) rfl, in_g 68 (by decide +kernel) rfl, in_g 910 (by decide +kernel) rfl, ⟨by decide +kernel, by decide +kernel, by decide +kernel⟩, ⟨_, _, rfl⟩, by decide⟩
theorem mi_X6_fault : MiV yX6_fault cX6_fault 2 (some .int) 6 1 := ⟨in_g 912 (by decide +kernel) rfl, in_g 913 (by decide +kernel) rfl, in_g 68 (by decide +kernel) rfl, in_g 914 (by decide +kernel) rfl, ⟨by decide +kernel, by decide +kernel, by decide +kernel⟩, ⟨_, _, rfl⟩, by decide⟩
theorem mi_X6_isWords : MiV yX6_isWords cX6_isWords 3 (some .boolean) 6 0 := ⟨in_g 917 (by decide +kernel) rfl, in_g 39 (by decide +kernel) rfl, in_g 68 (by decide +kernel) rfl, in_g 918 (by decide +kernel) rfl, ⟨by decide +kernel, by decide +kernel, by decide +kernel⟩, ⟨_, _, rfl⟩, by decide⟩
theorem mi_X6_here : MiV yX6_here cX6_here 1 (some .int) 6 0 := ⟨in_g 921 (by decide +kernel) rfl, in_g 40 (by decide +kernel) rfl, in_g 68 (by decide +kernel) rfl, in_g 922 (by decide +kernel) rfl, ⟨by decide +kernel, by decide +kernel, by decide +kernel⟩, ⟨_, _, rfl⟩, by decide⟩
theorem mi_X6_takes : MiV yX6_takes cX6_takes 2 none 6 1 := ⟨in_g 925 (by decide +kernel) rfl, in_g 41 (by decide +kernel) rfl, in_g 68 (by decide +kernel) rfl, in_g 926 (by decide +kernel) rfl, ⟨by decide +kernel, by decide +kernel, by decide +kernel⟩, ⟨_, _, rfl⟩, by decide⟩
theorem mi_X6_areSuits : MiV yX6_areSuits cX6_areSuits 1 (some .boolean) 6 0 := ⟨in_g 929 (by decide +kernel) rfl, in_g 42 (by decide +kernel) rfl, in_g 68 (by decide +kernel) rfl, in_g 930 (by decide +kernel) rfl, ⟨by decide +kernel, by decide +kernel, by decide +kernel⟩, ⟨_, _, rfl⟩, by decide⟩
theorem mi_X6_takesSuit : MiV yX6_takesSuit cX6_takesSuit 1 none 6 0 := ⟨in_g 933 (by decide +kernel) rfl, in_g 43 (by decide +kernel) rfl, in_g 68 (by decide +kernel) rfl, in_g 934 (by decide +kernel) rfl, ⟨by decide +kernel, by decide +kernel, by decide +kernel⟩, ⟨_, _, rfl⟩, by decide⟩
theorem mi_X6_print : MiV yX6_print cX6_print 2 (some .int) 6 0 := ⟨in_g 936 (by decide +kernel) rfl, in_g 937 (by decide +kernel) rfl, in_g 68 (by decide +kernel) rfl, in_g 938 (by decide +kernel) rfl, ⟨by decide +kernel, by decide +kernel, by decide +kernel⟩, ⟨_, _, rfl⟩, by decide⟩
theorem mi_X6_isPrinted : MiV yX6_isPrinted cX6_isPrinted 6 (some .boolean) 6 0 := ⟨in_g 941 (by decide +kernel) rfl, in_g 44 (by decide +kernel) rfl, in_g 68 (by decide +kernel) rfl, in_g 942 (by decide +kernel) rfl, ⟨by decide +kernel, by decide +kernel, by decide +kernel⟩, ⟨_, _, rfl⟩, by decide⟩
theorem mi_X6_laysEdition : MiV yX6_laysEdition cX6_laysEdition 5 (some .int) 6 0 := ⟨in_g 945 (by decide +kernel) rfl, in_g 45 (by decide +kernel) rfl, in_g 68 (by decide +kernel) rfl, in_g 946 (by decide +kernel) rfl, ⟨by decide +kernel, by decide +kernel, by decide +kernel⟩, ⟨_, _, rfl⟩, by decide⟩
theorem mi_X6_plead : MiV yX6_plead cX6_plead 4 (some .int) 6 0 := ⟨in_g 948 (by decide +kernel) rfl, in_g 949 (by decide +kernel) rfl, in_g 68 (by decide +kernel) rfl, in_g 950 (by decide +kernel) rfl, ⟨by decide +kernel, by decide +kernel, by decide +kernel⟩, ⟨_, _, rfl⟩, by decide⟩
theorem mi_X6_doesSuit : MiV yX6_doesSuit cX6_doesSuit 1 (some .int) 6 0 := ⟨in_g 953 (by decide +kernel) rfl, in_g 46 (by decide +kernel) rfl, in_g 68 (by decide +kernel) rfl, in_g 954 (by decide +kernel) rfl, ⟨by decide +kernel, by decide +kernel, by decide +kernel⟩, ⟨_, _, rfl⟩, by decide⟩
theorem mi_X6_why : MiV yX6_why cX6_why 2 (some .int) 6 1 := ⟨in_g 956 (by decide +kernel) rfl, in_g 957 (by decide +kernel) rfl, in_g 68 (by decide +kernel) rfl, in_g 958 (by decide +kernel) rfl, ⟨by decide +kernel, by decide +kernel, by decide +kernel⟩, ⟨_, _, rfl⟩, by decide⟩
theorem mi_X6_sign : MiV yX6_sign cX6_sign 6 (some .int) 6 2 := ⟨in_g 960 (by decide +kernel) rfl, in_g 961 (by decide +kernel) rfl, in_g 68 (by decide +kernel) rfl, in_g 962 (by decide +kernel) rfl, ⟨by decide +kernel, by decide +kernel, by decide +kernel⟩, ⟨_, _, rfl⟩, by decide⟩
theorem mi_X6_edition : MiV yX6_edition cX6_edition 4 (some .int) 6 2 := ⟨in_g 964 (by decide +kernel) rfl, in_g 965 (by decide +kernel) rfl, in_g 68 (by decide +kernel) rfl, in_g 966 (by decide +kernel) rfl, ⟨by decide +kernel, by decide +kernel, by decide +kernel⟩, ⟨_, _, rfl⟩, by decide⟩
theorem mi_X6_ones : MiS yX6_ones cX6_ones 3 (some .int) 1 := ⟨in_g 968 (by decide +kernel) rfl, in_g 68 (by decide +kernel) rfl, in_g 969 (by decide +kernel) rfl, by decide +kernel, by decide +kernel, by decide +kernel⟩
theorem mi_X6_allWeight : MiV yX6_allWeight cX6_allWeight 4 (some .int) 6 1 := ⟨in_g 972 (by decide +kernel) rfl, in_g 47 (by decide +kernel) rfl, in_g 68 (by decide +kernel) rfl, in_g 973 (by decide +kernel) rfl, ⟨by decide +kernel, by decide +kernel, by decide +kernel⟩, ⟨_, _, rfl⟩, by decide⟩
theorem mi_X6_gap : MiV yX6_gap cX6_gap 5 (some .int) 6 3 := ⟨in_g 975 (by decide +kernel) rfl, in_g 976 (by decide +kernel) rfl, in_g 68 (by decide +kernel) rfl, in_g 977 (by decide +kernel) rfl, ⟨by decide +kernel, by decide +kernel, by decide +kernel⟩, ⟨_, _, rfl⟩, by decide⟩
theorem mi_X6_ruling : MiV yX6_ruling cX6_ruling 3 (some .int) 6 2 := ⟨in_g 979 (by decide +kernel) rfl, in_g 980 (by decide +kernel) rfl, in_g 68 (by decide +kernel) rfl, in_g 981 (by decide +kernel) rfl, ⟨by decide +kernel, by decide +kernel, by decide +kernel⟩, ⟨_, _, rfl⟩, by decide⟩
theorem mi_X6_doesCount : MiV yX6_doesCount cX6_doesCount 2 (some .boolean) 6 1 := ⟨in_g 984 (by decide +kernel) rfl, in_g 48 (by decide +kernel) rfl, in_g 68 (by decide +kernel) rfl, in_g 985 (by decide +kernel) rfl, ⟨by decide +kernel, by decide +kernel, by decide +kernel⟩, ⟨_, _, rfl⟩, by decide⟩
theorem mi_X6_citing : MiV yX6_citing cX6_citing 4 (some .int) 6 1 := ⟨in_g 988 (by decide +kernel) rfl, in_g 49 (by decide +kernel) rfl, in_g 68 (by decide +kernel) rfl, in_g 989 (by decide +kernel) rfl, ⟨by decide +kernel, by decide +kernel, by decide +kernel⟩, ⟨_, _, rfl⟩, by decide⟩
theorem mi_X6_finesBy : MiV yX6_finesBy cX6_finesBy 5 (some .int) 6 1 := ⟨in_g 992 (by decide +kernel) rfl, in_g 50 (by decide +kernel) rfl, in_g 68 (by decide +kernel) rfl, in_g 993 (by decide +kernel) rfl, ⟨by decide +kernel, by decide +kernel, by decide +kernel⟩, ⟨_, _, rfl⟩, by decide⟩
theorem mi_X6_whyNot : MiV yX6_whyNot cX6_whyNot 3 (some .int) 6 2 := ⟨in_g 995 (by decide +kernel) rfl, in_g 996 (by decide +kernel) rfl, in_g 68 (by decide +kernel) rfl, in_g 997 (by decide +kernel) rfl, ⟨by decide +kernel, by decide +kernel, by decide +kernel⟩, ⟨_, _, rfl⟩, by decide⟩
theorem mi_X6_best : MiV yX6_best cX6_best 5 (some .int) 6 3 := ⟨in_g 999 (by decide +kernel) rfl, in_g 1000 (by decide +kernel) rfl, in_g 68 (by decide +kernel) rfl, in_g 1001 (by decide +kernel) rfl, ⟨by decide +kernel, by decide +kernel, by decide +kernel⟩, ⟨_, _, rfl⟩, by decide⟩
theorem mi_X6_bestSet : MiV yX6_bestSet cX6_bestSet 7 (some .int) 6 1 := ⟨in_g 1004 (by decide +kernel) rfl, in_g 51 (by decide +kernel) rfl, in_g 68 (by decide +kernel) rfl, in_g 1005 (by decide +kernel) rfl, ⟨by decide +kernel, by decide +kernel, by decide +kernel⟩, ⟨_, _, rfl⟩, by decide⟩
theorem mi_X6_laysFines : MiV yX6_laysFines cX6_laysFines 3 none 6 1 := ⟨in_g 1008 (by decide +kernel) rfl, in_g 52 (by decide +kernel) rfl, in_g 68 (by decide +kernel) rfl, in_g 1009 (by decide +kernel) rfl, ⟨by decide +kernel, by decide +kernel, by decide +kernel⟩, ⟨_, _, rfl⟩, by decide⟩
theorem mi_X6_fastCost : MiV yX6_fastCost cX6_fastCost 5 (some .int) 6 2 := ⟨in_g 1012 (by decide +kernel) rfl, in_g 53 (by decide +kernel) rfl, in_g 68 (by decide +kernel) rfl, in_g 1013 (by decide +kernel) rfl, ⟨by decide +kernel, by decide +kernel, by decide +kernel⟩, ⟨_, _, rfl⟩, by decide⟩
theorem mi_X6_ways : MiV yX6_ways cX6_ways 3 (some .int) 6 2 := ⟨in_g 1015 (by decide +kernel) rfl, in_g 1016 (by decide +kernel) rfl, in_g 68 (by decide +kernel) rfl, in_g 1017 (by decide +kernel) rfl, ⟨by decide +kernel, by decide +kernel, by decide +kernel⟩, ⟨_, _, rfl⟩, by decide⟩
theorem mi_X6_splits : MiV yX6_splits cX6_splits 6 (some .int) 6 1 := ⟨in_g 1020 (by decide +kernel) rfl, in_g 54 (by decide +kernel) rfl, in_g 68 (by decide +kernel) rfl, in_g 1021 (by decide +kernel) rfl, ⟨by decide +kernel, by decide +kernel, by decide +kernel⟩, ⟨_, _, rfl⟩, by decide⟩
theorem mi_X6_count : MiV yX6_count cX6_count 2 (some .int) 6 1 := ⟨in_g 1023 (by decide +kernel) rfl, in_g 1024 (by decide +kernel) rfl, in_g 68 (by decide +kernel) rfl, in_g 1025 (by decide +kernel) rfl, ⟨by decide +kernel, by decide +kernel, by decide +kernel⟩, ⟨_, _, rfl⟩, by decide⟩
theorem mi_X6_stayed : MiV yX6_stayed cX6_stayed 3 (some .int) 6 0 := ⟨in_g 1028 (by decide +kernel) rfl, in_g 55 (by decide +kernel) rfl, in_g 68 (by decide +kernel) rfl, in_g 1029 (by decide +kernel) rfl, ⟨by decide +kernel, by decide +kernel, by decide +kernel⟩, ⟨_, _, rfl⟩, by decide⟩
theorem mi_X6_allCost : MiV yX6_allCost cX6_allCost 3 (some .int) 6 0 := ⟨in_g 1032 (by decide +kernel) rfl, in_g 56 (by decide +kernel) rfl, in_g 68 (by decide +kernel) rfl, in_g 1033 (by decide +kernel) rfl, ⟨by decide +kernel, by decide +kernel, by decide +kernel⟩, ⟨_, _, rfl⟩, by decide⟩
theorem mi_X6_countingOnes : MiV yX6_countingOnes cX6_countingOnes 3 (some .int) 6 0 := ⟨in_g 1036 (by decide +kernel) rfl, in_g 57 (by decide +kernel) rfl, in_g 68 (by decide +kernel) rfl, in_g 1037 (by decide +kernel) rfl, ⟨by decide +kernel, by decide +kernel, by decide +kernel⟩, ⟨_, _, rfl⟩, by decide⟩
theorem mi_X6_allCommas : MiV yX6_allCommas cX6_allCommas 3 (some .int) 6 0 := ⟨in_g 1040 (by decide +kernel) rfl, in_g 58 (by decide +kernel) rfl, in_g 68 (by decide +kernel) rfl, in_g 1041 (by decide +kernel) rfl, ⟨by decide +kernel, by decide +kernel, by decide +kernel⟩, ⟨_, _, rfl⟩, by decide⟩
theorem mi_X6_cheapest : MiV yX6_cheapest cX6_cheapest 3 (some .int) 6 0 := ⟨in_g 1044 (by decide +kernel) rfl, in_g 59 (by decide +kernel) rfl, in_g 68 (by decide +kernel) rfl, in_g 1045 (by decide +kernel) rfl, ⟨by decide +kernel, by decide +kernel, by decide +kernel⟩, ⟨_, _, rfl⟩, by decide⟩
theorem mi_X6_length : MiV yX6_length cX6_length 3 (some .double) 6 0 := ⟨in_g 1047 (by decide +kernel) rfl, in_g 1048 (by decide +kernel) rfl, in_g 68 (by decide +kernel) rfl, in_g 1049 (by decide +kernel) rfl, ⟨by decide +kernel, by decide +kernel, by decide +kernel⟩, ⟨_, _, rfl⟩, by decide⟩
theorem mi_X6_ifRuled : MiV yX6_ifRuled cX6_ifRuled 9 (some .int) 6 4 := ⟨in_g 1051 (by decide +kernel) rfl, in_g 1052 (by decide +kernel) rfl, in_g 68 (by decide +kernel) rfl, in_g 1053 (by decide +kernel) rfl, ⟨by decide +kernel, by decide +kernel, by decide +kernel⟩, ⟨_, _, rfl⟩, by decide⟩
theorem mi_X6_fineBy : MiV yX6_fineBy cX6_fineBy 6 (some .int) 6 4 := ⟨in_g 1056 (by decide +kernel) rfl, in_g 60 (by decide +kernel) rfl, in_g 68 (by decide +kernel) rfl, in_g 1057 (by decide +kernel) rfl, ⟨by decide +kernel, by decide +kernel, by decide +kernel⟩, ⟨_, _, rfl⟩, by decide⟩
theorem mi_X6_bestSuit : MiV yX6_bestSuit cX6_bestSuit 7 (some .int) 6 1 := ⟨in_g 1059 (by decide +kernel) rfl, in_g 1060 (by decide +kernel) rfl, in_g 68 (by decide +kernel) rfl, in_g 1061 (by decide +kernel) rfl, ⟨by decide +kernel, by decide +kernel, by decide +kernel⟩, ⟨_, _, rfl⟩, by decide⟩
theorem mi_X6_undo : MiV yX6_undo cX6_undo 1 (some .int) 6 0 := ⟨in_g 1063 (by decide +kernel) rfl, in_g 1064 (by decide +kernel) rfl, in_g 68 (by decide +kernel) rfl, in_g 1065 (by decide +kernel) rfl, ⟨by decide +kernel, by decide +kernel, by decide +kernel⟩, ⟨_, _, rfl⟩, by decide⟩
theorem mi_X6_save : MiV yX6_save cX6_save 1 (some .int) 6 0 := ⟨in_g 1067 (by decide +kernel) rfl, in_g 1068 (by decide +kernel) rfl, in_g 68 (by decide +kernel) rfl, in_g 1069 (by decide +kernel) rfl, ⟨by decide +kernel, by decide +kernel, by decide +kernel⟩, ⟨_, _, rfl⟩, by decide⟩
theorem mi_X6_restore : MiV yX6_restore cX6_restore 1 (some .int) 6 0 := ⟨in_g 1071 (by decide +kernel) rfl, in_g 1072 (by decide +kernel) rfl, in_g 68 (by decide +kernel) rfl, in_g 1073 (by decide +kernel) rfl, ⟨by decide +kernel, by decide +kernel, by decide +kernel⟩, ⟨_, _, rfl⟩, by decide⟩
theorem inX0 : ∀ x ∈ u_ws RX0 TX0 5, x ∈ lw_g := by decide +kernel
theorem inX1 : ∀ x ∈ u_ws RX1 TX1 2, x ∈ lw_g := by decide +kernel
theorem inX2 : ∀ x ∈ u_ws RX2 TX2 7, x ∈ lw_g := by decide +kernel
theorem inX3 : ∀ x ∈ u_ws RX3 TX3 7, x ∈ lw_g := by decide +kernel
theorem inX4 : ∀ x ∈ u_ws RX4 TX4 9, x ∈ lw_g := by decide +kernel
theorem inX5 : ∀ x ∈ u_ws RX5 TX5 12, x ∈ lw_g := by decide +kernel
theorem inX6 : ∀ x ∈ u_ws RX6 TX6 19, x ∈ lw_g := by decide +kernel
end
section
/-! ROWS: an instruction, a row, over the memory -/
section ROWS
variable {w : Om} {f : Fr} {own : String} {cc : ByteArray} {nL lev pc : Nat} {L L2 : List (Option Value)} {st : List Value} {M : Mem}
theorem g_iadd {x y : Int32} (C : Cx w f own cc nL lev) (d : decode cc pc = .ok (.iadd, 1))  (k : Go w f (pc + 1) L (.int (x + y) :: st) M) : Go w f pc L (.int y :: .int x :: st) M :=
  fun H locs ls hP hS hl => lv_iadd C.ex C.co d  (k H locs ls hP hS hl)
theorem g_isub {x y : Int32} (C : Cx w f own cc nL lev) (d : decode cc pc = .ok (.isub, 1))  (k : Go w f (pc + 1) L (.int (x - y) :: st) M) : Go w f pc L (.int y :: .int x :: st) M :=
  fun H locs ls hP hS hl => lv_isub C.ex C.co d  (k H locs ls hP hS hl)
theorem g_imul {x y : Int32} (C : Cx w f own cc nL lev) (d : decode cc pc = .ok (.imul, 1))  (k : Go w f (pc + 1) L (.int (x * y) :: st) M) : Go w f pc L (.int y :: .int x :: st) M :=
  fun H locs ls hP hS hl => lv_imul C.ex C.co d  (k H locs ls hP hS hl)
theorem g_iand {x y : Int32} (C : Cx w f own cc nL lev) (d : decode cc pc = .ok (.iand, 1))  (k : Go w f (pc + 1) L (.int (x &&& y) :: st) M) : Go w f pc L (.int y :: .int x :: st) M :=
  fun H locs ls hP hS hl => lv_iand C.ex C.co d  (k H locs ls hP hS hl)
theorem g_ior {x y : Int32} (C : Cx w f own cc nL lev) (d : decode cc pc = .ok (.ior, 1))  (k : Go w f (pc + 1) L (.int (x ||| y) :: st) M) : Go w f pc L (.int y :: .int x :: st) M :=
  fun H locs ls hP hS hl => lv_ior C.ex C.co d  (k H locs ls hP hS hl)
theorem g_ixor {x y : Int32} (C : Cx w f own cc nL lev) (d : decode cc pc = .ok (.ixor, 1))  (k : Go w f (pc + 1) L (.int (x ^^^ y) :: st) M) : Go w f pc L (.int y :: .int x :: st) M :=
  fun H locs ls hP hS hl => lv_ixor C.ex C.co d  (k H locs ls hP hS hl)
theorem g_ishl {x y : Int32} (C : Cx w f own cc nL lev) (d : decode cc pc = .ok (.ishl, 1))  (k : Go w f (pc + 1) L (.int (x <<< (y &&& 31)) :: st) M) : Go w f pc L (.int y :: .int x :: st) M :=
  fun H locs ls hP hS hl => lv_ishl C.ex C.co d  (k H locs ls hP hS hl)
theorem g_ishr {x y : Int32} (C : Cx w f own cc nL lev) (d : decode cc pc = .ok (.ishr, 1))  (k : Go w f (pc + 1) L (.int (x >>> (y &&& 31)) :: st) M) : Go w f pc L (.int y :: .int x :: st) M :=
  fun H locs ls hP hS hl => lv_ishr C.ex C.co d  (k H locs ls hP hS hl)
theorem g_idiv {x y : Int32} (C : Cx w f own cc nL lev) (d : decode cc pc = .ok (.idiv, 1)) (hne : ¬ y = 0) (k : Go w f (pc + 1) L (.int (x / y) :: st) M) : Go w f pc L (.int y :: .int x :: st) M :=
  fun H locs ls hP hS hl => lv_idiv C.ex C.co d hne (k H locs ls hP hS hl)
theorem g_irem {x y : Int32} (C : Cx w f own cc nL lev) (d : decode cc pc = .ok (.irem, 1)) (hne : ¬ y = 0) (k : Go w f (pc + 1) L (.int (x - x / y * y) :: st) M) : Go w f pc L (.int y :: .int x :: st) M :=
  fun H locs ls hP hS hl => lv_irem C.ex C.co d hne (k H locs ls hP hS hl)
theorem g_ineg {x : Int32} (C : Cx w f own cc nL lev) (d : decode cc pc = .ok (.ineg, 1))  (k : Go w f (pc + 1) L (.int (-x) :: st) M) : Go w f pc L (.int x :: st) M :=
  fun H locs ls hP hS hl => lv_ineg C.ex C.co d  (k H locs ls hP hS hl)
theorem g_iushr {x y : Int32} (C : Cx w f own cc nL lev) (d : decode cc pc = .ok (.iushr, 1))  (k : Go w f (pc + 1) L (.int ((x.toUInt32 >>> (y.toUInt32 &&& Int32.toUInt32 31)).toInt32) :: st) M) : Go w f pc L (.int y :: .int x :: st) M :=
  fun H locs ls hP hS hl => lv_iushr C.ex C.co d rfl (k H locs ls hP hS hl)
theorem g_i2d {x : Int32} (C : Cx w f own cc nL lev) (d : decode cc pc = .ok (.i2d, 1))  (k : Go w f (pc + 1) L (.double (FP.i2d x) :: st) M) : Go w f pc L (.int x :: st) M :=
  fun H locs ls hP hS hl => lv_i2d C.ex C.co d  (k H locs ls hP hS hl)
theorem g_ddiv {x y : UInt64} (C : Cx w f own cc nL lev) (d : decode cc pc = .ok (.ddiv, 1)) (hne : vf_n64 (FP.ddiv x y)) (k : Go w f (pc + 1) L (.double (FP.ddiv x y) :: st) M) : Go w f pc L (.double y :: .double x :: st) M :=
  fun H locs ls hP hS hl => lv_ddiv C.ex C.co d hne (k H locs ls hP hS hl)
theorem g_dcmp {x y : UInt64} {op : CmpOp} (C : Cx w f own cc nL lev) (d : decode cc pc = .ok (.dcmp op, 1))  (k : Go w f (pc + 1) L (.int (Op.cmpValue (FP.dcmp x y) op) :: st) M) : Go w f pc L (.double y :: .double x :: st) M :=
  fun H locs ls hP hS hl => lv_dcmp C.ex C.co d  (k H locs ls hP hS hl)
theorem g_iconst {n : Int} {v : Int32} (C : Cx w f own cc nL lev) (d : decode cc pc = .ok (.iconst n, 1)) (hv : Int32.ofInt n = v) (k : Go w f (pc + 1) L (.int v :: st) M) : Go w f pc L st M :=
  fun H locs ls hP hS hl => lv_iconst C.ex C.co d hv (k H locs ls hP hS hl)
theorem g_bipush {n : Int} {v : Int32} (C : Cx w f own cc nL lev) (d : decode cc pc = .ok (.bipush n, 2)) (hv : (Int8.ofInt n).toInt32 = v) (k : Go w f (pc + 2) L (.int v :: st) M) : Go w f pc L st M :=
  fun H locs ls hP hS hl => lv_bipush C.ex C.co d hv (k H locs ls hP hS hl)
theorem g_sipush {n : Int} {v : Int32} (C : Cx w f own cc nL lev) (d : decode cc pc = .ok (.sipush n, 3)) (hv : (Int16.ofInt n).toInt32 = v) (k : Go w f (pc + 3) L (.int v :: st) M) : Go w f pc L st M :=
  fun H locs ls hP hS hl => lv_sipush C.ex C.co d hv (k H locs ls hP hS hl)
theorem g_ldc {i : Nat} {v : Int32} (C : Cx w f own cc nL lev) (hc : Jvm.Cond.constant own i v ∈ lw_g) (d : decode cc pc = .ok (.ldc i, 2)) (k : Go w f (pc + 2) L (.int v :: st) M) : Go w f pc L st M :=
  fun H locs ls hP hS hl => lv_ldc C.ex C.co C.ow (C.ts _ hc) d (k H locs ls hP hS hl)
theorem g_ldcw {i : Nat} {v : Int32} (C : Cx w f own cc nL lev) (hc : Jvm.Cond.constant own i v ∈ lw_g) (d : decode cc pc = .ok (.ldc_w i, 3)) (k : Go w f (pc + 3) L (.int v :: st) M) : Go w f pc L st M :=
  fun H locs ls hP hS hl => lv_ldcw C.ex C.co C.ow (C.ts _ hc) d (k H locs ls hP hS hl)
theorem g_dconst0 (C : Cx w f own cc nL lev) (d : decode cc pc = .ok (.dconst 0, 1)) (k : Go w f (pc + 1) L (.double FP.dconst0 :: st) M) : Go w f pc L st M :=
  fun H locs ls hP hS hl => lv_dconst0 C.ex C.co d (k H locs ls hP hS hl)
theorem g_null (C : Cx w f own cc nL lev) (d : decode cc pc = .ok (.aconst_null, 1)) (k : Go w f (pc + 1) L (rv w 0 :: st) M) : Go w f pc L st M :=
  fun H locs ls hP hS hl => lv_null C.ex C.co d (k H locs ls hP hS hl)
theorem g_iload_n {j : Fin 4} {i : Nat} {x : Int32} (C : Cx w f own cc nL lev) (d : decode cc pc = .ok (.iload_n j, 1)) (hi : (j : Nat) = i) (h : L[i]? = some (some (.int x))) (k : Go w f (pc + 1) L (.int x :: st) M) : Go w f pc L st M :=
  fun H locs ls hP hS hl => lv_iload_n C.ex C.co d hi (hl.2.2 _ _ h) (k H locs ls hP hS hl)
theorem g_iload {i : Nat} {x : Int32} (C : Cx w f own cc nL lev) (d : decode cc pc = .ok (.iload i, 2)) (h : L[i]? = some (some (.int x))) (k : Go w f (pc + 2) L (.int x :: st) M) : Go w f pc L st M :=
  fun H locs ls hP hS hl => lv_iload C.ex C.co d (hl.2.2 _ _ h) (k H locs ls hP hS hl)
theorem g_dload {i : Nat} {x : UInt64} (C : Cx w f own cc nL lev) (d : decode cc pc = .ok (.dload i, 2)) (h : L[i]? = some (some (.double x))) (k : Go w f (pc + 2) L (.double x :: st) M) : Go w f pc L st M :=
  fun H locs ls hP hS hl => lv_dload C.ex C.co d (hl.2.2 _ _ h) (k H locs ls hP hS hl)
theorem g_aload_n {j : Fin 4} {i r : Nat} (C : Cx w f own cc nL lev) (d : decode cc pc = .ok (.aload_n j, 1)) (hi : (j : Nat) = i) (h : L[i]? = some (some (rv w r))) (k : Go w f (pc + 1) L (rv w r :: st) M) : Go w f pc L st M := by
  intro H locs ls hP hS hl
  have k1 := k H locs ls hP hS hl
  have h1 := hl.2.2 _ _ h
  rcases rv_or w r with e | ⟨a, e⟩
  · rw [e] at h1 k1
    exact lv_aload_nN C.ex C.co d hi h1 k1
  · rw [e] at h1 k1
    exact lv_aload_n C.ex C.co d hi h1 k1
theorem g_aload {i r : Nat} (C : Cx w f own cc nL lev) (d : decode cc pc = .ok (.aload i, 2)) (h : L[i]? = some (some (rv w r))) (k : Go w f (pc + 2) L (rv w r :: st) M) : Go w f pc L st M := by
  intro H locs ls hP hS hl
  have k1 := k H locs ls hP hS hl
  have h1 := hl.2.2 _ _ h
  rcases rv_or w r with e | ⟨a, e⟩
  · rw [e] at h1 k1
    exact lv_aloadN C.ex C.co d h1 k1
  · rw [e] at h1 k1
    exact lv_aload C.ex C.co d h1 k1
theorem g_istore_n {j : Fin 4} {i : Nat} {x : Int32} (C : Cx w f own cc nL lev) (d : decode cc pc = .ok (.istore_n j, 1)) (hi : (j : Nat) = i) (hn : i < nL) (hc : NC L i) (hL : L.set i (some (.int x)) = L2) (k : Go w f (pc + 1) L2 st M) : Go w f pc L (.int x :: st) M := by
  subst hL
  exact fun H locs ls hP hS hl => lv_istore_n C.ex C.co d hi (lh_has hl) (by rw [C.ml]; exact hn) rfl (fun ls2 h2 => k H locs ls2 hP hS (lh_set hc h2))
theorem g_istore {i : Nat} {x : Int32} (C : Cx w f own cc nL lev) (d : decode cc pc = .ok (.istore i, 2)) (hn : i < nL) (hc : NC L i) (hL : L.set i (some (.int x)) = L2) (k : Go w f (pc + 2) L2 st M) : Go w f pc L (.int x :: st) M := by
  subst hL
  exact fun H locs ls hP hS hl => lv_istore C.ex C.co d (lh_has hl) (by rw [C.ml]; exact hn) rfl (fun ls2 h2 => k H locs ls2 hP hS (lh_set hc h2))
theorem g_dstore {i : Nat} {x : UInt64} (C : Cx w f own cc nL lev) (d : decode cc pc = .ok (.dstore i, 2)) (hn : i + 1 < nL) (hc : NC L i) (hL : (L.set i (some (.double x))).set (i + 1) none = L2) (k : Go w f (pc + 2) L2 st M) : Go w f pc L (.double x :: st) M := by
  subst hL
  exact fun H locs ls hP hS hl => lv_dstore C.ex C.co d (lh_has hl) (by rw [C.ml]; exact hn) rfl (fun ls2 h2 => k H locs ls2 hP hS (lh_set2 hc h2))
theorem g_astore_n {j : Fin 4} {i r : Nat} (C : Cx w f own cc nL lev) (d : decode cc pc = .ok (.astore_n j, 1)) (hi : (j : Nat) = i) (hn : i < nL) (hc : NC L i) (hL : L.set i (some (rv w r)) = L2) (k : Go w f (pc + 1) L2 st M) : Go w f pc L (rv w r :: st) M := by
  subst hL
  intro H locs ls hP hS hl
  have k1 := fun ls2 h2 => k H locs ls2 hP hS (lh_set (v := rv w r) hc h2)
  rcases rv_or w r with e | ⟨a, e⟩
  · rw [e] at k1 ⊢
    exact lv_astore_nN C.ex C.co d hi (lh_has hl) (by rw [C.ml]; exact hn) rfl k1
  · rw [e] at k1 ⊢
    exact lv_astore_n C.ex C.co d hi (lh_has hl) (by rw [C.ml]; exact hn) rfl k1
theorem g_astore {i r : Nat} (C : Cx w f own cc nL lev) (d : decode cc pc = .ok (.astore i, 2)) (hn : i < nL) (hc : NC L i) (hL : L.set i (some (rv w r)) = L2) (k : Go w f (pc + 2) L2 st M) : Go w f pc L (rv w r :: st) M := by
  subst hL
  intro H locs ls hP hS hl
  have k1 := fun ls2 h2 => k H locs ls2 hP hS (lh_set (v := rv w r) hc h2)
  rcases rv_or w r with e | ⟨a, e⟩
  · rw [e] at k1 ⊢
    exact lv_astoreN C.ex C.co d (lh_has hl) (by rw [C.ml]; exact hn) rfl k1
  · rw [e] at k1 ⊢
    exact lv_astore C.ex C.co d (lh_has hl) (by rw [C.ml]; exact hn) rfl k1
theorem g_iinc {i : Nat} {n : Int} {x v : Int32} (C : Cx w f own cc nL lev) (d : decode cc pc = .ok (.iinc i n, 3)) (h : L[i]? = some (some (.int x))) (hv : x + Int32.ofInt n = v) (hn : i < nL) (hc : NC L i) (hL : L.set i (some (.int v)) = L2) (k : Go w f (pc + 3) L2 st M) : Go w f pc L st M := by
  subst hL
  intro H locs ls hP hS hl
  obtain ⟨q, hq⟩ := List.getElem?_of_mem (lvs_mem (q := (i, Value.int x)).mpr h)
  exact lv_iinc C.ex C.co d (lh_has hl) hq hv (by rw [C.ml]; exact hn) rfl (fun ls2 h2 => k H locs ls2 hP hS (lh_set hc h2))
theorem g_dup {v : Value} (C : Cx w f own cc nL lev) (hv : v.category = 1) (d : decode cc pc = .ok (.dup, 1)) (k : Go w f (pc + 1) L (v :: v :: st) M) : Go w f pc L (v :: st) M :=
  fun H locs ls hP hS hl => lv_dup C.ex C.co d hv (k H locs ls hP hS hl)
theorem g_dup2 {v u : Value} (C : Cx w f own cc nL lev) (hv : v.category = 1) (hu : u.category = 1) (d : decode cc pc = .ok (.dup2, 1)) (k : Go w f (pc + 1) L (v :: u :: v :: u :: st) M) : Go w f pc L (v :: u :: st) M :=
  fun H locs ls hP hS hl => lv_dup2_11 C.ex C.co d hv hu (k H locs ls hP hS hl)
theorem g_goto {off : Int} (tgt : Nat) (C : Cx w f own cc nL lev) (d : decode cc pc = .ok (.goto off, 3)) (ht : (pc : Int) + off = (tgt : Int)) (k : Go w f tgt L st M) : Go w f pc L st M :=
  fun H locs ls hP hS hl => lv_goto C.ex C.co d ht (k H locs ls hP hS hl)
theorem g_ifnull {off : Int} {r : Nat} (tgt : Nat) (C : Cx w f own cc nL lev) (d : decode cc pc = .ok (.ifnull off, 3)) (ht : (pc : Int) + off = (tgt : Int)) (kt : r = 0 → Go w f tgt L st M) (kf : ¬ r = 0 → Go w f (pc + 3) L st M) : Go w f pc L (rv w r :: st) M := by
  intro H locs ls hP hS hl
  by_cases h : r = 0
  · have k1 := kt h H locs ls hP hS hl
    subst h
    exact lv_ifnullN C.ex C.co d ht k1
  · have e : rv w r = .ref (w.2.2.1 r) := by unfold rv oa; rw [if_neg h]; rfl
    rw [e]
    exact lv_ifnull C.ex C.co d (kf h H locs ls hP hS hl)
theorem g_ifnonnull {off : Int} {r : Nat} (tgt : Nat) (C : Cx w f own cc nL lev) (d : decode cc pc = .ok (.ifnonnull off, 3)) (ht : (pc : Int) + off = (tgt : Int)) (kt : ¬ r = 0 → Go w f tgt L st M) (kf : r = 0 → Go w f (pc + 3) L st M) : Go w f pc L (rv w r :: st) M := by
  intro H locs ls hP hS hl
  by_cases h : r = 0
  · have k1 := kf h H locs ls hP hS hl
    subst h
    exact lv_ifnonnullN C.ex C.co d k1
  · have e : rv w r = .ref (w.2.2.1 r) := by unfold rv oa; rw [if_neg h]; rfl
    rw [e]
    exact lv_ifnonnull C.ex C.co d ht (kt h H locs ls hP hS hl)
theorem g_if_eq {x : Int32} {off : Int} (tgt : Nat) (C : Cx w f own cc nL lev) (d : decode cc pc = .ok (.ifCond .eq off, 3)) (ht : (pc : Int) + off = (tgt : Int)) (kt : x = 0 → Go w f tgt L st M) (kf : ¬ x = 0 → Go w f (pc + 3) L st M) : Go w f pc L (.int x :: st) M :=
  fun H locs ls hP hS hl => lv_if_eq C.ex C.co d ht (fun h => kt h H locs ls hP hS hl) (fun h => kf h H locs ls hP hS hl)
theorem g_icmp_eq {x y : Int32} {off : Int} (tgt : Nat) (C : Cx w f own cc nL lev) (d : decode cc pc = .ok (.if_icmp .eq off, 3)) (ht : (pc : Int) + off = (tgt : Int)) (kt : x = y → Go w f tgt L st M) (kf : ¬ x = y → Go w f (pc + 3) L st M) : Go w f pc L (.int y :: .int x :: st) M :=
  fun H locs ls hP hS hl => lv_icmp_eq C.ex C.co d ht (fun h => kt h H locs ls hP hS hl) (fun h => kf h H locs ls hP hS hl)
theorem g_if_ne {x : Int32} {off : Int} (tgt : Nat) (C : Cx w f own cc nL lev) (d : decode cc pc = .ok (.ifCond .ne off, 3)) (ht : (pc : Int) + off = (tgt : Int)) (kt : ¬ x = 0 → Go w f tgt L st M) (kf : x = 0 → Go w f (pc + 3) L st M) : Go w f pc L (.int x :: st) M :=
  fun H locs ls hP hS hl => lv_if_ne C.ex C.co d ht (fun h => kt h H locs ls hP hS hl) (fun h => kf h H locs ls hP hS hl)
theorem g_icmp_ne {x y : Int32} {off : Int} (tgt : Nat) (C : Cx w f own cc nL lev) (d : decode cc pc = .ok (.if_icmp .ne off, 3)) (ht : (pc : Int) + off = (tgt : Int)) (kt : ¬ x = y → Go w f tgt L st M) (kf : x = y → Go w f (pc + 3) L st M) : Go w f pc L (.int y :: .int x :: st) M :=
  fun H locs ls hP hS hl => lv_icmp_ne C.ex C.co d ht (fun h => kt h H locs ls hP hS hl) (fun h => kf h H locs ls hP hS hl)
theorem g_if_lt {x : Int32} {off : Int} (tgt : Nat) (C : Cx w f own cc nL lev) (d : decode cc pc = .ok (.ifCond .lt off, 3)) (ht : (pc : Int) + off = (tgt : Int)) (kt : x < 0 → Go w f tgt L st M) (kf : ¬ x < 0 → Go w f (pc + 3) L st M) : Go w f pc L (.int x :: st) M :=
  fun H locs ls hP hS hl => lv_if_lt C.ex C.co d ht (fun h => kt h H locs ls hP hS hl) (fun h => kf h H locs ls hP hS hl)
theorem g_icmp_lt {x y : Int32} {off : Int} (tgt : Nat) (C : Cx w f own cc nL lev) (d : decode cc pc = .ok (.if_icmp .lt off, 3)) (ht : (pc : Int) + off = (tgt : Int)) (kt : x < y → Go w f tgt L st M) (kf : ¬ x < y → Go w f (pc + 3) L st M) : Go w f pc L (.int y :: .int x :: st) M :=
  fun H locs ls hP hS hl => lv_icmp_lt C.ex C.co d ht (fun h => kt h H locs ls hP hS hl) (fun h => kf h H locs ls hP hS hl)
theorem g_if_ge {x : Int32} {off : Int} (tgt : Nat) (C : Cx w f own cc nL lev) (d : decode cc pc = .ok (.ifCond .ge off, 3)) (ht : (pc : Int) + off = (tgt : Int)) (kt : 0 ≤ x → Go w f tgt L st M) (kf : ¬ 0 ≤ x → Go w f (pc + 3) L st M) : Go w f pc L (.int x :: st) M :=
  fun H locs ls hP hS hl => lv_if_ge C.ex C.co d ht (fun h => kt h H locs ls hP hS hl) (fun h => kf h H locs ls hP hS hl)
theorem g_icmp_ge {x y : Int32} {off : Int} (tgt : Nat) (C : Cx w f own cc nL lev) (d : decode cc pc = .ok (.if_icmp .ge off, 3)) (ht : (pc : Int) + off = (tgt : Int)) (kt : y ≤ x → Go w f tgt L st M) (kf : ¬ y ≤ x → Go w f (pc + 3) L st M) : Go w f pc L (.int y :: .int x :: st) M :=
  fun H locs ls hP hS hl => lv_icmp_ge C.ex C.co d ht (fun h => kt h H locs ls hP hS hl) (fun h => kf h H locs ls hP hS hl)
theorem g_if_gt {x : Int32} {off : Int} (tgt : Nat) (C : Cx w f own cc nL lev) (d : decode cc pc = .ok (.ifCond .gt off, 3)) (ht : (pc : Int) + off = (tgt : Int)) (kt : 0 < x → Go w f tgt L st M) (kf : ¬ 0 < x → Go w f (pc + 3) L st M) : Go w f pc L (.int x :: st) M :=
  fun H locs ls hP hS hl => lv_if_gt C.ex C.co d ht (fun h => kt h H locs ls hP hS hl) (fun h => kf h H locs ls hP hS hl)
theorem g_icmp_gt {x y : Int32} {off : Int} (tgt : Nat) (C : Cx w f own cc nL lev) (d : decode cc pc = .ok (.if_icmp .gt off, 3)) (ht : (pc : Int) + off = (tgt : Int)) (kt : y < x → Go w f tgt L st M) (kf : ¬ y < x → Go w f (pc + 3) L st M) : Go w f pc L (.int y :: .int x :: st) M :=
  fun H locs ls hP hS hl => lv_icmp_gt C.ex C.co d ht (fun h => kt h H locs ls hP hS hl) (fun h => kf h H locs ls hP hS hl)
theorem g_if_le {x : Int32} {off : Int} (tgt : Nat) (C : Cx w f own cc nL lev) (d : decode cc pc = .ok (.ifCond .le off, 3)) (ht : (pc : Int) + off = (tgt : Int)) (kt : x ≤ 0 → Go w f tgt L st M) (kf : ¬ x ≤ 0 → Go w f (pc + 3) L st M) : Go w f pc L (.int x :: st) M :=
  fun H locs ls hP hS hl => lv_if_le C.ex C.co d ht (fun h => kt h H locs ls hP hS hl) (fun h => kf h H locs ls hP hS hl)
theorem g_icmp_le {x y : Int32} {off : Int} (tgt : Nat) (C : Cx w f own cc nL lev) (d : decode cc pc = .ok (.if_icmp .le off, 3)) (ht : (pc : Int) + off = (tgt : Int)) (kt : x ≤ y → Go w f tgt L st M) (kf : ¬ x ≤ y → Go w f (pc + 3) L st M) : Go w f pc L (.int y :: .int x :: st) M :=
  fun H locs ls hP hS hl => lv_icmp_le C.ex C.co d ht (fun h => kt h H locs ls hP hS hl) (fun h => kf h H locs ls hP hS hl)
theorem g_tsI {dflt lo hi : Int} {offs : Array Int} {len : Nat} {x : Int32} (v : Int32) (off : Int) (tgt : Nat) (C : Cx w f own cc nL lev) (d : decode cc pc = .ok (.tableswitch dflt lo hi offs, len)) (e : x = v) (h1 : ¬ v.toInt < lo) (h2 : ¬ hi < v.toInt) (ho : offs[(v.toInt - lo).toNat]? = some off) (ht : (pc : Int) + off = (tgt : Int)) (k : Go w f tgt L st M) : Go w f pc L (.int x :: st) M := by
  subst e
  exact fun H locs ls hP hS hl => lv_tableIn C.ex C.co d h1 h2 ho ht (k H locs ls hP hS hl)
theorem ts_out {x : Int32} {n : Nat} (hn : n < 1000) (h : ∀ j, j < n → ¬ x = nI j) : x.toInt < 0 ∨ ((n : Int) - 1) < x.toInt := by
  rcases pk_ix x (n := n) (by omega) with h1 | h1 | ⟨j, hj, e⟩
  · exact Or.inl (by simpa using Int32.lt_iff_toInt_lt.mp h1)
  · refine Or.inr ?_
    have h2 := Int32.le_iff_toInt_le.mp h1
    rw [nI_toInt (by omega)] at h2
    omega
  · exact absurd e (h j hj)
theorem g_tsD {dflt lo hi : Int} {offs : Array Int} {len : Nat} {x : Int32} (n : Nat) (tgt : Nat) (C : Cx w f own cc nL lev) (d : decode cc pc = .ok (.tableswitch dflt lo hi offs, len)) (hn : n < 1000) (hlo : lo = 0) (hhi : hi = (n : Int) - 1) (h : ∀ j, j < n → ¬ x = nI j) (ht : (pc : Int) + dflt = (tgt : Int)) (k : Go w f tgt L st M) : Go w f pc L (.int x :: st) M := by
  subst hlo
  subst hhi
  exact fun H locs ls hP hS hl => lv_tableOut C.ex C.co d (ts_out hn h) ht (k H locs ls hP hS hl)
theorem g_lsw {dflt : Int} {ps : Array (Int × Int)} {len : Nat} {x : Int32} (off : Int) (tgt : Nat) (C : Cx w f own cc nL lev) (d : decode cc pc = .ok (.lookupswitch dflt ps, len)) (hp : (ps.toList.zip (ps.toList.drop 1)).all (fun (a, next) => a.1 < next.1) = true) (ho : Op.lookupswitch.offset ps.toList dflt x.toInt = off) (ht : (pc : Int) + off = (tgt : Int)) (k : Go w f tgt L st M) : Go w f pc L (.int x :: st) M :=
  fun H locs ls hP hS hl => lv_lookup C.ex C.co d hp ho ht (k H locs ls hP hS hl)
/-! a value, a memory get another name -/
theorem g_topi {x v : Int32} (e : v = x) (k : Go w f pc L (.int v :: st) M) : Go w f pc L (.int x :: st) M := e ▸ k
theorem g_topr {x v : Nat} (e : v = x) (k : Go w f pc L (rv w v :: st) M) : Go w f pc L (rv w x :: st) M := e ▸ k
theorem g_topd {x v : UInt64} (e : v = x) (k : Go w f pc L (.double v :: st) M) : Go w f pc L (.double x :: st) M := e ▸ k
theorem g_mem {M2 : Mem} (e : M2 = M) (k : Go w f pc L st M2) : Go w f pc L st M := e ▸ k
theorem g_loc (h : ∀ (i : Nat) (v : Value), L2[i]? = some (some v) → L[i]? = some (some v)) (k : Go w f pc L2 st M) : Go w f pc L st M :=
  fun H locs ls hP hS hl => k H locs ls hP hS ⟨hl.1, hl.2.1, fun i v e => hl.2.2 i v (h i v e)⟩
/-! fields -/
theorem g_getf {Cn : String} {T : u_T} {N : Nat} (ci k : Nat) (hci : ci < 7) (hc : vwCl[ci]? = some (Cn, T, N)) (hk : k < N) (hin : ∀ x ∈ u_ws Cn T N, x ∈ lw_g) {i : Nat} (C : Cx w f own cc nL lev) (hlk : Jvm.Cond.fieldLink own i (T k).1 (T k).2.1 (T k).2.2.1 ∈ lw_g) {r : Nat} (hr : kd r = ci + 1) {v : Value} (hv : (flds w M ci r)[k]? = some v) (d : decode cc pc = .ok (.getfield i, 3)) (kk : Go w f (pc + 3) L (v :: st) M) : Go w f pc L (rv w r :: st) M := by
  intro H locs ls hP hS hl
  have hb := kd_in (r := r) (by omega) (by omega)
  rw [rv_some (by omega)]
  exact va_get C.ex C.co C.ts hin C.ow C.K hP (r - 1) (by rw [wo_at hb, cell_o hci hr]) hc k hk (C.ts _ hlk) (fun _ h => h) hv d (kk H locs ls hP hS hl)
theorem g_putf {Cn : String} {T : u_T} {N : Nat} (ci k : Nat) (hci : ci < 7) (hc : vwCl[ci]? = some (Cn, T, N)) (hk : k < N) (hin : ∀ x ∈ u_ws Cn T N, x ∈ lw_g) (ty0 : Nat → FieldType) (hty : ∀ k, k < N → parseFieldDescriptor (T k).2.2.1 = some (ty0 k)) (hnm : ∀ a, a < N → ∀ b, b < N → a ≠ b → (T a).2.1 ≠ (T b).2.1) (hfin : (T k).2.2.2 = false) (hlen : ∀ M r, k < (flds w M ci r).length) (hset : ∀ M r x, flds w (sI M r k x) ci r = (flds w M ci r).set k (.int x)) {ty : FieldType} (hd : parseFieldDescriptor (T k).2.2.1 = some ty) {i : Nat} {x : Int32} (hn : narrow ty (.int x) = .int x) (hfit : fits ty (.int x) = true) (C : Cx w f own cc nL lev) (hlk : Jvm.Cond.fieldLink own i (T k).1 (T k).2.1 (T k).2.2.1 ∈ lw_g) {r : Nat} (hr : kd r = ci + 1) (d : decode cc pc = .ok (.putfield i, 3)) (kk : Go w f (pc + 3) L st (sI M r k x)) : Go w f pc L (.int x :: rv w r :: st) M := by
  intro H locs ls hP hS hl
  have hb := kd_in (r := r) (by omega) (by omega)
  rw [rv_some (by omega)]
  refine va_put C.ex C.co C.ts hin ty0 hty hnm C.ow C.K hP (C.wf M) hS (r - 1) (by rw [wo_at hb, cell_o hci hr]) hc k hk (C.ts _ hlk) (fun _ h => h) hfin hd hn hfit (hlen M r) d (fun H1 locs1 hP1 _ hS1 => ?_)
  rw [wo_set hb (M2 := sI M r k x) (by rw [cell_o hci hr, hset]) (fun q h => cell_sI h)] at hP1
  exact kk H1 locs1 ls hP1 hS1 hl
/-! rows of numbers and of references -/
def inb (i : Int32) (n : Nat) : Bool := decide (0 ≤ i) && decide (i.toNatClampNeg < n)
theorem inb_in {i : Int32} {n : Nat} (h : inb i n = true) : vp_in i n := by
  unfold inb at h
  rw [Bool.and_eq_true, decide_eq_true_eq, decide_eq_true_eq] at h
  rintro (h1 | h1)
  · exact absurd h1 (Int32.not_lt.mpr h.1)
  · omega
theorem g_iald {r : Nat} {i : Int32} (C : Cx w f own cc nL lev) (hr : kd r = 8) (hi : inb i (ln r) = true) (d : decode cc pc = .ok (.iaload, 1)) (k : Go w f (pc + 1) L (.int (gI M r i.toNatClampNeg) :: st) M) : Go w f pc L (.int i :: rv w r :: st) M := by
  intro H locs ls hP hS hl
  have hb := kd_in (r := r) (by omega) (by omega)
  rw [rv_some (by omega)]
  exact va_iald (f := M.1 r) (n := ln r) C.ex C.co C.K hP (r - 1) 0 (by rw [wo_at hb, cell_i hr]) rfl (inb_in hi) d (k H locs ls hP hS hl)
theorem g_iast {r : Nat} {i x : Int32} (C : Cx w f own cc nL lev) (hr : kd r = 8) (hi : inb i (ln r) = true) (d : decode cc pc = .ok (.iastore, 1)) (k : Go w f (pc + 1) L st (sI M r i.toNatClampNeg x)) : Go w f pc L (.int x :: .int i :: rv w r :: st) M := by
  intro H locs ls hP hS hl
  have hb := kd_in (r := r) (by omega) (by omega)
  rw [rv_some (by omega)]
  refine va_iast C.ex C.co C.K hP (C.wf M) hS (r - 1) 0 (by rw [wo_at hb, cell_i hr]) rfl (inb_in hi) d (fun H1 locs1 hP1 _ hS1 => ?_)
  have e : upd (M.1 r) i.toNatClampNeg x = (sI M r i.toNatClampNeg x).1 r := by funext j; simp [sI, upd]
  rw [e] at hP1
  rw [wo_set hb (M2 := sI M r i.toNatClampNeg x) (cell_i hr) (fun q h => cell_sI h)] at hP1
  exact k H1 locs1 ls hP1 hS1 hl
theorem g_aald {r : Nat} {i : Int32} (C : Cx w f own cc nL lev) (hr : kd r = 9 ∨ kd r = 10) (hi : inb i (ln r) = true) (d : decode cc pc = .ok (.aaload, 1)) (k : Go w f (pc + 1) L (rv w (fld r i.toNatClampNeg) :: st) M) : Go w f pc L (.int i :: rv w r :: st) M := by
  intro H locs ls hP hS hl
  have hb := kd_in (r := r) (by omega) (by omega)
  rw [rv_some (by omega)]
  rcases hr with e | e
  · exact va_aldq (f := fun k => oa w (fld r k)) (n := ln r) C.ex C.co C.K hP (r - 1) 1 (by rw [wo_at hb, cell_r (Or.inl e), e]) rfl (inb_in hi) d (k H locs ls hP hS hl)
  · exact va_aldq (f := fun k => oa w (fld r k)) (n := ln r) C.ex C.co C.K hP (r - 1) 2 (by rw [wo_at hb, cell_r (Or.inr e), e]) rfl (inb_in hi) d (k H locs ls hP hS hl)
theorem g_aalds {r : Nat} {i : Int32} (C : Cx w f own cc nL lev) (hr : kd r = 11) (hi : inb i (ln r) = true) (d : decode cc pc = .ok (.aaload, 1)) (k : Go w f (pc + 1) L (rv w (gH M i.toNatClampNeg) :: st) M) : Go w f pc L (.int i :: rv w r :: st) M := by
  intro H locs ls hP hS hl
  have hb := kd_in (r := r) (by omega) (by omega)
  rw [rv_some (by omega)]
  exact va_aldq (f := fun k => oa w (M.2 k)) (n := ln r) C.ex C.co C.K hP (r - 1) 3 (by rw [wo_at hb, cell_s hr]) rfl (inb_in hi) d (k H locs ls hP hS hl)
theorem sH_cell {q j v : Nat} (h : kd q ≠ 11) : cell w (sH M j v) q = cell w M q := by
  unfold cell
  rw [if_neg h, if_neg h]
  rfl
theorem g_aasts {r v : Nat} {i : Int32} (C : Cx w f own cc nL lev) (hr : kd r = 11) (hv : kd v = 5) (hi : inb i (ln r) = true) (d : decode cc pc = .ok (.aastore, 1)) (k : Go w f (pc + 1) L st (sH M i.toNatClampNeg v)) : Go w f pc L (rv w v :: .int i :: rv w r :: st) M := by
  intro H locs ls hP hS hl
  have hb := kd_in (r := r) (by omega) (by omega)
  have hb2 := kd_in (r := v) (by omega) (by omega)
  rw [rv_some (r := r) (by omega), rv_some (r := v) (by omega)]
  refine va_astq C.ex C.co C.K hP (C.wf M) hS (r - 1) 3 (v - 1) 4 (r := (RX4, TX4, 9)) (by rw [wo_at hb, cell_s hr]) rfl (by rw [wo_at hb2, cell_o (ci := 4) (by omega) hv]) rfl (inb_in hi) d (fun H1 locs1 hP1 _ hS1 => ?_)
  have e2 : r = 2 := kd_11 hr
  have e : va_up (fun k => oa w (M.2 k)) i.toNatClampNeg (some (w.2.2.1 v)) = fun k => oa w ((sH M i.toNatClampNeg v).2 k) := by
    funext j
    unfold va_up sH
    by_cases hj : j = i.toNatClampNeg
    · subst hj
      simp only [if_pos]
      unfold oa
      rw [if_neg (by omega)]
    · simp only [if_neg hj]
  rw [e] at hP1
  rw [wo_set hb (M2 := sH M i.toNatClampNeg v) (cell_s hr) (fun q h => sH_cell (fun e => h ((kd_11 e).trans e2.symm)))] at hP1
  exact k H1 locs1 ls hP1 hS1 hl
theorem g_alen {r : Nat} (C : Cx w f own cc nL lev) (hr : kd r = 8 ∨ kd r = 9 ∨ kd r = 10 ∨ kd r = 11) (d : decode cc pc = .ok (.arraylength, 1)) (k : Go w f (pc + 1) L (.int (nI (ln r)) :: st) M) : Go w f pc L (rv w r :: st) M := by
  intro H locs ls hP hS hl
  have hb := kd_in (r := r) (by omega) (by omega)
  rw [rv_some (by omega)]
  rcases hr with e | e | e | e
  · exact va_alen (x := (ln r, .inl (M.1 r))) C.ex C.co C.K hP (r - 1) 0 (by rw [wo_at hb, cell_i e]) rfl rfl d (k H locs ls hP hS hl)
  · exact va_alen (x := (ln r, .inr (.inr (.inr (.inr (fun k => oa w (fld r k))))))) C.ex C.co C.K hP (r - 1) 1 (by rw [wo_at hb, cell_r (Or.inl e), e]) rfl rfl d (k H locs ls hP hS hl)
  · exact va_alen (x := (ln r, .inr (.inr (.inr (.inr (fun k => oa w (fld r k))))))) C.ex C.co C.K hP (r - 1) 2 (by rw [wo_at hb, cell_r (Or.inr e), e]) rfl rfl d (k H locs ls hP hS hl)
  · exact va_alen (x := (ln r, .inr (.inr (.inr (.inr (fun k => oa w (M.2 k))))))) C.ex C.co C.K hP (r - 1) 3 (by rw [wo_at hb, cell_s e]) rfl rfl d (k H locs ls hP hS hl)
end ROWS
/-! CONTRACTS -/
abbrev rm (lev : Nat) : Room := { frames := lev + 1, cells := 0, slots := 0, locals := 60 * (lev + 1) }
def Pc (w : Om) (vs : List Value) (M : Mem) : Array Value → State → Prop := va_Pc vs (fun U => va_P w.1 vwCl (wo w M) U.heap ∧ va_K w.1 vwCl (tys w) U ∧ Ns U)
def Qc (w : Om) (ro : Option Value) (M : Mem) : Array Value → State → Outcome → State → Prop := fun _ st o t => (o = .returned ro ∧ va_P w.1 vwCl (wo w M) t.heap) ∧ va_F w.2.2.2 st t
def Ct (l : Launch) (w : Om) (y : MethodName) (cc : ByteArray) (nL : Nat) (ret : Option FieldType) (lev : Nat) (vs : List Value) (M : Mem) (ro : Option Value) (M2 : Mem) : Prop := Met l y (.code y cc nL ret :: lw_g) (rm lev) (Pc w vs M) (Qc w ro M2) 0 0 w.2.2.2
theorem Pc_blind {w : Om} {vs : List Value} {M : Mem} : FrameBlind (Pc w vs M) := fun a U g mk q => ⟨q.1, q.2.1, va_K.moved (u := U) (U := U.calling g mk a) (Vm.Alike.refl U.vm) q.2.2.1, Ns.same (u := U) (U := U.calling g mk a) rfl q.2.2.2⟩
/-- behind a return -/
def RtI (w : Om) (f : Fr) (cc : ByteArray) (r : Int32) (M : Mem) : Prop := ∀ (pc : Nat) (L : List (Option Value)), decode cc pc = .ok (.ireturn, 1) → Go w f pc L [.int r] M
def RtZ (w : Om) (f : Fr) (cc : ByteArray) (r : Int32) (M : Mem) : Prop := ∀ (pc : Nat) (L : List (Option Value)), decode cc pc = .ok (.ireturn, 1) → (r = 0 ∨ r = 1) → Go w f pc L [.int r] M
def RtA (w : Om) (f : Fr) (cc : ByteArray) (r : Nat) (M : Mem) : Prop := ∀ (pc : Nat) (L : List (Option Value)), decode cc pc = .ok (.areturn, 1) → Go w f pc L [rv w r] M
def RtD (w : Om) (f : Fr) (cc : ByteArray) (r : UInt64) (M : Mem) : Prop := ∀ (pc : Nat) (L : List (Option Value)), decode cc pc = .ok (.dreturn, 1) → Go w f pc L [.double r] M
def RtV (w : Om) (f : Fr) (cc : ByteArray) (M : Mem) : Prop := ∀ (pc : Nat) (L : List (Option Value)), decode cc pc = .ok (.return_, 1) → Go w f pc L [] M
def Rt (w : Om) (f : Fr) (cc : ByteArray) (ret : Option FieldType) (ro : Option Value) (M : Mem) : Prop :=
  ∀ (pc : Nat) (L : List (Option Value)), match ro with
    | none => ret = none → decode cc pc = .ok (.return_, 1) → Go w f pc L [] M
    | some (.int r) => (∃ ty, ret = some ty ∧ narrow ty (.int r) = .int r) → decode cc pc = .ok (.ireturn, 1) → Go w f pc L [.int r] M
    | some (.double r) => ret = some .double → decode cc pc = .ok (.dreturn, 1) → Go w f pc L [.double r] M
    | some v => ((∃ n, ret = some (.object n)) ∨ ∃ t, ret = some (.array t)) → (v = .null ∨ ∃ a, v = .ref a) → decode cc pc = .ok (.areturn, 1) → Go w f pc L [v] M
def args1 : Nat → List Value → List (Nat × Value)
  | _, [] => []
  | i, v :: vs => (i, v) :: args1 (i + 1) vs
theorem sl_cat1 : ∀ (vs : List Value), (∀ v ∈ vs, v.category = 1) → lg_sl vs = vs.map Slot.val
  | [], _ => rfl
  | v :: vs, h => by
    have h1 : v.category = 1 := h v List.mem_cons_self
    have h2 := sl_cat1 vs (fun u hu => h u (List.mem_cons_of_mem _ hu))
    unfold lg_sl at h2 ⊢
    rw [List.flatMap_cons, h2, if_neg (by rw [h1]; decide)]
    rfl
theorem args_cat1 : ∀ (vs : List Value) (i : Nat), (∀ v ∈ vs, v.category = 1) → ∀ (k : Nat) (v : Value), vs[k]? = some v → (i + k, v) ∈ lv_args i vs
  | [], _, _, k, v, h => by simp at h
  | u :: vs, i, hc, k, v, h => by
    have h1 : u.category = 1 := hc u List.mem_cons_self
    unfold lv_args
    rw [if_neg (by rw [h1]; decide)]
    cases k with
    | zero => simp at h; subst h; exact List.mem_cons_self
    | succ k =>
      have := args_cat1 vs (i + 1) (fun u hu => hc u (List.mem_cons_of_mem _ hu)) k v (by simpa using h)
      rw [show i + (k + 1) = i + 1 + k by omega]
      exact List.mem_cons_of_mem _ this
theorem ct_of {l : Launch} {w : Om} {y : MethodName} {cc : ByteArray} {nL : Nat} {ret : Option FieldType} {lev : Nat} {vs : List Value} {M : Mem} {ro : Option Value} {M2 : Mem} (hw : Wf w) (hy : plainName y.cls = true) (hcat : ∀ v ∈ vs, v.category = 1) (hlen : vs.length ≤ nL)
    (body : ∀ f : Fr, f_l f = l → Cx w f y.cls cc nL lev → Rt w f cc ret ro M2 → Go w f 0 (vs.map some ++ List.replicate (nL - vs.length) none) [] M) : Ct l w y cc nL ret lev vs M ro M2 := by
  refine Met.ofW (cc := cc) (maxL := nL) (ret := ret) hy rfl ?_
  intro p e s m args below meth c s₁ B hml hv
  obtain ⟨rfl, hP, hK, hN⟩ := hv
  have hts := atoms_spec (ws := Cond.code y cc nL ret :: lw_g) B.pre
  have hown : s.vm.findClass y.cls = some m.cls := findClass_of_methodNamed B.named
  have hlocks := B.notSynchronized
  rw [lg_entry_eq]
  have hl := lv_entry vs (n := nL) (by rw [sl_cat1 vs hcat, List.length_map]; exact hlen)
  generalize (lg_sl vs ++ List.replicate (nL - (lg_sl vs).length) Slot.unset).toArray = ls at hl ⊢
  have hC : Cx w (p, l, e, rm lev, s, m, vs.toArray, below, meth, c, 0, 0, MQ below (Qc w ro M2) vs.toArray s 0 0 w.2.2.2) y.cls cc nL lev :=
    ⟨B.exec, B.bytes, hml, hown, fun x hx => hts x (List.mem_cons_of_mem _ hx), hK, hw, hN, Nat.le_refl _, Nat.le_refl _, Nat.zero_le _, Nat.zero_le _⟩
  refine body (p, l, e, rm lev, s, m, vs.toArray, below, meth, c, 0, 0, MQ below (Qc w ro M2) vs.toArray s 0 0 w.2.2.2) rfl hC ?_ s.heap [] ls hP va_S.rf ⟨?_, hl.2.1, ?_⟩
  · intro pc L
    match ro with
    | none =>
      intro e1 hd H locs ls2 hP2 hS2 hl2
      subst e1
      exact W.vret hC.ex hC.co B.returns (fun t ht hW => ⟨⟨rfl, by rw [ht]; exact hP2⟩, hS2.F ht⟩) hS2.2.2 hd hlocks
    | some (.int r) =>
      rintro ⟨ty, e1, hn⟩ hd H locs ls2 hP2 hS2 hl2
      subst e1
      exact W.zret hC.ex hC.co B.returns hn (fun t ht hW => ⟨⟨rfl, by rw [ht]; exact hP2⟩, hS2.F ht⟩) hS2.2.2 hd hlocks
    | some (.double r) =>
      intro e1 hd H locs ls2 hP2 hS2 hl2
      subst e1
      exact W.dret hC.ex hC.co B.returns (fun t ht hW => ⟨⟨rfl, by rw [ht]; exact hP2⟩, hS2.F ht⟩) hS2.2.2 hd hlocks
    | some .null =>
      rintro (⟨n, e1⟩ | ⟨n, e1⟩) hv hd H locs ls2 hP2 hS2 hl2
      · subst e1
        exact W.aret hC.ex hC.co B.returns (Or.inl ⟨_, rfl⟩) hv (fun t ht hW => ⟨⟨rfl, by rw [ht]; exact hP2⟩, hS2.F ht⟩) hS2.2.2 hd hlocks
      · subst e1
        exact W.aret hC.ex hC.co B.returns (Or.inr ⟨_, rfl⟩) hv (fun t ht hW => ⟨⟨rfl, by rw [ht]; exact hP2⟩, hS2.F ht⟩) hS2.2.2 hd hlocks
    | some (.ref a) =>
      rintro (⟨n, e1⟩ | ⟨n, e1⟩) hv hd H locs ls2 hP2 hS2 hl2
      · subst e1
        exact W.aret hC.ex hC.co B.returns (Or.inl ⟨_, rfl⟩) hv (fun t ht hW => ⟨⟨rfl, by rw [ht]; exact hP2⟩, hS2.F ht⟩) hS2.2.2 hd hlocks
      · subst e1
        exact W.aret hC.ex hC.co B.returns (Or.inr ⟨_, rfl⟩) hv (fun t ht hW => ⟨⟨rfl, by rw [ht]; exact hP2⟩, hS2.F ht⟩) hS2.2.2 hd hlocks
    | some (.long r) =>
      rintro h1 (h2 | ⟨a, h2⟩) <;> cases h2
    | some (.float r) =>
      rintro h1 (h2 | ⟨a, h2⟩) <;> cases h2
    | some (.retAddr r) =>
      rintro h1 (h2 | ⟨a, h2⟩) <;> cases h2
  · exact hl.1.trans hml.symm
  · intro i v hv
    by_cases hi : i < vs.length
    · rw [List.getElem?_append_left (by rw [List.length_map]; exact hi), List.getElem?_map] at hv
      cases hq : vs[i]? with
      | none => rw [hq] at hv; cases hv
      | some u =>
        rw [hq] at hv
        have e : u = v := Option.some.inj (Option.some.inj hv)
        have h1 := args_cat1 vs 0 hcat i u hq
        rw [Nat.zero_add, e] at h1
        exact hl.2.2 _ h1
    · rw [List.getElem?_append_right (by rw [List.length_map]; omega)] at hv
      have h1 := List.eq_of_mem_replicate (List.mem_of_getElem? hv)
      cases h1
end
section
/-! what the walks' functions are made of -/
def gdd {α : Type} (c : Prop) [Decidable c] (x : Option α) : Option α := if c then x else none
def obb {α β : Type} (x : Option α) (k : α → Option β) : Option β := x.bind k
def opp {α β : Type} (x : Option (α × Mem)) (k : α → Mem → Option β) : Option β := x.bind (fun z => k z.1 z.2)
def bvv {α β : Type} (a : α) (k : α → β) : β := k a
def isb (x : Int32) : Bool := decide (x = 0) || decide (x = 1)
def FU : Nat := 5000
theorem of_gdd {α : Type} {c : Prop} [Decidable c] {x : Option α} {r : α} (h : gdd c x = some r) : c ∧ x = some r := by
  unfold gdd at h
  by_cases hc : c
  · rw [if_pos hc] at h; exact ⟨hc, h⟩
  · rw [if_neg hc] at h; cases h
theorem of_obb {α β : Type} {x : Option α} {k : α → Option β} {r : β} (h : obb x k = some r) : ∃ a, x = some a ∧ k a = some r := by
  cases x with
  | none => cases h
  | some a => exact ⟨a, rfl, h⟩
theorem of_opp {α β : Type} {x : Option (α × Mem)} {k : α → Mem → Option β} {r : β} (h : opp x k = some r) : ∃ a M, x = some (a, M) ∧ k a M = some r := by
  cases x with
  | none => cases h
  | some a => exact ⟨a.1, a.2, rfl, h⟩
theorem of_bvv {α β : Type} {a : α} {k : α → β} {r : β} (h : bvv a k = r) : ∃ x, x = a ∧ k x = r := ⟨a, rfl, h⟩
theorem of_ift {α : Type} {c : Prop} [Decidable c] {a b r : α} (h : (if c then a else b) = r) (hc : c) : a = r := by rw [if_pos hc] at h; exact h
theorem of_iff {α : Type} {c : Prop} [Decidable c] {a b r : α} (h : (if c then a else b) = r) (hc : ¬ c) : b = r := by rw [if_neg hc] at h; exact h
theorem isb_0 : isb 0 = true := by decide
theorem isb_1 : isb 1 = true := by decide
theorem isb_or {x : Int32} (h : isb x = true) : x = 0 ∨ x = 1 := by
  unfold isb at h
  rw [Bool.or_eq_true, decide_eq_true_eq, decide_eq_true_eq] at h
  exact h
theorem nb_use {x : Int32} (h : isb x = true) : narrow .boolean (.int x) = .int x := by
  rcases isb_or h with rfl | rfl <;> rfl
theorem fb_use {x : Int32} (h : isb x = true) : fits .boolean (.int x) = true := by
  rcases isb_or h with rfl | rfl <;> rfl
theorem kd_ne0 {r k : Nat} (g : kd r = k) (hk : ¬ k = 0) : ¬ r = 0 := by
  intro e
  subst e
  exact hk (g.symm.trans (by decide))
def nN (x : UInt64) : Bool := decide (x &&& 0x7fffffffffffffff ≤ 0x7ff0000000000000)
theorem nN_use {x : UInt64} (h : nN x = true) : vf_n64 x := by
  unfold nN at h
  rw [decide_eq_true_eq] at h
  exact h
theorem ls_out01 {x : Int32} (h0 : ¬ x = nI 0) (h1 : ¬ x = nI 1) {a b d : Int} : Op.lookupswitch.offset [(0, a), (1, b)] d x.toInt = d := by
  have e0 : ¬ x.toInt = 0 := fun e => h0 (Int32.toInt_inj.mp (by rw [e]; rfl))
  have e1 : ¬ x.toInt = 1 := fun e => h1 (Int32.toInt_inj.mp (by rw [e]; rfl))
  simp [Op.lookupswitch.offset, List.find?, Ne.symm e0, Ne.symm e1, fun e : (0 : Int) = x.toInt => e0 e.symm, fun e : (1 : Int) = x.toInt => e1 e.symm]
theorem p_lt {x : Int32} {n : Nat} (h : ∀ a, a < n → ¬ x = nI a) : ∀ j, j < n → ¬ x = nI j := h
def maskL : List Bool → List (Option Value) → List (Option Value)
  | b :: bs, v :: L => (if b then v else none) :: maskL bs L
  | _, _ => []
theorem maskL_at : ∀ (bs : List Bool) (L : List (Option Value)) (i : Nat) (v : Value), (maskL bs L)[i]? = some (some v) → L[i]? = some (some v)
  | [], _, i, v, h => by simp [maskL] at h
  | b :: bs, [], i, v, h => by simp [maskL] at h
  | b :: bs, u :: L, 0, v, h => by
    simp only [maskL, List.getElem?_cons_zero, Option.some.injEq] at h ⊢
    cases b
    · cases h
    · exact h
  | b :: bs, u :: L, i + 1, v, h => by
    simp only [maskL, List.getElem?_cons_succ] at h ⊢
    exact maskL_at bs L i v h
theorem g_mask {w : Om} {f : Fr} {pc : Nat} {L L2 : List (Option Value)} {st : List Value} {M : Mem} {bs : List Bool} (e : maskL bs L = L2) (k : Go w f pc L2 st M) : Go w f pc L st M := g_loc (fun i v h => maskL_at bs L i v (by rw [e]; exact h)) k
theorem cat_0 : ∀ v ∈ ([] : List Value), v.category = 1 := fun _ h => absurd h List.not_mem_nil
theorem cat_s {u : Value} {vs : List Value} (h1 : u.category = 1) (h : ∀ v ∈ vs, v.category = 1) : ∀ v ∈ u :: vs, v.category = 1 := List.forall_mem_cons.mpr ⟨h1, h⟩
def CS (n : Nat) (st : List Value) : Prop := (st.map fun v => v.category).sum = n
theorem cs_0 : CS 0 [] := rfl
theorem cs_i {n : Nat} {st : List Value} {x : Int32} (h : CS n st) : CS (1 + n) (.int x :: st) := by unfold CS at h ⊢; rw [List.map_cons, List.sum_cons, h]; rfl
theorem cs_r {n : Nat} {st : List Value} {w : Om} {r : Nat} (h : CS n st) : CS (1 + n) (rv w r :: st) := by unfold CS at h ⊢; rw [List.map_cons, List.sum_cons, h, rv_cat]
theorem cs_d {n : Nat} {st : List Value} {x : UInt64} (h : CS n st) : CS (2 + n) (.double x :: st) := by unfold CS at h ⊢; rw [List.map_cons, List.sum_cons, h]; rfl
theorem RtA_use {w : Om} {f : Fr} {cc : ByteArray} {ret : Option FieldType} {r : Nat} {M : Mem} (hR : Rt w f cc ret (some (rv w r)) M) (pc : Nat) (L : List (Option Value)) (h1 : (∃ n, ret = some (.object n)) ∨ ∃ t, ret = some (.array t)) (d : decode cc pc = .ok (.areturn, 1)) : Go w f pc L [rv w r] M := by
  have h := hR pc L
  have h2 := rv_or w r
  generalize rv w r = v at h h2 ⊢
  rcases h2 with e | ⟨a, e⟩
  · subst e
    exact h h1 (Or.inl rfl) d
  · subst e
    exact h h1 (Or.inr ⟨_, rfl⟩) d
section CALLS
variable {w : Om} {f : Fr} {own : String} {cc : ByteArray} {nL lev pc : Nat} {L : List (Option Value)} {st : List Value} {M : Mem}
variable {y : MethodName} {bytes : ByteArray} {maxL idx lc n : Nat} {ret : Option FieldType} {As S : List Value} {M2 : Mem} {ro : Option Value}
theorem W_call {p : Program} {l : Launch} {e : Env} {R : Room} {s : State} {m : MethodId} {args : Array Value} {below : List Frame} {meth : Method} {c : Code} {H : Heap} {locs : List Loc} {cells slots : Nat} {Q : State → Prop} {ls : Array Slot} {rest st0 : List Value} {a : Array Value} (hr : va_Run p l e R s m args below meth c H locs cells slots 0 0 (F0 m pc ls st0) rest (Qc w ro M2 a) w.2.2.2) (hS : va_S w.2.2.2 s.heap H locs)
    (kk : ∀ (H1 : Heap) (locs1 : List Loc), va_P w.1 vwCl (wo w M2) H1 → va_S w.2.2.2 s.heap H1 locs1 → W p l e R s m args below meth c H1 locs1 cells slots Q (F0 m (pc + 3) ls (ro.toList ++ rest))) : W p l e R s m args below meth c H locs cells slots Q (F0 m pc ls st0) := by
  intro T hT X
  obtain ⟨v, st₀, t, T', L2, h0, X', hL, e1, e2, ⟨⟨hv, hp⟩, hz, hk⟩, st⟩ := hr T hT X
  cases hv
  rw [h0] at hz hk
  obtain ⟨t2, a1, b1⟩ := kk T'.heap (locs ++ L2) (by rw [e1]; exact hp)
    ⟨Nat.le_trans hS.1 (by rw [e1]; exact hz), fun q h1 h2 => by rw [e1, hk q (Nat.lt_of_lt_of_le h1 hS.1) h2]; exact hS.2.1 q h1 h2, fun q hq => by
      rcases List.mem_append.mp hq with h | h
      · exact hS.2.2 q h
      · exact hL q h⟩ T' rfl X'
  exact ⟨t2, st t2 a1, b1⟩
theorem g_callV {ci r : Nat} (C : Cx w f own cc nL lev) (hM : Ct (f_l f) w y bytes maxL ret lc (rv w r :: As) M ro M2) (hr : kd r = ci + 1) (lk : Jvm.Cond.methodLink own idx y ∈ lw_g) (mi : MiV y bytes maxL ret ci As.length) (hlev : lc + 1 ≤ lev ∧ maxL ≤ 41) (hcs : CS n st) (hn : n ≤ 8) (d : decode cc pc = .ok (.invokevirtual idx, 3)) (hS : S = As.reverse ++ rv w r :: st) (k : Go w f (pc + 3) L (ro.toList ++ st) M2) : Go w f pc L S M := by
  intro H locs ls hP hS0 hl
  obtain ⟨m1, m2, m3, m4, ⟨m5, m6, m7⟩, ⟨T, N, m8⟩, m9⟩ := mi
  have hb := kd_in (r := r) (by omega) (by omega)
  have hfr := C.fr
  have hlo := C.lo
  have hts := C.ts
  refine W_call (va_runV (bytes := bytes) (maxL := maxL) (ret := ret) (As := As) (rest := st) (C := y.cls) (b := w.2.2.1 r) ⟨C.ex, C.co, C.ml, C.ow, C.ts⟩ hM ?_ ⟨Pc_blind, ?_, ?_⟩ rfl rfl (hl.1.trans C.ml) (by rw [hS, rv_some (r := r) (by omega)]) (lv_room (by unfold CS at hcs; omega)) d ⟨C.ce, C.sl⟩) hS0 (fun H1 locs1 hP1 hS1 => k H1 locs1 ls hP1 hS1 hl)
  · exact ⟨callB_of As.length C.ts (fun x hx => (List.mem_cons.mp hx).elim (fun e => by rw [e]; exact ⟨m4, (lw_gg _ m4).2⟩) (fun h => lw_gg x h)) rfl rfl rfl (hts _ m3) (hts _ lk) ⟨m5, m6, m7⟩ ⟨by show lc + 1 + 1 ≤ _; omega, by show 8 + (maxL + 11) + 60 * (lc + 1) ≤ _; omega⟩, hts _ m1, hts _ m2⟩
  · exact va_recv C.K hP m8 (by rw [wo_at hb, cell_o m9 hr])
  · intro U hU hW
    exact ⟨by rw [rv_some (r := r) (by omega)], by rw [hU]; exact hP, va_K.moved hW.alike C.K, Ns.warm hW C.ns⟩
theorem g_callS (C : Cx w f own cc nL lev) (hM : Ct (f_l f) w y bytes maxL ret lc As M ro M2) (lk : Jvm.Cond.methodLink own idx y ∈ lw_g) (mi : MiS y bytes maxL ret As.length) (hlev : lc + 1 ≤ lev ∧ maxL ≤ 41) (hcs : CS n st) (hn : n ≤ 8) (d : decode cc pc = .ok (.invokestatic idx, 3)) (hS : S = As.reverse ++ st) (k : Go w f (pc + 3) L (ro.toList ++ st) M2) : Go w f pc L S M := by
  intro H locs ls hP hS0 hl
  obtain ⟨m1, m3, m4, ⟨m5, m6, m7⟩⟩ := mi
  have hfr := C.fr
  have hlo := C.lo
  have hts := C.ts
  refine W_call (va_runS (bytes := bytes) (maxL := maxL) (ret := ret) (As := As) (rest := st) ⟨C.ex, C.co, C.ml, C.ow, C.ts⟩ hM ?_ ⟨Pc_blind, ?_⟩ rfl rfl (hl.1.trans C.ml) (by rw [hS]) (lv_room (by unfold CS at hcs; omega)) d ⟨C.ce, C.sl⟩) hS0 (fun H1 locs1 hP1 hS1 => k H1 locs1 ls hP1 hS1 hl)
  · exact ⟨callB_of As.length C.ts (fun x hx => (List.mem_cons.mp hx).elim (fun e => by rw [e]; exact ⟨m4, (lw_gg _ m4).2⟩) (fun h => lw_gg x h)) rfl rfl rfl (hts _ m3) (hts _ lk) ⟨m5, m6, m7⟩ ⟨by show lc + 1 + 1 ≤ _; omega, by show 8 + (maxL + 11) + 60 * (lc + 1) ≤ _; omega⟩, hts _ m1⟩
  · intro U hU hW
    exact ⟨rfl, by rw [hU]; exact hP, va_K.moved hW.alike C.K, Ns.warm hW C.ns⟩
theorem g_callSN {host : String} (C : Cx w f own cc nL lev) (hM : Ct (f_l f) w y bytes maxL ret lc As M ro M2) (lk : (own, idx, y, host) ∈ nsL) (mi : MiS y bytes maxL ret As.length) (hlev : lc + 1 ≤ lev ∧ maxL ≤ 41) (hcs : CS n st) (hn : n ≤ 8) (d : decode cc pc = .ok (.invokestatic idx, 3)) (hS : S = As.reverse ++ st) (k : Go w f (pc + 3) L (ro.toList ++ st) M2) : Go w f pc L S M := by
  intro H locs ls hP hS0 hl
  obtain ⟨m1, m3, m4, ⟨m5, m6, m7⟩⟩ := mi
  have hfr := C.fr
  have hlo := C.lo
  have hts := C.ts
  have hns := C.ns _ lk
  refine W_call (va_runSN (bytes := bytes) (maxL := maxL) (ret := ret) (As := As) (rest := st) (host := host) ⟨C.ex, C.co, C.ml, C.ow, C.ts⟩ hM ?_ ⟨Pc_blind, ?_⟩ rfl rfl (hl.1.trans C.ml) (by rw [hS]) (lv_room (by unfold CS at hcs; omega)) d ⟨C.ce, C.sl⟩) hS0 (fun H1 locs1 hP1 hS1 => k H1 locs1 ls hP1 hS1 hl)
  · exact ⟨va_cnB As.length C.ts (fun x hx => (List.mem_cons.mp hx).elim (fun e => by rw [e]; exact ⟨m4, (lw_gg _ m4).2⟩) (fun h => lw_gg x h)) rfl rfl rfl hns (hts _ m3) ⟨m5, m6, m7⟩ ⟨by show lc + 1 + 1 ≤ _; omega, by show 8 + (maxL + 11) + 60 * (lc + 1) ≤ _; omega⟩, hts _ m1, trivial⟩
  · intro U hU hW
    exact ⟨rfl, by rw [hU]; exact hP, va_K.moved hW.alike C.K, Ns.warm hW C.ns⟩
/-- the law's script: x of L ints, the cell 159 -/
def Sx (w : Om) (f : Fr) (L : Nat) (xs : Nat → Int32) : Prop := va_X (w.2.2.1 159) L xs (f_s f) (f_s f).heap ∧ w.2.2.1 159 < (f_s f).heap.size ∧ ¬ w.2.2.2 (w.2.2.1 159)
theorem g_sld {Ln : Nat} {xs : Nat → Int32} {i : Int32} (C : Cx w f own cc nL lev) (hX : Sx w f Ln xs) (hi : inb i Ln = true) (d : decode cc pc = .ok (.iaload, 1)) (k : Go w f (pc + 1) L (.int (xs i.toNatClampNeg) :: st) M) : Go w f pc L (.int i :: rv w 159 :: st) M :=
  fun H locs ls hP hS hl => va_sld C.ex C.co hX.1 hX.2.1 hX.2.2 hS (inb_in hi) d (k H locs ls hP hS hl)
theorem g_slen {Ln : Nat} {xs : Nat → Int32} (C : Cx w f own cc nL lev) (hX : Sx w f Ln xs) (d : decode cc pc = .ok (.arraylength, 1)) (k : Go w f (pc + 1) L (.int (nI Ln) :: st) M) : Go w f pc L (rv w 159 :: st) M :=
  fun H locs ls hP hS hl => va_slen C.ex C.co hX.1 hX.2.1 hX.2.2 hS d (k H locs ls hP hS hl)
theorem gf_0_0 {i r : Nat} (C : Cx w f own cc nL lev) (lk : Jvm.Cond.fieldLink own i (TX0 0).1 (TX0 0).2.1 (TX0 0).2.2.1 ∈ lw_g) (hr : kd r = 1) (d : decode cc pc = .ok (.getfield i, 3)) (k : Go w f (pc + 3) L (rv w (fld r 0) :: st) M) : Go w f pc L (rv w r :: st) M := g_getf (Cn := RX0) (T := TX0) (N := 5) 0 0 (by decide) rfl (by decide) inX0 C lk hr rfl d k
theorem gf_0_1 {i r : Nat} (C : Cx w f own cc nL lev) (lk : Jvm.Cond.fieldLink own i (TX0 1).1 (TX0 1).2.1 (TX0 1).2.2.1 ∈ lw_g) (hr : kd r = 1) (d : decode cc pc = .ok (.getfield i, 3)) (k : Go w f (pc + 3) L (.int (gI M r 1) :: st) M) : Go w f pc L (rv w r :: st) M := g_getf (Cn := RX0) (T := TX0) (N := 5) 0 1 (by decide) rfl (by decide) inX0 C lk hr rfl d k
theorem pf_0_1 {i r : Nat} {x : Int32} (C : Cx w f own cc nL lev) (lk : Jvm.Cond.fieldLink own i (TX0 1).1 (TX0 1).2.1 (TX0 1).2.2.1 ∈ lw_g) (hr : kd r = 1) (d : decode cc pc = .ok (.putfield i, 3)) (k : Go w f (pc + 3) L st (sI M r 1 x)) : Go w f pc L (.int x :: rv w r :: st) M := g_putf (Cn := RX0) (T := TX0) (N := 5) 0 1 (by decide) rfl (by decide) inX0 tyX0 tyX0_ok nmX0 rfl (fun M r => by simp [flds]) (fun M r x => by simp [flds, gI, sI]) (ty := .int) (by decide +kernel) rfl rfl C lk hr d k
theorem gf_0_2 {i r : Nat} (C : Cx w f own cc nL lev) (lk : Jvm.Cond.fieldLink own i (TX0 2).1 (TX0 2).2.1 (TX0 2).2.2.1 ∈ lw_g) (hr : kd r = 1) (d : decode cc pc = .ok (.getfield i, 3)) (k : Go w f (pc + 3) L (.int (gI M r 2) :: st) M) : Go w f pc L (rv w r :: st) M := g_getf (Cn := RX0) (T := TX0) (N := 5) 0 2 (by decide) rfl (by decide) inX0 C lk hr rfl d k
theorem pf_0_2 {i r : Nat} {x : Int32} (C : Cx w f own cc nL lev) (lk : Jvm.Cond.fieldLink own i (TX0 2).1 (TX0 2).2.1 (TX0 2).2.2.1 ∈ lw_g) (hr : kd r = 1) (d : decode cc pc = .ok (.putfield i, 3)) (k : Go w f (pc + 3) L st (sI M r 2 x)) : Go w f pc L (.int x :: rv w r :: st) M := g_putf (Cn := RX0) (T := TX0) (N := 5) 0 2 (by decide) rfl (by decide) inX0 tyX0 tyX0_ok nmX0 rfl (fun M r => by simp [flds]) (fun M r x => by simp [flds, gI, sI]) (ty := .int) (by decide +kernel) rfl rfl C lk hr d k
theorem gf_0_3 {i r : Nat} (C : Cx w f own cc nL lev) (lk : Jvm.Cond.fieldLink own i (TX0 3).1 (TX0 3).2.1 (TX0 3).2.2.1 ∈ lw_g) (hr : kd r = 1) (d : decode cc pc = .ok (.getfield i, 3)) (k : Go w f (pc + 3) L (.int (gI M r 3) :: st) M) : Go w f pc L (rv w r :: st) M := g_getf (Cn := RX0) (T := TX0) (N := 5) 0 3 (by decide) rfl (by decide) inX0 C lk hr rfl d k
theorem pf_0_3 {i r : Nat} {x : Int32} (C : Cx w f own cc nL lev) (lk : Jvm.Cond.fieldLink own i (TX0 3).1 (TX0 3).2.1 (TX0 3).2.2.1 ∈ lw_g) (hr : kd r = 1) (d : decode cc pc = .ok (.putfield i, 3)) (k : Go w f (pc + 3) L st (sI M r 3 x)) : Go w f pc L (.int x :: rv w r :: st) M := g_putf (Cn := RX0) (T := TX0) (N := 5) 0 3 (by decide) rfl (by decide) inX0 tyX0 tyX0_ok nmX0 rfl (fun M r => by simp [flds]) (fun M r x => by simp [flds, gI, sI]) (ty := .int) (by decide +kernel) rfl rfl C lk hr d k
theorem gf_0_4 {i r : Nat} (C : Cx w f own cc nL lev) (lk : Jvm.Cond.fieldLink own i (TX0 4).1 (TX0 4).2.1 (TX0 4).2.2.1 ∈ lw_g) (hr : kd r = 1) (d : decode cc pc = .ok (.getfield i, 3)) (k : Go w f (pc + 3) L (.int (gI M r 4) :: st) M) : Go w f pc L (rv w r :: st) M := g_getf (Cn := RX0) (T := TX0) (N := 5) 0 4 (by decide) rfl (by decide) inX0 C lk hr rfl d k
theorem pf_0_4 {i r : Nat} {x : Int32} (C : Cx w f own cc nL lev) (lk : Jvm.Cond.fieldLink own i (TX0 4).1 (TX0 4).2.1 (TX0 4).2.2.1 ∈ lw_g) (hr : kd r = 1) (d : decode cc pc = .ok (.putfield i, 3)) (k : Go w f (pc + 3) L st (sI M r 4 x)) : Go w f pc L (.int x :: rv w r :: st) M := g_putf (Cn := RX0) (T := TX0) (N := 5) 0 4 (by decide) rfl (by decide) inX0 tyX0 tyX0_ok nmX0 rfl (fun M r => by simp [flds]) (fun M r x => by simp [flds, gI, sI]) (ty := .int) (by decide +kernel) rfl rfl C lk hr d k
theorem gf_2_0 {i r : Nat} (C : Cx w f own cc nL lev) (lk : Jvm.Cond.fieldLink own i (TX2 0).1 (TX2 0).2.1 (TX2 0).2.2.1 ∈ lw_g) (hr : kd r = 3) (d : decode cc pc = .ok (.getfield i, 3)) (k : Go w f (pc + 3) L (.int (gI M r 0) :: st) M) : Go w f pc L (rv w r :: st) M := g_getf (Cn := RX2) (T := TX2) (N := 7) 2 0 (by decide) rfl (by decide) inX2 C lk hr rfl d k
theorem pf_2_0 {i r : Nat} {x : Int32} (C : Cx w f own cc nL lev) (lk : Jvm.Cond.fieldLink own i (TX2 0).1 (TX2 0).2.1 (TX2 0).2.2.1 ∈ lw_g) (hr : kd r = 3) (d : decode cc pc = .ok (.putfield i, 3)) (k : Go w f (pc + 3) L st (sI M r 0 x)) : Go w f pc L (.int x :: rv w r :: st) M := g_putf (Cn := RX2) (T := TX2) (N := 7) 2 0 (by decide) rfl (by decide) inX2 tyX2 tyX2_ok nmX2 rfl (fun M r => by simp [flds]) (fun M r x => by simp [flds, gI, sI]) (ty := .int) (by decide +kernel) rfl rfl C lk hr d k
theorem gf_2_1 {i r : Nat} (C : Cx w f own cc nL lev) (lk : Jvm.Cond.fieldLink own i (TX2 1).1 (TX2 1).2.1 (TX2 1).2.2.1 ∈ lw_g) (hr : kd r = 3) (d : decode cc pc = .ok (.getfield i, 3)) (k : Go w f (pc + 3) L (.int (gI M r 1) :: st) M) : Go w f pc L (rv w r :: st) M := g_getf (Cn := RX2) (T := TX2) (N := 7) 2 1 (by decide) rfl (by decide) inX2 C lk hr rfl d k
theorem pf_2_1 {i r : Nat} {x : Int32} (C : Cx w f own cc nL lev) (lk : Jvm.Cond.fieldLink own i (TX2 1).1 (TX2 1).2.1 (TX2 1).2.2.1 ∈ lw_g) (hr : kd r = 3) (d : decode cc pc = .ok (.putfield i, 3)) (k : Go w f (pc + 3) L st (sI M r 1 x)) : Go w f pc L (.int x :: rv w r :: st) M := g_putf (Cn := RX2) (T := TX2) (N := 7) 2 1 (by decide) rfl (by decide) inX2 tyX2 tyX2_ok nmX2 rfl (fun M r => by simp [flds]) (fun M r x => by simp [flds, gI, sI]) (ty := .int) (by decide +kernel) rfl rfl C lk hr d k
theorem gf_2_2 {i r : Nat} (C : Cx w f own cc nL lev) (lk : Jvm.Cond.fieldLink own i (TX2 2).1 (TX2 2).2.1 (TX2 2).2.2.1 ∈ lw_g) (hr : kd r = 3) (d : decode cc pc = .ok (.getfield i, 3)) (k : Go w f (pc + 3) L (.int (gI M r 2) :: st) M) : Go w f pc L (rv w r :: st) M := g_getf (Cn := RX2) (T := TX2) (N := 7) 2 2 (by decide) rfl (by decide) inX2 C lk hr rfl d k
theorem pf_2_2 {i r : Nat} {x : Int32} (C : Cx w f own cc nL lev) (lk : Jvm.Cond.fieldLink own i (TX2 2).1 (TX2 2).2.1 (TX2 2).2.2.1 ∈ lw_g) (hr : kd r = 3) (hb : isb x = true) (d : decode cc pc = .ok (.putfield i, 3)) (k : Go w f (pc + 3) L st (sI M r 2 x)) : Go w f pc L (.int x :: rv w r :: st) M := g_putf (Cn := RX2) (T := TX2) (N := 7) 2 2 (by decide) rfl (by decide) inX2 tyX2 tyX2_ok nmX2 rfl (fun M r => by simp [flds]) (fun M r x => by simp [flds, gI, sI]) (ty := .boolean) (by decide +kernel) (nb_use hb) (fb_use hb) C lk hr d k
theorem gf_2_3 {i r : Nat} (C : Cx w f own cc nL lev) (lk : Jvm.Cond.fieldLink own i (TX2 3).1 (TX2 3).2.1 (TX2 3).2.2.1 ∈ lw_g) (hr : kd r = 3) (d : decode cc pc = .ok (.getfield i, 3)) (k : Go w f (pc + 3) L (.int (gI M r 3) :: st) M) : Go w f pc L (rv w r :: st) M := g_getf (Cn := RX2) (T := TX2) (N := 7) 2 3 (by decide) rfl (by decide) inX2 C lk hr rfl d k
theorem pf_2_3 {i r : Nat} {x : Int32} (C : Cx w f own cc nL lev) (lk : Jvm.Cond.fieldLink own i (TX2 3).1 (TX2 3).2.1 (TX2 3).2.2.1 ∈ lw_g) (hr : kd r = 3) (d : decode cc pc = .ok (.putfield i, 3)) (k : Go w f (pc + 3) L st (sI M r 3 x)) : Go w f pc L (.int x :: rv w r :: st) M := g_putf (Cn := RX2) (T := TX2) (N := 7) 2 3 (by decide) rfl (by decide) inX2 tyX2 tyX2_ok nmX2 rfl (fun M r => by simp [flds]) (fun M r x => by simp [flds, gI, sI]) (ty := .int) (by decide +kernel) rfl rfl C lk hr d k
theorem gf_2_4 {i r : Nat} (C : Cx w f own cc nL lev) (lk : Jvm.Cond.fieldLink own i (TX2 4).1 (TX2 4).2.1 (TX2 4).2.2.1 ∈ lw_g) (hr : kd r = 3) (d : decode cc pc = .ok (.getfield i, 3)) (k : Go w f (pc + 3) L (.int (gI M r 4) :: st) M) : Go w f pc L (rv w r :: st) M := g_getf (Cn := RX2) (T := TX2) (N := 7) 2 4 (by decide) rfl (by decide) inX2 C lk hr rfl d k
theorem pf_2_4 {i r : Nat} {x : Int32} (C : Cx w f own cc nL lev) (lk : Jvm.Cond.fieldLink own i (TX2 4).1 (TX2 4).2.1 (TX2 4).2.2.1 ∈ lw_g) (hr : kd r = 3) (d : decode cc pc = .ok (.putfield i, 3)) (k : Go w f (pc + 3) L st (sI M r 4 x)) : Go w f pc L (.int x :: rv w r :: st) M := g_putf (Cn := RX2) (T := TX2) (N := 7) 2 4 (by decide) rfl (by decide) inX2 tyX2 tyX2_ok nmX2 rfl (fun M r => by simp [flds]) (fun M r x => by simp [flds, gI, sI]) (ty := .int) (by decide +kernel) rfl rfl C lk hr d k
theorem gf_2_5 {i r : Nat} (C : Cx w f own cc nL lev) (lk : Jvm.Cond.fieldLink own i (TX2 5).1 (TX2 5).2.1 (TX2 5).2.2.1 ∈ lw_g) (hr : kd r = 3) (d : decode cc pc = .ok (.getfield i, 3)) (k : Go w f (pc + 3) L (.int (gI M r 5) :: st) M) : Go w f pc L (rv w r :: st) M := g_getf (Cn := RX2) (T := TX2) (N := 7) 2 5 (by decide) rfl (by decide) inX2 C lk hr rfl d k
theorem pf_2_5 {i r : Nat} {x : Int32} (C : Cx w f own cc nL lev) (lk : Jvm.Cond.fieldLink own i (TX2 5).1 (TX2 5).2.1 (TX2 5).2.2.1 ∈ lw_g) (hr : kd r = 3) (hb : isb x = true) (d : decode cc pc = .ok (.putfield i, 3)) (k : Go w f (pc + 3) L st (sI M r 5 x)) : Go w f pc L (.int x :: rv w r :: st) M := g_putf (Cn := RX2) (T := TX2) (N := 7) 2 5 (by decide) rfl (by decide) inX2 tyX2 tyX2_ok nmX2 rfl (fun M r => by simp [flds]) (fun M r x => by simp [flds, gI, sI]) (ty := .boolean) (by decide +kernel) (nb_use hb) (fb_use hb) C lk hr d k
theorem gf_2_6 {i r : Nat} (C : Cx w f own cc nL lev) (lk : Jvm.Cond.fieldLink own i (TX2 6).1 (TX2 6).2.1 (TX2 6).2.2.1 ∈ lw_g) (hr : kd r = 3) (d : decode cc pc = .ok (.getfield i, 3)) (k : Go w f (pc + 3) L (.int (gI M r 6) :: st) M) : Go w f pc L (rv w r :: st) M := g_getf (Cn := RX2) (T := TX2) (N := 7) 2 6 (by decide) rfl (by decide) inX2 C lk hr rfl d k
theorem pf_2_6 {i r : Nat} {x : Int32} (C : Cx w f own cc nL lev) (lk : Jvm.Cond.fieldLink own i (TX2 6).1 (TX2 6).2.1 (TX2 6).2.2.1 ∈ lw_g) (hr : kd r = 3) (hb : isb x = true) (d : decode cc pc = .ok (.putfield i, 3)) (k : Go w f (pc + 3) L st (sI M r 6 x)) : Go w f pc L (.int x :: rv w r :: st) M := g_putf (Cn := RX2) (T := TX2) (N := 7) 2 6 (by decide) rfl (by decide) inX2 tyX2 tyX2_ok nmX2 rfl (fun M r => by simp [flds]) (fun M r x => by simp [flds, gI, sI]) (ty := .boolean) (by decide +kernel) (nb_use hb) (fb_use hb) C lk hr d k
theorem gf_4_0 {i r : Nat} (C : Cx w f own cc nL lev) (lk : Jvm.Cond.fieldLink own i (TX4 0).1 (TX4 0).2.1 (TX4 0).2.2.1 ∈ lw_g) (hr : kd r = 5) (d : decode cc pc = .ok (.getfield i, 3)) (k : Go w f (pc + 3) L (rv w (fld r 0) :: st) M) : Go w f pc L (rv w r :: st) M := g_getf (Cn := RX4) (T := TX4) (N := 9) 4 0 (by decide) rfl (by decide) inX4 C lk hr rfl d k
theorem gf_4_1 {i r : Nat} (C : Cx w f own cc nL lev) (lk : Jvm.Cond.fieldLink own i (TX4 1).1 (TX4 1).2.1 (TX4 1).2.2.1 ∈ lw_g) (hr : kd r = 5) (d : decode cc pc = .ok (.getfield i, 3)) (k : Go w f (pc + 3) L (rv w (fld r 1) :: st) M) : Go w f pc L (rv w r :: st) M := g_getf (Cn := RX4) (T := TX4) (N := 9) 4 1 (by decide) rfl (by decide) inX4 C lk hr rfl d k
theorem gf_4_2 {i r : Nat} (C : Cx w f own cc nL lev) (lk : Jvm.Cond.fieldLink own i (TX4 2).1 (TX4 2).2.1 (TX4 2).2.2.1 ∈ lw_g) (hr : kd r = 5) (d : decode cc pc = .ok (.getfield i, 3)) (k : Go w f (pc + 3) L (rv w (fld r 2) :: st) M) : Go w f pc L (rv w r :: st) M := g_getf (Cn := RX4) (T := TX4) (N := 9) 4 2 (by decide) rfl (by decide) inX4 C lk hr rfl d k
theorem gf_4_3 {i r : Nat} (C : Cx w f own cc nL lev) (lk : Jvm.Cond.fieldLink own i (TX4 3).1 (TX4 3).2.1 (TX4 3).2.2.1 ∈ lw_g) (hr : kd r = 5) (d : decode cc pc = .ok (.getfield i, 3)) (k : Go w f (pc + 3) L (rv w (fld r 3) :: st) M) : Go w f pc L (rv w r :: st) M := g_getf (Cn := RX4) (T := TX4) (N := 9) 4 3 (by decide) rfl (by decide) inX4 C lk hr rfl d k
theorem gf_4_4 {i r : Nat} (C : Cx w f own cc nL lev) (lk : Jvm.Cond.fieldLink own i (TX4 4).1 (TX4 4).2.1 (TX4 4).2.2.1 ∈ lw_g) (hr : kd r = 5) (d : decode cc pc = .ok (.getfield i, 3)) (k : Go w f (pc + 3) L (.int (gI M r 4) :: st) M) : Go w f pc L (rv w r :: st) M := g_getf (Cn := RX4) (T := TX4) (N := 9) 4 4 (by decide) rfl (by decide) inX4 C lk hr rfl d k
theorem pf_4_4 {i r : Nat} {x : Int32} (C : Cx w f own cc nL lev) (lk : Jvm.Cond.fieldLink own i (TX4 4).1 (TX4 4).2.1 (TX4 4).2.2.1 ∈ lw_g) (hr : kd r = 5) (d : decode cc pc = .ok (.putfield i, 3)) (k : Go w f (pc + 3) L st (sI M r 4 x)) : Go w f pc L (.int x :: rv w r :: st) M := g_putf (Cn := RX4) (T := TX4) (N := 9) 4 4 (by decide) rfl (by decide) inX4 tyX4 tyX4_ok nmX4 rfl (fun M r => by simp [flds]) (fun M r x => by simp [flds, gI, sI]) (ty := .int) (by decide +kernel) rfl rfl C lk hr d k
theorem gf_4_5 {i r : Nat} (C : Cx w f own cc nL lev) (lk : Jvm.Cond.fieldLink own i (TX4 5).1 (TX4 5).2.1 (TX4 5).2.2.1 ∈ lw_g) (hr : kd r = 5) (d : decode cc pc = .ok (.getfield i, 3)) (k : Go w f (pc + 3) L (.int (gI M r 5) :: st) M) : Go w f pc L (rv w r :: st) M := g_getf (Cn := RX4) (T := TX4) (N := 9) 4 5 (by decide) rfl (by decide) inX4 C lk hr rfl d k
theorem pf_4_5 {i r : Nat} {x : Int32} (C : Cx w f own cc nL lev) (lk : Jvm.Cond.fieldLink own i (TX4 5).1 (TX4 5).2.1 (TX4 5).2.2.1 ∈ lw_g) (hr : kd r = 5) (d : decode cc pc = .ok (.putfield i, 3)) (k : Go w f (pc + 3) L st (sI M r 5 x)) : Go w f pc L (.int x :: rv w r :: st) M := g_putf (Cn := RX4) (T := TX4) (N := 9) 4 5 (by decide) rfl (by decide) inX4 tyX4 tyX4_ok nmX4 rfl (fun M r => by simp [flds]) (fun M r x => by simp [flds, gI, sI]) (ty := .int) (by decide +kernel) rfl rfl C lk hr d k
theorem gf_4_6 {i r : Nat} (C : Cx w f own cc nL lev) (lk : Jvm.Cond.fieldLink own i (TX4 6).1 (TX4 6).2.1 (TX4 6).2.2.1 ∈ lw_g) (hr : kd r = 5) (d : decode cc pc = .ok (.getfield i, 3)) (k : Go w f (pc + 3) L (.int (gI M r 6) :: st) M) : Go w f pc L (rv w r :: st) M := g_getf (Cn := RX4) (T := TX4) (N := 9) 4 6 (by decide) rfl (by decide) inX4 C lk hr rfl d k
theorem pf_4_6 {i r : Nat} {x : Int32} (C : Cx w f own cc nL lev) (lk : Jvm.Cond.fieldLink own i (TX4 6).1 (TX4 6).2.1 (TX4 6).2.2.1 ∈ lw_g) (hr : kd r = 5) (d : decode cc pc = .ok (.putfield i, 3)) (k : Go w f (pc + 3) L st (sI M r 6 x)) : Go w f pc L (.int x :: rv w r :: st) M := g_putf (Cn := RX4) (T := TX4) (N := 9) 4 6 (by decide) rfl (by decide) inX4 tyX4 tyX4_ok nmX4 rfl (fun M r => by simp [flds]) (fun M r x => by simp [flds, gI, sI]) (ty := .int) (by decide +kernel) rfl rfl C lk hr d k
theorem gf_4_7 {i r : Nat} (C : Cx w f own cc nL lev) (lk : Jvm.Cond.fieldLink own i (TX4 7).1 (TX4 7).2.1 (TX4 7).2.2.1 ∈ lw_g) (hr : kd r = 5) (d : decode cc pc = .ok (.getfield i, 3)) (k : Go w f (pc + 3) L (.int (gI M r 7) :: st) M) : Go w f pc L (rv w r :: st) M := g_getf (Cn := RX4) (T := TX4) (N := 9) 4 7 (by decide) rfl (by decide) inX4 C lk hr rfl d k
theorem pf_4_7 {i r : Nat} {x : Int32} (C : Cx w f own cc nL lev) (lk : Jvm.Cond.fieldLink own i (TX4 7).1 (TX4 7).2.1 (TX4 7).2.2.1 ∈ lw_g) (hr : kd r = 5) (d : decode cc pc = .ok (.putfield i, 3)) (k : Go w f (pc + 3) L st (sI M r 7 x)) : Go w f pc L (.int x :: rv w r :: st) M := g_putf (Cn := RX4) (T := TX4) (N := 9) 4 7 (by decide) rfl (by decide) inX4 tyX4 tyX4_ok nmX4 rfl (fun M r => by simp [flds]) (fun M r x => by simp [flds, gI, sI]) (ty := .int) (by decide +kernel) rfl rfl C lk hr d k
theorem gf_4_8 {i r : Nat} (C : Cx w f own cc nL lev) (lk : Jvm.Cond.fieldLink own i (TX4 8).1 (TX4 8).2.1 (TX4 8).2.2.1 ∈ lw_g) (hr : kd r = 5) (d : decode cc pc = .ok (.getfield i, 3)) (k : Go w f (pc + 3) L (.int (gI M r 8) :: st) M) : Go w f pc L (rv w r :: st) M := g_getf (Cn := RX4) (T := TX4) (N := 9) 4 8 (by decide) rfl (by decide) inX4 C lk hr rfl d k
theorem pf_4_8 {i r : Nat} {x : Int32} (C : Cx w f own cc nL lev) (lk : Jvm.Cond.fieldLink own i (TX4 8).1 (TX4 8).2.1 (TX4 8).2.2.1 ∈ lw_g) (hr : kd r = 5) (d : decode cc pc = .ok (.putfield i, 3)) (k : Go w f (pc + 3) L st (sI M r 8 x)) : Go w f pc L (.int x :: rv w r :: st) M := g_putf (Cn := RX4) (T := TX4) (N := 9) 4 8 (by decide) rfl (by decide) inX4 tyX4 tyX4_ok nmX4 rfl (fun M r => by simp [flds]) (fun M r x => by simp [flds, gI, sI]) (ty := .int) (by decide +kernel) rfl rfl C lk hr d k
theorem gf_1_0 {i r : Nat} (C : Cx w f own cc nL lev) (lk : Jvm.Cond.fieldLink own i (TX1 0).1 (TX1 0).2.1 (TX1 0).2.2.1 ∈ lw_g) (hr : kd r = 2) (d : decode cc pc = .ok (.getfield i, 3)) (k : Go w f (pc + 3) L (rv w (fld r 0) :: st) M) : Go w f pc L (rv w r :: st) M := g_getf (Cn := RX1) (T := TX1) (N := 2) 1 0 (by decide) rfl (by decide) inX1 C lk hr rfl d k
theorem gf_1_1 {i r : Nat} (C : Cx w f own cc nL lev) (lk : Jvm.Cond.fieldLink own i (TX1 1).1 (TX1 1).2.1 (TX1 1).2.2.1 ∈ lw_g) (hr : kd r = 2) (d : decode cc pc = .ok (.getfield i, 3)) (k : Go w f (pc + 3) L (.int (gI M r 1) :: st) M) : Go w f pc L (rv w r :: st) M := g_getf (Cn := RX1) (T := TX1) (N := 2) 1 1 (by decide) rfl (by decide) inX1 C lk hr rfl d k
theorem pf_1_1 {i r : Nat} {x : Int32} (C : Cx w f own cc nL lev) (lk : Jvm.Cond.fieldLink own i (TX1 1).1 (TX1 1).2.1 (TX1 1).2.2.1 ∈ lw_g) (hr : kd r = 2) (d : decode cc pc = .ok (.putfield i, 3)) (k : Go w f (pc + 3) L st (sI M r 1 x)) : Go w f pc L (.int x :: rv w r :: st) M := g_putf (Cn := RX1) (T := TX1) (N := 2) 1 1 (by decide) rfl (by decide) inX1 tyX1 tyX1_ok nmX1 rfl (fun M r => by simp [flds]) (fun M r x => by simp [flds, gI, sI]) (ty := .int) (by decide +kernel) rfl rfl C lk hr d k
theorem gf_3_0 {i r : Nat} (C : Cx w f own cc nL lev) (lk : Jvm.Cond.fieldLink own i (TX3 0).1 (TX3 0).2.1 (TX3 0).2.2.1 ∈ lw_g) (hr : kd r = 4) (d : decode cc pc = .ok (.getfield i, 3)) (k : Go w f (pc + 3) L (rv w (fld r 0) :: st) M) : Go w f pc L (rv w r :: st) M := g_getf (Cn := RX3) (T := TX3) (N := 7) 3 0 (by decide) rfl (by decide) inX3 C lk hr rfl d k
theorem gf_3_1 {i r : Nat} (C : Cx w f own cc nL lev) (lk : Jvm.Cond.fieldLink own i (TX3 1).1 (TX3 1).2.1 (TX3 1).2.2.1 ∈ lw_g) (hr : kd r = 4) (d : decode cc pc = .ok (.getfield i, 3)) (k : Go w f (pc + 3) L (rv w (fld r 1) :: st) M) : Go w f pc L (rv w r :: st) M := g_getf (Cn := RX3) (T := TX3) (N := 7) 3 1 (by decide) rfl (by decide) inX3 C lk hr rfl d k
theorem gf_3_2 {i r : Nat} (C : Cx w f own cc nL lev) (lk : Jvm.Cond.fieldLink own i (TX3 2).1 (TX3 2).2.1 (TX3 2).2.2.1 ∈ lw_g) (hr : kd r = 4) (d : decode cc pc = .ok (.getfield i, 3)) (k : Go w f (pc + 3) L (rv w (fld r 2) :: st) M) : Go w f pc L (rv w r :: st) M := g_getf (Cn := RX3) (T := TX3) (N := 7) 3 2 (by decide) rfl (by decide) inX3 C lk hr rfl d k
theorem gf_3_3 {i r : Nat} (C : Cx w f own cc nL lev) (lk : Jvm.Cond.fieldLink own i (TX3 3).1 (TX3 3).2.1 (TX3 3).2.2.1 ∈ lw_g) (hr : kd r = 4) (d : decode cc pc = .ok (.getfield i, 3)) (k : Go w f (pc + 3) L (rv w (fld r 3) :: st) M) : Go w f pc L (rv w r :: st) M := g_getf (Cn := RX3) (T := TX3) (N := 7) 3 3 (by decide) rfl (by decide) inX3 C lk hr rfl d k
theorem gf_3_4 {i r : Nat} (C : Cx w f own cc nL lev) (lk : Jvm.Cond.fieldLink own i (TX3 4).1 (TX3 4).2.1 (TX3 4).2.2.1 ∈ lw_g) (hr : kd r = 4) (d : decode cc pc = .ok (.getfield i, 3)) (k : Go w f (pc + 3) L (.int (gI M r 4) :: st) M) : Go w f pc L (rv w r :: st) M := g_getf (Cn := RX3) (T := TX3) (N := 7) 3 4 (by decide) rfl (by decide) inX3 C lk hr rfl d k
theorem pf_3_4 {i r : Nat} {x : Int32} (C : Cx w f own cc nL lev) (lk : Jvm.Cond.fieldLink own i (TX3 4).1 (TX3 4).2.1 (TX3 4).2.2.1 ∈ lw_g) (hr : kd r = 4) (d : decode cc pc = .ok (.putfield i, 3)) (k : Go w f (pc + 3) L st (sI M r 4 x)) : Go w f pc L (.int x :: rv w r :: st) M := g_putf (Cn := RX3) (T := TX3) (N := 7) 3 4 (by decide) rfl (by decide) inX3 tyX3 tyX3_ok nmX3 rfl (fun M r => by simp [flds]) (fun M r x => by simp [flds, gI, sI]) (ty := .int) (by decide +kernel) rfl rfl C lk hr d k
theorem gf_3_5 {i r : Nat} (C : Cx w f own cc nL lev) (lk : Jvm.Cond.fieldLink own i (TX3 5).1 (TX3 5).2.1 (TX3 5).2.2.1 ∈ lw_g) (hr : kd r = 4) (d : decode cc pc = .ok (.getfield i, 3)) (k : Go w f (pc + 3) L (.int (gI M r 5) :: st) M) : Go w f pc L (rv w r :: st) M := g_getf (Cn := RX3) (T := TX3) (N := 7) 3 5 (by decide) rfl (by decide) inX3 C lk hr rfl d k
theorem pf_3_5 {i r : Nat} {x : Int32} (C : Cx w f own cc nL lev) (lk : Jvm.Cond.fieldLink own i (TX3 5).1 (TX3 5).2.1 (TX3 5).2.2.1 ∈ lw_g) (hr : kd r = 4) (d : decode cc pc = .ok (.putfield i, 3)) (k : Go w f (pc + 3) L st (sI M r 5 x)) : Go w f pc L (.int x :: rv w r :: st) M := g_putf (Cn := RX3) (T := TX3) (N := 7) 3 5 (by decide) rfl (by decide) inX3 tyX3 tyX3_ok nmX3 rfl (fun M r => by simp [flds]) (fun M r x => by simp [flds, gI, sI]) (ty := .int) (by decide +kernel) rfl rfl C lk hr d k
theorem gf_3_6 {i r : Nat} (C : Cx w f own cc nL lev) (lk : Jvm.Cond.fieldLink own i (TX3 6).1 (TX3 6).2.1 (TX3 6).2.2.1 ∈ lw_g) (hr : kd r = 4) (d : decode cc pc = .ok (.getfield i, 3)) (k : Go w f (pc + 3) L (.int (gI M r 6) :: st) M) : Go w f pc L (rv w r :: st) M := g_getf (Cn := RX3) (T := TX3) (N := 7) 3 6 (by decide) rfl (by decide) inX3 C lk hr rfl d k
theorem pf_3_6 {i r : Nat} {x : Int32} (C : Cx w f own cc nL lev) (lk : Jvm.Cond.fieldLink own i (TX3 6).1 (TX3 6).2.1 (TX3 6).2.2.1 ∈ lw_g) (hr : kd r = 4) (d : decode cc pc = .ok (.putfield i, 3)) (k : Go w f (pc + 3) L st (sI M r 6 x)) : Go w f pc L (.int x :: rv w r :: st) M := g_putf (Cn := RX3) (T := TX3) (N := 7) 3 6 (by decide) rfl (by decide) inX3 tyX3 tyX3_ok nmX3 rfl (fun M r => by simp [flds]) (fun M r x => by simp [flds, gI, sI]) (ty := .int) (by decide +kernel) rfl rfl C lk hr d k
theorem gf_5_0 {i r : Nat} (C : Cx w f own cc nL lev) (lk : Jvm.Cond.fieldLink own i (TX5 0).1 (TX5 0).2.1 (TX5 0).2.2.1 ∈ lw_g) (hr : kd r = 6) (d : decode cc pc = .ok (.getfield i, 3)) (k : Go w f (pc + 3) L (rv w (fld r 0) :: st) M) : Go w f pc L (rv w r :: st) M := g_getf (Cn := RX5) (T := TX5) (N := 12) 5 0 (by decide) rfl (by decide) inX5 C lk hr rfl d k
theorem gf_5_1 {i r : Nat} (C : Cx w f own cc nL lev) (lk : Jvm.Cond.fieldLink own i (TX5 1).1 (TX5 1).2.1 (TX5 1).2.2.1 ∈ lw_g) (hr : kd r = 6) (d : decode cc pc = .ok (.getfield i, 3)) (k : Go w f (pc + 3) L (rv w (fld r 1) :: st) M) : Go w f pc L (rv w r :: st) M := g_getf (Cn := RX5) (T := TX5) (N := 12) 5 1 (by decide) rfl (by decide) inX5 C lk hr rfl d k
theorem gf_5_2 {i r : Nat} (C : Cx w f own cc nL lev) (lk : Jvm.Cond.fieldLink own i (TX5 2).1 (TX5 2).2.1 (TX5 2).2.2.1 ∈ lw_g) (hr : kd r = 6) (d : decode cc pc = .ok (.getfield i, 3)) (k : Go w f (pc + 3) L (rv w (fld r 2) :: st) M) : Go w f pc L (rv w r :: st) M := g_getf (Cn := RX5) (T := TX5) (N := 12) 5 2 (by decide) rfl (by decide) inX5 C lk hr rfl d k
theorem gf_5_3 {i r : Nat} (C : Cx w f own cc nL lev) (lk : Jvm.Cond.fieldLink own i (TX5 3).1 (TX5 3).2.1 (TX5 3).2.2.1 ∈ lw_g) (hr : kd r = 6) (d : decode cc pc = .ok (.getfield i, 3)) (k : Go w f (pc + 3) L (rv w (fld r 3) :: st) M) : Go w f pc L (rv w r :: st) M := g_getf (Cn := RX5) (T := TX5) (N := 12) 5 3 (by decide) rfl (by decide) inX5 C lk hr rfl d k
theorem gf_5_4 {i r : Nat} (C : Cx w f own cc nL lev) (lk : Jvm.Cond.fieldLink own i (TX5 4).1 (TX5 4).2.1 (TX5 4).2.2.1 ∈ lw_g) (hr : kd r = 6) (d : decode cc pc = .ok (.getfield i, 3)) (k : Go w f (pc + 3) L (rv w (fld r 4) :: st) M) : Go w f pc L (rv w r :: st) M := g_getf (Cn := RX5) (T := TX5) (N := 12) 5 4 (by decide) rfl (by decide) inX5 C lk hr rfl d k
theorem gf_5_5 {i r : Nat} (C : Cx w f own cc nL lev) (lk : Jvm.Cond.fieldLink own i (TX5 5).1 (TX5 5).2.1 (TX5 5).2.2.1 ∈ lw_g) (hr : kd r = 6) (d : decode cc pc = .ok (.getfield i, 3)) (k : Go w f (pc + 3) L (rv w (fld r 5) :: st) M) : Go w f pc L (rv w r :: st) M := g_getf (Cn := RX5) (T := TX5) (N := 12) 5 5 (by decide) rfl (by decide) inX5 C lk hr rfl d k
theorem gf_5_6 {i r : Nat} (C : Cx w f own cc nL lev) (lk : Jvm.Cond.fieldLink own i (TX5 6).1 (TX5 6).2.1 (TX5 6).2.2.1 ∈ lw_g) (hr : kd r = 6) (d : decode cc pc = .ok (.getfield i, 3)) (k : Go w f (pc + 3) L (.int (gI M r 6) :: st) M) : Go w f pc L (rv w r :: st) M := g_getf (Cn := RX5) (T := TX5) (N := 12) 5 6 (by decide) rfl (by decide) inX5 C lk hr rfl d k
theorem pf_5_6 {i r : Nat} {x : Int32} (C : Cx w f own cc nL lev) (lk : Jvm.Cond.fieldLink own i (TX5 6).1 (TX5 6).2.1 (TX5 6).2.2.1 ∈ lw_g) (hr : kd r = 6) (hb : isb x = true) (d : decode cc pc = .ok (.putfield i, 3)) (k : Go w f (pc + 3) L st (sI M r 6 x)) : Go w f pc L (.int x :: rv w r :: st) M := g_putf (Cn := RX5) (T := TX5) (N := 12) 5 6 (by decide) rfl (by decide) inX5 tyX5 tyX5_ok nmX5 rfl (fun M r => by simp [flds]) (fun M r x => by simp [flds, gI, sI]) (ty := .boolean) (by decide +kernel) (nb_use hb) (fb_use hb) C lk hr d k
theorem gf_5_7 {i r : Nat} (C : Cx w f own cc nL lev) (lk : Jvm.Cond.fieldLink own i (TX5 7).1 (TX5 7).2.1 (TX5 7).2.2.1 ∈ lw_g) (hr : kd r = 6) (d : decode cc pc = .ok (.getfield i, 3)) (k : Go w f (pc + 3) L (.int (gI M r 7) :: st) M) : Go w f pc L (rv w r :: st) M := g_getf (Cn := RX5) (T := TX5) (N := 12) 5 7 (by decide) rfl (by decide) inX5 C lk hr rfl d k
theorem pf_5_7 {i r : Nat} {x : Int32} (C : Cx w f own cc nL lev) (lk : Jvm.Cond.fieldLink own i (TX5 7).1 (TX5 7).2.1 (TX5 7).2.2.1 ∈ lw_g) (hr : kd r = 6) (d : decode cc pc = .ok (.putfield i, 3)) (k : Go w f (pc + 3) L st (sI M r 7 x)) : Go w f pc L (.int x :: rv w r :: st) M := g_putf (Cn := RX5) (T := TX5) (N := 12) 5 7 (by decide) rfl (by decide) inX5 tyX5 tyX5_ok nmX5 rfl (fun M r => by simp [flds]) (fun M r x => by simp [flds, gI, sI]) (ty := .int) (by decide +kernel) rfl rfl C lk hr d k
theorem gf_5_8 {i r : Nat} (C : Cx w f own cc nL lev) (lk : Jvm.Cond.fieldLink own i (TX5 8).1 (TX5 8).2.1 (TX5 8).2.2.1 ∈ lw_g) (hr : kd r = 6) (d : decode cc pc = .ok (.getfield i, 3)) (k : Go w f (pc + 3) L (.int (gI M r 8) :: st) M) : Go w f pc L (rv w r :: st) M := g_getf (Cn := RX5) (T := TX5) (N := 12) 5 8 (by decide) rfl (by decide) inX5 C lk hr rfl d k
theorem pf_5_8 {i r : Nat} {x : Int32} (C : Cx w f own cc nL lev) (lk : Jvm.Cond.fieldLink own i (TX5 8).1 (TX5 8).2.1 (TX5 8).2.2.1 ∈ lw_g) (hr : kd r = 6) (hb : isb x = true) (d : decode cc pc = .ok (.putfield i, 3)) (k : Go w f (pc + 3) L st (sI M r 8 x)) : Go w f pc L (.int x :: rv w r :: st) M := g_putf (Cn := RX5) (T := TX5) (N := 12) 5 8 (by decide) rfl (by decide) inX5 tyX5 tyX5_ok nmX5 rfl (fun M r => by simp [flds]) (fun M r x => by simp [flds, gI, sI]) (ty := .boolean) (by decide +kernel) (nb_use hb) (fb_use hb) C lk hr d k
theorem gf_5_9 {i r : Nat} (C : Cx w f own cc nL lev) (lk : Jvm.Cond.fieldLink own i (TX5 9).1 (TX5 9).2.1 (TX5 9).2.2.1 ∈ lw_g) (hr : kd r = 6) (d : decode cc pc = .ok (.getfield i, 3)) (k : Go w f (pc + 3) L (.int (gI M r 9) :: st) M) : Go w f pc L (rv w r :: st) M := g_getf (Cn := RX5) (T := TX5) (N := 12) 5 9 (by decide) rfl (by decide) inX5 C lk hr rfl d k
theorem pf_5_9 {i r : Nat} {x : Int32} (C : Cx w f own cc nL lev) (lk : Jvm.Cond.fieldLink own i (TX5 9).1 (TX5 9).2.1 (TX5 9).2.2.1 ∈ lw_g) (hr : kd r = 6) (d : decode cc pc = .ok (.putfield i, 3)) (k : Go w f (pc + 3) L st (sI M r 9 x)) : Go w f pc L (.int x :: rv w r :: st) M := g_putf (Cn := RX5) (T := TX5) (N := 12) 5 9 (by decide) rfl (by decide) inX5 tyX5 tyX5_ok nmX5 rfl (fun M r => by simp [flds]) (fun M r x => by simp [flds, gI, sI]) (ty := .int) (by decide +kernel) rfl rfl C lk hr d k
theorem gf_5_10 {i r : Nat} (C : Cx w f own cc nL lev) (lk : Jvm.Cond.fieldLink own i (TX5 10).1 (TX5 10).2.1 (TX5 10).2.2.1 ∈ lw_g) (hr : kd r = 6) (d : decode cc pc = .ok (.getfield i, 3)) (k : Go w f (pc + 3) L (.int (gI M r 10) :: st) M) : Go w f pc L (rv w r :: st) M := g_getf (Cn := RX5) (T := TX5) (N := 12) 5 10 (by decide) rfl (by decide) inX5 C lk hr rfl d k
theorem pf_5_10 {i r : Nat} {x : Int32} (C : Cx w f own cc nL lev) (lk : Jvm.Cond.fieldLink own i (TX5 10).1 (TX5 10).2.1 (TX5 10).2.2.1 ∈ lw_g) (hr : kd r = 6) (d : decode cc pc = .ok (.putfield i, 3)) (k : Go w f (pc + 3) L st (sI M r 10 x)) : Go w f pc L (.int x :: rv w r :: st) M := g_putf (Cn := RX5) (T := TX5) (N := 12) 5 10 (by decide) rfl (by decide) inX5 tyX5 tyX5_ok nmX5 rfl (fun M r => by simp [flds]) (fun M r x => by simp [flds, gI, sI]) (ty := .int) (by decide +kernel) rfl rfl C lk hr d k
theorem gf_5_11 {i r : Nat} (C : Cx w f own cc nL lev) (lk : Jvm.Cond.fieldLink own i (TX5 11).1 (TX5 11).2.1 (TX5 11).2.2.1 ∈ lw_g) (hr : kd r = 6) (d : decode cc pc = .ok (.getfield i, 3)) (k : Go w f (pc + 3) L (.int (gI M r 11) :: st) M) : Go w f pc L (rv w r :: st) M := g_getf (Cn := RX5) (T := TX5) (N := 12) 5 11 (by decide) rfl (by decide) inX5 C lk hr rfl d k
theorem pf_5_11 {i r : Nat} {x : Int32} (C : Cx w f own cc nL lev) (lk : Jvm.Cond.fieldLink own i (TX5 11).1 (TX5 11).2.1 (TX5 11).2.2.1 ∈ lw_g) (hr : kd r = 6) (d : decode cc pc = .ok (.putfield i, 3)) (k : Go w f (pc + 3) L st (sI M r 11 x)) : Go w f pc L (.int x :: rv w r :: st) M := g_putf (Cn := RX5) (T := TX5) (N := 12) 5 11 (by decide) rfl (by decide) inX5 tyX5 tyX5_ok nmX5 rfl (fun M r => by simp [flds]) (fun M r x => by simp [flds, gI, sI]) (ty := .int) (by decide +kernel) rfl rfl C lk hr d k
theorem gf_6_0 {i r : Nat} (C : Cx w f own cc nL lev) (lk : Jvm.Cond.fieldLink own i (TX6 0).1 (TX6 0).2.1 (TX6 0).2.2.1 ∈ lw_g) (hr : kd r = 7) (d : decode cc pc = .ok (.getfield i, 3)) (k : Go w f (pc + 3) L (rv w (fld r 0) :: st) M) : Go w f pc L (rv w r :: st) M := g_getf (Cn := RX6) (T := TX6) (N := 19) 6 0 (by decide) rfl (by decide) inX6 C lk hr rfl d k
theorem gf_6_1 {i r : Nat} (C : Cx w f own cc nL lev) (lk : Jvm.Cond.fieldLink own i (TX6 1).1 (TX6 1).2.1 (TX6 1).2.2.1 ∈ lw_g) (hr : kd r = 7) (d : decode cc pc = .ok (.getfield i, 3)) (k : Go w f (pc + 3) L (rv w (fld r 1) :: st) M) : Go w f pc L (rv w r :: st) M := g_getf (Cn := RX6) (T := TX6) (N := 19) 6 1 (by decide) rfl (by decide) inX6 C lk hr rfl d k
theorem gf_6_2 {i r : Nat} (C : Cx w f own cc nL lev) (lk : Jvm.Cond.fieldLink own i (TX6 2).1 (TX6 2).2.1 (TX6 2).2.2.1 ∈ lw_g) (hr : kd r = 7) (d : decode cc pc = .ok (.getfield i, 3)) (k : Go w f (pc + 3) L (.int (gI M r 2) :: st) M) : Go w f pc L (rv w r :: st) M := g_getf (Cn := RX6) (T := TX6) (N := 19) 6 2 (by decide) rfl (by decide) inX6 C lk hr rfl d k
theorem pf_6_2 {i r : Nat} {x : Int32} (C : Cx w f own cc nL lev) (lk : Jvm.Cond.fieldLink own i (TX6 2).1 (TX6 2).2.1 (TX6 2).2.2.1 ∈ lw_g) (hr : kd r = 7) (d : decode cc pc = .ok (.putfield i, 3)) (k : Go w f (pc + 3) L st (sI M r 2 x)) : Go w f pc L (.int x :: rv w r :: st) M := g_putf (Cn := RX6) (T := TX6) (N := 19) 6 2 (by decide) rfl (by decide) inX6 tyX6 tyX6_ok nmX6 rfl (fun M r => by simp [flds]) (fun M r x => by simp [flds, gI, sI]) (ty := .int) (by decide +kernel) rfl rfl C lk hr d k
theorem gf_6_3 {i r : Nat} (C : Cx w f own cc nL lev) (lk : Jvm.Cond.fieldLink own i (TX6 3).1 (TX6 3).2.1 (TX6 3).2.2.1 ∈ lw_g) (hr : kd r = 7) (d : decode cc pc = .ok (.getfield i, 3)) (k : Go w f (pc + 3) L (rv w (fld r 3) :: st) M) : Go w f pc L (rv w r :: st) M := g_getf (Cn := RX6) (T := TX6) (N := 19) 6 3 (by decide) rfl (by decide) inX6 C lk hr rfl d k
theorem gf_6_4 {i r : Nat} (C : Cx w f own cc nL lev) (lk : Jvm.Cond.fieldLink own i (TX6 4).1 (TX6 4).2.1 (TX6 4).2.2.1 ∈ lw_g) (hr : kd r = 7) (d : decode cc pc = .ok (.getfield i, 3)) (k : Go w f (pc + 3) L (.int (gI M r 4) :: st) M) : Go w f pc L (rv w r :: st) M := g_getf (Cn := RX6) (T := TX6) (N := 19) 6 4 (by decide) rfl (by decide) inX6 C lk hr rfl d k
theorem pf_6_4 {i r : Nat} {x : Int32} (C : Cx w f own cc nL lev) (lk : Jvm.Cond.fieldLink own i (TX6 4).1 (TX6 4).2.1 (TX6 4).2.2.1 ∈ lw_g) (hr : kd r = 7) (hb : isb x = true) (d : decode cc pc = .ok (.putfield i, 3)) (k : Go w f (pc + 3) L st (sI M r 4 x)) : Go w f pc L (.int x :: rv w r :: st) M := g_putf (Cn := RX6) (T := TX6) (N := 19) 6 4 (by decide) rfl (by decide) inX6 tyX6 tyX6_ok nmX6 rfl (fun M r => by simp [flds]) (fun M r x => by simp [flds, gI, sI]) (ty := .boolean) (by decide +kernel) (nb_use hb) (fb_use hb) C lk hr d k
theorem gf_6_5 {i r : Nat} (C : Cx w f own cc nL lev) (lk : Jvm.Cond.fieldLink own i (TX6 5).1 (TX6 5).2.1 (TX6 5).2.2.1 ∈ lw_g) (hr : kd r = 7) (d : decode cc pc = .ok (.getfield i, 3)) (k : Go w f (pc + 3) L (rv w (fld r 5) :: st) M) : Go w f pc L (rv w r :: st) M := g_getf (Cn := RX6) (T := TX6) (N := 19) 6 5 (by decide) rfl (by decide) inX6 C lk hr rfl d k
theorem gf_6_6 {i r : Nat} (C : Cx w f own cc nL lev) (lk : Jvm.Cond.fieldLink own i (TX6 6).1 (TX6 6).2.1 (TX6 6).2.2.1 ∈ lw_g) (hr : kd r = 7) (d : decode cc pc = .ok (.getfield i, 3)) (k : Go w f (pc + 3) L (.int (gI M r 6) :: st) M) : Go w f pc L (rv w r :: st) M := g_getf (Cn := RX6) (T := TX6) (N := 19) 6 6 (by decide) rfl (by decide) inX6 C lk hr rfl d k
theorem pf_6_6 {i r : Nat} {x : Int32} (C : Cx w f own cc nL lev) (lk : Jvm.Cond.fieldLink own i (TX6 6).1 (TX6 6).2.1 (TX6 6).2.2.1 ∈ lw_g) (hr : kd r = 7) (d : decode cc pc = .ok (.putfield i, 3)) (k : Go w f (pc + 3) L st (sI M r 6 x)) : Go w f pc L (.int x :: rv w r :: st) M := g_putf (Cn := RX6) (T := TX6) (N := 19) 6 6 (by decide) rfl (by decide) inX6 tyX6 tyX6_ok nmX6 rfl (fun M r => by simp [flds]) (fun M r x => by simp [flds, gI, sI]) (ty := .int) (by decide +kernel) rfl rfl C lk hr d k
theorem gf_6_7 {i r : Nat} (C : Cx w f own cc nL lev) (lk : Jvm.Cond.fieldLink own i (TX6 7).1 (TX6 7).2.1 (TX6 7).2.2.1 ∈ lw_g) (hr : kd r = 7) (d : decode cc pc = .ok (.getfield i, 3)) (k : Go w f (pc + 3) L (.int (gI M r 7) :: st) M) : Go w f pc L (rv w r :: st) M := g_getf (Cn := RX6) (T := TX6) (N := 19) 6 7 (by decide) rfl (by decide) inX6 C lk hr rfl d k
theorem pf_6_7 {i r : Nat} {x : Int32} (C : Cx w f own cc nL lev) (lk : Jvm.Cond.fieldLink own i (TX6 7).1 (TX6 7).2.1 (TX6 7).2.2.1 ∈ lw_g) (hr : kd r = 7) (d : decode cc pc = .ok (.putfield i, 3)) (k : Go w f (pc + 3) L st (sI M r 7 x)) : Go w f pc L (.int x :: rv w r :: st) M := g_putf (Cn := RX6) (T := TX6) (N := 19) 6 7 (by decide) rfl (by decide) inX6 tyX6 tyX6_ok nmX6 rfl (fun M r => by simp [flds]) (fun M r x => by simp [flds, gI, sI]) (ty := .int) (by decide +kernel) rfl rfl C lk hr d k
theorem gf_6_8 {i r : Nat} (C : Cx w f own cc nL lev) (lk : Jvm.Cond.fieldLink own i (TX6 8).1 (TX6 8).2.1 (TX6 8).2.2.1 ∈ lw_g) (hr : kd r = 7) (d : decode cc pc = .ok (.getfield i, 3)) (k : Go w f (pc + 3) L (.int (gI M r 8) :: st) M) : Go w f pc L (rv w r :: st) M := g_getf (Cn := RX6) (T := TX6) (N := 19) 6 8 (by decide) rfl (by decide) inX6 C lk hr rfl d k
theorem pf_6_8 {i r : Nat} {x : Int32} (C : Cx w f own cc nL lev) (lk : Jvm.Cond.fieldLink own i (TX6 8).1 (TX6 8).2.1 (TX6 8).2.2.1 ∈ lw_g) (hr : kd r = 7) (hb : isb x = true) (d : decode cc pc = .ok (.putfield i, 3)) (k : Go w f (pc + 3) L st (sI M r 8 x)) : Go w f pc L (.int x :: rv w r :: st) M := g_putf (Cn := RX6) (T := TX6) (N := 19) 6 8 (by decide) rfl (by decide) inX6 tyX6 tyX6_ok nmX6 rfl (fun M r => by simp [flds]) (fun M r x => by simp [flds, gI, sI]) (ty := .boolean) (by decide +kernel) (nb_use hb) (fb_use hb) C lk hr d k
theorem gf_6_9 {i r : Nat} (C : Cx w f own cc nL lev) (lk : Jvm.Cond.fieldLink own i (TX6 9).1 (TX6 9).2.1 (TX6 9).2.2.1 ∈ lw_g) (hr : kd r = 7) (d : decode cc pc = .ok (.getfield i, 3)) (k : Go w f (pc + 3) L (.int (gI M r 9) :: st) M) : Go w f pc L (rv w r :: st) M := g_getf (Cn := RX6) (T := TX6) (N := 19) 6 9 (by decide) rfl (by decide) inX6 C lk hr rfl d k
theorem pf_6_9 {i r : Nat} {x : Int32} (C : Cx w f own cc nL lev) (lk : Jvm.Cond.fieldLink own i (TX6 9).1 (TX6 9).2.1 (TX6 9).2.2.1 ∈ lw_g) (hr : kd r = 7) (d : decode cc pc = .ok (.putfield i, 3)) (k : Go w f (pc + 3) L st (sI M r 9 x)) : Go w f pc L (.int x :: rv w r :: st) M := g_putf (Cn := RX6) (T := TX6) (N := 19) 6 9 (by decide) rfl (by decide) inX6 tyX6 tyX6_ok nmX6 rfl (fun M r => by simp [flds]) (fun M r x => by simp [flds, gI, sI]) (ty := .int) (by decide +kernel) rfl rfl C lk hr d k
theorem gf_6_10 {i r : Nat} (C : Cx w f own cc nL lev) (lk : Jvm.Cond.fieldLink own i (TX6 10).1 (TX6 10).2.1 (TX6 10).2.2.1 ∈ lw_g) (hr : kd r = 7) (d : decode cc pc = .ok (.getfield i, 3)) (k : Go w f (pc + 3) L (.int (gI M r 10) :: st) M) : Go w f pc L (rv w r :: st) M := g_getf (Cn := RX6) (T := TX6) (N := 19) 6 10 (by decide) rfl (by decide) inX6 C lk hr rfl d k
theorem pf_6_10 {i r : Nat} {x : Int32} (C : Cx w f own cc nL lev) (lk : Jvm.Cond.fieldLink own i (TX6 10).1 (TX6 10).2.1 (TX6 10).2.2.1 ∈ lw_g) (hr : kd r = 7) (d : decode cc pc = .ok (.putfield i, 3)) (k : Go w f (pc + 3) L st (sI M r 10 x)) : Go w f pc L (.int x :: rv w r :: st) M := g_putf (Cn := RX6) (T := TX6) (N := 19) 6 10 (by decide) rfl (by decide) inX6 tyX6 tyX6_ok nmX6 rfl (fun M r => by simp [flds]) (fun M r x => by simp [flds, gI, sI]) (ty := .int) (by decide +kernel) rfl rfl C lk hr d k
theorem gf_6_11 {i r : Nat} (C : Cx w f own cc nL lev) (lk : Jvm.Cond.fieldLink own i (TX6 11).1 (TX6 11).2.1 (TX6 11).2.2.1 ∈ lw_g) (hr : kd r = 7) (d : decode cc pc = .ok (.getfield i, 3)) (k : Go w f (pc + 3) L (.int (gI M r 11) :: st) M) : Go w f pc L (rv w r :: st) M := g_getf (Cn := RX6) (T := TX6) (N := 19) 6 11 (by decide) rfl (by decide) inX6 C lk hr rfl d k
theorem pf_6_11 {i r : Nat} {x : Int32} (C : Cx w f own cc nL lev) (lk : Jvm.Cond.fieldLink own i (TX6 11).1 (TX6 11).2.1 (TX6 11).2.2.1 ∈ lw_g) (hr : kd r = 7) (d : decode cc pc = .ok (.putfield i, 3)) (k : Go w f (pc + 3) L st (sI M r 11 x)) : Go w f pc L (.int x :: rv w r :: st) M := g_putf (Cn := RX6) (T := TX6) (N := 19) 6 11 (by decide) rfl (by decide) inX6 tyX6 tyX6_ok nmX6 rfl (fun M r => by simp [flds]) (fun M r x => by simp [flds, gI, sI]) (ty := .int) (by decide +kernel) rfl rfl C lk hr d k
theorem gf_6_12 {i r : Nat} (C : Cx w f own cc nL lev) (lk : Jvm.Cond.fieldLink own i (TX6 12).1 (TX6 12).2.1 (TX6 12).2.2.1 ∈ lw_g) (hr : kd r = 7) (d : decode cc pc = .ok (.getfield i, 3)) (k : Go w f (pc + 3) L (.int (gI M r 12) :: st) M) : Go w f pc L (rv w r :: st) M := g_getf (Cn := RX6) (T := TX6) (N := 19) 6 12 (by decide) rfl (by decide) inX6 C lk hr rfl d k
theorem pf_6_12 {i r : Nat} {x : Int32} (C : Cx w f own cc nL lev) (lk : Jvm.Cond.fieldLink own i (TX6 12).1 (TX6 12).2.1 (TX6 12).2.2.1 ∈ lw_g) (hr : kd r = 7) (d : decode cc pc = .ok (.putfield i, 3)) (k : Go w f (pc + 3) L st (sI M r 12 x)) : Go w f pc L (.int x :: rv w r :: st) M := g_putf (Cn := RX6) (T := TX6) (N := 19) 6 12 (by decide) rfl (by decide) inX6 tyX6 tyX6_ok nmX6 rfl (fun M r => by simp [flds]) (fun M r x => by simp [flds, gI, sI]) (ty := .int) (by decide +kernel) rfl rfl C lk hr d k
theorem gf_6_13 {i r : Nat} (C : Cx w f own cc nL lev) (lk : Jvm.Cond.fieldLink own i (TX6 13).1 (TX6 13).2.1 (TX6 13).2.2.1 ∈ lw_g) (hr : kd r = 7) (d : decode cc pc = .ok (.getfield i, 3)) (k : Go w f (pc + 3) L (.int (gI M r 13) :: st) M) : Go w f pc L (rv w r :: st) M := g_getf (Cn := RX6) (T := TX6) (N := 19) 6 13 (by decide) rfl (by decide) inX6 C lk hr rfl d k
theorem pf_6_13 {i r : Nat} {x : Int32} (C : Cx w f own cc nL lev) (lk : Jvm.Cond.fieldLink own i (TX6 13).1 (TX6 13).2.1 (TX6 13).2.2.1 ∈ lw_g) (hr : kd r = 7) (hb : isb x = true) (d : decode cc pc = .ok (.putfield i, 3)) (k : Go w f (pc + 3) L st (sI M r 13 x)) : Go w f pc L (.int x :: rv w r :: st) M := g_putf (Cn := RX6) (T := TX6) (N := 19) 6 13 (by decide) rfl (by decide) inX6 tyX6 tyX6_ok nmX6 rfl (fun M r => by simp [flds]) (fun M r x => by simp [flds, gI, sI]) (ty := .boolean) (by decide +kernel) (nb_use hb) (fb_use hb) C lk hr d k
theorem gf_6_14 {i r : Nat} (C : Cx w f own cc nL lev) (lk : Jvm.Cond.fieldLink own i (TX6 14).1 (TX6 14).2.1 (TX6 14).2.2.1 ∈ lw_g) (hr : kd r = 7) (d : decode cc pc = .ok (.getfield i, 3)) (k : Go w f (pc + 3) L (.int (gI M r 14) :: st) M) : Go w f pc L (rv w r :: st) M := g_getf (Cn := RX6) (T := TX6) (N := 19) 6 14 (by decide) rfl (by decide) inX6 C lk hr rfl d k
theorem pf_6_14 {i r : Nat} {x : Int32} (C : Cx w f own cc nL lev) (lk : Jvm.Cond.fieldLink own i (TX6 14).1 (TX6 14).2.1 (TX6 14).2.2.1 ∈ lw_g) (hr : kd r = 7) (hb : isb x = true) (d : decode cc pc = .ok (.putfield i, 3)) (k : Go w f (pc + 3) L st (sI M r 14 x)) : Go w f pc L (.int x :: rv w r :: st) M := g_putf (Cn := RX6) (T := TX6) (N := 19) 6 14 (by decide) rfl (by decide) inX6 tyX6 tyX6_ok nmX6 rfl (fun M r => by simp [flds]) (fun M r x => by simp [flds, gI, sI]) (ty := .boolean) (by decide +kernel) (nb_use hb) (fb_use hb) C lk hr d k
theorem gf_6_15 {i r : Nat} (C : Cx w f own cc nL lev) (lk : Jvm.Cond.fieldLink own i (TX6 15).1 (TX6 15).2.1 (TX6 15).2.2.1 ∈ lw_g) (hr : kd r = 7) (d : decode cc pc = .ok (.getfield i, 3)) (k : Go w f (pc + 3) L (rv w (fld r 15) :: st) M) : Go w f pc L (rv w r :: st) M := g_getf (Cn := RX6) (T := TX6) (N := 19) 6 15 (by decide) rfl (by decide) inX6 C lk hr rfl d k
theorem gf_6_16 {i r : Nat} (C : Cx w f own cc nL lev) (lk : Jvm.Cond.fieldLink own i (TX6 16).1 (TX6 16).2.1 (TX6 16).2.2.1 ∈ lw_g) (hr : kd r = 7) (d : decode cc pc = .ok (.getfield i, 3)) (k : Go w f (pc + 3) L (rv w (fld r 16) :: st) M) : Go w f pc L (rv w r :: st) M := g_getf (Cn := RX6) (T := TX6) (N := 19) 6 16 (by decide) rfl (by decide) inX6 C lk hr rfl d k
theorem gf_6_17 {i r : Nat} (C : Cx w f own cc nL lev) (lk : Jvm.Cond.fieldLink own i (TX6 17).1 (TX6 17).2.1 (TX6 17).2.2.1 ∈ lw_g) (hr : kd r = 7) (d : decode cc pc = .ok (.getfield i, 3)) (k : Go w f (pc + 3) L (rv w (fld r 17) :: st) M) : Go w f pc L (rv w r :: st) M := g_getf (Cn := RX6) (T := TX6) (N := 19) 6 17 (by decide) rfl (by decide) inX6 C lk hr rfl d k
theorem gf_6_18 {i r : Nat} (C : Cx w f own cc nL lev) (lk : Jvm.Cond.fieldLink own i (TX6 18).1 (TX6 18).2.1 (TX6 18).2.2.1 ∈ lw_g) (hr : kd r = 7) (d : decode cc pc = .ok (.getfield i, 3)) (k : Go w f (pc + 3) L (rv w (fld r 18) :: st) M) : Go w f pc L (rv w r :: st) M := g_getf (Cn := RX6) (T := TX6) (N := 19) 6 18 (by decide) rfl (by decide) inX6 C lk hr rfl d k
end CALLS
end
section
def f_X5_put (r0 : Nat) (x1 : Int32) (x2 : Int32) (M : Mem) : Option Mem := if x1 < 0 then (some M) else (gdd (kd r0 = 8) <| if (nI (ln r0)) ≤ x1 then (some M) else (gdd (inb x1 (ln r0) = true) <| bvv (sI M r0 (x1).toNatClampNeg x2) fun M5 => some M5))
set_option maxRecDepth 100000 in
set_option maxHeartbeats 4000000 in
theorem ct_X5_put {l : Launch} {w : Om} (hw : Wf w) {r0 : Nat} {x1 : Int32} {x2 : Int32} {M : Mem} {M2 : Mem} (h : f_X5_put r0 x1 x2 M = some M2) : Ct l w yX5_put cX5_put 3 none 0 [rv w r0, .int x1, .int x2] M none M2 := by
  refine ct_of hw (by decide) (cat_s (rv_cat _ _) (cat_s rfl (cat_s rfl cat_0))) (Nat.le_of_ble_eq_true rfl) (fun f _ C hR => ?_)
  show Go w f 0 [some (rv w r0), some (.int x1), some (.int x2)] [] M
  unfold f_X5_put at h
  refine g_iload_n C dX5_put_0 rfl rfl ?_
  refine g_if_lt 14 C dX5_put_1 (by decide) (fun c1 => ?_) (fun c1 => ?_)
  · replace h := of_ift h c1
    cases h
    exact hR 14 _ rfl dX5_put_14
  · replace h := of_iff h c1
    refine g_iload_n C dX5_put_4 rfl rfl ?_
    refine g_aload_n C dX5_put_5 rfl rfl ?_
    obtain ⟨g2, h⟩ := of_gdd h
    refine g_alen C (Or.inl g2) dX5_put_6 ?_
    refine g_icmp_ge 14 C dX5_put_7 (by decide) (fun c3 => ?_) (fun c3 => ?_)
    · replace h := of_ift h c3
      cases h
      exact hR 14 _ rfl dX5_put_14
    · replace h := of_iff h c3
      refine g_aload_n C dX5_put_10 rfl rfl ?_
      refine g_iload_n C dX5_put_11 rfl rfl ?_
      refine g_iload_n C dX5_put_12 rfl rfl ?_
      obtain ⟨g4, h⟩ := of_gdd h
      refine g_iast C g2 g4 dX5_put_13 ?_
      obtain ⟨M5, e6, h⟩ := of_bvv h
      refine g_mem e6 ?_
      cases h
      exact hR 14 _ rfl dX5_put_14
def f_X5_isWithin (x0 : Int32) (x1 : Int32) (x2 : Int32) : Int32 := if x0 < x1 then ((0 : Int32)) else (if x2 < x0 then ((0 : Int32)) else ((1 : Int32)))
set_option maxRecDepth 100000 in
set_option maxHeartbeats 4000000 in
theorem ct_X5_isWithin {l : Launch} {w : Om} (hw : Wf w) {x0 : Int32} {x1 : Int32} {x2 : Int32}  {M : Mem} {r : Int32} (h : f_X5_isWithin x0 x1 x2 = r) : Ct l w yX5_isWithin cX5_isWithin 3 (some .boolean) 0 [.int x0, .int x1, .int x2] M (some (.int r)) M := by
  refine ct_of hw (by decide) (cat_s rfl (cat_s rfl (cat_s rfl cat_0))) (Nat.le_of_ble_eq_true rfl) (fun f _ C hR => ?_)
  show Go w f 0 [some (.int x0), some (.int x1), some (.int x2)] [] M
  unfold f_X5_isWithin at h
  refine g_iload_n C dX5_isWithin_0 rfl rfl ?_
  refine g_iload_n C dX5_isWithin_1 rfl rfl ?_
  refine g_icmp_lt 14 C dX5_isWithin_2 (by decide) (fun c1 => ?_) (fun c1 => ?_)
  · replace h := of_ift h c1
    refine g_iconst (v := 0) C dX5_isWithin_14 rfl ?_
    cases h
    exact hR 15 _ ⟨.boolean, rfl, rfl⟩ dX5_isWithin_15
  · replace h := of_iff h c1
    refine g_iload_n C dX5_isWithin_5 rfl rfl ?_
    refine g_iload_n C dX5_isWithin_6 rfl rfl ?_
    refine g_icmp_gt 14 C dX5_isWithin_7 (by decide) (fun c2 => ?_) (fun c2 => ?_)
    · replace h := of_ift h c2
      refine g_iconst (v := 0) C dX5_isWithin_14 rfl ?_
      cases h
      exact hR 15 _ ⟨.boolean, rfl, rfl⟩ dX5_isWithin_15
    · replace h := of_iff h c2
      refine g_iconst (v := 1) C dX5_isWithin_10 rfl ?_
      refine g_goto 15 C dX5_isWithin_11 (by decide) ?_
      cases h
      exact hR 15 _ ⟨.boolean, rfl, rfl⟩ dX5_isWithin_15
theorem zb_X5_isWithin (x0 x1 x2 : Int32) : isb (f_X5_isWithin x0 x1 x2) = true := by
  unfold f_X5_isWithin
  repeat' split
  all_goals first | decide
def f_X5_isKind (x0 : Int32) : Int32 := f_X5_isWithin x0 (0 : Int32) (5 : Int32)
set_option maxRecDepth 100000 in
set_option maxHeartbeats 4000000 in
theorem ct_X5_isKind {l : Launch} {w : Om} (hw : Wf w) {x0 : Int32}  {M : Mem} {r : Int32} (h : f_X5_isKind x0 = r) : Ct l w yX5_isKind cX5_isKind 1 (some .boolean) 1 [.int x0] M (some (.int r)) M := by
  refine ct_of hw (by decide) (cat_s rfl cat_0) (Nat.le_of_ble_eq_true rfl) (fun f _ C hR => ?_)
  show Go w f 0 [some (.int x0)] [] M
  unfold f_X5_isKind at h
  refine g_iload_n C dX5_isKind_0 rfl rfl ?_
  refine g_iconst (v := 0) C dX5_isKind_1 rfl ?_
  refine g_iconst (v := 5) C dX5_isKind_2 rfl ?_
  refine g_callS (As := [.int x0, .int (0 : Int32), .int (5 : Int32)]) C (ct_X5_isWithin C.wf rfl) lk_RX5_48 mi_X5_isWithin (by decide) cs_0 (by decide) dX5_isKind_3 rfl ?_
  show Go w f 6 [some (.int x0)] [.int (f_X5_isWithin x0 (0 : Int32) (5 : Int32))] M
  cases h
  exact hR 6 _ ⟨.boolean, rfl, nb_use (zb_X5_isWithin ..)⟩ dX5_isKind_6
theorem zb_X5_isKind (x0 : Int32) : isb (f_X5_isKind x0) = true := by
  unfold f_X5_isKind
  repeat' split
  all_goals first | decide | exact zb_X5_isWithin ..
def f_X5_forgetOldest_18 : Nat → Nat → Nat → Int32 → Mem → Option Mem
  | 0, _, _, _, _ => none
  | n + 1, r0, r1, x2, M => gdd (kd r0 = 6) <| gdd (kd (fld r0 2) = 11) <| if (nI (ln (fld r0 2))) ≤ x2 then (gdd (kd r1 = 5) <| gdd (inb ((nI (ln (fld r0 2))) - (1 : Int32)) (ln (fld r0 2)) = true) <| bvv (sH M ((nI (ln (fld r0 2))) - (1 : Int32)).toNatClampNeg r1) fun M206 => bvv (sI M206 r0 7 ((nI (ln (fld r0 2))) - (1 : Int32))) fun M208 => some M208) else (gdd (inb x2 (ln (fld r0 2)) = true) <| gdd (kd (gH M (x2).toNatClampNeg) = 5) <| gdd (inb (x2 - (1 : Int32)) (ln (fld r0 2)) = true) <| bvv (sH M (x2 - (1 : Int32)).toNatClampNeg (gH M (x2).toNatClampNeg)) fun M213 => bvv (x2 + (1 : Int32)) fun y215 => (f_X5_forgetOldest_18 n) r0 r1 y215 M213)
set_option maxRecDepth 100000 in
set_option maxHeartbeats 4000000 in
theorem t_X5_forgetOldest_18 {w : Om} {f : Fr} {M2 : Mem} (C : Cx w f RX5 cX5_forgetOldest 3 0) (hR : Rt w f cX5_forgetOldest none none M2)   : ∀ (n : Nat) (r0 : Nat) (r1 : Nat) (x2 : Int32) (M : Mem), f_X5_forgetOldest_18 n r0 r1 x2 M = some M2 → Go w f 18 [some (rv w r0), some (rv w r1), some (.int x2)] [] M := by
  intro n
  induction n with
  | zero =>
    intro r0 r1 x2 M h
    cases h
  | succ n ih =>
    intro r0 r1 x2 M h
    rw [f_X5_forgetOldest_18] at h
    refine g_iload_n C dX5_forgetOldest_18 rfl rfl ?_
    refine g_aload_n C dX5_forgetOldest_19 rfl rfl ?_
    obtain ⟨g201, h⟩ := of_gdd h
    refine gf_5_2 C fl_RX5_19 g201 dX5_forgetOldest_20 ?_
    obtain ⟨g202, h⟩ := of_gdd h
    refine g_alen C (Or.inr (Or.inr (Or.inr g202))) dX5_forgetOldest_23 ?_
    refine g_icmp_ge 47 C dX5_forgetOldest_24 (by decide) (fun c203 => ?_) (fun c203 => ?_)
    · replace h := of_ift h c203
      refine g_aload_n C dX5_forgetOldest_47 rfl rfl ?_
      refine gf_5_2 C fl_RX5_19 g201 dX5_forgetOldest_48 ?_
      refine g_aload_n C dX5_forgetOldest_51 rfl rfl ?_
      refine gf_5_2 C fl_RX5_19 g201 dX5_forgetOldest_52 ?_
      refine g_alen C (Or.inr (Or.inr (Or.inr g202))) dX5_forgetOldest_55 ?_
      refine g_iconst (v := 1) C dX5_forgetOldest_56 rfl ?_
      refine g_isub C dX5_forgetOldest_57 ?_
      refine g_aload_n C dX5_forgetOldest_58 rfl rfl ?_
      obtain ⟨g204, h⟩ := of_gdd h
      obtain ⟨g205, h⟩ := of_gdd h
      refine g_aasts C g202 g204 g205 dX5_forgetOldest_59 ?_
      obtain ⟨M206, e207, h⟩ := of_bvv h
      refine g_mem e207 ?_
      refine g_aload_n C dX5_forgetOldest_60 rfl rfl ?_
      refine g_aload_n C dX5_forgetOldest_61 rfl rfl ?_
      refine gf_5_2 C fl_RX5_19 g201 dX5_forgetOldest_62 ?_
      refine g_alen C (Or.inr (Or.inr (Or.inr g202))) dX5_forgetOldest_65 ?_
      refine g_iconst (v := 1) C dX5_forgetOldest_66 rfl ?_
      refine g_isub C dX5_forgetOldest_67 ?_
      refine pf_5_7 C fl_RX5_274 g201 dX5_forgetOldest_68 ?_
      obtain ⟨M208, e209, h⟩ := of_bvv h
      refine g_mem e209 ?_
      cases h
      exact hR 71 _ rfl dX5_forgetOldest_71
    · replace h := of_iff h c203
      refine g_aload_n C dX5_forgetOldest_27 rfl rfl ?_
      refine gf_5_2 C fl_RX5_19 g201 dX5_forgetOldest_28 ?_
      refine g_iload_n C dX5_forgetOldest_31 rfl rfl ?_
      refine g_iconst (v := 1) C dX5_forgetOldest_32 rfl ?_
      refine g_isub C dX5_forgetOldest_33 ?_
      refine g_aload_n C dX5_forgetOldest_34 rfl rfl ?_
      refine gf_5_2 C fl_RX5_19 g201 dX5_forgetOldest_35 ?_
      refine g_iload_n C dX5_forgetOldest_38 rfl rfl ?_
      obtain ⟨g210, h⟩ := of_gdd h
      refine g_aalds C g202 g210 dX5_forgetOldest_39 ?_
      obtain ⟨g211, h⟩ := of_gdd h
      obtain ⟨g212, h⟩ := of_gdd h
      refine g_aasts C g202 g211 g212 dX5_forgetOldest_40 ?_
      obtain ⟨M213, e214, h⟩ := of_bvv h
      refine g_mem e214 ?_
      obtain ⟨y215, e216, h⟩ := of_bvv h
      refine g_iinc (v := y215) C dX5_forgetOldest_41 rfl e216.symm (by decide) (rv_cat _ _) (L2 := [some (rv w r0), some (rv w r1), some (.int y215)]) rfl ?_
      refine g_goto 18 C dX5_forgetOldest_44 (by decide) ?_
      exact ih r0 r1 y215 M213 h
def f_X5_forgetOldest (r0 : Nat) (M : Mem) : Option Mem := gdd (kd r0 = 6) <| gdd (kd (fld r0 2) = 11) <| if (nI (ln (fld r0 2))) = 0 then (some M) else (gdd (inb (0 : Int32) (ln (fld r0 2)) = true) <| bvv (gH M ((0 : Int32)).toNatClampNeg) fun q5 => f_X5_forgetOldest_18 FU r0 q5 (1 : Int32) M)
set_option maxRecDepth 100000 in
set_option maxHeartbeats 4000000 in
theorem ct_X5_forgetOldest {l : Launch} {w : Om} (hw : Wf w) {r0 : Nat} {M : Mem} {M2 : Mem} (h : f_X5_forgetOldest r0 M = some M2) : Ct l w yX5_forgetOldest cX5_forgetOldest 3 none 0 [rv w r0] M none M2 := by
  refine ct_of hw (by decide) (cat_s (rv_cat _ _) cat_0) (Nat.le_of_ble_eq_true rfl) (fun f _ C hR => ?_)
  show Go w f 0 [some (rv w r0), none, none] [] M
  unfold f_X5_forgetOldest at h
  refine g_aload_n C dX5_forgetOldest_0 rfl rfl ?_
  obtain ⟨g1, h⟩ := of_gdd h
  refine gf_5_2 C fl_RX5_19 g1 dX5_forgetOldest_1 ?_
  obtain ⟨g2, h⟩ := of_gdd h
  refine g_alen C (Or.inr (Or.inr (Or.inr g2))) dX5_forgetOldest_4 ?_
  refine g_if_ne 9 C dX5_forgetOldest_5 (by decide) (fun c3 => ?_) (fun c3 => ?_)
  · replace h := of_iff h c3
    refine g_aload_n C dX5_forgetOldest_9 rfl rfl ?_
    refine gf_5_2 C fl_RX5_19 g1 dX5_forgetOldest_10 ?_
    refine g_iconst (v := 0) C dX5_forgetOldest_13 rfl ?_
    obtain ⟨g4, h⟩ := of_gdd h
    refine g_aalds C g2 g4 dX5_forgetOldest_14 ?_
    obtain ⟨q5, e6, h⟩ := of_bvv h
    refine g_topr e6 ?_
    refine g_astore_n C dX5_forgetOldest_15 rfl (by decide) (rv_cat _ _) (L2 := [some (rv w r0), some (rv w q5), none]) rfl ?_
    refine g_iconst (v := 1) C dX5_forgetOldest_16 rfl ?_
    refine g_istore_n C dX5_forgetOldest_17 rfl (by decide) (rv_cat _ _) (L2 := [some (rv w r0), some (rv w q5), some (.int (1 : Int32))]) rfl ?_
    exact t_X5_forgetOldest_18 C hR _ r0 q5 (1 : Int32) M h
  · replace h := of_ift h c3
    cases h
    exact hR 8 _ rfl dX5_forgetOldest_8
def f_X5_at (r0 : Nat) (x1 : Int32) (M : Mem) : Option Int32 := if x1 < 0 then (some (0 : Int32)) else (gdd (kd r0 = 8) <| if (nI (ln r0)) ≤ x1 then (some (0 : Int32)) else (gdd (inb x1 (ln r0) = true) <| some (gI M r0 (x1).toNatClampNeg)))
set_option maxRecDepth 100000 in
set_option maxHeartbeats 4000000 in
theorem ct_X5_at {l : Launch} {w : Om} (hw : Wf w) {r0 : Nat} {x1 : Int32}  {M : Mem} {r : Int32} (h : f_X5_at r0 x1 M = some r) : Ct l w yX5_at cX5_at 2 (some .int) 0 [rv w r0, .int x1] M (some (.int r)) M := by
  refine ct_of hw (by decide) (cat_s (rv_cat _ _) (cat_s rfl cat_0)) (Nat.le_of_ble_eq_true rfl) (fun f _ C hR => ?_)
  show Go w f 0 [some (rv w r0), some (.int x1)] [] M
  unfold f_X5_at at h
  refine g_iload_n C dX5_at_0 rfl rfl ?_
  refine g_if_lt 16 C dX5_at_1 (by decide) (fun c1 => ?_) (fun c1 => ?_)
  · replace h := of_ift h c1
    refine g_iconst (v := 0) C dX5_at_16 rfl ?_
    cases h
    exact hR 17 _ ⟨.int, rfl, rfl⟩ dX5_at_17
  · replace h := of_iff h c1
    refine g_iload_n C dX5_at_4 rfl rfl ?_
    refine g_aload_n C dX5_at_5 rfl rfl ?_
    obtain ⟨g2, h⟩ := of_gdd h
    refine g_alen C (Or.inl g2) dX5_at_6 ?_
    refine g_icmp_ge 16 C dX5_at_7 (by decide) (fun c3 => ?_) (fun c3 => ?_)
    · replace h := of_ift h c3
      refine g_iconst (v := 0) C dX5_at_16 rfl ?_
      cases h
      exact hR 17 _ ⟨.int, rfl, rfl⟩ dX5_at_17
    · replace h := of_iff h c3
      refine g_aload_n C dX5_at_10 rfl rfl ?_
      refine g_iload_n C dX5_at_11 rfl rfl ?_
      obtain ⟨g4, h⟩ := of_gdd h
      refine g_iald C g2 g4 dX5_at_12 ?_
      refine g_goto 17 C dX5_at_13 (by decide) ?_
      cases h
      exact hR 17 _ ⟨.int, rfl, rfl⟩ dX5_at_17
def f_X4_editionAt (r0 : Nat) (x1 : Int32) (M : Mem) : Option Nat := if x1 < 0 then (some 0) else (gdd (kd r0 = 5) <| if (gI M r0 4) ≤ x1 then (some 0) else (gdd (kd (fld r0 2) = 9) <| if (nI (ln (fld r0 2))) ≤ x1 then (some 0) else (gdd (inb x1 (ln (fld r0 2)) = true) <| some (fld (fld r0 2) (x1).toNatClampNeg))))
set_option maxRecDepth 100000 in
set_option maxHeartbeats 4000000 in
theorem ct_X4_editionAt {l : Launch} {w : Om} (hw : Wf w) {r0 : Nat} {x1 : Int32}  {M : Mem} {r : Nat} (h : f_X4_editionAt r0 x1 M = some r) : Ct l w yX4_editionAt cX4_editionAt 2 (some (.object "CommaCourt$Edition")) 0 [rv w r0, .int x1] M (some (rv w r)) M := by
  refine ct_of hw (by decide) (cat_s (rv_cat _ _) (cat_s rfl cat_0)) (Nat.le_of_ble_eq_true rfl) (fun f _ C hR => ?_)
  show Go w f 0 [some (rv w r0), some (.int x1)] [] M
  unfold f_X4_editionAt at h
  refine g_iload_n C dX4_editionAt_0 rfl rfl ?_
  refine g_if_lt 30 C dX4_editionAt_1 (by decide) (fun c1 => ?_) (fun c1 => ?_)
  · replace h := of_ift h c1
    refine g_null C dX4_editionAt_30 ?_
    cases h
    exact RtA_use hR 31 _ (Or.inl ⟨_, rfl⟩) dX4_editionAt_31
  · replace h := of_iff h c1
    refine g_iload_n C dX4_editionAt_4 rfl rfl ?_
    refine g_aload_n C dX4_editionAt_5 rfl rfl ?_
    obtain ⟨g2, h⟩ := of_gdd h
    refine gf_4_4 C fl_RX4_40 g2 dX4_editionAt_6 ?_
    refine g_icmp_ge 30 C dX4_editionAt_9 (by decide) (fun c3 => ?_) (fun c3 => ?_)
    · replace h := of_ift h c3
      refine g_null C dX4_editionAt_30 ?_
      cases h
      exact RtA_use hR 31 _ (Or.inl ⟨_, rfl⟩) dX4_editionAt_31
    · replace h := of_iff h c3
      refine g_iload_n C dX4_editionAt_12 rfl rfl ?_
      refine g_aload_n C dX4_editionAt_13 rfl rfl ?_
      refine gf_4_2 C fl_RX4_20 g2 dX4_editionAt_14 ?_
      obtain ⟨g4, h⟩ := of_gdd h
      refine g_alen C (Or.inr (Or.inl g4)) dX4_editionAt_17 ?_
      refine g_icmp_ge 30 C dX4_editionAt_18 (by decide) (fun c5 => ?_) (fun c5 => ?_)
      · replace h := of_ift h c5
        refine g_null C dX4_editionAt_30 ?_
        cases h
        exact RtA_use hR 31 _ (Or.inl ⟨_, rfl⟩) dX4_editionAt_31
      · replace h := of_iff h c5
        refine g_aload_n C dX4_editionAt_21 rfl rfl ?_
        refine gf_4_2 C fl_RX4_20 g2 dX4_editionAt_22 ?_
        refine g_iload_n C dX4_editionAt_25 rfl rfl ?_
        obtain ⟨g6, h⟩ := of_gdd h
        refine g_aald C (Or.inl g4) g6 dX4_editionAt_26 ?_
        refine g_goto 31 C dX4_editionAt_27 (by decide) ?_
        cases h
        exact RtA_use hR 31 _ (Or.inl ⟨_, rfl⟩) dX4_editionAt_31
def f_X0_copyFrom_2 : Nat → Nat → Nat → Int32 → Mem → Option Mem
  | 0, _, _, _, _ => none
  | n + 1, r0, r1, x2, M => if (12 : Int32) ≤ x2 then (gdd (kd r1 = 1) <| gdd (kd r0 = 1) <| bvv (sI M r0 1 (gI M r1 1)) fun M204 => bvv (sI M204 r0 2 (gI M204 r1 2)) fun M206 => bvv (sI M206 r0 3 (gI M206 r1 3)) fun M208 => bvv (sI M208 r0 4 (gI M208 r1 4)) fun M210 => some M210) else (gdd (kd r0 = 1) <| gdd (kd r1 = 1) <| obb (f_X5_at (fld r1 0) x2 M) fun y214 => obb (f_X5_put (fld r0 0) x2 y214 M) fun M216 => bvv (x2 + (1 : Int32)) fun y218 => (f_X0_copyFrom_2 n) r0 r1 y218 M216)
set_option maxRecDepth 100000 in
set_option maxHeartbeats 4000000 in
theorem t_X0_copyFrom_2 {w : Om} {f : Fr} {M2 : Mem} (C : Cx w f RX0 cX0_copyFrom 3 1) (hR : Rt w f cX0_copyFrom none none M2)   : ∀ (n : Nat) (r0 : Nat) (r1 : Nat) (x2 : Int32) (M : Mem), f_X0_copyFrom_2 n r0 r1 x2 M = some M2 → Go w f 2 [some (rv w r0), some (rv w r1), some (.int x2)] [] M := by
  intro n
  induction n with
  | zero =>
    intro r0 r1 x2 M h
    cases h
  | succ n ih =>
    intro r0 r1 x2 M h
    rw [f_X0_copyFrom_2] at h
    refine g_iload_n C dX0_copyFrom_2 rfl rfl ?_
    refine g_bipush (v := 12) C dX0_copyFrom_3 rfl ?_
    refine g_icmp_ge 30 C dX0_copyFrom_5 (by decide) (fun c201 => ?_) (fun c201 => ?_)
    · replace h := of_ift h c201
      refine g_aload_n C dX0_copyFrom_30 rfl rfl ?_
      refine g_aload_n C dX0_copyFrom_31 rfl rfl ?_
      obtain ⟨g202, h⟩ := of_gdd h
      refine gf_0_1 C fl_RX0_23 g202 dX0_copyFrom_32 ?_
      obtain ⟨g203, h⟩ := of_gdd h
      refine pf_0_1 C fl_RX0_23 g203 dX0_copyFrom_35 ?_
      obtain ⟨M204, e205, h⟩ := of_bvv h
      refine g_mem e205 ?_
      refine g_aload_n C dX0_copyFrom_38 rfl rfl ?_
      refine g_aload_n C dX0_copyFrom_39 rfl rfl ?_
      refine gf_0_2 C fl_RX0_27 g202 dX0_copyFrom_40 ?_
      refine pf_0_2 C fl_RX0_27 g203 dX0_copyFrom_43 ?_
      obtain ⟨M206, e207, h⟩ := of_bvv h
      refine g_mem e207 ?_
      refine g_aload_n C dX0_copyFrom_46 rfl rfl ?_
      refine g_aload_n C dX0_copyFrom_47 rfl rfl ?_
      refine gf_0_3 C fl_RX0_30 g202 dX0_copyFrom_48 ?_
      refine pf_0_3 C fl_RX0_30 g203 dX0_copyFrom_51 ?_
      obtain ⟨M208, e209, h⟩ := of_bvv h
      refine g_mem e209 ?_
      refine g_aload_n C dX0_copyFrom_54 rfl rfl ?_
      refine g_aload_n C dX0_copyFrom_55 rfl rfl ?_
      refine gf_0_4 C fl_RX0_33 g202 dX0_copyFrom_56 ?_
      refine pf_0_4 C fl_RX0_33 g203 dX0_copyFrom_59 ?_
      obtain ⟨M210, e211, h⟩ := of_bvv h
      refine g_mem e211 ?_
      cases h
      exact hR 62 _ rfl dX0_copyFrom_62
    · replace h := of_iff h c201
      refine g_aload_n C dX0_copyFrom_8 rfl rfl ?_
      obtain ⟨g212, h⟩ := of_gdd h
      refine gf_0_0 C fl_RX0_9 g212 dX0_copyFrom_9 ?_
      refine g_iload_n C dX0_copyFrom_12 rfl rfl ?_
      refine g_aload_n C dX0_copyFrom_13 rfl rfl ?_
      obtain ⟨g213, h⟩ := of_gdd h
      refine gf_0_0 C fl_RX0_9 g213 dX0_copyFrom_14 ?_
      refine g_iload_n C dX0_copyFrom_17 rfl rfl ?_
      obtain ⟨y214, e215, h⟩ := of_obb h
      refine g_callSN (As := [rv w (fld r1 0), .int x2]) C (ct_X5_at C.wf e215) ln_RX0_15 mi_X5_at (by decide) (cs_i (cs_r cs_0)) (by decide) dX0_copyFrom_18 rfl ?_
      show Go w f 21 [some (rv w r0), some (rv w r1), some (.int x2)] [.int y214, .int x2, rv w (fld r0 0)] M
      obtain ⟨M216, e217, h⟩ := of_obb h
      refine g_callSN (As := [rv w (fld r0 0), .int x2, .int y214]) C (ct_X5_put C.wf e217) ln_RX0_19 mi_X5_put (by decide) cs_0 (by decide) dX0_copyFrom_21 rfl ?_
      show Go w f 24 [some (rv w r0), some (rv w r1), some (.int x2)] [] M216
      obtain ⟨y218, e219, h⟩ := of_bvv h
      refine g_iinc (v := y218) C dX0_copyFrom_24 rfl e219.symm (by decide) (rv_cat _ _) (L2 := [some (rv w r0), some (rv w r1), some (.int y218)]) rfl ?_
      refine g_goto 2 C dX0_copyFrom_27 (by decide) ?_
      exact ih r0 r1 y218 M216 h
def f_X0_copyFrom (r0 : Nat) (r1 : Nat) (M : Mem) : Option Mem := f_X0_copyFrom_2 FU r0 r1 (0 : Int32) M
set_option maxRecDepth 100000 in
set_option maxHeartbeats 4000000 in
theorem ct_X0_copyFrom {l : Launch} {w : Om} (hw : Wf w) {r0 : Nat} {r1 : Nat} {M : Mem} {M2 : Mem} (h : f_X0_copyFrom r0 r1 M = some M2) : Ct l w yX0_copyFrom cX0_copyFrom 3 none 1 [rv w r0, rv w r1] M none M2 := by
  refine ct_of hw (by decide) (cat_s (rv_cat _ _) (cat_s (rv_cat _ _) cat_0)) (Nat.le_of_ble_eq_true rfl) (fun f _ C hR => ?_)
  show Go w f 0 [some (rv w r0), some (rv w r1), none] [] M
  unfold f_X0_copyFrom at h
  refine g_iconst (v := 0) C dX0_copyFrom_0 rfl ?_
  refine g_istore_n C dX0_copyFrom_1 rfl (by decide) (rv_cat _ _) (L2 := [some (rv w r0), some (rv w r1), some (.int (0 : Int32))]) rfl ?_
  exact t_X0_copyFrom_2 C hR _ r0 r1 (0 : Int32) M h
def f_X4_copyEdition (r0 : Nat) (r1 : Nat) (x2 : Int32) (M : Mem) : Option Mem := gdd (kd r0 = 5) <| obb (f_X4_editionAt r0 x2 M) fun y2 => if r1 = 0 then (some M) else (if y2 = 0 then (some M) else (gdd (kd y2 = 1) <| obb (f_X0_copyFrom y2 r1 M) fun M7 => some M7))
set_option maxRecDepth 100000 in
set_option maxHeartbeats 4000000 in
theorem ct_X4_copyEdition {l : Launch} {w : Om} (hw : Wf w) {r0 : Nat} {r1 : Nat} {x2 : Int32} {M : Mem} {M2 : Mem} (h : f_X4_copyEdition r0 r1 x2 M = some M2) : Ct l w yX4_copyEdition cX4_copyEdition 4 none 2 [rv w r0, rv w r1, .int x2] M none M2 := by
  refine ct_of hw (by decide) (cat_s (rv_cat _ _) (cat_s (rv_cat _ _) (cat_s rfl cat_0))) (Nat.le_of_ble_eq_true rfl) (fun f _ C hR => ?_)
  show Go w f 0 [some (rv w r0), some (rv w r1), some (.int x2), none] [] M
  unfold f_X4_copyEdition at h
  refine g_aload_n C dX4_copyEdition_0 rfl rfl ?_
  refine g_iload_n C dX4_copyEdition_1 rfl rfl ?_
  obtain ⟨g1, h⟩ := of_gdd h
  obtain ⟨y2, e3, h⟩ := of_obb h
  refine g_callV (As := [.int x2]) C (ct_X4_editionAt C.wf e3) g1 lk_RX4_47 mi_X4_editionAt (by decide) cs_0 (by decide) dX4_copyEdition_2 rfl ?_
  show Go w f 5 [some (rv w r0), some (rv w r1), some (.int x2), none] [rv w y2] M
  refine g_astore_n C dX4_copyEdition_5 rfl (by decide) rfl (L2 := [some (rv w r0), some (rv w r1), some (.int x2), some (rv w y2)]) rfl ?_
  refine g_aload_n C dX4_copyEdition_6 rfl rfl ?_
  refine g_ifnull 19 C dX4_copyEdition_7 (by decide) (fun c4 => ?_) (fun c4 => ?_)
  · replace h := of_ift h c4
    cases h
    exact hR 19 _ rfl dX4_copyEdition_19
  · replace h := of_iff h c4
    refine g_aload_n C dX4_copyEdition_10 rfl rfl ?_
    refine g_ifnull 19 C dX4_copyEdition_11 (by decide) (fun c5 => ?_) (fun c5 => ?_)
    · replace h := of_ift h c5
      cases h
      exact hR 19 _ rfl dX4_copyEdition_19
    · replace h := of_iff h c5
      refine g_aload_n C dX4_copyEdition_14 rfl rfl ?_
      refine g_aload_n C dX4_copyEdition_15 rfl rfl ?_
      obtain ⟨g6, h⟩ := of_gdd h
      obtain ⟨M7, e8, h⟩ := of_obb h
      refine g_callV (As := [rv w r1]) C (ct_X0_copyFrom C.wf e8) g6 lk_RX4_72 mi_X0_copyFrom (by decide) cs_0 (by decide) dX4_copyEdition_16 rfl ?_
      show Go w f 19 [some (rv w r0), some (rv w r1), some (.int x2), some (rv w y2)] [] M7
      cases h
      exact hR 19 _ rfl dX4_copyEdition_19
def f_X4_rulingAt (r0 : Nat) (x1 : Int32) (M : Mem) : Option Nat := if x1 < 0 then (some 0) else (gdd (kd r0 = 5) <| if (gI M r0 5) ≤ x1 then (some 0) else (gdd (kd (fld r0 3) = 10) <| if (nI (ln (fld r0 3))) ≤ x1 then (some 0) else (gdd (inb x1 (ln (fld r0 3)) = true) <| some (fld (fld r0 3) (x1).toNatClampNeg))))
set_option maxRecDepth 100000 in
set_option maxHeartbeats 4000000 in
theorem ct_X4_rulingAt {l : Launch} {w : Om} (hw : Wf w) {r0 : Nat} {x1 : Int32}  {M : Mem} {r : Nat} (h : f_X4_rulingAt r0 x1 M = some r) : Ct l w yX4_rulingAt cX4_rulingAt 2 (some (.object "CommaCourt$Ruling")) 0 [rv w r0, .int x1] M (some (rv w r)) M := by
  refine ct_of hw (by decide) (cat_s (rv_cat _ _) (cat_s rfl cat_0)) (Nat.le_of_ble_eq_true rfl) (fun f _ C hR => ?_)
  show Go w f 0 [some (rv w r0), some (.int x1)] [] M
  unfold f_X4_rulingAt at h
  refine g_iload_n C dX4_rulingAt_0 rfl rfl ?_
  refine g_if_lt 30 C dX4_rulingAt_1 (by decide) (fun c1 => ?_) (fun c1 => ?_)
  · replace h := of_ift h c1
    refine g_null C dX4_rulingAt_30 ?_
    cases h
    exact RtA_use hR 31 _ (Or.inl ⟨_, rfl⟩) dX4_rulingAt_31
  · replace h := of_iff h c1
    refine g_iload_n C dX4_rulingAt_4 rfl rfl ?_
    refine g_aload_n C dX4_rulingAt_5 rfl rfl ?_
    obtain ⟨g2, h⟩ := of_gdd h
    refine gf_4_5 C fl_RX4_44 g2 dX4_rulingAt_6 ?_
    refine g_icmp_ge 30 C dX4_rulingAt_9 (by decide) (fun c3 => ?_) (fun c3 => ?_)
    · replace h := of_ift h c3
      refine g_null C dX4_rulingAt_30 ?_
      cases h
      exact RtA_use hR 31 _ (Or.inl ⟨_, rfl⟩) dX4_rulingAt_31
    · replace h := of_iff h c3
      refine g_iload_n C dX4_rulingAt_12 rfl rfl ?_
      refine g_aload_n C dX4_rulingAt_13 rfl rfl ?_
      refine gf_4_3 C fl_RX4_26 g2 dX4_rulingAt_14 ?_
      obtain ⟨g4, h⟩ := of_gdd h
      refine g_alen C (Or.inr (Or.inr (Or.inl g4))) dX4_rulingAt_17 ?_
      refine g_icmp_ge 30 C dX4_rulingAt_18 (by decide) (fun c5 => ?_) (fun c5 => ?_)
      · replace h := of_ift h c5
        refine g_null C dX4_rulingAt_30 ?_
        cases h
        exact RtA_use hR 31 _ (Or.inl ⟨_, rfl⟩) dX4_rulingAt_31
      · replace h := of_iff h c5
        refine g_aload_n C dX4_rulingAt_21 rfl rfl ?_
        refine gf_4_3 C fl_RX4_26 g2 dX4_rulingAt_22 ?_
        refine g_iload_n C dX4_rulingAt_25 rfl rfl ?_
        obtain ⟨g6, h⟩ := of_gdd h
        refine g_aald C (Or.inr g4) g6 dX4_rulingAt_26 ?_
        refine g_goto 31 C dX4_rulingAt_27 (by decide) ?_
        cases h
        exact RtA_use hR 31 _ (Or.inl ⟨_, rfl⟩) dX4_rulingAt_31
def f_X2_copyFrom (r0 : Nat) (r1 : Nat) (M : Mem) : Option Mem := gdd (kd r1 = 3) <| gdd (kd r0 = 3) <| bvv (sI M r0 0 (gI M r1 0)) fun M3 => bvv (sI M3 r0 1 (gI M3 r1 1)) fun M5 => gdd (isb (gI M5 r1 2) = true) <| bvv (sI M5 r0 2 (gI M5 r1 2)) fun M8 => bvv (sI M8 r0 3 (gI M8 r1 3)) fun M10 => bvv (sI M10 r0 4 (gI M10 r1 4)) fun M12 => gdd (isb (gI M12 r1 5) = true) <| bvv (sI M12 r0 5 (gI M12 r1 5)) fun M15 => gdd (isb (gI M15 r1 6) = true) <| bvv (sI M15 r0 6 (gI M15 r1 6)) fun M18 => some M18
set_option maxRecDepth 100000 in
set_option maxHeartbeats 4000000 in
theorem ct_X2_copyFrom {l : Launch} {w : Om} (hw : Wf w) {r0 : Nat} {r1 : Nat} {M : Mem} {M2 : Mem} (h : f_X2_copyFrom r0 r1 M = some M2) : Ct l w yX2_copyFrom cX2_copyFrom 2 none 0 [rv w r0, rv w r1] M none M2 := by
  refine ct_of hw (by decide) (cat_s (rv_cat _ _) (cat_s (rv_cat _ _) cat_0)) (Nat.le_of_ble_eq_true rfl) (fun f _ C hR => ?_)
  show Go w f 0 [some (rv w r0), some (rv w r1)] [] M
  unfold f_X2_copyFrom at h
  refine g_aload_n C dX2_copyFrom_0 rfl rfl ?_
  refine g_aload_n C dX2_copyFrom_1 rfl rfl ?_
  obtain ⟨g1, h⟩ := of_gdd h
  refine gf_2_0 C fl_RX2_7 g1 dX2_copyFrom_2 ?_
  obtain ⟨g2, h⟩ := of_gdd h
  refine pf_2_0 C fl_RX2_7 g2 dX2_copyFrom_5 ?_
  obtain ⟨M3, e4, h⟩ := of_bvv h
  refine g_mem e4 ?_
  refine g_aload_n C dX2_copyFrom_8 rfl rfl ?_
  refine g_aload_n C dX2_copyFrom_9 rfl rfl ?_
  refine gf_2_1 C fl_RX2_13 g1 dX2_copyFrom_10 ?_
  refine pf_2_1 C fl_RX2_13 g2 dX2_copyFrom_13 ?_
  obtain ⟨M5, e6, h⟩ := of_bvv h
  refine g_mem e6 ?_
  refine g_aload_n C dX2_copyFrom_16 rfl rfl ?_
  refine g_aload_n C dX2_copyFrom_17 rfl rfl ?_
  refine gf_2_2 C fl_RX2_16 g1 dX2_copyFrom_18 ?_
  obtain ⟨g7, h⟩ := of_gdd h
  refine pf_2_2 C fl_RX2_16 g2 g7 dX2_copyFrom_21 ?_
  obtain ⟨M8, e9, h⟩ := of_bvv h
  refine g_mem e9 ?_
  refine g_aload_n C dX2_copyFrom_24 rfl rfl ?_
  refine g_aload_n C dX2_copyFrom_25 rfl rfl ?_
  refine gf_2_3 C fl_RX2_20 g1 dX2_copyFrom_26 ?_
  refine pf_2_3 C fl_RX2_20 g2 dX2_copyFrom_29 ?_
  obtain ⟨M10, e11, h⟩ := of_bvv h
  refine g_mem e11 ?_
  refine g_aload_n C dX2_copyFrom_32 rfl rfl ?_
  refine g_aload_n C dX2_copyFrom_33 rfl rfl ?_
  refine gf_2_4 C fl_RX2_23 g1 dX2_copyFrom_34 ?_
  refine pf_2_4 C fl_RX2_23 g2 dX2_copyFrom_37 ?_
  obtain ⟨M12, e13, h⟩ := of_bvv h
  refine g_mem e13 ?_
  refine g_aload_n C dX2_copyFrom_40 rfl rfl ?_
  refine g_aload_n C dX2_copyFrom_41 rfl rfl ?_
  refine gf_2_5 C fl_RX2_26 g1 dX2_copyFrom_42 ?_
  obtain ⟨g14, h⟩ := of_gdd h
  refine pf_2_5 C fl_RX2_26 g2 g14 dX2_copyFrom_45 ?_
  obtain ⟨M15, e16, h⟩ := of_bvv h
  refine g_mem e16 ?_
  refine g_aload_n C dX2_copyFrom_48 rfl rfl ?_
  refine g_aload_n C dX2_copyFrom_49 rfl rfl ?_
  refine gf_2_6 C fl_RX2_29 g1 dX2_copyFrom_50 ?_
  obtain ⟨g17, h⟩ := of_gdd h
  refine pf_2_6 C fl_RX2_29 g2 g17 dX2_copyFrom_53 ?_
  obtain ⟨M18, e19, h⟩ := of_bvv h
  refine g_mem e19 ?_
  cases h
  exact hR 56 _ rfl dX2_copyFrom_56
def f_X4_copyFrom_103 : Nat → Nat → Nat → Int32 → Mem → Option Mem
  | 0, _, _, _, _ => none
  | n + 1, r0, r1, x2, M => gdd (kd r0 = 5) <| if (gI M r0 5) ≤ x2 then (gdd (kd r1 = 5) <| bvv (sI M r0 6 (gI M r1 6)) fun M504 => bvv (sI M504 r0 7 (gI M504 r1 7)) fun M506 => bvv (sI M506 r0 8 (gI M506 r1 8)) fun M508 => some M508) else (gdd (kd r1 = 5) <| obb (f_X4_rulingAt r1 x2 M) fun y511 => obb (f_X4_rulingAt r0 x2 M) fun y513 => if y511 = 0 then (bvv (x2 + (1 : Int32)) fun y516 => (f_X4_copyFrom_103 n) r0 r1 y516 M) else (if y513 = 0 then (bvv (x2 + (1 : Int32)) fun y519 => (f_X4_copyFrom_103 n) r0 r1 y519 M) else (gdd (kd y513 = 3) <| obb (f_X2_copyFrom y513 y511 M) fun M522 => bvv (x2 + (1 : Int32)) fun y524 => (f_X4_copyFrom_103 n) r0 r1 y524 M522)))
set_option maxRecDepth 100000 in
set_option maxHeartbeats 4000000 in
theorem t_X4_copyFrom_103 {w : Om} {f : Fr} {M2 : Mem} (C : Cx w f RX4 cX4_copyFrom 5 3) (hR : Rt w f cX4_copyFrom none none M2)   : ∀ (n : Nat) (r0 : Nat) (r1 : Nat) (x2 : Int32) (M : Mem), f_X4_copyFrom_103 n r0 r1 x2 M = some M2 → Go w f 103 [some (rv w r0), some (rv w r1), some (.int x2), none, none] [] M := by
  intro n
  induction n with
  | zero =>
    intro r0 r1 x2 M h
    cases h
  | succ n ih =>
    intro r0 r1 x2 M h
    rw [f_X4_copyFrom_103] at h
    refine g_iload_n C dX4_copyFrom_103 rfl rfl ?_
    refine g_aload_n C dX4_copyFrom_104 rfl rfl ?_
    obtain ⟨g501, h⟩ := of_gdd h
    refine gf_4_5 C fl_RX4_44 g501 dX4_copyFrom_105 ?_
    refine g_icmp_ge 145 C dX4_copyFrom_108 (by decide) (fun c502 => ?_) (fun c502 => ?_)
    · replace h := of_ift h c502
      refine g_aload_n C dX4_copyFrom_145 rfl rfl ?_
      refine g_aload_n C dX4_copyFrom_146 rfl rfl ?_
      obtain ⟨g503, h⟩ := of_gdd h
      refine gf_4_6 C fl_RX4_63 g503 dX4_copyFrom_147 ?_
      refine pf_4_6 C fl_RX4_63 g501 dX4_copyFrom_150 ?_
      obtain ⟨M504, e505, h⟩ := of_bvv h
      refine g_mem e505 ?_
      refine g_aload_n C dX4_copyFrom_153 rfl rfl ?_
      refine g_aload_n C dX4_copyFrom_154 rfl rfl ?_
      refine gf_4_7 C fl_RX4_66 g503 dX4_copyFrom_155 ?_
      refine pf_4_7 C fl_RX4_66 g501 dX4_copyFrom_158 ?_
      obtain ⟨M506, e507, h⟩ := of_bvv h
      refine g_mem e507 ?_
      refine g_aload_n C dX4_copyFrom_161 rfl rfl ?_
      refine g_aload_n C dX4_copyFrom_162 rfl rfl ?_
      refine gf_4_8 C fl_RX4_69 g503 dX4_copyFrom_163 ?_
      refine pf_4_8 C fl_RX4_69 g501 dX4_copyFrom_166 ?_
      obtain ⟨M508, e509, h⟩ := of_bvv h
      refine g_mem e509 ?_
      cases h
      exact hR 169 _ rfl dX4_copyFrom_169
    · replace h := of_iff h c502
      refine g_aload_n C dX4_copyFrom_111 rfl rfl ?_
      refine g_iload_n C dX4_copyFrom_112 rfl rfl ?_
      obtain ⟨g510, h⟩ := of_gdd h
      obtain ⟨y511, e512, h⟩ := of_obb h
      refine g_callV (As := [.int x2]) C (ct_X4_rulingAt C.wf e512) g510 lk_RX4_55 mi_X4_rulingAt (by decide) cs_0 (by decide) dX4_copyFrom_113 rfl ?_
      show Go w f 116 [some (rv w r0), some (rv w r1), some (.int x2), none, none] [rv w y511] M
      refine g_astore_n C dX4_copyFrom_116 rfl (by decide) rfl (L2 := [some (rv w r0), some (rv w r1), some (.int x2), some (rv w y511), none]) rfl ?_
      refine g_aload_n C dX4_copyFrom_117 rfl rfl ?_
      refine g_iload_n C dX4_copyFrom_118 rfl rfl ?_
      obtain ⟨y513, e514, h⟩ := of_obb h
      refine g_callV (As := [.int x2]) C (ct_X4_rulingAt C.wf e514) g501 lk_RX4_55 mi_X4_rulingAt (by decide) cs_0 (by decide) dX4_copyFrom_119 rfl ?_
      show Go w f 122 [some (rv w r0), some (rv w r1), some (.int x2), some (rv w y511), none] [rv w y513] M
      refine g_astore C dX4_copyFrom_122 (by decide) (rv_cat _ _) (L2 := [some (rv w r0), some (rv w r1), some (.int x2), some (rv w y511), some (rv w y513)]) rfl ?_
      refine g_aload_n C dX4_copyFrom_124 rfl rfl ?_
      refine g_ifnull 139 C dX4_copyFrom_125 (by decide) (fun c515 => ?_) (fun c515 => ?_)
      · replace h := of_ift h c515
        obtain ⟨y516, e517, h⟩ := of_bvv h
        refine g_iinc (v := y516) C dX4_copyFrom_139 rfl e517.symm (by decide) (rv_cat _ _) (L2 := [some (rv w r0), some (rv w r1), some (.int y516), some (rv w y511), some (rv w y513)]) rfl ?_
        refine g_goto 103 C dX4_copyFrom_142 (by decide) ?_
        refine g_mask (bs := [true, true, true, false, false]) (L2 := [some (rv w r0), some (rv w r1), some (.int y516), none, none]) rfl ?_
        exact ih r0 r1 y516 M h
      · replace h := of_iff h c515
        refine g_aload C dX4_copyFrom_128 rfl ?_
        refine g_ifnull 139 C dX4_copyFrom_130 (by decide) (fun c518 => ?_) (fun c518 => ?_)
        · replace h := of_ift h c518
          obtain ⟨y519, e520, h⟩ := of_bvv h
          refine g_iinc (v := y519) C dX4_copyFrom_139 rfl e520.symm (by decide) (rv_cat _ _) (L2 := [some (rv w r0), some (rv w r1), some (.int y519), some (rv w y511), some (rv w y513)]) rfl ?_
          refine g_goto 103 C dX4_copyFrom_142 (by decide) ?_
          refine g_mask (bs := [true, true, true, false, false]) (L2 := [some (rv w r0), some (rv w r1), some (.int y519), none, none]) rfl ?_
          exact ih r0 r1 y519 M h
        · replace h := of_iff h c518
          refine g_aload C dX4_copyFrom_133 rfl ?_
          refine g_aload_n C dX4_copyFrom_135 rfl rfl ?_
          obtain ⟨g521, h⟩ := of_gdd h
          obtain ⟨M522, e523, h⟩ := of_obb h
          refine g_callV (As := [rv w y511]) C (ct_X2_copyFrom C.wf e523) g521 lk_RX4_59 mi_X2_copyFrom (by decide) cs_0 (by decide) dX4_copyFrom_136 rfl ?_
          show Go w f 139 [some (rv w r0), some (rv w r1), some (.int x2), some (rv w y511), some (rv w y513)] [] M522
          obtain ⟨y524, e525, h⟩ := of_bvv h
          refine g_iinc (v := y524) C dX4_copyFrom_139 rfl e525.symm (by decide) (rv_cat _ _) (L2 := [some (rv w r0), some (rv w r1), some (.int y524), some (rv w y511), some (rv w y513)]) rfl ?_
          refine g_goto 103 C dX4_copyFrom_142 (by decide) ?_
          refine g_mask (bs := [true, true, true, false, false]) (L2 := [some (rv w r0), some (rv w r1), some (.int y524), none, none]) rfl ?_
          exact ih r0 r1 y524 M522 h
def f_X4_copyFrom_77 : Nat → Nat → Nat → Int32 → Mem → Option Mem
  | 0, _, _, _, _ => none
  | n + 1, r0, r1, x2, M => gdd (kd r0 = 5) <| if (gI M r0 4) ≤ x2 then (f_X4_copyFrom_103 FU r0 r1 (0 : Int32) M) else (gdd (kd r1 = 5) <| obb (f_X4_editionAt r1 x2 M) fun y404 => obb (f_X4_copyEdition r0 y404 x2 M) fun M406 => bvv (x2 + (1 : Int32)) fun y408 => (f_X4_copyFrom_77 n) r0 r1 y408 M406)
set_option maxRecDepth 100000 in
set_option maxHeartbeats 4000000 in
theorem t_X4_copyFrom_77 {w : Om} {f : Fr} {M2 : Mem} (C : Cx w f RX4 cX4_copyFrom 5 3) (hR : Rt w f cX4_copyFrom none none M2)   : ∀ (n : Nat) (r0 : Nat) (r1 : Nat) (x2 : Int32) (M : Mem), f_X4_copyFrom_77 n r0 r1 x2 M = some M2 → Go w f 77 [some (rv w r0), some (rv w r1), some (.int x2), none, none] [] M := by
  intro n
  induction n with
  | zero =>
    intro r0 r1 x2 M h
    cases h
  | succ n ih =>
    intro r0 r1 x2 M h
    rw [f_X4_copyFrom_77] at h
    refine g_iload_n C dX4_copyFrom_77 rfl rfl ?_
    refine g_aload_n C dX4_copyFrom_78 rfl rfl ?_
    obtain ⟨g401, h⟩ := of_gdd h
    refine gf_4_4 C fl_RX4_40 g401 dX4_copyFrom_79 ?_
    refine g_icmp_ge 101 C dX4_copyFrom_82 (by decide) (fun c402 => ?_) (fun c402 => ?_)
    · replace h := of_ift h c402
      refine g_iconst (v := 0) C dX4_copyFrom_101 rfl ?_
      refine g_istore_n C dX4_copyFrom_102 rfl (by decide) (rv_cat _ _) (L2 := [some (rv w r0), some (rv w r1), some (.int (0 : Int32)), none, none]) rfl ?_
      exact t_X4_copyFrom_103 C hR _ r0 r1 (0 : Int32) M h
    · replace h := of_iff h c402
      refine g_aload_n C dX4_copyFrom_85 rfl rfl ?_
      refine g_aload_n C dX4_copyFrom_86 rfl rfl ?_
      refine g_iload_n C dX4_copyFrom_87 rfl rfl ?_
      obtain ⟨g403, h⟩ := of_gdd h
      obtain ⟨y404, e405, h⟩ := of_obb h
      refine g_callV (As := [.int x2]) C (ct_X4_editionAt C.wf e405) g403 lk_RX4_47 mi_X4_editionAt (by decide) (cs_r cs_0) (by decide) dX4_copyFrom_88 rfl ?_
      show Go w f 91 [some (rv w r0), some (rv w r1), some (.int x2), none, none] [rv w y404, rv w r0] M
      refine g_iload_n C dX4_copyFrom_91 rfl rfl ?_
      obtain ⟨M406, e407, h⟩ := of_obb h
      refine g_callV (As := [rv w y404, .int x2]) C (ct_X4_copyEdition C.wf e407) g401 lk_RX4_51 mi_X4_copyEdition (by decide) cs_0 (by decide) dX4_copyFrom_92 rfl ?_
      show Go w f 95 [some (rv w r0), some (rv w r1), some (.int x2), none, none] [] M406
      obtain ⟨y408, e409, h⟩ := of_bvv h
      refine g_iinc (v := y408) C dX4_copyFrom_95 rfl e409.symm (by decide) (rv_cat _ _) (L2 := [some (rv w r0), some (rv w r1), some (.int y408), none, none]) rfl ?_
      refine g_goto 77 C dX4_copyFrom_98 (by decide) ?_
      exact ih r0 r1 y408 M406 h
def f_X4_copyFrom_32 : Nat → Nat → Nat → Int32 → Mem → Option Mem
  | 0, _, _, _, _ => none
  | n + 1, r0, r1, x2, M => if (2 : Int32) ≤ x2 then (gdd (kd r1 = 5) <| gdd (kd r0 = 5) <| bvv (sI M r0 4 (gI M r1 4)) fun M304 => bvv (sI M304 r0 5 (gI M304 r1 5)) fun M306 => f_X4_copyFrom_77 FU r0 r1 (0 : Int32) M306) else (gdd (kd r0 = 5) <| gdd (kd r1 = 5) <| obb (f_X5_at (fld r1 1) x2 M) fun y310 => obb (f_X5_put (fld r0 1) x2 y310 M) fun M312 => bvv (x2 + (1 : Int32)) fun y314 => (f_X4_copyFrom_32 n) r0 r1 y314 M312)
set_option maxRecDepth 100000 in
set_option maxHeartbeats 4000000 in
theorem t_X4_copyFrom_32 {w : Om} {f : Fr} {M2 : Mem} (C : Cx w f RX4 cX4_copyFrom 5 3) (hR : Rt w f cX4_copyFrom none none M2)   : ∀ (n : Nat) (r0 : Nat) (r1 : Nat) (x2 : Int32) (M : Mem), f_X4_copyFrom_32 n r0 r1 x2 M = some M2 → Go w f 32 [some (rv w r0), some (rv w r1), some (.int x2), none, none] [] M := by
  intro n
  induction n with
  | zero =>
    intro r0 r1 x2 M h
    cases h
  | succ n ih =>
    intro r0 r1 x2 M h
    rw [f_X4_copyFrom_32] at h
    refine g_iload_n C dX4_copyFrom_32 rfl rfl ?_
    refine g_iconst (v := 2) C dX4_copyFrom_33 rfl ?_
    refine g_icmp_ge 59 C dX4_copyFrom_34 (by decide) (fun c301 => ?_) (fun c301 => ?_)
    · replace h := of_ift h c301
      refine g_aload_n C dX4_copyFrom_59 rfl rfl ?_
      refine g_aload_n C dX4_copyFrom_60 rfl rfl ?_
      obtain ⟨g302, h⟩ := of_gdd h
      refine gf_4_4 C fl_RX4_40 g302 dX4_copyFrom_61 ?_
      obtain ⟨g303, h⟩ := of_gdd h
      refine pf_4_4 C fl_RX4_40 g303 dX4_copyFrom_64 ?_
      obtain ⟨M304, e305, h⟩ := of_bvv h
      refine g_mem e305 ?_
      refine g_aload_n C dX4_copyFrom_67 rfl rfl ?_
      refine g_aload_n C dX4_copyFrom_68 rfl rfl ?_
      refine gf_4_5 C fl_RX4_44 g302 dX4_copyFrom_69 ?_
      refine pf_4_5 C fl_RX4_44 g303 dX4_copyFrom_72 ?_
      obtain ⟨M306, e307, h⟩ := of_bvv h
      refine g_mem e307 ?_
      refine g_iconst (v := 0) C dX4_copyFrom_75 rfl ?_
      refine g_istore_n C dX4_copyFrom_76 rfl (by decide) (rv_cat _ _) (L2 := [some (rv w r0), some (rv w r1), some (.int (0 : Int32)), none, none]) rfl ?_
      exact t_X4_copyFrom_77 C hR _ r0 r1 (0 : Int32) M306 h
    · replace h := of_iff h c301
      refine g_aload_n C dX4_copyFrom_37 rfl rfl ?_
      obtain ⟨g308, h⟩ := of_gdd h
      refine gf_4_1 C fl_RX4_15 g308 dX4_copyFrom_38 ?_
      refine g_iload_n C dX4_copyFrom_41 rfl rfl ?_
      refine g_aload_n C dX4_copyFrom_42 rfl rfl ?_
      obtain ⟨g309, h⟩ := of_gdd h
      refine gf_4_1 C fl_RX4_15 g309 dX4_copyFrom_43 ?_
      refine g_iload_n C dX4_copyFrom_46 rfl rfl ?_
      obtain ⟨y310, e311, h⟩ := of_obb h
      refine g_callSN (As := [rv w (fld r1 1), .int x2]) C (ct_X5_at C.wf e311) ln_RX4_36 mi_X5_at (by decide) (cs_i (cs_r cs_0)) (by decide) dX4_copyFrom_47 rfl ?_
      show Go w f 50 [some (rv w r0), some (rv w r1), some (.int x2), none, none] [.int y310, .int x2, rv w (fld r0 1)] M
      obtain ⟨M312, e313, h⟩ := of_obb h
      refine g_callSN (As := [rv w (fld r0 1), .int x2, .int y310]) C (ct_X5_put C.wf e313) ln_RX4_30 mi_X5_put (by decide) cs_0 (by decide) dX4_copyFrom_50 rfl ?_
      show Go w f 53 [some (rv w r0), some (rv w r1), some (.int x2), none, none] [] M312
      obtain ⟨y314, e315, h⟩ := of_bvv h
      refine g_iinc (v := y314) C dX4_copyFrom_53 rfl e315.symm (by decide) (rv_cat _ _) (L2 := [some (rv w r0), some (rv w r1), some (.int y314), none, none]) rfl ?_
      refine g_goto 32 C dX4_copyFrom_56 (by decide) ?_
      exact ih r0 r1 y314 M312 h
def f_X4_copyFrom_2 : Nat → Nat → Nat → Int32 → Mem → Option Mem
  | 0, _, _, _, _ => none
  | n + 1, r0, r1, x2, M => if (6 : Int32) ≤ x2 then (f_X4_copyFrom_32 FU r0 r1 (0 : Int32) M) else (gdd (kd r0 = 5) <| gdd (kd r1 = 5) <| obb (f_X5_at (fld r1 0) x2 M) fun y204 => obb (f_X5_put (fld r0 0) x2 y204 M) fun M206 => bvv (x2 + (1 : Int32)) fun y208 => (f_X4_copyFrom_2 n) r0 r1 y208 M206)
set_option maxRecDepth 100000 in
set_option maxHeartbeats 4000000 in
theorem t_X4_copyFrom_2 {w : Om} {f : Fr} {M2 : Mem} (C : Cx w f RX4 cX4_copyFrom 5 3) (hR : Rt w f cX4_copyFrom none none M2)   : ∀ (n : Nat) (r0 : Nat) (r1 : Nat) (x2 : Int32) (M : Mem), f_X4_copyFrom_2 n r0 r1 x2 M = some M2 → Go w f 2 [some (rv w r0), some (rv w r1), some (.int x2), none, none] [] M := by
  intro n
  induction n with
  | zero =>
    intro r0 r1 x2 M h
    cases h
  | succ n ih =>
    intro r0 r1 x2 M h
    rw [f_X4_copyFrom_2] at h
    refine g_iload_n C dX4_copyFrom_2 rfl rfl ?_
    refine g_bipush (v := 6) C dX4_copyFrom_3 rfl ?_
    refine g_icmp_ge 30 C dX4_copyFrom_5 (by decide) (fun c201 => ?_) (fun c201 => ?_)
    · replace h := of_ift h c201
      refine g_iconst (v := 0) C dX4_copyFrom_30 rfl ?_
      refine g_istore_n C dX4_copyFrom_31 rfl (by decide) (rv_cat _ _) (L2 := [some (rv w r0), some (rv w r1), some (.int (0 : Int32)), none, none]) rfl ?_
      exact t_X4_copyFrom_32 C hR _ r0 r1 (0 : Int32) M h
    · replace h := of_iff h c201
      refine g_aload_n C dX4_copyFrom_8 rfl rfl ?_
      obtain ⟨g202, h⟩ := of_gdd h
      refine gf_4_0 C fl_RX4_9 g202 dX4_copyFrom_9 ?_
      refine g_iload_n C dX4_copyFrom_12 rfl rfl ?_
      refine g_aload_n C dX4_copyFrom_13 rfl rfl ?_
      obtain ⟨g203, h⟩ := of_gdd h
      refine gf_4_0 C fl_RX4_9 g203 dX4_copyFrom_14 ?_
      refine g_iload_n C dX4_copyFrom_17 rfl rfl ?_
      obtain ⟨y204, e205, h⟩ := of_obb h
      refine g_callSN (As := [rv w (fld r1 0), .int x2]) C (ct_X5_at C.wf e205) ln_RX4_36 mi_X5_at (by decide) (cs_i (cs_r cs_0)) (by decide) dX4_copyFrom_18 rfl ?_
      show Go w f 21 [some (rv w r0), some (rv w r1), some (.int x2), none, none] [.int y204, .int x2, rv w (fld r0 0)] M
      obtain ⟨M206, e207, h⟩ := of_obb h
      refine g_callSN (As := [rv w (fld r0 0), .int x2, .int y204]) C (ct_X5_put C.wf e207) ln_RX4_30 mi_X5_put (by decide) cs_0 (by decide) dX4_copyFrom_21 rfl ?_
      show Go w f 24 [some (rv w r0), some (rv w r1), some (.int x2), none, none] [] M206
      obtain ⟨y208, e209, h⟩ := of_bvv h
      refine g_iinc (v := y208) C dX4_copyFrom_24 rfl e209.symm (by decide) (rv_cat _ _) (L2 := [some (rv w r0), some (rv w r1), some (.int y208), none, none]) rfl ?_
      refine g_goto 2 C dX4_copyFrom_27 (by decide) ?_
      exact ih r0 r1 y208 M206 h
def f_X4_copyFrom (r0 : Nat) (r1 : Nat) (M : Mem) : Option Mem := f_X4_copyFrom_2 FU r0 r1 (0 : Int32) M
set_option maxRecDepth 100000 in
set_option maxHeartbeats 4000000 in
theorem ct_X4_copyFrom {l : Launch} {w : Om} (hw : Wf w) {r0 : Nat} {r1 : Nat} {M : Mem} {M2 : Mem} (h : f_X4_copyFrom r0 r1 M = some M2) : Ct l w yX4_copyFrom cX4_copyFrom 5 none 3 [rv w r0, rv w r1] M none M2 := by
  refine ct_of hw (by decide) (cat_s (rv_cat _ _) (cat_s (rv_cat _ _) cat_0)) (Nat.le_of_ble_eq_true rfl) (fun f _ C hR => ?_)
  show Go w f 0 [some (rv w r0), some (rv w r1), none, none, none] [] M
  unfold f_X4_copyFrom at h
  refine g_iconst (v := 0) C dX4_copyFrom_0 rfl ?_
  refine g_istore_n C dX4_copyFrom_1 rfl (by decide) (rv_cat _ _) (L2 := [some (rv w r0), some (rv w r1), some (.int (0 : Int32)), none, none]) rfl ?_
  exact t_X4_copyFrom_2 C hR _ r0 r1 (0 : Int32) M h
def f_X5_keepState (r0 : Nat) (M : Mem) : Option Mem := gdd (kd r0 = 6) <| gdd (kd (fld r0 2) = 11) <| if (gI M r0 7) < (nI (ln (fld r0 2))) then (if (gI M r0 7) < 0 then (some M) else (if (nI (ln (fld r0 2))) ≤ (gI M r0 7) then (some M) else (gdd (inb (gI M r0 7) (ln (fld r0 2)) = true) <| if (gH M (gI M r0 7).toNatClampNeg) = 0 then (some M) else (gdd (kd (gH M (gI M r0 7).toNatClampNeg) = 5) <| obb (f_X4_copyFrom (gH M (gI M r0 7).toNatClampNeg) (fld r0 0) M) fun M9 => bvv (sI M9 r0 7 ((gI M9 r0 7) + (1 : Int32))) fun M11 => some M11)))) else (obb (f_X5_forgetOldest r0 M) fun M13 => if (gI M13 r0 7) < 0 then (some M13) else (if (nI (ln (fld r0 2))) ≤ (gI M13 r0 7) then (some M13) else (gdd (inb (gI M13 r0 7) (ln (fld r0 2)) = true) <| if (gH M13 (gI M13 r0 7).toNatClampNeg) = 0 then (some M13) else (gdd (kd (gH M13 (gI M13 r0 7).toNatClampNeg) = 5) <| obb (f_X4_copyFrom (gH M13 (gI M13 r0 7).toNatClampNeg) (fld r0 0) M13) fun M20 => bvv (sI M20 r0 7 ((gI M20 r0 7) + (1 : Int32))) fun M22 => some M22))))
set_option maxRecDepth 100000 in
set_option maxHeartbeats 4000000 in
theorem ct_X5_keepState {l : Launch} {w : Om} (hw : Wf w) {r0 : Nat} {M : Mem} {M2 : Mem} (h : f_X5_keepState r0 M = some M2) : Ct l w yX5_keepState cX5_keepState 1 none 4 [rv w r0] M none M2 := by
  refine ct_of hw (by decide) (cat_s (rv_cat _ _) cat_0) (Nat.le_of_ble_eq_true rfl) (fun f _ C hR => ?_)
  show Go w f 0 [some (rv w r0)] [] M
  unfold f_X5_keepState at h
  refine g_aload_n C dX5_keepState_0 rfl rfl ?_
  obtain ⟨g1, h⟩ := of_gdd h
  refine gf_5_7 C fl_RX5_274 g1 dX5_keepState_1 ?_
  refine g_aload_n C dX5_keepState_4 rfl rfl ?_
  refine gf_5_2 C fl_RX5_19 g1 dX5_keepState_5 ?_
  obtain ⟨g2, h⟩ := of_gdd h
  refine g_alen C (Or.inr (Or.inr (Or.inr g2))) dX5_keepState_8 ?_
  refine g_icmp_lt 16 C dX5_keepState_9 (by decide) (fun c3 => ?_) (fun c3 => ?_)
  · replace h := of_ift h c3
    refine g_aload_n C dX5_keepState_16 rfl rfl ?_
    refine gf_5_7 C fl_RX5_274 g1 dX5_keepState_17 ?_
    refine g_if_lt 73 C dX5_keepState_20 (by decide) (fun c4 => ?_) (fun c4 => ?_)
    · replace h := of_ift h c4
      cases h
      exact hR 73 _ rfl dX5_keepState_73
    · replace h := of_iff h c4
      refine g_aload_n C dX5_keepState_23 rfl rfl ?_
      refine gf_5_7 C fl_RX5_274 g1 dX5_keepState_24 ?_
      refine g_aload_n C dX5_keepState_27 rfl rfl ?_
      refine gf_5_2 C fl_RX5_19 g1 dX5_keepState_28 ?_
      refine g_alen C (Or.inr (Or.inr (Or.inr g2))) dX5_keepState_31 ?_
      refine g_icmp_ge 73 C dX5_keepState_32 (by decide) (fun c5 => ?_) (fun c5 => ?_)
      · replace h := of_ift h c5
        cases h
        exact hR 73 _ rfl dX5_keepState_73
      · replace h := of_iff h c5
        refine g_aload_n C dX5_keepState_35 rfl rfl ?_
        refine gf_5_2 C fl_RX5_19 g1 dX5_keepState_36 ?_
        refine g_aload_n C dX5_keepState_39 rfl rfl ?_
        refine gf_5_7 C fl_RX5_274 g1 dX5_keepState_40 ?_
        obtain ⟨g6, h⟩ := of_gdd h
        refine g_aalds C g2 g6 dX5_keepState_43 ?_
        refine g_ifnull 73 C dX5_keepState_44 (by decide) (fun c7 => ?_) (fun c7 => ?_)
        · replace h := of_ift h c7
          cases h
          exact hR 73 _ rfl dX5_keepState_73
        · replace h := of_iff h c7
          refine g_aload_n C dX5_keepState_47 rfl rfl ?_
          refine gf_5_2 C fl_RX5_19 g1 dX5_keepState_48 ?_
          refine g_aload_n C dX5_keepState_51 rfl rfl ?_
          refine gf_5_7 C fl_RX5_274 g1 dX5_keepState_52 ?_
          refine g_aalds C g2 g6 dX5_keepState_55 ?_
          refine g_aload_n C dX5_keepState_56 rfl rfl ?_
          refine gf_5_0 C fl_RX5_10 g1 dX5_keepState_57 ?_
          obtain ⟨g8, h⟩ := of_gdd h
          obtain ⟨M9, e10, h⟩ := of_obb h
          refine g_callV (As := [rv w (fld r0 0)]) C (ct_X4_copyFrom C.wf e10) g8 lk_RX5_287 mi_X4_copyFrom (by decide) cs_0 (by decide) dX5_keepState_60 rfl ?_
          show Go w f 63 [some (rv w r0)] [] M9
          refine g_aload_n C dX5_keepState_63 rfl rfl ?_
          refine g_dup C (rv_cat _ _) dX5_keepState_64 ?_
          refine gf_5_7 C fl_RX5_274 g1 dX5_keepState_65 ?_
          refine g_iconst (v := 1) C dX5_keepState_68 rfl ?_
          refine g_iadd C dX5_keepState_69 ?_
          refine pf_5_7 C fl_RX5_274 g1 dX5_keepState_70 ?_
          obtain ⟨M11, e12, h⟩ := of_bvv h
          refine g_mem e12 ?_
          cases h
          exact hR 73 _ rfl dX5_keepState_73
  · replace h := of_iff h c3
    refine g_aload_n C dX5_keepState_12 rfl rfl ?_
    obtain ⟨M13, e14, h⟩ := of_obb h
    refine g_callV (As := []) C (ct_X5_forgetOldest C.wf e14) g1 lk_RX5_294 mi_X5_forgetOldest (by decide) cs_0 (by decide) dX5_keepState_13 rfl ?_
    show Go w f 16 [some (rv w r0)] [] M13
    refine g_aload_n C dX5_keepState_16 rfl rfl ?_
    refine gf_5_7 C fl_RX5_274 g1 dX5_keepState_17 ?_
    refine g_if_lt 73 C dX5_keepState_20 (by decide) (fun c15 => ?_) (fun c15 => ?_)
    · replace h := of_ift h c15
      cases h
      exact hR 73 _ rfl dX5_keepState_73
    · replace h := of_iff h c15
      refine g_aload_n C dX5_keepState_23 rfl rfl ?_
      refine gf_5_7 C fl_RX5_274 g1 dX5_keepState_24 ?_
      refine g_aload_n C dX5_keepState_27 rfl rfl ?_
      refine gf_5_2 C fl_RX5_19 g1 dX5_keepState_28 ?_
      refine g_alen C (Or.inr (Or.inr (Or.inr g2))) dX5_keepState_31 ?_
      refine g_icmp_ge 73 C dX5_keepState_32 (by decide) (fun c16 => ?_) (fun c16 => ?_)
      · replace h := of_ift h c16
        cases h
        exact hR 73 _ rfl dX5_keepState_73
      · replace h := of_iff h c16
        refine g_aload_n C dX5_keepState_35 rfl rfl ?_
        refine gf_5_2 C fl_RX5_19 g1 dX5_keepState_36 ?_
        refine g_aload_n C dX5_keepState_39 rfl rfl ?_
        refine gf_5_7 C fl_RX5_274 g1 dX5_keepState_40 ?_
        obtain ⟨g17, h⟩ := of_gdd h
        refine g_aalds C g2 g17 dX5_keepState_43 ?_
        refine g_ifnull 73 C dX5_keepState_44 (by decide) (fun c18 => ?_) (fun c18 => ?_)
        · replace h := of_ift h c18
          cases h
          exact hR 73 _ rfl dX5_keepState_73
        · replace h := of_iff h c18
          refine g_aload_n C dX5_keepState_47 rfl rfl ?_
          refine gf_5_2 C fl_RX5_19 g1 dX5_keepState_48 ?_
          refine g_aload_n C dX5_keepState_51 rfl rfl ?_
          refine gf_5_7 C fl_RX5_274 g1 dX5_keepState_52 ?_
          refine g_aalds C g2 g17 dX5_keepState_55 ?_
          refine g_aload_n C dX5_keepState_56 rfl rfl ?_
          refine gf_5_0 C fl_RX5_10 g1 dX5_keepState_57 ?_
          obtain ⟨g19, h⟩ := of_gdd h
          obtain ⟨M20, e21, h⟩ := of_obb h
          refine g_callV (As := [rv w (fld r0 0)]) C (ct_X4_copyFrom C.wf e21) g19 lk_RX5_287 mi_X4_copyFrom (by decide) cs_0 (by decide) dX5_keepState_60 rfl ?_
          show Go w f 63 [some (rv w r0)] [] M20
          refine g_aload_n C dX5_keepState_63 rfl rfl ?_
          refine g_dup C (rv_cat _ _) dX5_keepState_64 ?_
          refine gf_5_7 C fl_RX5_274 g1 dX5_keepState_65 ?_
          refine g_iconst (v := 1) C dX5_keepState_68 rfl ?_
          refine g_iadd C dX5_keepState_69 ?_
          refine pf_5_7 C fl_RX5_274 g1 dX5_keepState_70 ?_
          obtain ⟨M22, e23, h⟩ := of_bvv h
          refine g_mem e23 ?_
          cases h
          exact hR 73 _ rfl dX5_keepState_73
def f_X5_weight (r0 : Nat) (x1 : Int32) (x2 : Int32) (M : Mem) : Option (Int32 × Mem) := if (f_X5_isKind x1) = 0 then (some ((-1 : Int32), M)) else (if (f_X5_isWithin x2 (1 : Int32) (9 : Int32)) = 0 then (some ((-1 : Int32), M)) else (gdd (kd r0 = 6) <| obb (f_X5_keepState r0 M) fun M4 => gdd (kd (fld r0 0) = 5) <| obb (f_X5_at (fld (fld r0 0) 0) x1 M4) fun y7 => obb (f_X5_put (fld (fld r0 0) 0) x1 x2 M4) fun M9 => some (y7, M9)))
set_option maxRecDepth 100000 in
set_option maxHeartbeats 4000000 in
theorem ct_X5_weight {l : Launch} {w : Om} (hw : Wf w) {r0 : Nat} {x1 : Int32} {x2 : Int32} {M : Mem} {r : Int32} {M2 : Mem} (h : f_X5_weight r0 x1 x2 M = some (r, M2)) : Ct l w yX5_weight cX5_weight 4 (some .int) 5 [rv w r0, .int x1, .int x2] M (some (.int r)) M2 := by
  refine ct_of hw (by decide) (cat_s (rv_cat _ _) (cat_s rfl (cat_s rfl cat_0))) (Nat.le_of_ble_eq_true rfl) (fun f _ C hR => ?_)
  show Go w f 0 [some (rv w r0), some (.int x1), some (.int x2), none] [] M
  unfold f_X5_weight at h
  refine g_iload_n C dX5_weight_0 rfl rfl ?_
  refine g_callS (As := [.int x1]) C (ct_X5_isKind C.wf rfl) lk_RX5_44 mi_X5_isKind (by decide) cs_0 (by decide) dX5_weight_1 rfl ?_
  show Go w f 4 [some (rv w r0), some (.int x1), some (.int x2), none] [.int (f_X5_isKind x1)] M
  refine g_if_eq 17 C dX5_weight_4 (by decide) (fun c1 => ?_) (fun c1 => ?_)
  · replace h := of_ift h c1
    refine g_iconst (v := -1) C dX5_weight_17 rfl ?_
    cases h
    exact hR 18 _ ⟨.int, rfl, rfl⟩ dX5_weight_18
  · replace h := of_iff h c1
    refine g_iload_n C dX5_weight_7 rfl rfl ?_
    refine g_iconst (v := 1) C dX5_weight_8 rfl ?_
    refine g_bipush (v := 9) C dX5_weight_9 rfl ?_
    refine g_callS (As := [.int x2, .int (1 : Int32), .int (9 : Int32)]) C (ct_X5_isWithin C.wf rfl) lk_RX5_48 mi_X5_isWithin (by decide) cs_0 (by decide) dX5_weight_11 rfl ?_
    show Go w f 14 [some (rv w r0), some (.int x1), some (.int x2), none] [.int (f_X5_isWithin x2 (1 : Int32) (9 : Int32))] M
    refine g_if_ne 19 C dX5_weight_14 (by decide) (fun c2 => ?_) (fun c2 => ?_)
    · replace h := of_iff h c2
      refine g_aload_n C dX5_weight_19 rfl rfl ?_
      obtain ⟨g3, h⟩ := of_gdd h
      obtain ⟨M4, e5, h⟩ := of_obb h
      refine g_callV (As := []) C (ct_X5_keepState C.wf e5) g3 lk_RX5_52 mi_X5_keepState (by decide) cs_0 (by decide) dX5_weight_20 rfl ?_
      show Go w f 23 [some (rv w r0), some (.int x1), some (.int x2), none] [] M4
      refine g_aload_n C dX5_weight_23 rfl rfl ?_
      refine gf_5_0 C fl_RX5_10 g3 dX5_weight_24 ?_
      obtain ⟨g6, h⟩ := of_gdd h
      refine gf_4_0 C fl_RX5_55 g6 dX5_weight_27 ?_
      refine g_iload_n C dX5_weight_30 rfl rfl ?_
      obtain ⟨y7, e8, h⟩ := of_obb h
      refine g_callS (As := [rv w (fld (fld r0 0) 0), .int x1]) C (ct_X5_at C.wf e8) lk_RX5_59 mi_X5_at (by decide) cs_0 (by decide) dX5_weight_31 rfl ?_
      show Go w f 34 [some (rv w r0), some (.int x1), some (.int x2), none] [.int y7] M4
      refine g_istore_n C dX5_weight_34 rfl (by decide) rfl (L2 := [some (rv w r0), some (.int x1), some (.int x2), some (.int y7)]) rfl ?_
      refine g_aload_n C dX5_weight_35 rfl rfl ?_
      refine gf_5_0 C fl_RX5_10 g3 dX5_weight_36 ?_
      refine gf_4_0 C fl_RX5_55 g6 dX5_weight_39 ?_
      refine g_iload_n C dX5_weight_42 rfl rfl ?_
      refine g_iload_n C dX5_weight_43 rfl rfl ?_
      obtain ⟨M9, e10, h⟩ := of_obb h
      refine g_callS (As := [rv w (fld (fld r0 0) 0), .int x1, .int x2]) C (ct_X5_put C.wf e10) lk_RX5_63 mi_X5_put (by decide) cs_0 (by decide) dX5_weight_44 rfl ?_
      show Go w f 47 [some (rv w r0), some (.int x1), some (.int x2), some (.int y7)] [] M9
      refine g_iload_n C dX5_weight_47 rfl rfl ?_
      cases h
      exact hR 48 _ ⟨.int, rfl, rfl⟩ dX5_weight_48
    · replace h := of_ift h c2
      refine g_iconst (v := -1) C dX5_weight_17 rfl ?_
      cases h
      exact hR 18 _ ⟨.int, rfl, rfl⟩ dX5_weight_18
def f_X5_set (r0 : Nat) (x1 : Int32) (x2 : Int32) (M : Mem) : Option (Int32 × Mem) := if x1 = 0 then (if (f_X5_isWithin x2 (1 : Int32) (30 : Int32)) = 0 then (if x1 = (1 : Int32) then (if (f_X5_isWithin x2 (9 : Int32) (60 : Int32)) = 0 then (some ((-1 : Int32), M)) else (gdd (kd r0 = 6) <| obb (f_X5_keepState r0 M) fun M24 => gdd (kd (fld r0 0) = 5) <| obb (f_X5_at (fld (fld r0 0) 1) x1 M24) fun y27 => obb (f_X5_put (fld (fld r0 0) 1) x1 x2 M24) fun M29 => some (y27, M29))) else (some ((-1 : Int32), M))) else (gdd (kd r0 = 6) <| obb (f_X5_keepState r0 M) fun M14 => gdd (kd (fld r0 0) = 5) <| obb (f_X5_at (fld (fld r0 0) 1) x1 M14) fun y17 => obb (f_X5_put (fld (fld r0 0) 1) x1 x2 M14) fun M19 => some (y17, M19))) else (if x1 = (1 : Int32) then (if (f_X5_isWithin x2 (9 : Int32) (60 : Int32)) = 0 then (some ((-1 : Int32), M)) else (gdd (kd r0 = 6) <| obb (f_X5_keepState r0 M) fun M5 => gdd (kd (fld r0 0) = 5) <| obb (f_X5_at (fld (fld r0 0) 1) x1 M5) fun y8 => obb (f_X5_put (fld (fld r0 0) 1) x1 x2 M5) fun M10 => some (y8, M10))) else (some ((-1 : Int32), M)))
set_option maxRecDepth 100000 in
set_option maxHeartbeats 4000000 in
theorem ct_X5_set {l : Launch} {w : Om} (hw : Wf w) {r0 : Nat} {x1 : Int32} {x2 : Int32} {M : Mem} {r : Int32} {M2 : Mem} (h : f_X5_set r0 x1 x2 M = some (r, M2)) : Ct l w yX5_set cX5_set 5 (some .int) 5 [rv w r0, .int x1, .int x2] M (some (.int r)) M2 := by
  refine ct_of hw (by decide) (cat_s (rv_cat _ _) (cat_s rfl (cat_s rfl cat_0))) (Nat.le_of_ble_eq_true rfl) (fun f _ C hR => ?_)
  show Go w f 0 [some (rv w r0), some (.int x1), some (.int x2), none, none] [] M
  unfold f_X5_set at h
  refine g_iload_n C dX5_set_0 rfl rfl ?_
  refine g_if_ne 14 C dX5_set_1 (by decide) (fun c1 => ?_) (fun c1 => ?_)
  · replace h := of_iff h c1
    refine g_iload_n C dX5_set_14 rfl rfl ?_
    refine g_iconst (v := 1) C dX5_set_15 rfl ?_
    refine g_icmp_ne 34 C dX5_set_16 (by decide) (fun c2 => ?_) (fun c2 => ?_)
    · replace h := of_iff h c2
      refine g_iconst (v := 0) C dX5_set_34 rfl ?_
      refine g_istore_n C dX5_set_35 rfl (by decide) rfl (L2 := [some (rv w r0), some (.int x1), some (.int x2), some (.int (0 : Int32)), none]) rfl ?_
      refine g_iload_n C dX5_set_36 rfl rfl ?_
      refine g_if_ne 42 C dX5_set_37 (by decide) (fun c => absurd c (by decide)) (fun _ => ?_)
      refine g_iconst (v := -1) C dX5_set_40 rfl ?_
      cases h
      exact hR 41 _ ⟨.int, rfl, rfl⟩ dX5_set_41
    · replace h := of_ift h c2
      refine g_iload_n C dX5_set_19 rfl rfl ?_
      refine g_bipush (v := 9) C dX5_set_20 rfl ?_
      refine g_bipush (v := 60) C dX5_set_22 rfl ?_
      refine g_callS (As := [.int x2, .int (9 : Int32), .int (60 : Int32)]) C (ct_X5_isWithin C.wf rfl) lk_RX5_48 mi_X5_isWithin (by decide) cs_0 (by decide) dX5_set_24 rfl ?_
      show Go w f 27 [some (rv w r0), some (.int x1), some (.int x2), none, none] [.int (f_X5_isWithin x2 (9 : Int32) (60 : Int32))] M
      refine g_if_eq 34 C dX5_set_27 (by decide) (fun c3 => ?_) (fun c3 => ?_)
      · replace h := of_ift h c3
        refine g_iconst (v := 0) C dX5_set_34 rfl ?_
        refine g_istore_n C dX5_set_35 rfl (by decide) rfl (L2 := [some (rv w r0), some (.int x1), some (.int x2), some (.int (0 : Int32)), none]) rfl ?_
        refine g_iload_n C dX5_set_36 rfl rfl ?_
        refine g_if_ne 42 C dX5_set_37 (by decide) (fun c => absurd c (by decide)) (fun _ => ?_)
        refine g_iconst (v := -1) C dX5_set_40 rfl ?_
        cases h
        exact hR 41 _ ⟨.int, rfl, rfl⟩ dX5_set_41
      · replace h := of_iff h c3
        refine g_iconst (v := 1) C dX5_set_30 rfl ?_
        refine g_goto 35 C dX5_set_31 (by decide) ?_
        refine g_istore_n C dX5_set_35 rfl (by decide) rfl (L2 := [some (rv w r0), some (.int x1), some (.int x2), some (.int (1 : Int32)), none]) rfl ?_
        refine g_iload_n C dX5_set_36 rfl rfl ?_
        refine g_if_ne 42 C dX5_set_37 (by decide) (fun _ => ?_) (fun c => absurd c (by decide))
        refine g_aload_n C dX5_set_42 rfl rfl ?_
        obtain ⟨g4, h⟩ := of_gdd h
        obtain ⟨M5, e6, h⟩ := of_obb h
        refine g_callV (As := []) C (ct_X5_keepState C.wf e6) g4 lk_RX5_52 mi_X5_keepState (by decide) cs_0 (by decide) dX5_set_43 rfl ?_
        show Go w f 46 [some (rv w r0), some (.int x1), some (.int x2), some (.int (1 : Int32)), none] [] M5
        refine g_aload_n C dX5_set_46 rfl rfl ?_
        refine gf_5_0 C fl_RX5_10 g4 dX5_set_47 ?_
        obtain ⟨g7, h⟩ := of_gdd h
        refine gf_4_1 C fl_RX5_67 g7 dX5_set_50 ?_
        refine g_iload_n C dX5_set_53 rfl rfl ?_
        obtain ⟨y8, e9, h⟩ := of_obb h
        refine g_callS (As := [rv w (fld (fld r0 0) 1), .int x1]) C (ct_X5_at C.wf e9) lk_RX5_59 mi_X5_at (by decide) cs_0 (by decide) dX5_set_54 rfl ?_
        show Go w f 57 [some (rv w r0), some (.int x1), some (.int x2), some (.int (1 : Int32)), none] [.int y8] M5
        refine g_istore C dX5_set_57 (by decide) rfl (L2 := [some (rv w r0), some (.int x1), some (.int x2), some (.int (1 : Int32)), some (.int y8)]) rfl ?_
        refine g_aload_n C dX5_set_59 rfl rfl ?_
        refine gf_5_0 C fl_RX5_10 g4 dX5_set_60 ?_
        refine gf_4_1 C fl_RX5_67 g7 dX5_set_63 ?_
        refine g_iload_n C dX5_set_66 rfl rfl ?_
        refine g_iload_n C dX5_set_67 rfl rfl ?_
        obtain ⟨M10, e11, h⟩ := of_obb h
        refine g_callS (As := [rv w (fld (fld r0 0) 1), .int x1, .int x2]) C (ct_X5_put C.wf e11) lk_RX5_63 mi_X5_put (by decide) cs_0 (by decide) dX5_set_68 rfl ?_
        show Go w f 71 [some (rv w r0), some (.int x1), some (.int x2), some (.int (1 : Int32)), some (.int y8)] [] M10
        refine g_iload C dX5_set_71 rfl ?_
        cases h
        exact hR 73 _ ⟨.int, rfl, rfl⟩ dX5_set_73
  · replace h := of_ift h c1
    refine g_iload_n C dX5_set_4 rfl rfl ?_
    refine g_iconst (v := 1) C dX5_set_5 rfl ?_
    refine g_bipush (v := 30) C dX5_set_6 rfl ?_
    refine g_callS (As := [.int x2, .int (1 : Int32), .int (30 : Int32)]) C (ct_X5_isWithin C.wf rfl) lk_RX5_48 mi_X5_isWithin (by decide) cs_0 (by decide) dX5_set_8 rfl ?_
    show Go w f 11 [some (rv w r0), some (.int x1), some (.int x2), none, none] [.int (f_X5_isWithin x2 (1 : Int32) (30 : Int32))] M
    refine g_if_ne 30 C dX5_set_11 (by decide) (fun c12 => ?_) (fun c12 => ?_)
    · replace h := of_iff h c12
      refine g_iconst (v := 1) C dX5_set_30 rfl ?_
      refine g_goto 35 C dX5_set_31 (by decide) ?_
      refine g_istore_n C dX5_set_35 rfl (by decide) rfl (L2 := [some (rv w r0), some (.int x1), some (.int x2), some (.int (1 : Int32)), none]) rfl ?_
      refine g_iload_n C dX5_set_36 rfl rfl ?_
      refine g_if_ne 42 C dX5_set_37 (by decide) (fun _ => ?_) (fun c => absurd c (by decide))
      refine g_aload_n C dX5_set_42 rfl rfl ?_
      obtain ⟨g13, h⟩ := of_gdd h
      obtain ⟨M14, e15, h⟩ := of_obb h
      refine g_callV (As := []) C (ct_X5_keepState C.wf e15) g13 lk_RX5_52 mi_X5_keepState (by decide) cs_0 (by decide) dX5_set_43 rfl ?_
      show Go w f 46 [some (rv w r0), some (.int x1), some (.int x2), some (.int (1 : Int32)), none] [] M14
      refine g_aload_n C dX5_set_46 rfl rfl ?_
      refine gf_5_0 C fl_RX5_10 g13 dX5_set_47 ?_
      obtain ⟨g16, h⟩ := of_gdd h
      refine gf_4_1 C fl_RX5_67 g16 dX5_set_50 ?_
      refine g_iload_n C dX5_set_53 rfl rfl ?_
      obtain ⟨y17, e18, h⟩ := of_obb h
      refine g_callS (As := [rv w (fld (fld r0 0) 1), .int x1]) C (ct_X5_at C.wf e18) lk_RX5_59 mi_X5_at (by decide) cs_0 (by decide) dX5_set_54 rfl ?_
      show Go w f 57 [some (rv w r0), some (.int x1), some (.int x2), some (.int (1 : Int32)), none] [.int y17] M14
      refine g_istore C dX5_set_57 (by decide) rfl (L2 := [some (rv w r0), some (.int x1), some (.int x2), some (.int (1 : Int32)), some (.int y17)]) rfl ?_
      refine g_aload_n C dX5_set_59 rfl rfl ?_
      refine gf_5_0 C fl_RX5_10 g13 dX5_set_60 ?_
      refine gf_4_1 C fl_RX5_67 g16 dX5_set_63 ?_
      refine g_iload_n C dX5_set_66 rfl rfl ?_
      refine g_iload_n C dX5_set_67 rfl rfl ?_
      obtain ⟨M19, e20, h⟩ := of_obb h
      refine g_callS (As := [rv w (fld (fld r0 0) 1), .int x1, .int x2]) C (ct_X5_put C.wf e20) lk_RX5_63 mi_X5_put (by decide) cs_0 (by decide) dX5_set_68 rfl ?_
      show Go w f 71 [some (rv w r0), some (.int x1), some (.int x2), some (.int (1 : Int32)), some (.int y17)] [] M19
      refine g_iload C dX5_set_71 rfl ?_
      cases h
      exact hR 73 _ ⟨.int, rfl, rfl⟩ dX5_set_73
    · replace h := of_ift h c12
      refine g_iload_n C dX5_set_14 rfl rfl ?_
      refine g_iconst (v := 1) C dX5_set_15 rfl ?_
      refine g_icmp_ne 34 C dX5_set_16 (by decide) (fun c21 => ?_) (fun c21 => ?_)
      · replace h := of_iff h c21
        refine g_iconst (v := 0) C dX5_set_34 rfl ?_
        refine g_istore_n C dX5_set_35 rfl (by decide) rfl (L2 := [some (rv w r0), some (.int x1), some (.int x2), some (.int (0 : Int32)), none]) rfl ?_
        refine g_iload_n C dX5_set_36 rfl rfl ?_
        refine g_if_ne 42 C dX5_set_37 (by decide) (fun c => absurd c (by decide)) (fun _ => ?_)
        refine g_iconst (v := -1) C dX5_set_40 rfl ?_
        cases h
        exact hR 41 _ ⟨.int, rfl, rfl⟩ dX5_set_41
      · replace h := of_ift h c21
        refine g_iload_n C dX5_set_19 rfl rfl ?_
        refine g_bipush (v := 9) C dX5_set_20 rfl ?_
        refine g_bipush (v := 60) C dX5_set_22 rfl ?_
        refine g_callS (As := [.int x2, .int (9 : Int32), .int (60 : Int32)]) C (ct_X5_isWithin C.wf rfl) lk_RX5_48 mi_X5_isWithin (by decide) cs_0 (by decide) dX5_set_24 rfl ?_
        show Go w f 27 [some (rv w r0), some (.int x1), some (.int x2), none, none] [.int (f_X5_isWithin x2 (9 : Int32) (60 : Int32))] M
        refine g_if_eq 34 C dX5_set_27 (by decide) (fun c22 => ?_) (fun c22 => ?_)
        · replace h := of_ift h c22
          refine g_iconst (v := 0) C dX5_set_34 rfl ?_
          refine g_istore_n C dX5_set_35 rfl (by decide) rfl (L2 := [some (rv w r0), some (.int x1), some (.int x2), some (.int (0 : Int32)), none]) rfl ?_
          refine g_iload_n C dX5_set_36 rfl rfl ?_
          refine g_if_ne 42 C dX5_set_37 (by decide) (fun c => absurd c (by decide)) (fun _ => ?_)
          refine g_iconst (v := -1) C dX5_set_40 rfl ?_
          cases h
          exact hR 41 _ ⟨.int, rfl, rfl⟩ dX5_set_41
        · replace h := of_iff h c22
          refine g_iconst (v := 1) C dX5_set_30 rfl ?_
          refine g_goto 35 C dX5_set_31 (by decide) ?_
          refine g_istore_n C dX5_set_35 rfl (by decide) rfl (L2 := [some (rv w r0), some (.int x1), some (.int x2), some (.int (1 : Int32)), none]) rfl ?_
          refine g_iload_n C dX5_set_36 rfl rfl ?_
          refine g_if_ne 42 C dX5_set_37 (by decide) (fun _ => ?_) (fun c => absurd c (by decide))
          refine g_aload_n C dX5_set_42 rfl rfl ?_
          obtain ⟨g23, h⟩ := of_gdd h
          obtain ⟨M24, e25, h⟩ := of_obb h
          refine g_callV (As := []) C (ct_X5_keepState C.wf e25) g23 lk_RX5_52 mi_X5_keepState (by decide) cs_0 (by decide) dX5_set_43 rfl ?_
          show Go w f 46 [some (rv w r0), some (.int x1), some (.int x2), some (.int (1 : Int32)), none] [] M24
          refine g_aload_n C dX5_set_46 rfl rfl ?_
          refine gf_5_0 C fl_RX5_10 g23 dX5_set_47 ?_
          obtain ⟨g26, h⟩ := of_gdd h
          refine gf_4_1 C fl_RX5_67 g26 dX5_set_50 ?_
          refine g_iload_n C dX5_set_53 rfl rfl ?_
          obtain ⟨y27, e28, h⟩ := of_obb h
          refine g_callS (As := [rv w (fld (fld r0 0) 1), .int x1]) C (ct_X5_at C.wf e28) lk_RX5_59 mi_X5_at (by decide) cs_0 (by decide) dX5_set_54 rfl ?_
          show Go w f 57 [some (rv w r0), some (.int x1), some (.int x2), some (.int (1 : Int32)), none] [.int y27] M24
          refine g_istore C dX5_set_57 (by decide) rfl (L2 := [some (rv w r0), some (.int x1), some (.int x2), some (.int (1 : Int32)), some (.int y27)]) rfl ?_
          refine g_aload_n C dX5_set_59 rfl rfl ?_
          refine gf_5_0 C fl_RX5_10 g23 dX5_set_60 ?_
          refine gf_4_1 C fl_RX5_67 g26 dX5_set_63 ?_
          refine g_iload_n C dX5_set_66 rfl rfl ?_
          refine g_iload_n C dX5_set_67 rfl rfl ?_
          obtain ⟨M29, e30, h⟩ := of_obb h
          refine g_callS (As := [rv w (fld (fld r0 0) 1), .int x1, .int x2]) C (ct_X5_put C.wf e30) lk_RX5_63 mi_X5_put (by decide) cs_0 (by decide) dX5_set_68 rfl ?_
          show Go w f 71 [some (rv w r0), some (.int x1), some (.int x2), some (.int (1 : Int32)), some (.int y27)] [] M29
          refine g_iload C dX5_set_71 rfl ?_
          cases h
          exact hR 73 _ ⟨.int, rfl, rfl⟩ dX5_set_73
def f_X5_isAboutKinds (x0 : Int32) (x1 : Int32) (x2 : Int32) : Int32 := if (f_X5_isKind x0) = 0 then ((0 : Int32)) else (if (f_X5_isKind x1) = 0 then ((0 : Int32)) else (if (f_X5_isWithin x2 (1 : Int32) (20 : Int32)) = 0 then ((0 : Int32)) else ((1 : Int32))))
set_option maxRecDepth 100000 in
set_option maxHeartbeats 4000000 in
theorem ct_X5_isAboutKinds {l : Launch} {w : Om} (hw : Wf w) {x0 : Int32} {x1 : Int32} {x2 : Int32}  {M : Mem} {r : Int32} (h : f_X5_isAboutKinds x0 x1 x2 = r) : Ct l w yX5_isAboutKinds cX5_isAboutKinds 3 (some .boolean) 2 [.int x0, .int x1, .int x2] M (some (.int r)) M := by
  refine ct_of hw (by decide) (cat_s rfl (cat_s rfl (cat_s rfl cat_0))) (Nat.le_of_ble_eq_true rfl) (fun f _ C hR => ?_)
  show Go w f 0 [some (.int x0), some (.int x1), some (.int x2)] [] M
  unfold f_X5_isAboutKinds at h
  refine g_iload_n C dX5_isAboutKinds_0 rfl rfl ?_
  refine g_callS (As := [.int x0]) C (ct_X5_isKind C.wf rfl) lk_RX5_44 mi_X5_isKind (by decide) cs_0 (by decide) dX5_isAboutKinds_1 rfl ?_
  show Go w f 4 [some (.int x0), some (.int x1), some (.int x2)] [.int (f_X5_isKind x0)] M
  refine g_if_eq 28 C dX5_isAboutKinds_4 (by decide) (fun c1 => ?_) (fun c1 => ?_)
  · replace h := of_ift h c1
    refine g_iconst (v := 0) C dX5_isAboutKinds_28 rfl ?_
    cases h
    exact hR 29 _ ⟨.boolean, rfl, rfl⟩ dX5_isAboutKinds_29
  · replace h := of_iff h c1
    refine g_iload_n C dX5_isAboutKinds_7 rfl rfl ?_
    refine g_callS (As := [.int x1]) C (ct_X5_isKind C.wf rfl) lk_RX5_44 mi_X5_isKind (by decide) cs_0 (by decide) dX5_isAboutKinds_8 rfl ?_
    show Go w f 11 [some (.int x0), some (.int x1), some (.int x2)] [.int (f_X5_isKind x1)] M
    refine g_if_eq 28 C dX5_isAboutKinds_11 (by decide) (fun c2 => ?_) (fun c2 => ?_)
    · replace h := of_ift h c2
      refine g_iconst (v := 0) C dX5_isAboutKinds_28 rfl ?_
      cases h
      exact hR 29 _ ⟨.boolean, rfl, rfl⟩ dX5_isAboutKinds_29
    · replace h := of_iff h c2
      refine g_iload_n C dX5_isAboutKinds_14 rfl rfl ?_
      refine g_iconst (v := 1) C dX5_isAboutKinds_15 rfl ?_
      refine g_bipush (v := 20) C dX5_isAboutKinds_16 rfl ?_
      refine g_callS (As := [.int x2, .int (1 : Int32), .int (20 : Int32)]) C (ct_X5_isWithin C.wf rfl) lk_RX5_48 mi_X5_isWithin (by decide) cs_0 (by decide) dX5_isAboutKinds_18 rfl ?_
      show Go w f 21 [some (.int x0), some (.int x1), some (.int x2)] [.int (f_X5_isWithin x2 (1 : Int32) (20 : Int32))] M
      refine g_if_eq 28 C dX5_isAboutKinds_21 (by decide) (fun c3 => ?_) (fun c3 => ?_)
      · replace h := of_ift h c3
        refine g_iconst (v := 0) C dX5_isAboutKinds_28 rfl ?_
        cases h
        exact hR 29 _ ⟨.boolean, rfl, rfl⟩ dX5_isAboutKinds_29
      · replace h := of_iff h c3
        refine g_iconst (v := 1) C dX5_isAboutKinds_24 rfl ?_
        refine g_goto 29 C dX5_isAboutKinds_25 (by decide) ?_
        cases h
        exact hR 29 _ ⟨.boolean, rfl, rfl⟩ dX5_isAboutKinds_29
theorem zb_X5_isAboutKinds (x0 x1 x2 : Int32) : isb (f_X5_isAboutKinds x0 x1 x2) = true := by
  unfold f_X5_isAboutKinds
  repeat' split
  all_goals first | decide | exact zb_X5_isKind .. | exact zb_X5_isKind .. | exact zb_X5_isWithin ..
def f_X4_findForce_2 : Nat → Nat → Int32 → Mem → Option Mem
  | 0, _, _, _ => none
  | n + 1, r0, x1, M => gdd (kd r0 = 5) <| if (gI M r0 5) ≤ x1 then (some M) else (obb (f_X4_rulingAt r0 x1 M) fun y203 => if y203 = 0 then (bvv (x1 + (1 : Int32)) fun y206 => (f_X4_findForce_2 n) r0 y206 M) else (gdd (kd y203 = 3) <| obb (f_X4_rulingAt r0 (gI M y203 4) M) fun y209 => if (gI M y203 5) = 0 then (if y209 = 0 then (bvv (sI M y203 6 (1 : Int32)) fun M217 => bvv (x1 + (1 : Int32)) fun y219 => (f_X4_findForce_2 n) r0 y219 M217) else (gdd (kd y209 = 3) <| if (gI M y209 6) = 0 then (bvv (sI M y203 6 (0 : Int32)) fun M223 => bvv (x1 + (1 : Int32)) fun y225 => (f_X4_findForce_2 n) r0 y225 M223) else (bvv (sI M y203 6 (1 : Int32)) fun M227 => bvv (x1 + (1 : Int32)) fun y229 => (f_X4_findForce_2 n) r0 y229 M227))) else (bvv (sI M y203 6 (0 : Int32)) fun M212 => bvv (x1 + (1 : Int32)) fun y214 => (f_X4_findForce_2 n) r0 y214 M212)))
set_option maxRecDepth 100000 in
set_option maxHeartbeats 4000000 in
theorem t_X4_findForce_2 {w : Om} {f : Fr} {M2 : Mem} (C : Cx w f RX4 cX4_findForce 4 1) (hR : Rt w f cX4_findForce none none M2)   : ∀ (n : Nat) (r0 : Nat) (x1 : Int32) (M : Mem), f_X4_findForce_2 n r0 x1 M = some M2 → Go w f 2 [some (rv w r0), some (.int x1), none, none] [] M := by
  intro n
  induction n with
  | zero =>
    intro r0 x1 M h
    cases h
  | succ n ih =>
    intro r0 x1 M h
    rw [f_X4_findForce_2] at h
    refine g_iload_n C dX4_findForce_2 rfl rfl ?_
    refine g_aload_n C dX4_findForce_3 rfl rfl ?_
    obtain ⟨g201, h⟩ := of_gdd h
    refine gf_4_5 C fl_RX4_44 g201 dX4_findForce_4 ?_
    refine g_icmp_ge 62 C dX4_findForce_7 (by decide) (fun c202 => ?_) (fun c202 => ?_)
    · replace h := of_ift h c202
      cases h
      exact hR 62 _ rfl dX4_findForce_62
    · replace h := of_iff h c202
      refine g_aload_n C dX4_findForce_10 rfl rfl ?_
      refine g_iload_n C dX4_findForce_11 rfl rfl ?_
      obtain ⟨y203, e204, h⟩ := of_obb h
      refine g_callV (As := [.int x1]) C (ct_X4_rulingAt C.wf e204) g201 lk_RX4_55 mi_X4_rulingAt (by decide) cs_0 (by decide) dX4_findForce_12 rfl ?_
      show Go w f 15 [some (rv w r0), some (.int x1), none, none] [rv w y203] M
      refine g_astore_n C dX4_findForce_15 rfl (by decide) rfl (L2 := [some (rv w r0), some (.int x1), some (rv w y203), none]) rfl ?_
      refine g_aload_n C dX4_findForce_16 rfl rfl ?_
      refine g_ifnull 56 C dX4_findForce_17 (by decide) (fun c205 => ?_) (fun c205 => ?_)
      · replace h := of_ift h c205
        obtain ⟨y206, e207, h⟩ := of_bvv h
        refine g_iinc (v := y206) C dX4_findForce_56 rfl e207.symm (by decide) (rv_cat _ _) (L2 := [some (rv w r0), some (.int y206), some (rv w y203), none]) rfl ?_
        refine g_goto 2 C dX4_findForce_59 (by decide) ?_
        refine g_mask (bs := [true, true, false, false]) (L2 := [some (rv w r0), some (.int y206), none, none]) rfl ?_
        exact ih r0 y206 M h
      · replace h := of_iff h c205
        refine g_aload_n C dX4_findForce_20 rfl rfl ?_
        refine g_aload_n C dX4_findForce_21 rfl rfl ?_
        obtain ⟨g208, h⟩ := of_gdd h
        refine gf_2_4 C fl_RX4_110 g208 dX4_findForce_22 ?_
        obtain ⟨y209, e210, h⟩ := of_obb h
        refine g_callV (As := [.int (gI M y203 4)]) C (ct_X4_rulingAt C.wf e210) g201 lk_RX4_55 mi_X4_rulingAt (by decide) cs_0 (by decide) dX4_findForce_25 rfl ?_
        show Go w f 28 [some (rv w r0), some (.int x1), some (rv w y203), none] [rv w y209] M
        refine g_astore_n C dX4_findForce_28 rfl (by decide) (rv_cat _ _) (L2 := [some (rv w r0), some (.int x1), some (rv w y203), some (rv w y209)]) rfl ?_
        refine g_aload_n C dX4_findForce_29 rfl rfl ?_
        refine g_aload_n C dX4_findForce_30 rfl rfl ?_
        refine gf_2_5 C fl_RX4_113 g208 dX4_findForce_31 ?_
        refine g_if_ne 52 C dX4_findForce_34 (by decide) (fun c211 => ?_) (fun c211 => ?_)
        · replace h := of_iff h c211
          refine g_iconst (v := 0) C dX4_findForce_52 rfl ?_
          refine pf_2_6 C fl_RX4_119 g208 (isb_0) dX4_findForce_53 ?_
          obtain ⟨M212, e213, h⟩ := of_bvv h
          refine g_mem e213 ?_
          obtain ⟨y214, e215, h⟩ := of_bvv h
          refine g_iinc (v := y214) C dX4_findForce_56 rfl e215.symm (by decide) (rv_cat _ _) (L2 := [some (rv w r0), some (.int y214), some (rv w y203), some (rv w y209)]) rfl ?_
          refine g_goto 2 C dX4_findForce_59 (by decide) ?_
          refine g_mask (bs := [true, true, false, false]) (L2 := [some (rv w r0), some (.int y214), none, none]) rfl ?_
          exact ih r0 y214 M212 h
        · replace h := of_ift h c211
          refine g_aload_n C dX4_findForce_37 rfl rfl ?_
          refine g_ifnull 48 C dX4_findForce_38 (by decide) (fun c216 => ?_) (fun c216 => ?_)
          · replace h := of_ift h c216
            refine g_iconst (v := 1) C dX4_findForce_48 rfl ?_
            refine g_goto 53 C dX4_findForce_49 (by decide) ?_
            refine pf_2_6 C fl_RX4_119 g208 (isb_1) dX4_findForce_53 ?_
            obtain ⟨M217, e218, h⟩ := of_bvv h
            refine g_mem e218 ?_
            obtain ⟨y219, e220, h⟩ := of_bvv h
            refine g_iinc (v := y219) C dX4_findForce_56 rfl e220.symm (by decide) (rv_cat _ _) (L2 := [some (rv w r0), some (.int y219), some (rv w y203), some (rv w y209)]) rfl ?_
            refine g_goto 2 C dX4_findForce_59 (by decide) ?_
            refine g_mask (bs := [true, true, false, false]) (L2 := [some (rv w r0), some (.int y219), none, none]) rfl ?_
            exact ih r0 y219 M217 h
          · replace h := of_iff h c216
            refine g_aload_n C dX4_findForce_41 rfl rfl ?_
            obtain ⟨g221, h⟩ := of_gdd h
            refine gf_2_6 C fl_RX4_119 g221 dX4_findForce_42 ?_
            refine g_if_eq 52 C dX4_findForce_45 (by decide) (fun c222 => ?_) (fun c222 => ?_)
            · replace h := of_ift h c222
              refine g_iconst (v := 0) C dX4_findForce_52 rfl ?_
              refine pf_2_6 C fl_RX4_119 g208 (isb_0) dX4_findForce_53 ?_
              obtain ⟨M223, e224, h⟩ := of_bvv h
              refine g_mem e224 ?_
              obtain ⟨y225, e226, h⟩ := of_bvv h
              refine g_iinc (v := y225) C dX4_findForce_56 rfl e226.symm (by decide) (rv_cat _ _) (L2 := [some (rv w r0), some (.int y225), some (rv w y203), some (rv w y209)]) rfl ?_
              refine g_goto 2 C dX4_findForce_59 (by decide) ?_
              refine g_mask (bs := [true, true, false, false]) (L2 := [some (rv w r0), some (.int y225), none, none]) rfl ?_
              exact ih r0 y225 M223 h
            · replace h := of_iff h c222
              refine g_iconst (v := 1) C dX4_findForce_48 rfl ?_
              refine g_goto 53 C dX4_findForce_49 (by decide) ?_
              refine pf_2_6 C fl_RX4_119 g208 (isb_1) dX4_findForce_53 ?_
              obtain ⟨M227, e228, h⟩ := of_bvv h
              refine g_mem e228 ?_
              obtain ⟨y229, e230, h⟩ := of_bvv h
              refine g_iinc (v := y229) C dX4_findForce_56 rfl e230.symm (by decide) (rv_cat _ _) (L2 := [some (rv w r0), some (.int y229), some (rv w y203), some (rv w y209)]) rfl ?_
              refine g_goto 2 C dX4_findForce_59 (by decide) ?_
              refine g_mask (bs := [true, true, false, false]) (L2 := [some (rv w r0), some (.int y229), none, none]) rfl ?_
              exact ih r0 y229 M227 h
def f_X4_findForce (r0 : Nat) (M : Mem) : Option Mem := f_X4_findForce_2 FU r0 (0 : Int32) M
set_option maxRecDepth 100000 in
set_option maxHeartbeats 4000000 in
theorem ct_X4_findForce {l : Launch} {w : Om} (hw : Wf w) {r0 : Nat} {M : Mem} {M2 : Mem} (h : f_X4_findForce r0 M = some M2) : Ct l w yX4_findForce cX4_findForce 4 none 1 [rv w r0] M none M2 := by
  refine ct_of hw (by decide) (cat_s (rv_cat _ _) cat_0) (Nat.le_of_ble_eq_true rfl) (fun f _ C hR => ?_)
  show Go w f 0 [some (rv w r0), none, none, none] [] M
  unfold f_X4_findForce at h
  refine g_iconst (v := 0) C dX4_findForce_0 rfl ?_
  refine g_istore_n C dX4_findForce_1 rfl (by decide) (rv_cat _ _) (L2 := [some (rv w r0), some (.int (0 : Int32)), none, none]) rfl ?_
  exact t_X4_findForce_2 C hR _ r0 (0 : Int32) M h
def f_X4_addRuling (r0 : Nat) (x1 : Int32) (x2 : Int32) (x3 : Int32) (x4 : Int32) (x5 : Int32) (M : Mem) : Option Mem := gdd (kd r0 = 5) <| bvv (sI M r0 5 ((gI M r0 5) + (1 : Int32))) fun M2 => obb (f_X4_rulingAt r0 ((gI M2 r0 5) - (1 : Int32)) M2) fun y4 => if y4 = 0 then (obb (f_X4_findForce r0 M2) fun M7 => some M7) else (gdd (kd y4 = 3) <| bvv (sI M2 y4 0 x1) fun M10 => bvv (sI M10 y4 1 x2) fun M12 => gdd (isb x3 = true) <| bvv (sI M12 y4 2 x3) fun M15 => bvv (sI M15 y4 3 x4) fun M17 => bvv (sI M17 y4 4 x5) fun M19 => bvv (sI M19 y4 5 (0 : Int32)) fun M21 => obb (f_X4_findForce r0 M21) fun M23 => some M23)
set_option maxRecDepth 100000 in
set_option maxHeartbeats 4000000 in
theorem ct_X4_addRuling {l : Launch} {w : Om} (hw : Wf w) {r0 : Nat} {x1 : Int32} {x2 : Int32} {x3 : Int32} {x4 : Int32} {x5 : Int32} {M : Mem} {M2 : Mem} (h : f_X4_addRuling r0 x1 x2 x3 x4 x5 M = some M2) : Ct l w yX4_addRuling cX4_addRuling 7 none 2 [rv w r0, .int x1, .int x2, .int x3, .int x4, .int x5] M none M2 := by
  refine ct_of hw (by decide) (cat_s (rv_cat _ _) (cat_s rfl (cat_s rfl (cat_s rfl (cat_s rfl (cat_s rfl cat_0)))))) (Nat.le_of_ble_eq_true rfl) (fun f _ C hR => ?_)
  show Go w f 0 [some (rv w r0), some (.int x1), some (.int x2), some (.int x3), some (.int x4), some (.int x5), none] [] M
  unfold f_X4_addRuling at h
  refine g_aload_n C dX4_addRuling_0 rfl rfl ?_
  refine g_dup C (rv_cat _ _) dX4_addRuling_1 ?_
  obtain ⟨g1, h⟩ := of_gdd h
  refine gf_4_5 C fl_RX4_44 g1 dX4_addRuling_2 ?_
  refine g_iconst (v := 1) C dX4_addRuling_5 rfl ?_
  refine g_iadd C dX4_addRuling_6 ?_
  refine pf_4_5 C fl_RX4_44 g1 dX4_addRuling_7 ?_
  obtain ⟨M2, e3, h⟩ := of_bvv h
  refine g_mem e3 ?_
  refine g_aload_n C dX4_addRuling_10 rfl rfl ?_
  refine g_aload_n C dX4_addRuling_11 rfl rfl ?_
  refine gf_4_5 C fl_RX4_44 g1 dX4_addRuling_12 ?_
  refine g_iconst (v := 1) C dX4_addRuling_15 rfl ?_
  refine g_isub C dX4_addRuling_16 ?_
  obtain ⟨y4, e5, h⟩ := of_obb h
  refine g_callV (As := [.int ((gI M2 r0 5) - (1 : Int32))]) C (ct_X4_rulingAt C.wf e5) g1 lk_RX4_55 mi_X4_rulingAt (by decide) cs_0 (by decide) dX4_addRuling_17 rfl ?_
  show Go w f 20 [some (rv w r0), some (.int x1), some (.int x2), some (.int x3), some (.int x4), some (.int x5), none] [rv w y4] M2
  refine g_astore C dX4_addRuling_20 (by decide) rfl (L2 := [some (rv w r0), some (.int x1), some (.int x2), some (.int x3), some (.int x4), some (.int x5), some (rv w y4)]) rfl ?_
  refine g_aload C dX4_addRuling_22 rfl ?_
  refine g_ifnull 65 C dX4_addRuling_24 (by decide) (fun c6 => ?_) (fun c6 => ?_)
  · replace h := of_ift h c6
    refine g_aload_n C dX4_addRuling_65 rfl rfl ?_
    obtain ⟨M7, e8, h⟩ := of_obb h
    refine g_callV (As := []) C (ct_X4_findForce C.wf e8) g1 lk_RX4_116 mi_X4_findForce (by decide) cs_0 (by decide) dX4_addRuling_66 rfl ?_
    show Go w f 69 [some (rv w r0), some (.int x1), some (.int x2), some (.int x3), some (.int x4), some (.int x5), some (rv w y4)] [] M7
    cases h
    exact hR 69 _ rfl dX4_addRuling_69
  · replace h := of_iff h c6
    refine g_aload C dX4_addRuling_27 rfl ?_
    refine g_iload_n C dX4_addRuling_29 rfl rfl ?_
    obtain ⟨g9, h⟩ := of_gdd h
    refine pf_2_0 C fl_RX4_97 g9 dX4_addRuling_30 ?_
    obtain ⟨M10, e11, h⟩ := of_bvv h
    refine g_mem e11 ?_
    refine g_aload C dX4_addRuling_33 rfl ?_
    refine g_iload_n C dX4_addRuling_35 rfl rfl ?_
    refine pf_2_1 C fl_RX4_100 g9 dX4_addRuling_36 ?_
    obtain ⟨M12, e13, h⟩ := of_bvv h
    refine g_mem e13 ?_
    refine g_aload C dX4_addRuling_39 rfl ?_
    refine g_iload_n C dX4_addRuling_41 rfl rfl ?_
    obtain ⟨g14, h⟩ := of_gdd h
    refine pf_2_2 C fl_RX4_103 g9 g14 dX4_addRuling_42 ?_
    obtain ⟨M15, e16, h⟩ := of_bvv h
    refine g_mem e16 ?_
    refine g_aload C dX4_addRuling_45 rfl ?_
    refine g_iload C dX4_addRuling_47 rfl ?_
    refine pf_2_3 C fl_RX4_107 g9 dX4_addRuling_49 ?_
    obtain ⟨M17, e18, h⟩ := of_bvv h
    refine g_mem e18 ?_
    refine g_aload C dX4_addRuling_52 rfl ?_
    refine g_iload C dX4_addRuling_54 rfl ?_
    refine pf_2_4 C fl_RX4_110 g9 dX4_addRuling_56 ?_
    obtain ⟨M19, e20, h⟩ := of_bvv h
    refine g_mem e20 ?_
    refine g_aload C dX4_addRuling_59 rfl ?_
    refine g_iconst (v := 0) C dX4_addRuling_61 rfl ?_
    refine pf_2_5 C fl_RX4_113 g9 (isb_0) dX4_addRuling_62 ?_
    obtain ⟨M21, e22, h⟩ := of_bvv h
    refine g_mem e22 ?_
    refine g_aload_n C dX4_addRuling_65 rfl rfl ?_
    obtain ⟨M23, e24, h⟩ := of_obb h
    refine g_callV (As := []) C (ct_X4_findForce C.wf e24) g1 lk_RX4_116 mi_X4_findForce (by decide) cs_0 (by decide) dX4_addRuling_66 rfl ?_
    show Go w f 69 [some (rv w r0), some (.int x1), some (.int x2), some (.int x3), some (.int x4), some (.int x5), some (rv w y4)] [] M23
    cases h
    exact hR 69 _ rfl dX4_addRuling_69
def f_X5_rule (r0 : Nat) (x1 : Int32) (x2 : Int32) (x3 : Int32) (x4 : Int32) (x5 : Int32) (M : Mem) : Option (Int32 × Mem) := if (f_X5_isAboutKinds x1 x2 x4) = 0 then (some ((-1 : Int32), M)) else (gdd (kd r0 = 6) <| gdd (kd (fld r0 0) = 5) <| if (f_X5_isWithin x5 (-1 : Int32) ((gI M (fld r0 0) 5) - (1 : Int32))) = 0 then (some ((-1 : Int32), M)) else (if (gI M (fld r0 0) 5) < (10 : Int32) then (obb (f_X5_keepState r0 M) fun M6 => obb (f_X4_addRuling (fld r0 0) x1 x2 x3 x4 x5 M6) fun M8 => some ((gI M8 (fld r0 0) 5) - (1 : Int32), M8)) else (some ((-3 : Int32), M))))
set_option maxRecDepth 100000 in
set_option maxHeartbeats 4000000 in
theorem ct_X5_rule {l : Launch} {w : Om} (hw : Wf w) {r0 : Nat} {x1 : Int32} {x2 : Int32} {x3 : Int32} {x4 : Int32} {x5 : Int32} {M : Mem} {r : Int32} {M2 : Mem} (h : f_X5_rule r0 x1 x2 x3 x4 x5 M = some (r, M2)) : Ct l w yX5_rule cX5_rule 6 (some .int) 5 [rv w r0, .int x1, .int x2, .int x3, .int x4, .int x5] M (some (.int r)) M2 := by
  refine ct_of hw (by decide) (cat_s (rv_cat _ _) (cat_s rfl (cat_s rfl (cat_s rfl (cat_s rfl (cat_s rfl cat_0)))))) (Nat.le_of_ble_eq_true rfl) (fun f _ C hR => ?_)
  show Go w f 0 [some (rv w r0), some (.int x1), some (.int x2), some (.int x3), some (.int x4), some (.int x5)] [] M
  unfold f_X5_rule at h
  refine g_iload_n C dX5_rule_0 rfl rfl ?_
  refine g_iload_n C dX5_rule_1 rfl rfl ?_
  refine g_iload C dX5_rule_2 rfl ?_
  refine g_callS (As := [.int x1, .int x2, .int x4]) C (ct_X5_isAboutKinds C.wf rfl) lk_RX5_70 mi_X5_isAboutKinds (by decide) cs_0 (by decide) dX5_rule_4 rfl ?_
  show Go w f 7 [some (rv w r0), some (.int x1), some (.int x2), some (.int x3), some (.int x4), some (.int x5)] [.int (f_X5_isAboutKinds x1 x2 x4)] M
  refine g_if_eq 28 C dX5_rule_7 (by decide) (fun c1 => ?_) (fun c1 => ?_)
  · replace h := of_ift h c1
    refine g_iconst (v := -1) C dX5_rule_28 rfl ?_
    cases h
    exact hR 29 _ ⟨.int, rfl, rfl⟩ dX5_rule_29
  · replace h := of_iff h c1
    refine g_iload C dX5_rule_10 rfl ?_
    refine g_iconst (v := -1) C dX5_rule_12 rfl ?_
    refine g_aload_n C dX5_rule_13 rfl rfl ?_
    obtain ⟨g2, h⟩ := of_gdd h
    refine gf_5_0 C fl_RX5_10 g2 dX5_rule_14 ?_
    obtain ⟨g3, h⟩ := of_gdd h
    refine gf_4_5 C fl_RX5_73 g3 dX5_rule_17 ?_
    refine g_iconst (v := 1) C dX5_rule_20 rfl ?_
    refine g_isub C dX5_rule_21 ?_
    refine g_callS (As := [.int x5, .int (-1 : Int32), .int ((gI M (fld r0 0) 5) - (1 : Int32))]) C (ct_X5_isWithin C.wf rfl) lk_RX5_48 mi_X5_isWithin (by decide) cs_0 (by decide) dX5_rule_22 rfl ?_
    show Go w f 25 [some (rv w r0), some (.int x1), some (.int x2), some (.int x3), some (.int x4), some (.int x5)] [.int (f_X5_isWithin x5 (-1 : Int32) ((gI M (fld r0 0) 5) - (1 : Int32)))] M
    refine g_if_ne 30 C dX5_rule_25 (by decide) (fun c4 => ?_) (fun c4 => ?_)
    · replace h := of_iff h c4
      refine g_aload_n C dX5_rule_30 rfl rfl ?_
      refine gf_5_0 C fl_RX5_10 g2 dX5_rule_31 ?_
      refine gf_4_5 C fl_RX5_73 g3 dX5_rule_34 ?_
      refine g_bipush (v := 10) C dX5_rule_37 rfl ?_
      refine g_icmp_lt 45 C dX5_rule_39 (by decide) (fun c5 => ?_) (fun c5 => ?_)
      · replace h := of_ift h c5
        refine g_aload_n C dX5_rule_45 rfl rfl ?_
        obtain ⟨M6, e7, h⟩ := of_obb h
        refine g_callV (As := []) C (ct_X5_keepState C.wf e7) g2 lk_RX5_52 mi_X5_keepState (by decide) cs_0 (by decide) dX5_rule_46 rfl ?_
        show Go w f 49 [some (rv w r0), some (.int x1), some (.int x2), some (.int x3), some (.int x4), some (.int x5)] [] M6
        refine g_aload_n C dX5_rule_49 rfl rfl ?_
        refine gf_5_0 C fl_RX5_10 g2 dX5_rule_50 ?_
        refine g_iload_n C dX5_rule_53 rfl rfl ?_
        refine g_iload_n C dX5_rule_54 rfl rfl ?_
        refine g_iload_n C dX5_rule_55 rfl rfl ?_
        refine g_iload C dX5_rule_56 rfl ?_
        refine g_iload C dX5_rule_58 rfl ?_
        obtain ⟨M8, e9, h⟩ := of_obb h
        refine g_callV (As := [.int x1, .int x2, .int x3, .int x4, .int x5]) C (ct_X4_addRuling C.wf e9) g3 lk_RX5_77 mi_X4_addRuling (by decide) cs_0 (by decide) dX5_rule_60 rfl ?_
        show Go w f 63 [some (rv w r0), some (.int x1), some (.int x2), some (.int x3), some (.int x4), some (.int x5)] [] M8
        refine g_aload_n C dX5_rule_63 rfl rfl ?_
        refine gf_5_0 C fl_RX5_10 g2 dX5_rule_64 ?_
        refine gf_4_5 C fl_RX5_73 g3 dX5_rule_67 ?_
        refine g_iconst (v := 1) C dX5_rule_70 rfl ?_
        refine g_isub C dX5_rule_71 ?_
        cases h
        exact hR 72 _ ⟨.int, rfl, rfl⟩ dX5_rule_72
      · replace h := of_iff h c5
        refine g_bipush (v := -3) C dX5_rule_42 rfl ?_
        cases h
        exact hR 44 _ ⟨.int, rfl, rfl⟩ dX5_rule_44
    · replace h := of_ift h c4
      refine g_iconst (v := -1) C dX5_rule_28 rfl ?_
      cases h
      exact hR 29 _ ⟨.int, rfl, rfl⟩ dX5_rule_29
def f_X4_rulingsInForce_4 (M : Mem) : Nat → Nat → Int32 → Int32 → Option Int32
  | 0, _, _, _ => none
  | n + 1, r0, x1, x2 => gdd (kd r0 = 5) <| if (gI M r0 5) ≤ x2 then (some x1) else (obb (f_X4_rulingAt r0 x2 M) fun y203 => if y203 = 0 then (bvv (x2 + (1 : Int32)) fun y206 => (f_X4_rulingsInForce_4 M n) r0 x1 y206) else (gdd (kd y203 = 3) <| if (gI M y203 6) = 0 then (bvv (x2 + (1 : Int32)) fun y210 => (f_X4_rulingsInForce_4 M n) r0 x1 y210) else (bvv (x1 + (1 : Int32)) fun y212 => bvv (x2 + (1 : Int32)) fun y214 => (f_X4_rulingsInForce_4 M n) r0 y212 y214)))
set_option maxRecDepth 100000 in
set_option maxHeartbeats 4000000 in
theorem t_X4_rulingsInForce_4 {w : Om} {f : Fr} {M : Mem} {r : Int32} (C : Cx w f RX4 cX4_rulingsInForce 4 1) (hR : Rt w f cX4_rulingsInForce (some .int) (some (.int r)) M)   : ∀ (n : Nat) (r0 : Nat) (x1 : Int32) (x2 : Int32), f_X4_rulingsInForce_4 M n r0 x1 x2 = some r → Go w f 4 [some (rv w r0), some (.int x1), some (.int x2), none] [] M := by
  intro n
  induction n with
  | zero =>
    intro r0 x1 x2 h
    cases h
  | succ n ih =>
    intro r0 x1 x2 h
    rw [f_X4_rulingsInForce_4] at h
    refine g_iload_n C dX4_rulingsInForce_4 rfl rfl ?_
    refine g_aload_n C dX4_rulingsInForce_5 rfl rfl ?_
    obtain ⟨g201, h⟩ := of_gdd h
    refine gf_4_5 C fl_RX4_44 g201 dX4_rulingsInForce_6 ?_
    refine g_icmp_ge 38 C dX4_rulingsInForce_9 (by decide) (fun c202 => ?_) (fun c202 => ?_)
    · replace h := of_ift h c202
      refine g_iload_n C dX4_rulingsInForce_38 rfl rfl ?_
      cases h
      exact hR 39 _ ⟨.int, rfl, rfl⟩ dX4_rulingsInForce_39
    · replace h := of_iff h c202
      refine g_aload_n C dX4_rulingsInForce_12 rfl rfl ?_
      refine g_iload_n C dX4_rulingsInForce_13 rfl rfl ?_
      obtain ⟨y203, e204, h⟩ := of_obb h
      refine g_callV (As := [.int x2]) C (ct_X4_rulingAt C.wf e204) g201 lk_RX4_55 mi_X4_rulingAt (by decide) cs_0 (by decide) dX4_rulingsInForce_14 rfl ?_
      show Go w f 17 [some (rv w r0), some (.int x1), some (.int x2), none] [rv w y203] M
      refine g_astore_n C dX4_rulingsInForce_17 rfl (by decide) rfl (L2 := [some (rv w r0), some (.int x1), some (.int x2), some (rv w y203)]) rfl ?_
      refine g_aload_n C dX4_rulingsInForce_18 rfl rfl ?_
      refine g_ifnull 32 C dX4_rulingsInForce_19 (by decide) (fun c205 => ?_) (fun c205 => ?_)
      · replace h := of_ift h c205
        obtain ⟨y206, e207, h⟩ := of_bvv h
        refine g_iinc (v := y206) C dX4_rulingsInForce_32 rfl e207.symm (by decide) rfl (L2 := [some (rv w r0), some (.int x1), some (.int y206), some (rv w y203)]) rfl ?_
        refine g_goto 4 C dX4_rulingsInForce_35 (by decide) ?_
        refine g_mask (bs := [true, true, true, false]) (L2 := [some (rv w r0), some (.int x1), some (.int y206), none]) rfl ?_
        exact ih r0 x1 y206 h
      · replace h := of_iff h c205
        refine g_aload_n C dX4_rulingsInForce_22 rfl rfl ?_
        obtain ⟨g208, h⟩ := of_gdd h
        refine gf_2_6 C fl_RX4_119 g208 dX4_rulingsInForce_23 ?_
        refine g_if_eq 32 C dX4_rulingsInForce_26 (by decide) (fun c209 => ?_) (fun c209 => ?_)
        · replace h := of_ift h c209
          obtain ⟨y210, e211, h⟩ := of_bvv h
          refine g_iinc (v := y210) C dX4_rulingsInForce_32 rfl e211.symm (by decide) rfl (L2 := [some (rv w r0), some (.int x1), some (.int y210), some (rv w y203)]) rfl ?_
          refine g_goto 4 C dX4_rulingsInForce_35 (by decide) ?_
          refine g_mask (bs := [true, true, true, false]) (L2 := [some (rv w r0), some (.int x1), some (.int y210), none]) rfl ?_
          exact ih r0 x1 y210 h
        · replace h := of_iff h c209
          obtain ⟨y212, e213, h⟩ := of_bvv h
          refine g_iinc (v := y212) C dX4_rulingsInForce_29 rfl e213.symm (by decide) (rv_cat _ _) (L2 := [some (rv w r0), some (.int y212), some (.int x2), some (rv w y203)]) rfl ?_
          obtain ⟨y214, e215, h⟩ := of_bvv h
          refine g_iinc (v := y214) C dX4_rulingsInForce_32 rfl e215.symm (by decide) rfl (L2 := [some (rv w r0), some (.int y212), some (.int y214), some (rv w y203)]) rfl ?_
          refine g_goto 4 C dX4_rulingsInForce_35 (by decide) ?_
          refine g_mask (bs := [true, true, true, false]) (L2 := [some (rv w r0), some (.int y212), some (.int y214), none]) rfl ?_
          exact ih r0 y212 y214 h
def f_X4_rulingsInForce (r0 : Nat) (M : Mem) : Option Int32 := f_X4_rulingsInForce_4 M FU r0 (0 : Int32) (0 : Int32)
set_option maxRecDepth 100000 in
set_option maxHeartbeats 4000000 in
theorem ct_X4_rulingsInForce {l : Launch} {w : Om} (hw : Wf w) {r0 : Nat}  {M : Mem} {r : Int32} (h : f_X4_rulingsInForce r0 M = some r) : Ct l w yX4_rulingsInForce cX4_rulingsInForce 4 (some .int) 1 [rv w r0] M (some (.int r)) M := by
  refine ct_of hw (by decide) (cat_s (rv_cat _ _) cat_0) (Nat.le_of_ble_eq_true rfl) (fun f _ C hR => ?_)
  show Go w f 0 [some (rv w r0), none, none, none] [] M
  unfold f_X4_rulingsInForce at h
  refine g_iconst (v := 0) C dX4_rulingsInForce_0 rfl ?_
  refine g_istore_n C dX4_rulingsInForce_1 rfl (by decide) (rv_cat _ _) (L2 := [some (rv w r0), some (.int (0 : Int32)), none, none]) rfl ?_
  refine g_iconst (v := 0) C dX4_rulingsInForce_2 rfl ?_
  refine g_istore_n C dX4_rulingsInForce_3 rfl (by decide) rfl (L2 := [some (rv w r0), some (.int (0 : Int32)), some (.int (0 : Int32)), none]) rfl ?_
  exact t_X4_rulingsInForce_4 C hR _ r0 (0 : Int32) (0 : Int32) h
def f_X5_overrule (r0 : Nat) (x1 : Int32) (M : Mem) : Option (Int32 × Mem) := gdd (kd r0 = 6) <| gdd (kd (fld r0 0) = 5) <| obb (f_X4_rulingAt (fld r0 0) x1 M) fun y3 => if y3 = 0 then (some ((-1 : Int32), M)) else (gdd (kd y3 = 3) <| if (gI M y3 5) = 0 then (obb (f_X5_keepState r0 M) fun M8 => obb (f_X4_rulingsInForce (fld r0 0) M8) fun y10 => bvv (sI M8 y3 5 (1 : Int32)) fun M12 => obb (f_X4_findForce (fld r0 0) M12) fun M14 => obb (f_X4_rulingsInForce (fld r0 0) M14) fun y16 => some (y10 - y16, M14)) else (some ((-2 : Int32), M)))
set_option maxRecDepth 100000 in
set_option maxHeartbeats 4000000 in
theorem ct_X5_overrule {l : Launch} {w : Om} (hw : Wf w) {r0 : Nat} {x1 : Int32} {M : Mem} {r : Int32} {M2 : Mem} (h : f_X5_overrule r0 x1 M = some (r, M2)) : Ct l w yX5_overrule cX5_overrule 4 (some .int) 5 [rv w r0, .int x1] M (some (.int r)) M2 := by
  refine ct_of hw (by decide) (cat_s (rv_cat _ _) (cat_s rfl cat_0)) (Nat.le_of_ble_eq_true rfl) (fun f _ C hR => ?_)
  show Go w f 0 [some (rv w r0), some (.int x1), none, none] [] M
  unfold f_X5_overrule at h
  refine g_aload_n C dX5_overrule_0 rfl rfl ?_
  obtain ⟨g1, h⟩ := of_gdd h
  refine gf_5_0 C fl_RX5_10 g1 dX5_overrule_1 ?_
  refine g_iload_n C dX5_overrule_4 rfl rfl ?_
  obtain ⟨g2, h⟩ := of_gdd h
  obtain ⟨y3, e4, h⟩ := of_obb h
  refine g_callV (As := [.int x1]) C (ct_X4_rulingAt C.wf e4) g2 lk_RX5_81 mi_X4_rulingAt (by decide) cs_0 (by decide) dX5_overrule_5 rfl ?_
  show Go w f 8 [some (rv w r0), some (.int x1), none, none] [rv w y3] M
  refine g_astore_n C dX5_overrule_8 rfl (by decide) rfl (L2 := [some (rv w r0), some (.int x1), some (rv w y3), none]) rfl ?_
  refine g_aload_n C dX5_overrule_9 rfl rfl ?_
  refine g_ifnonnull 15 C dX5_overrule_10 (by decide) (fun c5 => ?_) (fun c5 => ?_)
  · replace h := of_iff h c5
    refine g_aload_n C dX5_overrule_15 rfl rfl ?_
    obtain ⟨g6, h⟩ := of_gdd h
    refine gf_2_5 C fl_RX5_85 g6 dX5_overrule_16 ?_
    refine g_if_eq 25 C dX5_overrule_19 (by decide) (fun c7 => ?_) (fun c7 => ?_)
    · replace h := of_ift h c7
      refine g_aload_n C dX5_overrule_25 rfl rfl ?_
      obtain ⟨M8, e9, h⟩ := of_obb h
      refine g_callV (As := []) C (ct_X5_keepState C.wf e9) g1 lk_RX5_52 mi_X5_keepState (by decide) cs_0 (by decide) dX5_overrule_26 rfl ?_
      show Go w f 29 [some (rv w r0), some (.int x1), some (rv w y3), none] [] M8
      refine g_aload_n C dX5_overrule_29 rfl rfl ?_
      refine gf_5_0 C fl_RX5_10 g1 dX5_overrule_30 ?_
      obtain ⟨y10, e11, h⟩ := of_obb h
      refine g_callV (As := []) C (ct_X4_rulingsInForce C.wf e11) g2 lk_RX5_91 mi_X4_rulingsInForce (by decide) cs_0 (by decide) dX5_overrule_33 rfl ?_
      show Go w f 36 [some (rv w r0), some (.int x1), some (rv w y3), none] [.int y10] M8
      refine g_istore_n C dX5_overrule_36 rfl (by decide) (rv_cat _ _) (L2 := [some (rv w r0), some (.int x1), some (rv w y3), some (.int y10)]) rfl ?_
      refine g_aload_n C dX5_overrule_37 rfl rfl ?_
      refine g_iconst (v := 1) C dX5_overrule_38 rfl ?_
      refine pf_2_5 C fl_RX5_85 g6 (isb_1) dX5_overrule_39 ?_
      obtain ⟨M12, e13, h⟩ := of_bvv h
      refine g_mem e13 ?_
      refine g_aload_n C dX5_overrule_42 rfl rfl ?_
      refine gf_5_0 C fl_RX5_10 g1 dX5_overrule_43 ?_
      obtain ⟨M14, e15, h⟩ := of_obb h
      refine g_callV (As := []) C (ct_X4_findForce C.wf e15) g2 lk_RX5_95 mi_X4_findForce (by decide) cs_0 (by decide) dX5_overrule_46 rfl ?_
      show Go w f 49 [some (rv w r0), some (.int x1), some (rv w y3), some (.int y10)] [] M14
      refine g_iload_n C dX5_overrule_49 rfl rfl ?_
      refine g_aload_n C dX5_overrule_50 rfl rfl ?_
      refine gf_5_0 C fl_RX5_10 g1 dX5_overrule_51 ?_
      obtain ⟨y16, e17, h⟩ := of_obb h
      refine g_callV (As := []) C (ct_X4_rulingsInForce C.wf e17) g2 lk_RX5_91 mi_X4_rulingsInForce (by decide) (cs_i cs_0) (by decide) dX5_overrule_54 rfl ?_
      show Go w f 57 [some (rv w r0), some (.int x1), some (rv w y3), some (.int y10)] [.int y16, .int y10] M14
      refine g_isub C dX5_overrule_57 ?_
      cases h
      exact hR 58 _ ⟨.int, rfl, rfl⟩ dX5_overrule_58
    · replace h := of_iff h c7
      refine g_bipush (v := -2) C dX5_overrule_22 rfl ?_
      cases h
      exact hR 24 _ ⟨.int, rfl, rfl⟩ dX5_overrule_24
  · replace h := of_ift h c5
    refine g_iconst (v := -1) C dX5_overrule_13 rfl ?_
    cases h
    exact hR 14 _ ⟨.int, rfl, rfl⟩ dX5_overrule_14
def f_X1_signAt (r0 : Nat) (x1 : Int32) (M : Mem) : Option Int32 := gdd (kd r0 = 2) <| if (gI M r0 1) ≤ x1 then (some (0 : Int32)) else (obb (f_X5_at (fld r0 0) x1 M) fun y3 => some y3)
set_option maxRecDepth 100000 in
set_option maxHeartbeats 4000000 in
theorem ct_X1_signAt {l : Launch} {w : Om} (hw : Wf w) {r0 : Nat} {x1 : Int32}  {M : Mem} {r : Int32} (h : f_X1_signAt r0 x1 M = some r) : Ct l w yX1_signAt cX1_signAt 2 (some .int) 1 [rv w r0, .int x1] M (some (.int r)) M := by
  refine ct_of hw (by decide) (cat_s (rv_cat _ _) (cat_s rfl cat_0)) (Nat.le_of_ble_eq_true rfl) (fun f _ C hR => ?_)
  show Go w f 0 [some (rv w r0), some (.int x1)] [] M
  unfold f_X1_signAt at h
  refine g_iload_n C dX1_signAt_0 rfl rfl ?_
  refine g_aload_n C dX1_signAt_1 rfl rfl ?_
  obtain ⟨g1, h⟩ := of_gdd h
  refine gf_1_1 C fl_RX1_15 g1 dX1_signAt_2 ?_
  refine g_icmp_ge 19 C dX1_signAt_5 (by decide) (fun c2 => ?_) (fun c2 => ?_)
  · replace h := of_ift h c2
    refine g_iconst (v := 0) C dX1_signAt_19 rfl ?_
    cases h
    exact hR 20 _ ⟨.int, rfl, rfl⟩ dX1_signAt_20
  · replace h := of_iff h c2
    refine g_aload_n C dX1_signAt_8 rfl rfl ?_
    refine gf_1_0 C fl_RX1_9 g1 dX1_signAt_9 ?_
    refine g_iload_n C dX1_signAt_12 rfl rfl ?_
    obtain ⟨y3, e4, h⟩ := of_obb h
    refine g_callSN (As := [rv w (fld r0 0), .int x1]) C (ct_X5_at C.wf e4) ln_RX1_19 mi_X5_at (by decide) cs_0 (by decide) dX1_signAt_13 rfl ?_
    show Go w f 16 [some (rv w r0), some (.int x1)] [.int y3] M
    refine g_goto 20 C dX1_signAt_16 (by decide) ?_
    cases h
    exact hR 20 _ ⟨.int, rfl, rfl⟩ dX1_signAt_20
def f_X1_editionFault_6 (M : Mem) : Nat → Nat → Int32 → Int32 → Int32 → Option Int32
  | 0, _, _, _, _ => none
  | n + 1, r0, x1, x2, x3 => gdd (kd r0 = 2) <| if (gI M r0 1) ≤ x3 then (if x2 = 0 then (some (-1 : Int32)) else (some (gI M r0 1))) else (obb (f_X1_signAt r0 x3 M) fun y204 => if (f_X5_isWithin y204 (97 : Int32) (102 : Int32)) = 0 then (if y204 = (44 : Int32) then (if x2 = 0 then (if x1 < (12 : Int32) then (if y204 = (44 : Int32) then (bvv (x1 + (0 : Int32)) fun y225 => bvv (x3 + (1 : Int32)) fun y227 => (f_X1_editionFault_6 M n) r0 y225 (1 : Int32) y227) else (bvv (x1 + (1 : Int32)) fun y221 => bvv (x3 + (1 : Int32)) fun y223 => (f_X1_editionFault_6 M n) r0 y221 (0 : Int32) y223)) else (some x3)) else (some x3)) else (some x3)) else (if x1 < (12 : Int32) then (if y204 = (44 : Int32) then (bvv (x1 + (0 : Int32)) fun y213 => bvv (x3 + (1 : Int32)) fun y215 => (f_X1_editionFault_6 M n) r0 y213 (1 : Int32) y215) else (bvv (x1 + (1 : Int32)) fun y209 => bvv (x3 + (1 : Int32)) fun y211 => (f_X1_editionFault_6 M n) r0 y209 (0 : Int32) y211)) else (some x3)))
set_option maxRecDepth 100000 in
set_option maxHeartbeats 4000000 in
theorem t_X1_editionFault_6 {w : Om} {f : Fr} {M : Mem} {r : Int32} (C : Cx w f RX1 cX1_editionFault 6 2) (hR : Rt w f cX1_editionFault (some .int) (some (.int r)) M)   : ∀ (n : Nat) (r0 : Nat) (x1 : Int32) (x2 : Int32) (x3 : Int32), f_X1_editionFault_6 M n r0 x1 x2 x3 = some r → Go w f 6 [some (rv w r0), some (.int x1), some (.int x2), some (.int x3), none, none] [] M := by
  intro n
  induction n with
  | zero =>
    intro r0 x1 x2 x3 h
    cases h
  | succ n ih =>
    intro r0 x1 x2 x3 h
    rw [f_X1_editionFault_6] at h
    refine g_iload_n C dX1_editionFault_6 rfl rfl ?_
    refine g_aload_n C dX1_editionFault_7 rfl rfl ?_
    obtain ⟨g201, h⟩ := of_gdd h
    refine gf_1_1 C fl_RX1_15 g201 dX1_editionFault_8 ?_
    refine g_icmp_ge 95 C dX1_editionFault_11 (by decide) (fun c202 => ?_) (fun c202 => ?_)
    · replace h := of_ift h c202
      refine g_iload_n C dX1_editionFault_95 rfl rfl ?_
      refine g_if_eq 106 C dX1_editionFault_96 (by decide) (fun c203 => ?_) (fun c203 => ?_)
      · replace h := of_ift h c203
        refine g_iconst (v := -1) C dX1_editionFault_106 rfl ?_
        cases h
        exact hR 107 _ ⟨.int, rfl, rfl⟩ dX1_editionFault_107
      · replace h := of_iff h c203
        refine g_aload_n C dX1_editionFault_99 rfl rfl ?_
        refine gf_1_1 C fl_RX1_15 g201 dX1_editionFault_100 ?_
        refine g_goto 107 C dX1_editionFault_103 (by decide) ?_
        cases h
        exact hR 107 _ ⟨.int, rfl, rfl⟩ dX1_editionFault_107
    · replace h := of_iff h c202
      refine g_aload_n C dX1_editionFault_14 rfl rfl ?_
      refine g_iload_n C dX1_editionFault_15 rfl rfl ?_
      obtain ⟨y204, e205, h⟩ := of_obb h
      refine g_callV (As := [.int x3]) C (ct_X1_signAt C.wf e205) g201 lk_RX1_23 mi_X1_signAt (by decide) cs_0 (by decide) dX1_editionFault_16 rfl ?_
      show Go w f 19 [some (rv w r0), some (.int x1), some (.int x2), some (.int x3), none, none] [.int y204] M
      refine g_istore C dX1_editionFault_19 (by decide) rfl (L2 := [some (rv w r0), some (.int x1), some (.int x2), some (.int x3), some (.int y204), none]) rfl ?_
      refine g_iload C dX1_editionFault_21 rfl ?_
      refine g_bipush (v := 97) C dX1_editionFault_23 rfl ?_
      refine g_bipush (v := 102) C dX1_editionFault_25 rfl ?_
      refine g_callSN (As := [.int y204, .int (97 : Int32), .int (102 : Int32)]) C (ct_X5_isWithin C.wf rfl) ln_RX1_27 mi_X5_isWithin (by decide) cs_0 (by decide) dX1_editionFault_27 rfl ?_
      show Go w f 30 [some (rv w r0), some (.int x1), some (.int x2), some (.int x3), some (.int y204), none] [.int (f_X5_isWithin y204 (97 : Int32) (102 : Int32))] M
      refine g_if_ne 44 C dX1_editionFault_30 (by decide) (fun c206 => ?_) (fun c206 => ?_)
      · replace h := of_iff h c206
        refine g_iconst (v := 1) C dX1_editionFault_44 rfl ?_
        refine g_goto 49 C dX1_editionFault_45 (by decide) ?_
        refine g_istore C dX1_editionFault_49 (by decide) rfl (L2 := [some (rv w r0), some (.int x1), some (.int x2), some (.int x3), some (.int y204), some (.int (1 : Int32))]) rfl ?_
        refine g_iload C dX1_editionFault_51 rfl ?_
        refine g_if_eq 62 C dX1_editionFault_53 (by decide) (fun c => absurd c (by decide)) (fun _ => ?_)
        refine g_iload_n C dX1_editionFault_56 rfl rfl ?_
        refine g_bipush (v := 12) C dX1_editionFault_57 rfl ?_
        refine g_icmp_lt 64 C dX1_editionFault_59 (by decide) (fun c207 => ?_) (fun c207 => ?_)
        · replace h := of_ift h c207
          refine g_iload C dX1_editionFault_64 rfl ?_
          refine g_bipush (v := 44) C dX1_editionFault_66 rfl ?_
          refine g_icmp_ne 75 C dX1_editionFault_68 (by decide) (fun c208 => ?_) (fun c208 => ?_)
          · replace h := of_iff h c208
            refine g_iconst (v := 0) C dX1_editionFault_75 rfl ?_
            refine g_istore_n C dX1_editionFault_76 rfl (by decide) rfl (L2 := [some (rv w r0), some (.int x1), some (.int (0 : Int32)), some (.int x3), some (.int y204), some (.int (1 : Int32))]) rfl ?_
            refine g_iload_n C dX1_editionFault_77 rfl rfl ?_
            refine g_iload_n C dX1_editionFault_78 rfl rfl ?_
            refine g_if_eq 86 C dX1_editionFault_79 (by decide) (fun _ => ?_) (fun c => absurd c (by decide))
            refine g_iconst (v := 1) C dX1_editionFault_86 rfl ?_
            refine g_iadd C dX1_editionFault_87 ?_
            obtain ⟨y209, e210, h⟩ := of_bvv h
            refine g_topi e210 ?_
            refine g_istore_n C dX1_editionFault_88 rfl (by decide) (rv_cat _ _) (L2 := [some (rv w r0), some (.int y209), some (.int (0 : Int32)), some (.int x3), some (.int y204), some (.int (1 : Int32))]) rfl ?_
            obtain ⟨y211, e212, h⟩ := of_bvv h
            refine g_iinc (v := y211) C dX1_editionFault_89 rfl e212.symm (by decide) rfl (L2 := [some (rv w r0), some (.int y209), some (.int (0 : Int32)), some (.int y211), some (.int y204), some (.int (1 : Int32))]) rfl ?_
            refine g_goto 6 C dX1_editionFault_92 (by decide) ?_
            refine g_mask (bs := [true, true, true, true, false, false]) (L2 := [some (rv w r0), some (.int y209), some (.int (0 : Int32)), some (.int y211), none, none]) rfl ?_
            exact ih r0 y209 (0 : Int32) y211 h
          · replace h := of_ift h c208
            refine g_iconst (v := 1) C dX1_editionFault_71 rfl ?_
            refine g_goto 76 C dX1_editionFault_72 (by decide) ?_
            refine g_istore_n C dX1_editionFault_76 rfl (by decide) rfl (L2 := [some (rv w r0), some (.int x1), some (.int (1 : Int32)), some (.int x3), some (.int y204), some (.int (1 : Int32))]) rfl ?_
            refine g_iload_n C dX1_editionFault_77 rfl rfl ?_
            refine g_iload_n C dX1_editionFault_78 rfl rfl ?_
            refine g_if_eq 86 C dX1_editionFault_79 (by decide) (fun c => absurd c (by decide)) (fun _ => ?_)
            refine g_iconst (v := 0) C dX1_editionFault_82 rfl ?_
            refine g_goto 87 C dX1_editionFault_83 (by decide) ?_
            refine g_iadd C dX1_editionFault_87 ?_
            obtain ⟨y213, e214, h⟩ := of_bvv h
            refine g_topi e214 ?_
            refine g_istore_n C dX1_editionFault_88 rfl (by decide) (rv_cat _ _) (L2 := [some (rv w r0), some (.int y213), some (.int (1 : Int32)), some (.int x3), some (.int y204), some (.int (1 : Int32))]) rfl ?_
            obtain ⟨y215, e216, h⟩ := of_bvv h
            refine g_iinc (v := y215) C dX1_editionFault_89 rfl e216.symm (by decide) rfl (L2 := [some (rv w r0), some (.int y213), some (.int (1 : Int32)), some (.int y215), some (.int y204), some (.int (1 : Int32))]) rfl ?_
            refine g_goto 6 C dX1_editionFault_92 (by decide) ?_
            refine g_mask (bs := [true, true, true, true, false, false]) (L2 := [some (rv w r0), some (.int y213), some (.int (1 : Int32)), some (.int y215), none, none]) rfl ?_
            exact ih r0 y213 (1 : Int32) y215 h
        · replace h := of_iff h c207
          refine g_iload_n C dX1_editionFault_62 rfl rfl ?_
          cases h
          exact hR 63 _ ⟨.int, rfl, rfl⟩ dX1_editionFault_63
      · replace h := of_ift h c206
        refine g_iload C dX1_editionFault_33 rfl ?_
        refine g_bipush (v := 44) C dX1_editionFault_35 rfl ?_
        refine g_icmp_ne 48 C dX1_editionFault_37 (by decide) (fun c217 => ?_) (fun c217 => ?_)
        · replace h := of_iff h c217
          refine g_iconst (v := 0) C dX1_editionFault_48 rfl ?_
          refine g_istore C dX1_editionFault_49 (by decide) rfl (L2 := [some (rv w r0), some (.int x1), some (.int x2), some (.int x3), some (.int y204), some (.int (0 : Int32))]) rfl ?_
          refine g_iload C dX1_editionFault_51 rfl ?_
          refine g_if_eq 62 C dX1_editionFault_53 (by decide) (fun _ => ?_) (fun c => absurd c (by decide))
          refine g_iload_n C dX1_editionFault_62 rfl rfl ?_
          cases h
          exact hR 63 _ ⟨.int, rfl, rfl⟩ dX1_editionFault_63
        · replace h := of_ift h c217
          refine g_iload_n C dX1_editionFault_40 rfl rfl ?_
          refine g_if_ne 48 C dX1_editionFault_41 (by decide) (fun c218 => ?_) (fun c218 => ?_)
          · replace h := of_iff h c218
            refine g_iconst (v := 0) C dX1_editionFault_48 rfl ?_
            refine g_istore C dX1_editionFault_49 (by decide) rfl (L2 := [some (rv w r0), some (.int x1), some (.int x2), some (.int x3), some (.int y204), some (.int (0 : Int32))]) rfl ?_
            refine g_iload C dX1_editionFault_51 rfl ?_
            refine g_if_eq 62 C dX1_editionFault_53 (by decide) (fun _ => ?_) (fun c => absurd c (by decide))
            refine g_iload_n C dX1_editionFault_62 rfl rfl ?_
            cases h
            exact hR 63 _ ⟨.int, rfl, rfl⟩ dX1_editionFault_63
          · replace h := of_ift h c218
            refine g_iconst (v := 1) C dX1_editionFault_44 rfl ?_
            refine g_goto 49 C dX1_editionFault_45 (by decide) ?_
            refine g_istore C dX1_editionFault_49 (by decide) rfl (L2 := [some (rv w r0), some (.int x1), some (.int x2), some (.int x3), some (.int y204), some (.int (1 : Int32))]) rfl ?_
            refine g_iload C dX1_editionFault_51 rfl ?_
            refine g_if_eq 62 C dX1_editionFault_53 (by decide) (fun c => absurd c (by decide)) (fun _ => ?_)
            refine g_iload_n C dX1_editionFault_56 rfl rfl ?_
            refine g_bipush (v := 12) C dX1_editionFault_57 rfl ?_
            refine g_icmp_lt 64 C dX1_editionFault_59 (by decide) (fun c219 => ?_) (fun c219 => ?_)
            · replace h := of_ift h c219
              refine g_iload C dX1_editionFault_64 rfl ?_
              refine g_bipush (v := 44) C dX1_editionFault_66 rfl ?_
              refine g_icmp_ne 75 C dX1_editionFault_68 (by decide) (fun c220 => ?_) (fun c220 => ?_)
              · replace h := of_iff h c220
                refine g_iconst (v := 0) C dX1_editionFault_75 rfl ?_
                refine g_istore_n C dX1_editionFault_76 rfl (by decide) rfl (L2 := [some (rv w r0), some (.int x1), some (.int (0 : Int32)), some (.int x3), some (.int y204), some (.int (1 : Int32))]) rfl ?_
                refine g_iload_n C dX1_editionFault_77 rfl rfl ?_
                refine g_iload_n C dX1_editionFault_78 rfl rfl ?_
                refine g_if_eq 86 C dX1_editionFault_79 (by decide) (fun _ => ?_) (fun c => absurd c (by decide))
                refine g_iconst (v := 1) C dX1_editionFault_86 rfl ?_
                refine g_iadd C dX1_editionFault_87 ?_
                obtain ⟨y221, e222, h⟩ := of_bvv h
                refine g_topi e222 ?_
                refine g_istore_n C dX1_editionFault_88 rfl (by decide) (rv_cat _ _) (L2 := [some (rv w r0), some (.int y221), some (.int (0 : Int32)), some (.int x3), some (.int y204), some (.int (1 : Int32))]) rfl ?_
                obtain ⟨y223, e224, h⟩ := of_bvv h
                refine g_iinc (v := y223) C dX1_editionFault_89 rfl e224.symm (by decide) rfl (L2 := [some (rv w r0), some (.int y221), some (.int (0 : Int32)), some (.int y223), some (.int y204), some (.int (1 : Int32))]) rfl ?_
                refine g_goto 6 C dX1_editionFault_92 (by decide) ?_
                refine g_mask (bs := [true, true, true, true, false, false]) (L2 := [some (rv w r0), some (.int y221), some (.int (0 : Int32)), some (.int y223), none, none]) rfl ?_
                exact ih r0 y221 (0 : Int32) y223 h
              · replace h := of_ift h c220
                refine g_iconst (v := 1) C dX1_editionFault_71 rfl ?_
                refine g_goto 76 C dX1_editionFault_72 (by decide) ?_
                refine g_istore_n C dX1_editionFault_76 rfl (by decide) rfl (L2 := [some (rv w r0), some (.int x1), some (.int (1 : Int32)), some (.int x3), some (.int y204), some (.int (1 : Int32))]) rfl ?_
                refine g_iload_n C dX1_editionFault_77 rfl rfl ?_
                refine g_iload_n C dX1_editionFault_78 rfl rfl ?_
                refine g_if_eq 86 C dX1_editionFault_79 (by decide) (fun c => absurd c (by decide)) (fun _ => ?_)
                refine g_iconst (v := 0) C dX1_editionFault_82 rfl ?_
                refine g_goto 87 C dX1_editionFault_83 (by decide) ?_
                refine g_iadd C dX1_editionFault_87 ?_
                obtain ⟨y225, e226, h⟩ := of_bvv h
                refine g_topi e226 ?_
                refine g_istore_n C dX1_editionFault_88 rfl (by decide) (rv_cat _ _) (L2 := [some (rv w r0), some (.int y225), some (.int (1 : Int32)), some (.int x3), some (.int y204), some (.int (1 : Int32))]) rfl ?_
                obtain ⟨y227, e228, h⟩ := of_bvv h
                refine g_iinc (v := y227) C dX1_editionFault_89 rfl e228.symm (by decide) rfl (L2 := [some (rv w r0), some (.int y225), some (.int (1 : Int32)), some (.int y227), some (.int y204), some (.int (1 : Int32))]) rfl ?_
                refine g_goto 6 C dX1_editionFault_92 (by decide) ?_
                refine g_mask (bs := [true, true, true, true, false, false]) (L2 := [some (rv w r0), some (.int y225), some (.int (1 : Int32)), some (.int y227), none, none]) rfl ?_
                exact ih r0 y225 (1 : Int32) y227 h
            · replace h := of_iff h c219
              refine g_iload_n C dX1_editionFault_62 rfl rfl ?_
              cases h
              exact hR 63 _ ⟨.int, rfl, rfl⟩ dX1_editionFault_63
def f_X1_editionFault (r0 : Nat) (M : Mem) : Option Int32 := f_X1_editionFault_6 M FU r0 (0 : Int32) (1 : Int32) (0 : Int32)
set_option maxRecDepth 100000 in
set_option maxHeartbeats 4000000 in
theorem ct_X1_editionFault {l : Launch} {w : Om} (hw : Wf w) {r0 : Nat}  {M : Mem} {r : Int32} (h : f_X1_editionFault r0 M = some r) : Ct l w yX1_editionFault cX1_editionFault 6 (some .int) 2 [rv w r0] M (some (.int r)) M := by
  refine ct_of hw (by decide) (cat_s (rv_cat _ _) cat_0) (Nat.le_of_ble_eq_true rfl) (fun f _ C hR => ?_)
  show Go w f 0 [some (rv w r0), none, none, none, none, none] [] M
  unfold f_X1_editionFault at h
  refine g_iconst (v := 0) C dX1_editionFault_0 rfl ?_
  refine g_istore_n C dX1_editionFault_1 rfl (by decide) (rv_cat _ _) (L2 := [some (rv w r0), some (.int (0 : Int32)), none, none, none, none]) rfl ?_
  refine g_iconst (v := 1) C dX1_editionFault_2 rfl ?_
  refine g_istore_n C dX1_editionFault_3 rfl (by decide) rfl (L2 := [some (rv w r0), some (.int (0 : Int32)), some (.int (1 : Int32)), none, none, none]) rfl ?_
  refine g_iconst (v := 0) C dX1_editionFault_4 rfl ?_
  refine g_istore_n C dX1_editionFault_5 rfl (by decide) rfl (L2 := [some (rv w r0), some (.int (0 : Int32)), some (.int (1 : Int32)), some (.int (0 : Int32)), none, none]) rfl ?_
  exact t_X1_editionFault_6 C hR _ r0 (0 : Int32) (1 : Int32) (0 : Int32) h
def f_X1_writeTo_12 : Nat → Nat → Nat → Int32 → Mem → Option Mem
  | 0, _, _, _, _ => none
  | n + 1, r0, r1, x2, M => gdd (kd r0 = 2) <| if (gI M r0 1) ≤ x2 then (some M) else (obb (f_X1_signAt r0 x2 M) fun y203 => if y203 = (44 : Int32) then (gdd (kd r1 = 1) <| bvv (sI M r1 2 ((gI M r1 2) ||| ((1 : Int32) <<< (((gI M r1 1) - (1 : Int32)) &&& 31)))) fun M214 => bvv (x2 + (1 : Int32)) fun y216 => (f_X1_writeTo_12 n) r0 r1 y216 M214) else (gdd (kd r1 = 1) <| obb (f_X5_put (fld r1 0) (gI M r1 1) (y203 - (97 : Int32)) M) fun M207 => bvv (sI M207 r1 1 ((gI M207 r1 1) + (1 : Int32))) fun M209 => bvv (x2 + (1 : Int32)) fun y211 => (f_X1_writeTo_12 n) r0 r1 y211 M209))
set_option maxRecDepth 100000 in
set_option maxHeartbeats 4000000 in
theorem t_X1_writeTo_12 {w : Om} {f : Fr} {M2 : Mem} (C : Cx w f RX1 cX1_writeTo 4 2) (hR : Rt w f cX1_writeTo none none M2)   : ∀ (n : Nat) (r0 : Nat) (r1 : Nat) (x2 : Int32) (M : Mem), f_X1_writeTo_12 n r0 r1 x2 M = some M2 → Go w f 12 [some (rv w r0), some (rv w r1), some (.int x2), none] [] M := by
  intro n
  induction n with
  | zero =>
    intro r0 r1 x2 M h
    cases h
  | succ n ih =>
    intro r0 r1 x2 M h
    rw [f_X1_writeTo_12] at h
    refine g_iload_n C dX1_writeTo_12 rfl rfl ?_
    refine g_aload_n C dX1_writeTo_13 rfl rfl ?_
    obtain ⟨g201, h⟩ := of_gdd h
    refine gf_1_1 C fl_RX1_15 g201 dX1_writeTo_14 ?_
    refine g_icmp_ge 83 C dX1_writeTo_17 (by decide) (fun c202 => ?_) (fun c202 => ?_)
    · replace h := of_ift h c202
      cases h
      exact hR 83 _ rfl dX1_writeTo_83
    · replace h := of_iff h c202
      refine g_aload_n C dX1_writeTo_20 rfl rfl ?_
      refine g_iload_n C dX1_writeTo_21 rfl rfl ?_
      obtain ⟨y203, e204, h⟩ := of_obb h
      refine g_callV (As := [.int x2]) C (ct_X1_signAt C.wf e204) g201 lk_RX1_23 mi_X1_signAt (by decide) cs_0 (by decide) dX1_writeTo_22 rfl ?_
      show Go w f 25 [some (rv w r0), some (rv w r1), some (.int x2), none] [.int y203] M
      refine g_istore_n C dX1_writeTo_25 rfl (by decide) rfl (L2 := [some (rv w r0), some (rv w r1), some (.int x2), some (.int y203)]) rfl ?_
      refine g_iload_n C dX1_writeTo_26 rfl rfl ?_
      refine g_bipush (v := 44) C dX1_writeTo_27 rfl ?_
      refine g_icmp_ne 52 C dX1_writeTo_29 (by decide) (fun c205 => ?_) (fun c205 => ?_)
      · replace h := of_iff h c205
        refine g_aload_n C dX1_writeTo_52 rfl rfl ?_
        obtain ⟨g206, h⟩ := of_gdd h
        refine gf_0_0 C fl_RX1_43 g206 dX1_writeTo_53 ?_
        refine g_aload_n C dX1_writeTo_56 rfl rfl ?_
        refine gf_0_1 C fl_RX1_35 g206 dX1_writeTo_57 ?_
        refine g_iload_n C dX1_writeTo_60 rfl rfl ?_
        refine g_bipush (v := 97) C dX1_writeTo_61 rfl ?_
        refine g_isub C dX1_writeTo_63 ?_
        obtain ⟨M207, e208, h⟩ := of_obb h
        refine g_callSN (As := [rv w (fld r1 0), .int (gI M r1 1), .int (y203 - (97 : Int32))]) C (ct_X5_put C.wf e208) ln_RX1_46 mi_X5_put (by decide) cs_0 (by decide) dX1_writeTo_64 rfl ?_
        show Go w f 67 [some (rv w r0), some (rv w r1), some (.int x2), some (.int y203)] [] M207
        refine g_aload_n C dX1_writeTo_67 rfl rfl ?_
        refine g_dup C (rv_cat _ _) dX1_writeTo_68 ?_
        refine gf_0_1 C fl_RX1_35 g206 dX1_writeTo_69 ?_
        refine g_iconst (v := 1) C dX1_writeTo_72 rfl ?_
        refine g_iadd C dX1_writeTo_73 ?_
        refine pf_0_1 C fl_RX1_35 g206 dX1_writeTo_74 ?_
        obtain ⟨M209, e210, h⟩ := of_bvv h
        refine g_mem e210 ?_
        obtain ⟨y211, e212, h⟩ := of_bvv h
        refine g_iinc (v := y211) C dX1_writeTo_77 rfl e212.symm (by decide) (rv_cat _ _) (L2 := [some (rv w r0), some (rv w r1), some (.int y211), some (.int y203)]) rfl ?_
        refine g_goto 12 C dX1_writeTo_80 (by decide) ?_
        refine g_mask (bs := [true, true, true, false]) (L2 := [some (rv w r0), some (rv w r1), some (.int y211), none]) rfl ?_
        exact ih r0 r1 y211 M209 h
      · replace h := of_ift h c205
        refine g_aload_n C dX1_writeTo_32 rfl rfl ?_
        refine g_dup C (rv_cat _ _) dX1_writeTo_33 ?_
        obtain ⟨g213, h⟩ := of_gdd h
        refine gf_0_2 C fl_RX1_40 g213 dX1_writeTo_34 ?_
        refine g_iconst (v := 1) C dX1_writeTo_37 rfl ?_
        refine g_aload_n C dX1_writeTo_38 rfl rfl ?_
        refine gf_0_1 C fl_RX1_35 g213 dX1_writeTo_39 ?_
        refine g_iconst (v := 1) C dX1_writeTo_42 rfl ?_
        refine g_isub C dX1_writeTo_43 ?_
        refine g_ishl C dX1_writeTo_44 ?_
        refine g_ior C dX1_writeTo_45 ?_
        refine pf_0_2 C fl_RX1_40 g213 dX1_writeTo_46 ?_
        obtain ⟨M214, e215, h⟩ := of_bvv h
        refine g_mem e215 ?_
        refine g_goto 77 C dX1_writeTo_49 (by decide) ?_
        obtain ⟨y216, e217, h⟩ := of_bvv h
        refine g_iinc (v := y216) C dX1_writeTo_77 rfl e217.symm (by decide) (rv_cat _ _) (L2 := [some (rv w r0), some (rv w r1), some (.int y216), some (.int y203)]) rfl ?_
        refine g_goto 12 C dX1_writeTo_80 (by decide) ?_
        refine g_mask (bs := [true, true, true, false]) (L2 := [some (rv w r0), some (rv w r1), some (.int y216), none]) rfl ?_
        exact ih r0 r1 y216 M214 h
def f_X1_writeTo (r0 : Nat) (r1 : Nat) (M : Mem) : Option Mem := gdd (kd r1 = 1) <| bvv (sI M r1 1 (0 : Int32)) fun M2 => bvv (sI M2 r1 2 (0 : Int32)) fun M4 => f_X1_writeTo_12 FU r0 r1 (0 : Int32) M4
set_option maxRecDepth 100000 in
set_option maxHeartbeats 4000000 in
theorem ct_X1_writeTo {l : Launch} {w : Om} (hw : Wf w) {r0 : Nat} {r1 : Nat} {M : Mem} {M2 : Mem} (h : f_X1_writeTo r0 r1 M = some M2) : Ct l w yX1_writeTo cX1_writeTo 4 none 2 [rv w r0, rv w r1] M none M2 := by
  refine ct_of hw (by decide) (cat_s (rv_cat _ _) (cat_s (rv_cat _ _) cat_0)) (Nat.le_of_ble_eq_true rfl) (fun f _ C hR => ?_)
  show Go w f 0 [some (rv w r0), some (rv w r1), none, none] [] M
  unfold f_X1_writeTo at h
  refine g_aload_n C dX1_writeTo_0 rfl rfl ?_
  refine g_iconst (v := 0) C dX1_writeTo_1 rfl ?_
  obtain ⟨g1, h⟩ := of_gdd h
  refine pf_0_1 C fl_RX1_35 g1 dX1_writeTo_2 ?_
  obtain ⟨M2, e3, h⟩ := of_bvv h
  refine g_mem e3 ?_
  refine g_aload_n C dX1_writeTo_5 rfl rfl ?_
  refine g_iconst (v := 0) C dX1_writeTo_6 rfl ?_
  refine pf_0_2 C fl_RX1_40 g1 dX1_writeTo_7 ?_
  obtain ⟨M4, e5, h⟩ := of_bvv h
  refine g_mem e5 ?_
  refine g_iconst (v := 0) C dX1_writeTo_10 rfl ?_
  refine g_istore_n C dX1_writeTo_11 rfl (by decide) (rv_cat _ _) (L2 := [some (rv w r0), some (rv w r1), some (.int (0 : Int32)), none]) rfl ?_
  exact t_X1_writeTo_12 C hR _ r0 r1 (0 : Int32) M4 h
def f_X0_kindAt (r0 : Nat) (x1 : Int32) (M : Mem) : Option Int32 := if x1 < 0 then (some (0 : Int32)) else (gdd (kd r0 = 1) <| gdd (kd (fld r0 0) = 8) <| if (nI (ln (fld r0 0))) ≤ x1 then (some (0 : Int32)) else (gdd (inb x1 (ln (fld r0 0)) = true) <| some (gI M (fld r0 0) (x1).toNatClampNeg)))
set_option maxRecDepth 100000 in
set_option maxHeartbeats 4000000 in
theorem ct_X0_kindAt {l : Launch} {w : Om} (hw : Wf w) {r0 : Nat} {x1 : Int32}  {M : Mem} {r : Int32} (h : f_X0_kindAt r0 x1 M = some r) : Ct l w yX0_kindAt cX0_kindAt 2 (some .int) 0 [rv w r0, .int x1] M (some (.int r)) M := by
  refine ct_of hw (by decide) (cat_s (rv_cat _ _) (cat_s rfl cat_0)) (Nat.le_of_ble_eq_true rfl) (fun f _ C hR => ?_)
  show Go w f 0 [some (rv w r0), some (.int x1)] [] M
  unfold f_X0_kindAt at h
  refine g_iload_n C dX0_kindAt_0 rfl rfl ?_
  refine g_if_lt 22 C dX0_kindAt_1 (by decide) (fun c1 => ?_) (fun c1 => ?_)
  · replace h := of_ift h c1
    refine g_iconst (v := 0) C dX0_kindAt_22 rfl ?_
    cases h
    exact hR 23 _ ⟨.int, rfl, rfl⟩ dX0_kindAt_23
  · replace h := of_iff h c1
    refine g_iload_n C dX0_kindAt_4 rfl rfl ?_
    refine g_aload_n C dX0_kindAt_5 rfl rfl ?_
    obtain ⟨g2, h⟩ := of_gdd h
    refine gf_0_0 C fl_RX0_9 g2 dX0_kindAt_6 ?_
    obtain ⟨g3, h⟩ := of_gdd h
    refine g_alen C (Or.inl g3) dX0_kindAt_9 ?_
    refine g_icmp_ge 22 C dX0_kindAt_10 (by decide) (fun c4 => ?_) (fun c4 => ?_)
    · replace h := of_ift h c4
      refine g_iconst (v := 0) C dX0_kindAt_22 rfl ?_
      cases h
      exact hR 23 _ ⟨.int, rfl, rfl⟩ dX0_kindAt_23
    · replace h := of_iff h c4
      refine g_aload_n C dX0_kindAt_13 rfl rfl ?_
      refine gf_0_0 C fl_RX0_9 g2 dX0_kindAt_14 ?_
      refine g_iload_n C dX0_kindAt_17 rfl rfl ?_
      obtain ⟨g5, h⟩ := of_gdd h
      refine g_iald C g3 g5 dX0_kindAt_18 ?_
      refine g_goto 23 C dX0_kindAt_19 (by decide) ?_
      cases h
      exact hR 23 _ ⟨.int, rfl, rfl⟩ dX0_kindAt_23
def f_X0_hasWordsOf_15 (M : Mem) : Nat → Nat → Nat → Int32 → Option Int32
  | 0, _, _, _ => none
  | n + 1, r0, r1, x2 => gdd (kd r0 = 1) <| if (gI M r0 1) ≤ x2 then (some (1 : Int32)) else (obb (f_X0_kindAt r0 x2 M) fun y203 => gdd (kd r1 = 1) <| obb (f_X0_kindAt r1 x2 M) fun y206 => if y203 = y206 then (bvv (x2 + (1 : Int32)) fun y209 => (f_X0_hasWordsOf_15 M n) r0 r1 y209) else (some (0 : Int32)))
set_option maxRecDepth 100000 in
set_option maxHeartbeats 4000000 in
theorem t_X0_hasWordsOf_15 {w : Om} {f : Fr} {M : Mem} {r : Int32} (C : Cx w f RX0 cX0_hasWordsOf 3 1) (hR : Rt w f cX0_hasWordsOf (some .boolean) (some (.int r)) M)   : ∀ (n : Nat) (r0 : Nat) (r1 : Nat) (x2 : Int32), f_X0_hasWordsOf_15 M n r0 r1 x2 = some r → Go w f 15 [some (rv w r0), some (rv w r1), some (.int x2)] [] M := by
  intro n
  induction n with
  | zero =>
    intro r0 r1 x2 h
    cases h
  | succ n ih =>
    intro r0 r1 x2 h
    rw [f_X0_hasWordsOf_15] at h
    refine g_iload_n C dX0_hasWordsOf_15 rfl rfl ?_
    refine g_aload_n C dX0_hasWordsOf_16 rfl rfl ?_
    obtain ⟨g201, h⟩ := of_gdd h
    refine gf_0_1 C fl_RX0_23 g201 dX0_hasWordsOf_17 ?_
    refine g_icmp_ge 44 C dX0_hasWordsOf_20 (by decide) (fun c202 => ?_) (fun c202 => ?_)
    · replace h := of_ift h c202
      refine g_iconst (v := 1) C dX0_hasWordsOf_44 rfl ?_
      cases h
      exact hR 45 _ ⟨.boolean, rfl, rfl⟩ dX0_hasWordsOf_45
    · replace h := of_iff h c202
      refine g_aload_n C dX0_hasWordsOf_23 rfl rfl ?_
      refine g_iload_n C dX0_hasWordsOf_24 rfl rfl ?_
      obtain ⟨y203, e204, h⟩ := of_obb h
      refine g_callV (As := [.int x2]) C (ct_X0_kindAt C.wf e204) g201 lk_RX0_42 mi_X0_kindAt (by decide) cs_0 (by decide) dX0_hasWordsOf_25 rfl ?_
      show Go w f 28 [some (rv w r0), some (rv w r1), some (.int x2)] [.int y203] M
      refine g_aload_n C dX0_hasWordsOf_28 rfl rfl ?_
      refine g_iload_n C dX0_hasWordsOf_29 rfl rfl ?_
      obtain ⟨g205, h⟩ := of_gdd h
      obtain ⟨y206, e207, h⟩ := of_obb h
      refine g_callV (As := [.int x2]) C (ct_X0_kindAt C.wf e207) g205 lk_RX0_42 mi_X0_kindAt (by decide) (cs_i cs_0) (by decide) dX0_hasWordsOf_30 rfl ?_
      show Go w f 33 [some (rv w r0), some (rv w r1), some (.int x2)] [.int y206, .int y203] M
      refine g_icmp_eq 38 C dX0_hasWordsOf_33 (by decide) (fun c208 => ?_) (fun c208 => ?_)
      · replace h := of_ift h c208
        obtain ⟨y209, e210, h⟩ := of_bvv h
        refine g_iinc (v := y209) C dX0_hasWordsOf_38 rfl e210.symm (by decide) (rv_cat _ _) (L2 := [some (rv w r0), some (rv w r1), some (.int y209)]) rfl ?_
        refine g_goto 15 C dX0_hasWordsOf_41 (by decide) ?_
        exact ih r0 r1 y209 h
      · replace h := of_iff h c208
        refine g_iconst (v := 0) C dX0_hasWordsOf_36 rfl ?_
        cases h
        exact hR 37 _ ⟨.boolean, rfl, rfl⟩ dX0_hasWordsOf_37
def f_X0_hasWordsOf (r0 : Nat) (r1 : Nat) (M : Mem) : Option Int32 := gdd (kd r0 = 1) <| gdd (kd r1 = 1) <| if (gI M r0 1) = (gI M r1 1) then (f_X0_hasWordsOf_15 M FU r0 r1 (0 : Int32)) else (some (0 : Int32))
set_option maxRecDepth 100000 in
set_option maxHeartbeats 4000000 in
theorem ct_X0_hasWordsOf {l : Launch} {w : Om} (hw : Wf w) {r0 : Nat} {r1 : Nat}  {M : Mem} {r : Int32} (h : f_X0_hasWordsOf r0 r1 M = some r) : Ct l w yX0_hasWordsOf cX0_hasWordsOf 3 (some .boolean) 1 [rv w r0, rv w r1] M (some (.int r)) M := by
  refine ct_of hw (by decide) (cat_s (rv_cat _ _) (cat_s (rv_cat _ _) cat_0)) (Nat.le_of_ble_eq_true rfl) (fun f _ C hR => ?_)
  show Go w f 0 [some (rv w r0), some (rv w r1), none] [] M
  unfold f_X0_hasWordsOf at h
  refine g_aload_n C dX0_hasWordsOf_0 rfl rfl ?_
  obtain ⟨g1, h⟩ := of_gdd h
  refine gf_0_1 C fl_RX0_23 g1 dX0_hasWordsOf_1 ?_
  refine g_aload_n C dX0_hasWordsOf_4 rfl rfl ?_
  obtain ⟨g2, h⟩ := of_gdd h
  refine gf_0_1 C fl_RX0_23 g2 dX0_hasWordsOf_5 ?_
  refine g_icmp_eq 13 C dX0_hasWordsOf_8 (by decide) (fun c3 => ?_) (fun c3 => ?_)
  · replace h := of_ift h c3
    refine g_iconst (v := 0) C dX0_hasWordsOf_13 rfl ?_
    refine g_istore_n C dX0_hasWordsOf_14 rfl (by decide) (rv_cat _ _) (L2 := [some (rv w r0), some (rv w r1), some (.int (0 : Int32))]) rfl ?_
    exact t_X0_hasWordsOf_15 C hR _ r0 r1 (0 : Int32) h
  · replace h := of_iff h c3
    refine g_iconst (v := 0) C dX0_hasWordsOf_11 rfl ?_
    cases h
    exact hR 12 _ ⟨.boolean, rfl, rfl⟩ dX0_hasWordsOf_12
def f_X4_hasEditionLike_2 (M : Mem) : Nat → Nat → Nat → Int32 → Int32 → Option Int32
  | 0, _, _, _, _ => none
  | n + 1, r0, r1, x2, x3 => gdd (kd r0 = 5) <| if (gI M r0 4) ≤ x3 then (some (0 : Int32)) else (obb (f_X4_editionAt r0 x3 M) fun y203 => if y203 = 0 then (bvv (x3 + (1 : Int32)) fun y206 => (f_X4_hasEditionLike_2 M n) r0 r1 x2 y206) else (gdd (kd y203 = 1) <| if (gI M y203 2) = x2 then (obb (f_X0_hasWordsOf y203 r1 M) fun y212 => if y212 = 0 then (bvv (x3 + (1 : Int32)) fun y215 => (f_X4_hasEditionLike_2 M n) r0 r1 x2 y215) else (some (1 : Int32))) else (bvv (x3 + (1 : Int32)) fun y210 => (f_X4_hasEditionLike_2 M n) r0 r1 x2 y210)))
set_option maxRecDepth 100000 in
set_option maxHeartbeats 4000000 in
theorem t_X4_hasEditionLike_2 {w : Om} {f : Fr} {M : Mem} {r : Int32} (C : Cx w f RX4 cX4_hasEditionLike 5 2) (hR : Rt w f cX4_hasEditionLike (some .boolean) (some (.int r)) M)   : ∀ (n : Nat) (r0 : Nat) (r1 : Nat) (x2 : Int32) (x3 : Int32), f_X4_hasEditionLike_2 M n r0 r1 x2 x3 = some r → Go w f 2 [some (rv w r0), some (rv w r1), some (.int x2), some (.int x3), none] [] M := by
  intro n
  induction n with
  | zero =>
    intro r0 r1 x2 x3 h
    cases h
  | succ n ih =>
    intro r0 r1 x2 x3 h
    rw [f_X4_hasEditionLike_2] at h
    refine g_iload_n C dX4_hasEditionLike_2 rfl rfl ?_
    refine g_aload_n C dX4_hasEditionLike_3 rfl rfl ?_
    obtain ⟨g201, h⟩ := of_gdd h
    refine gf_4_4 C fl_RX4_40 g201 dX4_hasEditionLike_4 ?_
    refine g_icmp_ge 48 C dX4_hasEditionLike_7 (by decide) (fun c202 => ?_) (fun c202 => ?_)
    · replace h := of_ift h c202
      refine g_iconst (v := 0) C dX4_hasEditionLike_48 rfl ?_
      cases h
      exact hR 49 _ ⟨.boolean, rfl, rfl⟩ dX4_hasEditionLike_49
    · replace h := of_iff h c202
      refine g_aload_n C dX4_hasEditionLike_10 rfl rfl ?_
      refine g_iload_n C dX4_hasEditionLike_11 rfl rfl ?_
      obtain ⟨y203, e204, h⟩ := of_obb h
      refine g_callV (As := [.int x3]) C (ct_X4_editionAt C.wf e204) g201 lk_RX4_47 mi_X4_editionAt (by decide) cs_0 (by decide) dX4_hasEditionLike_12 rfl ?_
      show Go w f 15 [some (rv w r0), some (rv w r1), some (.int x2), some (.int x3), none] [rv w y203] M
      refine g_astore C dX4_hasEditionLike_15 (by decide) rfl (L2 := [some (rv w r0), some (rv w r1), some (.int x2), some (.int x3), some (rv w y203)]) rfl ?_
      refine g_aload C dX4_hasEditionLike_17 rfl ?_
      refine g_ifnull 42 C dX4_hasEditionLike_19 (by decide) (fun c205 => ?_) (fun c205 => ?_)
      · replace h := of_ift h c205
        obtain ⟨y206, e207, h⟩ := of_bvv h
        refine g_iinc (v := y206) C dX4_hasEditionLike_42 rfl e207.symm (by decide) rfl (L2 := [some (rv w r0), some (rv w r1), some (.int x2), some (.int y206), some (rv w y203)]) rfl ?_
        refine g_goto 2 C dX4_hasEditionLike_45 (by decide) ?_
        refine g_mask (bs := [true, true, true, true, false]) (L2 := [some (rv w r0), some (rv w r1), some (.int x2), some (.int y206), none]) rfl ?_
        exact ih r0 r1 x2 y206 h
      · replace h := of_iff h c205
        refine g_aload C dX4_hasEditionLike_22 rfl ?_
        obtain ⟨g208, h⟩ := of_gdd h
        refine gf_0_2 C fl_RX4_75 g208 dX4_hasEditionLike_24 ?_
        refine g_iload_n C dX4_hasEditionLike_27 rfl rfl ?_
        refine g_icmp_ne 42 C dX4_hasEditionLike_28 (by decide) (fun c209 => ?_) (fun c209 => ?_)
        · replace h := of_iff h c209
          obtain ⟨y210, e211, h⟩ := of_bvv h
          refine g_iinc (v := y210) C dX4_hasEditionLike_42 rfl e211.symm (by decide) rfl (L2 := [some (rv w r0), some (rv w r1), some (.int x2), some (.int y210), some (rv w y203)]) rfl ?_
          refine g_goto 2 C dX4_hasEditionLike_45 (by decide) ?_
          refine g_mask (bs := [true, true, true, true, false]) (L2 := [some (rv w r0), some (rv w r1), some (.int x2), some (.int y210), none]) rfl ?_
          exact ih r0 r1 x2 y210 h
        · replace h := of_ift h c209
          refine g_aload C dX4_hasEditionLike_31 rfl ?_
          refine g_aload_n C dX4_hasEditionLike_33 rfl rfl ?_
          obtain ⟨y212, e213, h⟩ := of_obb h
          refine g_callV (As := [rv w r1]) C (ct_X0_hasWordsOf C.wf e213) g208 lk_RX4_78 mi_X0_hasWordsOf (by decide) cs_0 (by decide) dX4_hasEditionLike_34 rfl ?_
          show Go w f 37 [some (rv w r0), some (rv w r1), some (.int x2), some (.int x3), some (rv w y203)] [.int y212] M
          refine g_if_eq 42 C dX4_hasEditionLike_37 (by decide) (fun c214 => ?_) (fun c214 => ?_)
          · replace h := of_ift h c214
            obtain ⟨y215, e216, h⟩ := of_bvv h
            refine g_iinc (v := y215) C dX4_hasEditionLike_42 rfl e216.symm (by decide) rfl (L2 := [some (rv w r0), some (rv w r1), some (.int x2), some (.int y215), some (rv w y203)]) rfl ?_
            refine g_goto 2 C dX4_hasEditionLike_45 (by decide) ?_
            refine g_mask (bs := [true, true, true, true, false]) (L2 := [some (rv w r0), some (rv w r1), some (.int x2), some (.int y215), none]) rfl ?_
            exact ih r0 r1 x2 y215 h
          · replace h := of_iff h c214
            refine g_iconst (v := 1) C dX4_hasEditionLike_40 rfl ?_
            cases h
            exact hR 41 _ ⟨.boolean, rfl, rfl⟩ dX4_hasEditionLike_41
def f_X4_hasEditionLike (r0 : Nat) (r1 : Nat) (x2 : Int32) (M : Mem) : Option Int32 := f_X4_hasEditionLike_2 M FU r0 r1 x2 (0 : Int32)
set_option maxRecDepth 100000 in
set_option maxHeartbeats 4000000 in
theorem ct_X4_hasEditionLike {l : Launch} {w : Om} (hw : Wf w) {r0 : Nat} {r1 : Nat} {x2 : Int32}  {M : Mem} {r : Int32} (h : f_X4_hasEditionLike r0 r1 x2 M = some r) : Ct l w yX4_hasEditionLike cX4_hasEditionLike 5 (some .boolean) 2 [rv w r0, rv w r1, .int x2] M (some (.int r)) M := by
  refine ct_of hw (by decide) (cat_s (rv_cat _ _) (cat_s (rv_cat _ _) (cat_s rfl cat_0))) (Nat.le_of_ble_eq_true rfl) (fun f _ C hR => ?_)
  show Go w f 0 [some (rv w r0), some (rv w r1), some (.int x2), none, none] [] M
  unfold f_X4_hasEditionLike at h
  refine g_iconst (v := 0) C dX4_hasEditionLike_0 rfl ?_
  refine g_istore_n C dX4_hasEditionLike_1 rfl (by decide) rfl (L2 := [some (rv w r0), some (rv w r1), some (.int x2), some (.int (0 : Int32)), none]) rfl ?_
  exact t_X4_hasEditionLike_2 C hR _ r0 r1 x2 (0 : Int32) h
end
