section
-- ===== PART A: goes FIRST, ahead of the names: the tables' words, and 'selects' of the private methods out of them =====
/-- a private method of a class that the tables say can be made, by its rows of tables_1 -/
def lw_okq (q : MethodName × Nat) : Prop := (q.1.cls ≠ "java/lang/invoke/MethodHandle" ∧ q.1.cls ≠ "java/lang/invoke/VarHandle") ∧ Cond.instantiable q.1.cls q.2 ∈ tables_1 ∧ Cond.privateMethod q.1 ∈ tables_1 ∧ Cond.instanceMethod q.1 ∈ tables_1
theorem lw_p0 : lw_okq (⟨"OneForOne$Reader", "step", "()V"⟩, 8) := ⟨⟨by decide +kernel, by decide +kernel⟩, List.mem_of_getElem? (i := 130) (by decide +kernel), List.mem_of_getElem? (i := 223) (by decide +kernel), List.mem_of_getElem? (i := 224) (by decide +kernel)⟩
theorem lw_p1 : lw_okq (⟨"OneForOne$Reader", "byteAt", "(I)I"⟩, 8) := ⟨⟨by decide +kernel, by decide +kernel⟩, List.mem_of_getElem? (i := 130) (by decide +kernel), List.mem_of_getElem? (i := 227) (by decide +kernel), List.mem_of_getElem? (i := 228) (by decide +kernel)⟩
theorem lw_p2 : lw_okq (⟨"OneForOne$Reader", "stepOver", "(II)V"⟩, 8) := ⟨⟨by decide +kernel, by decide +kernel⟩, List.mem_of_getElem? (i := 130) (by decide +kernel), List.mem_of_getElem? (i := 231) (by decide +kernel), List.mem_of_getElem? (i := 232) (by decide +kernel)⟩
theorem lw_p3 : lw_okq (⟨"OneForOne$Reader", "wordFrom", "(II)I"⟩, 8) := ⟨⟨by decide +kernel, by decide +kernel⟩, List.mem_of_getElem? (i := 130) (by decide +kernel), List.mem_of_getElem? (i := 235) (by decide +kernel), List.mem_of_getElem? (i := 236) (by decide +kernel)⟩
theorem lw_p4 : lw_okq (⟨"OneForOne$Reader", "spells", "(III)Z"⟩, 8) := ⟨⟨by decide +kernel, by decide +kernel⟩, List.mem_of_getElem? (i := 130) (by decide +kernel), List.mem_of_getElem? (i := 241) (by decide +kernel), List.mem_of_getElem? (i := 242) (by decide +kernel)⟩
theorem lw_p5 : lw_okq (⟨"OneForOne$Reader", "numberFrom", "(II)I"⟩, 8) := ⟨⟨by decide +kernel, by decide +kernel⟩, List.mem_of_getElem? (i := 130) (by decide +kernel), List.mem_of_getElem? (i := 246) (by decide +kernel), List.mem_of_getElem? (i := 247) (by decide +kernel)⟩
theorem lw_p6 : lw_okq (⟨"OneForOne$Reader", "standsPart", "(I)Z"⟩, 8) := ⟨⟨by decide +kernel, by decide +kernel⟩, List.mem_of_getElem? (i := 130) (by decide +kernel), List.mem_of_getElem? (i := 250) (by decide +kernel), List.mem_of_getElem? (i := 251) (by decide +kernel)⟩
theorem lw_p7 : lw_okq (⟨"OneForOne$Reader", "standsE", "()Z"⟩, 8) := ⟨⟨by decide +kernel, by decide +kernel⟩, List.mem_of_getElem? (i := 130) (by decide +kernel), List.mem_of_getElem? (i := 254) (by decide +kernel), List.mem_of_getElem? (i := 255) (by decide +kernel)⟩
theorem lw_p8 : lw_okq (⟨"OneForOne$Reader", "standsAnd", "()Z"⟩, 8) := ⟨⟨by decide +kernel, by decide +kernel⟩, List.mem_of_getElem? (i := 130) (by decide +kernel), List.mem_of_getElem? (i := 258) (by decide +kernel), List.mem_of_getElem? (i := 259) (by decide +kernel)⟩
theorem lw_p9 : lw_okq (⟨"OneForOne$Reader", "standsNot", "()Z"⟩, 8) := ⟨⟨by decide +kernel, by decide +kernel⟩, List.mem_of_getElem? (i := 130) (by decide +kernel), List.mem_of_getElem? (i := 262) (by decide +kernel), List.mem_of_getElem? (i := 263) (by decide +kernel)⟩
theorem lw_p10 : lw_okq (⟨"OneForOne$Reader", "opens", "()Z"⟩, 8) := ⟨⟨by decide +kernel, by decide +kernel⟩, List.mem_of_getElem? (i := 130) (by decide +kernel), List.mem_of_getElem? (i := 266) (by decide +kernel), List.mem_of_getElem? (i := 267) (by decide +kernel)⟩
theorem lw_p11 : lw_okq (⟨"OneForOne$Reader", "standsSum", "()Z"⟩, 8) := ⟨⟨by decide +kernel, by decide +kernel⟩, List.mem_of_getElem? (i := 130) (by decide +kernel), List.mem_of_getElem? (i := 274) (by decide +kernel), List.mem_of_getElem? (i := 275) (by decide +kernel)⟩
theorem lw_p12 : lw_okq (⟨"OneForOne$Reader", "standsTerm", "()Z"⟩, 8) := ⟨⟨by decide +kernel, by decide +kernel⟩, List.mem_of_getElem? (i := 130) (by decide +kernel), List.mem_of_getElem? (i := 278) (by decide +kernel), List.mem_of_getElem? (i := 279) (by decide +kernel)⟩
theorem lw_p13 : lw_okq (⟨"OneForOne$Reader", "standsOne", "()Z"⟩, 8) := ⟨⟨by decide +kernel, by decide +kernel⟩, List.mem_of_getElem? (i := 130) (by decide +kernel), List.mem_of_getElem? (i := 282) (by decide +kernel), List.mem_of_getElem? (i := 283) (by decide +kernel)⟩
theorem lw_p14 : lw_okq (⟨"OneForOne", "lawNow", "()LOneForOne$Law;"⟩, 11) := ⟨⟨by decide +kernel, by decide +kernel⟩, List.mem_of_getElem? (i := 19) (by decide +kernel), List.mem_of_getElem? (i := 523) (by decide +kernel), List.mem_of_getElem? (i := 524) (by decide +kernel)⟩
theorem lw_p15 : lw_okq (⟨"OneForOne$Rules", "name", "(IIIIII)V"⟩, 18) := ⟨⟨by decide +kernel, by decide +kernel⟩, List.mem_of_getElem? (i := 290) (by decide +kernel), List.mem_of_getElem? (i := 545) (by decide +kernel), List.mem_of_getElem? (i := 546) (by decide +kernel)⟩
def lw_privs_1 : List (MethodName × Nat) := [(⟨"OneForOne$Reader", "step", "()V"⟩, 8), (⟨"OneForOne$Reader", "byteAt", "(I)I"⟩, 8), (⟨"OneForOne$Reader", "stepOver", "(II)V"⟩, 8), (⟨"OneForOne$Reader", "wordFrom", "(II)I"⟩, 8), (⟨"OneForOne$Reader", "spells", "(III)Z"⟩, 8), (⟨"OneForOne$Reader", "numberFrom", "(II)I"⟩, 8), (⟨"OneForOne$Reader", "standsPart", "(I)Z"⟩, 8), (⟨"OneForOne$Reader", "standsE", "()Z"⟩, 8), (⟨"OneForOne$Reader", "standsAnd", "()Z"⟩, 8), (⟨"OneForOne$Reader", "standsNot", "()Z"⟩, 8), (⟨"OneForOne$Reader", "opens", "()Z"⟩, 8), (⟨"OneForOne$Reader", "standsSum", "()Z"⟩, 8), (⟨"OneForOne$Reader", "standsTerm", "()Z"⟩, 8), (⟨"OneForOne$Reader", "standsOne", "()Z"⟩, 8), (⟨"OneForOne", "lawNow", "()LOneForOne$Law;"⟩, 11), (⟨"OneForOne$Rules", "name", "(IIIIII)V"⟩, 18)]
theorem lw_r1 : ∀ q ∈ lw_privs_1, lw_okq q := List.forall_mem_cons.mpr ⟨lw_p0, List.forall_mem_cons.mpr ⟨lw_p1, List.forall_mem_cons.mpr ⟨lw_p2, List.forall_mem_cons.mpr ⟨lw_p3, List.forall_mem_cons.mpr ⟨lw_p4, List.forall_mem_cons.mpr ⟨lw_p5, List.forall_mem_cons.mpr ⟨lw_p6, List.forall_mem_cons.mpr ⟨lw_p7, List.forall_mem_cons.mpr ⟨lw_p8, List.forall_mem_cons.mpr ⟨lw_p9, List.forall_mem_cons.mpr ⟨lw_p10, List.forall_mem_cons.mpr ⟨lw_p11, List.forall_mem_cons.mpr ⟨lw_p12, List.forall_mem_cons.mpr ⟨lw_p13, List.forall_mem_cons.mpr ⟨lw_p14, List.forall_mem_cons.mpr ⟨lw_p15, fun _ h => absurd h List.not_mem_nil⟩⟩⟩⟩⟩⟩⟩⟩⟩⟩⟩⟩⟩⟩⟩⟩
theorem lw_p16 : lw_okq (⟨"OneForOne$Rules", "landingsFor", "(II)I"⟩, 18) := ⟨⟨by decide +kernel, by decide +kernel⟩, List.mem_of_getElem? (i := 290) (by decide +kernel), List.mem_of_getElem? (i := 565) (by decide +kernel), List.mem_of_getElem? (i := 566) (by decide +kernel)⟩
theorem lw_p17 : lw_okq (⟨"OneForOne$Trip", "begin", "()V"⟩, 10) := ⟨⟨by decide +kernel, by decide +kernel⟩, List.mem_of_getElem? (i := 398) (by decide +kernel), List.mem_of_getElem? (i := 657) (by decide +kernel), List.mem_of_getElem? (i := 658) (by decide +kernel)⟩
theorem lw_p18 : lw_okq (⟨"OneForOne$Trip", "done", "(III)Z"⟩, 10) := ⟨⟨by decide +kernel, by decide +kernel⟩, List.mem_of_getElem? (i := 398) (by decide +kernel), List.mem_of_getElem? (i := 663) (by decide +kernel), List.mem_of_getElem? (i := 664) (by decide +kernel)⟩
theorem lw_p19 : lw_okq (⟨"OneForOne$Trip", "row", "(I)V"⟩, 10) := ⟨⟨by decide +kernel, by decide +kernel⟩, List.mem_of_getElem? (i := 398) (by decide +kernel), List.mem_of_getElem? (i := 667) (by decide +kernel), List.mem_of_getElem? (i := 668) (by decide +kernel)⟩
theorem lw_p20 : lw_okq (⟨"OneForOne$Trip", "swap", "(II)V"⟩, 10) := ⟨⟨by decide +kernel, by decide +kernel⟩, List.mem_of_getElem? (i := 398) (by decide +kernel), List.mem_of_getElem? (i := 677) (by decide +kernel), List.mem_of_getElem? (i := 678) (by decide +kernel)⟩
theorem lw_p21 : lw_okq (⟨"OneForOne$Trip", "addGain", "()V"⟩, 10) := ⟨⟨by decide +kernel, by decide +kernel⟩, List.mem_of_getElem? (i := 398) (by decide +kernel), List.mem_of_getElem? (i := 686) (by decide +kernel), List.mem_of_getElem? (i := 687) (by decide +kernel)⟩
theorem lw_p22 : lw_okq (⟨"OneForOne", "searchNow", "(LOneForOne$Law;I)I"⟩, 11) := ⟨⟨by decide +kernel, by decide +kernel⟩, List.mem_of_getElem? (i := 19) (by decide +kernel), List.mem_of_getElem? (i := 711) (by decide +kernel), List.mem_of_getElem? (i := 712) (by decide +kernel)⟩
theorem lw_p23 : lw_okq (⟨"OneForOne$Search", "add", "(I)V"⟩, 8) := ⟨⟨by decide +kernel, by decide +kernel⟩, List.mem_of_getElem? (i := 364) (by decide +kernel), List.mem_of_getElem? (i := 730) (by decide +kernel), List.mem_of_getElem? (i := 731) (by decide +kernel)⟩
theorem lw_p24 : lw_okq (⟨"OneForOne$Search", "comeTo", "(II)V"⟩, 8) := ⟨⟨by decide +kernel, by decide +kernel⟩, List.mem_of_getElem? (i := 364) (by decide +kernel), List.mem_of_getElem? (i := 735) (by decide +kernel), List.mem_of_getElem? (i := 736) (by decide +kernel)⟩
theorem lw_p25 : lw_okq (⟨"OneForOne$Search", "addSwapped", "(I)V"⟩, 8) := ⟨⟨by decide +kernel, by decide +kernel⟩, List.mem_of_getElem? (i := 364) (by decide +kernel), List.mem_of_getElem? (i := 741) (by decide +kernel), List.mem_of_getElem? (i := 742) (by decide +kernel)⟩
theorem lw_p26 : lw_okq (⟨"OneForOne$Search", "addRowedFrom", "(III)V"⟩, 8) := ⟨⟨by decide +kernel, by decide +kernel⟩, List.mem_of_getElem? (i := 364) (by decide +kernel), List.mem_of_getElem? (i := 751) (by decide +kernel), List.mem_of_getElem? (i := 752) (by decide +kernel)⟩
theorem lw_p27 : lw_okq (⟨"OneForOne$Search", "addRowed", "(I)V"⟩, 8) := ⟨⟨by decide +kernel, by decide +kernel⟩, List.mem_of_getElem? (i := 364) (by decide +kernel), List.mem_of_getElem? (i := 755) (by decide +kernel), List.mem_of_getElem? (i := 756) (by decide +kernel)⟩
theorem lw_p28 : lw_okq (⟨"OneForOne", "explore", "()V"⟩, 11) := ⟨⟨by decide +kernel, by decide +kernel⟩, List.mem_of_getElem? (i := 19) (by decide +kernel), List.mem_of_getElem? (i := 760) (by decide +kernel), List.mem_of_getElem? (i := 761) (by decide +kernel)⟩
theorem lw_p29 : lw_okq (⟨"OneForOne$Search", "mostGainAt", "(I)I"⟩, 8) := ⟨⟨by decide +kernel, by decide +kernel⟩, List.mem_of_getElem? (i := 364) (by decide +kernel), List.mem_of_getElem? (i := 794) (by decide +kernel), List.mem_of_getElem? (i := 795) (by decide +kernel)⟩
theorem lw_p30 : lw_okq (⟨"OneForOne$Search", "gainOfAll", "(II)I"⟩, 8) := ⟨⟨by decide +kernel, by decide +kernel⟩, List.mem_of_getElem? (i := 364) (by decide +kernel), List.mem_of_getElem? (i := 798) (by decide +kernel), List.mem_of_getElem? (i := 799) (by decide +kernel)⟩
theorem lw_p31 : lw_okq (⟨"OneForOne", "staysAt", "(II)Z"⟩, 11) := ⟨⟨by decide +kernel, by decide +kernel⟩, List.mem_of_getElem? (i := 19) (by decide +kernel), List.mem_of_getElem? (i := 849) (by decide +kernel), List.mem_of_getElem? (i := 850) (by decide +kernel)⟩
def lw_privs_2 : List (MethodName × Nat) := [(⟨"OneForOne$Rules", "landingsFor", "(II)I"⟩, 18), (⟨"OneForOne$Trip", "begin", "()V"⟩, 10), (⟨"OneForOne$Trip", "done", "(III)Z"⟩, 10), (⟨"OneForOne$Trip", "row", "(I)V"⟩, 10), (⟨"OneForOne$Trip", "swap", "(II)V"⟩, 10), (⟨"OneForOne$Trip", "addGain", "()V"⟩, 10), (⟨"OneForOne", "searchNow", "(LOneForOne$Law;I)I"⟩, 11), (⟨"OneForOne$Search", "add", "(I)V"⟩, 8), (⟨"OneForOne$Search", "comeTo", "(II)V"⟩, 8), (⟨"OneForOne$Search", "addSwapped", "(I)V"⟩, 8), (⟨"OneForOne$Search", "addRowedFrom", "(III)V"⟩, 8), (⟨"OneForOne$Search", "addRowed", "(I)V"⟩, 8), (⟨"OneForOne", "explore", "()V"⟩, 11), (⟨"OneForOne$Search", "mostGainAt", "(I)I"⟩, 8), (⟨"OneForOne$Search", "gainOfAll", "(II)I"⟩, 8), (⟨"OneForOne", "staysAt", "(II)Z"⟩, 11)]
theorem lw_r2 : ∀ q ∈ lw_privs_2, lw_okq q := List.forall_mem_cons.mpr ⟨lw_p16, List.forall_mem_cons.mpr ⟨lw_p17, List.forall_mem_cons.mpr ⟨lw_p18, List.forall_mem_cons.mpr ⟨lw_p19, List.forall_mem_cons.mpr ⟨lw_p20, List.forall_mem_cons.mpr ⟨lw_p21, List.forall_mem_cons.mpr ⟨lw_p22, List.forall_mem_cons.mpr ⟨lw_p23, List.forall_mem_cons.mpr ⟨lw_p24, List.forall_mem_cons.mpr ⟨lw_p25, List.forall_mem_cons.mpr ⟨lw_p26, List.forall_mem_cons.mpr ⟨lw_p27, List.forall_mem_cons.mpr ⟨lw_p28, List.forall_mem_cons.mpr ⟨lw_p29, List.forall_mem_cons.mpr ⟨lw_p30, List.forall_mem_cons.mpr ⟨lw_p31, fun _ h => absurd h List.not_mem_nil⟩⟩⟩⟩⟩⟩⟩⟩⟩⟩⟩⟩⟩⟩⟩⟩
theorem lw_p32 : lw_okq (⟨"OneForOne$Trip", "choose", "(I)V"⟩, 10) := ⟨⟨by decide +kernel, by decide +kernel⟩, List.mem_of_getElem? (i := 398) (by decide +kernel), List.mem_of_getElem? (i := 869) (by decide +kernel), List.mem_of_getElem? (i := 870) (by decide +kernel)⟩
theorem lw_p33 : lw_okq (⟨"OneForOneModel", "manyAt", "(I)I"⟩, 56) := ⟨⟨by decide +kernel, by decide +kernel⟩, List.mem_of_getElem? (i := 942) (by decide +kernel), List.mem_of_getElem? (i := 1135) (by decide +kernel), List.mem_of_getElem? (i := 1136) (by decide +kernel)⟩
theorem lw_p34 : lw_okq (⟨"OneForOneModel", "adds", "(I)V"⟩, 56) := ⟨⟨by decide +kernel, by decide +kernel⟩, List.mem_of_getElem? (i := 942) (by decide +kernel), List.mem_of_getElem? (i := 1146) (by decide +kernel), List.mem_of_getElem? (i := 1147) (by decide +kernel)⟩
theorem lw_p35 : lw_okq (⟨"OneForOneModel", "next", "()V"⟩, 56) := ⟨⟨by decide +kernel, by decide +kernel⟩, List.mem_of_getElem? (i := 942) (by decide +kernel), List.mem_of_getElem? (i := 1154) (by decide +kernel), List.mem_of_getElem? (i := 1155) (by decide +kernel)⟩
theorem lw_p36 : lw_okq (⟨"OneForOneModel", "wordNow", "()I"⟩, 56) := ⟨⟨by decide +kernel, by decide +kernel⟩, List.mem_of_getElem? (i := 942) (by decide +kernel), List.mem_of_getElem? (i := 1161) (by decide +kernel), List.mem_of_getElem? (i := 1162) (by decide +kernel)⟩
theorem lw_p37 : lw_okq (⟨"OneForOneModel", "rule", "(I)V"⟩, 56) := ⟨⟨by decide +kernel, by decide +kernel⟩, List.mem_of_getElem? (i := 942) (by decide +kernel), List.mem_of_getElem? (i := 1168) (by decide +kernel), List.mem_of_getElem? (i := 1169) (by decide +kernel)⟩
theorem lw_p38 : lw_okq (⟨"OneForOneModel", "isKey", "(I)Z"⟩, 56) := ⟨⟨by decide +kernel, by decide +kernel⟩, List.mem_of_getElem? (i := 942) (by decide +kernel), List.mem_of_getElem? (i := 1172) (by decide +kernel), List.mem_of_getElem? (i := 1173) (by decide +kernel)⟩
theorem lw_p39 : lw_okq (⟨"OneForOneModel", "faulty", "()V"⟩, 56) := ⟨⟨by decide +kernel, by decide +kernel⟩, List.mem_of_getElem? (i := 942) (by decide +kernel), List.mem_of_getElem? (i := 1176) (by decide +kernel), List.mem_of_getElem? (i := 1177) (by decide +kernel)⟩
theorem lw_p40 : lw_okq (⟨"OneForOneModel", "either", "()V"⟩, 56) := ⟨⟨by decide +kernel, by decide +kernel⟩, List.mem_of_getElem? (i := 942) (by decide +kernel), List.mem_of_getElem? (i := 1180) (by decide +kernel), List.mem_of_getElem? (i := 1181) (by decide +kernel)⟩
theorem lw_p41 : lw_okq (⟨"OneForOneModel", "allOf", "()V"⟩, 56) := ⟨⟨by decide +kernel, by decide +kernel⟩, List.mem_of_getElem? (i := 942) (by decide +kernel), List.mem_of_getElem? (i := 1184) (by decide +kernel), List.mem_of_getElem? (i := 1185) (by decide +kernel)⟩
theorem lw_p42 : lw_okq (⟨"OneForOneModel", "denied", "()V"⟩, 56) := ⟨⟨by decide +kernel, by decide +kernel⟩, List.mem_of_getElem? (i := 942) (by decide +kernel), List.mem_of_getElem? (i := 1188) (by decide +kernel), List.mem_of_getElem? (i := 1189) (by decide +kernel)⟩
theorem lw_p43 : lw_okq (⟨"OneForOneModel", "opens", "()Z"⟩, 56) := ⟨⟨by decide +kernel, by decide +kernel⟩, List.mem_of_getElem? (i := 942) (by decide +kernel), List.mem_of_getElem? (i := 1192) (by decide +kernel), List.mem_of_getElem? (i := 1193) (by decide +kernel)⟩
theorem lw_p44 : lw_okq (⟨"OneForOneModel", "addStep", "(II)V"⟩, 56) := ⟨⟨by decide +kernel, by decide +kernel⟩, List.mem_of_getElem? (i := 942) (by decide +kernel), List.mem_of_getElem? (i := 1196) (by decide +kernel), List.mem_of_getElem? (i := 1197) (by decide +kernel)⟩
theorem lw_p45 : lw_okq (⟨"OneForOneModel", "sum", "()V"⟩, 56) := ⟨⟨by decide +kernel, by decide +kernel⟩, List.mem_of_getElem? (i := 942) (by decide +kernel), List.mem_of_getElem? (i := 1200) (by decide +kernel), List.mem_of_getElem? (i := 1201) (by decide +kernel)⟩
theorem lw_p46 : lw_okq (⟨"OneForOneModel", "term", "()V"⟩, 56) := ⟨⟨by decide +kernel, by decide +kernel⟩, List.mem_of_getElem? (i := 942) (by decide +kernel), List.mem_of_getElem? (i := 1204) (by decide +kernel), List.mem_of_getElem? (i := 1205) (by decide +kernel)⟩
theorem lw_p47 : lw_okq (⟨"OneForOneModel", "one", "()V"⟩, 56) := ⟨⟨by decide +kernel, by decide +kernel⟩, List.mem_of_getElem? (i := 942) (by decide +kernel), List.mem_of_getElem? (i := 1208) (by decide +kernel), List.mem_of_getElem? (i := 1209) (by decide +kernel)⟩
def lw_privs_3 : List (MethodName × Nat) := [(⟨"OneForOne$Trip", "choose", "(I)V"⟩, 10), (⟨"OneForOneModel", "manyAt", "(I)I"⟩, 56), (⟨"OneForOneModel", "adds", "(I)V"⟩, 56), (⟨"OneForOneModel", "next", "()V"⟩, 56), (⟨"OneForOneModel", "wordNow", "()I"⟩, 56), (⟨"OneForOneModel", "rule", "(I)V"⟩, 56), (⟨"OneForOneModel", "isKey", "(I)Z"⟩, 56), (⟨"OneForOneModel", "faulty", "()V"⟩, 56), (⟨"OneForOneModel", "either", "()V"⟩, 56), (⟨"OneForOneModel", "allOf", "()V"⟩, 56), (⟨"OneForOneModel", "denied", "()V"⟩, 56), (⟨"OneForOneModel", "opens", "()Z"⟩, 56), (⟨"OneForOneModel", "addStep", "(II)V"⟩, 56), (⟨"OneForOneModel", "sum", "()V"⟩, 56), (⟨"OneForOneModel", "term", "()V"⟩, 56), (⟨"OneForOneModel", "one", "()V"⟩, 56)]
theorem lw_r3 : ∀ q ∈ lw_privs_3, lw_okq q := List.forall_mem_cons.mpr ⟨lw_p32, List.forall_mem_cons.mpr ⟨lw_p33, List.forall_mem_cons.mpr ⟨lw_p34, List.forall_mem_cons.mpr ⟨lw_p35, List.forall_mem_cons.mpr ⟨lw_p36, List.forall_mem_cons.mpr ⟨lw_p37, List.forall_mem_cons.mpr ⟨lw_p38, List.forall_mem_cons.mpr ⟨lw_p39, List.forall_mem_cons.mpr ⟨lw_p40, List.forall_mem_cons.mpr ⟨lw_p41, List.forall_mem_cons.mpr ⟨lw_p42, List.forall_mem_cons.mpr ⟨lw_p43, List.forall_mem_cons.mpr ⟨lw_p44, List.forall_mem_cons.mpr ⟨lw_p45, List.forall_mem_cons.mpr ⟨lw_p46, List.forall_mem_cons.mpr ⟨lw_p47, fun _ h => absurd h List.not_mem_nil⟩⟩⟩⟩⟩⟩⟩⟩⟩⟩⟩⟩⟩⟩⟩⟩
theorem lw_p48 : lw_okq (⟨"OneForOneModel", "isSign", "(I)Z"⟩, 56) := ⟨⟨by decide +kernel, by decide +kernel⟩, List.mem_of_getElem? (i := 942) (by decide +kernel), List.mem_of_getElem? (i := 1212) (by decide +kernel), List.mem_of_getElem? (i := 1213) (by decide +kernel)⟩
theorem lw_p49 : lw_okq (⟨"OneForOneModel", "isOne", "(I)Z"⟩, 56) := ⟨⟨by decide +kernel, by decide +kernel⟩, List.mem_of_getElem? (i := 942) (by decide +kernel), List.mem_of_getElem? (i := 1224) (by decide +kernel), List.mem_of_getElem? (i := 1225) (by decide +kernel)⟩
theorem lw_p50 : lw_okq (⟨"OneForOneModel", "saysMay", "(III)Z"⟩, 56) := ⟨⟨by decide +kernel, by decide +kernel⟩, List.mem_of_getElem? (i := 942) (by decide +kernel), List.mem_of_getElem? (i := 1228) (by decide +kernel), List.mem_of_getElem? (i := 1229) (by decide +kernel)⟩
theorem lw_p51 : lw_okq (⟨"OneForOneModel", "noFacts", "()V"⟩, 56) := ⟨⟨by decide +kernel, by decide +kernel⟩, List.mem_of_getElem? (i := 942) (by decide +kernel), List.mem_of_getElem? (i := 1232) (by decide +kernel), List.mem_of_getElem? (i := 1233) (by decide +kernel)⟩
theorem lw_p52 : lw_okq (⟨"OneForOneModel", "gives", "(I)I"⟩, 56) := ⟨⟨by decide +kernel, by decide +kernel⟩, List.mem_of_getElem? (i := 942) (by decide +kernel), List.mem_of_getElem? (i := 1236) (by decide +kernel), List.mem_of_getElem? (i := 1237) (by decide +kernel)⟩
theorem lw_p53 : lw_okq (⟨"OneForOneModel", "rowOf", "(II)I"⟩, 56) := ⟨⟨by decide +kernel, by decide +kernel⟩, List.mem_of_getElem? (i := 942) (by decide +kernel), List.mem_of_getElem? (i := 1243) (by decide +kernel), List.mem_of_getElem? (i := 1244) (by decide +kernel)⟩
theorem lw_p54 : lw_okq (⟨"OneForOneModel", "gainOf", "(II)I"⟩, 56) := ⟨⟨by decide +kernel, by decide +kernel⟩, List.mem_of_getElem? (i := 942) (by decide +kernel), List.mem_of_getElem? (i := 1250) (by decide +kernel), List.mem_of_getElem? (i := 1251) (by decide +kernel)⟩
theorem lw_p55 : lw_okq (⟨"OneForOneModel", "maySwap", "(II)Z"⟩, 56) := ⟨⟨by decide +kernel, by decide +kernel⟩, List.mem_of_getElem? (i := 942) (by decide +kernel), List.mem_of_getElem? (i := 1274) (by decide +kernel), List.mem_of_getElem? (i := 1275) (by decide +kernel)⟩
theorem lw_p56 : lw_okq (⟨"OneForOneModel", "mayLeave", "(II)Z"⟩, 56) := ⟨⟨by decide +kernel, by decide +kernel⟩, List.mem_of_getElem? (i := 942) (by decide +kernel), List.mem_of_getElem? (i := 1278) (by decide +kernel), List.mem_of_getElem? (i := 1279) (by decide +kernel)⟩
theorem lw_p57 : lw_okq (⟨"OneForOneModel", "mayBoard", "(II)Z"⟩, 56) := ⟨⟨by decide +kernel, by decide +kernel⟩, List.mem_of_getElem? (i := 942) (by decide +kernel), List.mem_of_getElem? (i := 1282) (by decide +kernel), List.mem_of_getElem? (i := 1283) (by decide +kernel)⟩
theorem lw_p58 : lw_okq (⟨"OneForOneModel", "swap", "(II)V"⟩, 56) := ⟨⟨by decide +kernel, by decide +kernel⟩, List.mem_of_getElem? (i := 942) (by decide +kernel), List.mem_of_getElem? (i := 1286) (by decide +kernel), List.mem_of_getElem? (i := 1287) (by decide +kernel)⟩
theorem lw_p59 : lw_okq (⟨"OneForOneModel", "allStand", "(I)Z"⟩, 56) := ⟨⟨by decide +kernel, by decide +kernel⟩, List.mem_of_getElem? (i := 942) (by decide +kernel), List.mem_of_getElem? (i := 1290) (by decide +kernel), List.mem_of_getElem? (i := 1291) (by decide +kernel)⟩
theorem lw_p60 : lw_okq (⟨"OneForOneModel", "isChildAt", "(I)Z"⟩, 56) := ⟨⟨by decide +kernel, by decide +kernel⟩, List.mem_of_getElem? (i := 942) (by decide +kernel), List.mem_of_getElem? (i := 1294) (by decide +kernel), List.mem_of_getElem? (i := 1295) (by decide +kernel)⟩
theorem lw_p61 : lw_okq (⟨"OneForOneModel", "keepNow", "()V"⟩, 56) := ⟨⟨by decide +kernel, by decide +kernel⟩, List.mem_of_getElem? (i := 942) (by decide +kernel), List.mem_of_getElem? (i := 1314) (by decide +kernel), List.mem_of_getElem? (i := 1315) (by decide +kernel)⟩
theorem lw_p62 : lw_okq (⟨"OneForOneModel", "does", "(I)I"⟩, 56) := ⟨⟨by decide +kernel, by decide +kernel⟩, List.mem_of_getElem? (i := 942) (by decide +kernel), List.mem_of_getElem? (i := 1318) (by decide +kernel), List.mem_of_getElem? (i := 1319) (by decide +kernel)⟩
theorem lw_p63 : lw_okq (⟨"OneForOneModel", "layBack", "()V"⟩, 56) := ⟨⟨by decide +kernel, by decide +kernel⟩, List.mem_of_getElem? (i := 942) (by decide +kernel), List.mem_of_getElem? (i := 1322) (by decide +kernel), List.mem_of_getElem? (i := 1323) (by decide +kernel)⟩
def lw_privs_4 : List (MethodName × Nat) := [(⟨"OneForOneModel", "isSign", "(I)Z"⟩, 56), (⟨"OneForOneModel", "isOne", "(I)Z"⟩, 56), (⟨"OneForOneModel", "saysMay", "(III)Z"⟩, 56), (⟨"OneForOneModel", "noFacts", "()V"⟩, 56), (⟨"OneForOneModel", "gives", "(I)I"⟩, 56), (⟨"OneForOneModel", "rowOf", "(II)I"⟩, 56), (⟨"OneForOneModel", "gainOf", "(II)I"⟩, 56), (⟨"OneForOneModel", "maySwap", "(II)Z"⟩, 56), (⟨"OneForOneModel", "mayLeave", "(II)Z"⟩, 56), (⟨"OneForOneModel", "mayBoard", "(II)Z"⟩, 56), (⟨"OneForOneModel", "swap", "(II)V"⟩, 56), (⟨"OneForOneModel", "allStand", "(I)Z"⟩, 56), (⟨"OneForOneModel", "isChildAt", "(I)Z"⟩, 56), (⟨"OneForOneModel", "keepNow", "()V"⟩, 56), (⟨"OneForOneModel", "does", "(I)I"⟩, 56), (⟨"OneForOneModel", "layBack", "()V"⟩, 56)]
theorem lw_r4 : ∀ q ∈ lw_privs_4, lw_okq q := List.forall_mem_cons.mpr ⟨lw_p48, List.forall_mem_cons.mpr ⟨lw_p49, List.forall_mem_cons.mpr ⟨lw_p50, List.forall_mem_cons.mpr ⟨lw_p51, List.forall_mem_cons.mpr ⟨lw_p52, List.forall_mem_cons.mpr ⟨lw_p53, List.forall_mem_cons.mpr ⟨lw_p54, List.forall_mem_cons.mpr ⟨lw_p55, List.forall_mem_cons.mpr ⟨lw_p56, List.forall_mem_cons.mpr ⟨lw_p57, List.forall_mem_cons.mpr ⟨lw_p58, List.forall_mem_cons.mpr ⟨lw_p59, List.forall_mem_cons.mpr ⟨lw_p60, List.forall_mem_cons.mpr ⟨lw_p61, List.forall_mem_cons.mpr ⟨lw_p62, List.forall_mem_cons.mpr ⟨lw_p63, fun _ h => absurd h List.not_mem_nil⟩⟩⟩⟩⟩⟩⟩⟩⟩⟩⟩⟩⟩⟩⟩⟩
theorem lw_p64 : lw_okq (⟨"OneForOneModel", "doMoves", "(I)V"⟩, 56) := ⟨⟨by decide +kernel, by decide +kernel⟩, List.mem_of_getElem? (i := 942) (by decide +kernel), List.mem_of_getElem? (i := 1330) (by decide +kernel), List.mem_of_getElem? (i := 1331) (by decide +kernel)⟩
theorem lw_p65 : lw_okq (⟨"OneForOneModel", "whoIsThere", "()I"⟩, 56) := ⟨⟨by decide +kernel, by decide +kernel⟩, List.mem_of_getElem? (i := 942) (by decide +kernel), List.mem_of_getElem? (i := 1334) (by decide +kernel), List.mem_of_getElem? (i := 1335) (by decide +kernel)⟩
theorem lw_p66 : lw_okq (⟨"OneForOneModel", "isThere", "(I)Z"⟩, 56) := ⟨⟨by decide +kernel, by decide +kernel⟩, List.mem_of_getElem? (i := 942) (by decide +kernel), List.mem_of_getElem? (i := 1338) (by decide +kernel), List.mem_of_getElem? (i := 1339) (by decide +kernel)⟩
theorem lw_p67 : lw_okq (⟨"OneForOneModel", "allBy", "(I)I"⟩, 56) := ⟨⟨by decide +kernel, by decide +kernel⟩, List.mem_of_getElem? (i := 942) (by decide +kernel), List.mem_of_getElem? (i := 1350) (by decide +kernel), List.mem_of_getElem? (i := 1351) (by decide +kernel)⟩
theorem lw_p68 : lw_okq (⟨"OneForOneModel", "findStates", "(I)V"⟩, 56) := ⟨⟨by decide +kernel, by decide +kernel⟩, List.mem_of_getElem? (i := 942) (by decide +kernel), List.mem_of_getElem? (i := 1354) (by decide +kernel), List.mem_of_getElem? (i := 1355) (by decide +kernel)⟩
theorem lw_p69 : lw_okq (⟨"OneForOneModel", "comes", "(I)V"⟩, 56) := ⟨⟨by decide +kernel, by decide +kernel⟩, List.mem_of_getElem? (i := 942) (by decide +kernel), List.mem_of_getElem? (i := 1358) (by decide +kernel), List.mem_of_getElem? (i := 1359) (by decide +kernel)⟩
theorem lw_p70 : lw_okq (⟨"OneForOneModel", "codeNow", "()I"⟩, 56) := ⟨⟨by decide +kernel, by decide +kernel⟩, List.mem_of_getElem? (i := 942) (by decide +kernel), List.mem_of_getElem? (i := 1362) (by decide +kernel), List.mem_of_getElem? (i := 1363) (by decide +kernel)⟩
theorem lw_p71 : lw_okq (⟨"OneForOneModel", "goOn", "(II)V"⟩, 56) := ⟨⟨by decide +kernel, by decide +kernel⟩, List.mem_of_getElem? (i := 942) (by decide +kernel), List.mem_of_getElem? (i := 1366) (by decide +kernel), List.mem_of_getElem? (i := 1367) (by decide +kernel)⟩
theorem lw_p72 : lw_okq (⟨"OneForOneModel", "beAt", "(I)V"⟩, 56) := ⟨⟨by decide +kernel, by decide +kernel⟩, List.mem_of_getElem? (i := 942) (by decide +kernel), List.mem_of_getElem? (i := 1370) (by decide +kernel), List.mem_of_getElem? (i := 1371) (by decide +kernel)⟩
theorem lw_p73 : lw_okq (⟨"OneForOneModel", "leastBut", "(I)I"⟩, 56) := ⟨⟨by decide +kernel, by decide +kernel⟩, List.mem_of_getElem? (i := 942) (by decide +kernel), List.mem_of_getElem? (i := 1374) (by decide +kernel), List.mem_of_getElem? (i := 1375) (by decide +kernel)⟩
theorem lw_p74 : lw_okq (⟨"OneForOneModel", "gainIn", "(I)I"⟩, 56) := ⟨⟨by decide +kernel, by decide +kernel⟩, List.mem_of_getElem? (i := 942) (by decide +kernel), List.mem_of_getElem? (i := 1390) (by decide +kernel), List.mem_of_getElem? (i := 1391) (by decide +kernel)⟩
theorem lw_p75 : lw_okq (⟨"OneForOneModel", "boundNow", "()I"⟩, 56) := ⟨⟨by decide +kernel, by decide +kernel⟩, List.mem_of_getElem? (i := 942) (by decide +kernel), List.mem_of_getElem? (i := 1398) (by decide +kernel), List.mem_of_getElem? (i := 1399) (by decide +kernel)⟩
theorem lw_p76 : lw_okq (⟨"OneForOneModel", "wayOf", "(II)I"⟩, 56) := ⟨⟨by decide +kernel, by decide +kernel⟩, List.mem_of_getElem? (i := 942) (by decide +kernel), List.mem_of_getElem? (i := 1402) (by decide +kernel), List.mem_of_getElem? (i := 1403) (by decide +kernel)⟩
theorem lw_p77 : lw_okq (⟨"OneForOneModel", "draw", "(II)V"⟩, 56) := ⟨⟨by decide +kernel, by decide +kernel⟩, List.mem_of_getElem? (i := 942) (by decide +kernel), List.mem_of_getElem? (i := 1442) (by decide +kernel), List.mem_of_getElem? (i := 1443) (by decide +kernel)⟩
theorem lw_p78 : lw_okq (⟨"OneForOneModel", "swapsNow", "()I"⟩, 56) := ⟨⟨by decide +kernel, by decide +kernel⟩, List.mem_of_getElem? (i := 942) (by decide +kernel), List.mem_of_getElem? (i := 1448) (by decide +kernel), List.mem_of_getElem? (i := 1449) (by decide +kernel)⟩
theorem lw_p79 : lw_okq (⟨"OneForOneModel", "doLot", "(I)V"⟩, 56) := ⟨⟨by decide +kernel, by decide +kernel⟩, List.mem_of_getElem? (i := 942) (by decide +kernel), List.mem_of_getElem? (i := 1452) (by decide +kernel), List.mem_of_getElem? (i := 1453) (by decide +kernel)⟩
def lw_privs_5 : List (MethodName × Nat) := [(⟨"OneForOneModel", "doMoves", "(I)V"⟩, 56), (⟨"OneForOneModel", "whoIsThere", "()I"⟩, 56), (⟨"OneForOneModel", "isThere", "(I)Z"⟩, 56), (⟨"OneForOneModel", "allBy", "(I)I"⟩, 56), (⟨"OneForOneModel", "findStates", "(I)V"⟩, 56), (⟨"OneForOneModel", "comes", "(I)V"⟩, 56), (⟨"OneForOneModel", "codeNow", "()I"⟩, 56), (⟨"OneForOneModel", "goOn", "(II)V"⟩, 56), (⟨"OneForOneModel", "beAt", "(I)V"⟩, 56), (⟨"OneForOneModel", "leastBut", "(I)I"⟩, 56), (⟨"OneForOneModel", "gainIn", "(I)I"⟩, 56), (⟨"OneForOneModel", "boundNow", "()I"⟩, 56), (⟨"OneForOneModel", "wayOf", "(II)I"⟩, 56), (⟨"OneForOneModel", "draw", "(II)V"⟩, 56), (⟨"OneForOneModel", "swapsNow", "()I"⟩, 56), (⟨"OneForOneModel", "doLot", "(I)V"⟩, 56)]
theorem lw_r5 : ∀ q ∈ lw_privs_5, lw_okq q := List.forall_mem_cons.mpr ⟨lw_p64, List.forall_mem_cons.mpr ⟨lw_p65, List.forall_mem_cons.mpr ⟨lw_p66, List.forall_mem_cons.mpr ⟨lw_p67, List.forall_mem_cons.mpr ⟨lw_p68, List.forall_mem_cons.mpr ⟨lw_p69, List.forall_mem_cons.mpr ⟨lw_p70, List.forall_mem_cons.mpr ⟨lw_p71, List.forall_mem_cons.mpr ⟨lw_p72, List.forall_mem_cons.mpr ⟨lw_p73, List.forall_mem_cons.mpr ⟨lw_p74, List.forall_mem_cons.mpr ⟨lw_p75, List.forall_mem_cons.mpr ⟨lw_p76, List.forall_mem_cons.mpr ⟨lw_p77, List.forall_mem_cons.mpr ⟨lw_p78, List.forall_mem_cons.mpr ⟨lw_p79, fun _ h => absurd h List.not_mem_nil⟩⟩⟩⟩⟩⟩⟩⟩⟩⟩⟩⟩⟩⟩⟩⟩
def lw_privs : List (MethodName × Nat) := lw_privs_1 ++ (lw_privs_2 ++ (lw_privs_3 ++ (lw_privs_4 ++ (lw_privs_5))))
def lw_tbl : List Cond := k2_sels lw_privs ++ tables_1
theorem lw_privs_ok : ∀ q ∈ lw_privs, lw_okq q := by
  show ∀ q ∈ lw_privs_1 ++ (lw_privs_2 ++ (lw_privs_3 ++ (lw_privs_4 ++ (lw_privs_5)))), lw_okq q
  exact List.forall_mem_append.mpr ⟨lw_r1, List.forall_mem_append.mpr ⟨lw_r2, List.forall_mem_append.mpr ⟨lw_r3, List.forall_mem_append.mpr ⟨lw_r4, lw_r5⟩⟩⟩⟩
end
section
/-! names, fields, methods, instructions and pool entries of the claim as lists; written by wip/whole/gen/gen02.py -/
def zc_N : List String := ["OneForOne$Lake", "OneForOne$Law", "OneForOne$Reader", "OneForOne$Rules", "OneForOne$Search", "OneForOne$Sheet", "OneForOne$Trip", "OneForOne", "OneForOneModel", "java/lang/String", "java/lang/StringLatin1", "jdk/internal/util/Preconditions", "java/lang/Integer", "java/lang/Math", "java/util/Arrays", "OneForOneLaw"]
def zc_n (i : Nat) : String := zc_N.getD i ""
/-- fields: name, descriptor, final, kind (0 a number, 1 a reference, 2 a boolean) -/
def zf_L : List (List (String × String × Bool × Nat)) := [
  [("boat", "I", false, 0), ("people", "I", false, 0), ("law", "I", false, 0), ("place", "[I", true, 1), ("kind", "[I", true, 1), ("to", "[I", true, 1), ("by", "[I", true, 1), ("worth", "[I", true, 1), ("other", "[I", true, 1), ("foes", "[I", true, 1), ("hours", "[I", true, 1)],
  [("codes", "[I", true, 1), ("ends", "[I", true, 1), ("stack", "[I", true, 1), ("size", "I", false, 0)],
  [("tape", "[I", true, 1), ("size", "I", false, 0), ("law", "LOneForOne$Law;", false, 1), ("place", "I", false, 0), ("next", "I", false, 0), ("token", "I", false, 0), ("amount", "I", false, 0), ("open", "I", false, 0)],
  [("lake", "LOneForOne$Lake;", true, 1), ("law", "LOneForOne$Law;", false, 1), ("names", "[I", true, 1), ("row", "[I", true, 1), ("path", "[I", true, 1), ("swapAt", "[I", true, 1), ("goats", "I", false, 0), ("children", "I", false, 0), ("paid", "I", false, 0), ("knitting", "I", false, 0), ("twins", "I", false, 0), ("boat", "I", false, 0), ("aboard", "I", false, 0), ("here", "I", false, 0), ("atTo", "I", false, 0), ("swaps", "I", false, 0), ("off", "[I", true, 1), ("on", "[I", true, 1)],
  [("rules", "LOneForOne$Rules;", true, 1), ("seen", "[I", true, 1), ("order", "[I", true, 1), ("begin", "[I", true, 1), ("size", "I", false, 0), ("costs", "I", false, 0), ("bestGain", "I", false, 0), ("bestHour", "I", false, 0)],
  [("sort", "I", false, 0), ("size", "I", false, 0), ("cells", "[I", true, 1)],
  [("rules", "LOneForOne$Rules;", true, 1), ("kinds", "[I", true, 1), ("as", "[I", true, 1), ("bs", "[I", true, 1), ("moves", "I", false, 0), ("state", "I", false, 0), ("hour", "I", false, 0), ("wrong", "I", false, 0), ("gain", "I", false, 0), ("paidFor", "I", false, 0)],
  [("lake", "LOneForOne$Lake;", true, 1), ("kept", "LOneForOne$Lake;", true, 1), ("hasImage", "Z", false, 2), ("lawBook", "[LOneForOne$Law;", true, 1), ("texts", "I", false, 0), ("reader", "LOneForOne$Reader;", true, 1), ("rules", "LOneForOne$Rules;", true, 1), ("search", "LOneForOne$Search;", true, 1), ("trip", "LOneForOne$Trip;", true, 1), ("explored", "Z", false, 2), ("sheets", "[LOneForOne$Sheet;", true, 1)],
  [("code", "I", false, 0), ("hours", "[I", true, 1), ("boat", "I", false, 0), ("people", "I", false, 0), ("kind", "[I", true, 1), ("at", "[I", true, 1), ("goal", "[I", true, 1), ("until", "[I", true, 1), ("worth", "[I", true, 1), ("other", "[I", true, 1), ("foes", "[I", true, 1), ("tape", "[B", true, 1), ("taped", "I", false, 0), ("texts", "I", false, 0), ("inForce", "I", false, 0), ("act", "[I", true, 1), ("with", "[I", true, 1), ("endOf", "[I", true, 1), ("laid", "I", false, 0), ("fault", "I", false, 0), ("open", "I", false, 0), ("from", "I", false, 0), ("to", "I", false, 0), ("sortNow", "I", false, 0), ("isNow", "I", false, 0), ("pile", "[I", true, 1), ("facts", "[I", true, 1), ("letters", "[I", true, 1), ("meant", "[I", true, 1), ("moves", "I", false, 0), ("moveKind", "[I", true, 1), ("moveA", "[I", true, 1), ("moveB", "[I", true, 1), ("wasAt", "[I", true, 1), ("wasBoat", "I", false, 0), ("runHour", "I", false, 0), ("runGain", "I", false, 0), ("states", "I", false, 0), ("state", "[I", true, 1), ("cost", "[I", true, 1), ("isDone", "[Z", true, 1), ("placeOf", "[I", true, 1), ("atThen", "[I", true, 1), ("shortest", "[I", true, 1), ("drawnHour", "I", false, 0), ("hasImage", "Z", false, 2), ("keptPeople", "I", false, 0), ("keptBoat", "I", false, 0), ("keptRule", "I", false, 0), ("keptAt", "[I", true, 1), ("keptFoes", "[I", true, 1), ("keptHours", "[I", true, 1), ("sheetSort", "[I", true, 1), ("sheetSize", "[I", true, 1), ("items", "[I", true, 1), ("moving", "[I", true, 1)]]
def zf (i k : Nat) : String × String × Bool × Nat := (zf_L.getD i []).getD k ("", "", false, 0)
def zf_N : List Nat := [11, 4, 8, 18, 8, 3, 10, 11, 56]
def zf_n (i : Nat) : Nat := zf_N.getD i 0
def zf_T (i : Nat) : u_T := fun k => (zc_n i, (zf i k).1, (zf i k).2.1, (zf i k).2.2.1)
def zf_ty (i : Nat) : Nat → FieldType := fun k => (parseFieldDescriptor (zf i k).2.1).getD .int
abbrev classes : List vw_C := [0, 1, 2, 3, 4, 5, 6, 7, 8].map fun i => (zc_n i, zf_T i, zf_n i)
/-- methods: name, bytes, locals, answer, own, kind of the answer, how many it takes (with this), static -/
abbrev ZM : Type := MethodName × ByteArray × Nat × Option FieldType × Nat × Nat × Nat × Bool
def zm_0 : List ZM := [
  (⟨zc_n 0, "<init>", "()V"⟩, prog_2_method_1_code, 3, none, 0, 0, 1, false),
  (⟨zc_n 0, "become", "(LOneForOne$Lake;)V"⟩, prog_2_method_2_code, 2, none, 0, 0, 2, false),
  (⟨zc_n 0, "has", "(I)Z"⟩, prog_2_method_3_code, 2, (some .boolean), 0, 2, 2, false),
  (⟨zc_n 0, "add", "(IIII)V"⟩, prog_2_method_4_code, 6, none, 0, 0, 5, false),
  (⟨zc_n 0, "setHours", "(III)I"⟩, prog_2_method_5_code, 5, (some .int), 0, 1, 4, false),
  (⟨zc_n 0, "setFoes", "(III)I"⟩, prog_2_method_6_code, 5, (some .int), 0, 1, 4, false),
  (⟨zc_n 0, "whoIsAt", "(I)I"⟩, prog_2_method_7_code, 4, (some .int), 0, 1, 2, false),
  (⟨zc_n 0, "whoIsA", "(I)I"⟩, prog_2_method_8_code, 4, (some .int), 0, 1, 2, false),
  (⟨zc_n 0, "state", "()I"⟩, prog_2_method_9_code, 3, (some .int), 0, 1, 1, false),
  (⟨zc_n 1, "<init>", "()V"⟩, prog_3_method_1_code, 1, none, 1, 0, 1, false),
  (⟨zc_n 1, "begin", "()V"⟩, prog_3_method_2_code, 1, none, 1, 0, 1, false),
  (⟨zc_n 1, "add", "(I)V"⟩, prog_3_method_3_code, 2, none, 1, 0, 2, false),
  (⟨zc_n 1, "end", "(I)V"⟩, prog_3_method_4_code, 2, none, 1, 0, 2, false),
  (⟨zc_n 1, "value", "(I[I)I"⟩, prog_3_method_5_code, 6, (some .int), 1, 1, 3, false),
  (⟨zc_n 1, "operand", "(I[I)I"⟩, prog_3_method_6_code, 2, (some .int), 1, 1, 2, true),
  (⟨zc_n 1, "result", "(III)I"⟩, prog_3_method_7_code, 3, (some .int), 1, 1, 3, true),
  (⟨zc_n 2, "<init>", "(LOneForOne$Law;)V"⟩, prog_4_method_1_code, 2, none, 2, 0, 2, false),
  (⟨zc_n 2, "append", "(I)V"⟩, prog_4_method_2_code, 2, none, 2, 0, 2, false),
  (⟨zc_n 2, "faultOf", "(LOneForOne$Law;)I"⟩, prog_4_method_3_code, 3, (some .int), 2, 1, 2, false),
  (⟨zc_n 2, "standsPart", "(I)Z"⟩, prog_4_method_4_code, 2, (some .boolean), 2, 2, 2, false),
  (⟨zc_n 2, "standsE", "()Z"⟩, prog_4_method_5_code, 3, (some .boolean), 2, 2, 1, false),
  (⟨zc_n 2, "standsAnd", "()Z"⟩, prog_4_method_6_code, 3, (some .boolean), 2, 2, 1, false),
  (⟨zc_n 2, "standsNot", "()Z"⟩, prog_4_method_7_code, 2, (some .boolean), 2, 2, 1, false),
  (⟨zc_n 2, "standsSum", "()Z"⟩, prog_4_method_8_code, 4, (some .boolean), 2, 2, 1, false),
  (⟨zc_n 2, "standsTerm", "()Z"⟩, prog_4_method_9_code, 3, (some .boolean), 2, 2, 1, false),
  (⟨zc_n 2, "standsOne", "()Z"⟩, prog_4_method_10_code, 1, (some .boolean), 2, 2, 1, false),
  (⟨zc_n 2, "opens", "()Z"⟩, prog_4_method_11_code, 1, (some .boolean), 2, 2, 1, false),
  (⟨zc_n 2, "byteAt", "(I)I"⟩, prog_4_method_12_code, 2, (some .int), 2, 1, 2, false),
  (⟨zc_n 2, "step", "()V"⟩, prog_4_method_13_code, 2, none, 2, 0, 1, false),
  (⟨zc_n 2, "stepOver", "(II)V"⟩, prog_4_method_14_code, 4, none, 2, 0, 3, false),
  (⟨zc_n 2, "numberFrom", "(II)I"⟩, prog_4_method_15_code, 4, (some .int), 2, 1, 3, false),
  (⟨zc_n 2, "wordFrom", "(II)I"⟩, prog_4_method_16_code, 4, (some .int), 2, 1, 3, false),
  (⟨zc_n 2, "spells", "(III)Z"⟩, prog_4_method_17_code, 5, (some .boolean), 2, 2, 4, false),
  (⟨zc_n 3, "<init>", "(LOneForOne$Lake;LOneForOne$Law;)V"⟩, prog_5_method_1_code, 3, none, 3, 0, 3, false),
  (⟨zc_n 3, "learn", "(LOneForOne$Law;)V"⟩, prog_5_method_2_code, 4, none, 3, 0, 2, false),
  (⟨zc_n 3, "landingsFor", "(II)I"⟩, prog_5_method_3_code, 5, (some .int), 3, 1, 3, false),
  (⟨zc_n 3, "mayOf", "(III)Z"⟩, prog_5_method_4_code, 4, (some .boolean), 3, 2, 4, false),
  (⟨zc_n 3, "rowOf", "(II)I"⟩, prog_5_method_5_code, 3, (some .int), 3, 1, 3, false),
  (⟨zc_n 3, "gainOf", "(II)I"⟩, prog_5_method_6_code, 3, (some .int), 3, 1, 3, false),
  (⟨zc_n 3, "name", "(IIIIII)V"⟩, prog_5_method_7_code, 7, none, 3, 0, 7, false)]
def zm_1 : List ZM := [
  (⟨zc_n 3, "mustCome", "()I"⟩, prog_5_method_8_code, 1, (some .int), 3, 1, 1, false),
  (⟨zc_n 3, "there", "()I"⟩, prog_5_method_9_code, 1, (some .int), 3, 1, 1, false),
  (⟨zc_n 3, "look", "(I)V"⟩, prog_5_method_10_code, 5, none, 3, 0, 2, false),
  (⟨zc_n 3, "isAboard", "(I)Z"⟩, prog_5_method_11_code, 2, (some .boolean), 3, 2, 2, false),
  (⟨zc_n 3, "placeIn", "(II)I"⟩, prog_5_method_12_code, 3, (some .int), 3, 1, 3, false),
  (⟨zc_n 3, "swapped", "(III)I"⟩, prog_5_method_13_code, 4, (some .int), 3, 1, 4, false),
  (⟨zc_n 3, "rowed", "(II)I"⟩, prog_5_method_14_code, 3, (some .int), 3, 1, 3, false),
  (⟨zc_n 3, "mayBe", "(II)Z"⟩, prog_5_method_15_code, 8, (some .boolean), 3, 2, 3, false),
  (⟨zc_n 3, "mayStand", "(I)Z"⟩, prog_5_method_16_code, 2, (some .boolean), 3, 2, 2, false),
  (⟨zc_n 3, "listSwaps", "()V"⟩, prog_5_method_17_code, 3, none, 3, 0, 1, false),
  (⟨zc_n 3, "longestRow", "()I"⟩, prog_5_method_18_code, 3, (some .int), 3, 1, 1, false),
  (⟨zc_n 3, "findPaths", "()V"⟩, prog_5_method_19_code, 5, none, 3, 0, 1, false),
  (⟨zc_n 3, "farthest", "()I"⟩, prog_5_method_20_code, 5, (some .int), 3, 1, 1, false),
  (⟨zc_n 4, "<init>", "(LOneForOne$Rules;)V"⟩, prog_6_method_1_code, 2, none, 4, 0, 2, false),
  (⟨zc_n 4, "reach", "(IIII)I"⟩, prog_6_method_2_code, 9, (some .int), 4, 1, 5, false),
  (⟨zc_n 4, "add", "(I)V"⟩, prog_6_method_3_code, 3, none, 4, 0, 2, false),
  (⟨zc_n 4, "addRowed", "(I)V"⟩, prog_6_method_4_code, 3, none, 4, 0, 2, false),
  (⟨zc_n 4, "addSwapped", "(I)V"⟩, prog_6_method_5_code, 4, none, 4, 0, 2, false),
  (⟨zc_n 4, "comeTo", "(II)V"⟩, prog_6_method_6_code, 6, none, 4, 0, 3, false),
  (⟨zc_n 4, "addRowedFrom", "(III)V"⟩, prog_6_method_7_code, 6, none, 4, 0, 4, false),
  (⟨zc_n 4, "least", "(I)I"⟩, prog_6_method_8_code, 4, (some .int), 4, 1, 2, false),
  (⟨zc_n 4, "leastForAll", "()I"⟩, prog_6_method_9_code, 1, (some .int), 4, 1, 1, false),
  (⟨zc_n 4, "everAtTo", "()I"⟩, prog_6_method_10_code, 3, (some .int), 4, 1, 1, false),
  (⟨zc_n 4, "findBest", "(I)V"⟩, prog_6_method_11_code, 4, none, 4, 0, 2, false),
  (⟨zc_n 4, "mostGainAt", "(I)I"⟩, prog_6_method_12_code, 6, (some .int), 4, 1, 2, false),
  (⟨zc_n 4, "gainOfAll", "(II)I"⟩, prog_6_method_13_code, 5, (some .int), 4, 1, 3, false),
  (⟨zc_n 5, "<init>", "()V"⟩, prog_7_method_1_code, 1, none, 5, 0, 1, false),
  (⟨zc_n 5, "become", "(II)V"⟩, prog_7_method_2_code, 3, none, 5, 0, 3, false),
  (⟨zc_n 5, "has", "(I)Z"⟩, prog_7_method_3_code, 2, (some .boolean), 5, 2, 2, false),
  (⟨zc_n 5, "hasRun", "(II)Z"⟩, prog_7_method_4_code, 3, (some .boolean), 5, 2, 3, false),
  (⟨zc_n 5, "read", "(I)I"⟩, prog_7_method_5_code, 2, (some .int), 5, 1, 2, false),
  (⟨zc_n 5, "write", "(II)V"⟩, prog_7_method_6_code, 3, none, 5, 0, 3, false),
  (⟨zc_n 6, "<init>", "(LOneForOne$Rules;)V"⟩, prog_8_method_1_code, 2, none, 6, 0, 2, false),
  (⟨zc_n 6, "add", "(III)V"⟩, prog_8_method_2_code, 4, none, 6, 0, 4, false),
  (⟨zc_n 6, "begin", "()V"⟩, prog_8_method_3_code, 1, none, 6, 0, 1, false),
  (⟨zc_n 6, "follow", "(I)V"⟩, prog_8_method_4_code, 3, none, 6, 0, 2, false),
  (⟨zc_n 6, "done", "(III)Z"⟩, prog_8_method_5_code, 5, (some .boolean), 6, 2, 4, false),
  (⟨zc_n 6, "row", "(I)V"⟩, prog_8_method_6_code, 2, none, 6, 0, 2, false),
  (⟨zc_n 6, "swap", "(II)V"⟩, prog_8_method_7_code, 3, none, 6, 0, 3, false),
  (⟨zc_n 6, "addGain", "()V"⟩, prog_8_method_8_code, 2, none, 6, 0, 1, false)]
def zm_2 : List ZM := [
  (⟨zc_n 6, "draw", "(II)V"⟩, prog_8_method_9_code, 6, none, 6, 0, 3, false),
  (⟨zc_n 6, "choose", "(I)V"⟩, prog_8_method_10_code, 3, none, 6, 0, 2, false),
  (⟨zc_n 7, "<init>", "()V"⟩, prog_1_method_1_code, 2, none, 7, 0, 1, false),
  (⟨zc_n 7, "far", "(III)I"⟩, prog_1_method_2_code, 4, (some .int), 7, 1, 4, false),
  (⟨zc_n 7, "moor", "(I)I"⟩, prog_1_method_3_code, 3, (some .int), 7, 1, 2, false),
  (⟨zc_n 7, "count", "(I)I"⟩, prog_1_method_4_code, 2, (some .int), 7, 1, 2, false),
  (⟨zc_n 7, "feed", "(IIIIII)I"⟩, prog_1_method_5_code, 8, (some .int), 7, 1, 7, false),
  (⟨zc_n 7, "text", "()I"⟩, prog_1_method_6_code, 2, (some .int), 7, 1, 1, false),
  (⟨zc_n 7, "force", "(I)I"⟩, prog_1_method_7_code, 3, (some .int), 7, 1, 2, false),
  (⟨zc_n 7, "asks", "(IIII)I"⟩, prog_1_method_8_code, 5, (some .int), 7, 1, 5, false),
  (⟨zc_n 7, "person", "(IIII)I"⟩, prog_1_method_9_code, 7, (some .int), 7, 1, 5, false),
  (⟨zc_n 7, "foe", "(III)I"⟩, prog_1_method_10_code, 4, (some .int), 7, 1, 4, false),
  (⟨zc_n 7, "told", "(II)I"⟩, prog_1_method_11_code, 3, (some .int), 7, 1, 3, false),
  (⟨zc_n 7, "put", "(II)I"⟩, prog_1_method_12_code, 5, (some .int), 7, 1, 3, false),
  (⟨zc_n 7, "may", "(II)I"⟩, prog_1_method_13_code, 3, (some .int), 7, 1, 3, false),
  (⟨zc_n 7, "alone", "()I"⟩, prog_1_method_14_code, 3, (some .int), 7, 1, 1, false),
  (⟨zc_n 7, "move", "(III)I"⟩, prog_1_method_15_code, 5, (some .int), 7, 1, 4, false),
  (⟨zc_n 7, "clear", "()I"⟩, prog_1_method_16_code, 2, (some .int), 7, 1, 1, false),
  (⟨zc_n 7, "judge", "()I"⟩, prog_1_method_17_code, 1, (some .int), 7, 1, 1, false),
  (⟨zc_n 7, "run", "(II)I"⟩, prog_1_method_18_code, 3, (some .int), 7, 1, 3, false),
  (⟨zc_n 7, "where", "(II)I"⟩, prog_1_method_19_code, 3, (some .int), 7, 1, 3, false),
  (⟨zc_n 7, "all", "(I)I"⟩, prog_1_method_20_code, 2, (some .int), 7, 1, 2, false),
  (⟨zc_n 7, "soonest", "(I)I"⟩, prog_1_method_21_code, 2, (some .int), 7, 1, 2, false),
  (⟨zc_n 7, "never", "(I)I"⟩, prog_1_method_22_code, 2, (some .int), 7, 1, 2, false),
  (⟨zc_n 7, "best", "(II)I"⟩, prog_1_method_23_code, 3, (some .int), 7, 1, 3, false),
  (⟨zc_n 7, "bound", "()I"⟩, prog_1_method_24_code, 1, (some .int), 7, 1, 1, false),
  (⟨zc_n 7, "gap", "()I"⟩, prog_1_method_25_code, 2, (some .int), 7, 1, 1, false),
  (⟨zc_n 7, "way", "(II)I"⟩, prog_1_method_26_code, 3, (some .int), 7, 1, 3, false),
  (⟨zc_n 7, "help", "(I)I"⟩, prog_1_method_27_code, 4, (some .int), 7, 1, 2, false),
  (⟨zc_n 7, "laws", "()I"⟩, prog_1_method_28_code, 3, (some .int), 7, 1, 1, false),
  (⟨zc_n 7, "join", "(II)I"⟩, prog_1_method_29_code, 5, (some .int), 7, 1, 3, false),
  (⟨zc_n 7, "leave", "(I)I"⟩, prog_1_method_30_code, 6, (some .int), 7, 1, 2, false),
  (⟨zc_n 7, "first", "()I"⟩, prog_1_method_31_code, 5, (some .int), 7, 1, 1, false),
  (⟨zc_n 7, "drawn", "(III)I"⟩, prog_1_method_32_code, 4, (some .int), 7, 1, 4, false),
  (⟨zc_n 7, "chance", "(IIII)J"⟩, prog_1_method_33_code, 10, (some .long), 7, 5, 5, false),
  (⟨zc_n 7, "image", "()I"⟩, prog_1_method_34_code, 1, (some .int), 7, 1, 1, false),
  (⟨zc_n 7, "back", "()I"⟩, prog_1_method_35_code, 1, (some .int), 7, 1, 1, false),
  (⟨zc_n 7, "sheet", "(III)I"⟩, prog_1_method_36_code, 4, (some .int), 7, 1, 4, false),
  (⟨zc_n 7, "cell", "(III)I"⟩, prog_1_method_37_code, 4, (some .int), 7, 1, 4, false),
  (⟨zc_n 7, "copy", "(IIIII)I"⟩, prog_1_method_38_code, 8, (some .int), 7, 1, 6, false)]
def zm_3 : List ZM := [
  (⟨zc_n 7, "peopleBy", "(IIII)I"⟩, prog_1_method_39_code, 9, (some .int), 7, 1, 5, false),
  (⟨zc_n 7, "taken", "(II)I"⟩, prog_1_method_40_code, 4, (some .int), 7, 1, 3, false),
  (⟨zc_n 7, "lawNow", "()LOneForOne$Law;"⟩, prog_1_method_41_code, 1, (some (.object "OneForOne$Law")), 7, 6, 1, false),
  (⟨zc_n 7, "explore", "()V"⟩, prog_1_method_42_code, 1, none, 7, 0, 1, false),
  (⟨zc_n 7, "searchNow", "(LOneForOne$Law;I)I"⟩, prog_1_method_43_code, 3, (some .int), 7, 1, 3, false),
  (⟨zc_n 7, "staysAt", "(II)Z"⟩, prog_1_method_44_code, 3, (some .boolean), 7, 2, 3, false),
  (⟨zc_n 7, "isLanding", "(I)Z"⟩, prog_1_method_45_code, 1, (some .boolean), 7, 2, 1, true),
  (⟨zc_n 7, "isByte", "(I)Z"⟩, prog_1_method_46_code, 1, (some .boolean), 7, 2, 1, true),
  (⟨zc_n 7, "isSheet", "(I)Z"⟩, prog_1_method_47_code, 1, (some .boolean), 7, 2, 1, true),
  (⟨zc_n 7, "isA", "(II)Z"⟩, prog_1_method_48_code, 4, (some .boolean), 7, 2, 2, true),
  (⟨zc_n 7, "commonDivisor", "(II)I"⟩, prog_1_method_49_code, 6, (some .int), 7, 1, 2, true),
  (⟨zc_n 8, "<init>", "()V"⟩, prog_10_method_1_code, 1, none, 8, 0, 1, false),
  (⟨zc_n 8, "in", "(III)Z"⟩, prog_10_method_3_code, 3, (some .boolean), 8, 2, 3, true),
  (⟨zc_n 8, "held", "(III)I"⟩, prog_10_method_4_code, 3, (some .int), 8, 1, 3, true),
  (⟨zc_n 8, "isLanding", "(I)Z"⟩, prog_10_method_5_code, 1, (some .boolean), 8, 2, 1, true),
  (⟨zc_n 8, "isOne", "(I)Z"⟩, prog_10_method_6_code, 2, (some .boolean), 8, 2, 2, false),
  (⟨zc_n 8, "far", "(III)I"⟩, prog_10_method_7_code, 5, (some .int), 8, 1, 4, false),
  (⟨zc_n 8, "moor", "(I)I"⟩, prog_10_method_8_code, 3, (some .int), 8, 1, 2, false),
  (⟨zc_n 8, "manyAt", "(I)I"⟩, prog_10_method_9_code, 4, (some .int), 8, 1, 2, false),
  (⟨zc_n 8, "count", "(I)I"⟩, prog_10_method_10_code, 2, (some .int), 8, 1, 2, false),
  (⟨zc_n 8, "isByte", "(I)Z"⟩, prog_10_method_11_code, 1, (some .boolean), 8, 2, 1, true),
  (⟨zc_n 8, "adds", "(I)V"⟩, prog_10_method_12_code, 2, none, 8, 0, 2, false),
  (⟨zc_n 8, "feed", "(IIIIII)I"⟩, prog_10_method_13_code, 7, (some .int), 8, 1, 7, false),
  (⟨zc_n 8, "isLetter", "(I)Z"⟩, prog_10_method_14_code, 1, (some .boolean), 8, 2, 1, true),
  (⟨zc_n 8, "isDigit", "(I)Z"⟩, prog_10_method_15_code, 1, (some .boolean), 8, 2, 1, true),
  (⟨zc_n 8, "wordNow", "()I"⟩, prog_10_method_16_code, 5, (some .int), 8, 1, 1, false),
  (⟨zc_n 8, "next", "()V"⟩, prog_10_method_17_code, 2, none, 8, 0, 1, false),
  (⟨zc_n 8, "faulty", "()V"⟩, prog_10_method_18_code, 1, none, 8, 0, 1, false),
  (⟨zc_n 8, "isSign", "(I)Z"⟩, prog_10_method_19_code, 2, (some .boolean), 8, 2, 2, false),
  (⟨zc_n 8, "isKey", "(I)Z"⟩, prog_10_method_20_code, 2, (some .boolean), 8, 2, 2, false),
  (⟨zc_n 8, "addStep", "(II)V"⟩, prog_10_method_21_code, 3, none, 8, 0, 3, false),
  (⟨zc_n 8, "opens", "()Z"⟩, prog_10_method_22_code, 1, (some .boolean), 8, 2, 1, false),
  (⟨zc_n 8, "either", "()V"⟩, prog_10_method_23_code, 1, none, 8, 0, 1, false),
  (⟨zc_n 8, "allOf", "()V"⟩, prog_10_method_24_code, 1, none, 8, 0, 1, false),
  (⟨zc_n 8, "denied", "()V"⟩, prog_10_method_25_code, 2, none, 8, 0, 1, false),
  (⟨zc_n 8, "sum", "()V"⟩, prog_10_method_26_code, 2, none, 8, 0, 1, false),
  (⟨zc_n 8, "term", "()V"⟩, prog_10_method_27_code, 1, none, 8, 0, 1, false),
  (⟨zc_n 8, "one", "()V"⟩, prog_10_method_28_code, 1, none, 8, 0, 1, false),
  (⟨zc_n 8, "rule", "(I)V"⟩, prog_10_method_29_code, 2, none, 8, 0, 2, false),
  (⟨zc_n 8, "text", "()I"⟩, prog_10_method_30_code, 2, (some .int), 8, 1, 1, false)]
def zm_4 : List ZM := [
  (⟨zc_n 8, "force", "(I)I"⟩, prog_10_method_31_code, 3, (some .int), 8, 1, 2, false),
  (⟨zc_n 8, "twoOf", "(III)I"⟩, prog_10_method_32_code, 3, (some .int), 8, 1, 3, true),
  (⟨zc_n 8, "gives", "(I)I"⟩, prog_10_method_33_code, 5, (some .int), 8, 1, 2, false),
  (⟨zc_n 8, "noFacts", "()V"⟩, prog_10_method_34_code, 2, none, 8, 0, 1, false),
  (⟨zc_n 8, "saysMay", "(III)Z"⟩, prog_10_method_35_code, 4, (some .boolean), 8, 2, 4, false),
  (⟨zc_n 8, "rowOf", "(II)I"⟩, prog_10_method_36_code, 3, (some .int), 8, 1, 3, false),
  (⟨zc_n 8, "gainOf", "(II)I"⟩, prog_10_method_37_code, 3, (some .int), 8, 1, 3, false),
  (⟨zc_n 8, "asks", "(IIII)I"⟩, prog_10_method_38_code, 5, (some .int), 8, 1, 5, false),
  (⟨zc_n 8, "person", "(IIII)I"⟩, prog_10_method_39_code, 5, (some .int), 8, 1, 5, false),
  (⟨zc_n 8, "foe", "(III)I"⟩, prog_10_method_40_code, 5, (some .int), 8, 1, 4, false),
  (⟨zc_n 8, "told", "(II)I"⟩, prog_10_method_41_code, 3, (some .int), 8, 1, 3, false),
  (⟨zc_n 8, "put", "(II)I"⟩, prog_10_method_42_code, 4, (some .int), 8, 1, 3, false),
  (⟨zc_n 8, "mayLeave", "(II)Z"⟩, prog_10_method_43_code, 4, (some .boolean), 8, 2, 3, false),
  (⟨zc_n 8, "mayBoard", "(II)Z"⟩, prog_10_method_44_code, 5, (some .boolean), 8, 2, 3, false),
  (⟨zc_n 8, "allStand", "(I)Z"⟩, prog_10_method_45_code, 2, (some .boolean), 8, 2, 2, false),
  (⟨zc_n 8, "isChildAt", "(I)Z"⟩, prog_10_method_46_code, 3, (some .boolean), 8, 2, 2, false),
  (⟨zc_n 8, "maySwap", "(II)Z"⟩, prog_10_method_47_code, 4, (some .boolean), 8, 2, 3, false),
  (⟨zc_n 8, "swap", "(II)V"⟩, prog_10_method_48_code, 3, none, 8, 0, 3, false),
  (⟨zc_n 8, "may", "(II)I"⟩, prog_10_method_49_code, 3, (some .int), 8, 1, 3, false),
  (⟨zc_n 8, "alone", "()I"⟩, prog_10_method_50_code, 3, (some .int), 8, 1, 1, false),
  (⟨zc_n 8, "isThere", "(I)Z"⟩, prog_10_method_51_code, 2, (some .boolean), 8, 2, 2, false),
  (⟨zc_n 8, "whoIsThere", "()I"⟩, prog_10_method_52_code, 3, (some .int), 8, 1, 1, false),
  (⟨zc_n 8, "move", "(III)I"⟩, prog_10_method_53_code, 4, (some .int), 8, 1, 4, false),
  (⟨zc_n 8, "clear", "()I"⟩, prog_10_method_54_code, 2, (some .int), 8, 1, 1, false),
  (⟨zc_n 8, "keepNow", "()V"⟩, prog_10_method_55_code, 2, none, 8, 0, 1, false),
  (⟨zc_n 8, "layBack", "()V"⟩, prog_10_method_56_code, 2, none, 8, 0, 1, false),
  (⟨zc_n 8, "does", "(I)I"⟩, prog_10_method_57_code, 3, (some .int), 8, 1, 2, false),
  (⟨zc_n 8, "judge", "()I"⟩, prog_10_method_58_code, 3, (some .int), 8, 1, 1, false),
  (⟨zc_n 8, "doMoves", "(I)V"⟩, prog_10_method_59_code, 6, none, 8, 0, 2, false),
  (⟨zc_n 8, "run", "(II)I"⟩, prog_10_method_60_code, 4, (some .int), 8, 1, 3, false),
  (⟨zc_n 8, "where", "(II)I"⟩, prog_10_method_61_code, 4, (some .int), 8, 1, 3, false),
  (⟨zc_n 8, "codeNow", "()I"⟩, prog_10_method_62_code, 3, (some .int), 8, 1, 1, false),
  (⟨zc_n 8, "beAt", "(I)V"⟩, prog_10_method_63_code, 4, none, 8, 0, 2, false),
  (⟨zc_n 8, "comes", "(I)V"⟩, prog_10_method_64_code, 4, none, 8, 0, 2, false),
  (⟨zc_n 8, "goOn", "(II)V"⟩, prog_10_method_65_code, 6, none, 8, 0, 3, false),
  (⟨zc_n 8, "findStates", "(I)V"⟩, prog_10_method_66_code, 5, none, 8, 0, 2, false),
  (⟨zc_n 8, "leastBut", "(I)I"⟩, prog_10_method_67_code, 6, (some .int), 8, 1, 2, false),
  (⟨zc_n 8, "allBy", "(I)I"⟩, prog_10_method_68_code, 2, (some .int), 8, 1, 2, false),
  (⟨zc_n 8, "all", "(I)I"⟩, prog_10_method_69_code, 2, (some .int), 8, 1, 2, false),
  (⟨zc_n 8, "soonest", "(I)I"⟩, prog_10_method_70_code, 4, (some .int), 8, 1, 2, false)]
def zm_5 : List ZM := [
  (⟨zc_n 8, "never", "(I)I"⟩, prog_10_method_71_code, 4, (some .int), 8, 1, 2, false),
  (⟨zc_n 8, "gainIn", "(I)I"⟩, prog_10_method_72_code, 4, (some .int), 8, 1, 2, false),
  (⟨zc_n 8, "best", "(II)I"⟩, prog_10_method_73_code, 7, (some .int), 8, 1, 3, false),
  (⟨zc_n 8, "wayOf", "(II)I"⟩, prog_10_method_74_code, 6, (some .int), 8, 1, 3, false),
  (⟨zc_n 8, "boundNow", "()I"⟩, prog_10_method_75_code, 5, (some .int), 8, 1, 1, false),
  (⟨zc_n 8, "bound", "()I"⟩, prog_10_method_76_code, 1, (some .int), 8, 1, 1, false),
  (⟨zc_n 8, "gap", "()I"⟩, prog_10_method_77_code, 2, (some .int), 8, 1, 1, false),
  (⟨zc_n 8, "way", "(II)I"⟩, prog_10_method_78_code, 3, (some .int), 8, 1, 3, false),
  (⟨zc_n 8, "help", "(I)I"⟩, prog_10_method_79_code, 6, (some .int), 8, 1, 2, false),
  (⟨zc_n 8, "laws", "()I"⟩, prog_10_method_80_code, 4, (some .int), 8, 1, 1, false),
  (⟨zc_n 8, "join", "(II)I"⟩, prog_10_method_81_code, 5, (some .int), 8, 1, 3, false),
  (⟨zc_n 8, "leave", "(I)I"⟩, prog_10_method_82_code, 6, (some .int), 8, 1, 2, false),
  (⟨zc_n 8, "first", "()I"⟩, prog_10_method_83_code, 5, (some .int), 8, 1, 1, false),
  (⟨zc_n 8, "swapsNow", "()I"⟩, prog_10_method_84_code, 4, (some .int), 8, 1, 1, false),
  (⟨zc_n 8, "doLot", "(I)V"⟩, prog_10_method_85_code, 5, none, 8, 0, 2, false),
  (⟨zc_n 8, "draw", "(II)V"⟩, prog_10_method_86_code, 6, none, 8, 0, 3, false),
  (⟨zc_n 8, "isSeed", "(I)Z"⟩, prog_10_method_87_code, 1, (some .boolean), 8, 2, 1, true),
  (⟨zc_n 8, "drawn", "(III)I"⟩, prog_10_method_88_code, 5, (some .int), 8, 1, 4, false),
  (⟨zc_n 8, "chance", "(IIII)J"⟩, prog_10_method_89_code, 10, (some .long), 8, 5, 5, false),
  (⟨zc_n 8, "image", "()I"⟩, prog_10_method_90_code, 2, (some .int), 8, 1, 1, false),
  (⟨zc_n 8, "back", "()I"⟩, prog_10_method_91_code, 2, (some .int), 8, 1, 1, false),
  (⟨zc_n 8, "isSheet", "(I)Z"⟩, prog_10_method_92_code, 1, (some .boolean), 8, 2, 1, true),
  (⟨zc_n 8, "sheet", "(III)I"⟩, prog_10_method_93_code, 5, (some .int), 8, 1, 4, false),
  (⟨zc_n 8, "cell", "(III)I"⟩, prog_10_method_94_code, 4, (some .int), 8, 1, 4, false),
  (⟨zc_n 8, "copy", "(IIIII)I"⟩, prog_10_method_95_code, 7, (some .int), 8, 1, 6, false),
  (⟨zc_n 8, "peopleBy", "(IIII)I"⟩, prog_10_method_96_code, 10, (some .int), 8, 1, 5, false),
  (⟨zc_n 8, "isUnder", "(II)Z"⟩, prog_10_method_97_code, 2, (some .boolean), 8, 2, 2, true),
  (⟨zc_n 8, "taken", "(II)I"⟩, prog_10_method_98_code, 3, (some .int), 8, 1, 3, false),
  (⟨zc_n 12, "bitCount", "(I)I"⟩, prog_11_method_49_code, 1, (some .int), 12, 1, 1, true),
  (⟨zc_n 13, "abs", "(I)I"⟩, prog_12_method_59_code, 1, (some .int), 13, 1, 1, true),
  (⟨zc_n 13, "max", "(II)I"⟩, prog_12_method_65_code, 2, (some .int), 13, 1, 2, true),
  (⟨zc_n 13, "min", "(II)I"⟩, prog_12_method_69_code, 2, (some .int), 13, 1, 2, true),
  (⟨zc_n 9, "length", "()I"⟩, prog_13_method_54_code, 1, (some .int), 9, 1, 1, false),
  (⟨zc_n 9, "charAt", "(I)C"⟩, prog_13_method_56_code, 2, (some .char), 9, 3, 2, false),
  (⟨zc_n 9, "coder", "()B"⟩, prog_13_method_152_code, 1, (some .byte), 9, 4, 1, false),
  (⟨zc_n 9, "isLatin1", "()Z"⟩, prog_13_method_154_code, 1, (some .boolean), 9, 2, 1, false),
  (⟨zc_n 9, "checkIndex", "(II)V"⟩, prog_13_method_155_code, 2, none, 9, 0, 2, true),
  (⟨zc_n 10, "charAt", "([BI)C"⟩, prog_14_method_2_code, 2, (some .char), 10, 3, 2, true),
  (⟨zc_n 14, "fill", "([II)V"⟩, prog_17_method_103_code, 4, none, 14, 0, 2, true),
  (⟨zc_n 11, "checkIndex", "(IILjava/util/function/BiFunction;)I"⟩, prog_18_method_11_code, 3, (some .int), 11, 1, 3, true)]
def zm_L : List ZM := zm_0 ++ (zm_1 ++ (zm_2 ++ (zm_3 ++ (zm_4 ++ (zm_5)))))
def zm_0m : ZM := (⟨"", "", ""⟩, ⟨#[]⟩, 0, none, 0, 0, 0, false)
def zm (y : Nat) : ZM := zm_L.getD y zm_0m
def zi_0 : List (Nat × Instr × Nat) := [(0, .aload_n 0, 1), (1, .invokespecial 3, 3), (4, .aload_n 0, 1), (5, .bipush 6, 2), (7, .newarray .int, 2), (9, .putfield 9, 3), (12, .aload_n 0, 1), (13, .bipush 6, 2), (15, .newarray .int, 2), (17, .putfield 15, 3), (20, .aload_n 0, 1), (21, .bipush 6, 2), (23, .newarray .int, 2), (25, .putfield 18, 3), (28, .aload_n 0, 1), (29, .bipush 6, 2), (31, .newarray .int, 2), (33, .putfield 21, 3), (36, .aload_n 0, 1), (37, .bipush 6, 2), (39, .newarray .int, 2), (41, .putfield 24, 3), (44, .aload_n 0, 1), (45, .bipush 6, 2), (47, .newarray .int, 2), (49, .putfield 27, 3), (52, .aload_n 0, 1), (53, .bipush 6, 2), (55, .newarray .int, 2), (57, .putfield 30, 3), (60, .aload_n 0, 1), (61, .bipush 16, 2), (63, .newarray .int, 2), (65, .putfield 33, 3), (68, .iconst 0, 1), (69, .istore_n 1, 1), (70, .iload_n 1, 1), (71, .iconst 4, 1), (72, .if_icmp .ge 38, 3), (75, .iconst 0, 1), (76, .istore_n 2, 1), (77, .iload_n 2, 1), (78, .iconst 4, 1), (79, .if_icmp .ge 25, 3), (82, .aload_n 0, 1), (83, .getfield 33, 3), (86, .iconst 4, 1), (87, .iload_n 1, 1), (88, .imul, 1), (89, .iload_n 2, 1), (90, .iadd, 1), (91, .iload_n 1, 1), (92, .iload_n 2, 1), (93, .isub, 1), (94, .invokestatic 36, 3), (97, .iastore, 1), (98, .iinc 2 1, 3), (101, .goto (-24), 3), (104, .iinc 1 1, 3), (107, .goto (-37), 3), (110, .return_, 1)]  -- X0_init
def zi_1 : List (Nat × Instr × Nat) := [(0, .aload_n 0, 1), (1, .aload_n 1, 1), (2, .getfield 42, 3), (5, .putfield 42, 3), (8, .aload_n 0, 1), (9, .aload_n 1, 1), (10, .getfield 46, 3), (13, .putfield 46, 3), (16, .aload_n 0, 1), (17, .aload_n 1, 1), (18, .getfield 49, 3), (21, .putfield 49, 3), (24, .aload_n 1, 1), (25, .getfield 9, 3), (28, .iconst 0, 1), (29, .aload_n 0, 1), (30, .getfield 9, 3), (33, .iconst 0, 1), (34, .bipush 6, 2), (36, .invokestatic 52, 3), (39, .aload_n 1, 1), (40, .getfield 15, 3), (43, .iconst 0, 1), (44, .aload_n 0, 1), (45, .getfield 15, 3), (48, .iconst 0, 1), (49, .bipush 6, 2), (51, .invokestatic 52, 3), (54, .aload_n 1, 1), (55, .getfield 18, 3), (58, .iconst 0, 1), (59, .aload_n 0, 1), (60, .getfield 18, 3), (63, .iconst 0, 1), (64, .bipush 6, 2), (66, .invokestatic 52, 3), (69, .aload_n 1, 1), (70, .getfield 21, 3), (73, .iconst 0, 1), (74, .aload_n 0, 1), (75, .getfield 21, 3), (78, .iconst 0, 1), (79, .bipush 6, 2), (81, .invokestatic 52, 3), (84, .aload_n 1, 1), (85, .getfield 24, 3), (88, .iconst 0, 1), (89, .aload_n 0, 1), (90, .getfield 24, 3), (93, .iconst 0, 1), (94, .bipush 6, 2), (96, .invokestatic 52, 3), (99, .aload_n 1, 1), (100, .getfield 27, 3), (103, .iconst 0, 1), (104, .aload_n 0, 1), (105, .getfield 27, 3), (108, .iconst 0, 1), (109, .bipush 6, 2), (111, .invokestatic 52, 3), (114, .aload_n 1, 1), (115, .getfield 30, 3), (118, .iconst 0, 1), (119, .aload_n 0, 1), (120, .getfield 30, 3), (123, .iconst 0, 1), (124, .bipush 6, 2), (126, .invokestatic 52, 3), (129, .aload_n 1, 1), (130, .getfield 33, 3), (133, .iconst 0, 1), (134, .aload_n 0, 1), (135, .getfield 33, 3), (138, .iconst 0, 1), (139, .bipush 16, 2), (141, .invokestatic 52, 3), (144, .return_, 1)]  -- X0_become
def zi_2 : List (Nat × Instr × Nat) := [(0, .iload_n 1, 1), (1, .ifCond .lt 21, 3), (4, .iload_n 1, 1), (5, .aload_n 0, 1), (6, .getfield 46, 3), (9, .if_icmp .ge 13, 3), (12, .iload_n 1, 1), (13, .bipush 6, 2), (15, .if_icmp .ge 7, 3), (18, .iconst 1, 1), (19, .goto 4, 3), (22, .iconst 0, 1), (23, .ireturn, 1)]  -- X0_has
def zi_3 : List (Nat × Instr × Nat) := [(0, .aload_n 0, 1), (1, .getfield 46, 3), (4, .istore 5, 2), (6, .iload 5, 2), (8, .ifCond .lt 10, 3), (11, .iload 5, 2), (13, .bipush 6, 2), (15, .if_icmp .lt 4, 3), (18, .return_, 1), (19, .aload_n 0, 1), (20, .dup, 1), (21, .getfield 46, 3), (24, .iconst 1, 1), (25, .iadd, 1), (26, .putfield 46, 3), (29, .aload_n 0, 1), (30, .getfield 15, 3), (33, .iload 5, 2), (35, .iload_n 1, 1), (36, .iastore, 1), (37, .aload_n 0, 1), (38, .getfield 9, 3), (41, .iload 5, 2), (43, .iload_n 2, 1), (44, .bipush 10, 2), (46, .idiv, 1), (47, .iastore, 1), (48, .aload_n 0, 1), (49, .getfield 18, 3), (52, .iload 5, 2), (54, .iload_n 2, 1), (55, .bipush 10, 2), (57, .irem, 1), (58, .iastore, 1), (59, .aload_n 0, 1), (60, .getfield 21, 3), (63, .iload 5, 2), (65, .iload_n 3, 1), (66, .bipush 100, 2), (68, .idiv, 1), (69, .iastore, 1), (70, .aload_n 0, 1), (71, .getfield 24, 3), (74, .iload 5, 2), (76, .iload_n 3, 1), (77, .bipush 100, 2), (79, .irem, 1), (80, .iastore, 1), (81, .aload_n 0, 1), (82, .getfield 27, 3), (85, .iload 5, 2), (87, .iload 4, 2), (89, .iastore, 1), (90, .aload_n 0, 1), (91, .getfield 30, 3), (94, .iload 5, 2), (96, .iconst 0, 1), (97, .iastore, 1), (98, .return_, 1)]  -- X0_add
def zi_4 : List (Nat × Instr × Nat) := [(0, .iload_n 1, 1), (1, .invokestatic 58, 3), (4, .ifCond .eq 10, 3), (7, .iload_n 2, 1), (8, .invokestatic 58, 3), (11, .ifCond .ne 5, 3), (14, .iconst 0, 1), (15, .ireturn, 1), (16, .aload_n 0, 1), (17, .getfield 33, 3), (20, .iconst 4, 1), (21, .iload_n 1, 1), (22, .imul, 1), (23, .iload_n 2, 1), (24, .iadd, 1), (25, .iaload, 1), (26, .istore 4, 2), (28, .aload_n 0, 1), (29, .getfield 33, 3), (32, .iconst 4, 1), (33, .iload_n 1, 1), (34, .imul, 1), (35, .iload_n 2, 1), (36, .iadd, 1), (37, .iload_n 3, 1), (38, .iastore, 1), (39, .aload_n 0, 1), (40, .getfield 33, 3), (43, .iconst 4, 1), (44, .iload_n 2, 1), (45, .imul, 1), (46, .iload_n 1, 1), (47, .iadd, 1), (48, .iload_n 3, 1), (49, .iastore, 1), (50, .iload 4, 2), (52, .ireturn, 1)]  -- X0_setHours
def zi_5 : List (Nat × Instr × Nat) := [(0, .aload_n 0, 1), (1, .iload_n 1, 1), (2, .invokevirtual 62, 3), (5, .ifCond .eq 11, 3), (8, .aload_n 0, 1), (9, .iload_n 2, 1), (10, .invokevirtual 62, 3), (13, .ifCond .ne 5, 3), (16, .iconst 0, 1), (17, .ireturn, 1), (18, .aload_n 0, 1), (19, .getfield 30, 3), (22, .iload_n 1, 1), (23, .iaload, 1), (24, .iload_n 2, 1), (25, .ishr, 1), (26, .iconst 1, 1), (27, .iand, 1), (28, .istore 4, 2), (30, .aload_n 0, 1), (31, .getfield 30, 3), (34, .iload_n 1, 1), (35, .aload_n 0, 1), (36, .getfield 30, 3), (39, .iload_n 1, 1), (40, .iaload, 1), (41, .iconst 1, 1), (42, .iload_n 2, 1), (43, .ishl, 1), (44, .iconst (-1), 1), (45, .ixor, 1), (46, .iand, 1), (47, .iload_n 3, 1), (48, .iload_n 2, 1), (49, .ishl, 1), (50, .ior, 1), (51, .iastore, 1), (52, .aload_n 0, 1), (53, .getfield 30, 3), (56, .iload_n 2, 1), (57, .aload_n 0, 1), (58, .getfield 30, 3), (61, .iload_n 2, 1), (62, .iaload, 1), (63, .iconst 1, 1), (64, .iload_n 1, 1), (65, .ishl, 1), (66, .iconst (-1), 1), (67, .ixor, 1), (68, .iand, 1), (69, .iload_n 3, 1), (70, .iload_n 1, 1), (71, .ishl, 1), (72, .ior, 1), (73, .iastore, 1), (74, .iload 4, 2), (76, .ireturn, 1)]  -- X0_setFoes
def zi_6 : List (Nat × Instr × Nat) := [(0, .iconst 0, 1), (1, .istore_n 2, 1), (2, .iconst 0, 1), (3, .istore_n 3, 1), (4, .iload_n 3, 1), (5, .aload_n 0, 1), (6, .getfield 46, 3), (9, .if_icmp .ge 31, 3), (12, .iload_n 3, 1), (13, .bipush 6, 2), (15, .if_icmp .ge 25, 3), (18, .aload_n 0, 1), (19, .getfield 9, 3), (22, .iload_n 3, 1), (23, .iaload, 1), (24, .iload_n 1, 1), (25, .if_icmp .ne 9, 3), (28, .iload_n 2, 1), (29, .iconst 1, 1), (30, .iload_n 3, 1), (31, .ishl, 1), (32, .ior, 1), (33, .istore_n 2, 1), (34, .iinc 3 1, 3), (37, .goto (-33), 3), (40, .iload_n 2, 1), (41, .ireturn, 1)]  -- X0_whoIsAt
def zi_7 : List (Nat × Instr × Nat) := [(0, .iconst 0, 1), (1, .istore_n 2, 1), (2, .iconst 0, 1), (3, .istore_n 3, 1), (4, .iload_n 3, 1), (5, .aload_n 0, 1), (6, .getfield 46, 3), (9, .if_icmp .ge 34, 3), (12, .iload_n 3, 1), (13, .bipush 6, 2), (15, .if_icmp .ge 28, 3), (18, .aload_n 0, 1), (19, .getfield 15, 3), (22, .iload_n 3, 1), (23, .iaload, 1), (24, .iload_n 1, 1), (25, .invokestatic 65, 3), (28, .ifCond .eq 9, 3), (31, .iload_n 2, 1), (32, .iconst 1, 1), (33, .iload_n 3, 1), (34, .ishl, 1), (35, .ior, 1), (36, .istore_n 2, 1), (37, .iinc 3 1, 3), (40, .goto (-36), 3), (43, .iload_n 2, 1), (44, .ireturn, 1)]  -- X0_whoIsA
def zi_8 : List (Nat × Instr × Nat) := [(0, .aload_n 0, 1), (1, .getfield 42, 3), (4, .istore_n 1, 1), (5, .iconst 0, 1), (6, .istore_n 2, 1), (7, .iload_n 2, 1), (8, .aload_n 0, 1), (9, .getfield 46, 3), (12, .if_icmp .ge 30, 3), (15, .iload_n 2, 1), (16, .bipush 6, 2), (18, .if_icmp .ge 24, 3), (21, .iload_n 1, 1), (22, .aload_n 0, 1), (23, .getfield 9, 3), (26, .iload_n 2, 1), (27, .iaload, 1), (28, .getstatic 69, 3), (31, .iload_n 2, 1), (32, .iaload, 1), (33, .imul, 1), (34, .iadd, 1), (35, .istore_n 1, 1), (36, .iinc 2 1, 3), (39, .goto (-32), 3), (42, .iload_n 1, 1), (43, .ireturn, 1)]  -- X0_state
def zi_9 : List (Nat × Instr × Nat) := [(0, .aload_n 0, 1), (1, .invokespecial 3, 3), (4, .aload_n 0, 1), (5, .sipush 160, 3), (8, .newarray .int, 2), (10, .putfield 9, 3), (13, .aload_n 0, 1), (14, .iconst 3, 1), (15, .newarray .int, 2), (17, .putfield 15, 3), (20, .aload_n 0, 1), (21, .bipush 40, 2), (23, .newarray .int, 2), (25, .putfield 18, 3), (28, .return_, 1)]  -- X1_init
def zi_10 : List (Nat × Instr × Nat) := [(0, .aload_n 0, 1), (1, .iconst 0, 1), (2, .putfield 21, 3), (5, .return_, 1)]  -- X1_begin
def zi_11 : List (Nat × Instr × Nat) := [(0, .aload_n 0, 1), (1, .getfield 21, 3), (4, .ifCond .lt 35, 3), (7, .aload_n 0, 1), (8, .getfield 21, 3), (11, .aload_n 0, 1), (12, .getfield 9, 3), (15, .arraylength, 1), (16, .if_icmp .ge 23, 3), (19, .aload_n 0, 1), (20, .getfield 9, 3), (23, .aload_n 0, 1), (24, .getfield 21, 3), (27, .iload_n 1, 1), (28, .iastore, 1), (29, .aload_n 0, 1), (30, .dup, 1), (31, .getfield 21, 3), (34, .iconst 1, 1), (35, .iadd, 1), (36, .putfield 21, 3), (39, .return_, 1)]  -- X1_add
def zi_12 : List (Nat × Instr × Nat) := [(0, .iload_n 1, 1), (1, .ifCond .lt 22, 3), (4, .iload_n 1, 1), (5, .aload_n 0, 1), (6, .getfield 15, 3), (9, .arraylength, 1), (10, .if_icmp .ge 13, 3), (13, .aload_n 0, 1), (14, .getfield 15, 3), (17, .iload_n 1, 1), (18, .aload_n 0, 1), (19, .getfield 21, 3), (22, .iastore, 1), (23, .return_, 1)]  -- X1_end
def zi_13 : List (Nat × Instr × Nat) := [(0, .iload_n 1, 1), (1, .ifCond .lt 12, 3), (4, .iload_n 1, 1), (5, .aload_n 0, 1), (6, .getfield 15, 3), (9, .arraylength, 1), (10, .if_icmp .lt 5, 3), (13, .iconst 0, 1), (14, .ireturn, 1), (15, .iconst (-1), 1), (16, .istore_n 3, 1), (17, .iload_n 1, 1), (18, .ifCond .ne 7, 3), (21, .iconst 0, 1), (22, .goto 11, 3), (25, .aload_n 0, 1), (26, .getfield 15, 3), (29, .iload_n 1, 1), (30, .iconst 1, 1), (31, .isub, 1), (32, .iaload, 1), (33, .istore 4, 2), (35, .iload 4, 2), (37, .aload_n 0, 1), (38, .getfield 15, 3), (41, .iload_n 1, 1), (42, .iaload, 1), (43, .if_icmp .ge 116, 3), (46, .iload 4, 2), (48, .aload_n 0, 1), (49, .getfield 9, 3), (52, .arraylength, 1), (53, .if_icmp .ge 106, 3), (56, .aload_n 0, 1), (57, .getfield 9, 3), (60, .iload 4, 2), (62, .iaload, 1), (63, .istore 5, 2), (65, .iload 5, 2), (67, .bipush (-6), 2), (69, .if_icmp .lt 9, 3), (72, .iinc 3 1, 3), (75, .goto 20, 3), (78, .iload 5, 2), (80, .bipush (-12), 2), (82, .if_icmp .eq 13, 3), (85, .iload 5, 2), (87, .bipush (-13), 2), (89, .if_icmp .eq 6, 3), (92, .iinc 3 (-1), 3), (95, .iload_n 3, 1), (96, .ifCond .lt 14, 3), (99, .iload_n 3, 1), (100, .iconst 1, 1), (101, .iadd, 1), (102, .aload_n 0, 1), (103, .getfield 18, 3), (106, .arraylength, 1), (107, .if_icmp .lt 5, 3), (110, .iconst 0, 1), (111, .ireturn, 1), (112, .aload_n 0, 1), (113, .getfield 18, 3), (116, .iload_n 3, 1), (117, .iload 5, 2), (119, .bipush (-6), 2), (121, .if_icmp .lt 12, 3), (124, .iload 5, 2), (126, .aload_n 2, 1), (127, .invokestatic 25, 3), (130, .goto 22, 3), (133, .iload 5, 2), (135, .aload_n 0, 1), (136, .getfield 18, 3), (139, .iload_n 3, 1), (140, .iaload, 1), (141, .aload_n 0, 1), (142, .getfield 18, 3), (145, .iload_n 3, 1), (146, .iconst 1, 1), (147, .iadd, 1), (148, .iaload, 1), (149, .invokestatic 29, 3), (152, .iastore, 1), (153, .iinc 4 1, 3), (156, .goto (-121), 3), (159, .aload_n 0, 1), (160, .getfield 18, 3), (163, .iconst 0, 1), (164, .iaload, 1), (165, .ireturn, 1)]  -- X1_value
def zi_14 : List (Nat × Instr × Nat) := [(0, .iload_n 0, 1), (1, .ifCond .lt 5, 3), (4, .iload_n 0, 1), (5, .ireturn, 1), (6, .iconst (-1), 1), (7, .iload_n 0, 1), (8, .isub, 1), (9, .aload_n 1, 1), (10, .arraylength, 1), (11, .if_icmp .ge 11, 3), (14, .aload_n 1, 1), (15, .iconst (-1), 1), (16, .iload_n 0, 1), (17, .isub, 1), (18, .iaload, 1), (19, .goto 4, 3), (22, .iconst 0, 1), (23, .ireturn, 1)]  -- X1_operand
def zi_15 : List (Nat × Instr × Nat) := [(0, .iload_n 0, 1), (1, .lookupswitch 147 #[(-61, 124), (-60, 113), (-45, 139), (-43, 135), (-42, 143), (-12, 103), (-11, 89), (-10, 75)], 75), (76, .iload_n 1, 1), (77, .ifCond .ne 7, 3), (80, .iload_n 2, 1), (81, .ifCond .eq 7, 3), (84, .iconst 1, 1), (85, .goto 4, 3), (88, .iconst 0, 1), (89, .ireturn, 1), (90, .iload_n 1, 1), (91, .ifCond .eq 11, 3), (94, .iload_n 2, 1), (95, .ifCond .eq 7, 3), (98, .iconst 1, 1), (99, .goto 4, 3), (102, .iconst 0, 1), (103, .ireturn, 1), (104, .iload_n 1, 1), (105, .ifCond .ne 7, 3), (108, .iconst 1, 1), (109, .goto 4, 3), (112, .iconst 0, 1), (113, .ireturn, 1), (114, .iload_n 1, 1), (115, .iload_n 2, 1), (116, .if_icmp .ge 7, 3), (119, .iconst 1, 1), (120, .goto 4, 3), (123, .iconst 0, 1), (124, .ireturn, 1), (125, .iload_n 1, 1), (126, .iload_n 2, 1), (127, .if_icmp .ne 7, 3), (130, .iconst 1, 1), (131, .goto 4, 3), (134, .iconst 0, 1), (135, .ireturn, 1), (136, .iload_n 1, 1), (137, .iload_n 2, 1), (138, .iadd, 1), (139, .ireturn, 1), (140, .iload_n 1, 1), (141, .iload_n 2, 1), (142, .isub, 1), (143, .ireturn, 1), (144, .iload_n 1, 1), (145, .iload_n 2, 1), (146, .imul, 1), (147, .ireturn, 1), (148, .iload_n 1, 1), (149, .ineg, 1), (150, .ireturn, 1)]  -- X1_result
def zi_16 : List (Nat × Instr × Nat) := [(0, .aload_n 0, 1), (1, .invokespecial 3, 3), (4, .aload_n 0, 1), (5, .sipush 160, 3), (8, .newarray .int, 2), (10, .putfield 9, 3), (13, .aload_n 0, 1), (14, .aload_n 1, 1), (15, .putfield 15, 3), (18, .return_, 1)]  -- X2_init
def zi_17 : List (Nat × Instr × Nat) := [(0, .aload_n 0, 1), (1, .getfield 19, 3), (4, .ifCond .lt 35, 3), (7, .aload_n 0, 1), (8, .getfield 19, 3), (11, .aload_n 0, 1), (12, .getfield 9, 3), (15, .arraylength, 1), (16, .if_icmp .ge 23, 3), (19, .aload_n 0, 1), (20, .getfield 9, 3), (23, .aload_n 0, 1), (24, .getfield 19, 3), (27, .iload_n 1, 1), (28, .iastore, 1), (29, .aload_n 0, 1), (30, .dup, 1), (31, .getfield 19, 3), (34, .iconst 1, 1), (35, .iadd, 1), (36, .putfield 19, 3), (39, .return_, 1)]  -- X2_append
def zi_18 : List (Nat × Instr × Nat) := [(0, .aload_n 0, 1), (1, .aload_n 1, 1), (2, .putfield 15, 3), (5, .aload_n 0, 1), (6, .getfield 15, 3), (9, .invokevirtual 23, 3), (12, .aload_n 0, 1), (13, .iconst 0, 1), (14, .putfield 28, 3), (17, .aload_n 0, 1), (18, .iconst 0, 1), (19, .putfield 31, 3), (22, .aload_n 0, 1), (23, .invokevirtual 34, 3), (26, .iconst 0, 1), (27, .istore_n 2, 1), (28, .iload_n 2, 1), (29, .iconst 2, 1), (30, .if_icmp .gt 22, 3), (33, .aload_n 0, 1), (34, .iload_n 2, 1), (35, .invokevirtual 37, 3), (38, .ifCond .ne 8, 3), (41, .aload_n 0, 1), (42, .getfield 41, 3), (45, .ireturn, 1), (46, .iinc 2 1, 3), (49, .goto (-21), 3), (52, .aload_n 0, 1), (53, .getfield 44, 3), (56, .sipush 301, 3), (59, .if_icmp .ne 7, 3), (62, .iconst (-1), 1), (63, .goto 7, 3), (66, .aload_n 0, 1), (67, .getfield 41, 3), (70, .ireturn, 1)]  -- X2_faultOf
def zi_19 : List (Nat × Instr × Nat) := [(0, .aload_n 0, 1), (1, .getfield 44, 3), (4, .bipush 6, 2), (6, .iload_n 1, 1), (7, .iadd, 1), (8, .if_icmp .eq 5, 3), (11, .iconst 0, 1), (12, .ireturn, 1), (13, .aload_n 0, 1), (14, .invokevirtual 34, 3), (17, .aload_n 0, 1), (18, .invokevirtual 47, 3), (21, .ifCond .eq 12, 3), (24, .aload_n 0, 1), (25, .getfield 44, 3), (28, .bipush 59, 2), (30, .if_icmp .eq 5, 3), (33, .iconst 0, 1), (34, .ireturn, 1), (35, .aload_n 0, 1), (36, .getfield 15, 3), (39, .iload_n 1, 1), (40, .invokevirtual 51, 3), (43, .aload_n 0, 1), (44, .invokevirtual 34, 3), (47, .iconst 1, 1), (48, .ireturn, 1)]  -- X2_standsPart
def zi_20 : List (Nat × Instr × Nat) := [(0, .aload_n 0, 1), (1, .invokevirtual 55, 3), (4, .istore_n 1, 1), (5, .iconst 0, 1), (6, .istore_n 2, 1), (7, .iload_n 2, 1), (8, .sipush 160, 3), (11, .if_icmp .ge 40, 3), (14, .iload_n 1, 1), (15, .ifCond .eq 36, 3), (18, .aload_n 0, 1), (19, .getfield 44, 3), (22, .bipush 9, 2), (24, .if_icmp .ne 27, 3), (27, .aload_n 0, 1), (28, .invokevirtual 34, 3), (31, .aload_n 0, 1), (32, .invokevirtual 55, 3), (35, .istore_n 1, 1), (36, .aload_n 0, 1), (37, .getfield 15, 3), (40, .bipush (-10), 2), (42, .invokevirtual 58, 3), (45, .iinc 2 1, 3), (48, .goto (-41), 3), (51, .iload_n 1, 1), (52, .ireturn, 1)]  -- X2_standsE
def zi_21 : List (Nat × Instr × Nat) := [(0, .aload_n 0, 1), (1, .invokevirtual 61, 3), (4, .istore_n 1, 1), (5, .iconst 0, 1), (6, .istore_n 2, 1), (7, .iload_n 2, 1), (8, .sipush 160, 3), (11, .if_icmp .ge 40, 3), (14, .iload_n 1, 1), (15, .ifCond .eq 36, 3), (18, .aload_n 0, 1), (19, .getfield 44, 3), (22, .bipush 10, 2), (24, .if_icmp .ne 27, 3), (27, .aload_n 0, 1), (28, .invokevirtual 34, 3), (31, .aload_n 0, 1), (32, .invokevirtual 61, 3), (35, .istore_n 1, 1), (36, .aload_n 0, 1), (37, .getfield 15, 3), (40, .bipush (-11), 2), (42, .invokevirtual 58, 3), (45, .iinc 2 1, 3), (48, .goto (-41), 3), (51, .iload_n 1, 1), (52, .ireturn, 1)]  -- X2_standsAnd
def zi_22 : List (Nat × Instr × Nat) := [(0, .aload_n 0, 1), (1, .getfield 44, 3), (4, .bipush 11, 2), (6, .if_icmp .ne 40, 3), (9, .aload_n 0, 1), (10, .invokevirtual 64, 3), (13, .ifCond .eq 10, 3), (16, .aload_n 0, 1), (17, .invokevirtual 61, 3), (20, .ifCond .ne 5, 3), (23, .iconst 0, 1), (24, .ireturn, 1), (25, .aload_n 0, 1), (26, .dup, 1), (27, .getfield 31, 3), (30, .iconst 1, 1), (31, .isub, 1), (32, .putfield 31, 3), (35, .aload_n 0, 1), (36, .getfield 15, 3), (39, .bipush (-12), 2), (41, .invokevirtual 58, 3), (44, .iconst 1, 1), (45, .ireturn, 1), (46, .aload_n 0, 1), (47, .invokevirtual 67, 3), (50, .ifCond .ne 5, 3), (53, .iconst 0, 1), (54, .ireturn, 1), (55, .aload_n 0, 1), (56, .getfield 44, 3), (59, .istore_n 1, 1), (60, .iload_n 1, 1), (61, .bipush 60, 2), (63, .if_icmp .eq 11, 3), (66, .iload_n 1, 1), (67, .bipush 61, 2), (69, .if_icmp .eq 5, 3), (72, .iconst 1, 1), (73, .ireturn, 1), (74, .aload_n 0, 1), (75, .invokevirtual 34, 3), (78, .aload_n 0, 1), (79, .invokevirtual 67, 3), (82, .ifCond .ne 5, 3), (85, .iconst 0, 1), (86, .ireturn, 1), (87, .aload_n 0, 1), (88, .getfield 15, 3), (91, .iload_n 1, 1), (92, .ineg, 1), (93, .invokevirtual 58, 3), (96, .iconst 1, 1), (97, .ireturn, 1)]  -- X2_standsNot
def zi_23 : List (Nat × Instr × Nat) := [(0, .aload_n 0, 1), (1, .invokevirtual 70, 3), (4, .istore_n 1, 1), (5, .iconst 0, 1), (6, .istore_n 2, 1), (7, .iload_n 2, 1), (8, .sipush 160, 3), (11, .if_icmp .ge 54, 3), (14, .iload_n 1, 1), (15, .ifCond .eq 50, 3), (18, .aload_n 0, 1), (19, .getfield 44, 3), (22, .bipush 43, 2), (24, .if_icmp .eq 12, 3), (27, .aload_n 0, 1), (28, .getfield 44, 3), (31, .bipush 45, 2), (33, .if_icmp .ne 32, 3), (36, .aload_n 0, 1), (37, .getfield 44, 3), (40, .istore_n 3, 1), (41, .aload_n 0, 1), (42, .invokevirtual 34, 3), (45, .aload_n 0, 1), (46, .invokevirtual 70, 3), (49, .istore_n 1, 1), (50, .aload_n 0, 1), (51, .getfield 15, 3), (54, .iload_n 3, 1), (55, .ineg, 1), (56, .invokevirtual 58, 3), (59, .iinc 2 1, 3), (62, .goto (-55), 3), (65, .iload_n 1, 1), (66, .ireturn, 1)]  -- X2_standsSum
def zi_24 : List (Nat × Instr × Nat) := [(0, .aload_n 0, 1), (1, .invokevirtual 73, 3), (4, .istore_n 1, 1), (5, .iconst 0, 1), (6, .istore_n 2, 1), (7, .iload_n 2, 1), (8, .sipush 160, 3), (11, .if_icmp .ge 40, 3), (14, .iload_n 1, 1), (15, .ifCond .eq 36, 3), (18, .aload_n 0, 1), (19, .getfield 44, 3), (22, .bipush 42, 2), (24, .if_icmp .ne 27, 3), (27, .aload_n 0, 1), (28, .invokevirtual 34, 3), (31, .aload_n 0, 1), (32, .invokevirtual 73, 3), (35, .istore_n 1, 1), (36, .aload_n 0, 1), (37, .getfield 15, 3), (40, .bipush (-42), 2), (42, .invokevirtual 58, 3), (45, .iinc 2 1, 3), (48, .goto (-41), 3), (51, .iload_n 1, 1), (52, .ireturn, 1)]  -- X2_standsTerm
def zi_25 : List (Nat × Instr × Nat) := [(0, .aload_n 0, 1), (1, .getfield 44, 3), (4, .bipush 45, 2), (6, .if_icmp .ne 40, 3), (9, .aload_n 0, 1), (10, .invokevirtual 64, 3), (13, .ifCond .eq 10, 3), (16, .aload_n 0, 1), (17, .invokevirtual 73, 3), (20, .ifCond .ne 5, 3), (23, .iconst 0, 1), (24, .ireturn, 1), (25, .aload_n 0, 1), (26, .dup, 1), (27, .getfield 31, 3), (30, .iconst 1, 1), (31, .isub, 1), (32, .putfield 31, 3), (35, .aload_n 0, 1), (36, .getfield 15, 3), (39, .bipush (-13), 2), (41, .invokevirtual 58, 3), (44, .iconst 1, 1), (45, .ireturn, 1), (46, .aload_n 0, 1), (47, .getfield 44, 3), (50, .bipush 40, 2), (52, .if_icmp .ne 44, 3), (55, .aload_n 0, 1), (56, .invokevirtual 64, 3), (59, .ifCond .eq 19, 3), (62, .aload_n 0, 1), (63, .invokevirtual 47, 3), (66, .ifCond .eq 12, 3), (69, .aload_n 0, 1), (70, .getfield 44, 3), (73, .bipush 41, 2), (75, .if_icmp .eq 5, 3), (78, .iconst 0, 1), (79, .ireturn, 1), (80, .aload_n 0, 1), (81, .dup, 1), (82, .getfield 31, 3), (85, .iconst 1, 1), (86, .isub, 1), (87, .putfield 31, 3), (90, .aload_n 0, 1), (91, .invokevirtual 34, 3), (94, .iconst 1, 1), (95, .ireturn, 1), (96, .aload_n 0, 1), (97, .getfield 44, 3), (100, .sipush 300, 3), (103, .if_icmp .eq 14, 3), (106, .aload_n 0, 1), (107, .getfield 44, 3), (110, .bipush 6, 2), (112, .if_icmp .lt 5, 3), (115, .iconst 0, 1), (116, .ireturn, 1), (117, .aload_n 0, 1), (118, .getfield 15, 3), (121, .aload_n 0, 1), (122, .getfield 44, 3), (125, .sipush 300, 3), (128, .if_icmp .ne 10, 3), (131, .aload_n 0, 1), (132, .getfield 76, 3), (135, .goto 9, 3), (138, .iconst (-1), 1), (139, .aload_n 0, 1), (140, .getfield 44, 3), (143, .isub, 1), (144, .invokevirtual 58, 3), (147, .aload_n 0, 1), (148, .invokevirtual 34, 3), (151, .iconst 1, 1), (152, .ireturn, 1)]  -- X2_standsOne
def zi_26 : List (Nat × Instr × Nat) := [(0, .aload_n 0, 1), (1, .getfield 31, 3), (4, .iconst 5, 1), (5, .if_icmp .lt 5, 3), (8, .iconst 0, 1), (9, .ireturn, 1), (10, .aload_n 0, 1), (11, .dup, 1), (12, .getfield 31, 3), (15, .iconst 1, 1), (16, .iadd, 1), (17, .putfield 31, 3), (20, .aload_n 0, 1), (21, .invokevirtual 34, 3), (24, .iconst 1, 1), (25, .ireturn, 1)]  -- X2_op-ens
def zi_27 : List (Nat × Instr × Nat) := [(0, .iload_n 1, 1), (1, .ifCond .lt 29, 3), (4, .iload_n 1, 1), (5, .aload_n 0, 1), (6, .getfield 19, 3), (9, .if_icmp .ge 21, 3), (12, .iload_n 1, 1), (13, .aload_n 0, 1), (14, .getfield 9, 3), (17, .arraylength, 1), (18, .if_icmp .ge 12, 3), (21, .aload_n 0, 1), (22, .getfield 9, 3), (25, .iload_n 1, 1), (26, .iaload, 1), (27, .goto 4, 3), (30, .iconst (-1), 1), (31, .ireturn, 1)]  -- X2_byteAt
def zi_28 : List (Nat × Instr × Nat) := [(0, .aload_n 0, 1), (1, .getfield 28, 3), (4, .istore_n 1, 1), (5, .iload_n 1, 1), (6, .aload_n 0, 1), (7, .getfield 19, 3), (10, .if_icmp .ge 36, 3), (13, .aload_n 0, 1), (14, .iload_n 1, 1), (15, .invokevirtual 79, 3), (18, .bipush 32, 2), (20, .if_icmp .eq 13, 3), (23, .aload_n 0, 1), (24, .iload_n 1, 1), (25, .invokevirtual 79, 3), (28, .bipush 10, 2), (30, .if_icmp .ne 16, 3), (33, .aload_n 0, 1), (34, .iload_n 1, 1), (35, .iconst 1, 1), (36, .iadd, 1), (37, .putfield 28, 3), (40, .iinc 1 1, 3), (43, .goto (-38), 3), (46, .aload_n 0, 1), (47, .aload_n 0, 1), (48, .getfield 28, 3), (51, .putfield 41, 3), (54, .aload_n 0, 1), (55, .aload_n 0, 1), (56, .getfield 41, 3), (59, .invokevirtual 79, 3), (62, .istore_n 1, 1), (63, .iload_n 1, 1), (64, .ifCond .ge 13, 3), (67, .aload_n 0, 1), (68, .sipush 301, 3), (71, .putfield 44, 3), (74, .goto 160, 3), (77, .iload_n 1, 1), (78, .bipush 97, 2), (80, .if_icmp .lt 41, 3), (83, .iload_n 1, 1), (84, .bipush 122, 2), (86, .if_icmp .gt 35, 3), (89, .aload_n 0, 1), (90, .bipush 97, 2), (92, .bipush 122, 2), (94, .invokevirtual 83, 3), (97, .aload_n 0, 1), (98, .aload_n 0, 1), (99, .aload_n 0, 1), (100, .getfield 41, 3), (103, .aload_n 0, 1), (104, .getfield 28, 3), (107, .aload_n 0, 1), (108, .getfield 41, 3), (111, .isub, 1), (112, .invokevirtual 87, 3), (115, .putfield 44, 3), (118, .goto 116, 3), (121, .iload_n 1, 1), (122, .bipush 48, 2), (124, .if_icmp .lt 41, 3), (127, .iload_n 1, 1), (128, .bipush 57, 2), (130, .if_icmp .gt 35, 3), (133, .aload_n 0, 1), (134, .bipush 48, 2), (136, .bipush 57, 2), (138, .invokevirtual 83, 3), (141, .aload_n 0, 1), (142, .aload_n 0, 1), (143, .aload_n 0, 1), (144, .getfield 41, 3), (147, .aload_n 0, 1), (148, .getfield 28, 3), (151, .aload_n 0, 1), (152, .getfield 41, 3), (155, .isub, 1), (156, .invokevirtual 91, 3), (159, .putfield 44, 3), (162, .goto 72, 3), (165, .aload_n 0, 1), (166, .aload_n 0, 1), (167, .getfield 41, 3), (170, .iconst 1, 1), (171, .iadd, 1), (172, .putfield 28, 3), (175, .aload_n 0, 1), (176, .iload_n 1, 1), (177, .bipush 40, 2), (179, .if_icmp .eq 45, 3), (182, .iload_n 1, 1), (183, .bipush 41, 2), (185, .if_icmp .eq 39, 3), (188, .iload_n 1, 1), (189, .bipush 59, 2), (191, .if_icmp .eq 33, 3), (194, .iload_n 1, 1), (195, .bipush 43, 2), (197, .if_icmp .eq 27, 3), (200, .iload_n 1, 1), (201, .bipush 45, 2), (203, .if_icmp .eq 21, 3), (206, .iload_n 1, 1), (207, .bipush 42, 2), (209, .if_icmp .eq 15, 3), (212, .iload_n 1, 1), (213, .bipush 60, 2), (215, .if_icmp .eq 9, 3), (218, .iload_n 1, 1), (219, .bipush 61, 2), (221, .if_icmp .ne 7, 3), (224, .iload_n 1, 1), (225, .goto 6, 3), (228, .sipush 302, 3), (231, .putfield 44, 3), (234, .return_, 1)]  -- X2_step
def zi_29 : List (Nat × Instr × Nat) := [(0, .aload_n 0, 1), (1, .getfield 28, 3), (4, .istore_n 3, 1), (5, .iload_n 3, 1), (6, .aload_n 0, 1), (7, .getfield 19, 3), (10, .if_icmp .ge 34, 3), (13, .aload_n 0, 1), (14, .iload_n 3, 1), (15, .invokevirtual 79, 3), (18, .iload_n 1, 1), (19, .if_icmp .lt 25, 3), (22, .aload_n 0, 1), (23, .iload_n 3, 1), (24, .invokevirtual 79, 3), (27, .iload_n 2, 1), (28, .if_icmp .gt 16, 3), (31, .aload_n 0, 1), (32, .iload_n 3, 1), (33, .iconst 1, 1), (34, .iadd, 1), (35, .putfield 28, 3), (38, .iinc 3 1, 3), (41, .goto (-36), 3), (44, .return_, 1)]  -- X2_stepOver
def zi_30 : List (Nat × Instr × Nat) := [(0, .iload_n 2, 1), (1, .iconst 4, 1), (2, .if_icmp .le 7, 3), (5, .sipush 302, 3), (8, .ireturn, 1), (9, .aload_n 0, 1), (10, .iconst 0, 1), (11, .putfield 76, 3), (14, .iconst 0, 1), (15, .istore_n 3, 1), (16, .iload_n 3, 1), (17, .iload_n 2, 1), (18, .if_icmp .ge 31, 3), (21, .aload_n 0, 1), (22, .bipush 10, 2), (24, .aload_n 0, 1), (25, .getfield 76, 3), (28, .imul, 1), (29, .aload_n 0, 1), (30, .iload_n 1, 1), (31, .iload_n 3, 1), (32, .iadd, 1), (33, .invokevirtual 79, 3), (36, .iadd, 1), (37, .bipush 48, 2), (39, .isub, 1), (40, .putfield 76, 3), (43, .iinc 3 1, 3), (46, .goto (-30), 3), (49, .sipush 300, 3), (52, .ireturn, 1)]  -- X2_numberFrom
def zi_31 : List (Nat × Instr × Nat) := [(0, .iconst 0, 1), (1, .istore_n 3, 1), (2, .iload_n 3, 1), (3, .iconst 5, 1), (4, .imul, 1), (5, .ldc 94, 2), (7, .invokevirtual 96, 3), (10, .if_icmp .ge 23, 3), (13, .aload_n 0, 1), (14, .iload_n 3, 1), (15, .iconst 5, 1), (16, .imul, 1), (17, .iload_n 1, 1), (18, .iload_n 2, 1), (19, .invokevirtual 102, 3), (22, .ifCond .eq 5, 3), (25, .iload_n 3, 1), (26, .ireturn, 1), (27, .iinc 3 1, 3), (30, .goto (-28), 3), (33, .sipush 302, 3), (36, .ireturn, 1)]  -- X2_wordFrom
def zi_32 : List (Nat × Instr × Nat) := [(0, .iload_n 3, 1), (1, .iconst 5, 1), (2, .if_icmp .ge 27, 3), (5, .iload_n 1, 1), (6, .iload_n 3, 1), (7, .iadd, 1), (8, .ldc 94, 2), (10, .invokevirtual 96, 3), (13, .if_icmp .ge 16, 3), (16, .ldc 94, 2), (18, .iload_n 1, 1), (19, .iload_n 3, 1), (20, .iadd, 1), (21, .invokevirtual 106, 3), (24, .bipush 32, 2), (26, .if_icmp .eq 5, 3), (29, .iconst 0, 1), (30, .ireturn, 1), (31, .iconst 0, 1), (32, .istore 4, 2), (34, .iload 4, 2), (36, .iload_n 3, 1), (37, .if_icmp .ge 31, 3), (40, .ldc 94, 2), (42, .iload_n 1, 1), (43, .iload 4, 2), (45, .iadd, 1), (46, .invokevirtual 106, 3), (49, .aload_n 0, 1), (50, .iload_n 2, 1), (51, .iload 4, 2), (53, .iadd, 1), (54, .invokevirtual 79, 3), (57, .if_icmp .eq 5, 3), (60, .iconst 0, 1), (61, .ireturn, 1), (62, .iinc 4 1, 3), (65, .goto (-31), 3), (68, .iconst 1, 1), (69, .ireturn, 1)]  -- X2_spells
def zi_33 : List (Nat × Instr × Nat) := [(0, .aload_n 0, 1), (1, .invokespecial 3, 3), (4, .aload_n 0, 1), (5, .bipush 6, 2), (7, .newarray .int, 2), (9, .putfield 9, 3), (12, .aload_n 0, 1), (13, .bipush 16, 2), (15, .newarray .int, 2), (17, .putfield 15, 3), (20, .aload_n 0, 1), (21, .bipush 16, 2), (23, .newarray .int, 2), (25, .putfield 18, 3), (28, .aload_n 0, 1), (29, .bipush 36, 2), (31, .newarray .int, 2), (33, .putfield 21, 3), (36, .aload_n 0, 1), (37, .bipush 36, 2), (39, .newarray .int, 2), (41, .putfield 24, 3), (44, .aload_n 0, 1), (45, .bipush 36, 2), (47, .newarray .int, 2), (49, .putfield 27, 3), (52, .aload_n 0, 1), (53, .aload_n 1, 1), (54, .putfield 30, 3), (57, .aload_n 0, 1), (58, .aload_n 2, 1), (59, .putfield 34, 3), (62, .return_, 1)]  -- X3_init
def zi_34 : List (Nat × Instr × Nat) := [(0, .aload_n 0, 1), (1, .aload_n 1, 1), (2, .putfield 34, 3), (5, .aload_n 0, 1), (6, .aload_n 0, 1), (7, .getfield 30, 3), (10, .iconst 1, 1), (11, .invokevirtual 38, 3), (14, .putfield 44, 3), (17, .aload_n 0, 1), (18, .aload_n 0, 1), (19, .getfield 30, 3), (22, .iconst 2, 1), (23, .invokevirtual 38, 3), (26, .putfield 48, 3), (29, .aload_n 0, 1), (30, .aload_n 0, 1), (31, .getfield 30, 3), (34, .iconst 3, 1), (35, .invokevirtual 38, 3), (38, .putfield 51, 3), (41, .aload_n 0, 1), (42, .aload_n 0, 1), (43, .getfield 30, 3), (46, .iconst 4, 1), (47, .invokevirtual 38, 3), (50, .putfield 54, 3), (53, .aload_n 0, 1), (54, .aload_n 0, 1), (55, .getfield 30, 3), (58, .iconst 5, 1), (59, .invokevirtual 38, 3), (62, .putfield 57, 3), (65, .iconst 0, 1), (66, .istore_n 2, 1), (67, .iload_n 2, 1), (68, .iconst 4, 1), (69, .if_icmp .ge 47, 3), (72, .iconst 0, 1), (73, .istore_n 3, 1), (74, .iload_n 3, 1), (75, .iconst 4, 1), (76, .if_icmp .ge 34, 3), (79, .aload_n 0, 1), (80, .getfield 15, 3), (83, .iconst 4, 1), (84, .iload_n 2, 1), (85, .imul, 1), (86, .iload_n 3, 1), (87, .iadd, 1), (88, .iload_n 2, 1), (89, .iload_n 3, 1), (90, .if_icmp .ne 7, 3), (93, .iconst 0, 1), (94, .goto 9, 3), (97, .aload_n 0, 1), (98, .iload_n 2, 1), (99, .iload_n 3, 1), (100, .invokevirtual 60, 3), (103, .iastore, 1), (104, .iinc 3 1, 3), (107, .goto (-33), 3), (110, .iinc 2 1, 3), (113, .goto (-46), 3), (116, .iconst 0, 1), (117, .istore_n 2, 1), (118, .iload_n 2, 1), (119, .aload_n 0, 1), (120, .getfield 30, 3), (123, .getfield 64, 3), (126, .if_icmp .ge 66, 3), (129, .iload_n 2, 1), (130, .bipush 6, 2), (132, .if_icmp .ge 60, 3), (135, .iconst 0, 1), (136, .istore_n 3, 1), (137, .iload_n 3, 1), (138, .aload_n 0, 1), (139, .getfield 30, 3), (142, .getfield 64, 3), (145, .if_icmp .ge 41, 3), (148, .iload_n 3, 1), (149, .bipush 6, 2), (151, .if_icmp .ge 35, 3), (154, .aload_n 0, 1), (155, .getfield 21, 3), (158, .bipush 6, 2), (160, .iload_n 2, 1), (161, .imul, 1), (162, .iload_n 3, 1), (163, .iadd, 1), (164, .iload_n 2, 1), (165, .iload_n 3, 1), (166, .if_icmp .ne 7, 3), (169, .iconst 0, 1), (170, .goto 9, 3), (173, .aload_n 0, 1), (174, .iload_n 2, 1), (175, .iload_n 3, 1), (176, .invokevirtual 67, 3), (179, .iastore, 1), (180, .iinc 3 1, 3), (183, .goto (-46), 3), (186, .iinc 2 1, 3), (189, .goto (-71), 3), (192, .return_, 1)]  -- X3_learn
def zi_35 : List (Nat × Instr × Nat) := [(0, .iconst 0, 1), (1, .istore_n 3, 1), (2, .iconst 0, 1), (3, .istore 4, 2), (5, .iload 4, 2), (7, .iconst 4, 1), (8, .if_icmp .ge 27, 3), (11, .aload_n 0, 1), (12, .iload_n 1, 1), (13, .iload_n 2, 1), (14, .iload 4, 2), (16, .invokevirtual 70, 3), (19, .ifCond .eq 10, 3), (22, .iload_n 3, 1), (23, .iconst 1, 1), (24, .iload 4, 2), (26, .ishl, 1), (27, .ior, 1), (28, .istore_n 3, 1), (29, .iinc 4 1, 3), (32, .goto (-27), 3), (35, .iload_n 3, 1), (36, .ireturn, 1)]  -- X3_landingsFor
def zi_36 : List (Nat × Instr × Nat) := [(0, .aload_n 0, 1), (1, .iload_n 1, 1), (2, .iload_n 2, 1), (3, .iload_n 3, 1), (4, .iconst 0, 1), (5, .iconst 0, 1), (6, .iconst 0, 1), (7, .invokevirtual 74, 3), (10, .aload_n 0, 1), (11, .getfield 34, 3), (14, .iconst 0, 1), (15, .aload_n 0, 1), (16, .getfield 9, 3), (19, .invokevirtual 78, 3), (22, .ifCond .eq 7, 3), (25, .iconst 1, 1), (26, .goto 4, 3), (29, .iconst 0, 1), (30, .ireturn, 1)]  -- X3_mayOf
def zi_37 : List (Nat × Instr × Nat) := [(0, .iload_n 1, 1), (1, .invokestatic 84, 3), (4, .ifCond .eq 10, 3), (7, .iload_n 2, 1), (8, .invokestatic 84, 3), (11, .ifCond .ne 5, 3), (14, .iconst 1, 1), (15, .ireturn, 1), (16, .aload_n 0, 1), (17, .iload_n 1, 1), (18, .iload_n 2, 1), (19, .iconst 0, 1), (20, .aload_n 0, 1), (21, .getfield 30, 3), (24, .getfield 88, 3), (27, .iconst 4, 1), (28, .iload_n 1, 1), (29, .imul, 1), (30, .iload_n 2, 1), (31, .iadd, 1), (32, .iaload, 1), (33, .iconst 0, 1), (34, .iconst 0, 1), (35, .invokevirtual 74, 3), (38, .iconst 1, 1), (39, .bipush 99, 2), (41, .aload_n 0, 1), (42, .getfield 34, 3), (45, .iconst 1, 1), (46, .aload_n 0, 1), (47, .getfield 9, 3), (50, .invokevirtual 78, 3), (53, .invokestatic 91, 3), (56, .invokestatic 96, 3), (59, .ireturn, 1)]  -- X3_rowOf
def zi_38 : List (Nat × Instr × Nat) := [(0, .aload_n 0, 1), (1, .getfield 30, 3), (4, .iload_n 1, 1), (5, .invokevirtual 99, 3), (8, .ifCond .ne 5, 3), (11, .iconst 0, 1), (12, .ireturn, 1), (13, .aload_n 0, 1), (14, .iload_n 1, 1), (15, .iconst 0, 1), (16, .aload_n 0, 1), (17, .getfield 30, 3), (20, .getfield 102, 3), (23, .iload_n 1, 1), (24, .iaload, 1), (25, .aload_n 0, 1), (26, .getfield 30, 3), (29, .getfield 105, 3), (32, .iload_n 1, 1), (33, .iaload, 1), (34, .iload_n 2, 1), (35, .aload_n 0, 1), (36, .getfield 30, 3), (39, .getfield 108, 3), (42, .iload_n 1, 1), (43, .iaload, 1), (44, .invokevirtual 74, 3), (47, .iconst 0, 1), (48, .sipush 999, 3), (51, .aload_n 0, 1), (52, .getfield 34, 3), (55, .iconst 2, 1), (56, .aload_n 0, 1), (57, .getfield 9, 3), (60, .invokevirtual 78, 3), (63, .invokestatic 91, 3), (66, .invokestatic 96, 3), (69, .ireturn, 1)]  -- X3_gainOf
def zi_39 : List (Nat × Instr × Nat) := [(0, .aload_n 0, 1), (1, .getfield 9, 3), (4, .iconst 0, 1), (5, .iload_n 1, 1), (6, .iastore, 1), (7, .aload_n 0, 1), (8, .getfield 9, 3), (11, .iconst 1, 1), (12, .iload_n 2, 1), (13, .iastore, 1), (14, .aload_n 0, 1), (15, .getfield 9, 3), (18, .iconst 2, 1), (19, .iload_n 3, 1), (20, .iastore, 1), (21, .aload_n 0, 1), (22, .getfield 9, 3), (25, .iconst 3, 1), (26, .iload 4, 2), (28, .iastore, 1), (29, .aload_n 0, 1), (30, .getfield 9, 3), (33, .iconst 4, 1), (34, .iload 5, 2), (36, .iastore, 1), (37, .aload_n 0, 1), (38, .getfield 9, 3), (41, .iconst 5, 1), (42, .iload 6, 2), (44, .iastore, 1), (45, .return_, 1)]  -- X3_name
def zi_40 : List (Nat × Instr × Nat) := [(0, .iconst 1, 1), (1, .aload_n 0, 1), (2, .getfield 30, 3), (5, .getfield 64, 3), (8, .ishl, 1), (9, .iconst 1, 1), (10, .isub, 1), (11, .aload_n 0, 1), (12, .getfield 51, 3), (15, .iconst (-1), 1), (16, .ixor, 1), (17, .iand, 1), (18, .ireturn, 1)]  -- X3_mustCome
def zi_41 : List (Nat × Instr × Nat) := [(0, .aload_n 0, 1), (1, .getfield 111, 3), (4, .aload_n 0, 1), (5, .getfield 51, 3), (8, .ior, 1), (9, .ireturn, 1)]  -- X3_there
def zi_42 : List (Nat × Instr × Nat) := [(0, .aload_n 0, 1), (1, .iload_n 1, 1), (2, .iconst 3, 1), (3, .iand, 1), (4, .putfield 114, 3), (7, .aload_n 0, 1), (8, .iconst 0, 1), (9, .putfield 117, 3), (12, .aload_n 0, 1), (13, .iconst 0, 1), (14, .putfield 120, 3), (17, .aload_n 0, 1), (18, .iconst 0, 1), (19, .putfield 111, 3), (22, .iload_n 1, 1), (23, .iconst 2, 1), (24, .ishr, 1), (25, .istore_n 2, 1), (26, .iconst 0, 1), (27, .istore_n 3, 1), (28, .iload_n 3, 1), (29, .aload_n 0, 1), (30, .getfield 30, 3), (33, .getfield 64, 3), (36, .if_icmp .ge 92, 3), (39, .iload_n 3, 1), (40, .bipush 6, 2), (42, .if_icmp .ge 86, 3), (45, .iload_n 2, 1), (46, .iconst 5, 1), (47, .irem, 1), (48, .istore 4, 2), (50, .iload_n 2, 1), (51, .iconst 5, 1), (52, .idiv, 1), (53, .istore_n 2, 1), (54, .iload 4, 2), (56, .iconst 4, 1), (57, .if_icmp .ne 18, 3), (60, .aload_n 0, 1), (61, .dup, 1), (62, .getfield 117, 3), (65, .iconst 1, 1), (66, .iload_n 3, 1), (67, .ishl, 1), (68, .ior, 1), (69, .putfield 117, 3), (72, .goto 24, 3), (75, .iload 4, 2), (77, .aload_n 0, 1), (78, .getfield 114, 3), (81, .if_icmp .ne 15, 3), (84, .aload_n 0, 1), (85, .dup, 1), (86, .getfield 120, 3), (89, .iconst 1, 1), (90, .iload_n 3, 1), (91, .ishl, 1), (92, .ior, 1), (93, .putfield 120, 3), (96, .iload 4, 2), (98, .aload_n 0, 1), (99, .getfield 30, 3), (102, .getfield 102, 3), (105, .iload_n 3, 1), (106, .iaload, 1), (107, .if_icmp .ne 15, 3), (110, .aload_n 0, 1), (111, .dup, 1), (112, .getfield 111, 3), (115, .iconst 1, 1), (116, .iload_n 3, 1), (117, .ishl, 1), (118, .ior, 1), (119, .putfield 111, 3), (122, .iinc 3 1, 3), (125, .goto (-97), 3), (128, .return_, 1)]  -- X3_look
def zi_43 : List (Nat × Instr × Nat) := [(0, .aload_n 0, 1), (1, .getfield 117, 3), (4, .iload_n 1, 1), (5, .ishr, 1), (6, .iconst 1, 1), (7, .iand, 1), (8, .ifCond .eq 7, 3), (11, .iconst 1, 1), (12, .goto 4, 3), (15, .iconst 0, 1), (16, .ireturn, 1)]  -- X3_isAboard
def zi_44 : List (Nat × Instr × Nat) := [(0, .aload_n 0, 1), (1, .getfield 30, 3), (4, .iload_n 2, 1), (5, .invokevirtual 99, 3), (8, .ifCond .ne 5, 3), (11, .iconst 0, 1), (12, .ireturn, 1), (13, .iload_n 1, 1), (14, .getstatic 123, 3), (17, .iload_n 2, 1), (18, .iaload, 1), (19, .idiv, 1), (20, .iconst 5, 1), (21, .irem, 1), (22, .ireturn, 1)]  -- X3_placeIn
def zi_45 : List (Nat × Instr × Nat) := [(0, .aload_n 0, 1), (1, .getfield 30, 3), (4, .iload_n 2, 1), (5, .invokevirtual 99, 3), (8, .ifCond .eq 14, 3), (11, .aload_n 0, 1), (12, .getfield 30, 3), (15, .iload_n 3, 1), (16, .invokevirtual 99, 3), (19, .ifCond .ne 5, 3), (22, .iload_n 1, 1), (23, .ireturn, 1), (24, .iload_n 1, 1), (25, .iconst 4, 1), (26, .aload_n 0, 1), (27, .getfield 114, 3), (30, .isub, 1), (31, .getstatic 123, 3), (34, .iload_n 3, 1), (35, .iaload, 1), (36, .getstatic 123, 3), (39, .iload_n 2, 1), (40, .iaload, 1), (41, .isub, 1), (42, .imul, 1), (43, .iadd, 1), (44, .ireturn, 1)]  -- X3_swapped
def zi_46 : List (Nat × Instr × Nat) := [(0, .iload_n 1, 1), (1, .aload_n 0, 1), (2, .getfield 114, 3), (5, .isub, 1), (6, .iload_n 2, 1), (7, .iadd, 1), (8, .ireturn, 1)]  -- X3_rowed
def zi_47 : List (Nat × Instr × Nat) := [(0, .aload_n 0, 1), (1, .getfield 30, 3), (4, .iload_n 1, 1), (5, .invokevirtual 99, 3), (8, .ifCond .eq 36, 3), (11, .aload_n 0, 1), (12, .getfield 30, 3), (15, .iload_n 2, 1), (16, .invokevirtual 99, 3), (19, .ifCond .eq 25, 3), (22, .aload_n 0, 1), (23, .getfield 117, 3), (26, .iload_n 1, 1), (27, .ishr, 1), (28, .iconst 1, 1), (29, .iand, 1), (30, .ifCond .eq 14, 3), (33, .aload_n 0, 1), (34, .getfield 120, 3), (37, .iload_n 2, 1), (38, .ishr, 1), (39, .iconst 1, 1), (40, .iand, 1), (41, .ifCond .ne 5, 3), (44, .iconst 0, 1), (45, .ireturn, 1), (46, .aload_n 0, 1), (47, .getfield 120, 3), (50, .iconst 1, 1), (51, .iload_n 2, 1), (52, .ishl, 1), (53, .iconst (-1), 1), (54, .ixor, 1), (55, .iand, 1), (56, .istore_n 3, 1), (57, .aload_n 0, 1), (58, .getfield 117, 3), (61, .iconst 1, 1), (62, .iload_n 1, 1), (63, .ishl, 1), (64, .iconst (-1), 1), (65, .ixor, 1), (66, .iand, 1), (67, .istore 4, 2), (69, .aload_n 0, 1), (70, .getfield 21, 3), (73, .bipush 6, 2), (75, .iload_n 1, 1), (76, .imul, 1), (77, .iload_n 2, 1), (78, .iadd, 1), (79, .iaload, 1), (80, .aload_n 0, 1), (81, .getfield 114, 3), (84, .ishr, 1), (85, .iconst 1, 1), (86, .iand, 1), (87, .ifCond .eq 7, 3), (90, .iconst 1, 1), (91, .goto 4, 3), (94, .iconst 0, 1), (95, .istore 5, 2), (97, .aload_n 0, 1), (98, .getfield 54, 3), (101, .iload_n 1, 1), (102, .ishr, 1), (103, .iconst 1, 1), (104, .iand, 1), (105, .ifCond .ne 38, 3), (108, .aload_n 0, 1), (109, .getfield 44, 3), (112, .iload_n 1, 1), (113, .ishr, 1), (114, .iconst 1, 1), (115, .iand, 1), (116, .ifCond .eq 23, 3), (119, .aload_n 0, 1), (120, .getfield 30, 3), (123, .getfield 102, 3), (126, .iload_n 1, 1), (127, .iaload, 1), (128, .aload_n 0, 1), (129, .getfield 114, 3), (132, .if_icmp .eq 7, 3), (135, .iload_n 3, 1), (136, .ifCond .eq 7, 3), (139, .iconst 1, 1), (140, .goto 4, 3), (143, .iconst 0, 1), (144, .istore 6, 2), (146, .aload_n 0, 1), (147, .getfield 30, 3), (150, .getfield 126, 3), (153, .iload_n 2, 1), (154, .iaload, 1), (155, .iload 4, 2), (157, .iand, 1), (158, .ifCond .ne 35, 3), (161, .aload_n 0, 1), (162, .getfield 57, 3), (165, .iload_n 2, 1), (166, .ishr, 1), (167, .iconst 1, 1), (168, .iand, 1), (169, .ifCond .eq 20, 3), (172, .iload 4, 2), (174, .aload_n 0, 1), (175, .getfield 30, 3), (178, .getfield 129, 3), (181, .iload_n 2, 1), (182, .iaload, 1), (183, .ishr, 1), (184, .iconst 1, 1), (185, .iand, 1), (186, .ifCond .eq 7, 3), (189, .iconst 1, 1), (190, .goto 4, 3), (193, .iconst 0, 1), (194, .istore 7, 2), (196, .iload 5, 2), (198, .ifCond .eq 29, 3), (201, .iload 6, 2), (203, .ifCond .eq 24, 3), (206, .iload 7, 2), (208, .ifCond .eq 19, 3), (211, .aload_n 0, 1), (212, .iload_n 3, 1), (213, .iconst 1, 1), (214, .iload_n 1, 1), (215, .ishl, 1), (216, .ior, 1), (217, .invokevirtual 132, 3), (220, .ifCond .eq 7, 3), (223, .iconst 1, 1), (224, .goto 4, 3), (227, .iconst 0, 1), (228, .ireturn, 1)]  -- X3_mayBe
def zi_48 : List (Nat × Instr × Nat) := [(0, .iload_n 1, 1), (1, .aload_n 0, 1), (2, .getfield 48, 3), (5, .iand, 1), (6, .ifCond .eq 11, 3), (9, .iload_n 1, 1), (10, .invokestatic 135, 3), (13, .iconst 1, 1), (14, .if_icmp .le 7, 3), (17, .iconst 1, 1), (18, .goto 4, 3), (21, .iconst 0, 1), (22, .ireturn, 1)]  -- X3_mayStand
def zi_49 : List (Nat × Instr × Nat) := [(0, .aload_n 0, 1), (1, .iconst 0, 1), (2, .putfield 140, 3), (5, .iconst 0, 1), (6, .istore_n 1, 1), (7, .iload_n 1, 1), (8, .aload_n 0, 1), (9, .getfield 30, 3), (12, .getfield 64, 3), (15, .if_icmp .ge 79, 3), (18, .iconst 0, 1), (19, .istore_n 2, 1), (20, .iload_n 2, 1), (21, .aload_n 0, 1), (22, .getfield 30, 3), (25, .getfield 64, 3), (28, .if_icmp .ge 60, 3), (31, .aload_n 0, 1), (32, .getfield 140, 3), (35, .aload_n 0, 1), (36, .getfield 24, 3), (39, .arraylength, 1), (40, .if_icmp .ge 48, 3), (43, .aload_n 0, 1), (44, .iload_n 1, 1), (45, .iload_n 2, 1), (46, .invokevirtual 143, 3), (49, .ifCond .eq 33, 3), (52, .aload_n 0, 1), (53, .getfield 24, 3), (56, .aload_n 0, 1), (57, .getfield 140, 3), (60, .iload_n 1, 1), (61, .iastore, 1), (62, .aload_n 0, 1), (63, .getfield 27, 3), (66, .aload_n 0, 1), (67, .getfield 140, 3), (70, .iload_n 2, 1), (71, .iastore, 1), (72, .aload_n 0, 1), (73, .dup, 1), (74, .getfield 140, 3), (77, .iconst 1, 1), (78, .iadd, 1), (79, .putfield 140, 3), (82, .iinc 2 1, 3), (85, .goto (-65), 3), (88, .iinc 1 1, 3), (91, .goto (-84), 3), (94, .return_, 1)]  -- X3_listSwaps
def zi_50 : List (Nat × Instr × Nat) := [(0, .iconst 1, 1), (1, .istore_n 1, 1), (2, .iconst 0, 1), (3, .istore_n 2, 1), (4, .iload_n 2, 1), (5, .aload_n 0, 1), (6, .getfield 15, 3), (9, .arraylength, 1), (10, .if_icmp .ge 20, 3), (13, .iload_n 1, 1), (14, .aload_n 0, 1), (15, .getfield 15, 3), (18, .iload_n 2, 1), (19, .iaload, 1), (20, .invokestatic 96, 3), (23, .istore_n 1, 1), (24, .iinc 2 1, 3), (27, .goto (-23), 3), (30, .iload_n 1, 1), (31, .ireturn, 1)]  -- X3_longestRow
def zi_51 : List (Nat × Instr × Nat) := [(0, .aload_n 0, 1), (1, .getfield 15, 3), (4, .iconst 0, 1), (5, .aload_n 0, 1), (6, .getfield 18, 3), (9, .iconst 0, 1), (10, .aload_n 0, 1), (11, .getfield 15, 3), (14, .arraylength, 1), (15, .invokestatic 147, 3), (18, .iconst 0, 1), (19, .istore_n 1, 1), (20, .iload_n 1, 1), (21, .iconst 4, 1), (22, .if_icmp .ge 83, 3), (25, .iconst 0, 1), (26, .istore_n 2, 1), (27, .iload_n 2, 1), (28, .iconst 4, 1), (29, .if_icmp .ge 70, 3), (32, .iconst 0, 1), (33, .istore_n 3, 1), (34, .iload_n 3, 1), (35, .iconst 4, 1), (36, .if_icmp .ge 57, 3), (39, .aload_n 0, 1), (40, .getfield 18, 3), (43, .iconst 4, 1), (44, .iload_n 2, 1), (45, .imul, 1), (46, .iload_n 1, 1), (47, .iadd, 1), (48, .iaload, 1), (49, .aload_n 0, 1), (50, .getfield 18, 3), (53, .iconst 4, 1), (54, .iload_n 1, 1), (55, .imul, 1), (56, .iload_n 3, 1), (57, .iadd, 1), (58, .iaload, 1), (59, .iadd, 1), (60, .istore 4, 2), (62, .aload_n 0, 1), (63, .getfield 18, 3), (66, .iconst 4, 1), (67, .iload_n 2, 1), (68, .imul, 1), (69, .iload_n 3, 1), (70, .iadd, 1), (71, .aload_n 0, 1), (72, .getfield 18, 3), (75, .iconst 4, 1), (76, .iload_n 2, 1), (77, .imul, 1), (78, .iload_n 3, 1), (79, .iadd, 1), (80, .iaload, 1), (81, .iload 4, 2), (83, .invokestatic 91, 3), (86, .iastore, 1), (87, .iinc 3 1, 3), (90, .goto (-56), 3), (93, .iinc 2 1, 3), (96, .goto (-69), 3), (99, .iinc 1 1, 3), (102, .goto (-82), 3), (105, .return_, 1)]  -- X3_findPaths
def zi_52 : List (Nat × Instr × Nat) := [(0, .aload_n 0, 1), (1, .invokevirtual 153, 3), (4, .iconst 0, 1), (5, .istore_n 1, 1), (6, .iconst 0, 1), (7, .istore_n 2, 1), (8, .iload_n 2, 1), (9, .aload_n 0, 1), (10, .getfield 30, 3), (13, .getfield 64, 3), (16, .if_icmp .ge 132, 3), (19, .iload_n 2, 1), (20, .bipush 6, 2), (22, .if_icmp .ge 126, 3), (25, .aload_n 0, 1), (26, .getfield 30, 3), (29, .getfield 156, 3), (32, .iload_n 2, 1), (33, .iaload, 1), (34, .iconst 4, 1), (35, .if_icmp .ne 13, 3), (38, .aload_n 0, 1), (39, .getfield 30, 3), (42, .getfield 159, 3), (45, .goto 12, 3), (48, .aload_n 0, 1), (49, .getfield 30, 3), (52, .getfield 156, 3), (55, .iload_n 2, 1), (56, .iaload, 1), (57, .istore_n 3, 1), (58, .aload_n 0, 1), (59, .getfield 51, 3), (62, .iload_n 2, 1), (63, .ishr, 1), (64, .iconst 1, 1), (65, .iand, 1), (66, .ifCond .ne 24, 3), (69, .aload_n 0, 1), (70, .getfield 30, 3), (73, .getfield 156, 3), (76, .iload_n 2, 1), (77, .iaload, 1), (78, .aload_n 0, 1), (79, .getfield 30, 3), (82, .getfield 102, 3), (85, .iload_n 2, 1), (86, .iaload, 1), (87, .if_icmp .ne 7, 3), (90, .iconst 1, 1), (91, .goto 4, 3), (94, .iconst 0, 1), (95, .istore 4, 2), (97, .iload 4, 2), (99, .ifCond .ne 43, 3), (102, .iload_n 1, 1), (103, .aload_n 0, 1), (104, .getfield 18, 3), (107, .iconst 4, 1), (108, .aload_n 0, 1), (109, .getfield 30, 3), (112, .getfield 159, 3), (115, .imul, 1), (116, .iload_n 3, 1), (117, .iadd, 1), (118, .iaload, 1), (119, .aload_n 0, 1), (120, .getfield 18, 3), (123, .iconst 4, 1), (124, .iload_n 3, 1), (125, .imul, 1), (126, .aload_n 0, 1), (127, .getfield 30, 3), (130, .getfield 102, 3), (133, .iload_n 2, 1), (134, .iaload, 1), (135, .iadd, 1), (136, .iaload, 1), (137, .iadd, 1), (138, .invokestatic 96, 3), (141, .istore_n 1, 1), (142, .iinc 2 1, 3), (145, .goto (-137), 3), (148, .iload_n 1, 1), (149, .ireturn, 1)]  -- X3_farthest
def zi_53 : List (Nat × Instr × Nat) := [(0, .aload_n 0, 1), (1, .invokespecial 3, 3), (4, .aload_n 0, 1), (5, .sipush 1954, 3), (8, .newarray .int, 2), (10, .putfield 11, 3), (13, .aload_n 0, 1), (14, .sipush 1440, 3), (17, .newarray .int, 2), (19, .putfield 15, 3), (22, .aload_n 0, 1), (23, .sipush 402, 3), (26, .newarray .int, 2), (28, .putfield 18, 3), (31, .aload_n 0, 1), (32, .aload_n 1, 1), (33, .putfield 21, 3), (36, .return_, 1)]  -- X4_init
def zi_54 : List (Nat × Instr × Nat) := [(0, .aload_n 0, 1), (1, .getfield 11, 3), (4, .iconst 0, 1), (5, .invokestatic 25, 3), (8, .aload_n 0, 1), (9, .iconst 0, 1), (10, .putfield 31, 3), (13, .aload_n 0, 1), (14, .iconst 0, 1), (15, .putfield 35, 3), (18, .iconst 0, 1), (19, .istore 5, 2), (21, .iload_n 2, 1), (22, .ifCond .ne 13, 3), (25, .aload_n 0, 1), (26, .getfield 21, 3), (29, .invokevirtual 38, 3), (32, .goto 4, 3), (35, .iconst 1, 1), (36, .istore 6, 2), (38, .iconst 0, 1), (39, .istore 7, 2), (41, .iload 7, 2), (43, .iload 4, 2), (45, .if_icmp .gt 197, 3), (48, .iload 7, 2), (50, .sipush 400, 3), (53, .if_icmp .gt 189, 3), (56, .iload 7, 2), (58, .iload 5, 2), (60, .isub, 1), (61, .iload 6, 2), (63, .if_icmp .gt 179, 3), (66, .aload_n 0, 1), (67, .getfield 18, 3), (70, .iload 7, 2), (72, .aload_n 0, 1), (73, .getfield 31, 3), (76, .iastore, 1), (77, .iload 7, 2), (79, .ifCond .ne 11, 3), (82, .aload_n 0, 1), (83, .iload_n 1, 1), (84, .invokevirtual 44, 3), (87, .goto 10, 3), (90, .aload_n 0, 1), (91, .iload 7, 2), (93, .iload_n 2, 1), (94, .invokevirtual 48, 3), (97, .aload_n 0, 1), (98, .getfield 18, 3), (101, .iload 7, 2), (103, .iaload, 1), (104, .istore 8, 2), (106, .iload 8, 2), (108, .aload_n 0, 1), (109, .getfield 31, 3), (112, .if_icmp .ge 103, 3), (115, .iload 8, 2), (117, .aload_n 0, 1), (118, .getfield 15, 3), (121, .arraylength, 1), (122, .if_icmp .ge 93, 3), (125, .aload_n 0, 1), (126, .getfield 21, 3), (129, .aload_n 0, 1), (130, .getfield 15, 3), (133, .iload 8, 2), (135, .iaload, 1), (136, .invokevirtual 52, 3), (139, .aload_n 0, 1), (140, .getfield 21, 3), (143, .getfield 55, 3), (146, .iload_n 3, 1), (147, .iand, 1), (148, .iload_n 3, 1), (149, .if_icmp .ne 6, 3), (152, .iload 7, 2), (154, .ireturn, 1), (155, .iload_n 2, 1), (156, .iconst 1, 1), (157, .if_icmp .ne 17, 3), (160, .aload_n 0, 1), (161, .aload_n 0, 1), (162, .getfield 15, 3), (165, .iload 8, 2), (167, .iaload, 1), (168, .invokevirtual 58, 3), (171, .goto 14, 3), (174, .aload_n 0, 1), (175, .aload_n 0, 1), (176, .getfield 15, 3), (179, .iload 8, 2), (181, .iaload, 1), (182, .invokevirtual 61, 3), (185, .aload_n 0, 1), (186, .getfield 15, 3), (189, .iload 8, 2), (191, .dup2, 1), (192, .iaload, 1), (193, .aload_n 0, 1), (194, .getfield 21, 3), (197, .getfield 55, 3), (200, .bipush 16, 2), (202, .ishl, 1), (203, .ior, 1), (204, .iastore, 1), (205, .iload 7, 2), (207, .istore 5, 2), (209, .iinc 8 1, 3), (212, .goto (-106), 3), (215, .aload_n 0, 1), (216, .iload 7, 2), (218, .iconst 1, 1), (219, .iadd, 1), (220, .putfield 35, 3), (223, .aload_n 0, 1), (224, .getfield 18, 3), (227, .aload_n 0, 1), (228, .getfield 35, 3), (231, .aload_n 0, 1), (232, .getfield 31, 3), (235, .iastore, 1), (236, .iinc 7 1, 3), (239, .goto (-198), 3), (242, .iconst (-1), 1), (243, .ireturn, 1)]  -- X4_reach
def zi_55 : List (Nat × Instr × Nat) := [(0, .iload_n 1, 1), (1, .ifCond .lt 21, 3), (4, .iload_n 1, 1), (5, .ldc 64, 2), (7, .if_icmp .ge 15, 3), (10, .aload_n 0, 1), (11, .getfield 31, 3), (14, .aload_n 0, 1), (15, .getfield 15, 3), (18, .arraylength, 1), (19, .if_icmp .lt 4, 3), (22, .return_, 1), (23, .iconst 1, 1), (24, .iload_n 1, 1), (25, .bipush 31, 2), (27, .iand, 1), (28, .ishl, 1), (29, .istore_n 2, 1), (30, .aload_n 0, 1), (31, .getfield 11, 3), (34, .iload_n 1, 1), (35, .iconst 5, 1), (36, .ishr, 1), (37, .iaload, 1), (38, .iload_n 2, 1), (39, .iand, 1), (40, .ifCond .ne 35, 3), (43, .aload_n 0, 1), (44, .getfield 11, 3), (47, .iload_n 1, 1), (48, .iconst 5, 1), (49, .ishr, 1), (50, .dup2, 1), (51, .iaload, 1), (52, .iload_n 2, 1), (53, .ior, 1), (54, .iastore, 1), (55, .aload_n 0, 1), (56, .getfield 15, 3), (59, .aload_n 0, 1), (60, .getfield 31, 3), (63, .iload_n 1, 1), (64, .iastore, 1), (65, .aload_n 0, 1), (66, .dup, 1), (67, .getfield 31, 3), (70, .iconst 1, 1), (71, .iadd, 1), (72, .putfield 31, 3), (75, .return_, 1)]  -- X4_add
def zi_56 : List (Nat × Instr × Nat) := [(0, .iconst 0, 1), (1, .istore_n 2, 1), (2, .iload_n 2, 1), (3, .iconst 4, 1), (4, .if_icmp .ge 22, 3), (7, .aload_n 0, 1), (8, .aload_n 0, 1), (9, .getfield 21, 3), (12, .iload_n 1, 1), (13, .iload_n 2, 1), (14, .invokevirtual 65, 3), (17, .invokevirtual 44, 3), (20, .iinc 2 1, 3), (23, .goto (-21), 3), (26, .return_, 1)]  -- X4_addRowed
def zi_57 : List (Nat × Instr × Nat) := [(0, .iconst 0, 1), (1, .istore_n 2, 1), (2, .iload_n 2, 1), (3, .aload_n 0, 1), (4, .getfield 21, 3), (7, .getfield 69, 3), (10, .getfield 73, 3), (13, .if_icmp .ge 68, 3), (16, .iconst 0, 1), (17, .istore_n 3, 1), (18, .iload_n 3, 1), (19, .aload_n 0, 1), (20, .getfield 21, 3), (23, .getfield 69, 3), (26, .getfield 73, 3), (29, .if_icmp .ge 46, 3), (32, .aload_n 0, 1), (33, .getfield 21, 3), (36, .iload_n 2, 1), (37, .invokevirtual 78, 3), (40, .ifCond .eq 35, 3), (43, .aload_n 0, 1), (44, .getfield 21, 3), (47, .iload_n 2, 1), (48, .iload_n 3, 1), (49, .invokevirtual 82, 3), (52, .ifCond .eq 17, 3), (55, .aload_n 0, 1), (56, .aload_n 0, 1), (57, .getfield 21, 3), (60, .iload_n 1, 1), (61, .iload_n 2, 1), (62, .iload_n 3, 1), (63, .invokevirtual 86, 3), (66, .invokevirtual 44, 3), (69, .iinc 3 1, 3), (72, .goto (-54), 3), (75, .iinc 2 1, 3), (78, .goto (-76), 3), (81, .return_, 1)]  -- X4_addSwapped
def zi_58 : List (Nat × Instr × Nat) := [(0, .iload_n 2, 1), (1, .iconst 1, 1), (2, .if_icmp .ne 64, 3), (5, .aload_n 0, 1), (6, .getfield 18, 3), (9, .iload_n 1, 1), (10, .iconst 1, 1), (11, .isub, 1), (12, .iaload, 1), (13, .istore_n 3, 1), (14, .iload_n 3, 1), (15, .aload_n 0, 1), (16, .getfield 18, 3), (19, .iload_n 1, 1), (20, .iaload, 1), (21, .if_icmp .ge 44, 3), (24, .iload_n 3, 1), (25, .aload_n 0, 1), (26, .getfield 15, 3), (29, .arraylength, 1), (30, .if_icmp .ge 35, 3), (33, .aload_n 0, 1), (34, .getfield 15, 3), (37, .iload_n 3, 1), (38, .iaload, 1), (39, .ldc 90, 2), (41, .iand, 1), (42, .istore 4, 2), (44, .aload_n 0, 1), (45, .getfield 21, 3), (48, .iload 4, 2), (50, .invokevirtual 52, 3), (53, .aload_n 0, 1), (54, .iload 4, 2), (56, .invokevirtual 61, 3), (59, .iinc 3 1, 3), (62, .goto (-48), 3), (65, .return_, 1), (66, .iconst 0, 1), (67, .istore_n 3, 1), (68, .iload_n 3, 1), (69, .iconst 4, 1), (70, .if_icmp .ge 77, 3), (73, .iconst 0, 1), (74, .istore 4, 2), (76, .iload 4, 2), (78, .iconst 4, 1), (79, .if_icmp .ge 62, 3), (82, .iload_n 2, 1), (83, .ifCond .ne 20, 3), (86, .aload_n 0, 1), (87, .getfield 21, 3), (90, .getfield 91, 3), (93, .iconst 4, 1), (94, .iload_n 3, 1), (95, .imul, 1), (96, .iload 4, 2), (98, .iadd, 1), (99, .iaload, 1), (100, .goto 4, 3), (103, .iconst 1, 1), (104, .istore 5, 2), (106, .iload_n 3, 1), (107, .iload 4, 2), (109, .if_icmp .eq 26, 3), (112, .iload 5, 2), (114, .iconst 1, 1), (115, .if_icmp .lt 20, 3), (118, .iload 5, 2), (120, .iload_n 1, 1), (121, .if_icmp .gt 14, 3), (124, .aload_n 0, 1), (125, .iload_n 3, 1), (126, .iload 4, 2), (128, .iload_n 1, 1), (129, .iload 5, 2), (131, .isub, 1), (132, .invokevirtual 94, 3), (135, .iinc 4 1, 3), (138, .goto (-62), 3), (141, .iinc 3 1, 3), (144, .goto (-76), 3), (147, .return_, 1)]  -- X4_comeTo
def zi_59 : List (Nat × Instr × Nat) := [(0, .iload_n 3, 1), (1, .ifCond .lt 14, 3), (4, .iload_n 3, 1), (5, .iconst 1, 1), (6, .iadd, 1), (7, .aload_n 0, 1), (8, .getfield 18, 3), (11, .arraylength, 1), (12, .if_icmp .lt 4, 3), (15, .return_, 1), (16, .aload_n 0, 1), (17, .getfield 18, 3), (20, .iload_n 3, 1), (21, .iaload, 1), (22, .istore 4, 2), (24, .iload 4, 2), (26, .aload_n 0, 1), (27, .getfield 18, 3), (30, .iload_n 3, 1), (31, .iconst 1, 1), (32, .iadd, 1), (33, .iaload, 1), (34, .if_icmp .ge 49, 3), (37, .iload 4, 2), (39, .aload_n 0, 1), (40, .getfield 15, 3), (43, .arraylength, 1), (44, .if_icmp .ge 39, 3), (47, .aload_n 0, 1), (48, .getfield 15, 3), (51, .iload 4, 2), (53, .iaload, 1), (54, .ldc 90, 2), (56, .iand, 1), (57, .istore 5, 2), (59, .iload 5, 2), (61, .iconst 3, 1), (62, .iand, 1), (63, .iload_n 1, 1), (64, .if_icmp .ne 13, 3), (67, .aload_n 0, 1), (68, .iload 5, 2), (70, .iload_n 1, 1), (71, .isub, 1), (72, .iload_n 2, 1), (73, .iadd, 1), (74, .invokevirtual 44, 3), (77, .iinc 4 1, 3), (80, .goto (-56), 3), (83, .return_, 1)]  -- X4_addRowedFrom
def zi_60 : List (Nat × Instr × Nat) := [(0, .iconst 0, 1), (1, .istore_n 2, 1), (2, .iload_n 2, 1), (3, .aload_n 0, 1), (4, .getfield 35, 3), (7, .if_icmp .ge 71, 3), (10, .iload_n 2, 1), (11, .iconst 1, 1), (12, .iadd, 1), (13, .aload_n 0, 1), (14, .getfield 18, 3), (17, .arraylength, 1), (18, .if_icmp .ge 60, 3), (21, .aload_n 0, 1), (22, .getfield 18, 3), (25, .iload_n 2, 1), (26, .iaload, 1), (27, .istore_n 3, 1), (28, .iload_n 3, 1), (29, .aload_n 0, 1), (30, .getfield 18, 3), (33, .iload_n 2, 1), (34, .iconst 1, 1), (35, .iadd, 1), (36, .iaload, 1), (37, .if_icmp .ge 35, 3), (40, .iload_n 3, 1), (41, .aload_n 0, 1), (42, .getfield 15, 3), (45, .arraylength, 1), (46, .if_icmp .ge 26, 3), (49, .aload_n 0, 1), (50, .getfield 15, 3), (53, .iload_n 3, 1), (54, .iaload, 1), (55, .bipush 16, 2), (57, .ishr, 1), (58, .iload_n 1, 1), (59, .iand, 1), (60, .iload_n 1, 1), (61, .if_icmp .ne 5, 3), (64, .iload_n 2, 1), (65, .ireturn, 1), (66, .iinc 3 1, 3), (69, .goto (-41), 3), (72, .iinc 2 1, 3), (75, .goto (-73), 3), (78, .iconst (-1), 1), (79, .ireturn, 1)]  -- X4_least
def zi_61 : List (Nat × Instr × Nat) := [(0, .aload_n 0, 1), (1, .aload_n 0, 1), (2, .getfield 21, 3), (5, .invokevirtual 98, 3), (8, .invokevirtual 101, 3), (11, .ireturn, 1)]  -- X4_leastForAll
def zi_62 : List (Nat × Instr × Nat) := [(0, .iconst 0, 1), (1, .istore_n 1, 1), (2, .iconst 0, 1), (3, .istore_n 2, 1), (4, .iload_n 2, 1), (5, .aload_n 0, 1), (6, .getfield 31, 3), (9, .if_icmp .ge 30, 3), (12, .iload_n 2, 1), (13, .aload_n 0, 1), (14, .getfield 15, 3), (17, .arraylength, 1), (18, .if_icmp .ge 21, 3), (21, .iload_n 1, 1), (22, .aload_n 0, 1), (23, .getfield 15, 3), (26, .iload_n 2, 1), (27, .iaload, 1), (28, .bipush 16, 2), (30, .ishr, 1), (31, .ior, 1), (32, .istore_n 1, 1), (33, .iinc 2 1, 3), (36, .goto (-32), 3), (39, .iload_n 1, 1), (40, .ireturn, 1)]  -- X4_everAtTo
def zi_63 : List (Nat × Instr × Nat) := [(0, .aload_n 0, 1), (1, .iconst (-1), 1), (2, .putfield 105, 3), (5, .aload_n 0, 1), (6, .iconst 0, 1), (7, .putfield 108, 3), (10, .iconst 0, 1), (11, .istore_n 2, 1), (12, .iload_n 2, 1), (13, .aload_n 0, 1), (14, .getfield 35, 3), (17, .if_icmp .ge 49, 3), (20, .iload_n 2, 1), (21, .iload_n 1, 1), (22, .if_icmp .gt 44, 3), (25, .iload_n 2, 1), (26, .iconst 1, 1), (27, .iadd, 1), (28, .aload_n 0, 1), (29, .getfield 18, 3), (32, .arraylength, 1), (33, .if_icmp .ge 33, 3), (36, .aload_n 0, 1), (37, .iload_n 2, 1), (38, .invokevirtual 111, 3), (41, .istore_n 3, 1), (42, .iload_n 3, 1), (43, .aload_n 0, 1), (44, .getfield 105, 3), (47, .if_icmp .le 13, 3), (50, .aload_n 0, 1), (51, .iload_n 3, 1), (52, .putfield 105, 3), (55, .aload_n 0, 1), (56, .iload_n 2, 1), (57, .putfield 108, 3), (60, .iinc 2 1, 3), (63, .goto (-51), 3), (66, .return_, 1)]  -- X4_findBest
def zi_64 : List (Nat × Instr × Nat) := [(0, .iconst (-1), 1), (1, .istore_n 2, 1), (2, .iconst (-1), 1), (3, .istore_n 3, 1), (4, .aload_n 0, 1), (5, .getfield 18, 3), (8, .iload_n 1, 1), (9, .iaload, 1), (10, .istore 4, 2), (12, .iload 4, 2), (14, .aload_n 0, 1), (15, .getfield 18, 3), (18, .iload_n 1, 1), (19, .iconst 1, 1), (20, .iadd, 1), (21, .iaload, 1), (22, .if_icmp .ge 52, 3), (25, .iload 4, 2), (27, .aload_n 0, 1), (28, .getfield 15, 3), (31, .arraylength, 1), (32, .if_icmp .ge 42, 3), (35, .aload_n 0, 1), (36, .getfield 15, 3), (39, .iload 4, 2), (41, .iaload, 1), (42, .bipush 16, 2), (44, .ishr, 1), (45, .istore 5, 2), (47, .iload 5, 2), (49, .iload_n 3, 1), (50, .if_icmp .eq 18, 3), (53, .iload_n 2, 1), (54, .aload_n 0, 1), (55, .iload 5, 2), (57, .iload_n 1, 1), (58, .invokevirtual 114, 3), (61, .invokestatic 117, 3), (64, .istore_n 2, 1), (65, .iload 5, 2), (67, .istore_n 3, 1), (68, .iinc 4 1, 3), (71, .goto (-59), 3), (74, .iload_n 2, 1), (75, .ireturn, 1)]  -- X4_mostGainAt
def zi_65 : List (Nat × Instr × Nat) := [(0, .iconst 0, 1), (1, .istore_n 3, 1), (2, .iconst 0, 1), (3, .istore 4, 2), (5, .iload 4, 2), (7, .bipush 6, 2), (9, .if_icmp .ge 31, 3), (12, .iload_n 1, 1), (13, .iload 4, 2), (15, .ishr, 1), (16, .iconst 1, 1), (17, .iand, 1), (18, .ifCond .eq 16, 3), (21, .iload_n 3, 1), (22, .aload_n 0, 1), (23, .getfield 21, 3), (26, .iload 4, 2), (28, .iload_n 2, 1), (29, .invokevirtual 122, 3), (32, .iadd, 1), (33, .istore_n 3, 1), (34, .iinc 4 1, 3), (37, .goto (-32), 3), (40, .iload_n 3, 1), (41, .ireturn, 1)]  -- X4_gainOfAll
def zi_66 : List (Nat × Instr × Nat) := [(0, .aload_n 0, 1), (1, .invokespecial 3, 3), (4, .aload_n 0, 1), (5, .iconst (-1), 1), (6, .putfield 9, 3), (9, .aload_n 0, 1), (10, .bipush 40, 2), (12, .newarray .int, 2), (14, .putfield 15, 3), (17, .return_, 1)]  -- X5_init
def zi_67 : List (Nat × Instr × Nat) := [(0, .aload_n 0, 1), (1, .iload_n 1, 1), (2, .putfield 9, 3), (5, .aload_n 0, 1), (6, .iload_n 1, 1), (7, .iconst (-1), 1), (8, .if_icmp .ne 7, 3), (11, .iconst 0, 1), (12, .goto 4, 3), (15, .iload_n 2, 1), (16, .putfield 19, 3), (19, .aload_n 0, 1), (20, .getfield 15, 3), (23, .iconst 0, 1), (24, .invokestatic 22, 3), (27, .return_, 1)]  -- X5_become
def zi_68 : List (Nat × Instr × Nat) := [(0, .iload_n 1, 1), (1, .ifCond .lt 24, 3), (4, .iload_n 1, 1), (5, .aload_n 0, 1), (6, .getfield 19, 3), (9, .if_icmp .ge 16, 3), (12, .iload_n 1, 1), (13, .aload_n 0, 1), (14, .getfield 15, 3), (17, .arraylength, 1), (18, .if_icmp .ge 7, 3), (21, .iconst 1, 1), (22, .goto 4, 3), (25, .iconst 0, 1), (26, .ireturn, 1)]  -- X5_has
def zi_69 : List (Nat × Instr × Nat) := [(0, .iload_n 1, 1), (1, .ifCond .lt 29, 3), (4, .iload_n 2, 1), (5, .ifCond .lt 25, 3), (8, .iload_n 1, 1), (9, .aload_n 0, 1), (10, .getfield 19, 3), (13, .if_icmp .gt 17, 3), (16, .iload_n 2, 1), (17, .aload_n 0, 1), (18, .getfield 19, 3), (21, .iload_n 1, 1), (22, .isub, 1), (23, .if_icmp .gt 7, 3), (26, .iconst 1, 1), (27, .goto 4, 3), (30, .iconst 0, 1), (31, .ireturn, 1)]  -- X5_hasRun
def zi_70 : List (Nat × Instr × Nat) := [(0, .aload_n 0, 1), (1, .iload_n 1, 1), (2, .invokevirtual 28, 3), (5, .ifCond .eq 12, 3), (8, .aload_n 0, 1), (9, .getfield 15, 3), (12, .iload_n 1, 1), (13, .iaload, 1), (14, .goto 4, 3), (17, .iconst 0, 1), (18, .ireturn, 1)]  -- X5_read
def zi_71 : List (Nat × Instr × Nat) := [(0, .aload_n 0, 1), (1, .iload_n 1, 1), (2, .invokevirtual 28, 3), (5, .ifCond .eq 35, 3), (8, .aload_n 0, 1), (9, .getfield 15, 3), (12, .iload_n 1, 1), (13, .aload_n 0, 1), (14, .getfield 9, 3), (17, .ifCond .ne 8, 3), (20, .iload_n 2, 1), (21, .i2b, 1), (22, .goto 17, 3), (25, .aload_n 0, 1), (26, .getfield 9, 3), (29, .iconst 1, 1), (30, .if_icmp .ne 8, 3), (33, .iload_n 2, 1), (34, .i2s, 1), (35, .goto 4, 3), (38, .iload_n 2, 1), (39, .iastore, 1), (40, .return_, 1)]  -- X5_write
def zi_72 : List (Nat × Instr × Nat) := [(0, .aload_n 0, 1), (1, .invokespecial 3, 3), (4, .aload_n 0, 1), (5, .bipush 16, 2), (7, .newarray .int, 2), (9, .putfield 9, 3), (12, .aload_n 0, 1), (13, .bipush 16, 2), (15, .newarray .int, 2), (17, .putfield 15, 3), (20, .aload_n 0, 1), (21, .bipush 16, 2), (23, .newarray .int, 2), (25, .putfield 18, 3), (28, .aload_n 0, 1), (29, .aload_n 1, 1), (30, .putfield 21, 3), (33, .return_, 1)]  -- X6_init
def zi_73 : List (Nat × Instr × Nat) := [(0, .aload_n 0, 1), (1, .getfield 25, 3), (4, .ifCond .lt 52, 3), (7, .aload_n 0, 1), (8, .getfield 25, 3), (11, .bipush 16, 2), (13, .if_icmp .ge 43, 3), (16, .aload_n 0, 1), (17, .getfield 9, 3), (20, .aload_n 0, 1), (21, .getfield 25, 3), (24, .iload_n 1, 1), (25, .iastore, 1), (26, .aload_n 0, 1), (27, .getfield 15, 3), (30, .aload_n 0, 1), (31, .getfield 25, 3), (34, .iload_n 2, 1), (35, .iastore, 1), (36, .aload_n 0, 1), (37, .getfield 18, 3), (40, .aload_n 0, 1), (41, .getfield 25, 3), (44, .iload_n 3, 1), (45, .iastore, 1), (46, .aload_n 0, 1), (47, .dup, 1), (48, .getfield 25, 3), (51, .iconst 1, 1), (52, .iadd, 1), (53, .putfield 25, 3), (56, .return_, 1)]  -- X6_add
def zi_74 : List (Nat × Instr × Nat) := [(0, .aload_n 0, 1), (1, .aload_n 0, 1), (2, .getfield 21, 3), (5, .getfield 29, 3), (8, .invokevirtual 35, 3), (11, .putfield 41, 3), (14, .aload_n 0, 1), (15, .iconst 0, 1), (16, .putfield 43, 3), (19, .aload_n 0, 1), (20, .iconst (-1), 1), (21, .putfield 46, 3), (24, .aload_n 0, 1), (25, .iconst 0, 1), (26, .putfield 49, 3), (29, .aload_n 0, 1), (30, .iconst 0, 1), (31, .putfield 52, 3), (34, .aload_n 0, 1), (35, .getfield 21, 3), (38, .aload_n 0, 1), (39, .getfield 41, 3), (42, .invokevirtual 55, 3), (45, .return_, 1)]  -- X6_begin
def zi_75 : List (Nat × Instr × Nat) := [(0, .aload_n 0, 1), (1, .invokevirtual 59, 3), (4, .iconst 0, 1), (5, .istore_n 2, 1), (6, .iload_n 2, 1), (7, .iload_n 1, 1), (8, .if_icmp .ge 64, 3), (11, .iload_n 2, 1), (12, .aload_n 0, 1), (13, .getfield 25, 3), (16, .if_icmp .ge 56, 3), (19, .iload_n 2, 1), (20, .bipush 16, 2), (22, .if_icmp .ge 50, 3), (25, .aload_n 0, 1), (26, .aload_n 0, 1), (27, .getfield 9, 3), (30, .iload_n 2, 1), (31, .iaload, 1), (32, .aload_n 0, 1), (33, .getfield 15, 3), (36, .iload_n 2, 1), (37, .iaload, 1), (38, .aload_n 0, 1), (39, .getfield 18, 3), (42, .iload_n 2, 1), (43, .iaload, 1), (44, .invokevirtual 62, 3), (47, .ifCond .ne 15, 3), (50, .aload_n 0, 1), (51, .getfield 46, 3), (54, .ifCond .ge 8, 3), (57, .aload_n 0, 1), (58, .iload_n 2, 1), (59, .putfield 46, 3), (62, .aload_n 0, 1), (63, .invokevirtual 66, 3), (66, .iinc 2 1, 3), (69, .goto (-63), 3), (72, .return_, 1)]  -- X6_follow
def zi_76 : List (Nat × Instr × Nat) := [(0, .iload_n 1, 1), (1, .iconst 2, 1), (2, .if_icmp .ne 15, 3), (5, .aload_n 0, 1), (6, .dup, 1), (7, .getfield 43, 3), (10, .iload_n 2, 1), (11, .iadd, 1), (12, .putfield 43, 3), (15, .iconst 1, 1), (16, .ireturn, 1), (17, .iload_n 1, 1), (18, .ifCond .ne 29, 3), (21, .iload_n 2, 1), (22, .aload_n 0, 1), (23, .getfield 21, 3), (26, .getfield 69, 3), (29, .if_icmp .eq 7, 3), (32, .iconst 1, 1), (33, .goto 4, 3), (36, .iconst 0, 1), (37, .istore 4, 2), (39, .aload_n 0, 1), (40, .iload_n 2, 1), (41, .invokevirtual 72, 3), (44, .iload 4, 2), (46, .ireturn, 1), (47, .aload_n 0, 1), (48, .getfield 21, 3), (51, .iload_n 2, 1), (52, .iload_n 3, 1), (53, .invokevirtual 75, 3), (56, .istore 4, 2), (58, .iload 4, 2), (60, .ifCond .eq 9, 3), (63, .aload_n 0, 1), (64, .iload_n 2, 1), (65, .iload_n 3, 1), (66, .invokevirtual 79, 3), (69, .iload 4, 2), (71, .ireturn, 1)]  -- X6_done
def zi_77 : List (Nat × Instr × Nat) := [(0, .iload_n 1, 1), (1, .invokestatic 83, 3), (4, .ifCond .eq 71, 3), (7, .aload_n 0, 1), (8, .getfield 21, 3), (11, .getfield 69, 3), (14, .invokestatic 83, 3), (17, .ifCond .eq 58, 3), (20, .aload_n 0, 1), (21, .dup, 1), (22, .getfield 43, 3), (25, .aload_n 0, 1), (26, .getfield 21, 3), (29, .getfield 87, 3), (32, .iconst 4, 1), (33, .aload_n 0, 1), (34, .getfield 21, 3), (37, .getfield 69, 3), (40, .imul, 1), (41, .iload_n 1, 1), (42, .iadd, 1), (43, .iaload, 1), (44, .iadd, 1), (45, .putfield 43, 3), (48, .aload_n 0, 1), (49, .aload_n 0, 1), (50, .getfield 21, 3), (53, .aload_n 0, 1), (54, .getfield 41, 3), (57, .iload_n 1, 1), (58, .invokevirtual 89, 3), (61, .putfield 41, 3), (64, .aload_n 0, 1), (65, .getfield 21, 3), (68, .aload_n 0, 1), (69, .getfield 41, 3), (72, .invokevirtual 55, 3), (75, .return_, 1)]  -- X6_row
def zi_78 : List (Nat × Instr × Nat) := [(0, .aload_n 0, 1), (1, .aload_n 0, 1), (2, .getfield 21, 3), (5, .aload_n 0, 1), (6, .getfield 41, 3), (9, .iload_n 1, 1), (10, .iload_n 2, 1), (11, .invokevirtual 93, 3), (14, .putfield 41, 3), (17, .aload_n 0, 1), (18, .getfield 21, 3), (21, .aload_n 0, 1), (22, .getfield 41, 3), (25, .invokevirtual 55, 3), (28, .return_, 1)]  -- X6_swap
def zi_79 : List (Nat × Instr × Nat) := [(0, .iconst 0, 1), (1, .istore_n 1, 1), (2, .iload_n 1, 1), (3, .bipush 6, 2), (5, .if_icmp .ge 51, 3), (8, .aload_n 0, 1), (9, .getfield 21, 3), (12, .getfield 97, 3), (15, .aload_n 0, 1), (16, .getfield 52, 3), (19, .iconst (-1), 1), (20, .ixor, 1), (21, .iand, 1), (22, .iload_n 1, 1), (23, .ishr, 1), (24, .iconst 1, 1), (25, .iand, 1), (26, .ifCond .eq 24, 3), (29, .aload_n 0, 1), (30, .dup, 1), (31, .getfield 49, 3), (34, .aload_n 0, 1), (35, .getfield 21, 3), (38, .iload_n 1, 1), (39, .aload_n 0, 1), (40, .getfield 43, 3), (43, .invokevirtual 100, 3), (46, .iadd, 1), (47, .putfield 49, 3), (50, .iinc 1 1, 3), (53, .goto (-51), 3), (56, .aload_n 0, 1), (57, .dup, 1), (58, .getfield 52, 3), (61, .aload_n 0, 1), (62, .getfield 21, 3), (65, .getfield 97, 3), (68, .ior, 1), (69, .putfield 52, 3), (72, .return_, 1)]  -- X6_addGain
def zi_80 : List (Nat × Instr × Nat) := [(0, .aload_n 0, 1), (1, .invokevirtual 59, 3), (4, .iload_n 1, 1), (5, .i2l, 1), (6, .lconst 1, 1), (7, .ladd, 1), (8, .lstore_n 3, 1), (9, .iconst 0, 1), (10, .istore 5, 2), (12, .iload 5, 2), (14, .iload_n 2, 1), (15, .if_icmp .ge 45, 3), (18, .lload_n 3, 1), (19, .ldc2_w 103, 3), (22, .lmul, 1), (23, .ldc2_w 105, 3), (26, .lrem, 1), (27, .lstore_n 3, 1), (28, .aload_n 0, 1), (29, .getfield 21, 3), (32, .invokevirtual 107, 3), (35, .aload_n 0, 1), (36, .lload_n 3, 1), (37, .aload_n 0, 1), (38, .getfield 21, 3), (41, .getfield 110, 3), (44, .iconst 4, 1), (45, .iadd, 1), (46, .iconst 1, 1), (47, .isub, 1), (48, .i2l, 1), (49, .lrem, 1), (50, .l2i, 1), (51, .invokevirtual 113, 3), (54, .iinc 5 1, 3), (57, .goto (-45), 3), (60, .return_, 1)]  -- X6_draw
def zi_81 : List (Nat × Instr × Nat) := [(0, .iload_n 1, 1), (1, .ifCond .lt 49, 3), (4, .iload_n 1, 1), (5, .aload_n 0, 1), (6, .getfield 21, 3), (9, .getfield 110, 3), (12, .if_icmp .ge 38, 3), (15, .iload_n 1, 1), (16, .aload_n 0, 1), (17, .getfield 21, 3), (20, .getfield 116, 3), (23, .arraylength, 1), (24, .if_icmp .ge 26, 3), (27, .aload_n 0, 1), (28, .aload_n 0, 1), (29, .getfield 21, 3), (32, .getfield 116, 3), (35, .iload_n 1, 1), (36, .iaload, 1), (37, .aload_n 0, 1), (38, .getfield 21, 3), (41, .getfield 119, 3), (44, .iload_n 1, 1), (45, .iaload, 1), (46, .invokevirtual 79, 3), (49, .return_, 1), (50, .iload_n 1, 1), (51, .aload_n 0, 1), (52, .getfield 21, 3), (55, .getfield 110, 3), (58, .isub, 1), (59, .istore_n 2, 1), (60, .aload_n 0, 1), (61, .iload_n 2, 1), (62, .aload_n 0, 1), (63, .getfield 21, 3), (66, .getfield 69, 3), (69, .if_icmp .ge 7, 3), (72, .iload_n 2, 1), (73, .goto 6, 3), (76, .iload_n 2, 1), (77, .iconst 1, 1), (78, .iadd, 1), (79, .invokevirtual 72, 3), (82, .return_, 1)]  -- X6_choose
def zi_82 : List (Nat × Instr × Nat) := [(0, .aload_n 0, 1), (1, .invokespecial 1, 3), (4, .aload_n 0, 1), (5, .new 7, 3), (8, .dup, 1), (9, .invokespecial 9, 3), (12, .putfield 10, 3), (15, .aload_n 0, 1), (16, .new 7, 3), (19, .dup, 1), (20, .invokespecial 9, 3), (23, .putfield 16, 3), (26, .aload_n 0, 1), (27, .bipush 6, 2), (29, .anewarray 19, 3), (32, .putfield 21, 3), (35, .aload_n 0, 1), (36, .iconst 4, 1), (37, .anewarray 25, 3), (40, .putfield 27, 3), (43, .iconst 0, 1), (44, .istore_n 1, 1), (45, .iload_n 1, 1), (46, .aload_n 0, 1), (47, .getfield 21, 3), (50, .arraylength, 1), (51, .if_icmp .ge 22, 3), (54, .aload_n 0, 1), (55, .getfield 21, 3), (58, .iload_n 1, 1), (59, .new 19, 3), (62, .dup, 1), (63, .invokespecial 31, 3), (66, .aastore, 1), (67, .iinc 1 1, 3), (70, .goto (-25), 3), (73, .iconst 0, 1), (74, .istore_n 1, 1), (75, .iload_n 1, 1), (76, .aload_n 0, 1), (77, .getfield 27, 3), (80, .arraylength, 1), (81, .if_icmp .ge 22, 3), (84, .aload_n 0, 1), (85, .getfield 27, 3), (88, .iload_n 1, 1), (89, .new 25, 3), (92, .dup, 1), (93, .invokespecial 32, 3), (96, .aastore, 1), (97, .iinc 1 1, 3), (100, .goto (-25), 3), (103, .aload_n 0, 1), (104, .new 33, 3), (107, .dup, 1), (108, .aload_n 0, 1), (109, .getfield 21, 3), (112, .iconst 0, 1), (113, .aaload, 1), (114, .invokespecial 35, 3), (117, .putfield 38, 3), (120, .iconst 0, 1), (121, .istore_n 1, 1), (122, .iload_n 1, 1), (123, .ldc 42, 2), (125, .invokevirtual 44, 3), (128, .if_icmp .ge 22, 3), (131, .aload_n 0, 1), (132, .getfield 38, 3), (135, .ldc 42, 2), (137, .iload_n 1, 1), (138, .invokevirtual 50, 3), (141, .invokevirtual 54, 3), (144, .iinc 1 1, 3), (147, .goto (-25), 3), (150, .aload_n 0, 1), (151, .getfield 38, 3), (154, .aload_n 0, 1), (155, .getfield 21, 3), (158, .iconst 0, 1), (159, .aaload, 1), (160, .invokevirtual 58, 3), (163, .pop, 1), (164, .aload_n 0, 1), (165, .getfield 38, 3), (168, .iconst 0, 1), (169, .putfield 62, 3), (172, .aload_n 0, 1), (173, .iconst 1, 1), (174, .putfield 66, 3), (177, .aload_n 0, 1), (178, .new 69, 3), (181, .dup, 1), (182, .aload_n 0, 1), (183, .getfield 10, 3), (186, .aload_n 0, 1), (187, .getfield 21, 3), (190, .iconst 0, 1), (191, .aaload, 1), (192, .invokespecial 71, 3), (195, .putfield 74, 3), (198, .aload_n 0, 1), (199, .new 78, 3), (202, .dup, 1), (203, .aload_n 0, 1), (204, .getfield 74, 3), (207, .invokespecial 80, 3), (210, .putfield 83, 3), (213, .aload_n 0, 1), (214, .new 87, 3), (217, .dup, 1), (218, .aload_n 0, 1), (219, .getfield 74, 3), (222, .invokespecial 89, 3), (225, .putfield 90, 3), (228, .return_, 1)]  -- X7_init
def zi_83 : List (Nat × Instr × Nat) := [(0, .iload_n 1, 1), (1, .invokestatic 94, 3), (4, .ifCond .eq 15, 3), (7, .iload_n 2, 1), (8, .invokestatic 94, 3), (11, .ifCond .eq 8, 3), (14, .iload_n 1, 1), (15, .iload_n 2, 1), (16, .if_icmp .ne 5, 3), (19, .iconst (-1), 1), (20, .ireturn, 1), (21, .iload_n 3, 1), (22, .iconst 1, 1), (23, .if_icmp .lt 9, 3), (26, .iload_n 3, 1), (27, .bipush 9, 2), (29, .if_icmp .le 6, 3), (32, .bipush (-2), 2), (34, .ireturn, 1), (35, .aload_n 0, 1), (36, .iconst 0, 1), (37, .putfield 98, 3), (40, .aload_n 0, 1), (41, .getfield 10, 3), (44, .iload_n 1, 1), (45, .iload_n 2, 1), (46, .iload_n 3, 1), (47, .invokevirtual 102, 3), (50, .ireturn, 1)]  -- X7_far
def zi_84 : List (Nat × Instr × Nat) := [(0, .iload_n 1, 1), (1, .invokestatic 94, 3), (4, .ifCond .ne 6, 3), (7, .bipush (-2), 2), (9, .ireturn, 1), (10, .aload_n 0, 1), (11, .iconst 0, 1), (12, .putfield 98, 3), (15, .aload_n 0, 1), (16, .getfield 10, 3), (19, .getfield 106, 3), (22, .istore_n 2, 1), (23, .aload_n 0, 1), (24, .getfield 10, 3), (27, .iload_n 1, 1), (28, .putfield 106, 3), (31, .iload_n 2, 1), (32, .ireturn, 1)]  -- X7_moor
def zi_85 : List (Nat × Instr × Nat) := [(0, .iload_n 1, 1), (1, .tableswitch 100 0 6 #[43, 51, 59, 71, 79, 84, 92], 43), (44, .aload_n 0, 1), (45, .getfield 10, 3), (48, .getfield 106, 3), (51, .ireturn, 1), (52, .aload_n 0, 1), (53, .getfield 10, 3), (56, .getfield 109, 3), (59, .ireturn, 1), (60, .aload_n 0, 1), (61, .getfield 10, 3), (64, .iconst 4, 1), (65, .invokevirtual 112, 3), (68, .invokestatic 116, 3), (71, .ireturn, 1), (72, .aload_n 0, 1), (73, .getfield 90, 3), (76, .getfield 121, 3), (79, .ireturn, 1), (80, .aload_n 0, 1), (81, .getfield 66, 3), (84, .ireturn, 1), (85, .aload_n 0, 1), (86, .getfield 10, 3), (89, .getfield 124, 3), (92, .ireturn, 1), (93, .aload_n 0, 1), (94, .getfield 38, 3), (97, .getfield 62, 3), (100, .ireturn, 1), (101, .bipush (-2), 2), (103, .ireturn, 1)]  -- X7_count
def zi_86 : List (Nat × Instr × Nat) := [(0, .iload_n 1, 1), (1, .iconst 1, 1), (2, .if_icmp .lt 46, 3), (5, .iload_n 1, 1), (6, .iconst 5, 1), (7, .if_icmp .gt 41, 3), (10, .iload_n 2, 1), (11, .invokestatic 127, 3), (14, .ifCond .eq 34, 3), (17, .iload_n 3, 1), (18, .invokestatic 127, 3), (21, .ifCond .eq 27, 3), (24, .iload 4, 2), (26, .invokestatic 127, 3), (29, .ifCond .eq 19, 3), (32, .iload 5, 2), (34, .invokestatic 127, 3), (37, .ifCond .eq 11, 3), (40, .iload 6, 2), (42, .invokestatic 127, 3), (45, .ifCond .ne 6, 3), (48, .bipush (-2), 2), (50, .ireturn, 1), (51, .aload_n 0, 1), (52, .getfield 38, 3), (55, .getfield 62, 3), (58, .iload_n 1, 1), (59, .iadd, 1), (60, .sipush 160, 3), (63, .if_icmp .le 6, 3), (66, .bipush (-4), 2), (68, .ireturn, 1), (69, .iconst 0, 1), (70, .istore 7, 2), (72, .iload 7, 2), (74, .iload_n 1, 1), (75, .if_icmp .ge 59, 3), (78, .aload_n 0, 1), (79, .getfield 38, 3), (82, .iload 7, 2), (84, .ifCond .ne 7, 3), (87, .iload_n 2, 1), (88, .goto 37, 3), (91, .iload 7, 2), (93, .iconst 1, 1), (94, .if_icmp .ne 7, 3), (97, .iload_n 3, 1), (98, .goto 27, 3), (101, .iload 7, 2), (103, .iconst 2, 1), (104, .if_icmp .ne 8, 3), (107, .iload 4, 2), (109, .goto 16, 3), (112, .iload 7, 2), (114, .iconst 3, 1), (115, .if_icmp .ne 8, 3), (118, .iload 5, 2), (120, .goto 5, 3), (123, .iload 6, 2), (125, .invokevirtual 54, 3), (128, .iinc 7 1, 3), (131, .goto (-59), 3), (134, .aload_n 0, 1), (135, .getfield 38, 3), (138, .getfield 62, 3), (141, .ireturn, 1)]  -- X7_feed
def zi_87 : List (Nat × Instr × Nat) := [(0, .aload_n 0, 1), (1, .getfield 66, 3), (4, .ifCond .lt 15, 3), (7, .aload_n 0, 1), (8, .getfield 66, 3), (11, .aload_n 0, 1), (12, .getfield 21, 3), (15, .arraylength, 1), (16, .if_icmp .lt 6, 3), (19, .bipush (-4), 2), (21, .ireturn, 1), (22, .aload_n 0, 1), (23, .getfield 38, 3), (26, .aload_n 0, 1), (27, .getfield 21, 3), (30, .aload_n 0, 1), (31, .getfield 66, 3), (34, .aaload, 1), (35, .invokevirtual 58, 3), (38, .istore_n 1, 1), (39, .aload_n 0, 1), (40, .getfield 38, 3), (43, .iconst 0, 1), (44, .putfield 62, 3), (47, .iload_n 1, 1), (48, .ifCond .lt 8, 3), (51, .bipush (-100), 2), (53, .iload_n 1, 1), (54, .isub, 1), (55, .ireturn, 1), (56, .aload_n 0, 1), (57, .dup, 1), (58, .getfield 66, 3), (61, .iconst 1, 1), (62, .iadd, 1), (63, .putfield 66, 3), (66, .aload_n 0, 1), (67, .getfield 66, 3), (70, .iconst 1, 1), (71, .isub, 1), (72, .ireturn, 1)]  -- X7_text
def zi_88 : List (Nat × Instr × Nat) := [(0, .iload_n 1, 1), (1, .ifCond .lt 11, 3), (4, .iload_n 1, 1), (5, .aload_n 0, 1), (6, .getfield 66, 3), (9, .if_icmp .lt 6, 3), (12, .bipush (-2), 2), (14, .ireturn, 1), (15, .aload_n 0, 1), (16, .iconst 0, 1), (17, .putfield 98, 3), (20, .aload_n 0, 1), (21, .getfield 10, 3), (24, .getfield 124, 3), (27, .istore_n 2, 1), (28, .aload_n 0, 1), (29, .getfield 10, 3), (32, .iload_n 1, 1), (33, .putfield 124, 3), (36, .iload_n 2, 1), (37, .ireturn, 1)]  -- X7_force
def zi_89 : List (Nat × Instr × Nat) := [(0, .aload_n 0, 1), (1, .getfield 74, 3), (4, .aload_n 0, 1), (5, .invokevirtual 130, 3), (8, .invokevirtual 134, 3), (11, .iload_n 1, 1), (12, .ifCond .ne 53, 3), (15, .aload_n 0, 1), (16, .getfield 10, 3), (19, .iload_n 2, 1), (20, .invokevirtual 137, 3), (23, .ifCond .eq 42, 3), (26, .aload_n 0, 1), (27, .getfield 10, 3), (30, .iload_n 3, 1), (31, .invokevirtual 137, 3), (34, .ifCond .eq 31, 3), (37, .iload 4, 2), (39, .invokestatic 94, 3), (42, .ifCond .eq 23, 3), (45, .aload_n 0, 1), (46, .getfield 74, 3), (49, .iload_n 2, 1), (50, .iload_n 3, 1), (51, .iload 4, 2), (53, .invokevirtual 140, 3), (56, .ifCond .eq 7, 3), (59, .iconst 1, 1), (60, .goto 4, 3), (63, .iconst 0, 1), (64, .ireturn, 1), (65, .iload_n 1, 1), (66, .iconst 1, 1), (67, .if_icmp .ne 32, 3), (70, .iload_n 2, 1), (71, .invokestatic 94, 3), (74, .ifCond .eq 25, 3), (77, .iload_n 3, 1), (78, .invokestatic 94, 3), (81, .ifCond .eq 18, 3), (84, .iload_n 2, 1), (85, .iload_n 3, 1), (86, .if_icmp .eq 13, 3), (89, .aload_n 0, 1), (90, .getfield 74, 3), (93, .iload_n 2, 1), (94, .iload_n 3, 1), (95, .invokevirtual 144, 3), (98, .ireturn, 1), (99, .iload_n 1, 1), (100, .iconst 2, 1), (101, .if_icmp .ne 35, 3), (104, .aload_n 0, 1), (105, .getfield 10, 3), (108, .iload_n 2, 1), (109, .invokevirtual 137, 3), (112, .ifCond .eq 24, 3), (115, .iload_n 3, 1), (116, .ifCond .lt 20, 3), (119, .iload_n 3, 1), (120, .sipush 400, 3), (123, .if_icmp .gt 13, 3), (126, .aload_n 0, 1), (127, .getfield 74, 3), (130, .iload_n 2, 1), (131, .iload_n 3, 1), (132, .invokevirtual 148, 3), (135, .ireturn, 1), (136, .bipush (-2), 2), (138, .ireturn, 1)]  -- X7_asks
def zi_90 : List (Nat × Instr × Nat) := [(0, .iload_n 1, 1), (1, .ifCond .lt 13, 3), (4, .iload_n 1, 1), (5, .bipush 6, 2), (7, .if_icmp .ge 7, 3), (10, .iconst 1, 1), (11, .goto 4, 3), (14, .iconst 0, 1), (15, .istore 5, 2), (17, .iload_n 2, 1), (18, .ifCond .lt 23, 3), (21, .iload_n 2, 1), (22, .bipush 10, 2), (24, .idiv, 1), (25, .iconst 4, 1), (26, .if_icmp .gt 15, 3), (29, .iload_n 2, 1), (30, .bipush 10, 2), (32, .irem, 1), (33, .iconst 4, 1), (34, .if_icmp .ge 7, 3), (37, .iconst 1, 1), (38, .goto 4, 3), (41, .iconst 0, 1), (42, .istore 6, 2), (44, .iload 5, 2), (46, .ifCond .eq 31, 3), (49, .iload 6, 2), (51, .ifCond .eq 26, 3), (54, .iload_n 3, 1), (55, .ifCond .lt 22, 3), (58, .iload_n 3, 1), (59, .sipush 9999, 3), (62, .if_icmp .gt 15, 3), (65, .iload 4, 2), (67, .ifCond .lt 10, 3), (70, .iload 4, 2), (72, .bipush 6, 2), (74, .if_icmp .lt 6, 3), (77, .bipush (-2), 2), (79, .ireturn, 1), (80, .aload_n 0, 1), (81, .getfield 10, 3), (84, .getfield 109, 3), (87, .bipush 6, 2), (89, .if_icmp .lt 6, 3), (92, .bipush (-4), 2), (94, .ireturn, 1), (95, .iload_n 2, 1), (96, .bipush 10, 2), (98, .idiv, 1), (99, .iconst 4, 1), (100, .if_icmp .ne 21, 3), (103, .aload_n 0, 1), (104, .getfield 10, 3), (107, .iconst 4, 1), (108, .invokevirtual 112, 3), (111, .invokestatic 116, 3), (114, .iconst 3, 1), (115, .if_icmp .lt 6, 3), (118, .bipush (-3), 2), (120, .ireturn, 1), (121, .aload_n 0, 1), (122, .iconst 0, 1), (123, .putfield 98, 3), (126, .aload_n 0, 1), (127, .getfield 10, 3), (130, .iload_n 1, 1), (131, .iload_n 2, 1), (132, .iload_n 3, 1), (133, .iload 4, 2), (135, .invokevirtual 151, 3), (138, .aload_n 0, 1), (139, .getfield 10, 3), (142, .getfield 109, 3), (145, .iconst 1, 1), (146, .isub, 1), (147, .ireturn, 1)]  -- X7_person
def zi_91 : List (Nat × Instr × Nat) := [(0, .aload_n 0, 1), (1, .getfield 10, 3), (4, .iload_n 1, 1), (5, .invokevirtual 137, 3), (8, .ifCond .eq 19, 3), (11, .aload_n 0, 1), (12, .getfield 10, 3), (15, .iload_n 2, 1), (16, .invokevirtual 137, 3), (19, .ifCond .eq 8, 3), (22, .iload_n 1, 1), (23, .iload_n 2, 1), (24, .if_icmp .ne 5, 3), (27, .iconst (-1), 1), (28, .ireturn, 1), (29, .iload_n 3, 1), (30, .ifCond .eq 11, 3), (33, .iload_n 3, 1), (34, .iconst 1, 1), (35, .if_icmp .eq 6, 3), (38, .bipush (-2), 2), (40, .ireturn, 1), (41, .aload_n 0, 1), (42, .iconst 0, 1), (43, .putfield 98, 3), (46, .aload_n 0, 1), (47, .getfield 10, 3), (50, .iload_n 1, 1), (51, .iload_n 2, 1), (52, .iload_n 3, 1), (53, .invokevirtual 155, 3), (56, .ireturn, 1)]  -- X7_foe
def zi_92 : List (Nat × Instr × Nat) := [(0, .aload_n 0, 1), (1, .getfield 10, 3), (4, .iload_n 1, 1), (5, .invokevirtual 137, 3), (8, .ifCond .ne 6, 3), (11, .bipush (-5), 2), (13, .ireturn, 1), (14, .iload_n 2, 1), (15, .tableswitch 111 0 6 #[41, 51, 61, 71, 81, 91, 101], 41), (56, .aload_n 0, 1), (57, .getfield 10, 3), (60, .getfield 158, 3), (63, .iload_n 1, 1), (64, .iaload, 1), (65, .ireturn, 1), (66, .aload_n 0, 1), (67, .getfield 10, 3), (70, .getfield 162, 3), (73, .iload_n 1, 1), (74, .iaload, 1), (75, .ireturn, 1), (76, .aload_n 0, 1), (77, .getfield 10, 3), (80, .getfield 165, 3), (83, .iload_n 1, 1), (84, .iaload, 1), (85, .ireturn, 1), (86, .aload_n 0, 1), (87, .getfield 10, 3), (90, .getfield 168, 3), (93, .iload_n 1, 1), (94, .iaload, 1), (95, .ireturn, 1), (96, .aload_n 0, 1), (97, .getfield 10, 3), (100, .getfield 171, 3), (103, .iload_n 1, 1), (104, .iaload, 1), (105, .ireturn, 1), (106, .aload_n 0, 1), (107, .getfield 10, 3), (110, .getfield 174, 3), (113, .iload_n 1, 1), (114, .iaload, 1), (115, .ireturn, 1), (116, .aload_n 0, 1), (117, .getfield 10, 3), (120, .getfield 177, 3), (123, .iload_n 1, 1), (124, .iaload, 1), (125, .ireturn, 1), (126, .bipush (-7), 2), (128, .ireturn, 1)]  -- X7_told
def zi_93 : List (Nat × Instr × Nat) := [(0, .aload_n 0, 1), (1, .getfield 10, 3), (4, .iload_n 1, 1), (5, .invokevirtual 137, 3), (8, .ifCond .ne 6, 3), (11, .bipush (-5), 2), (13, .ireturn, 1), (14, .iload_n 2, 1), (15, .ifCond .lt 8, 3), (18, .iload_n 2, 1), (19, .iconst 4, 1), (20, .if_icmp .le 6, 3), (23, .bipush (-7), 2), (25, .ireturn, 1), (26, .aload_n 0, 1), (27, .getfield 10, 3), (30, .iconst 4, 1), (31, .invokevirtual 112, 3), (34, .iconst 1, 1), (35, .iload_n 1, 1), (36, .ishl, 1), (37, .iconst (-1), 1), (38, .ixor, 1), (39, .iand, 1), (40, .istore_n 3, 1), (41, .iload_n 2, 1), (42, .iconst 4, 1), (43, .if_icmp .ne 14, 3), (46, .iload_n 3, 1), (47, .invokestatic 116, 3), (50, .iconst 3, 1), (51, .if_icmp .lt 6, 3), (54, .bipush (-3), 2), (56, .ireturn, 1), (57, .aload_n 0, 1), (58, .iconst 0, 1), (59, .putfield 98, 3), (62, .aload_n 0, 1), (63, .getfield 10, 3), (66, .getfield 162, 3), (69, .iload_n 1, 1), (70, .iaload, 1), (71, .istore 4, 2), (73, .aload_n 0, 1), (74, .getfield 10, 3), (77, .getfield 162, 3), (80, .iload_n 1, 1), (81, .iload_n 2, 1), (82, .iastore, 1), (83, .iload 4, 2), (85, .ireturn, 1)]  -- X7_put
def zi_94 : List (Nat × Instr × Nat) := [(0, .aload_n 0, 1), (1, .getfield 10, 3), (4, .iload_n 1, 1), (5, .invokevirtual 137, 3), (8, .ifCond .eq 14, 3), (11, .aload_n 0, 1), (12, .getfield 10, 3), (15, .iload_n 2, 1), (16, .invokevirtual 137, 3), (19, .ifCond .ne 6, 3), (22, .bipush (-5), 2), (24, .ireturn, 1), (25, .aload_n 0, 1), (26, .getfield 74, 3), (29, .aload_n 0, 1), (30, .invokevirtual 130, 3), (33, .invokevirtual 134, 3), (36, .aload_n 0, 1), (37, .getfield 74, 3), (40, .aload_n 0, 1), (41, .getfield 10, 3), (44, .invokevirtual 180, 3), (47, .invokevirtual 183, 3), (50, .aload_n 0, 1), (51, .getfield 74, 3), (54, .iload_n 1, 1), (55, .iload_n 2, 1), (56, .invokevirtual 186, 3), (59, .ifCond .eq 7, 3), (62, .iconst 1, 1), (63, .goto 4, 3), (66, .iconst 0, 1), (67, .ireturn, 1)]  -- X7_may
def zi_95 : List (Nat × Instr × Nat) := [(0, .aload_n 0, 1), (1, .getfield 74, 3), (4, .aload_n 0, 1), (5, .invokevirtual 130, 3), (8, .invokevirtual 134, 3), (11, .iconst 0, 1), (12, .istore_n 1, 1), (13, .iconst 0, 1), (14, .istore_n 2, 1), (15, .iload_n 2, 1), (16, .iconst 4, 1), (17, .if_icmp .ge 33, 3), (20, .aload_n 0, 1), (21, .getfield 74, 3), (24, .aload_n 0, 1), (25, .getfield 10, 3), (28, .iload_n 2, 1), (29, .invokevirtual 112, 3), (32, .invokevirtual 190, 3), (35, .ifCond .ne 9, 3), (38, .iload_n 1, 1), (39, .iconst 1, 1), (40, .iload_n 2, 1), (41, .ishl, 1), (42, .ior, 1), (43, .istore_n 1, 1), (44, .iinc 2 1, 3), (47, .goto (-32), 3), (50, .iload_n 1, 1), (51, .ireturn, 1)]  -- X7_alone
def zi_96 : List (Nat × Instr × Nat) := [(0, .iload_n 1, 1), (1, .ifCond .ne 7, 3), (4, .iconst 3, 1), (5, .goto 14, 3), (8, .iload_n 1, 1), (9, .iconst 1, 1), (10, .if_icmp .ne 7, 3), (13, .iconst 5, 1), (14, .goto 5, 3), (17, .bipush 99, 2), (19, .istore 4, 2), (21, .iload_n 1, 1), (22, .ifCond .lt 28, 3), (25, .iload_n 1, 1), (26, .iconst 2, 1), (27, .if_icmp .gt 23, 3), (30, .iload_n 2, 1), (31, .ifCond .lt 19, 3), (34, .iload_n 2, 1), (35, .iload 4, 2), (37, .if_icmp .gt 13, 3), (40, .iload_n 3, 1), (41, .ifCond .lt 9, 3), (44, .iload_n 3, 1), (45, .bipush 6, 2), (47, .if_icmp .lt 6, 3), (50, .bipush (-2), 2), (52, .ireturn, 1), (53, .aload_n 0, 1), (54, .getfield 90, 3), (57, .getfield 121, 3), (60, .bipush 16, 2), (62, .if_icmp .lt 6, 3), (65, .bipush (-4), 2), (67, .ireturn, 1), (68, .aload_n 0, 1), (69, .getfield 90, 3), (72, .iload_n 1, 1), (73, .iload_n 2, 1), (74, .iload_n 3, 1), (75, .invokevirtual 193, 3), (78, .aload_n 0, 1), (79, .getfield 90, 3), (82, .getfield 121, 3), (85, .iconst 1, 1), (86, .isub, 1), (87, .ireturn, 1)]  -- X7_move
def zi_97 : List (Nat × Instr × Nat) := [(0, .aload_n 0, 1), (1, .getfield 90, 3), (4, .getfield 121, 3), (7, .istore_n 1, 1), (8, .aload_n 0, 1), (9, .getfield 90, 3), (12, .iconst 0, 1), (13, .putfield 121, 3), (16, .iload_n 1, 1), (17, .ireturn, 1)]  -- X7_clear
def zi_98 : List (Nat × Instr × Nat) := [(0, .aload_n 0, 1), (1, .getfield 74, 3), (4, .aload_n 0, 1), (5, .invokevirtual 130, 3), (8, .invokevirtual 134, 3), (11, .aload_n 0, 1), (12, .getfield 90, 3), (15, .aload_n 0, 1), (16, .getfield 90, 3), (19, .getfield 121, 3), (22, .invokevirtual 196, 3), (25, .aload_n 0, 1), (26, .getfield 90, 3), (29, .getfield 199, 3), (32, .ireturn, 1)]  -- X7_judge
def zi_99 : List (Nat × Instr × Nat) := [(0, .iload_n 1, 1), (1, .ifCond .lt 14, 3), (4, .iload_n 1, 1), (5, .aload_n 0, 1), (6, .getfield 90, 3), (9, .getfield 121, 3), (12, .if_icmp .le 6, 3), (15, .bipush (-5), 2), (17, .ireturn, 1), (18, .iload_n 2, 1), (19, .ifCond .lt 8, 3), (22, .iload_n 2, 1), (23, .iconst 3, 1), (24, .if_icmp .le 6, 3), (27, .bipush (-7), 2), (29, .ireturn, 1), (30, .aload_n 0, 1), (31, .getfield 74, 3), (34, .aload_n 0, 1), (35, .invokevirtual 130, 3), (38, .invokevirtual 134, 3), (41, .aload_n 0, 1), (42, .getfield 90, 3), (45, .iload_n 1, 1), (46, .invokevirtual 196, 3), (49, .iload_n 2, 1), (50, .ifCond .ne 13, 3), (53, .aload_n 0, 1), (54, .getfield 90, 3), (57, .getfield 202, 3), (60, .goto 40, 3), (63, .iload_n 2, 1), (64, .iconst 1, 1), (65, .if_icmp .ne 13, 3), (68, .aload_n 0, 1), (69, .getfield 74, 3), (72, .getfield 205, 3), (75, .goto 25, 3), (78, .iload_n 2, 1), (79, .iconst 2, 1), (80, .if_icmp .ne 13, 3), (83, .aload_n 0, 1), (84, .getfield 74, 3), (87, .invokevirtual 206, 3), (90, .goto 10, 3), (93, .aload_n 0, 1), (94, .getfield 90, 3), (97, .getfield 209, 3), (100, .ireturn, 1)]  -- X7_run
def zi_100 : List (Nat × Instr × Nat) := [(0, .iload_n 1, 1), (1, .ifCond .lt 25, 3), (4, .iload_n 1, 1), (5, .aload_n 0, 1), (6, .getfield 90, 3), (9, .getfield 121, 3), (12, .if_icmp .gt 14, 3), (15, .aload_n 0, 1), (16, .getfield 10, 3), (19, .iload_n 2, 1), (20, .invokevirtual 137, 3), (23, .ifCond .ne 6, 3), (26, .bipush (-5), 2), (28, .ireturn, 1), (29, .aload_n 0, 1), (30, .getfield 74, 3), (33, .aload_n 0, 1), (34, .invokevirtual 130, 3), (37, .invokevirtual 134, 3), (40, .aload_n 0, 1), (41, .getfield 90, 3), (44, .iload_n 1, 1), (45, .invokevirtual 196, 3), (48, .aload_n 0, 1), (49, .getfield 74, 3), (52, .aload_n 0, 1), (53, .getfield 90, 3), (56, .getfield 212, 3), (59, .iload_n 2, 1), (60, .invokevirtual 214, 3), (63, .ireturn, 1)]  -- X7_where
def zi_101 : List (Nat × Instr × Nat) := [(0, .iload_n 1, 1), (1, .ifCond .lt 8, 3), (4, .iload_n 1, 1), (5, .iconst 2, 1), (6, .if_icmp .le 6, 3), (9, .bipush (-2), 2), (11, .ireturn, 1), (12, .iload_n 1, 1), (13, .ifCond .eq 13, 3), (16, .aload_n 0, 1), (17, .aload_n 0, 1), (18, .invokevirtual 130, 3), (21, .iload_n 1, 1), (22, .invokevirtual 217, 3), (25, .ireturn, 1), (26, .aload_n 0, 1), (27, .invokevirtual 221, 3), (30, .aload_n 0, 1), (31, .getfield 83, 3), (34, .invokevirtual 224, 3), (37, .ireturn, 1)]  -- X7_all
def zi_102 : List (Nat × Instr × Nat) := [(0, .aload_n 0, 1), (1, .getfield 10, 3), (4, .iload_n 1, 1), (5, .invokevirtual 137, 3), (8, .ifCond .ne 6, 3), (11, .bipush (-5), 2), (13, .ireturn, 1), (14, .aload_n 0, 1), (15, .invokevirtual 221, 3), (18, .aload_n 0, 1), (19, .getfield 83, 3), (22, .iconst 1, 1), (23, .iload_n 1, 1), (24, .ishl, 1), (25, .invokevirtual 227, 3), (28, .ireturn, 1)]  -- X7_soonest
def zi_103 : List (Nat × Instr × Nat) := [(0, .iload_n 1, 1), (1, .ifCond .eq 11, 3), (4, .iload_n 1, 1), (5, .iconst 1, 1), (6, .if_icmp .eq 6, 3), (9, .bipush (-2), 2), (11, .ireturn, 1), (12, .aload_n 0, 1), (13, .invokevirtual 221, 3), (16, .iload_n 1, 1), (17, .ifCond .ne 23, 3), (20, .aload_n 0, 1), (21, .getfield 74, 3), (24, .invokevirtual 230, 3), (27, .aload_n 0, 1), (28, .getfield 83, 3), (31, .invokevirtual 233, 3), (34, .iconst (-1), 1), (35, .ixor, 1), (36, .iand, 1), (37, .goto 10, 3), (40, .aload_n 0, 1), (41, .getfield 83, 3), (44, .getfield 236, 3), (47, .ireturn, 1)]  -- X7_never
def zi_104 : List (Nat × Instr × Nat) := [(0, .iload_n 1, 1), (1, .ifCond .lt 19, 3), (4, .iload_n 1, 1), (5, .sipush 400, 3), (8, .if_icmp .gt 12, 3), (11, .iload_n 2, 1), (12, .ifCond .eq 11, 3), (15, .iload_n 2, 1), (16, .iconst 1, 1), (17, .if_icmp .eq 6, 3), (20, .bipush (-2), 2), (22, .ireturn, 1), (23, .aload_n 0, 1), (24, .invokevirtual 221, 3), (27, .aload_n 0, 1), (28, .getfield 83, 3), (31, .iload_n 1, 1), (32, .invokevirtual 237, 3), (35, .iload_n 2, 1), (36, .ifCond .ne 13, 3), (39, .aload_n 0, 1), (40, .getfield 83, 3), (43, .getfield 240, 3), (46, .goto 10, 3), (49, .aload_n 0, 1), (50, .getfield 83, 3), (53, .getfield 243, 3), (56, .ireturn, 1)]  -- X7_best
def zi_105 : List (Nat × Instr × Nat) := [(0, .aload_n 0, 1), (1, .getfield 74, 3), (4, .aload_n 0, 1), (5, .invokevirtual 130, 3), (8, .invokevirtual 134, 3), (11, .aload_n 0, 1), (12, .getfield 74, 3), (15, .invokevirtual 246, 3), (18, .ireturn, 1)]  -- X7_bound
def zi_106 : List (Nat × Instr × Nat) := [(0, .aload_n 0, 1), (1, .invokevirtual 221, 3), (4, .aload_n 0, 1), (5, .getfield 83, 3), (8, .invokevirtual 224, 3), (11, .istore_n 1, 1), (12, .iload_n 1, 1), (13, .ifCond .ge 7, 3), (16, .iconst (-1), 1), (17, .goto 12, 3), (20, .iload_n 1, 1), (21, .aload_n 0, 1), (22, .getfield 74, 3), (25, .invokevirtual 246, 3), (28, .isub, 1), (29, .ireturn, 1)]  -- X7_gap
def zi_107 : List (Nat × Instr × Nat) := [(0, .iload_n 1, 1), (1, .invokestatic 94, 3), (4, .ifCond .eq 10, 3), (7, .iload_n 2, 1), (8, .invokestatic 94, 3), (11, .ifCond .ne 6, 3), (14, .bipush (-5), 2), (16, .ireturn, 1), (17, .aload_n 0, 1), (18, .getfield 74, 3), (21, .aload_n 0, 1), (22, .invokevirtual 130, 3), (25, .invokevirtual 134, 3), (28, .aload_n 0, 1), (29, .getfield 74, 3), (32, .invokevirtual 249, 3), (35, .aload_n 0, 1), (36, .getfield 74, 3), (39, .getfield 252, 3), (42, .iconst 4, 1), (43, .iload_n 1, 1), (44, .imul, 1), (45, .iload_n 2, 1), (46, .iadd, 1), (47, .iaload, 1), (48, .ireturn, 1)]  -- X7_way
def zi_108 : List (Nat × Instr × Nat) := [(0, .iload_n 1, 1), (1, .ifCond .eq 11, 3), (4, .iload_n 1, 1), (5, .iconst 1, 1), (6, .if_icmp .eq 6, 3), (9, .bipush (-2), 2), (11, .ireturn, 1), (12, .aload_n 0, 1), (13, .getfield 10, 3), (16, .getfield 109, 3), (19, .bipush 6, 2), (21, .if_icmp .lt 6, 3), (24, .bipush (-3), 2), (26, .ireturn, 1), (27, .aload_n 0, 1), (28, .invokevirtual 221, 3), (31, .aload_n 0, 1), (32, .getfield 83, 3), (35, .invokevirtual 224, 3), (38, .ifCond .lt 5, 3), (41, .iconst (-1), 1), (42, .ireturn, 1), (43, .iconst 0, 1), (44, .istore_n 2, 1), (45, .iload_n 2, 1), (46, .iconst 4, 1), (47, .if_icmp .ge 60, 3), (50, .aload_n 0, 1), (51, .getfield 10, 3), (54, .iconst 3, 1), (55, .bipush 10, 2), (57, .iload_n 2, 1), (58, .imul, 1), (59, .iconst 0, 1), (60, .iconst 0, 1), (61, .invokevirtual 151, 3), (64, .aload_n 0, 1), (65, .aload_n 0, 1), (66, .invokevirtual 130, 3), (69, .iconst 0, 1), (70, .invokevirtual 217, 3), (73, .istore_n 3, 1), (74, .aload_n 0, 1), (75, .getfield 10, 3), (78, .dup, 1), (79, .getfield 109, 3), (82, .iconst 1, 1), (83, .isub, 1), (84, .putfield 109, 3), (87, .iload_n 3, 1), (88, .ifCond .lt 13, 3), (91, .iload_n 1, 1), (92, .ifCond .ne 7, 3), (95, .iload_n 2, 1), (96, .goto 4, 3), (99, .iload_n 3, 1), (100, .ireturn, 1), (101, .iinc 2 1, 3), (104, .goto (-59), 3), (107, .iconst (-1), 1), (108, .ireturn, 1)]  -- X7_help
def zi_109 : List (Nat × Instr × Nat) := [(0, .iconst 0, 1), (1, .istore_n 1, 1), (2, .iconst 0, 1), (3, .istore_n 2, 1), (4, .iload_n 2, 1), (5, .aload_n 0, 1), (6, .getfield 66, 3), (9, .if_icmp .ge 38, 3), (12, .iload_n 2, 1), (13, .aload_n 0, 1), (14, .getfield 21, 3), (17, .arraylength, 1), (18, .if_icmp .ge 29, 3), (21, .aload_n 0, 1), (22, .aload_n 0, 1), (23, .getfield 21, 3), (26, .iload_n 2, 1), (27, .aaload, 1), (28, .iconst 0, 1), (29, .invokevirtual 217, 3), (32, .ifCond .lt 9, 3), (35, .iload_n 1, 1), (36, .iconst 1, 1), (37, .iload_n 2, 1), (38, .ishl, 1), (39, .ior, 1), (40, .istore_n 1, 1), (41, .iinc 2 1, 3), (44, .goto (-40), 3), (47, .iload_n 1, 1), (48, .ireturn, 1)]  -- X7_laws
def zi_110 : List (Nat × Instr × Nat) := [(0, .iload_n 1, 1), (1, .invokestatic 94, 3), (4, .ifCond .eq 15, 3), (7, .iload_n 2, 1), (8, .invokestatic 94, 3), (11, .ifCond .eq 8, 3), (14, .iload_n 1, 1), (15, .iload_n 2, 1), (16, .if_icmp .ne 6, 3), (19, .bipush (-5), 2), (21, .ireturn, 1), (22, .aload_n 0, 1), (23, .getfield 10, 3), (26, .iload_n 1, 1), (27, .iload_n 2, 1), (28, .iconst 1, 1), (29, .invokevirtual 102, 3), (32, .istore_n 3, 1), (33, .aload_n 0, 1), (34, .aload_n 0, 1), (35, .invokevirtual 130, 3), (38, .iconst 0, 1), (39, .invokevirtual 217, 3), (42, .istore 4, 2), (44, .aload_n 0, 1), (45, .getfield 10, 3), (48, .iload_n 1, 1), (49, .iload_n 2, 1), (50, .iload_n 3, 1), (51, .invokevirtual 102, 3), (54, .pop, 1), (55, .iload 4, 2), (57, .ireturn, 1)]  -- X7_join
def zi_111 : List (Nat × Instr × Nat) := [(0, .iload_n 1, 1), (1, .ifCond .eq 11, 3), (4, .iload_n 1, 1), (5, .iconst 1, 1), (6, .if_icmp .eq 6, 3), (9, .bipush (-2), 2), (11, .ireturn, 1), (12, .aload_n 0, 1), (13, .invokevirtual 221, 3), (16, .iconst (-1), 1), (17, .istore_n 2, 1), (18, .iconst (-1), 1), (19, .istore_n 3, 1), (20, .iconst 0, 1), (21, .istore 4, 2), (23, .iload 4, 2), (25, .aload_n 0, 1), (26, .getfield 10, 3), (29, .getfield 109, 3), (32, .if_icmp .ge 53, 3), (35, .aload_n 0, 1), (36, .getfield 83, 3), (39, .aload_n 0, 1), (40, .getfield 74, 3), (43, .invokevirtual 230, 3), (46, .iconst 1, 1), (47, .iload 4, 2), (49, .ishl, 1), (50, .iconst (-1), 1), (51, .ixor, 1), (52, .iand, 1), (53, .invokevirtual 227, 3), (56, .istore 5, 2), (58, .iload 5, 2), (60, .ifCond .lt 19, 3), (63, .iload_n 3, 1), (64, .ifCond .lt 9, 3), (67, .iload 5, 2), (69, .iload_n 3, 1), (70, .if_icmp .ge 9, 3), (73, .iload 4, 2), (75, .istore_n 2, 1), (76, .iload 5, 2), (78, .istore_n 3, 1), (79, .iinc 4 1, 3), (82, .goto (-59), 3), (85, .iload_n 1, 1), (86, .ifCond .ne 7, 3), (89, .iload_n 2, 1), (90, .goto 4, 3), (93, .iload_n 3, 1), (94, .ireturn, 1)]  -- X7_leave
def zi_112 : List (Nat × Instr × Nat) := [(0, .aload_n 0, 1), (1, .invokevirtual 221, 3), (4, .aload_n 0, 1), (5, .getfield 83, 3), (8, .invokevirtual 224, 3), (11, .istore_n 1, 1), (12, .iload_n 1, 1), (13, .ifCond .ge 5, 3), (16, .iconst (-1), 1), (17, .ireturn, 1), (18, .aload_n 0, 1), (19, .iconst 0, 1), (20, .putfield 98, 3), (23, .aload_n 0, 1), (24, .getfield 10, 3), (27, .invokevirtual 180, 3), (30, .istore_n 2, 1), (31, .iconst 0, 1), (32, .istore_n 3, 1), (33, .iload_n 3, 1), (34, .aload_n 0, 1), (35, .getfield 10, 3), (38, .getfield 109, 3), (41, .if_icmp .ge 78, 3), (44, .iconst 0, 1), (45, .istore 4, 2), (47, .iload 4, 2), (49, .aload_n 0, 1), (50, .getfield 10, 3), (53, .getfield 109, 3), (56, .if_icmp .ge 57, 3), (59, .aload_n 0, 1), (60, .getfield 74, 3), (63, .iload_n 2, 1), (64, .invokevirtual 183, 3), (67, .aload_n 0, 1), (68, .getfield 74, 3), (71, .iload_n 3, 1), (72, .iload 4, 2), (74, .invokevirtual 186, 3), (77, .ifCond .eq 30, 3), (80, .aload_n 0, 1), (81, .iload_n 1, 1), (82, .aload_n 0, 1), (83, .getfield 74, 3), (86, .iload_n 2, 1), (87, .iload_n 3, 1), (88, .iload 4, 2), (90, .invokevirtual 255, 3), (93, .invokevirtual 258, 3), (96, .ifCond .eq 11, 3), (99, .bipush 10, 2), (101, .iload_n 3, 1), (102, .imul, 1), (103, .iload 4, 2), (105, .iadd, 1), (106, .ireturn, 1), (107, .iinc 4 1, 3), (110, .goto (-63), 3), (113, .iinc 3 1, 3), (116, .goto (-83), 3), (119, .iconst (-1), 1), (120, .ireturn, 1)]  -- X7_first
def zi_113 : List (Nat × Instr × Nat) := [(0, .iload_n 1, 1), (1, .ifCond .lt 29, 3), (4, .iload_n 1, 1), (5, .ldc_w 261, 3), (8, .if_icmp .gt 22, 3), (11, .iload_n 2, 1), (12, .ifCond .lt 18, 3), (15, .iload_n 2, 1), (16, .bipush 40, 2), (18, .if_icmp .gt 12, 3), (21, .iload_n 3, 1), (22, .ifCond .lt 8, 3), (25, .iload_n 3, 1), (26, .iconst 2, 1), (27, .if_icmp .le 6, 3), (30, .bipush (-2), 2), (32, .ireturn, 1), (33, .aload_n 0, 1), (34, .getfield 74, 3), (37, .aload_n 0, 1), (38, .invokevirtual 130, 3), (41, .invokevirtual 134, 3), (44, .aload_n 0, 1), (45, .getfield 90, 3), (48, .iload_n 1, 1), (49, .iload_n 2, 1), (50, .invokevirtual 262, 3), (53, .iload_n 3, 1), (54, .ifCond .ne 13, 3), (57, .aload_n 0, 1), (58, .getfield 74, 3), (61, .invokevirtual 206, 3), (64, .goto 25, 3), (67, .iload_n 3, 1), (68, .iconst 1, 1), (69, .if_icmp .ne 13, 3), (72, .aload_n 0, 1), (73, .getfield 90, 3), (76, .getfield 202, 3), (79, .goto 10, 3), (82, .aload_n 0, 1), (83, .getfield 74, 3), (86, .getfield 205, 3), (89, .ireturn, 1)]  -- X7_drawn
def zi_114 : List (Nat × Instr × Nat) := [(0, .iload_n 3, 1), (1, .bipush 100, 2), (3, .idiv, 1), (4, .istore 5, 2), (6, .iload_n 3, 1), (7, .bipush 100, 2), (9, .irem, 1), (10, .istore 6, 2), (12, .iload_n 3, 1), (13, .ifCond .lt 27, 3), (16, .iload 5, 2), (18, .iconst 1, 1), (19, .if_icmp .lt 21, 3), (22, .iload 5, 2), (24, .bipush 20, 2), (26, .if_icmp .gt 14, 3), (29, .iload 6, 2), (31, .bipush 40, 2), (33, .if_icmp .gt 7, 3), (36, .iconst 1, 1), (37, .goto 4, 3), (40, .iconst 0, 1), (41, .istore 7, 2), (43, .aload_n 0, 1), (44, .getfield 10, 3), (47, .iload_n 1, 1), (48, .invokevirtual 137, 3), (51, .ifCond .eq 30, 3), (54, .iload_n 2, 1), (55, .ifCond .lt 26, 3), (58, .iload_n 2, 1), (59, .ldc_w 261, 3), (62, .if_icmp .gt 19, 3), (65, .iload 7, 2), (67, .ifCond .eq 14, 3), (70, .iload 4, 2), (72, .ifCond .eq 13, 3), (75, .iload 4, 2), (77, .iconst 1, 1), (78, .if_icmp .eq 7, 3), (81, .ldc2_w 266, 3), (84, .lreturn, 1), (85, .aload_n 0, 1), (86, .getfield 74, 3), (89, .aload_n 0, 1), (90, .invokevirtual 130, 3), (93, .invokevirtual 134, 3), (96, .iconst 0, 1), (97, .istore 8, 2), (99, .iconst 0, 1), (100, .istore 9, 2), (102, .iload 9, 2), (104, .iload 5, 2), (106, .if_icmp .ge 38, 3), (109, .aload_n 0, 1), (110, .getfield 90, 3), (113, .iload_n 2, 1), (114, .iload 9, 2), (116, .iadd, 1), (117, .iload 6, 2), (119, .invokevirtual 262, 3), (122, .iload 8, 2), (124, .aload_n 0, 1), (125, .getfield 74, 3), (128, .invokevirtual 206, 3), (131, .iload_n 1, 1), (132, .ishr, 1), (133, .iconst 1, 1), (134, .iand, 1), (135, .iadd, 1), (136, .istore 8, 2), (138, .iinc 9 1, 3), (141, .goto (-39), 3), (144, .iload 8, 2), (146, .iload 5, 2), (148, .invokestatic 268, 3), (151, .istore 9, 2), (153, .iload 9, 2), (155, .iconst 1, 1), (156, .if_icmp .ge 9, 3), (159, .ldc2_w 266, 3), (162, .goto 23, 3), (165, .iload 4, 2), (167, .ifCond .ne 12, 3), (170, .iload 8, 2), (172, .iload 9, 2), (174, .idiv, 1), (175, .i2l, 1), (176, .goto 9, 3), (179, .iload 5, 2), (181, .iload 9, 2), (183, .idiv, 1), (184, .i2l, 1), (185, .lreturn, 1)]  -- X7_chance
def zi_115 : List (Nat × Instr × Nat) := [(0, .aload_n 0, 1), (1, .getfield 16, 3), (4, .aload_n 0, 1), (5, .getfield 10, 3), (8, .invokevirtual 271, 3), (11, .aload_n 0, 1), (12, .iconst 1, 1), (13, .putfield 275, 3), (16, .aload_n 0, 1), (17, .getfield 10, 3), (20, .getfield 109, 3), (23, .ireturn, 1)]  -- X7_image
def zi_116 : List (Nat × Instr × Nat) := [(0, .aload_n 0, 1), (1, .getfield 275, 3), (4, .ifCond .ne 6, 3), (7, .bipush (-3), 2), (9, .ireturn, 1), (10, .aload_n 0, 1), (11, .iconst 0, 1), (12, .putfield 98, 3), (15, .aload_n 0, 1), (16, .getfield 10, 3), (19, .aload_n 0, 1), (20, .getfield 16, 3), (23, .invokevirtual 271, 3), (26, .aload_n 0, 1), (27, .getfield 10, 3), (30, .getfield 109, 3), (33, .ireturn, 1)]  -- X7_back
def zi_117 : List (Nat × Instr × Nat) := [(0, .iload_n 1, 1), (1, .invokestatic 278, 3), (4, .ifCond .eq 24, 3), (7, .iload_n 2, 1), (8, .iconst (-1), 1), (9, .if_icmp .lt 19, 3), (12, .iload_n 2, 1), (13, .iconst 3, 1), (14, .if_icmp .ge 14, 3), (17, .iload_n 2, 1), (18, .iconst (-1), 1), (19, .if_icmp .eq 12, 3), (22, .iload_n 3, 1), (23, .bipush 40, 2), (25, .if_icmp .le 6, 3), (28, .bipush (-2), 2), (30, .ireturn, 1), (31, .iload_n 2, 1), (32, .iconst (-1), 1), (33, .if_icmp .eq 10, 3), (36, .iload_n 3, 1), (37, .ifCond .ge 6, 3), (40, .bipush (-14), 2), (42, .ireturn, 1), (43, .aload_n 0, 1), (44, .getfield 27, 3), (47, .iload_n 1, 1), (48, .aaload, 1), (49, .iload_n 2, 1), (50, .iload_n 3, 1), (51, .invokevirtual 281, 3), (54, .iconst 1, 1), (55, .ireturn, 1)]  -- X7_sheet
def zi_118 : List (Nat × Instr × Nat) := [(0, .iload_n 1, 1), (1, .invokestatic 278, 3), (4, .ifCond .ne 6, 3), (7, .bipush (-2), 2), (9, .ireturn, 1), (10, .aload_n 0, 1), (11, .getfield 27, 3), (14, .iload_n 1, 1), (15, .aaload, 1), (16, .getfield 283, 3), (19, .iconst (-1), 1), (20, .if_icmp .ne 6, 3), (23, .bipush (-11), 2), (25, .ireturn, 1), (26, .aload_n 0, 1), (27, .getfield 27, 3), (30, .iload_n 1, 1), (31, .aaload, 1), (32, .iload_n 2, 1), (33, .invokevirtual 286, 3), (36, .ifCond .ne 6, 3), (39, .bipush (-12), 2), (41, .ireturn, 1), (42, .aload_n 0, 1), (43, .getfield 27, 3), (46, .iload_n 1, 1), (47, .aaload, 1), (48, .iload_n 2, 1), (49, .iload_n 3, 1), (50, .invokevirtual 287, 3), (53, .iconst 1, 1), (54, .ireturn, 1)]  -- X7_cell
def zi_119 : List (Nat × Instr × Nat) := [(0, .iload_n 1, 1), (1, .invokestatic 278, 3), (4, .ifCond .eq 10, 3), (7, .iload_n 3, 1), (8, .invokestatic 278, 3), (11, .ifCond .ne 6, 3), (14, .bipush (-2), 2), (16, .ireturn, 1), (17, .aload_n 0, 1), (18, .getfield 27, 3), (21, .iload_n 1, 1), (22, .aaload, 1), (23, .astore 6, 2), (25, .aload_n 0, 1), (26, .getfield 27, 3), (29, .iload_n 3, 1), (30, .aaload, 1), (31, .astore 7, 2), (33, .aload 6, 2), (35, .getfield 283, 3), (38, .iconst (-1), 1), (39, .if_icmp .eq 12, 3), (42, .aload 7, 2), (44, .getfield 283, 3), (47, .iconst (-1), 1), (48, .if_icmp .ne 6, 3), (51, .bipush (-11), 2), (53, .ireturn, 1), (54, .aload 6, 2), (56, .getfield 283, 3), (59, .aload 7, 2), (61, .getfield 283, 3), (64, .if_icmp .eq 6, 3), (67, .bipush (-13), 2), (69, .ireturn, 1), (70, .aload 6, 2), (72, .iload_n 2, 1), (73, .iload 5, 2), (75, .invokevirtual 290, 3), (78, .ifCond .eq 15, 3), (81, .aload 7, 2), (83, .iload 4, 2), (85, .iload 5, 2), (87, .invokevirtual 290, 3), (90, .ifCond .ne 6, 3), (93, .bipush (-12), 2), (95, .ireturn, 1), (96, .aload 6, 2), (98, .getfield 293, 3), (101, .iload_n 2, 1), (102, .aload 7, 2), (104, .getfield 293, 3), (107, .iload 4, 2), (109, .iload 5, 2), (111, .invokestatic 296, 3), (114, .iload 5, 2), (116, .ireturn, 1)]  -- X7_copy
def zi_120 : List (Nat × Instr × Nat) := [(0, .iload_n 1, 1), (1, .invokestatic 278, 3), (4, .ifCond .eq 24, 3), (7, .iload_n 2, 1), (8, .ifCond .lt 20, 3), (11, .iload_n 2, 1), (12, .iconst 3, 1), (13, .if_icmp .ge 15, 3), (16, .iload 4, 2), (18, .ifCond .lt 10, 3), (21, .iload 4, 2), (23, .bipush 6, 2), (25, .if_icmp .le 6, 3), (28, .bipush (-2), 2), (30, .ireturn, 1), (31, .aload_n 0, 1), (32, .getfield 27, 3), (35, .iload_n 1, 1), (36, .aaload, 1), (37, .astore 5, 2), (39, .aload 5, 2), (41, .getfield 283, 3), (44, .iconst (-1), 1), (45, .if_icmp .ne 6, 3), (48, .bipush (-11), 2), (50, .ireturn, 1), (51, .aload 5, 2), (53, .getfield 283, 3), (56, .iload_n 2, 1), (57, .if_icmp .eq 6, 3), (60, .bipush (-13), 2), (62, .ireturn, 1), (63, .iconst 0, 1), (64, .istore 6, 2), (66, .iconst 0, 1), (67, .istore 7, 2), (69, .iload 7, 2), (71, .iload 4, 2), (73, .if_icmp .ge 75, 3), (76, .iload_n 3, 1), (77, .iconst 4, 1), (78, .iload 7, 2), (80, .imul, 1), (81, .iadd, 1), (82, .istore 8, 2), (84, .aload 5, 2), (86, .iload 8, 2), (88, .iconst 4, 1), (89, .invokevirtual 290, 3), (92, .ifCond .ne 6, 3), (95, .bipush (-12), 2), (97, .ireturn, 1), (98, .aload_n 0, 1), (99, .aload 5, 2), (101, .iload 8, 2), (103, .invokevirtual 302, 3), (106, .aload 5, 2), (108, .iload 8, 2), (110, .iconst 1, 1), (111, .iadd, 1), (112, .invokevirtual 302, 3), (115, .aload 5, 2), (117, .iload 8, 2), (119, .iconst 2, 1), (120, .iadd, 1), (121, .invokevirtual 302, 3), (124, .aload 5, 2), (126, .iload 8, 2), (128, .iconst 3, 1), (129, .iadd, 1), (130, .invokevirtual 302, 3), (133, .invokevirtual 305, 3), (136, .ifCond .lt 6, 3), (139, .iinc 6 1, 3), (142, .iinc 7 1, 3), (145, .goto (-76), 3), (148, .iload 6, 2), (150, .ireturn, 1)]  -- X7_peopleBy
def zi_121 : List (Nat × Instr × Nat) := [(0, .iload_n 2, 1), (1, .ifCond .lt 9, 3), (4, .iload_n 2, 1), (5, .bipush 6, 2), (7, .if_icmp .le 6, 3), (10, .bipush (-2), 2), (12, .ireturn, 1), (13, .iload_n 1, 1), (14, .ifCond .lt 9, 3), (17, .iload_n 1, 1), (18, .bipush 10, 2), (20, .if_icmp .lt 6, 3), (23, .bipush (-12), 2), (25, .ireturn, 1), (26, .iload_n 1, 1), (27, .iconst 4, 1), (28, .if_icmp .ge 26, 3), (31, .iload_n 2, 1), (32, .bipush 6, 2), (34, .if_icmp .ne 17, 3), (37, .aload_n 0, 1), (38, .getfield 10, 3), (41, .iload_n 1, 1), (42, .invokevirtual 112, 3), (45, .invokestatic 116, 3), (48, .goto 5, 3), (51, .bipush (-13), 2), (53, .ireturn, 1), (54, .iload_n 1, 1), (55, .iconst 4, 1), (56, .isub, 1), (57, .istore_n 3, 1), (58, .aload_n 0, 1), (59, .getfield 10, 3), (62, .iload_n 3, 1), (63, .invokevirtual 137, 3), (66, .ifCond .ne 6, 3), (69, .bipush (-11), 2), (71, .ireturn, 1), (72, .iload_n 2, 1), (73, .bipush 6, 2), (75, .if_icmp .ge 23, 3), (78, .aload_n 0, 1), (79, .getfield 10, 3), (82, .getfield 158, 3), (85, .iload_n 3, 1), (86, .iaload, 1), (87, .iload_n 2, 1), (88, .invokestatic 309, 3), (91, .ifCond .eq 7, 3), (94, .iload_n 3, 1), (95, .goto 5, 3), (98, .bipush (-13), 2), (100, .ireturn, 1)]  -- X7_taken
def zi_122 : List (Nat × Instr × Nat) := [(0, .aload_n 0, 1), (1, .getfield 10, 3), (4, .getfield 124, 3), (7, .ifCond .lt 33, 3), (10, .aload_n 0, 1), (11, .getfield 10, 3), (14, .getfield 124, 3), (17, .aload_n 0, 1), (18, .getfield 21, 3), (21, .arraylength, 1), (22, .if_icmp .ge 18, 3), (25, .aload_n 0, 1), (26, .getfield 21, 3), (29, .aload_n 0, 1), (30, .getfield 10, 3), (33, .getfield 124, 3), (36, .aaload, 1), (37, .goto 9, 3), (40, .aload_n 0, 1), (41, .getfield 21, 3), (44, .iconst 0, 1), (45, .aaload, 1), (46, .areturn, 1)]  -- X7_lawNow
def zi_123 : List (Nat × Instr × Nat) := [(0, .aload_n 0, 1), (1, .getfield 98, 3), (4, .ifCond .ne 39, 3), (7, .aload_n 0, 1), (8, .getfield 74, 3), (11, .aload_n 0, 1), (12, .invokevirtual 130, 3), (15, .invokevirtual 134, 3), (18, .aload_n 0, 1), (19, .getfield 83, 3), (22, .aload_n 0, 1), (23, .getfield 10, 3), (26, .invokevirtual 180, 3), (29, .iconst 0, 1), (30, .iconst (-1), 1), (31, .sipush 400, 3), (34, .invokevirtual 312, 3), (37, .pop, 1), (38, .aload_n 0, 1), (39, .iconst 1, 1), (40, .putfield 98, 3), (43, .return_, 1)]  -- X7_explore
def zi_124 : List (Nat × Instr × Nat) := [(0, .aload_n 0, 1), (1, .iconst 0, 1), (2, .putfield 98, 3), (5, .aload_n 0, 1), (6, .getfield 74, 3), (9, .aload_n 1, 1), (10, .invokevirtual 134, 3), (13, .aload_n 0, 1), (14, .getfield 83, 3), (17, .aload_n 0, 1), (18, .getfield 10, 3), (21, .invokevirtual 180, 3), (24, .iload_n 2, 1), (25, .aload_n 0, 1), (26, .getfield 74, 3), (29, .invokevirtual 230, 3), (32, .sipush 400, 3), (35, .invokevirtual 312, 3), (38, .ireturn, 1)]  -- X7_searchNow
def zi_125 : List (Nat × Instr × Nat) := [(0, .aload_n 0, 1), (1, .getfield 83, 3), (4, .iload_n 2, 1), (5, .iconst 0, 1), (6, .aload_n 0, 1), (7, .getfield 74, 3), (10, .invokevirtual 230, 3), (13, .iload_n 1, 1), (14, .invokevirtual 312, 3), (17, .iload_n 1, 1), (18, .if_icmp .ne 7, 3), (21, .iconst 1, 1), (22, .goto 4, 3), (25, .iconst 0, 1), (26, .ireturn, 1)]  -- X7_staysAt
def zi_126 : List (Nat × Instr × Nat) := [(0, .iload_n 0, 1), (1, .ifCond .lt 12, 3), (4, .iload_n 0, 1), (5, .iconst 4, 1), (6, .if_icmp .ge 7, 3), (9, .iconst 1, 1), (10, .goto 4, 3), (13, .iconst 0, 1), (14, .ireturn, 1)]  -- X7_isLanding
def zi_127 : List (Nat × Instr × Nat) := [(0, .iload_n 0, 1), (1, .ifCond .lt 14, 3), (4, .iload_n 0, 1), (5, .sipush 255, 3), (8, .if_icmp .gt 7, 3), (11, .iconst 1, 1), (12, .goto 4, 3), (15, .iconst 0, 1), (16, .ireturn, 1)]  -- X7_isByte
def zi_128 : List (Nat × Instr × Nat) := [(0, .iload_n 0, 1), (1, .ifCond .lt 12, 3), (4, .iload_n 0, 1), (5, .iconst 4, 1), (6, .if_icmp .ge 7, 3), (9, .iconst 1, 1), (10, .goto 4, 3), (13, .iconst 0, 1), (14, .ireturn, 1)]  -- X7_isSheet
def zi_129 : List (Nat × Instr × Nat) := [(0, .iload_n 0, 1), (1, .istore_n 2, 1), (2, .iconst 0, 1), (3, .istore_n 3, 1), (4, .iload_n 3, 1), (5, .bipush 6, 2), (7, .if_icmp .ge 34, 3), (10, .iload_n 2, 1), (11, .ifCond .lt 30, 3), (14, .iload_n 2, 1), (15, .getstatic 315, 3), (18, .arraylength, 1), (19, .if_icmp .ge 22, 3), (22, .iload_n 2, 1), (23, .iload_n 1, 1), (24, .if_icmp .ne 5, 3), (27, .iconst 1, 1), (28, .ireturn, 1), (29, .getstatic 315, 3), (32, .iload_n 2, 1), (33, .iaload, 1), (34, .istore_n 2, 1), (35, .iinc 3 1, 3), (38, .goto (-34), 3), (41, .iconst 0, 1), (42, .ireturn, 1)]  -- X7_isA
def zi_130 : List (Nat × Instr × Nat) := [(0, .iload_n 1, 1), (1, .istore_n 2, 1), (2, .iload_n 0, 1), (3, .istore_n 3, 1), (4, .iconst 0, 1), (5, .istore 4, 2), (7, .iload 4, 2), (9, .bipush 64, 2), (11, .if_icmp .ge 23, 3), (14, .iload_n 3, 1), (15, .ifCond .eq 19, 3), (18, .iload_n 2, 1), (19, .iload_n 3, 1), (20, .irem, 1), (21, .istore 5, 2), (23, .iload_n 3, 1), (24, .istore_n 2, 1), (25, .iload 5, 2), (27, .istore_n 3, 1), (28, .iinc 4 1, 3), (31, .goto (-24), 3), (34, .iload_n 2, 1), (35, .ireturn, 1)]  -- X7_commonDivisor
def zi_131 : List (Nat × Instr × Nat) := [(0, .aload_n 0, 1), (1, .invokespecial 1, 3), (4, .aload_n 0, 1), (5, .bipush 16, 2), (7, .newarray .int, 2), (9, .dup, 1), (10, .iconst 0, 1), (11, .iconst 0, 1), (12, .iastore, 1), (13, .dup, 1), (14, .iconst 1, 1), (15, .iconst 1, 1), (16, .iastore, 1), (17, .dup, 1), (18, .iconst 2, 1), (19, .iconst 2, 1), (20, .iastore, 1), (21, .dup, 1), (22, .iconst 3, 1), (23, .iconst 3, 1), (24, .iastore, 1), (25, .dup, 1), (26, .iconst 4, 1), (27, .iconst 1, 1), (28, .iastore, 1), (29, .dup, 1), (30, .iconst 5, 1), (31, .iconst 0, 1), (32, .iastore, 1), (33, .dup, 1), (34, .bipush 6, 2), (36, .iconst 1, 1), (37, .iastore, 1), (38, .dup, 1), (39, .bipush 7, 2), (41, .iconst 2, 1), (42, .iastore, 1), (43, .dup, 1), (44, .bipush 8, 2), (46, .iconst 2, 1), (47, .iastore, 1), (48, .dup, 1), (49, .bipush 9, 2), (51, .iconst 1, 1), (52, .iastore, 1), (53, .dup, 1), (54, .bipush 10, 2), (56, .iconst 0, 1), (57, .iastore, 1), (58, .dup, 1), (59, .bipush 11, 2), (61, .iconst 1, 1), (62, .iastore, 1), (63, .dup, 1), (64, .bipush 12, 2), (66, .iconst 3, 1), (67, .iastore, 1), (68, .dup, 1), (69, .bipush 13, 2), (71, .iconst 2, 1), (72, .iastore, 1), (73, .dup, 1), (74, .bipush 14, 2), (76, .iconst 1, 1), (77, .iastore, 1), (78, .dup, 1), (79, .bipush 15, 2), (81, .iconst 0, 1), (82, .iastore, 1), (83, .putfield 7, 3), (86, .aload_n 0, 1), (87, .bipush 7, 2), (89, .newarray .int, 2), (91, .putfield 13, 3), (94, .aload_n 0, 1), (95, .bipush 7, 2), (97, .newarray .int, 2), (99, .putfield 16, 3), (102, .aload_n 0, 1), (103, .bipush 7, 2), (105, .newarray .int, 2), (107, .putfield 19, 3), (110, .aload_n 0, 1), (111, .bipush 7, 2), (113, .newarray .int, 2), (115, .putfield 22, 3), (118, .aload_n 0, 1), (119, .bipush 7, 2), (121, .newarray .int, 2), (123, .putfield 25, 3), (126, .aload_n 0, 1), (127, .bipush 7, 2), (129, .newarray .int, 2), (131, .putfield 28, 3), (134, .aload_n 0, 1), (135, .bipush 7, 2), (137, .newarray .int, 2), (139, .putfield 31, 3), (142, .aload_n 0, 1), (143, .sipush 160, 3), (146, .newarray .byte, 2), (148, .putfield 34, 3), (151, .aload_n 0, 1), (152, .iconst 1, 1), (153, .putfield 38, 3), (156, .aload_n 0, 1), (157, .sipush 1190, 3), (160, .newarray .int, 2), (162, .putfield 42, 3), (165, .aload_n 0, 1), (166, .sipush 1190, 3), (169, .newarray .int, 2), (171, .putfield 45, 3), (174, .aload_n 0, 1), (175, .bipush 21, 2), (177, .newarray .int, 2), (179, .putfield 48, 3), (182, .aload_n 0, 1), (183, .sipush 170, 3), (186, .newarray .int, 2), (188, .putfield 51, 3), (191, .aload_n 0, 1), (192, .bipush 6, 2), (194, .newarray .int, 2), (196, .putfield 54, 3), (199, .aload_n 0, 1), (200, .bipush 47, 2), (202, .newarray .int, 2), (204, .dup, 1), (205, .iconst 0, 1), (206, .bipush 111, 2), (208, .iastore, 1), (209, .dup, 1), (210, .iconst 1, 1), (211, .bipush 102, 2), (213, .iastore, 1), (214, .dup, 1), (215, .iconst 2, 1), (216, .bipush 102, 2), (218, .iastore, 1), (219, .dup, 1), (220, .iconst 3, 1), (221, .bipush 32, 2), (223, .iastore, 1), (224, .dup, 1), (225, .iconst 4, 1), (226, .bipush 111, 2), (228, .iastore, 1), (229, .dup, 1), (230, .iconst 5, 1), (231, .bipush 110, 2), (233, .iastore, 1), (234, .dup, 1), (235, .bipush 6, 2), (237, .bipush 32, 2), (239, .iastore, 1), (240, .dup, 1), (241, .bipush 7, 2), (243, .bipush 97, 2), (245, .iastore, 1), (246, .dup, 1), (247, .bipush 8, 2), (249, .bipush 116, 2), (251, .iastore, 1), (252, .dup, 1), (253, .bipush 9, 2), (255, .bipush 32, 2), (257, .iastore, 1), (258, .dup, 1), (259, .bipush 10, 2), (261, .bipush 98, 2), (263, .iastore, 1), (264, .dup, 1), (265, .bipush 11, 2), (267, .bipush 97, 2), (269, .iastore, 1), (270, .dup, 1), (271, .bipush 12, 2), (273, .bipush 115, 2), (275, .iastore, 1), (276, .dup, 1), (277, .bipush 13, 2), (279, .bipush 101, 2), (281, .iastore, 1), (282, .dup, 1), (283, .bipush 14, 2), (285, .bipush 32, 2), (287, .iastore, 1), (288, .dup, 1), (289, .bipush 15, 2), (291, .bipush 104, 2), (293, .iastore, 1), (294, .dup, 1), (295, .bipush 16, 2), (297, .bipush 111, 2), (299, .iastore, 1), (300, .dup, 1), (301, .bipush 17, 2), (303, .bipush 117, 2), (305, .iastore, 1), (306, .dup, 1), (307, .bipush 18, 2), (309, .bipush 114, 2), (311, .iastore, 1), (312, .dup, 1), (313, .bipush 19, 2), (315, .bipush 32, 2), (317, .iastore, 1), (318, .dup, 1), (319, .bipush 20, 2), (321, .bipush 98, 2), (323, .iastore, 1), (324, .dup, 1), (325, .bipush 21, 2), (327, .bipush 121, 2), (329, .iastore, 1), (330, .dup, 1), (331, .bipush 22, 2), (333, .bipush 32, 2), (335, .iastore, 1), (336, .dup, 1), (337, .bipush 23, 2), (339, .bipush 109, 2), (341, .iastore, 1), (342, .dup, 1), (343, .bipush 24, 2), (345, .bipush 97, 2), (347, .iastore, 1), (348, .dup, 1), (349, .bipush 25, 2), (351, .bipush 121, 2), (353, .iastore, 1), (354, .dup, 1), (355, .bipush 26, 2), (357, .bipush 32, 2), (359, .iastore, 1), (360, .dup, 1), (361, .bipush 27, 2), (363, .bipush 114, 2), (365, .iastore, 1), (366, .dup, 1), (367, .bipush 28, 2), (369, .bipush 111, 2), (371, .iastore, 1), (372, .dup, 1), (373, .bipush 29, 2), (375, .bipush 119, 2), (377, .iastore, 1), (378, .dup, 1), (379, .bipush 30, 2), (381, .bipush 32, 2), (383, .iastore, 1), (384, .dup, 1), (385, .bipush 31, 2), (387, .bipush 103, 2), (389, .iastore, 1), (390, .dup, 1), (391, .bipush 32, 2), (393, .bipush 97, 2), (395, .iastore, 1), (396, .dup, 1), (397, .bipush 33, 2), (399, .bipush 105, 2), (401, .iastore, 1), (402, .dup, 1), (403, .bipush 34, 2), (405, .bipush 110, 2), (407, .iastore, 1), (408, .dup, 1), (409, .bipush 35, 2), (411, .bipush 32, 2), (413, .iastore, 1), (414, .dup, 1), (415, .bipush 36, 2), (417, .bipush 111, 2), (419, .iastore, 1), (420, .dup, 1), (421, .bipush 37, 2), (423, .bipush 114, 2), (425, .iastore, 1), (426, .dup, 1), (427, .bipush 38, 2), (429, .bipush 32, 2), (431, .iastore, 1), (432, .dup, 1), (433, .bipush 39, 2), (435, .bipush 97, 2), (437, .iastore, 1), (438, .dup, 1), (439, .bipush 40, 2), (441, .bipush 110, 2), (443, .iastore, 1), (444, .dup, 1), (445, .bipush 41, 2), (447, .bipush 100, 2), (449, .iastore, 1), (450, .dup, 1), (451, .bipush 42, 2), (453, .bipush 32, 2), (455, .iastore, 1), (456, .dup, 1), (457, .bipush 43, 2), (459, .bipush 110, 2), (461, .iastore, 1), (462, .dup, 1), (463, .bipush 44, 2), (465, .bipush 111, 2), (467, .iastore, 1), (468, .dup, 1), (469, .bipush 45, 2), (471, .bipush 116, 2), (473, .iastore, 1), (474, .dup, 1), (475, .bipush 46, 2), (477, .bipush 32, 2), (479, .iastore, 1), (480, .putfield 57, 3), (483, .aload_n 0, 1), (484, .bipush 12, 2), (486, .newarray .int, 2), (488, .dup, 1), (489, .iconst 0, 1), (490, .iconst 0, 1), (491, .iastore, 1), (492, .dup, 1), (493, .iconst 1, 1), (494, .iconst 1, 1), (495, .iastore, 1), (496, .dup, 1), (497, .iconst 2, 1), (498, .iconst 2, 1), (499, .iastore, 1), (500, .dup, 1), (501, .iconst 3, 1), (502, .iconst 3, 1), (503, .iastore, 1), (504, .dup, 1), (505, .iconst 4, 1), (506, .iconst 4, 1), (507, .iastore, 1), (508, .dup, 1), (509, .iconst 5, 1), (510, .iconst 5, 1), (511, .iastore, 1), (512, .dup, 1), (513, .bipush 6, 2), (515, .bipush 10, 2), (517, .iastore, 1), (518, .dup, 1), (519, .bipush 7, 2), (521, .bipush 11, 2), (523, .iastore, 1), (524, .dup, 1), (525, .bipush 8, 2), (527, .bipush 12, 2), (529, .iastore, 1), (530, .dup, 1), (531, .bipush 9, 2), (533, .bipush 13, 2), (535, .iastore, 1), (536, .dup, 1), (537, .bipush 10, 2), (539, .bipush 14, 2), (541, .iastore, 1), (542, .dup, 1), (543, .bipush 11, 2), (545, .bipush 15, 2), (547, .iastore, 1), (548, .putfield 60, 3), (551, .aload_n 0, 1), (552, .bipush 16, 2), (554, .newarray .int, 2), (556, .putfield 63, 3), (559, .aload_n 0, 1), (560, .bipush 16, 2), (562, .newarray .int, 2), (564, .putfield 66, 3), (567, .aload_n 0, 1), (568, .bipush 16, 2), (570, .newarray .int, 2), (572, .putfield 69, 3), (575, .aload_n 0, 1), (576, .bipush 7, 2), (578, .newarray .int, 2), (580, .putfield 72, 3), (583, .aload_n 0, 1), (584, .sipush 1500, 3), (587, .newarray .int, 2), (589, .putfield 75, 3), (592, .aload_n 0, 1), (593, .sipush 1500, 3), (596, .newarray .int, 2), (598, .putfield 78, 3), (601, .aload_n 0, 1), (602, .sipush 1500, 3), (605, .newarray .boolean, 2), (607, .putfield 81, 3), (610, .aload_n 0, 1), (611, .sipush 4096, 3), (614, .newarray .int, 2), (616, .putfield 85, 3), (619, .aload_n 0, 1), (620, .bipush 7, 2), (622, .newarray .int, 2), (624, .putfield 88, 3), (627, .aload_n 0, 1), (628, .iconst 4, 1), (629, .newarray .int, 2), (631, .putfield 91, 3), (634, .aload_n 0, 1), (635, .bipush 6, 2), (637, .newarray .int, 2), (639, .putfield 94, 3), (642, .aload_n 0, 1), (643, .bipush 6, 2), (645, .newarray .int, 2), (647, .putfield 97, 3), (650, .aload_n 0, 1), (651, .bipush 16, 2), (653, .newarray .int, 2), (655, .putfield 100, 3), (658, .aload_n 0, 1), (659, .iconst 4, 1), (660, .newarray .int, 2), (662, .dup, 1), (663, .iconst 0, 1), (664, .iconst (-1), 1), (665, .iastore, 1), (666, .dup, 1), (667, .iconst 1, 1), (668, .iconst (-1), 1), (669, .iastore, 1), (670, .dup, 1), (671, .iconst 2, 1), (672, .iconst (-1), 1), (673, .iastore, 1), (674, .dup, 1), (675, .iconst 3, 1), (676, .iconst (-1), 1), (677, .iastore, 1), (678, .putfield 103, 3), (681, .aload_n 0, 1), (682, .iconst 4, 1), (683, .newarray .int, 2), (685, .putfield 106, 3), (688, .aload_n 0, 1), (689, .sipush 160, 3), (692, .newarray .int, 2), (694, .putfield 109, 3), (697, .aload_n 0, 1), (698, .bipush 40, 2), (700, .newarray .int, 2), (702, .putfield 112, 3), (705, .return_, 1)]  -- X8_init
def zi_132 : List (Nat × Instr × Nat) := [(0, .iload_n 0, 1), (1, .iload_n 1, 1), (2, .if_icmp .lt 12, 3), (5, .iload_n 0, 1), (6, .iload_n 2, 1), (7, .if_icmp .gt 7, 3), (10, .iconst 1, 1), (11, .goto 4, 3), (14, .iconst 0, 1), (15, .ireturn, 1)]  -- X8_in
def zi_133 : List (Nat × Instr × Nat) := [(0, .iload_n 0, 1), (1, .iload_n 1, 1), (2, .if_icmp .ge 7, 3), (5, .iload_n 1, 1), (6, .goto 13, 3), (9, .iload_n 0, 1), (10, .iload_n 2, 1), (11, .if_icmp .le 7, 3), (14, .iload_n 2, 1), (15, .goto 4, 3), (18, .iload_n 0, 1), (19, .ireturn, 1)]  -- X8_held
def zi_134 : List (Nat × Instr × Nat) := [(0, .iload_n 0, 1), (1, .iconst 0, 1), (2, .iconst 3, 1), (3, .invokestatic 118, 3), (6, .ireturn, 1)]  -- X8_isLanding
def zi_135 : List (Nat × Instr × Nat) := [(0, .iload_n 1, 1), (1, .iconst 0, 1), (2, .aload_n 0, 1), (3, .getfield 122, 3), (6, .iconst 1, 1), (7, .isub, 1), (8, .invokestatic 118, 3), (11, .ireturn, 1)]  -- X8_isOne
def zi_136 : List (Nat × Instr × Nat) := [(0, .iload_n 1, 1), (1, .invokestatic 125, 3), (4, .ifCond .eq 15, 3), (7, .iload_n 2, 1), (8, .invokestatic 125, 3), (11, .ifCond .eq 8, 3), (14, .iload_n 1, 1), (15, .iload_n 2, 1), (16, .if_icmp .ne 5, 3), (19, .iconst (-1), 1), (20, .ireturn, 1), (21, .iload_n 3, 1), (22, .iconst 1, 1), (23, .bipush 9, 2), (25, .invokestatic 118, 3), (28, .ifCond .ne 6, 3), (31, .bipush (-2), 2), (33, .ireturn, 1), (34, .aload_n 0, 1), (35, .getfield 7, 3), (38, .iconst 4, 1), (39, .iload_n 1, 1), (40, .imul, 1), (41, .iload_n 2, 1), (42, .iadd, 1), (43, .iaload, 1), (44, .istore 4, 2), (46, .aload_n 0, 1), (47, .getfield 7, 3), (50, .iconst 4, 1), (51, .iload_n 1, 1), (52, .imul, 1), (53, .iload_n 2, 1), (54, .iadd, 1), (55, .iload_n 3, 1), (56, .iastore, 1), (57, .aload_n 0, 1), (58, .getfield 7, 3), (61, .iconst 4, 1), (62, .iload_n 2, 1), (63, .imul, 1), (64, .iload_n 1, 1), (65, .iadd, 1), (66, .iload_n 3, 1), (67, .iastore, 1), (68, .iload 4, 2), (70, .ireturn, 1)]  -- X8_far
def zi_137 : List (Nat × Instr × Nat) := [(0, .iload_n 1, 1), (1, .invokestatic 125, 3), (4, .ifCond .ne 6, 3), (7, .bipush (-2), 2), (9, .ireturn, 1), (10, .aload_n 0, 1), (11, .getfield 129, 3), (14, .istore_n 2, 1), (15, .aload_n 0, 1), (16, .iload_n 1, 1), (17, .putfield 129, 3), (20, .iload_n 2, 1), (21, .ireturn, 1)]  -- X8_moor
def zi_138 : List (Nat × Instr × Nat) := [(0, .iconst 0, 1), (1, .istore_n 2, 1), (2, .iconst 0, 1), (3, .istore_n 3, 1), (4, .iload_n 3, 1), (5, .aload_n 0, 1), (6, .getfield 122, 3), (9, .if_icmp .ge 27, 3), (12, .iload_n 2, 1), (13, .aload_n 0, 1), (14, .getfield 16, 3), (17, .iload_n 3, 1), (18, .iaload, 1), (19, .iload_n 1, 1), (20, .if_icmp .ne 7, 3), (23, .iconst 1, 1), (24, .goto 4, 3), (27, .iconst 0, 1), (28, .iadd, 1), (29, .istore_n 2, 1), (30, .iinc 3 1, 3), (33, .goto (-29), 3), (36, .iload_n 2, 1), (37, .ireturn, 1)]  -- X8_manyAt
def zi_139 : List (Nat × Instr × Nat) := [(0, .iload_n 1, 1), (1, .tableswitch 79 0 6 #[43, 48, 53, 59, 64, 69, 74], 43), (44, .aload_n 0, 1), (45, .getfield 129, 3), (48, .ireturn, 1), (49, .aload_n 0, 1), (50, .getfield 122, 3), (53, .ireturn, 1), (54, .aload_n 0, 1), (55, .iconst 4, 1), (56, .invokevirtual 132, 3), (59, .ireturn, 1), (60, .aload_n 0, 1), (61, .getfield 136, 3), (64, .ireturn, 1), (65, .aload_n 0, 1), (66, .getfield 38, 3), (69, .ireturn, 1), (70, .aload_n 0, 1), (71, .getfield 139, 3), (74, .ireturn, 1), (75, .aload_n 0, 1), (76, .getfield 142, 3), (79, .ireturn, 1), (80, .bipush (-2), 2), (82, .ireturn, 1)]  -- X8_count
def zi_140 : List (Nat × Instr × Nat) := [(0, .iload_n 0, 1), (1, .iconst 0, 1), (2, .sipush 255, 3), (5, .invokestatic 118, 3), (8, .ireturn, 1)]  -- X8_isByte
def zi_141 : List (Nat × Instr × Nat) := [(0, .aload_n 0, 1), (1, .getfield 34, 3), (4, .aload_n 0, 1), (5, .getfield 142, 3), (8, .iload_n 1, 1), (9, .i2b, 1), (10, .bastore, 1), (11, .aload_n 0, 1), (12, .dup, 1), (13, .getfield 142, 3), (16, .iconst 1, 1), (17, .iadd, 1), (18, .putfield 142, 3), (21, .return_, 1)]  -- X8_adds
def zi_142 : List (Nat × Instr × Nat) := [(0, .iload_n 1, 1), (1, .iconst 1, 1), (2, .iconst 5, 1), (3, .invokestatic 118, 3), (6, .ifCond .eq 41, 3), (9, .iload_n 2, 1), (10, .invokestatic 145, 3), (13, .ifCond .eq 34, 3), (16, .iload_n 3, 1), (17, .invokestatic 145, 3), (20, .ifCond .eq 27, 3), (23, .iload 4, 2), (25, .invokestatic 145, 3), (28, .ifCond .eq 19, 3), (31, .iload 5, 2), (33, .invokestatic 145, 3), (36, .ifCond .eq 11, 3), (39, .iload 6, 2), (41, .invokestatic 145, 3), (44, .ifCond .ne 6, 3), (47, .bipush (-2), 2), (49, .ireturn, 1), (50, .aload_n 0, 1), (51, .getfield 142, 3), (54, .iload_n 1, 1), (55, .iadd, 1), (56, .sipush 160, 3), (59, .if_icmp .le 6, 3), (62, .bipush (-4), 2), (64, .ireturn, 1), (65, .aload_n 0, 1), (66, .iload_n 2, 1), (67, .invokevirtual 148, 3), (70, .iload_n 1, 1), (71, .iconst 1, 1), (72, .if_icmp .le 8, 3), (75, .aload_n 0, 1), (76, .iload_n 3, 1), (77, .invokevirtual 148, 3), (80, .iload_n 1, 1), (81, .iconst 2, 1), (82, .if_icmp .le 9, 3), (85, .aload_n 0, 1), (86, .iload 4, 2), (88, .invokevirtual 148, 3), (91, .iload_n 1, 1), (92, .iconst 3, 1), (93, .if_icmp .le 9, 3), (96, .aload_n 0, 1), (97, .iload 5, 2), (99, .invokevirtual 148, 3), (102, .iload_n 1, 1), (103, .iconst 4, 1), (104, .if_icmp .le 9, 3), (107, .aload_n 0, 1), (108, .iload 6, 2), (110, .invokevirtual 148, 3), (113, .aload_n 0, 1), (114, .getfield 142, 3), (117, .ireturn, 1)]  -- X8_feed
def zi_143 : List (Nat × Instr × Nat) := [(0, .iload_n 0, 1), (1, .bipush 97, 2), (3, .bipush 122, 2), (5, .invokestatic 118, 3), (8, .ireturn, 1)]  -- X8_isLetter
def zi_144 : List (Nat × Instr × Nat) := [(0, .iload_n 0, 1), (1, .bipush 48, 2), (3, .bipush 57, 2), (5, .invokestatic 118, 3), (8, .ireturn, 1)]  -- X8_isDigit
def zi_145 : List (Nat × Instr × Nat) := [(0, .iconst 0, 1), (1, .istore_n 1, 1), (2, .iconst 0, 1), (3, .istore_n 2, 1), (4, .iload_n 2, 1), (5, .bipush 12, 2), (7, .if_icmp .ge 86, 3), (10, .aload_n 0, 1), (11, .getfield 152, 3), (14, .istore_n 3, 1), (15, .iconst 1, 1), (16, .istore 4, 2), (18, .aload_n 0, 1), (19, .getfield 57, 3), (22, .iload_n 1, 1), (23, .iaload, 1), (24, .bipush 32, 2), (26, .if_icmp .eq 38, 3), (29, .iload_n 3, 1), (30, .aload_n 0, 1), (31, .getfield 155, 3), (34, .if_icmp .ge 18, 3), (37, .aload_n 0, 1), (38, .getfield 34, 3), (41, .iload_n 3, 1), (42, .baload, 1), (43, .aload_n 0, 1), (44, .getfield 57, 3), (47, .iload_n 1, 1), (48, .iaload, 1), (49, .if_icmp .eq 6, 3), (52, .iconst 0, 1), (53, .istore 4, 2), (55, .iinc 3 1, 3), (58, .iinc 1 1, 3), (61, .goto (-43), 3), (64, .iinc 1 1, 3), (67, .iload 4, 2), (69, .ifCond .eq 18, 3), (72, .iload_n 3, 1), (73, .aload_n 0, 1), (74, .getfield 155, 3), (77, .if_icmp .ne 10, 3), (80, .aload_n 0, 1), (81, .getfield 60, 3), (84, .iload_n 2, 1), (85, .iaload, 1), (86, .ireturn, 1), (87, .iinc 2 1, 3), (90, .goto (-86), 3), (93, .iconst (-1), 1), (94, .ireturn, 1)]  -- X8_wordNow
def zi_146 : List (Nat × Instr × Nat) := [(0, .aload_n 0, 1), (1, .aload_n 0, 1), (2, .getfield 155, 3), (5, .putfield 152, 3), (8, .aload_n 0, 1), (9, .getfield 152, 3), (12, .aload_n 0, 1), (13, .getfield 142, 3), (16, .if_icmp .ge 44, 3), (19, .aload_n 0, 1), (20, .getfield 34, 3), (23, .aload_n 0, 1), (24, .getfield 152, 3), (27, .baload, 1), (28, .bipush 32, 2), (30, .if_icmp .eq 17, 3), (33, .aload_n 0, 1), (34, .getfield 34, 3), (37, .aload_n 0, 1), (38, .getfield 152, 3), (41, .baload, 1), (42, .bipush 10, 2), (44, .if_icmp .ne 16, 3), (47, .aload_n 0, 1), (48, .dup, 1), (49, .getfield 152, 3), (52, .iconst 1, 1), (53, .iadd, 1), (54, .putfield 152, 3), (57, .goto (-49), 3), (60, .aload_n 0, 1), (61, .aload_n 0, 1), (62, .getfield 152, 3), (65, .putfield 155, 3), (68, .aload_n 0, 1), (69, .getfield 152, 3), (72, .aload_n 0, 1), (73, .getfield 142, 3), (76, .if_icmp .lt 17, 3), (79, .aload_n 0, 1), (80, .aload_n 0, 1), (81, .getfield 142, 3), (84, .putfield 152, 3), (87, .aload_n 0, 1), (88, .iconst 4, 1), (89, .putfield 158, 3), (92, .return_, 1), (93, .aload_n 0, 1), (94, .getfield 34, 3), (97, .aload_n 0, 1), (98, .getfield 152, 3), (101, .baload, 1), (102, .istore_n 1, 1), (103, .iload_n 1, 1), (104, .invokestatic 161, 3), (107, .ifCond .eq 69, 3), (110, .aload_n 0, 1), (111, .getfield 155, 3), (114, .aload_n 0, 1), (115, .getfield 142, 3), (118, .if_icmp .ge 31, 3), (121, .aload_n 0, 1), (122, .getfield 34, 3), (125, .aload_n 0, 1), (126, .getfield 155, 3), (129, .baload, 1), (130, .invokestatic 161, 3), (133, .ifCond .eq 16, 3), (136, .aload_n 0, 1), (137, .dup, 1), (138, .getfield 155, 3), (141, .iconst 1, 1), (142, .iadd, 1), (143, .putfield 155, 3), (146, .goto (-36), 3), (149, .aload_n 0, 1), (150, .aload_n 0, 1), (151, .invokevirtual 164, 3), (154, .putfield 168, 3), (157, .aload_n 0, 1), (158, .aload_n 0, 1), (159, .getfield 168, 3), (162, .ifCond .ge 7, 3), (165, .iconst 5, 1), (166, .goto 4, 3), (169, .iconst 1, 1), (170, .putfield 158, 3), (173, .goto 188, 3), (176, .iload_n 1, 1), (177, .invokestatic 171, 3), (180, .ifCond .eq 109, 3), (183, .aload_n 0, 1), (184, .iconst 0, 1), (185, .putfield 168, 3), (188, .aload_n 0, 1), (189, .getfield 155, 3), (192, .aload_n 0, 1), (193, .getfield 142, 3), (196, .if_icmp .ge 68, 3), (199, .aload_n 0, 1), (200, .getfield 34, 3), (203, .aload_n 0, 1), (204, .getfield 155, 3), (207, .baload, 1), (208, .invokestatic 171, 3), (211, .ifCond .eq 53, 3), (214, .aload_n 0, 1), (215, .getfield 155, 3), (218, .aload_n 0, 1), (219, .getfield 152, 3), (222, .isub, 1), (223, .iconst 4, 1), (224, .if_icmp .ge 27, 3), (227, .aload_n 0, 1), (228, .bipush 10, 2), (230, .aload_n 0, 1), (231, .getfield 168, 3), (234, .imul, 1), (235, .aload_n 0, 1), (236, .getfield 34, 3), (239, .aload_n 0, 1), (240, .getfield 155, 3), (243, .baload, 1), (244, .iadd, 1), (245, .bipush 48, 2), (247, .isub, 1), (248, .putfield 168, 3), (251, .aload_n 0, 1), (252, .dup, 1), (253, .getfield 155, 3), (256, .iconst 1, 1), (257, .iadd, 1), (258, .putfield 155, 3), (261, .goto (-73), 3), (264, .aload_n 0, 1), (265, .aload_n 0, 1), (266, .getfield 155, 3), (269, .aload_n 0, 1), (270, .getfield 152, 3), (273, .isub, 1), (274, .iconst 4, 1), (275, .if_icmp .le 7, 3), (278, .iconst 5, 1), (279, .goto 4, 3), (282, .iconst 2, 1), (283, .putfield 158, 3), (286, .goto 75, 3), (289, .aload_n 0, 1), (290, .dup, 1), (291, .getfield 155, 3), (294, .iconst 1, 1), (295, .iadd, 1), (296, .putfield 155, 3), (299, .aload_n 0, 1), (300, .iload_n 1, 1), (301, .putfield 168, 3), (304, .aload_n 0, 1), (305, .iload_n 1, 1), (306, .bipush 40, 2), (308, .if_icmp .eq 45, 3), (311, .iload_n 1, 1), (312, .bipush 41, 2), (314, .if_icmp .eq 39, 3), (317, .iload_n 1, 1), (318, .bipush 59, 2), (320, .if_icmp .eq 33, 3), (323, .iload_n 1, 1), (324, .bipush 43, 2), (326, .if_icmp .eq 27, 3), (329, .iload_n 1, 1), (330, .bipush 45, 2), (332, .if_icmp .eq 21, 3), (335, .iload_n 1, 1), (336, .bipush 42, 2), (338, .if_icmp .eq 15, 3), (341, .iload_n 1, 1), (342, .bipush 60, 2), (344, .if_icmp .eq 9, 3), (347, .iload_n 1, 1), (348, .bipush 61, 2), (350, .if_icmp .ne 7, 3), (353, .iconst 3, 1), (354, .goto 4, 3), (357, .iconst 5, 1), (358, .putfield 158, 3), (361, .return_, 1)]  -- X8_next
def zi_147 : List (Nat × Instr × Nat) := [(0, .aload_n 0, 1), (1, .getfield 174, 3), (4, .ifCond .ge 11, 3), (7, .aload_n 0, 1), (8, .aload_n 0, 1), (9, .getfield 152, 3), (12, .putfield 174, 3), (15, .return_, 1)]  -- X8_faulty
def zi_148 : List (Nat × Instr × Nat) := [(0, .aload_n 0, 1), (1, .getfield 174, 3), (4, .ifCond .ge 23, 3), (7, .aload_n 0, 1), (8, .getfield 158, 3), (11, .iconst 3, 1), (12, .if_icmp .ne 15, 3), (15, .aload_n 0, 1), (16, .getfield 168, 3), (19, .iload_n 1, 1), (20, .if_icmp .ne 7, 3), (23, .iconst 1, 1), (24, .goto 4, 3), (27, .iconst 0, 1), (28, .ireturn, 1)]  -- X8_isSign
def zi_149 : List (Nat × Instr × Nat) := [(0, .aload_n 0, 1), (1, .getfield 174, 3), (4, .ifCond .ge 23, 3), (7, .aload_n 0, 1), (8, .getfield 158, 3), (11, .iconst 1, 1), (12, .if_icmp .ne 15, 3), (15, .aload_n 0, 1), (16, .getfield 168, 3), (19, .iload_n 1, 1), (20, .if_icmp .ne 7, 3), (23, .iconst 1, 1), (24, .goto 4, 3), (27, .iconst 0, 1), (28, .ireturn, 1)]  -- X8_isKey
def zi_150 : List (Nat × Instr × Nat) := [(0, .aload_n 0, 1), (1, .getfield 42, 3), (4, .sipush 1020, 3), (7, .aload_n 0, 1), (8, .getfield 177, 3), (11, .iadd, 1), (12, .iload_n 1, 1), (13, .iastore, 1), (14, .aload_n 0, 1), (15, .getfield 45, 3), (18, .sipush 1020, 3), (21, .aload_n 0, 1), (22, .getfield 177, 3), (25, .iadd, 1), (26, .iload_n 2, 1), (27, .iastore, 1), (28, .aload_n 0, 1), (29, .dup, 1), (30, .getfield 177, 3), (33, .iconst 1, 1), (34, .iadd, 1), (35, .putfield 177, 3), (38, .return_, 1)]  -- X8_addStep
def zi_151 : List (Nat × Instr × Nat) := [(0, .aload_n 0, 1), (1, .getfield 180, 3), (4, .iconst 5, 1), (5, .if_icmp .ne 9, 3), (8, .aload_n 0, 1), (9, .invokevirtual 183, 3), (12, .iconst 0, 1), (13, .ireturn, 1), (14, .aload_n 0, 1), (15, .dup, 1), (16, .getfield 180, 3), (19, .iconst 1, 1), (20, .iadd, 1), (21, .putfield 180, 3), (24, .aload_n 0, 1), (25, .invokevirtual 186, 3), (28, .iconst 1, 1), (29, .ireturn, 1)]  -- X8_op-ens
def zi_152 : List (Nat × Instr × Nat) := [(0, .aload_n 0, 1), (1, .invokevirtual 189, 3), (4, .aload_n 0, 1), (5, .bipush 13, 2), (7, .invokevirtual 192, 3), (10, .ifCond .eq 20, 3), (13, .aload_n 0, 1), (14, .invokevirtual 186, 3), (17, .aload_n 0, 1), (18, .invokevirtual 189, 3), (21, .aload_n 0, 1), (22, .iconst 5, 1), (23, .iconst 0, 1), (24, .invokevirtual 195, 3), (27, .goto (-23), 3), (30, .return_, 1)]  -- X8_either
def zi_153 : List (Nat × Instr × Nat) := [(0, .aload_n 0, 1), (1, .invokevirtual 199, 3), (4, .aload_n 0, 1), (5, .bipush 14, 2), (7, .invokevirtual 192, 3), (10, .ifCond .eq 21, 3), (13, .aload_n 0, 1), (14, .invokevirtual 186, 3), (17, .aload_n 0, 1), (18, .invokevirtual 199, 3), (21, .aload_n 0, 1), (22, .bipush 6, 2), (24, .iconst 0, 1), (25, .invokevirtual 195, 3), (28, .goto (-24), 3), (31, .return_, 1)]  -- X8_allOf
def zi_154 : List (Nat × Instr × Nat) := [(0, .aload_n 0, 1), (1, .bipush 15, 2), (3, .invokevirtual 192, 3), (6, .ifCond .eq 32, 3), (9, .aload_n 0, 1), (10, .invokevirtual 202, 3), (13, .ifCond .ne 4, 3), (16, .return_, 1), (17, .aload_n 0, 1), (18, .invokevirtual 199, 3), (21, .aload_n 0, 1), (22, .dup, 1), (23, .getfield 180, 3), (26, .iconst 1, 1), (27, .isub, 1), (28, .putfield 180, 3), (31, .aload_n 0, 1), (32, .iconst 3, 1), (33, .iconst 0, 1), (34, .invokevirtual 195, 3), (37, .return_, 1), (38, .aload_n 0, 1), (39, .invokevirtual 206, 3), (42, .aload_n 0, 1), (43, .bipush 60, 2), (45, .invokevirtual 209, 3), (48, .ifCond .ne 13, 3), (51, .aload_n 0, 1), (52, .bipush 61, 2), (54, .invokevirtual 209, 3), (57, .ifCond .ne 4, 3), (60, .return_, 1), (61, .aload_n 0, 1), (62, .getfield 168, 3), (65, .istore_n 1, 1), (66, .aload_n 0, 1), (67, .invokevirtual 186, 3), (70, .aload_n 0, 1), (71, .invokevirtual 206, 3), (74, .aload_n 0, 1), (75, .iload_n 1, 1), (76, .iconst 0, 1), (77, .invokevirtual 195, 3), (80, .return_, 1)]  -- X8_denied
def zi_155 : List (Nat × Instr × Nat) := [(0, .aload_n 0, 1), (1, .invokevirtual 212, 3), (4, .aload_n 0, 1), (5, .bipush 43, 2), (7, .invokevirtual 209, 3), (10, .ifCond .ne 12, 3), (13, .aload_n 0, 1), (14, .bipush 45, 2), (16, .invokevirtual 209, 3), (19, .ifCond .eq 25, 3), (22, .aload_n 0, 1), (23, .getfield 168, 3), (26, .istore_n 1, 1), (27, .aload_n 0, 1), (28, .invokevirtual 186, 3), (31, .aload_n 0, 1), (32, .invokevirtual 212, 3), (35, .aload_n 0, 1), (36, .iload_n 1, 1), (37, .iconst 0, 1), (38, .invokevirtual 195, 3), (41, .goto (-37), 3), (44, .return_, 1)]  -- X8_sum
def zi_156 : List (Nat × Instr × Nat) := [(0, .aload_n 0, 1), (1, .invokevirtual 215, 3), (4, .aload_n 0, 1), (5, .bipush 42, 2), (7, .invokevirtual 209, 3), (10, .ifCond .eq 21, 3), (13, .aload_n 0, 1), (14, .invokevirtual 186, 3), (17, .aload_n 0, 1), (18, .invokevirtual 215, 3), (21, .aload_n 0, 1), (22, .bipush 42, 2), (24, .iconst 0, 1), (25, .invokevirtual 195, 3), (28, .goto (-24), 3), (31, .return_, 1)]  -- X8_term
def zi_157 : List (Nat × Instr × Nat) := [(0, .aload_n 0, 1), (1, .getfield 174, 3), (4, .ifCond .lt 4, 3), (7, .return_, 1), (8, .aload_n 0, 1), (9, .getfield 158, 3), (12, .iconst 2, 1), (13, .if_icmp .ne 19, 3), (16, .aload_n 0, 1), (17, .iconst 1, 1), (18, .aload_n 0, 1), (19, .getfield 168, 3), (22, .invokevirtual 195, 3), (25, .aload_n 0, 1), (26, .invokevirtual 186, 3), (29, .goto 132, 3), (32, .aload_n 0, 1), (33, .getfield 158, 3), (36, .iconst 1, 1), (37, .if_icmp .ne 28, 3), (40, .aload_n 0, 1), (41, .getfield 168, 3), (44, .bipush 6, 2), (46, .if_icmp .ge 19, 3), (49, .aload_n 0, 1), (50, .iconst 2, 1), (51, .aload_n 0, 1), (52, .getfield 168, 3), (55, .invokevirtual 195, 3), (58, .aload_n 0, 1), (59, .invokevirtual 186, 3), (62, .goto 99, 3), (65, .aload_n 0, 1), (66, .bipush 45, 2), (68, .invokevirtual 209, 3), (71, .ifCond .eq 34, 3), (74, .aload_n 0, 1), (75, .invokevirtual 202, 3), (78, .ifCond .ne 4, 3), (81, .return_, 1), (82, .aload_n 0, 1), (83, .invokevirtual 215, 3), (86, .aload_n 0, 1), (87, .dup, 1), (88, .getfield 180, 3), (91, .iconst 1, 1), (92, .isub, 1), (93, .putfield 180, 3), (96, .aload_n 0, 1), (97, .iconst 4, 1), (98, .iconst 0, 1), (99, .invokevirtual 195, 3), (102, .goto 59, 3), (105, .aload_n 0, 1), (106, .bipush 40, 2), (108, .invokevirtual 209, 3), (111, .ifCond .eq 46, 3), (114, .aload_n 0, 1), (115, .invokevirtual 202, 3), (118, .ifCond .ne 4, 3), (121, .return_, 1), (122, .aload_n 0, 1), (123, .invokevirtual 218, 3), (126, .aload_n 0, 1), (127, .bipush 41, 2), (129, .invokevirtual 209, 3), (132, .ifCond .ne 8, 3), (135, .aload_n 0, 1), (136, .invokevirtual 183, 3), (139, .return_, 1), (140, .aload_n 0, 1), (141, .dup, 1), (142, .getfield 180, 3), (145, .iconst 1, 1), (146, .isub, 1), (147, .putfield 180, 3), (150, .aload_n 0, 1), (151, .invokevirtual 186, 3), (154, .goto 7, 3), (157, .aload_n 0, 1), (158, .invokevirtual 183, 3), (161, .return_, 1)]  -- X8_one
def zi_158 : List (Nat × Instr × Nat) := [(0, .aload_n 0, 1), (1, .bipush 10, 2), (3, .iload_n 1, 1), (4, .iadd, 1), (5, .invokevirtual 192, 3), (8, .ifCond .ne 8, 3), (11, .aload_n 0, 1), (12, .invokevirtual 183, 3), (15, .return_, 1), (16, .aload_n 0, 1), (17, .invokevirtual 186, 3), (20, .aload_n 0, 1), (21, .invokevirtual 218, 3), (24, .aload_n 0, 1), (25, .bipush 59, 2), (27, .invokevirtual 209, 3), (30, .ifCond .ne 8, 3), (33, .aload_n 0, 1), (34, .invokevirtual 183, 3), (37, .return_, 1), (38, .aload_n 0, 1), (39, .invokevirtual 186, 3), (42, .aload_n 0, 1), (43, .getfield 48, 3), (46, .bipush 18, 2), (48, .iload_n 1, 1), (49, .iadd, 1), (50, .aload_n 0, 1), (51, .getfield 177, 3), (54, .iastore, 1), (55, .return_, 1)]  -- X8_rule
def zi_159 : List (Nat × Instr × Nat) := [(0, .aload_n 0, 1), (1, .getfield 38, 3), (4, .bipush 6, 2), (6, .if_icmp .ne 6, 3), (9, .bipush (-4), 2), (11, .ireturn, 1), (12, .aload_n 0, 1), (13, .iconst 0, 1), (14, .putfield 155, 3), (17, .aload_n 0, 1), (18, .iconst (-1), 1), (19, .putfield 174, 3), (22, .aload_n 0, 1), (23, .iconst 0, 1), (24, .putfield 180, 3), (27, .aload_n 0, 1), (28, .iconst 0, 1), (29, .putfield 177, 3), (32, .aload_n 0, 1), (33, .invokevirtual 186, 3), (36, .iconst 0, 1), (37, .istore_n 1, 1), (38, .iload_n 1, 1), (39, .iconst 2, 1), (40, .if_icmp .gt 21, 3), (43, .aload_n 0, 1), (44, .getfield 174, 3), (47, .ifCond .ge 14, 3), (50, .aload_n 0, 1), (51, .iload_n 1, 1), (52, .invokevirtual 221, 3), (55, .iinc 1 1, 3), (58, .goto (-20), 3), (61, .aload_n 0, 1), (62, .getfield 174, 3), (65, .ifCond .ge 15, 3), (68, .aload_n 0, 1), (69, .getfield 158, 3), (72, .iconst 4, 1), (73, .if_icmp .eq 7, 3), (76, .aload_n 0, 1), (77, .invokevirtual 183, 3), (80, .aload_n 0, 1), (81, .iconst 0, 1), (82, .putfield 142, 3), (85, .aload_n 0, 1), (86, .getfield 174, 3), (89, .ifCond .lt 11, 3), (92, .bipush (-100), 2), (94, .aload_n 0, 1), (95, .getfield 174, 3), (98, .isub, 1), (99, .ireturn, 1), (100, .iconst 0, 1), (101, .istore_n 1, 1), (102, .iload_n 1, 1), (103, .aload_n 0, 1), (104, .getfield 177, 3), (107, .if_icmp .ge 59, 3), (110, .aload_n 0, 1), (111, .getfield 42, 3), (114, .sipush 170, 3), (117, .aload_n 0, 1), (118, .getfield 38, 3), (121, .imul, 1), (122, .iload_n 1, 1), (123, .iadd, 1), (124, .aload_n 0, 1), (125, .getfield 42, 3), (128, .sipush 1020, 3), (131, .iload_n 1, 1), (132, .iadd, 1), (133, .iaload, 1), (134, .iastore, 1), (135, .aload_n 0, 1), (136, .getfield 45, 3), (139, .sipush 170, 3), (142, .aload_n 0, 1), (143, .getfield 38, 3), (146, .imul, 1), (147, .iload_n 1, 1), (148, .iadd, 1), (149, .aload_n 0, 1), (150, .getfield 45, 3), (153, .sipush 1020, 3), (156, .iload_n 1, 1), (157, .iadd, 1), (158, .iaload, 1), (159, .iastore, 1), (160, .iinc 1 1, 3), (163, .goto (-61), 3), (166, .iconst 0, 1), (167, .istore_n 1, 1), (168, .iload_n 1, 1), (169, .iconst 3, 1), (170, .if_icmp .ge 31, 3), (173, .aload_n 0, 1), (174, .getfield 48, 3), (177, .iconst 3, 1), (178, .aload_n 0, 1), (179, .getfield 38, 3), (182, .imul, 1), (183, .iload_n 1, 1), (184, .iadd, 1), (185, .aload_n 0, 1), (186, .getfield 48, 3), (189, .bipush 18, 2), (191, .iload_n 1, 1), (192, .iadd, 1), (193, .iaload, 1), (194, .iastore, 1), (195, .iinc 1 1, 3), (198, .goto (-30), 3), (201, .aload_n 0, 1), (202, .dup, 1), (203, .getfield 38, 3), (206, .iconst 1, 1), (207, .iadd, 1), (208, .putfield 38, 3), (211, .aload_n 0, 1), (212, .getfield 38, 3), (215, .iconst 1, 1), (216, .isub, 1), (217, .ireturn, 1)]  -- X8_text
def zi_160 : List (Nat × Instr × Nat) := [(0, .iload_n 1, 1), (1, .iconst 0, 1), (2, .aload_n 0, 1), (3, .getfield 38, 3), (6, .iconst 1, 1), (7, .isub, 1), (8, .invokestatic 118, 3), (11, .ifCond .ne 6, 3), (14, .bipush (-2), 2), (16, .ireturn, 1), (17, .aload_n 0, 1), (18, .getfield 139, 3), (21, .istore_n 2, 1), (22, .aload_n 0, 1), (23, .iload_n 1, 1), (24, .putfield 139, 3), (27, .iload_n 2, 1), (28, .ireturn, 1)]  -- X8_force
def zi_161 : List (Nat × Instr × Nat) := [(0, .iload_n 0, 1), (1, .lookupswitch 117 #[(5, 59), (6, 73), (43, 109), (45, 113), (60, 87), (61, 98)], 59), (60, .iload_n 1, 1), (61, .ifCond .ne 7, 3), (64, .iload_n 2, 1), (65, .ifCond .eq 7, 3), (68, .iconst 1, 1), (69, .goto 4, 3), (72, .iconst 0, 1), (73, .ireturn, 1), (74, .iload_n 1, 1), (75, .ifCond .eq 11, 3), (78, .iload_n 2, 1), (79, .ifCond .eq 7, 3), (82, .iconst 1, 1), (83, .goto 4, 3), (86, .iconst 0, 1), (87, .ireturn, 1), (88, .iload_n 1, 1), (89, .iload_n 2, 1), (90, .if_icmp .ge 7, 3), (93, .iconst 1, 1), (94, .goto 4, 3), (97, .iconst 0, 1), (98, .ireturn, 1), (99, .iload_n 1, 1), (100, .iload_n 2, 1), (101, .if_icmp .ne 7, 3), (104, .iconst 1, 1), (105, .goto 4, 3), (108, .iconst 0, 1), (109, .ireturn, 1), (110, .iload_n 1, 1), (111, .iload_n 2, 1), (112, .iadd, 1), (113, .ireturn, 1), (114, .iload_n 1, 1), (115, .iload_n 2, 1), (116, .isub, 1), (117, .ireturn, 1), (118, .iload_n 1, 1), (119, .iload_n 2, 1), (120, .imul, 1), (121, .ireturn, 1)]  -- X8_twoOf
def zi_162 : List (Nat × Instr × Nat) := [(0, .aload_n 0, 1), (1, .getfield 139, 3), (4, .ifCond .ne 53, 3), (7, .iload_n 1, 1), (8, .ifCond .ne 7, 3), (11, .iconst 1, 1), (12, .goto 44, 3), (15, .iload_n 1, 1), (16, .iconst 1, 1), (17, .if_icmp .ne 12, 3), (20, .aload_n 0, 1), (21, .getfield 54, 3), (24, .iconst 3, 1), (25, .iaload, 1), (26, .goto 30, 3), (29, .aload_n 0, 1), (30, .getfield 54, 3), (33, .iconst 4, 1), (34, .iaload, 1), (35, .aload_n 0, 1), (36, .getfield 54, 3), (39, .iconst 5, 1), (40, .iaload, 1), (41, .iconst 1, 1), (42, .iadd, 1), (43, .if_icmp .ge 12, 3), (46, .aload_n 0, 1), (47, .getfield 54, 3), (50, .iconst 3, 1), (51, .iaload, 1), (52, .goto 4, 3), (55, .iconst 0, 1), (56, .ireturn, 1), (57, .iconst 0, 1), (58, .istore_n 2, 1), (59, .iload_n 1, 1), (60, .ifCond .ne 7, 3), (63, .iconst 0, 1), (64, .goto 18, 3), (67, .aload_n 0, 1), (68, .getfield 48, 3), (71, .iconst 3, 1), (72, .aload_n 0, 1), (73, .getfield 139, 3), (76, .imul, 1), (77, .iload_n 1, 1), (78, .iadd, 1), (79, .iconst 1, 1), (80, .isub, 1), (81, .iaload, 1), (82, .istore_n 3, 1), (83, .sipush 170, 3), (86, .aload_n 0, 1), (87, .getfield 139, 3), (90, .imul, 1), (91, .iload_n 3, 1), (92, .iadd, 1), (93, .istore 4, 2), (95, .iload 4, 2), (97, .sipush 170, 3), (100, .aload_n 0, 1), (101, .getfield 139, 3), (104, .imul, 1), (105, .aload_n 0, 1), (106, .getfield 48, 3), (109, .iconst 3, 1), (110, .aload_n 0, 1), (111, .getfield 139, 3), (114, .imul, 1), (115, .iload_n 1, 1), (116, .iadd, 1), (117, .iaload, 1), (118, .iadd, 1), (119, .if_icmp .ge 174, 3), (122, .aload_n 0, 1), (123, .getfield 42, 3), (126, .iload 4, 2), (128, .iaload, 1), (129, .tableswitch 121 1 4 #[31, 50, 74, 101], 31), (160, .aload_n 0, 1), (161, .getfield 51, 3), (164, .iload_n 2, 1), (165, .aload_n 0, 1), (166, .getfield 45, 3), (169, .iload 4, 2), (171, .iaload, 1), (172, .iastore, 1), (173, .iinc 2 1, 3), (176, .goto 111, 3), (179, .aload_n 0, 1), (180, .getfield 51, 3), (183, .iload_n 2, 1), (184, .aload_n 0, 1), (185, .getfield 54, 3), (188, .aload_n 0, 1), (189, .getfield 45, 3), (192, .iload 4, 2), (194, .iaload, 1), (195, .iaload, 1), (196, .iastore, 1), (197, .iinc 2 1, 3), (200, .goto 87, 3), (203, .aload_n 0, 1), (204, .getfield 51, 3), (207, .iload_n 2, 1), (208, .iconst 1, 1), (209, .isub, 1), (210, .aload_n 0, 1), (211, .getfield 51, 3), (214, .iload_n 2, 1), (215, .iconst 1, 1), (216, .isub, 1), (217, .iaload, 1), (218, .ifCond .ne 7, 3), (221, .iconst 1, 1), (222, .goto 4, 3), (225, .iconst 0, 1), (226, .iastore, 1), (227, .goto 60, 3), (230, .aload_n 0, 1), (231, .getfield 51, 3), (234, .iload_n 2, 1), (235, .iconst 1, 1), (236, .isub, 1), (237, .aload_n 0, 1), (238, .getfield 51, 3), (241, .iload_n 2, 1), (242, .iconst 1, 1), (243, .isub, 1), (244, .iaload, 1), (245, .ineg, 1), (246, .iastore, 1), (247, .goto 40, 3), (250, .aload_n 0, 1), (251, .getfield 51, 3), (254, .iload_n 2, 1), (255, .iconst 2, 1), (256, .isub, 1), (257, .aload_n 0, 1), (258, .getfield 42, 3), (261, .iload 4, 2), (263, .iaload, 1), (264, .aload_n 0, 1), (265, .getfield 51, 3), (268, .iload_n 2, 1), (269, .iconst 2, 1), (270, .isub, 1), (271, .iaload, 1), (272, .aload_n 0, 1), (273, .getfield 51, 3), (276, .iload_n 2, 1), (277, .iconst 1, 1), (278, .isub, 1), (279, .iaload, 1), (280, .invokestatic 224, 3), (283, .iastore, 1), (284, .iinc 2 (-1), 3), (287, .iinc 4 1, 3), (290, .goto (-195), 3), (293, .aload_n 0, 1), (294, .getfield 51, 3), (297, .iconst 0, 1), (298, .iaload, 1), (299, .ireturn, 1)]  -- X8_gives
def zi_163 : List (Nat × Instr × Nat) := [(0, .iconst 0, 1), (1, .istore_n 1, 1), (2, .iload_n 1, 1), (3, .bipush 6, 2), (5, .if_icmp .ge 16, 3), (8, .aload_n 0, 1), (9, .getfield 54, 3), (12, .iload_n 1, 1), (13, .iconst 0, 1), (14, .iastore, 1), (15, .iinc 1 1, 3), (18, .goto (-16), 3), (21, .return_, 1)]  -- X8_noFacts
def zi_164 : List (Nat × Instr × Nat) := [(0, .aload_n 0, 1), (1, .invokevirtual 228, 3), (4, .aload_n 0, 1), (5, .getfield 54, 3), (8, .iconst 0, 1), (9, .iload_n 1, 1), (10, .iastore, 1), (11, .aload_n 0, 1), (12, .getfield 54, 3), (15, .iconst 1, 1), (16, .iload_n 2, 1), (17, .iastore, 1), (18, .aload_n 0, 1), (19, .getfield 54, 3), (22, .iconst 2, 1), (23, .iload_n 3, 1), (24, .iastore, 1), (25, .aload_n 0, 1), (26, .iconst 0, 1), (27, .invokevirtual 231, 3), (30, .ifCond .eq 7, 3), (33, .iconst 1, 1), (34, .goto 4, 3), (37, .iconst 0, 1), (38, .ireturn, 1)]  -- X8_saysMay
def zi_165 : List (Nat × Instr × Nat) := [(0, .aload_n 0, 1), (1, .invokevirtual 228, 3), (4, .aload_n 0, 1), (5, .getfield 54, 3), (8, .iconst 0, 1), (9, .iload_n 1, 1), (10, .iastore, 1), (11, .aload_n 0, 1), (12, .getfield 54, 3), (15, .iconst 1, 1), (16, .iload_n 2, 1), (17, .iastore, 1), (18, .aload_n 0, 1), (19, .getfield 54, 3), (22, .iconst 3, 1), (23, .aload_n 0, 1), (24, .getfield 7, 3), (27, .iconst 4, 1), (28, .iload_n 1, 1), (29, .imul, 1), (30, .iload_n 2, 1), (31, .iadd, 1), (32, .iaload, 1), (33, .iastore, 1), (34, .aload_n 0, 1), (35, .iconst 1, 1), (36, .invokevirtual 231, 3), (39, .iconst 1, 1), (40, .bipush 99, 2), (42, .invokestatic 234, 3), (45, .ireturn, 1)]  -- X8_rowOf
def zi_166 : List (Nat × Instr × Nat) := [(0, .aload_n 0, 1), (1, .invokevirtual 228, 3), (4, .aload_n 0, 1), (5, .getfield 54, 3), (8, .iconst 0, 1), (9, .iload_n 1, 1), (10, .iastore, 1), (11, .aload_n 0, 1), (12, .getfield 54, 3), (15, .iconst 2, 1), (16, .aload_n 0, 1), (17, .getfield 19, 3), (20, .iload_n 1, 1), (21, .iaload, 1), (22, .iastore, 1), (23, .aload_n 0, 1), (24, .getfield 54, 3), (27, .iconst 3, 1), (28, .aload_n 0, 1), (29, .getfield 25, 3), (32, .iload_n 1, 1), (33, .iaload, 1), (34, .iastore, 1), (35, .aload_n 0, 1), (36, .getfield 54, 3), (39, .iconst 4, 1), (40, .iload_n 2, 1), (41, .iastore, 1), (42, .aload_n 0, 1), (43, .getfield 54, 3), (46, .iconst 5, 1), (47, .aload_n 0, 1), (48, .getfield 22, 3), (51, .iload_n 1, 1), (52, .iaload, 1), (53, .iastore, 1), (54, .aload_n 0, 1), (55, .iconst 2, 1), (56, .invokevirtual 231, 3), (59, .iconst 0, 1), (60, .sipush 999, 3), (63, .invokestatic 234, 3), (66, .ireturn, 1)]  -- X8_gainOf
def zi_167 : List (Nat × Instr × Nat) := [(0, .iload_n 1, 1), (1, .tableswitch 135 0 2 #[27, 73, 104], 27), (28, .aload_n 0, 1), (29, .iload_n 2, 1), (30, .invokevirtual 237, 3), (33, .ifCond .eq 38, 3), (36, .aload_n 0, 1), (37, .iload_n 3, 1), (38, .invokevirtual 237, 3), (41, .ifCond .eq 30, 3), (44, .iload 4, 2), (46, .invokestatic 125, 3), (49, .ifCond .eq 22, 3), (52, .aload_n 0, 1), (53, .iload_n 2, 1), (54, .iload_n 3, 1), (55, .iload 4, 2), (57, .invokevirtual 240, 3), (60, .ifCond .eq 7, 3), (63, .iconst 1, 1), (64, .goto 9, 3), (67, .iconst 0, 1), (68, .goto 5, 3), (71, .bipush (-2), 2), (73, .ireturn, 1), (74, .iload_n 2, 1), (75, .invokestatic 125, 3), (78, .ifCond .eq 24, 3), (81, .iload_n 3, 1), (82, .invokestatic 125, 3), (85, .ifCond .eq 17, 3), (88, .iload_n 2, 1), (89, .iload_n 3, 1), (90, .if_icmp .eq 12, 3), (93, .aload_n 0, 1), (94, .iload_n 2, 1), (95, .iload_n 3, 1), (96, .invokevirtual 243, 3), (99, .goto 5, 3), (102, .bipush (-2), 2), (104, .ireturn, 1), (105, .aload_n 0, 1), (106, .iload_n 2, 1), (107, .invokevirtual 237, 3), (110, .ifCond .eq 23, 3), (113, .iload_n 3, 1), (114, .iconst 0, 1), (115, .sipush 400, 3), (118, .invokestatic 118, 3), (121, .ifCond .eq 12, 3), (124, .aload_n 0, 1), (125, .iload_n 2, 1), (126, .iload_n 3, 1), (127, .invokevirtual 247, 3), (130, .goto 5, 3), (133, .bipush (-2), 2), (135, .ireturn, 1), (136, .bipush (-2), 2), (138, .ireturn, 1)]  -- X8_asks
def zi_168 : List (Nat × Instr × Nat) := [(0, .iload_n 1, 1), (1, .iconst 0, 1), (2, .iconst 5, 1), (3, .invokestatic 118, 3), (6, .ifCond .eq 50, 3), (9, .iload_n 2, 1), (10, .ifCond .lt 46, 3), (13, .iload_n 2, 1), (14, .bipush 10, 2), (16, .idiv, 1), (17, .iconst 0, 1), (18, .iconst 4, 1), (19, .invokestatic 118, 3), (22, .ifCond .eq 34, 3), (25, .iload_n 2, 1), (26, .bipush 10, 2), (28, .irem, 1), (29, .invokestatic 125, 3), (32, .ifCond .eq 24, 3), (35, .iload_n 3, 1), (36, .iconst 0, 1), (37, .sipush 9999, 3), (40, .invokestatic 118, 3), (43, .ifCond .eq 13, 3), (46, .iload 4, 2), (48, .iconst 0, 1), (49, .iconst 5, 1), (50, .invokestatic 118, 3), (53, .ifCond .ne 6, 3), (56, .bipush (-2), 2), (58, .ireturn, 1), (59, .aload_n 0, 1), (60, .getfield 122, 3), (63, .bipush 6, 2), (65, .if_icmp .ne 6, 3), (68, .bipush (-4), 2), (70, .ireturn, 1), (71, .iload_n 2, 1), (72, .bipush 10, 2), (74, .idiv, 1), (75, .iconst 4, 1), (76, .if_icmp .ne 15, 3), (79, .aload_n 0, 1), (80, .iconst 4, 1), (81, .invokevirtual 132, 3), (84, .iconst 3, 1), (85, .if_icmp .ne 6, 3), (88, .bipush (-3), 2), (90, .ireturn, 1), (91, .aload_n 0, 1), (92, .getfield 13, 3), (95, .aload_n 0, 1), (96, .getfield 122, 3), (99, .iload_n 1, 1), (100, .iastore, 1), (101, .aload_n 0, 1), (102, .getfield 16, 3), (105, .aload_n 0, 1), (106, .getfield 122, 3), (109, .iload_n 2, 1), (110, .bipush 10, 2), (112, .idiv, 1), (113, .iastore, 1), (114, .aload_n 0, 1), (115, .getfield 19, 3), (118, .aload_n 0, 1), (119, .getfield 122, 3), (122, .iload_n 2, 1), (123, .bipush 10, 2), (125, .irem, 1), (126, .iastore, 1), (127, .aload_n 0, 1), (128, .getfield 22, 3), (131, .aload_n 0, 1), (132, .getfield 122, 3), (135, .iload_n 3, 1), (136, .bipush 100, 2), (138, .idiv, 1), (139, .iastore, 1), (140, .aload_n 0, 1), (141, .getfield 25, 3), (144, .aload_n 0, 1), (145, .getfield 122, 3), (148, .iload_n 3, 1), (149, .bipush 100, 2), (151, .irem, 1), (152, .iastore, 1), (153, .aload_n 0, 1), (154, .getfield 28, 3), (157, .aload_n 0, 1), (158, .getfield 122, 3), (161, .iload 4, 2), (163, .iastore, 1), (164, .aload_n 0, 1), (165, .getfield 31, 3), (168, .aload_n 0, 1), (169, .getfield 122, 3), (172, .iconst 0, 1), (173, .iastore, 1), (174, .aload_n 0, 1), (175, .dup, 1), (176, .getfield 122, 3), (179, .iconst 1, 1), (180, .iadd, 1), (181, .putfield 122, 3), (184, .aload_n 0, 1), (185, .getfield 122, 3), (188, .iconst 1, 1), (189, .isub, 1), (190, .ireturn, 1)]  -- X8_person
def zi_169 : List (Nat × Instr × Nat) := [(0, .aload_n 0, 1), (1, .iload_n 1, 1), (2, .invokevirtual 237, 3), (5, .ifCond .eq 16, 3), (8, .aload_n 0, 1), (9, .iload_n 2, 1), (10, .invokevirtual 237, 3), (13, .ifCond .eq 8, 3), (16, .iload_n 1, 1), (17, .iload_n 2, 1), (18, .if_icmp .ne 5, 3), (21, .iconst (-1), 1), (22, .ireturn, 1), (23, .iload_n 3, 1), (24, .iconst 0, 1), (25, .iconst 1, 1), (26, .invokestatic 118, 3), (29, .ifCond .ne 6, 3), (32, .bipush (-2), 2), (34, .ireturn, 1), (35, .aload_n 0, 1), (36, .getfield 31, 3), (39, .iload_n 1, 1), (40, .iaload, 1), (41, .iload_n 2, 1), (42, .ishr, 1), (43, .iconst 1, 1), (44, .iand, 1), (45, .istore 4, 2), (47, .aload_n 0, 1), (48, .getfield 31, 3), (51, .iload_n 1, 1), (52, .aload_n 0, 1), (53, .getfield 31, 3), (56, .iload_n 1, 1), (57, .iaload, 1), (58, .iconst 1, 1), (59, .iload_n 2, 1), (60, .ishl, 1), (61, .iconst (-1), 1), (62, .ixor, 1), (63, .iand, 1), (64, .iload_n 3, 1), (65, .iload_n 2, 1), (66, .ishl, 1), (67, .ior, 1), (68, .iastore, 1), (69, .aload_n 0, 1), (70, .getfield 31, 3), (73, .iload_n 2, 1), (74, .aload_n 0, 1), (75, .getfield 31, 3), (78, .iload_n 2, 1), (79, .iaload, 1), (80, .iconst 1, 1), (81, .iload_n 1, 1), (82, .ishl, 1), (83, .iconst (-1), 1), (84, .ixor, 1), (85, .iand, 1), (86, .iload_n 3, 1), (87, .iload_n 1, 1), (88, .ishl, 1), (89, .ior, 1), (90, .iastore, 1), (91, .iload 4, 2), (93, .ireturn, 1)]  -- X8_foe
def zi_170 : List (Nat × Instr × Nat) := [(0, .aload_n 0, 1), (1, .iload_n 1, 1), (2, .invokevirtual 237, 3), (5, .ifCond .ne 6, 3), (8, .bipush (-5), 2), (10, .ireturn, 1), (11, .iload_n 2, 1), (12, .tableswitch 93 0 6 #[44, 51, 58, 65, 72, 79, 86], 44), (56, .aload_n 0, 1), (57, .getfield 13, 3), (60, .iload_n 1, 1), (61, .iaload, 1), (62, .ireturn, 1), (63, .aload_n 0, 1), (64, .getfield 16, 3), (67, .iload_n 1, 1), (68, .iaload, 1), (69, .ireturn, 1), (70, .aload_n 0, 1), (71, .getfield 19, 3), (74, .iload_n 1, 1), (75, .iaload, 1), (76, .ireturn, 1), (77, .aload_n 0, 1), (78, .getfield 22, 3), (81, .iload_n 1, 1), (82, .iaload, 1), (83, .ireturn, 1), (84, .aload_n 0, 1), (85, .getfield 25, 3), (88, .iload_n 1, 1), (89, .iaload, 1), (90, .ireturn, 1), (91, .aload_n 0, 1), (92, .getfield 28, 3), (95, .iload_n 1, 1), (96, .iaload, 1), (97, .ireturn, 1), (98, .aload_n 0, 1), (99, .getfield 31, 3), (102, .iload_n 1, 1), (103, .iaload, 1), (104, .ireturn, 1), (105, .bipush (-7), 2), (107, .ireturn, 1)]  -- X8_told
def zi_171 : List (Nat × Instr × Nat) := [(0, .aload_n 0, 1), (1, .iload_n 1, 1), (2, .invokevirtual 237, 3), (5, .ifCond .ne 6, 3), (8, .bipush (-5), 2), (10, .ireturn, 1), (11, .iload_n 2, 1), (12, .iconst 0, 1), (13, .iconst 4, 1), (14, .invokestatic 118, 3), (17, .ifCond .ne 6, 3), (20, .bipush (-7), 2), (22, .ireturn, 1), (23, .iload_n 2, 1), (24, .iconst 4, 1), (25, .if_icmp .ne 25, 3), (28, .aload_n 0, 1), (29, .getfield 16, 3), (32, .iload_n 1, 1), (33, .iaload, 1), (34, .iconst 4, 1), (35, .if_icmp .eq 15, 3), (38, .aload_n 0, 1), (39, .iconst 4, 1), (40, .invokevirtual 132, 3), (43, .iconst 3, 1), (44, .if_icmp .ne 6, 3), (47, .bipush (-3), 2), (49, .ireturn, 1), (50, .aload_n 0, 1), (51, .getfield 16, 3), (54, .iload_n 1, 1), (55, .iaload, 1), (56, .istore_n 3, 1), (57, .aload_n 0, 1), (58, .getfield 16, 3), (61, .iload_n 1, 1), (62, .iload_n 2, 1), (63, .iastore, 1), (64, .iload_n 3, 1), (65, .ireturn, 1)]  -- X8_put
def zi_172 : List (Nat × Instr × Nat) := [(0, .aload_n 0, 1), (1, .getfield 13, 3), (4, .iload_n 1, 1), (5, .iaload, 1), (6, .iconst 4, 1), (7, .if_icmp .ne 5, 3), (10, .iconst 0, 1), (11, .ireturn, 1), (12, .aload_n 0, 1), (13, .getfield 13, 3), (16, .iload_n 1, 1), (17, .iaload, 1), (18, .iconst 1, 1), (19, .if_icmp .ne 16, 3), (22, .aload_n 0, 1), (23, .getfield 19, 3), (26, .iload_n 1, 1), (27, .iaload, 1), (28, .aload_n 0, 1), (29, .getfield 129, 3), (32, .if_icmp .ne 5, 3), (35, .iconst 1, 1), (36, .ireturn, 1), (37, .iconst 0, 1), (38, .istore_n 3, 1), (39, .iload_n 3, 1), (40, .aload_n 0, 1), (41, .getfield 122, 3), (44, .if_icmp .ge 29, 3), (47, .iload_n 3, 1), (48, .iload_n 2, 1), (49, .if_icmp .eq 18, 3), (52, .aload_n 0, 1), (53, .getfield 16, 3), (56, .iload_n 3, 1), (57, .iaload, 1), (58, .aload_n 0, 1), (59, .getfield 129, 3), (62, .if_icmp .ne 5, 3), (65, .iconst 1, 1), (66, .ireturn, 1), (67, .iinc 3 1, 3), (70, .goto (-31), 3), (73, .iconst 0, 1), (74, .ireturn, 1)]  -- X8_mayLeave
def zi_173 : List (Nat × Instr × Nat) := [(0, .iconst 0, 1), (1, .istore_n 3, 1), (2, .iconst 0, 1), (3, .istore 4, 2), (5, .iload 4, 2), (7, .aload_n 0, 1), (8, .getfield 122, 3), (11, .if_icmp .ge 59, 3), (14, .aload_n 0, 1), (15, .getfield 16, 3), (18, .iload 4, 2), (20, .iaload, 1), (21, .iconst 4, 1), (22, .if_icmp .ne 42, 3), (25, .iload 4, 2), (27, .iload_n 2, 1), (28, .if_icmp .ne 6, 3), (31, .goto 33, 3), (34, .aload_n 0, 1), (35, .getfield 31, 3), (38, .iload_n 1, 1), (39, .iaload, 1), (40, .iload 4, 2), (42, .ishr, 1), (43, .iconst 1, 1), (44, .iand, 1), (45, .iconst 1, 1), (46, .if_icmp .ne 5, 3), (49, .iconst 0, 1), (50, .ireturn, 1), (51, .iload 4, 2), (53, .aload_n 0, 1), (54, .getfield 28, 3), (57, .iload_n 1, 1), (58, .iaload, 1), (59, .if_icmp .ne 5, 3), (62, .iconst 1, 1), (63, .istore_n 3, 1), (64, .iinc 4 1, 3), (67, .goto (-62), 3), (70, .aload_n 0, 1), (71, .getfield 13, 3), (74, .iload_n 1, 1), (75, .iaload, 1), (76, .iconst 5, 1), (77, .if_icmp .ne 7, 3), (80, .iload_n 3, 1), (81, .ifCond .eq 7, 3), (84, .iconst 1, 1), (85, .goto 4, 3), (88, .iconst 0, 1), (89, .ireturn, 1)]  -- X8_mayBoard
def zi_174 : List (Nat × Instr × Nat) := [(0, .aload_n 0, 1), (1, .iload_n 1, 1), (2, .invokevirtual 132, 3), (5, .iconst 1, 1), (6, .if_icmp .ne 11, 3), (9, .aload_n 0, 1), (10, .iload_n 1, 1), (11, .invokevirtual 250, 3), (14, .ifCond .ne 7, 3), (17, .iconst 1, 1), (18, .goto 4, 3), (21, .iconst 0, 1), (22, .ireturn, 1)]  -- X8_allStand
def zi_175 : List (Nat × Instr × Nat) := [(0, .iconst 0, 1), (1, .istore_n 2, 1), (2, .iload_n 2, 1), (3, .aload_n 0, 1), (4, .getfield 122, 3), (7, .if_icmp .ge 41, 3), (10, .aload_n 0, 1), (11, .getfield 16, 3), (14, .iload_n 2, 1), (15, .iaload, 1), (16, .iload_n 1, 1), (17, .if_icmp .ne 25, 3), (20, .aload_n 0, 1), (21, .getfield 13, 3), (24, .iload_n 2, 1), (25, .iaload, 1), (26, .iconst 2, 1), (27, .if_icmp .eq 13, 3), (30, .aload_n 0, 1), (31, .getfield 13, 3), (34, .iload_n 2, 1), (35, .iaload, 1), (36, .iconst 5, 1), (37, .if_icmp .ne 5, 3), (40, .iconst 1, 1), (41, .ireturn, 1), (42, .iinc 2 1, 3), (45, .goto (-43), 3), (48, .iconst 0, 1), (49, .ireturn, 1)]  -- X8_isChildAt
def zi_176 : List (Nat × Instr × Nat) := [(0, .aload_n 0, 1), (1, .iload_n 1, 1), (2, .invokevirtual 237, 3), (5, .ifCond .eq 34, 3), (8, .aload_n 0, 1), (9, .iload_n 2, 1), (10, .invokevirtual 237, 3), (13, .ifCond .eq 26, 3), (16, .aload_n 0, 1), (17, .getfield 16, 3), (20, .iload_n 1, 1), (21, .iaload, 1), (22, .iconst 4, 1), (23, .if_icmp .ne 16, 3), (26, .aload_n 0, 1), (27, .getfield 16, 3), (30, .iload_n 2, 1), (31, .iaload, 1), (32, .aload_n 0, 1), (33, .getfield 129, 3), (36, .if_icmp .eq 5, 3), (39, .iconst 0, 1), (40, .ireturn, 1), (41, .aload_n 0, 1), (42, .iload_n 1, 1), (43, .iload_n 2, 1), (44, .aload_n 0, 1), (45, .getfield 129, 3), (48, .invokevirtual 240, 3), (51, .ifCond .eq 21, 3), (54, .aload_n 0, 1), (55, .iload_n 1, 1), (56, .iload_n 2, 1), (57, .invokevirtual 253, 3), (60, .ifCond .eq 12, 3), (63, .aload_n 0, 1), (64, .iload_n 2, 1), (65, .iload_n 1, 1), (66, .invokevirtual 257, 3), (69, .ifCond .ne 5, 3), (72, .iconst 0, 1), (73, .ireturn, 1), (74, .aload_n 0, 1), (75, .iload_n 1, 1), (76, .iload_n 2, 1), (77, .invokevirtual 260, 3), (80, .aload_n 0, 1), (81, .aload_n 0, 1), (82, .getfield 129, 3), (85, .invokevirtual 263, 3), (88, .istore_n 3, 1), (89, .aload_n 0, 1), (90, .iload_n 2, 1), (91, .iload_n 1, 1), (92, .invokevirtual 260, 3), (95, .iload_n 3, 1), (96, .ireturn, 1)]  -- X8_maySwap
def zi_177 : List (Nat × Instr × Nat) := [(0, .aload_n 0, 1), (1, .getfield 16, 3), (4, .iload_n 1, 1), (5, .aload_n 0, 1), (6, .getfield 129, 3), (9, .iastore, 1), (10, .aload_n 0, 1), (11, .getfield 16, 3), (14, .iload_n 2, 1), (15, .iconst 4, 1), (16, .iastore, 1), (17, .return_, 1)]  -- X8_swap
def zi_178 : List (Nat × Instr × Nat) := [(0, .aload_n 0, 1), (1, .iload_n 1, 1), (2, .invokevirtual 237, 3), (5, .ifCond .eq 11, 3), (8, .aload_n 0, 1), (9, .iload_n 2, 1), (10, .invokevirtual 237, 3), (13, .ifCond .ne 8, 3), (16, .bipush (-5), 2), (18, .goto 17, 3), (21, .aload_n 0, 1), (22, .iload_n 1, 1), (23, .iload_n 2, 1), (24, .invokevirtual 266, 3), (27, .ifCond .eq 7, 3), (30, .iconst 1, 1), (31, .goto 4, 3), (34, .iconst 0, 1), (35, .ireturn, 1)]  -- X8_may
def zi_179 : List (Nat × Instr × Nat) := [(0, .iconst 0, 1), (1, .istore_n 1, 1), (2, .iconst 0, 1), (3, .istore_n 2, 1), (4, .iload_n 2, 1), (5, .iconst 4, 1), (6, .if_icmp .ge 23, 3), (9, .aload_n 0, 1), (10, .iload_n 2, 1), (11, .invokevirtual 263, 3), (14, .ifCond .ne 9, 3), (17, .iload_n 1, 1), (18, .iconst 1, 1), (19, .iload_n 2, 1), (20, .ishl, 1), (21, .ior, 1), (22, .istore_n 1, 1), (23, .iinc 2 1, 3), (26, .goto (-22), 3), (29, .iload_n 1, 1), (30, .ireturn, 1)]  -- X8_alone
def zi_180 : List (Nat × Instr × Nat) := [(0, .aload_n 0, 1), (1, .getfield 13, 3), (4, .iload_n 1, 1), (5, .iaload, 1), (6, .iconst 3, 1), (7, .if_icmp .eq 28, 3), (10, .aload_n 0, 1), (11, .getfield 13, 3), (14, .iload_n 1, 1), (15, .iaload, 1), (16, .iconst 4, 1), (17, .if_icmp .eq 18, 3), (20, .aload_n 0, 1), (21, .getfield 16, 3), (24, .iload_n 1, 1), (25, .iaload, 1), (26, .aload_n 0, 1), (27, .getfield 19, 3), (30, .iload_n 1, 1), (31, .iaload, 1), (32, .if_icmp .ne 7, 3), (35, .iconst 1, 1), (36, .goto 4, 3), (39, .iconst 0, 1), (40, .ireturn, 1)]  -- X8_isThere
def zi_181 : List (Nat × Instr × Nat) := [(0, .iconst 0, 1), (1, .istore_n 1, 1), (2, .iconst 0, 1), (3, .istore_n 2, 1), (4, .iload_n 2, 1), (5, .aload_n 0, 1), (6, .getfield 122, 3), (9, .if_icmp .ge 23, 3), (12, .aload_n 0, 1), (13, .iload_n 2, 1), (14, .invokevirtual 269, 3), (17, .ifCond .eq 9, 3), (20, .iload_n 1, 1), (21, .iconst 1, 1), (22, .iload_n 2, 1), (23, .ishl, 1), (24, .ior, 1), (25, .istore_n 1, 1), (26, .iinc 2 1, 3), (29, .goto (-25), 3), (32, .iload_n 1, 1), (33, .ireturn, 1)]  -- X8_whoIsThere
def zi_182 : List (Nat × Instr × Nat) := [(0, .iload_n 1, 1), (1, .iconst 0, 1), (2, .iconst 2, 1), (3, .invokestatic 118, 3), (6, .ifCond .eq 39, 3), (9, .iload_n 2, 1), (10, .iconst 0, 1), (11, .iload_n 1, 1), (12, .ifCond .ne 7, 3), (15, .iconst 3, 1), (16, .goto 14, 3), (19, .iload_n 1, 1), (20, .iconst 1, 1), (21, .if_icmp .ne 7, 3), (24, .iconst 5, 1), (25, .goto 5, 3), (28, .bipush 99, 2), (30, .invokestatic 118, 3), (33, .ifCond .eq 12, 3), (36, .iload_n 3, 1), (37, .iconst 0, 1), (38, .iconst 5, 1), (39, .invokestatic 118, 3), (42, .ifCond .ne 6, 3), (45, .bipush (-2), 2), (47, .ireturn, 1), (48, .aload_n 0, 1), (49, .getfield 136, 3), (52, .bipush 16, 2), (54, .if_icmp .ne 6, 3), (57, .bipush (-4), 2), (59, .ireturn, 1), (60, .aload_n 0, 1), (61, .getfield 63, 3), (64, .aload_n 0, 1), (65, .getfield 136, 3), (68, .iload_n 1, 1), (69, .iastore, 1), (70, .aload_n 0, 1), (71, .getfield 66, 3), (74, .aload_n 0, 1), (75, .getfield 136, 3), (78, .iload_n 2, 1), (79, .iastore, 1), (80, .aload_n 0, 1), (81, .getfield 69, 3), (84, .aload_n 0, 1), (85, .getfield 136, 3), (88, .iload_n 3, 1), (89, .iastore, 1), (90, .aload_n 0, 1), (91, .dup, 1), (92, .getfield 136, 3), (95, .iconst 1, 1), (96, .iadd, 1), (97, .putfield 136, 3), (100, .aload_n 0, 1), (101, .getfield 136, 3), (104, .iconst 1, 1), (105, .isub, 1), (106, .ireturn, 1)]  -- X8_move
def zi_183 : List (Nat × Instr × Nat) := [(0, .aload_n 0, 1), (1, .getfield 136, 3), (4, .istore_n 1, 1), (5, .aload_n 0, 1), (6, .iconst 0, 1), (7, .putfield 136, 3), (10, .iload_n 1, 1), (11, .ireturn, 1)]  -- X8_clear
def zi_184 : List (Nat × Instr × Nat) := [(0, .aload_n 0, 1), (1, .aload_n 0, 1), (2, .getfield 129, 3), (5, .putfield 272, 3), (8, .iconst 0, 1), (9, .istore_n 1, 1), (10, .iload_n 1, 1), (11, .bipush 6, 2), (13, .if_icmp .ge 21, 3), (16, .aload_n 0, 1), (17, .getfield 72, 3), (20, .iload_n 1, 1), (21, .aload_n 0, 1), (22, .getfield 16, 3), (25, .iload_n 1, 1), (26, .iaload, 1), (27, .iastore, 1), (28, .iinc 1 1, 3), (31, .goto (-21), 3), (34, .return_, 1)]  -- X8_keepNow
def zi_185 : List (Nat × Instr × Nat) := [(0, .aload_n 0, 1), (1, .aload_n 0, 1), (2, .getfield 272, 3), (5, .putfield 129, 3), (8, .iconst 0, 1), (9, .istore_n 1, 1), (10, .iload_n 1, 1), (11, .bipush 6, 2), (13, .if_icmp .ge 21, 3), (16, .aload_n 0, 1), (17, .getfield 16, 3), (20, .iload_n 1, 1), (21, .aload_n 0, 1), (22, .getfield 72, 3), (25, .iload_n 1, 1), (26, .iaload, 1), (27, .iastore, 1), (28, .iinc 1 1, 3), (31, .goto (-21), 3), (34, .return_, 1)]  -- X8_layBack
def zi_186 : List (Nat × Instr × Nat) := [(0, .aload_n 0, 1), (1, .getfield 63, 3), (4, .iload_n 1, 1), (5, .iaload, 1), (6, .iconst 2, 1), (7, .if_icmp .ne 10, 3), (10, .aload_n 0, 1), (11, .getfield 66, 3), (14, .iload_n 1, 1), (15, .iaload, 1), (16, .ireturn, 1), (17, .aload_n 0, 1), (18, .getfield 63, 3), (21, .iload_n 1, 1), (22, .iaload, 1), (23, .iconst 1, 1), (24, .if_icmp .ne 42, 3), (27, .aload_n 0, 1), (28, .aload_n 0, 1), (29, .getfield 66, 3), (32, .iload_n 1, 1), (33, .iaload, 1), (34, .aload_n 0, 1), (35, .getfield 69, 3), (38, .iload_n 1, 1), (39, .iaload, 1), (40, .invokevirtual 266, 3), (43, .ifCond .ne 5, 3), (46, .iconst (-1), 1), (47, .ireturn, 1), (48, .aload_n 0, 1), (49, .aload_n 0, 1), (50, .getfield 66, 3), (53, .iload_n 1, 1), (54, .iaload, 1), (55, .aload_n 0, 1), (56, .getfield 69, 3), (59, .iload_n 1, 1), (60, .iaload, 1), (61, .invokevirtual 260, 3), (64, .iconst 0, 1), (65, .ireturn, 1), (66, .aload_n 0, 1), (67, .getfield 66, 3), (70, .iload_n 1, 1), (71, .iaload, 1), (72, .aload_n 0, 1), (73, .getfield 129, 3), (76, .if_icmp .ne 5, 3), (79, .iconst (-1), 1), (80, .ireturn, 1), (81, .aload_n 0, 1), (82, .aload_n 0, 1), (83, .getfield 129, 3), (86, .aload_n 0, 1), (87, .getfield 66, 3), (90, .iload_n 1, 1), (91, .iaload, 1), (92, .invokevirtual 243, 3), (95, .istore_n 2, 1), (96, .aload_n 0, 1), (97, .aload_n 0, 1), (98, .getfield 66, 3), (101, .iload_n 1, 1), (102, .iaload, 1), (103, .putfield 129, 3), (106, .iload_n 2, 1), (107, .ireturn, 1)]  -- X8_does
def zi_187 : List (Nat × Instr × Nat) := [(0, .aload_n 0, 1), (1, .invokevirtual 275, 3), (4, .iconst (-1), 1), (5, .istore_n 1, 1), (6, .iconst 0, 1), (7, .istore_n 2, 1), (8, .iload_n 2, 1), (9, .aload_n 0, 1), (10, .getfield 136, 3), (13, .if_icmp .ge 23, 3), (16, .iload_n 1, 1), (17, .ifCond .ge 19, 3), (20, .aload_n 0, 1), (21, .iload_n 2, 1), (22, .invokevirtual 278, 3), (25, .ifCond .ge 5, 3), (28, .iload_n 2, 1), (29, .istore_n 1, 1), (30, .iinc 2 1, 3), (33, .goto (-25), 3), (36, .aload_n 0, 1), (37, .invokevirtual 281, 3), (40, .iload_n 1, 1), (41, .ireturn, 1)]  -- X8_judge
def zi_188 : List (Nat × Instr × Nat) := [(0, .aload_n 0, 1), (1, .invokevirtual 275, 3), (4, .aload_n 0, 1), (5, .iconst 0, 1), (6, .putfield 284, 3), (9, .aload_n 0, 1), (10, .iconst 0, 1), (11, .putfield 287, 3), (14, .iconst 0, 1), (15, .istore_n 2, 1), (16, .iconst 0, 1), (17, .istore_n 3, 1), (18, .iload_n 3, 1), (19, .iload_n 1, 1), (20, .if_icmp .ge 106, 3), (23, .aload_n 0, 1), (24, .iload_n 3, 1), (25, .invokevirtual 278, 3), (28, .istore 4, 2), (30, .iload 4, 2), (32, .ifCond .le 14, 3), (35, .aload_n 0, 1), (36, .dup, 1), (37, .getfield 284, 3), (40, .iload 4, 2), (42, .iadd, 1), (43, .putfield 284, 3), (46, .iconst 0, 1), (47, .istore 5, 2), (49, .iload 5, 2), (51, .aload_n 0, 1), (52, .getfield 122, 3), (55, .if_icmp .ge 65, 3), (58, .aload_n 0, 1), (59, .getfield 16, 3), (62, .iload 5, 2), (64, .iaload, 1), (65, .aload_n 0, 1), (66, .getfield 19, 3), (69, .iload 5, 2), (71, .iaload, 1), (72, .if_icmp .ne 42, 3), (75, .iload_n 2, 1), (76, .iload 5, 2), (78, .ishr, 1), (79, .iconst 1, 1), (80, .iand, 1), (81, .iconst 1, 1), (82, .if_icmp .ne 6, 3), (85, .goto 29, 3), (88, .iload_n 2, 1), (89, .iconst 1, 1), (90, .iload 5, 2), (92, .ishl, 1), (93, .ior, 1), (94, .istore_n 2, 1), (95, .aload_n 0, 1), (96, .dup, 1), (97, .getfield 287, 3), (100, .aload_n 0, 1), (101, .iload 5, 2), (103, .aload_n 0, 1), (104, .getfield 284, 3), (107, .invokevirtual 247, 3), (110, .iadd, 1), (111, .putfield 287, 3), (114, .iinc 5 1, 3), (117, .goto (-68), 3), (120, .iinc 3 1, 3), (123, .goto (-105), 3), (126, .return_, 1)]  -- X8_doMoves
def zi_189 : List (Nat × Instr × Nat) := [(0, .iload_n 1, 1), (1, .iconst 0, 1), (2, .aload_n 0, 1), (3, .getfield 136, 3), (6, .invokestatic 118, 3), (9, .ifCond .ne 6, 3), (12, .bipush (-5), 2), (14, .ireturn, 1), (15, .iload_n 2, 1), (16, .iconst 0, 1), (17, .iconst 3, 1), (18, .invokestatic 118, 3), (21, .ifCond .ne 6, 3), (24, .bipush (-7), 2), (26, .ireturn, 1), (27, .aload_n 0, 1), (28, .iload_n 1, 1), (29, .invokevirtual 290, 3), (32, .iload_n 2, 1), (33, .ifCond .ne 10, 3), (36, .aload_n 0, 1), (37, .getfield 284, 3), (40, .goto 31, 3), (43, .iload_n 2, 1), (44, .iconst 1, 1), (45, .if_icmp .ne 10, 3), (48, .aload_n 0, 1), (49, .getfield 129, 3), (52, .goto 19, 3), (55, .iload_n 2, 1), (56, .iconst 2, 1), (57, .if_icmp .ne 10, 3), (60, .aload_n 0, 1), (61, .invokevirtual 293, 3), (64, .goto 7, 3), (67, .aload_n 0, 1), (68, .getfield 287, 3), (71, .istore_n 3, 1), (72, .aload_n 0, 1), (73, .invokevirtual 281, 3), (76, .iload_n 3, 1), (77, .ireturn, 1)]  -- X8_run
def zi_190 : List (Nat × Instr × Nat) := [(0, .iload_n 1, 1), (1, .iconst 0, 1), (2, .aload_n 0, 1), (3, .getfield 136, 3), (6, .invokestatic 118, 3), (9, .ifCond .eq 11, 3), (12, .aload_n 0, 1), (13, .iload_n 2, 1), (14, .invokevirtual 237, 3), (17, .ifCond .ne 6, 3), (20, .bipush (-5), 2), (22, .ireturn, 1), (23, .aload_n 0, 1), (24, .iload_n 1, 1), (25, .invokevirtual 290, 3), (28, .aload_n 0, 1), (29, .getfield 16, 3), (32, .iload_n 2, 1), (33, .iaload, 1), (34, .istore_n 3, 1), (35, .aload_n 0, 1), (36, .invokevirtual 281, 3), (39, .iload_n 3, 1), (40, .ireturn, 1)]  -- X8_where
def zi_191 : List (Nat × Instr × Nat) := [(0, .aload_n 0, 1), (1, .getfield 129, 3), (4, .istore_n 1, 1), (5, .iconst 0, 1), (6, .istore_n 2, 1), (7, .iload_n 2, 1), (8, .aload_n 0, 1), (9, .getfield 122, 3), (12, .if_icmp .ge 20, 3), (15, .iconst 5, 1), (16, .iload_n 1, 1), (17, .imul, 1), (18, .aload_n 0, 1), (19, .getfield 16, 3), (22, .iload_n 2, 1), (23, .iaload, 1), (24, .iadd, 1), (25, .istore_n 1, 1), (26, .iinc 2 1, 3), (29, .goto (-22), 3), (32, .iload_n 1, 1), (33, .ireturn, 1)]  -- X8_codeNow
def zi_192 : List (Nat × Instr × Nat) := [(0, .iload_n 1, 1), (1, .istore_n 2, 1), (2, .aload_n 0, 1), (3, .getfield 122, 3), (6, .iconst 1, 1), (7, .isub, 1), (8, .istore_n 3, 1), (9, .iload_n 3, 1), (10, .ifCond .lt 22, 3), (13, .aload_n 0, 1), (14, .getfield 16, 3), (17, .iload_n 3, 1), (18, .iload_n 2, 1), (19, .iconst 5, 1), (20, .irem, 1), (21, .iastore, 1), (22, .iload_n 2, 1), (23, .iconst 5, 1), (24, .idiv, 1), (25, .istore_n 2, 1), (26, .iinc 3 (-1), 3), (29, .goto (-20), 3), (32, .aload_n 0, 1), (33, .iload_n 2, 1), (34, .putfield 129, 3), (37, .return_, 1)]  -- X8_beAt
def zi_193 : List (Nat × Instr × Nat) := [(0, .iload_n 1, 1), (1, .sipush 400, 3), (4, .if_icmp .le 4, 3), (7, .return_, 1), (8, .aload_n 0, 1), (9, .invokevirtual 296, 3), (12, .istore_n 2, 1), (13, .iload_n 2, 1), (14, .bipush 31, 2), (16, .imul, 1), (17, .sipush 4096, 3), (20, .irem, 1), (21, .istore_n 3, 1), (22, .aload_n 0, 1), (23, .getfield 85, 3), (26, .iload_n 3, 1), (27, .iaload, 1), (28, .ifCond .le 38, 3), (31, .aload_n 0, 1), (32, .getfield 75, 3), (35, .aload_n 0, 1), (36, .getfield 85, 3), (39, .iload_n 3, 1), (40, .iaload, 1), (41, .iconst 1, 1), (42, .isub, 1), (43, .iaload, 1), (44, .iload_n 2, 1), (45, .if_icmp .eq 21, 3), (48, .iload_n 3, 1), (49, .sipush 4095, 3), (52, .if_icmp .ne 7, 3), (55, .iconst 0, 1), (56, .goto 6, 3), (59, .iload_n 3, 1), (60, .iconst 1, 1), (61, .iadd, 1), (62, .istore_n 3, 1), (63, .goto (-41), 3), (66, .aload_n 0, 1), (67, .getfield 85, 3), (70, .iload_n 3, 1), (71, .iaload, 1), (72, .ifCond .ne 56, 3), (75, .aload_n 0, 1), (76, .getfield 75, 3), (79, .aload_n 0, 1), (80, .getfield 299, 3), (83, .iload_n 2, 1), (84, .iastore, 1), (85, .aload_n 0, 1), (86, .getfield 78, 3), (89, .aload_n 0, 1), (90, .getfield 299, 3), (93, .iload_n 1, 1), (94, .iastore, 1), (95, .aload_n 0, 1), (96, .getfield 81, 3), (99, .aload_n 0, 1), (100, .getfield 299, 3), (103, .iconst 0, 1), (104, .bastore, 1), (105, .aload_n 0, 1), (106, .dup, 1), (107, .getfield 299, 3), (110, .iconst 1, 1), (111, .iadd, 1), (112, .putfield 299, 3), (115, .aload_n 0, 1), (116, .getfield 85, 3), (119, .iload_n 3, 1), (120, .aload_n 0, 1), (121, .getfield 299, 3), (124, .iastore, 1), (125, .goto 34, 3), (128, .iload_n 1, 1), (129, .aload_n 0, 1), (130, .getfield 78, 3), (133, .aload_n 0, 1), (134, .getfield 85, 3), (137, .iload_n 3, 1), (138, .iaload, 1), (139, .iconst 1, 1), (140, .isub, 1), (141, .iaload, 1), (142, .if_icmp .ge 17, 3), (145, .aload_n 0, 1), (146, .getfield 78, 3), (149, .aload_n 0, 1), (150, .getfield 85, 3), (153, .iload_n 3, 1), (154, .iaload, 1), (155, .iconst 1, 1), (156, .isub, 1), (157, .iload_n 1, 1), (158, .iastore, 1), (159, .return_, 1)]  -- X8_comes
def zi_194 : List (Nat × Instr × Nat) := [(0, .aload_n 0, 1), (1, .aload_n 0, 1), (2, .getfield 75, 3), (5, .iload_n 1, 1), (6, .iaload, 1), (7, .invokevirtual 302, 3), (10, .aload_n 0, 1), (11, .getfield 129, 3), (14, .istore_n 3, 1), (15, .iconst 0, 1), (16, .istore 4, 2), (18, .iload 4, 2), (20, .iconst 4, 1), (21, .if_icmp .ge 68, 3), (24, .aload_n 0, 1), (25, .iload_n 3, 1), (26, .putfield 129, 3), (29, .iload 4, 2), (31, .iload_n 3, 1), (32, .if_icmp .ne 6, 3), (35, .goto 48, 3), (38, .iload_n 2, 1), (39, .ifCond .ne 13, 3), (42, .aload_n 0, 1), (43, .iload_n 3, 1), (44, .iload 4, 2), (46, .invokevirtual 243, 3), (49, .goto 13, 3), (52, .iload_n 2, 1), (53, .iconst 2, 1), (54, .if_icmp .ne 7, 3), (57, .iconst 1, 1), (58, .goto 4, 3), (61, .iconst 0, 1), (62, .istore 5, 2), (64, .aload_n 0, 1), (65, .iload 4, 2), (67, .putfield 129, 3), (70, .aload_n 0, 1), (71, .aload_n 0, 1), (72, .getfield 78, 3), (75, .iload_n 1, 1), (76, .iaload, 1), (77, .iload 5, 2), (79, .iadd, 1), (80, .invokevirtual 305, 3), (83, .iinc 4 1, 3), (86, .goto (-68), 3), (89, .aload_n 0, 1), (90, .iload_n 3, 1), (91, .putfield 129, 3), (94, .iconst 0, 1), (95, .istore 4, 2), (97, .iload 4, 2), (99, .aload_n 0, 1), (100, .getfield 122, 3), (103, .if_icmp .ge 78, 3), (106, .iconst 0, 1), (107, .istore 5, 2), (109, .iload 5, 2), (111, .aload_n 0, 1), (112, .getfield 122, 3), (115, .if_icmp .ge 60, 3), (118, .aload_n 0, 1), (119, .iload 4, 2), (121, .iload 5, 2), (123, .invokevirtual 266, 3), (126, .ifCond .ne 6, 3), (129, .goto 40, 3), (132, .aload_n 0, 1), (133, .iload 4, 2), (135, .iload 5, 2), (137, .invokevirtual 260, 3), (140, .aload_n 0, 1), (141, .aload_n 0, 1), (142, .getfield 78, 3), (145, .iload_n 1, 1), (146, .iaload, 1), (147, .iload_n 2, 1), (148, .iconst 1, 1), (149, .if_icmp .ne 7, 3), (152, .iconst 1, 1), (153, .goto 4, 3), (156, .iconst 0, 1), (157, .iadd, 1), (158, .invokevirtual 305, 3), (161, .aload_n 0, 1), (162, .iload 5, 2), (164, .iload 4, 2), (166, .invokevirtual 260, 3), (169, .iinc 5 1, 3), (172, .goto (-63), 3), (175, .iinc 4 1, 3), (178, .goto (-81), 3), (181, .return_, 1)]  -- X8_goOn
def zi_195 : List (Nat × Instr × Nat) := [(0, .iconst 0, 1), (1, .istore_n 2, 1), (2, .iload_n 2, 1), (3, .aload_n 0, 1), (4, .getfield 122, 3), (7, .if_icmp .ge 21, 3), (10, .aload_n 0, 1), (11, .getfield 88, 3), (14, .iload_n 2, 1), (15, .aload_n 0, 1), (16, .getfield 16, 3), (19, .iload_n 2, 1), (20, .iaload, 1), (21, .iastore, 1), (22, .iinc 2 1, 3), (25, .goto (-23), 3), (28, .aload_n 0, 1), (29, .getfield 129, 3), (32, .istore_n 2, 1), (33, .aload_n 0, 1), (34, .iconst 0, 1), (35, .putfield 299, 3), (38, .iconst 0, 1), (39, .istore_n 3, 1), (40, .iload_n 3, 1), (41, .sipush 4096, 3), (44, .if_icmp .ge 16, 3), (47, .aload_n 0, 1), (48, .getfield 85, 3), (51, .iload_n 3, 1), (52, .iconst 0, 1), (53, .iastore, 1), (54, .iinc 3 1, 3), (57, .goto (-17), 3), (60, .aload_n 0, 1), (61, .iconst 0, 1), (62, .invokevirtual 305, 3), (65, .iconst 0, 1), (66, .istore_n 3, 1), (67, .iload_n 3, 1), (68, .ifCond .lt 72, 3), (71, .aload_n 0, 1), (72, .getfield 81, 3), (75, .iload_n 3, 1), (76, .iconst 1, 1), (77, .bastore, 1), (78, .aload_n 0, 1), (79, .iload_n 3, 1), (80, .iload_n 1, 1), (81, .invokevirtual 308, 3), (84, .iconst (-1), 1), (85, .istore_n 3, 1), (86, .iconst 0, 1), (87, .istore 4, 2), (89, .iload 4, 2), (91, .aload_n 0, 1), (92, .getfield 299, 3), (95, .if_icmp .ge 42, 3), (98, .aload_n 0, 1), (99, .getfield 81, 3), (102, .iload 4, 2), (104, .baload, 1), (105, .ifCond .ne 26, 3), (108, .iload_n 3, 1), (109, .ifCond .lt 19, 3), (112, .aload_n 0, 1), (113, .getfield 78, 3), (116, .iload 4, 2), (118, .iaload, 1), (119, .aload_n 0, 1), (120, .getfield 78, 3), (123, .iload_n 3, 1), (124, .iaload, 1), (125, .if_icmp .ge 6, 3), (128, .iload 4, 2), (130, .istore_n 3, 1), (131, .iinc 4 1, 3), (134, .goto (-45), 3), (137, .goto (-70), 3), (140, .iconst 0, 1), (141, .istore 4, 2), (143, .iload 4, 2), (145, .aload_n 0, 1), (146, .getfield 122, 3), (149, .if_icmp .ge 23, 3), (152, .aload_n 0, 1), (153, .getfield 16, 3), (156, .iload 4, 2), (158, .aload_n 0, 1), (159, .getfield 88, 3), (162, .iload 4, 2), (164, .iaload, 1), (165, .iastore, 1), (166, .iinc 4 1, 3), (169, .goto (-26), 3), (172, .aload_n 0, 1), (173, .iload_n 2, 1), (174, .putfield 129, 3), (177, .return_, 1)]  -- X8_findStates
def zi_196 : List (Nat × Instr × Nat) := [(0, .iconst 1, 1), (1, .aload_n 0, 1), (2, .getfield 122, 3), (5, .ishl, 1), (6, .iconst 1, 1), (7, .isub, 1), (8, .iload_n 1, 1), (9, .iconst (-1), 1), (10, .ixor, 1), (11, .iand, 1), (12, .istore_n 2, 1), (13, .iconst (-1), 1), (14, .istore_n 3, 1), (15, .iconst 0, 1), (16, .istore 4, 2), (18, .iload 4, 2), (20, .aload_n 0, 1), (21, .getfield 122, 3), (24, .if_icmp .ge 23, 3), (27, .aload_n 0, 1), (28, .getfield 88, 3), (31, .iload 4, 2), (33, .aload_n 0, 1), (34, .getfield 16, 3), (37, .iload 4, 2), (39, .iaload, 1), (40, .iastore, 1), (41, .iinc 4 1, 3), (44, .goto (-26), 3), (47, .aload_n 0, 1), (48, .getfield 129, 3), (51, .istore 4, 2), (53, .iconst 0, 1), (54, .istore 5, 2), (56, .iload 5, 2), (58, .aload_n 0, 1), (59, .getfield 299, 3), (62, .if_icmp .ge 56, 3), (65, .iload_n 3, 1), (66, .ifCond .lt 17, 3), (69, .aload_n 0, 1), (70, .getfield 78, 3), (73, .iload 5, 2), (75, .iaload, 1), (76, .iload_n 3, 1), (77, .if_icmp .lt 6, 3), (80, .goto 32, 3), (83, .aload_n 0, 1), (84, .aload_n 0, 1), (85, .getfield 75, 3), (88, .iload 5, 2), (90, .iaload, 1), (91, .invokevirtual 302, 3), (94, .aload_n 0, 1), (95, .invokevirtual 293, 3), (98, .iload_n 2, 1), (99, .iand, 1), (100, .iload_n 2, 1), (101, .if_icmp .ne 11, 3), (104, .aload_n 0, 1), (105, .getfield 78, 3), (108, .iload 5, 2), (110, .iaload, 1), (111, .istore_n 3, 1), (112, .iinc 5 1, 3), (115, .goto (-59), 3), (118, .iconst 0, 1), (119, .istore 5, 2), (121, .iload 5, 2), (123, .aload_n 0, 1), (124, .getfield 122, 3), (127, .if_icmp .ge 23, 3), (130, .aload_n 0, 1), (131, .getfield 16, 3), (134, .iload 5, 2), (136, .aload_n 0, 1), (137, .getfield 88, 3), (140, .iload 5, 2), (142, .iaload, 1), (143, .iastore, 1), (144, .iinc 5 1, 3), (147, .goto (-26), 3), (150, .aload_n 0, 1), (151, .iload 4, 2), (153, .putfield 129, 3), (156, .iload_n 3, 1), (157, .ireturn, 1)]  -- X8_leastBut
def zi_197 : List (Nat × Instr × Nat) := [(0, .aload_n 0, 1), (1, .iload_n 1, 1), (2, .invokevirtual 311, 3), (5, .aload_n 0, 1), (6, .iconst 0, 1), (7, .invokevirtual 314, 3), (10, .ireturn, 1)]  -- X8_allBy
def zi_198 : List (Nat × Instr × Nat) := [(0, .iload_n 1, 1), (1, .iconst 0, 1), (2, .iconst 2, 1), (3, .invokestatic 118, 3), (6, .ifCond .eq 11, 3), (9, .aload_n 0, 1), (10, .iload_n 1, 1), (11, .invokevirtual 317, 3), (14, .goto 5, 3), (17, .bipush (-2), 2), (19, .ireturn, 1)]  -- X8_all
def zi_199 : List (Nat × Instr × Nat) := [(0, .aload_n 0, 1), (1, .iload_n 1, 1), (2, .invokevirtual 237, 3), (5, .ifCond .ne 6, 3), (8, .bipush (-5), 2), (10, .ireturn, 1), (11, .aload_n 0, 1), (12, .iconst 0, 1), (13, .invokevirtual 311, 3), (16, .aload_n 0, 1), (17, .invokevirtual 275, 3), (20, .iconst (-1), 1), (21, .istore_n 2, 1), (22, .iconst 0, 1), (23, .istore_n 3, 1), (24, .iload_n 3, 1), (25, .aload_n 0, 1), (26, .getfield 299, 3), (29, .if_icmp .ge 55, 3), (32, .aload_n 0, 1), (33, .aload_n 0, 1), (34, .getfield 75, 3), (37, .iload_n 3, 1), (38, .iaload, 1), (39, .invokevirtual 302, 3), (42, .aload_n 0, 1), (43, .getfield 16, 3), (46, .iload_n 1, 1), (47, .iaload, 1), (48, .aload_n 0, 1), (49, .getfield 19, 3), (52, .iload_n 1, 1), (53, .iaload, 1), (54, .if_icmp .ne 24, 3), (57, .iload_n 2, 1), (58, .ifCond .lt 13, 3), (61, .aload_n 0, 1), (62, .getfield 78, 3), (65, .iload_n 3, 1), (66, .iaload, 1), (67, .iload_n 2, 1), (68, .if_icmp .ge 10, 3), (71, .aload_n 0, 1), (72, .getfield 78, 3), (75, .iload_n 3, 1), (76, .iaload, 1), (77, .istore_n 2, 1), (78, .iinc 3 1, 3), (81, .goto (-57), 3), (84, .aload_n 0, 1), (85, .invokevirtual 281, 3), (88, .iload_n 2, 1), (89, .ireturn, 1)]  -- X8_soonest
def zi_200 : List (Nat × Instr × Nat) := [(0, .iload_n 1, 1), (1, .iconst 0, 1), (2, .iconst 1, 1), (3, .invokestatic 118, 3), (6, .ifCond .ne 6, 3), (9, .bipush (-2), 2), (11, .ireturn, 1), (12, .aload_n 0, 1), (13, .iconst 0, 1), (14, .invokevirtual 311, 3), (17, .iload_n 1, 1), (18, .iconst 1, 1), (19, .if_icmp .ne 8, 3), (22, .aload_n 0, 1), (23, .getfield 299, 3), (26, .ireturn, 1), (27, .aload_n 0, 1), (28, .invokevirtual 275, 3), (31, .iconst 0, 1), (32, .istore_n 2, 1), (33, .iconst 0, 1), (34, .istore_n 3, 1), (35, .iload_n 3, 1), (36, .aload_n 0, 1), (37, .getfield 299, 3), (40, .if_icmp .ge 26, 3), (43, .aload_n 0, 1), (44, .aload_n 0, 1), (45, .getfield 75, 3), (48, .iload_n 3, 1), (49, .iaload, 1), (50, .invokevirtual 302, 3), (53, .iload_n 2, 1), (54, .aload_n 0, 1), (55, .invokevirtual 293, 3), (58, .ior, 1), (59, .istore_n 2, 1), (60, .iinc 3 1, 3), (63, .goto (-28), 3), (66, .aload_n 0, 1), (67, .invokevirtual 281, 3), (70, .iconst 1, 1), (71, .aload_n 0, 1), (72, .getfield 122, 3), (75, .ishl, 1), (76, .iconst 1, 1), (77, .isub, 1), (78, .iload_n 2, 1), (79, .iconst (-1), 1), (80, .ixor, 1), (81, .iand, 1), (82, .ireturn, 1)]  -- X8_never
def zi_201 : List (Nat × Instr × Nat) := [(0, .iconst 0, 1), (1, .istore_n 2, 1), (2, .iconst 0, 1), (3, .istore_n 3, 1), (4, .iload_n 3, 1), (5, .aload_n 0, 1), (6, .getfield 122, 3), (9, .if_icmp .ge 33, 3), (12, .aload_n 0, 1), (13, .getfield 16, 3), (16, .iload_n 3, 1), (17, .iaload, 1), (18, .aload_n 0, 1), (19, .getfield 19, 3), (22, .iload_n 3, 1), (23, .iaload, 1), (24, .if_icmp .ne 12, 3), (27, .iload_n 2, 1), (28, .aload_n 0, 1), (29, .iload_n 3, 1), (30, .iload_n 1, 1), (31, .invokevirtual 247, 3), (34, .iadd, 1), (35, .istore_n 2, 1), (36, .iinc 3 1, 3), (39, .goto (-35), 3), (42, .iload_n 2, 1), (43, .ireturn, 1)]  -- X8_gainIn
def zi_202 : List (Nat × Instr × Nat) := [(0, .iload_n 1, 1), (1, .iconst 0, 1), (2, .sipush 400, 3), (5, .invokestatic 118, 3), (8, .ifCond .eq 12, 3), (11, .iload_n 2, 1), (12, .iconst 0, 1), (13, .iconst 1, 1), (14, .invokestatic 118, 3), (17, .ifCond .ne 6, 3), (20, .bipush (-2), 2), (22, .ireturn, 1), (23, .aload_n 0, 1), (24, .iconst 0, 1), (25, .invokevirtual 311, 3), (28, .aload_n 0, 1), (29, .invokevirtual 275, 3), (32, .iconst (-1), 1), (33, .istore_n 3, 1), (34, .iconst 0, 1), (35, .istore 4, 2), (37, .iconst 0, 1), (38, .istore 5, 2), (40, .iload 5, 2), (42, .aload_n 0, 1), (43, .getfield 299, 3), (46, .if_icmp .ge 86, 3), (49, .aload_n 0, 1), (50, .getfield 78, 3), (53, .iload 5, 2), (55, .iaload, 1), (56, .iload_n 1, 1), (57, .if_icmp .le 6, 3), (60, .goto 66, 3), (63, .aload_n 0, 1), (64, .aload_n 0, 1), (65, .getfield 75, 3), (68, .iload 5, 2), (70, .iaload, 1), (71, .invokevirtual 302, 3), (74, .aload_n 0, 1), (75, .aload_n 0, 1), (76, .getfield 78, 3), (79, .iload 5, 2), (81, .iaload, 1), (82, .invokevirtual 320, 3), (85, .istore 6, 2), (87, .iload 6, 2), (89, .iload_n 3, 1), (90, .if_icmp .lt 36, 3), (93, .iload 6, 2), (95, .iload_n 3, 1), (96, .if_icmp .ne 18, 3), (99, .aload_n 0, 1), (100, .getfield 78, 3), (103, .iload 5, 2), (105, .iaload, 1), (106, .iload 4, 2), (108, .if_icmp .lt 6, 3), (111, .goto 15, 3), (114, .iload 6, 2), (116, .istore_n 3, 1), (117, .aload_n 0, 1), (118, .getfield 78, 3), (121, .iload 5, 2), (123, .iaload, 1), (124, .istore 4, 2), (126, .iinc 5 1, 3), (129, .goto (-89), 3), (132, .aload_n 0, 1), (133, .invokevirtual 281, 3), (136, .iload_n 2, 1), (137, .ifCond .ne 7, 3), (140, .iload_n 3, 1), (141, .goto 5, 3), (144, .iload 4, 2), (146, .ireturn, 1)]  -- X8_best
def zi_203 : List (Nat × Instr × Nat) := [(0, .iconst 0, 1), (1, .istore_n 3, 1), (2, .iload_n 3, 1), (3, .iconst 4, 1), (4, .if_icmp .ge 25, 3), (7, .aload_n 0, 1), (8, .getfield 91, 3), (11, .iload_n 3, 1), (12, .iload_n 3, 1), (13, .iload_n 1, 1), (14, .if_icmp .ne 7, 3), (17, .iconst 0, 1), (18, .goto 4, 3), (21, .iconst (-1), 1), (22, .iastore, 1), (23, .iinc 3 1, 3), (26, .goto (-24), 3), (29, .iconst 0, 1), (30, .istore_n 3, 1), (31, .iload_n 3, 1), (32, .iconst 4, 1), (33, .if_icmp .ge 118, 3), (36, .iconst 0, 1), (37, .istore 4, 2), (39, .iload 4, 2), (41, .iconst 4, 1), (42, .if_icmp .ge 103, 3), (45, .aload_n 0, 1), (46, .getfield 91, 3), (49, .iload 4, 2), (51, .iaload, 1), (52, .ifCond .ge 6, 3), (55, .goto 84, 3), (58, .iconst 0, 1), (59, .istore 5, 2), (61, .iload 5, 2), (63, .iconst 4, 1), (64, .if_icmp .ge 75, 3), (67, .iload 5, 2), (69, .iload 4, 2), (71, .if_icmp .eq 62, 3), (74, .aload_n 0, 1), (75, .getfield 91, 3), (78, .iload 5, 2), (80, .iaload, 1), (81, .ifCond .lt 29, 3), (84, .aload_n 0, 1), (85, .getfield 91, 3), (88, .iload 4, 2), (90, .iaload, 1), (91, .aload_n 0, 1), (92, .iload 4, 2), (94, .iload 5, 2), (96, .invokevirtual 243, 3), (99, .iadd, 1), (100, .aload_n 0, 1), (101, .getfield 91, 3), (104, .iload 5, 2), (106, .iaload, 1), (107, .if_icmp .ge 26, 3), (110, .aload_n 0, 1), (111, .getfield 91, 3), (114, .iload 5, 2), (116, .aload_n 0, 1), (117, .getfield 91, 3), (120, .iload 4, 2), (122, .iaload, 1), (123, .aload_n 0, 1), (124, .iload 4, 2), (126, .iload 5, 2), (128, .invokevirtual 243, 3), (131, .iadd, 1), (132, .iastore, 1), (133, .iinc 5 1, 3), (136, .goto (-75), 3), (139, .iinc 4 1, 3), (142, .goto (-103), 3), (145, .iinc 3 1, 3), (148, .goto (-117), 3), (151, .aload_n 0, 1), (152, .getfield 91, 3), (155, .iload_n 2, 1), (156, .iaload, 1), (157, .ireturn, 1)]  -- X8_wayOf
def zi_204 : List (Nat × Instr × Nat) := [(0, .iconst 0, 1), (1, .istore_n 1, 1), (2, .iconst 0, 1), (3, .istore_n 2, 1), (4, .iload_n 2, 1), (5, .aload_n 0, 1), (6, .getfield 122, 3), (9, .if_icmp .ge 76, 3), (12, .aload_n 0, 1), (13, .iload_n 2, 1), (14, .invokevirtual 269, 3), (17, .ifCond .eq 6, 3), (20, .goto 59, 3), (23, .aload_n 0, 1), (24, .getfield 16, 3), (27, .iload_n 2, 1), (28, .iaload, 1), (29, .iconst 4, 1), (30, .if_icmp .ne 10, 3), (33, .aload_n 0, 1), (34, .getfield 129, 3), (37, .goto 9, 3), (40, .aload_n 0, 1), (41, .getfield 16, 3), (44, .iload_n 2, 1), (45, .iaload, 1), (46, .istore_n 3, 1), (47, .aload_n 0, 1), (48, .aload_n 0, 1), (49, .getfield 129, 3), (52, .iload_n 3, 1), (53, .invokevirtual 323, 3), (56, .aload_n 0, 1), (57, .iload_n 3, 1), (58, .aload_n 0, 1), (59, .getfield 19, 3), (62, .iload_n 2, 1), (63, .iaload, 1), (64, .invokevirtual 323, 3), (67, .iadd, 1), (68, .istore 4, 2), (70, .iload 4, 2), (72, .iload_n 1, 1), (73, .if_icmp .le 6, 3), (76, .iload 4, 2), (78, .istore_n 1, 1), (79, .iinc 2 1, 3), (82, .goto (-78), 3), (85, .iload_n 1, 1), (86, .ireturn, 1)]  -- X8_boundNow
def zi_205 : List (Nat × Instr × Nat) := [(0, .aload_n 0, 1), (1, .invokevirtual 326, 3), (4, .ireturn, 1)]  -- X8_bound
def zi_206 : List (Nat × Instr × Nat) := [(0, .aload_n 0, 1), (1, .iconst 0, 1), (2, .invokevirtual 317, 3), (5, .istore_n 1, 1), (6, .iload_n 1, 1), (7, .ifCond .ge 7, 3), (10, .iconst (-1), 1), (11, .goto 9, 3), (14, .iload_n 1, 1), (15, .aload_n 0, 1), (16, .invokevirtual 326, 3), (19, .isub, 1), (20, .ireturn, 1)]  -- X8_gap
def zi_207 : List (Nat × Instr × Nat) := [(0, .iload_n 1, 1), (1, .invokestatic 125, 3), (4, .ifCond .eq 19, 3), (7, .iload_n 2, 1), (8, .invokestatic 125, 3), (11, .ifCond .eq 12, 3), (14, .aload_n 0, 1), (15, .iload_n 1, 1), (16, .iload_n 2, 1), (17, .invokevirtual 323, 3), (20, .goto 5, 3), (23, .bipush (-5), 2), (25, .ireturn, 1)]  -- X8_way
def zi_208 : List (Nat × Instr × Nat) := [(0, .iload_n 1, 1), (1, .iconst 0, 1), (2, .iconst 1, 1), (3, .invokestatic 118, 3), (6, .ifCond .ne 6, 3), (9, .bipush (-2), 2), (11, .ireturn, 1), (12, .aload_n 0, 1), (13, .getfield 122, 3), (16, .bipush 6, 2), (18, .if_icmp .ne 6, 3), (21, .bipush (-3), 2), (23, .ireturn, 1), (24, .aload_n 0, 1), (25, .iconst 0, 1), (26, .invokevirtual 317, 3), (29, .ifCond .lt 5, 3), (32, .iconst (-1), 1), (33, .ireturn, 1), (34, .aload_n 0, 1), (35, .getfield 122, 3), (38, .istore_n 2, 1), (39, .aload_n 0, 1), (40, .getfield 13, 3), (43, .iload_n 2, 1), (44, .iconst 3, 1), (45, .iastore, 1), (46, .aload_n 0, 1), (47, .getfield 19, 3), (50, .iload_n 2, 1), (51, .iconst 0, 1), (52, .iastore, 1), (53, .aload_n 0, 1), (54, .getfield 22, 3), (57, .iload_n 2, 1), (58, .iconst 0, 1), (59, .iastore, 1), (60, .aload_n 0, 1), (61, .getfield 25, 3), (64, .iload_n 2, 1), (65, .iconst 0, 1), (66, .iastore, 1), (67, .aload_n 0, 1), (68, .getfield 28, 3), (71, .iload_n 2, 1), (72, .iconst 0, 1), (73, .iastore, 1), (74, .aload_n 0, 1), (75, .getfield 31, 3), (78, .iload_n 2, 1), (79, .iconst 0, 1), (80, .iastore, 1), (81, .aload_n 0, 1), (82, .dup, 1), (83, .getfield 122, 3), (86, .iconst 1, 1), (87, .iadd, 1), (88, .putfield 122, 3), (91, .iconst (-1), 1), (92, .istore_n 3, 1), (93, .iconst (-1), 1), (94, .istore 4, 2), (96, .iconst 0, 1), (97, .istore 5, 2), (99, .iload 5, 2), (101, .iconst 4, 1), (102, .if_icmp .ge 36, 3), (105, .iload_n 3, 1), (106, .ifCond .ge 32, 3), (109, .aload_n 0, 1), (110, .getfield 16, 3), (113, .iload_n 2, 1), (114, .iload 5, 2), (116, .iastore, 1), (117, .aload_n 0, 1), (118, .iconst 0, 1), (119, .invokevirtual 317, 3), (122, .istore 4, 2), (124, .iload 4, 2), (126, .ifCond .lt 6, 3), (129, .iload 5, 2), (131, .istore_n 3, 1), (132, .iinc 5 1, 3), (135, .goto (-36), 3), (138, .aload_n 0, 1), (139, .dup, 1), (140, .getfield 122, 3), (143, .iconst 1, 1), (144, .isub, 1), (145, .putfield 122, 3), (148, .iload_n 3, 1), (149, .ifCond .lt 7, 3), (152, .iload_n 1, 1), (153, .ifCond .ne 7, 3), (156, .iload_n 3, 1), (157, .goto 5, 3), (160, .iload 4, 2), (162, .ireturn, 1)]  -- X8_help
def zi_209 : List (Nat × Instr × Nat) := [(0, .aload_n 0, 1), (1, .getfield 139, 3), (4, .istore_n 1, 1), (5, .iconst 0, 1), (6, .istore_n 2, 1), (7, .iconst 0, 1), (8, .istore_n 3, 1), (9, .iload_n 3, 1), (10, .aload_n 0, 1), (11, .getfield 38, 3), (14, .if_icmp .ge 28, 3), (17, .aload_n 0, 1), (18, .iload_n 3, 1), (19, .putfield 139, 3), (22, .aload_n 0, 1), (23, .iconst 0, 1), (24, .invokevirtual 317, 3), (27, .ifCond .lt 9, 3), (30, .iload_n 2, 1), (31, .iconst 1, 1), (32, .iload_n 3, 1), (33, .ishl, 1), (34, .ior, 1), (35, .istore_n 2, 1), (36, .iinc 3 1, 3), (39, .goto (-30), 3), (42, .aload_n 0, 1), (43, .iload_n 1, 1), (44, .putfield 139, 3), (47, .iload_n 2, 1), (48, .ireturn, 1)]  -- X8_laws
def zi_210 : List (Nat × Instr × Nat) := [(0, .iload_n 1, 1), (1, .invokestatic 125, 3), (4, .ifCond .eq 15, 3), (7, .iload_n 2, 1), (8, .invokestatic 125, 3), (11, .ifCond .eq 8, 3), (14, .iload_n 1, 1), (15, .iload_n 2, 1), (16, .if_icmp .ne 6, 3), (19, .bipush (-5), 2), (21, .ireturn, 1), (22, .aload_n 0, 1), (23, .getfield 7, 3), (26, .iconst 4, 1), (27, .iload_n 1, 1), (28, .imul, 1), (29, .iload_n 2, 1), (30, .iadd, 1), (31, .iaload, 1), (32, .istore_n 3, 1), (33, .aload_n 0, 1), (34, .getfield 7, 3), (37, .iconst 4, 1), (38, .iload_n 1, 1), (39, .imul, 1), (40, .iload_n 2, 1), (41, .iadd, 1), (42, .iconst 1, 1), (43, .iastore, 1), (44, .aload_n 0, 1), (45, .getfield 7, 3), (48, .iconst 4, 1), (49, .iload_n 2, 1), (50, .imul, 1), (51, .iload_n 1, 1), (52, .iadd, 1), (53, .iconst 1, 1), (54, .iastore, 1), (55, .aload_n 0, 1), (56, .iconst 0, 1), (57, .invokevirtual 317, 3), (60, .istore 4, 2), (62, .aload_n 0, 1), (63, .getfield 7, 3), (66, .iconst 4, 1), (67, .iload_n 1, 1), (68, .imul, 1), (69, .iload_n 2, 1), (70, .iadd, 1), (71, .iload_n 3, 1), (72, .iastore, 1), (73, .aload_n 0, 1), (74, .getfield 7, 3), (77, .iconst 4, 1), (78, .iload_n 2, 1), (79, .imul, 1), (80, .iload_n 1, 1), (81, .iadd, 1), (82, .iload_n 3, 1), (83, .iastore, 1), (84, .iload 4, 2), (86, .ireturn, 1)]  -- X8_join
def zi_211 : List (Nat × Instr × Nat) := [(0, .iload_n 1, 1), (1, .iconst 0, 1), (2, .iconst 1, 1), (3, .invokestatic 118, 3), (6, .ifCond .ne 6, 3), (9, .bipush (-2), 2), (11, .ireturn, 1), (12, .aload_n 0, 1), (13, .iconst 0, 1), (14, .invokevirtual 311, 3), (17, .iconst (-1), 1), (18, .istore_n 2, 1), (19, .iconst 0, 1), (20, .istore_n 3, 1), (21, .iconst 0, 1), (22, .istore 4, 2), (24, .iload 4, 2), (26, .aload_n 0, 1), (27, .getfield 122, 3), (30, .if_icmp .ge 43, 3), (33, .aload_n 0, 1), (34, .iconst 1, 1), (35, .iload 4, 2), (37, .ishl, 1), (38, .invokevirtual 314, 3), (41, .istore 5, 2), (43, .iload 5, 2), (45, .ifCond .lt 22, 3), (48, .iload_n 2, 1), (49, .ifCond .lt 12, 3), (52, .iload 5, 2), (54, .iload_n 3, 1), (55, .if_icmp .lt 6, 3), (58, .goto 9, 3), (61, .iload 4, 2), (63, .istore_n 2, 1), (64, .iload 5, 2), (66, .istore_n 3, 1), (67, .iinc 4 1, 3), (70, .goto (-46), 3), (73, .iload_n 2, 1), (74, .ifCond .lt 7, 3), (77, .iload_n 1, 1), (78, .ifCond .ne 7, 3), (81, .iload_n 2, 1), (82, .goto 4, 3), (85, .iload_n 3, 1), (86, .ireturn, 1)]  -- X8_leave
def zi_212 : List (Nat × Instr × Nat) := [(0, .aload_n 0, 1), (1, .iconst 0, 1), (2, .invokevirtual 317, 3), (5, .istore_n 1, 1), (6, .iload_n 1, 1), (7, .ifCond .ge 5, 3), (10, .iconst (-1), 1), (11, .ireturn, 1), (12, .iconst 0, 1), (13, .istore_n 2, 1), (14, .iload_n 2, 1), (15, .aload_n 0, 1), (16, .getfield 122, 3), (19, .if_icmp .ge 69, 3), (22, .iconst 0, 1), (23, .istore_n 3, 1), (24, .iload_n 3, 1), (25, .aload_n 0, 1), (26, .getfield 122, 3), (29, .if_icmp .ge 53, 3), (32, .aload_n 0, 1), (33, .iload_n 2, 1), (34, .iload_n 3, 1), (35, .invokevirtual 266, 3), (38, .ifCond .ne 6, 3), (41, .goto 35, 3), (44, .aload_n 0, 1), (45, .iload_n 2, 1), (46, .iload_n 3, 1), (47, .invokevirtual 260, 3), (50, .aload_n 0, 1), (51, .iconst 0, 1), (52, .invokevirtual 317, 3), (55, .istore 4, 2), (57, .aload_n 0, 1), (58, .iload_n 3, 1), (59, .iload_n 2, 1), (60, .invokevirtual 260, 3), (63, .iload 4, 2), (65, .iload_n 1, 1), (66, .if_icmp .ne 10, 3), (69, .bipush 10, 2), (71, .iload_n 2, 1), (72, .imul, 1), (73, .iload_n 3, 1), (74, .iadd, 1), (75, .ireturn, 1), (76, .iinc 3 1, 3), (79, .goto (-55), 3), (82, .iinc 2 1, 3), (85, .goto (-71), 3), (88, .iconst (-1), 1), (89, .ireturn, 1)]  -- X8_first
def zi_213 : List (Nat × Instr × Nat) := [(0, .iconst 0, 1), (1, .istore_n 1, 1), (2, .iconst 0, 1), (3, .istore_n 2, 1), (4, .iload_n 2, 1), (5, .aload_n 0, 1), (6, .getfield 122, 3), (9, .if_icmp .ge 37, 3), (12, .iconst 0, 1), (13, .istore_n 3, 1), (14, .iload_n 3, 1), (15, .aload_n 0, 1), (16, .getfield 122, 3), (19, .if_icmp .ge 21, 3), (22, .aload_n 0, 1), (23, .iload_n 2, 1), (24, .iload_n 3, 1), (25, .invokevirtual 266, 3), (28, .ifCond .eq 6, 3), (31, .iinc 1 1, 3), (34, .iinc 3 1, 3), (37, .goto (-23), 3), (40, .iinc 2 1, 3), (43, .goto (-39), 3), (46, .iload_n 1, 1), (47, .ireturn, 1)]  -- X8_swapsNow
def zi_214 : List (Nat × Instr × Nat) := [(0, .iload_n 1, 1), (1, .istore_n 2, 1), (2, .iconst 0, 1), (3, .istore_n 3, 1), (4, .iload_n 3, 1), (5, .aload_n 0, 1), (6, .getfield 122, 3), (9, .if_icmp .ge 55, 3), (12, .iconst 0, 1), (13, .istore 4, 2), (15, .iload 4, 2), (17, .aload_n 0, 1), (18, .getfield 122, 3), (21, .if_icmp .ge 37, 3), (24, .aload_n 0, 1), (25, .iload_n 3, 1), (26, .iload 4, 2), (28, .invokevirtual 266, 3), (31, .ifCond .ne 6, 3), (34, .goto 18, 3), (37, .iload_n 2, 1), (38, .ifCond .ne 11, 3), (41, .aload_n 0, 1), (42, .iload_n 3, 1), (43, .iload 4, 2), (45, .invokevirtual 260, 3), (48, .return_, 1), (49, .iinc 2 (-1), 3), (52, .iinc 4 1, 3), (55, .goto (-40), 3), (58, .iinc 3 1, 3), (61, .goto (-57), 3), (64, .iconst 0, 1), (65, .istore_n 3, 1), (66, .iload_n 3, 1), (67, .iconst 4, 1), (68, .if_icmp .ge 51, 3), (71, .iload_n 3, 1), (72, .aload_n 0, 1), (73, .getfield 129, 3), (76, .if_icmp .ne 6, 3), (79, .goto 34, 3), (82, .iload_n 2, 1), (83, .ifCond .ne 27, 3), (86, .aload_n 0, 1), (87, .dup, 1), (88, .getfield 329, 3), (91, .aload_n 0, 1), (92, .aload_n 0, 1), (93, .getfield 129, 3), (96, .iload_n 3, 1), (97, .invokevirtual 243, 3), (100, .iadd, 1), (101, .putfield 329, 3), (104, .aload_n 0, 1), (105, .iload_n 3, 1), (106, .putfield 129, 3), (109, .return_, 1), (110, .iinc 2 (-1), 3), (113, .iinc 3 1, 3), (116, .goto (-50), 3), (119, .return_, 1)]  -- X8_doLot
def zi_215 : List (Nat × Instr × Nat) := [(0, .aload_n 0, 1), (1, .iconst 0, 1), (2, .putfield 329, 3), (5, .iload_n 1, 1), (6, .i2l, 1), (7, .lconst 1, 1), (8, .ladd, 1), (9, .lstore_n 3, 1), (10, .iconst 0, 1), (11, .istore 5, 2), (13, .iload 5, 2), (15, .iload_n 2, 1), (16, .if_icmp .ge 33, 3), (19, .lload_n 3, 1), (20, .ldc2_w 332, 3), (23, .lmul, 1), (24, .ldc2_w 334, 3), (27, .lrem, 1), (28, .lstore_n 3, 1), (29, .aload_n 0, 1), (30, .lload_n 3, 1), (31, .aload_n 0, 1), (32, .invokevirtual 336, 3), (35, .iconst 3, 1), (36, .iadd, 1), (37, .i2l, 1), (38, .lrem, 1), (39, .l2i, 1), (40, .invokevirtual 339, 3), (43, .iinc 5 1, 3), (46, .goto (-33), 3), (49, .return_, 1)]  -- X8_draw
def zi_216 : List (Nat × Instr × Nat) := [(0, .iload_n 0, 1), (1, .iconst 0, 1), (2, .ldc_w 342, 3), (5, .invokestatic 118, 3), (8, .ireturn, 1)]  -- X8_isSeed
def zi_217 : List (Nat × Instr × Nat) := [(0, .iload_n 1, 1), (1, .invokestatic 343, 3), (4, .ifCond .eq 22, 3), (7, .iload_n 2, 1), (8, .iconst 0, 1), (9, .bipush 40, 2), (11, .invokestatic 118, 3), (14, .ifCond .eq 12, 3), (17, .iload_n 3, 1), (18, .iconst 0, 1), (19, .iconst 2, 1), (20, .invokestatic 118, 3), (23, .ifCond .ne 6, 3), (26, .bipush (-2), 2), (28, .ireturn, 1), (29, .aload_n 0, 1), (30, .invokevirtual 275, 3), (33, .aload_n 0, 1), (34, .iload_n 1, 1), (35, .iload_n 2, 1), (36, .invokevirtual 346, 3), (39, .iload_n 3, 1), (40, .ifCond .ne 10, 3), (43, .aload_n 0, 1), (44, .invokevirtual 293, 3), (47, .goto 19, 3), (50, .iload_n 3, 1), (51, .iconst 1, 1), (52, .if_icmp .ne 10, 3), (55, .aload_n 0, 1), (56, .getfield 329, 3), (59, .goto 7, 3), (62, .aload_n 0, 1), (63, .getfield 129, 3), (66, .istore 4, 2), (68, .aload_n 0, 1), (69, .invokevirtual 281, 3), (72, .iload 4, 2), (74, .ireturn, 1)]  -- X8_drawn
def zi_218 : List (Nat × Instr × Nat) := [(0, .aload_n 0, 1), (1, .iload_n 1, 1), (2, .invokevirtual 237, 3), (5, .ifCond .eq 46, 3), (8, .iload_n 2, 1), (9, .invokestatic 343, 3), (12, .ifCond .eq 39, 3), (15, .iload_n 3, 1), (16, .ifCond .lt 35, 3), (19, .iload_n 3, 1), (20, .bipush 100, 2), (22, .idiv, 1), (23, .iconst 1, 1), (24, .bipush 20, 2), (26, .invokestatic 118, 3), (29, .ifCond .eq 22, 3), (32, .iload_n 3, 1), (33, .bipush 100, 2), (35, .irem, 1), (36, .bipush 40, 2), (38, .if_icmp .gt 13, 3), (41, .iload 4, 2), (43, .iconst 0, 1), (44, .iconst 1, 1), (45, .invokestatic 118, 3), (48, .ifCond .ne 7, 3), (51, .ldc2_w 349, 3), (54, .lreturn, 1), (55, .iconst 0, 1), (56, .istore 5, 2), (58, .iload_n 3, 1), (59, .bipush 100, 2), (61, .idiv, 1), (62, .istore 6, 2), (64, .iconst 0, 1), (65, .istore 7, 2), (67, .iload 7, 2), (69, .iload 6, 2), (71, .if_icmp .ge 40, 3), (74, .aload_n 0, 1), (75, .invokevirtual 275, 3), (78, .aload_n 0, 1), (79, .iload_n 2, 1), (80, .iload 7, 2), (82, .iadd, 1), (83, .iload_n 3, 1), (84, .bipush 100, 2), (86, .irem, 1), (87, .invokevirtual 346, 3), (90, .aload_n 0, 1), (91, .iload_n 1, 1), (92, .invokevirtual 269, 3), (95, .ifCond .eq 6, 3), (98, .iinc 5 1, 3), (101, .aload_n 0, 1), (102, .invokevirtual 281, 3), (105, .iinc 7 1, 3), (108, .goto (-41), 3), (111, .iload 5, 2), (113, .ifCond .ne 14, 3), (116, .iload 4, 2), (118, .ifCond .ne 7, 3), (121, .lconst 0, 1), (122, .goto 4, 3), (125, .lconst 1, 1), (126, .lreturn, 1), (127, .iload 5, 2), (129, .istore 7, 2), (131, .iload 6, 2), (133, .istore 8, 2), (135, .iload 8, 2), (137, .ifCond .eq 21, 3), (140, .iload 7, 2), (142, .iload 8, 2), (144, .irem, 1), (145, .istore 9, 2), (147, .iload 8, 2), (149, .istore 7, 2), (151, .iload 9, 2), (153, .istore 8, 2), (155, .goto (-20), 3), (158, .iload 4, 2), (160, .ifCond .ne 12, 3), (163, .iload 5, 2), (165, .iload 7, 2), (167, .idiv, 1), (168, .i2l, 1), (169, .goto 9, 3), (172, .iload 6, 2), (174, .iload 7, 2), (176, .idiv, 1), (177, .i2l, 1), (178, .lreturn, 1)]  -- X8_chance
def zi_219 : List (Nat × Instr × Nat) := [(0, .aload_n 0, 1), (1, .iconst 1, 1), (2, .putfield 351, 3), (5, .aload_n 0, 1), (6, .aload_n 0, 1), (7, .getfield 122, 3), (10, .putfield 355, 3), (13, .aload_n 0, 1), (14, .aload_n 0, 1), (15, .getfield 129, 3), (18, .putfield 358, 3), (21, .aload_n 0, 1), (22, .aload_n 0, 1), (23, .getfield 139, 3), (26, .putfield 361, 3), (29, .iconst 0, 1), (30, .istore_n 1, 1), (31, .iload_n 1, 1), (32, .bipush 6, 2), (34, .if_icmp .ge 33, 3), (37, .aload_n 0, 1), (38, .getfield 94, 3), (41, .iload_n 1, 1), (42, .aload_n 0, 1), (43, .getfield 16, 3), (46, .iload_n 1, 1), (47, .iaload, 1), (48, .iastore, 1), (49, .aload_n 0, 1), (50, .getfield 97, 3), (53, .iload_n 1, 1), (54, .aload_n 0, 1), (55, .getfield 31, 3), (58, .iload_n 1, 1), (59, .iaload, 1), (60, .iastore, 1), (61, .iinc 1 1, 3), (64, .goto (-33), 3), (67, .iconst 0, 1), (68, .istore_n 1, 1), (69, .iload_n 1, 1), (70, .bipush 16, 2), (72, .if_icmp .ge 21, 3), (75, .aload_n 0, 1), (76, .getfield 100, 3), (79, .iload_n 1, 1), (80, .aload_n 0, 1), (81, .getfield 7, 3), (84, .iload_n 1, 1), (85, .iaload, 1), (86, .iastore, 1), (87, .iinc 1 1, 3), (90, .goto (-21), 3), (93, .aload_n 0, 1), (94, .getfield 122, 3), (97, .ireturn, 1)]  -- X8_image
def zi_220 : List (Nat × Instr × Nat) := [(0, .aload_n 0, 1), (1, .getfield 351, 3), (4, .ifCond .ne 6, 3), (7, .bipush (-3), 2), (9, .ireturn, 1), (10, .aload_n 0, 1), (11, .aload_n 0, 1), (12, .getfield 355, 3), (15, .putfield 122, 3), (18, .aload_n 0, 1), (19, .aload_n 0, 1), (20, .getfield 358, 3), (23, .putfield 129, 3), (26, .aload_n 0, 1), (27, .aload_n 0, 1), (28, .getfield 361, 3), (31, .putfield 139, 3), (34, .iconst 0, 1), (35, .istore_n 1, 1), (36, .iload_n 1, 1), (37, .aload_n 0, 1), (38, .getfield 122, 3), (41, .if_icmp .ge 33, 3), (44, .aload_n 0, 1), (45, .getfield 16, 3), (48, .iload_n 1, 1), (49, .aload_n 0, 1), (50, .getfield 94, 3), (53, .iload_n 1, 1), (54, .iaload, 1), (55, .iastore, 1), (56, .aload_n 0, 1), (57, .getfield 31, 3), (60, .iload_n 1, 1), (61, .aload_n 0, 1), (62, .getfield 97, 3), (65, .iload_n 1, 1), (66, .iaload, 1), (67, .iastore, 1), (68, .iinc 1 1, 3), (71, .goto (-35), 3), (74, .iconst 0, 1), (75, .istore_n 1, 1), (76, .iload_n 1, 1), (77, .bipush 16, 2), (79, .if_icmp .ge 21, 3), (82, .aload_n 0, 1), (83, .getfield 7, 3), (86, .iload_n 1, 1), (87, .aload_n 0, 1), (88, .getfield 100, 3), (91, .iload_n 1, 1), (92, .iaload, 1), (93, .iastore, 1), (94, .iinc 1 1, 3), (97, .goto (-21), 3), (100, .aload_n 0, 1), (101, .getfield 122, 3), (104, .ireturn, 1)]  -- X8_back
def zi_221 : List (Nat × Instr × Nat) := [(0, .iload_n 0, 1), (1, .iconst 0, 1), (2, .iconst 3, 1), (3, .invokestatic 118, 3), (6, .ireturn, 1)]  -- X8_isSheet
def zi_222 : List (Nat × Instr × Nat) := [(0, .iload_n 1, 1), (1, .invokestatic 364, 3), (4, .ifCond .eq 12, 3), (7, .iload_n 2, 1), (8, .iconst (-1), 1), (9, .iconst 2, 1), (10, .invokestatic 118, 3), (13, .ifCond .ne 6, 3), (16, .bipush (-2), 2), (18, .ireturn, 1), (19, .iload_n 2, 1), (20, .iconst (-1), 1), (21, .if_icmp .ne 12, 3), (24, .aload_n 0, 1), (25, .getfield 103, 3), (28, .iload_n 1, 1), (29, .iconst (-1), 1), (30, .iastore, 1), (31, .iconst 1, 1), (32, .ireturn, 1), (33, .iload_n 3, 1), (34, .bipush 40, 2), (36, .if_icmp .le 6, 3), (39, .bipush (-2), 2), (41, .ireturn, 1), (42, .iload_n 3, 1), (43, .ifCond .ge 6, 3), (46, .bipush (-14), 2), (48, .ireturn, 1), (49, .aload_n 0, 1), (50, .getfield 103, 3), (53, .iload_n 1, 1), (54, .iload_n 2, 1), (55, .iastore, 1), (56, .aload_n 0, 1), (57, .getfield 106, 3), (60, .iload_n 1, 1), (61, .iload_n 3, 1), (62, .iastore, 1), (63, .iconst 0, 1), (64, .istore 4, 2), (66, .iload 4, 2), (68, .iload_n 3, 1), (69, .if_icmp .ge 22, 3), (72, .aload_n 0, 1), (73, .getfield 109, 3), (76, .bipush 40, 2), (78, .iload_n 1, 1), (79, .imul, 1), (80, .iload 4, 2), (82, .iadd, 1), (83, .iconst 0, 1), (84, .iastore, 1), (85, .iinc 4 1, 3), (88, .goto (-22), 3), (91, .iconst 1, 1), (92, .ireturn, 1)]  -- X8_sheet
def zi_223 : List (Nat × Instr × Nat) := [(0, .iload_n 1, 1), (1, .invokestatic 364, 3), (4, .ifCond .ne 6, 3), (7, .bipush (-2), 2), (9, .ireturn, 1), (10, .aload_n 0, 1), (11, .getfield 103, 3), (14, .iload_n 1, 1), (15, .iaload, 1), (16, .ifCond .ge 6, 3), (19, .bipush (-11), 2), (21, .ireturn, 1), (22, .iload_n 2, 1), (23, .iconst 0, 1), (24, .aload_n 0, 1), (25, .getfield 106, 3), (28, .iload_n 1, 1), (29, .iaload, 1), (30, .iconst 1, 1), (31, .isub, 1), (32, .invokestatic 118, 3), (35, .ifCond .ne 6, 3), (38, .bipush (-12), 2), (40, .ireturn, 1), (41, .aload_n 0, 1), (42, .getfield 109, 3), (45, .bipush 40, 2), (47, .iload_n 1, 1), (48, .imul, 1), (49, .iload_n 2, 1), (50, .iadd, 1), (51, .aload_n 0, 1), (52, .getfield 103, 3), (55, .iload_n 1, 1), (56, .iaload, 1), (57, .ifCond .ne 8, 3), (60, .iload_n 3, 1), (61, .i2b, 1), (62, .goto 19, 3), (65, .aload_n 0, 1), (66, .getfield 103, 3), (69, .iload_n 1, 1), (70, .iaload, 1), (71, .iconst 1, 1), (72, .if_icmp .ne 8, 3), (75, .iload_n 3, 1), (76, .i2s, 1), (77, .goto 4, 3), (80, .iload_n 3, 1), (81, .iastore, 1), (82, .iconst 1, 1), (83, .ireturn, 1)]  -- X8_cell
def zi_224 : List (Nat × Instr × Nat) := [(0, .iload_n 1, 1), (1, .invokestatic 364, 3), (4, .ifCond .eq 10, 3), (7, .iload_n 3, 1), (8, .invokestatic 364, 3), (11, .ifCond .ne 6, 3), (14, .bipush (-2), 2), (16, .ireturn, 1), (17, .aload_n 0, 1), (18, .getfield 103, 3), (21, .iload_n 1, 1), (22, .iaload, 1), (23, .ifCond .lt 12, 3), (26, .aload_n 0, 1), (27, .getfield 103, 3), (30, .iload_n 3, 1), (31, .iaload, 1), (32, .ifCond .ge 6, 3), (35, .bipush (-11), 2), (37, .ireturn, 1), (38, .aload_n 0, 1), (39, .getfield 103, 3), (42, .iload_n 1, 1), (43, .iaload, 1), (44, .aload_n 0, 1), (45, .getfield 103, 3), (48, .iload_n 3, 1), (49, .iaload, 1), (50, .if_icmp .eq 6, 3), (53, .bipush (-13), 2), (55, .ireturn, 1), (56, .iload 5, 2), (58, .ifCond .lt 47, 3), (61, .iload_n 2, 1), (62, .ifCond .lt 43, 3), (65, .iload 4, 2), (67, .ifCond .lt 38, 3), (70, .iload_n 2, 1), (71, .i2l, 1), (72, .iload 5, 2), (74, .i2l, 1), (75, .ladd, 1), (76, .aload_n 0, 1), (77, .getfield 106, 3), (80, .iload_n 1, 1), (81, .iaload, 1), (82, .i2l, 1), (83, .lcmp, 1), (84, .ifCond .gt 21, 3), (87, .iload 4, 2), (89, .i2l, 1), (90, .iload 5, 2), (92, .i2l, 1), (93, .ladd, 1), (94, .aload_n 0, 1), (95, .getfield 106, 3), (98, .iload_n 3, 1), (99, .iaload, 1), (100, .i2l, 1), (101, .lcmp, 1), (102, .ifCond .le 6, 3), (105, .bipush (-12), 2), (107, .ireturn, 1), (108, .iconst 0, 1), (109, .istore 6, 2), (111, .iload 6, 2), (113, .iload 5, 2), (115, .if_icmp .ge 30, 3), (118, .aload_n 0, 1), (119, .getfield 112, 3), (122, .iload 6, 2), (124, .aload_n 0, 1), (125, .getfield 109, 3), (128, .bipush 40, 2), (130, .iload_n 1, 1), (131, .imul, 1), (132, .iload_n 2, 1), (133, .iadd, 1), (134, .iload 6, 2), (136, .iadd, 1), (137, .iaload, 1), (138, .iastore, 1), (139, .iinc 6 1, 3), (142, .goto (-31), 3), (145, .iconst 0, 1), (146, .istore 6, 2), (148, .iload 6, 2), (150, .iload 5, 2), (152, .if_icmp .ge 31, 3), (155, .aload_n 0, 1), (156, .getfield 109, 3), (159, .bipush 40, 2), (161, .iload_n 3, 1), (162, .imul, 1), (163, .iload 4, 2), (165, .iadd, 1), (166, .iload 6, 2), (168, .iadd, 1), (169, .aload_n 0, 1), (170, .getfield 112, 3), (173, .iload 6, 2), (175, .iaload, 1), (176, .iastore, 1), (177, .iinc 6 1, 3), (180, .goto (-32), 3), (183, .iload 5, 2), (185, .ireturn, 1)]  -- X8_copy
def zi_225 : List (Nat × Instr × Nat) := [(0, .iload_n 1, 1), (1, .invokestatic 364, 3), (4, .ifCond .eq 23, 3), (7, .iload_n 2, 1), (8, .iconst 0, 1), (9, .iconst 2, 1), (10, .invokestatic 118, 3), (13, .ifCond .eq 14, 3), (16, .iload 4, 2), (18, .iconst 0, 1), (19, .bipush 6, 2), (21, .invokestatic 118, 3), (24, .ifCond .ne 6, 3), (27, .bipush (-2), 2), (29, .ireturn, 1), (30, .aload_n 0, 1), (31, .getfield 103, 3), (34, .iload_n 1, 1), (35, .iaload, 1), (36, .ifCond .ge 6, 3), (39, .bipush (-11), 2), (41, .ireturn, 1), (42, .aload_n 0, 1), (43, .getfield 103, 3), (46, .iload_n 1, 1), (47, .iaload, 1), (48, .iload_n 2, 1), (49, .if_icmp .eq 6, 3), (52, .bipush (-13), 2), (54, .ireturn, 1), (55, .iconst 0, 1), (56, .istore 5, 2), (58, .iconst 0, 1), (59, .istore 6, 2), (61, .iload 6, 2), (63, .iload 4, 2), (65, .if_icmp .ge 100, 3), (68, .iload_n 3, 1), (69, .i2l, 1), (70, .iconst 4, 1), (71, .iload 6, 2), (73, .imul, 1), (74, .i2l, 1), (75, .ladd, 1), (76, .lstore 7, 2), (78, .lload 7, 2), (80, .lconst 0, 1), (81, .lcmp, 1), (82, .ifCond .lt 20, 3), (85, .lload 7, 2), (87, .ldc2_w 367, 3), (90, .ladd, 1), (91, .aload_n 0, 1), (92, .getfield 106, 3), (95, .iload_n 1, 1), (96, .iaload, 1), (97, .i2l, 1), (98, .lcmp, 1), (99, .ifCond .lt 6, 3), (102, .bipush (-12), 2), (104, .ireturn, 1), (105, .bipush 40, 2), (107, .iload_n 1, 1), (108, .imul, 1), (109, .lload 7, 2), (111, .l2i, 1), (112, .iadd, 1), (113, .istore 9, 2), (115, .aload_n 0, 1), (116, .aload_n 0, 1), (117, .getfield 109, 3), (120, .iload 9, 2), (122, .iaload, 1), (123, .aload_n 0, 1), (124, .getfield 109, 3), (127, .iload 9, 2), (129, .iconst 1, 1), (130, .iadd, 1), (131, .iaload, 1), (132, .aload_n 0, 1), (133, .getfield 109, 3), (136, .iload 9, 2), (138, .iconst 2, 1), (139, .iadd, 1), (140, .iaload, 1), (141, .aload_n 0, 1), (142, .getfield 109, 3), (145, .iload 9, 2), (147, .iconst 3, 1), (148, .iadd, 1), (149, .iaload, 1), (150, .invokevirtual 369, 3), (153, .ifCond .lt 6, 3), (156, .iinc 5 1, 3), (159, .iinc 6 1, 3), (162, .goto (-101), 3), (165, .iload 5, 2), (167, .ireturn, 1)]  -- X8_peopleBy
def zi_226 : List (Nat × Instr × Nat) := [(0, .iload_n 1, 1), (1, .ifCond .eq 28, 3), (4, .iload_n 0, 1), (5, .iload_n 1, 1), (6, .if_icmp .eq 23, 3), (9, .iload_n 1, 1), (10, .iconst 2, 1), (11, .if_icmp .ne 8, 3), (14, .iload_n 0, 1), (15, .iconst 5, 1), (16, .if_icmp .eq 13, 3), (19, .iload_n 1, 1), (20, .iconst 3, 1), (21, .if_icmp .ne 12, 3), (24, .iload_n 0, 1), (25, .iconst 4, 1), (26, .if_icmp .ne 7, 3), (29, .iconst 1, 1), (30, .goto 4, 3), (33, .iconst 0, 1), (34, .ireturn, 1)]  -- X8_isUnder
def zi_227 : List (Nat × Instr × Nat) := [(0, .iload_n 2, 1), (1, .iconst 0, 1), (2, .bipush 6, 2), (4, .invokestatic 118, 3), (7, .ifCond .ne 6, 3), (10, .bipush (-2), 2), (12, .ireturn, 1), (13, .iload_n 1, 1), (14, .iconst 0, 1), (15, .bipush 9, 2), (17, .invokestatic 118, 3), (20, .ifCond .ne 6, 3), (23, .bipush (-12), 2), (25, .ireturn, 1), (26, .iload_n 1, 1), (27, .iconst 4, 1), (28, .if_icmp .ge 20, 3), (31, .iload_n 2, 1), (32, .bipush 6, 2), (34, .if_icmp .ne 11, 3), (37, .aload_n 0, 1), (38, .iload_n 1, 1), (39, .invokevirtual 132, 3), (42, .goto 5, 3), (45, .bipush (-13), 2), (47, .ireturn, 1), (48, .aload_n 0, 1), (49, .iload_n 1, 1), (50, .iconst 4, 1), (51, .isub, 1), (52, .invokevirtual 237, 3), (55, .ifCond .ne 6, 3), (58, .bipush (-11), 2), (60, .ireturn, 1), (61, .iload_n 2, 1), (62, .bipush 6, 2), (64, .if_icmp .ge 24, 3), (67, .aload_n 0, 1), (68, .getfield 13, 3), (71, .iload_n 1, 1), (72, .iconst 4, 1), (73, .isub, 1), (74, .iaload, 1), (75, .iload_n 2, 1), (76, .invokestatic 373, 3), (79, .ifCond .eq 9, 3), (82, .iload_n 1, 1), (83, .iconst 4, 1), (84, .isub, 1), (85, .goto 5, 3), (88, .bipush (-13), 2), (90, .ireturn, 1)]  -- X8_taken
def zi_228 : List (Nat × Instr × Nat) := [(0, .iload_n 0, 1), (1, .iload_n 0, 1), (2, .iconst 1, 1), (3, .iushr, 1), (4, .ldc_w 265, 3), (7, .iand, 1), (8, .isub, 1), (9, .istore_n 0, 1), (10, .iload_n 0, 1), (11, .ldc_w 266, 3), (14, .iand, 1), (15, .iload_n 0, 1), (16, .iconst 2, 1), (17, .iushr, 1), (18, .ldc_w 266, 3), (21, .iand, 1), (22, .iadd, 1), (23, .istore_n 0, 1), (24, .iload_n 0, 1), (25, .iload_n 0, 1), (26, .iconst 4, 1), (27, .iushr, 1), (28, .iadd, 1), (29, .ldc_w 267, 3), (32, .iand, 1), (33, .istore_n 0, 1), (34, .iload_n 0, 1), (35, .iload_n 0, 1), (36, .bipush 8, 2), (38, .iushr, 1), (39, .iadd, 1), (40, .istore_n 0, 1), (41, .iload_n 0, 1), (42, .iload_n 0, 1), (43, .bipush 16, 2), (45, .iushr, 1), (46, .iadd, 1), (47, .istore_n 0, 1), (48, .iload_n 0, 1), (49, .bipush 63, 2), (51, .iand, 1), (52, .ireturn, 1)]  -- J6_bitCount_0f7a4
def zi_229 : List (Nat × Instr × Nat) := [(0, .iload_n 0, 1), (1, .ifCond .ge 8, 3), (4, .iload_n 0, 1), (5, .ineg, 1), (6, .goto 4, 3), (9, .iload_n 0, 1), (10, .ireturn, 1)]  -- J9_abs_0f7a4
def zi_230 : List (Nat × Instr × Nat) := [(0, .iload_n 0, 1), (1, .iload_n 1, 1), (2, .if_icmp .lt 7, 3), (5, .iload_n 0, 1), (6, .goto 4, 3), (9, .iload_n 1, 1), (10, .ireturn, 1)]  -- J9_max_7cf53
def zi_231 : List (Nat × Instr × Nat) := [(0, .iload_n 0, 1), (1, .iload_n 1, 1), (2, .if_icmp .gt 7, 3), (5, .iload_n 0, 1), (6, .goto 4, 3), (9, .iload_n 1, 1), (10, .ireturn, 1)]  -- J9_min_7cf53
def zi_232 : List (Nat × Instr × Nat) := [(0, .aload_n 0, 1), (1, .getfield 9, 3), (4, .arraylength, 1), (5, .aload_n 0, 1), (6, .invokevirtual 335, 3), (9, .ishr, 1), (10, .ireturn, 1)]  -- J0_length_8abf5
def zi_233 : List (Nat × Instr × Nat) := [(0, .aload_n 0, 1), (1, .invokevirtual 492, 3), (4, .ifCond .eq 12, 3), (7, .aload_n 0, 1), (8, .getfield 9, 3), (11, .iload_n 1, 1), (12, .invokestatic 495, 3), (15, .ireturn, 1), (16, .aload_n 0, 1), (17, .getfield 9, 3), (20, .iload_n 1, 1), (21, .invokestatic 498, 3), (24, .ireturn, 1)]  -- J0_charAt_5068e
def zi_234 : List (Nat × Instr × Nat) := [(0, .getstatic 38, 3), (3, .ifCond .eq 10, 3), (6, .aload_n 0, 1), (7, .getfield 15, 3), (10, .goto 4, 3), (13, .iconst 1, 1), (14, .ireturn, 1)]  -- J0_coder_7d493
def zi_235 : List (Nat × Instr × Nat) := [(0, .getstatic 38, 3), (3, .ifCond .eq 14, 3), (6, .aload_n 0, 1), (7, .getfield 15, 3), (10, .ifCond .ne 7, 3), (13, .iconst 1, 1), (14, .goto 4, 3), (17, .iconst 0, 1), (18, .ireturn, 1)]  -- J0_isLatin1_aae02
def zi_236 : List (Nat × Instr × Nat) := [(0, .iload_n 0, 1), (1, .iload_n 1, 1), (2, .getstatic 1053, 3), (5, .invokestatic 1059, 3), (8, .pop, 1), (9, .return_, 1)]  -- J0_checkIndex_df160
def zi_237 : List (Nat × Instr × Nat) := [(0, .iload_n 1, 1), (1, .aload_n 0, 1), (2, .arraylength, 1), (3, .invokestatic 9, 3), (6, .aload_n 0, 1), (7, .iload_n 1, 1), (8, .baload, 1), (9, .sipush 255, 3), (12, .iand, 1), (13, .i2c, 1), (14, .ireturn, 1)]  -- J1_charAt_3b067
def zi_238 : List (Nat × Instr × Nat) := [(0, .iconst 0, 1), (1, .istore_n 2, 1), (2, .aload_n 0, 1), (3, .arraylength, 1), (4, .istore_n 3, 1), (5, .iload_n 2, 1), (6, .iload_n 3, 1), (7, .if_icmp .ge 13, 3), (10, .aload_n 0, 1), (11, .iload_n 2, 1), (12, .iload_n 1, 1), (13, .iastore, 1), (14, .iinc 2 1, 3), (17, .goto (-12), 3), (20, .return_, 1)]  -- J7_fill_53178
def zi_239 : List (Nat × Instr × Nat) := [(0, .iload_n 0, 1), (1, .ifCond .lt 8, 3), (4, .iload_n 0, 1), (5, .iload_n 1, 1), (6, .if_icmp .lt 10, 3), (9, .aload_n 2, 1), (10, .iload_n 0, 1), (11, .iload_n 1, 1), (12, .invokestatic 95, 3), (15, .athrow, 1), (16, .iload_n 0, 1), (17, .ireturn, 1)]  -- J3_checkIndex_8e157
def zi_240 : List (Nat × Instr × Nat) := [(0, .new 7, 3), (3, .dup, 1), (4, .invokespecial 9, 3), (7, .astore_n 1, 1), (8, .new 10, 3), (11, .dup, 1), (12, .invokespecial 12, 3), (15, .astore_n 2, 1), (16, .iconst 0, 1), (17, .istore_n 3, 1), (18, .iload_n 3, 1), (19, .aload_n 0, 1), (20, .arraylength, 1), (21, .bipush 7, 2), (23, .isub, 1), (24, .if_icmp .gt 1406, 3), (27, .aload_n 0, 1), (28, .iload_n 3, 1), (29, .iaload, 1), (30, .bipush 63, 2), (32, .iand, 1), (33, .tableswitch 1391 0 38 #[171, 214, 237, 260, 335, 348, 371, 424, 477, 520, 553, 586, 619, 632, 675, 688, 701, 734, 767, 790, 813, 836, 869, 882, 895, 928, 951, 964, 997, 1020, 1033, 1076, 1130, 1143, 1156, 1199, 1242, 1305, 1358], 171), (204, .aload_n 1, 1), (205, .aload_n 0, 1), (206, .iload_n 3, 1), (207, .iconst 1, 1), (208, .iadd, 1), (209, .iaload, 1), (210, .aload_n 0, 1), (211, .iload_n 3, 1), (212, .iconst 2, 1), (213, .iadd, 1), (214, .iaload, 1), (215, .aload_n 0, 1), (216, .iload_n 3, 1), (217, .iconst 3, 1), (218, .iadd, 1), (219, .iaload, 1), (220, .invokevirtual 13, 3), (223, .aload_n 2, 1), (224, .aload_n 0, 1), (225, .iload_n 3, 1), (226, .iconst 1, 1), (227, .iadd, 1), (228, .iaload, 1), (229, .aload_n 0, 1), (230, .iload_n 3, 1), (231, .iconst 2, 1), (232, .iadd, 1), (233, .iaload, 1), (234, .aload_n 0, 1), (235, .iload_n 3, 1), (236, .iconst 3, 1), (237, .iadd, 1), (238, .iaload, 1), (239, .invokevirtual 17, 3), (242, .if_icmp .eq 1182, 3), (245, .iconst 0, 1), (246, .ireturn, 1), (247, .aload_n 1, 1), (248, .aload_n 0, 1), (249, .iload_n 3, 1), (250, .iconst 1, 1), (251, .iadd, 1), (252, .iaload, 1), (253, .invokevirtual 18, 3), (256, .aload_n 2, 1), (257, .aload_n 0, 1), (258, .iload_n 3, 1), (259, .iconst 1, 1), (260, .iadd, 1), (261, .iaload, 1), (262, .invokevirtual 22, 3), (265, .if_icmp .eq 1159, 3), (268, .iconst 0, 1), (269, .ireturn, 1), (270, .aload_n 1, 1), (271, .aload_n 0, 1), (272, .iload_n 3, 1), (273, .iconst 1, 1), (274, .iadd, 1), (275, .iaload, 1), (276, .invokevirtual 23, 3), (279, .aload_n 2, 1), (280, .aload_n 0, 1), (281, .iload_n 3, 1), (282, .iconst 1, 1), (283, .iadd, 1), (284, .iaload, 1), (285, .invokevirtual 26, 3), (288, .if_icmp .eq 1136, 3), (291, .iconst 0, 1), (292, .ireturn, 1), (293, .aload_n 1, 1), (294, .aload_n 0, 1), (295, .iload_n 3, 1), (296, .iconst 1, 1), (297, .iadd, 1), (298, .iaload, 1), (299, .aload_n 0, 1), (300, .iload_n 3, 1), (301, .iconst 2, 1), (302, .iadd, 1), (303, .iaload, 1), (304, .aload_n 0, 1), (305, .iload_n 3, 1), (306, .iconst 3, 1), (307, .iadd, 1), (308, .iaload, 1), (309, .aload_n 0, 1), (310, .iload_n 3, 1), (311, .iconst 4, 1), (312, .iadd, 1), (313, .iaload, 1), (314, .aload_n 0, 1), (315, .iload_n 3, 1), (316, .iconst 5, 1), (317, .iadd, 1), (318, .iaload, 1), (319, .aload_n 0, 1), (320, .iload_n 3, 1), (321, .bipush 6, 2), (323, .iadd, 1), (324, .iaload, 1), (325, .invokevirtual 27, 3), (328, .aload_n 2, 1), (329, .aload_n 0, 1), (330, .iload_n 3, 1), (331, .iconst 1, 1), (332, .iadd, 1), (333, .iaload, 1), (334, .aload_n 0, 1), (335, .iload_n 3, 1), (336, .iconst 2, 1), (337, .iadd, 1), (338, .iaload, 1), (339, .aload_n 0, 1), (340, .iload_n 3, 1), (341, .iconst 3, 1), (342, .iadd, 1), (343, .iaload, 1), (344, .aload_n 0, 1), (345, .iload_n 3, 1), (346, .iconst 4, 1), (347, .iadd, 1), (348, .iaload, 1), (349, .aload_n 0, 1), (350, .iload_n 3, 1), (351, .iconst 5, 1), (352, .iadd, 1), (353, .iaload, 1), (354, .aload_n 0, 1), (355, .iload_n 3, 1), (356, .bipush 6, 2), (358, .iadd, 1), (359, .iaload, 1), (360, .invokevirtual 31, 3), (363, .if_icmp .eq 1061, 3), (366, .iconst 0, 1), (367, .ireturn, 1), (368, .aload_n 1, 1), (369, .invokevirtual 32, 3), (372, .aload_n 2, 1), (373, .invokevirtual 36, 3), (376, .if_icmp .eq 1048, 3), (379, .iconst 0, 1), (380, .ireturn, 1), (381, .aload_n 1, 1), (382, .aload_n 0, 1), (383, .iload_n 3, 1), (384, .iconst 1, 1), (385, .iadd, 1), (386, .iaload, 1), (387, .invokevirtual 37, 3), (390, .aload_n 2, 1), (391, .aload_n 0, 1), (392, .iload_n 3, 1), (393, .iconst 1, 1), (394, .iadd, 1), (395, .iaload, 1), (396, .invokevirtual 40, 3), (399, .if_icmp .eq 1025, 3), (402, .iconst 0, 1), (403, .ireturn, 1), (404, .aload_n 1, 1), (405, .aload_n 0, 1), (406, .iload_n 3, 1), (407, .iconst 1, 1), (408, .iadd, 1), (409, .iaload, 1), (410, .aload_n 0, 1), (411, .iload_n 3, 1), (412, .iconst 2, 1), (413, .iadd, 1), (414, .iaload, 1), (415, .aload_n 0, 1), (416, .iload_n 3, 1), (417, .iconst 3, 1), (418, .iadd, 1), (419, .iaload, 1), (420, .aload_n 0, 1), (421, .iload_n 3, 1), (422, .iconst 4, 1), (423, .iadd, 1), (424, .iaload, 1), (425, .invokevirtual 41, 3), (428, .aload_n 2, 1), (429, .aload_n 0, 1), (430, .iload_n 3, 1), (431, .iconst 1, 1), (432, .iadd, 1), (433, .iaload, 1), (434, .aload_n 0, 1), (435, .iload_n 3, 1), (436, .iconst 2, 1), (437, .iadd, 1), (438, .iaload, 1), (439, .aload_n 0, 1), (440, .iload_n 3, 1), (441, .iconst 3, 1), (442, .iadd, 1), (443, .iaload, 1), (444, .aload_n 0, 1), (445, .iload_n 3, 1), (446, .iconst 4, 1), (447, .iadd, 1), (448, .iaload, 1), (449, .invokevirtual 45, 3), (452, .if_icmp .eq 972, 3), (455, .iconst 0, 1), (456, .ireturn, 1), (457, .aload_n 1, 1), (458, .aload_n 0, 1), (459, .iload_n 3, 1), (460, .iconst 1, 1), (461, .iadd, 1), (462, .iaload, 1), (463, .aload_n 0, 1), (464, .iload_n 3, 1), (465, .iconst 2, 1), (466, .iadd, 1), (467, .iaload, 1), (468, .aload_n 0, 1), (469, .iload_n 3, 1), (470, .iconst 3, 1), (471, .iadd, 1), (472, .iaload, 1), (473, .aload_n 0, 1), (474, .iload_n 3, 1), (475, .iconst 4, 1), (476, .iadd, 1), (477, .iaload, 1), (478, .invokevirtual 46, 3), (481, .aload_n 2, 1), (482, .aload_n 0, 1), (483, .iload_n 3, 1), (484, .iconst 1, 1), (485, .iadd, 1), (486, .iaload, 1), (487, .aload_n 0, 1), (488, .iload_n 3, 1), (489, .iconst 2, 1), (490, .iadd, 1), (491, .iaload, 1), (492, .aload_n 0, 1), (493, .iload_n 3, 1), (494, .iconst 3, 1), (495, .iadd, 1), (496, .iaload, 1), (497, .aload_n 0, 1), (498, .iload_n 3, 1), (499, .iconst 4, 1), (500, .iadd, 1), (501, .iaload, 1), (502, .invokevirtual 49, 3), (505, .if_icmp .eq 919, 3), (508, .iconst 0, 1), (509, .ireturn, 1), (510, .aload_n 1, 1), (511, .aload_n 0, 1), (512, .iload_n 3, 1), (513, .iconst 1, 1), (514, .iadd, 1), (515, .iaload, 1), (516, .aload_n 0, 1), (517, .iload_n 3, 1), (518, .iconst 2, 1), (519, .iadd, 1), (520, .iaload, 1), (521, .aload_n 0, 1), (522, .iload_n 3, 1), (523, .iconst 3, 1), (524, .iadd, 1), (525, .iaload, 1), (526, .invokevirtual 50, 3), (529, .aload_n 2, 1), (530, .aload_n 0, 1), (531, .iload_n 3, 1), (532, .iconst 1, 1), (533, .iadd, 1), (534, .iaload, 1), (535, .aload_n 0, 1), (536, .iload_n 3, 1), (537, .iconst 2, 1), (538, .iadd, 1), (539, .iaload, 1), (540, .aload_n 0, 1), (541, .iload_n 3, 1), (542, .iconst 3, 1), (543, .iadd, 1), (544, .iaload, 1), (545, .invokevirtual 53, 3), (548, .if_icmp .eq 876, 3), (551, .iconst 0, 1), (552, .ireturn, 1), (553, .aload_n 1, 1), (554, .aload_n 0, 1), (555, .iload_n 3, 1), (556, .iconst 1, 1), (557, .iadd, 1), (558, .iaload, 1), (559, .aload_n 0, 1), (560, .iload_n 3, 1), (561, .iconst 2, 1), (562, .iadd, 1), (563, .iaload, 1), (564, .invokevirtual 54, 3), (567, .aload_n 2, 1), (568, .aload_n 0, 1), (569, .iload_n 3, 1), (570, .iconst 1, 1), (571, .iadd, 1), (572, .iaload, 1), (573, .aload_n 0, 1), (574, .iload_n 3, 1), (575, .iconst 2, 1), (576, .iadd, 1), (577, .iaload, 1), (578, .invokevirtual 58, 3), (581, .if_icmp .eq 843, 3), (584, .iconst 0, 1), (585, .ireturn, 1), (586, .aload_n 1, 1), (587, .aload_n 0, 1), (588, .iload_n 3, 1), (589, .iconst 1, 1), (590, .iadd, 1), (591, .iaload, 1), (592, .aload_n 0, 1), (593, .iload_n 3, 1), (594, .iconst 2, 1), (595, .iadd, 1), (596, .iaload, 1), (597, .invokevirtual 59, 3), (600, .aload_n 2, 1), (601, .aload_n 0, 1), (602, .iload_n 3, 1), (603, .iconst 1, 1), (604, .iadd, 1), (605, .iaload, 1), (606, .aload_n 0, 1), (607, .iload_n 3, 1), (608, .iconst 2, 1), (609, .iadd, 1), (610, .iaload, 1), (611, .invokevirtual 62, 3), (614, .if_icmp .eq 810, 3), (617, .iconst 0, 1), (618, .ireturn, 1), (619, .aload_n 1, 1), (620, .aload_n 0, 1), (621, .iload_n 3, 1), (622, .iconst 1, 1), (623, .iadd, 1), (624, .iaload, 1), (625, .aload_n 0, 1), (626, .iload_n 3, 1), (627, .iconst 2, 1), (628, .iadd, 1), (629, .iaload, 1), (630, .invokevirtual 63, 3), (633, .aload_n 2, 1), (634, .aload_n 0, 1), (635, .iload_n 3, 1), (636, .iconst 1, 1), (637, .iadd, 1), (638, .iaload, 1), (639, .aload_n 0, 1), (640, .iload_n 3, 1), (641, .iconst 2, 1), (642, .iadd, 1), (643, .iaload, 1), (644, .invokevirtual 66, 3), (647, .if_icmp .eq 777, 3), (650, .iconst 0, 1), (651, .ireturn, 1), (652, .aload_n 1, 1), (653, .invokevirtual 67, 3), (656, .aload_n 2, 1), (657, .invokevirtual 70, 3), (660, .if_icmp .eq 764, 3), (663, .iconst 0, 1), (664, .ireturn, 1), (665, .aload_n 1, 1), (666, .aload_n 0, 1), (667, .iload_n 3, 1), (668, .iconst 1, 1), (669, .iadd, 1), (670, .iaload, 1), (671, .aload_n 0, 1), (672, .iload_n 3, 1), (673, .iconst 2, 1), (674, .iadd, 1), (675, .iaload, 1), (676, .aload_n 0, 1), (677, .iload_n 3, 1), (678, .iconst 3, 1), (679, .iadd, 1), (680, .iaload, 1), (681, .invokevirtual 71, 3), (684, .aload_n 2, 1), (685, .aload_n 0, 1), (686, .iload_n 3, 1), (687, .iconst 1, 1), (688, .iadd, 1), (689, .iaload, 1), (690, .aload_n 0, 1), (691, .iload_n 3, 1), (692, .iconst 2, 1), (693, .iadd, 1), (694, .iaload, 1), (695, .aload_n 0, 1), (696, .iload_n 3, 1), (697, .iconst 3, 1), (698, .iadd, 1), (699, .iaload, 1), (700, .invokevirtual 74, 3), (703, .if_icmp .eq 721, 3), (706, .iconst 0, 1), (707, .ireturn, 1), (708, .aload_n 1, 1), (709, .invokevirtual 75, 3), (712, .aload_n 2, 1), (713, .invokevirtual 78, 3), (716, .if_icmp .eq 708, 3), (719, .iconst 0, 1), (720, .ireturn, 1), (721, .aload_n 1, 1), (722, .invokevirtual 79, 3), (725, .aload_n 2, 1), (726, .invokevirtual 82, 3), (729, .if_icmp .eq 695, 3), (732, .iconst 0, 1), (733, .ireturn, 1), (734, .aload_n 1, 1), (735, .aload_n 0, 1), (736, .iload_n 3, 1), (737, .iconst 1, 1), (738, .iadd, 1), (739, .iaload, 1), (740, .aload_n 0, 1), (741, .iload_n 3, 1), (742, .iconst 2, 1), (743, .iadd, 1), (744, .iaload, 1), (745, .invokevirtual 83, 3), (748, .aload_n 2, 1), (749, .aload_n 0, 1), (750, .iload_n 3, 1), (751, .iconst 1, 1), (752, .iadd, 1), (753, .iaload, 1), (754, .aload_n 0, 1), (755, .iload_n 3, 1), (756, .iconst 2, 1), (757, .iadd, 1), (758, .iaload, 1), (759, .invokevirtual 86, 3), (762, .if_icmp .eq 662, 3), (765, .iconst 0, 1), (766, .ireturn, 1), (767, .aload_n 1, 1), (768, .aload_n 0, 1), (769, .iload_n 3, 1), (770, .iconst 1, 1), (771, .iadd, 1), (772, .iaload, 1), (773, .aload_n 0, 1), (774, .iload_n 3, 1), (775, .iconst 2, 1), (776, .iadd, 1), (777, .iaload, 1), (778, .invokevirtual 87, 3), (781, .aload_n 2, 1), (782, .aload_n 0, 1), (783, .iload_n 3, 1), (784, .iconst 1, 1), (785, .iadd, 1), (786, .iaload, 1), (787, .aload_n 0, 1), (788, .iload_n 3, 1), (789, .iconst 2, 1), (790, .iadd, 1), (791, .iaload, 1), (792, .invokevirtual 90, 3), (795, .if_icmp .eq 629, 3), (798, .iconst 0, 1), (799, .ireturn, 1), (800, .aload_n 1, 1), (801, .aload_n 0, 1), (802, .iload_n 3, 1), (803, .iconst 1, 1), (804, .iadd, 1), (805, .iaload, 1), (806, .invokevirtual 91, 3), (809, .aload_n 2, 1), (810, .aload_n 0, 1), (811, .iload_n 3, 1), (812, .iconst 1, 1), (813, .iadd, 1), (814, .iaload, 1), (815, .invokevirtual 94, 3), (818, .if_icmp .eq 606, 3), (821, .iconst 0, 1), (822, .ireturn, 1), (823, .aload_n 1, 1), (824, .aload_n 0, 1), (825, .iload_n 3, 1), (826, .iconst 1, 1), (827, .iadd, 1), (828, .iaload, 1), (829, .invokevirtual 95, 3), (832, .aload_n 2, 1), (833, .aload_n 0, 1), (834, .iload_n 3, 1), (835, .iconst 1, 1), (836, .iadd, 1), (837, .iaload, 1), (838, .invokevirtual 98, 3), (841, .if_icmp .eq 583, 3), (844, .iconst 0, 1), (845, .ireturn, 1), (846, .aload_n 1, 1), (847, .aload_n 0, 1), (848, .iload_n 3, 1), (849, .iconst 1, 1), (850, .iadd, 1), (851, .iaload, 1), (852, .invokevirtual 99, 3), (855, .aload_n 2, 1), (856, .aload_n 0, 1), (857, .iload_n 3, 1), (858, .iconst 1, 1), (859, .iadd, 1), (860, .iaload, 1), (861, .invokevirtual 102, 3), (864, .if_icmp .eq 560, 3), (867, .iconst 0, 1), (868, .ireturn, 1), (869, .aload_n 1, 1), (870, .aload_n 0, 1), (871, .iload_n 3, 1), (872, .iconst 1, 1), (873, .iadd, 1), (874, .iaload, 1), (875, .aload_n 0, 1), (876, .iload_n 3, 1), (877, .iconst 2, 1), (878, .iadd, 1), (879, .iaload, 1), (880, .invokevirtual 103, 3), (883, .aload_n 2, 1), (884, .aload_n 0, 1), (885, .iload_n 3, 1), (886, .iconst 1, 1), (887, .iadd, 1), (888, .iaload, 1), (889, .aload_n 0, 1), (890, .iload_n 3, 1), (891, .iconst 2, 1), (892, .iadd, 1), (893, .iaload, 1), (894, .invokevirtual 106, 3), (897, .if_icmp .eq 527, 3), (900, .iconst 0, 1), (901, .ireturn, 1), (902, .aload_n 1, 1), (903, .invokevirtual 107, 3), (906, .aload_n 2, 1), (907, .invokevirtual 110, 3), (910, .if_icmp .eq 514, 3), (913, .iconst 0, 1), (914, .ireturn, 1), (915, .aload_n 1, 1), (916, .invokevirtual 111, 3), (919, .aload_n 2, 1), (920, .invokevirtual 114, 3), (923, .if_icmp .eq 501, 3), (926, .iconst 0, 1), (927, .ireturn, 1), (928, .aload_n 1, 1), (929, .aload_n 0, 1), (930, .iload_n 3, 1), (931, .iconst 1, 1), (932, .iadd, 1), (933, .iaload, 1), (934, .aload_n 0, 1), (935, .iload_n 3, 1), (936, .iconst 2, 1), (937, .iadd, 1), (938, .iaload, 1), (939, .invokevirtual 115, 3), (942, .aload_n 2, 1), (943, .aload_n 0, 1), (944, .iload_n 3, 1), (945, .iconst 1, 1), (946, .iadd, 1), (947, .iaload, 1), (948, .aload_n 0, 1), (949, .iload_n 3, 1), (950, .iconst 2, 1), (951, .iadd, 1), (952, .iaload, 1), (953, .invokevirtual 118, 3), (956, .if_icmp .eq 468, 3), (959, .iconst 0, 1), (960, .ireturn, 1), (961, .aload_n 1, 1), (962, .aload_n 0, 1), (963, .iload_n 3, 1), (964, .iconst 1, 1), (965, .iadd, 1), (966, .iaload, 1), (967, .invokevirtual 119, 3), (970, .aload_n 2, 1), (971, .aload_n 0, 1), (972, .iload_n 3, 1), (973, .iconst 1, 1), (974, .iadd, 1), (975, .iaload, 1), (976, .invokevirtual 122, 3), (979, .if_icmp .eq 445, 3), (982, .iconst 0, 1), (983, .ireturn, 1), (984, .aload_n 1, 1), (985, .invokevirtual 123, 3), (988, .aload_n 2, 1), (989, .invokevirtual 126, 3), (992, .if_icmp .eq 432, 3), (995, .iconst 0, 1), (996, .ireturn, 1), (997, .aload_n 1, 1), (998, .aload_n 0, 1), (999, .iload_n 3, 1), (1000, .iconst 1, 1), (1001, .iadd, 1), (1002, .iaload, 1), (1003, .aload_n 0, 1), (1004, .iload_n 3, 1), (1005, .iconst 2, 1), (1006, .iadd, 1), (1007, .iaload, 1), (1008, .invokevirtual 127, 3), (1011, .aload_n 2, 1), (1012, .aload_n 0, 1), (1013, .iload_n 3, 1), (1014, .iconst 1, 1), (1015, .iadd, 1), (1016, .iaload, 1), (1017, .aload_n 0, 1), (1018, .iload_n 3, 1), (1019, .iconst 2, 1), (1020, .iadd, 1), (1021, .iaload, 1), (1022, .invokevirtual 130, 3), (1025, .if_icmp .eq 399, 3), (1028, .iconst 0, 1), (1029, .ireturn, 1), (1030, .aload_n 1, 1), (1031, .aload_n 0, 1), (1032, .iload_n 3, 1), (1033, .iconst 1, 1), (1034, .iadd, 1), (1035, .iaload, 1), (1036, .invokevirtual 131, 3), (1039, .aload_n 2, 1), (1040, .aload_n 0, 1), (1041, .iload_n 3, 1), (1042, .iconst 1, 1), (1043, .iadd, 1), (1044, .iaload, 1), (1045, .invokevirtual 134, 3), (1048, .if_icmp .eq 376, 3), (1051, .iconst 0, 1), (1052, .ireturn, 1), (1053, .aload_n 1, 1), (1054, .invokevirtual 135, 3), (1057, .aload_n 2, 1), (1058, .invokevirtual 138, 3), (1061, .if_icmp .eq 363, 3), (1064, .iconst 0, 1), (1065, .ireturn, 1), (1066, .aload_n 1, 1), (1067, .aload_n 0, 1), (1068, .iload_n 3, 1), (1069, .iconst 1, 1), (1070, .iadd, 1), (1071, .iaload, 1), (1072, .aload_n 0, 1), (1073, .iload_n 3, 1), (1074, .iconst 2, 1), (1075, .iadd, 1), (1076, .iaload, 1), (1077, .aload_n 0, 1), (1078, .iload_n 3, 1), (1079, .iconst 3, 1), (1080, .iadd, 1), (1081, .iaload, 1), (1082, .invokevirtual 139, 3), (1085, .aload_n 2, 1), (1086, .aload_n 0, 1), (1087, .iload_n 3, 1), (1088, .iconst 1, 1), (1089, .iadd, 1), (1090, .iaload, 1), (1091, .aload_n 0, 1), (1092, .iload_n 3, 1), (1093, .iconst 2, 1), (1094, .iadd, 1), (1095, .iaload, 1), (1096, .aload_n 0, 1), (1097, .iload_n 3, 1), (1098, .iconst 3, 1), (1099, .iadd, 1), (1100, .iaload, 1), (1101, .invokevirtual 142, 3), (1104, .if_icmp .eq 320, 3), (1107, .iconst 0, 1), (1108, .ireturn, 1), (1109, .aload_n 1, 1), (1110, .aload_n 0, 1), (1111, .iload_n 3, 1), (1112, .iconst 1, 1), (1113, .iadd, 1), (1114, .iaload, 1), (1115, .aload_n 0, 1), (1116, .iload_n 3, 1), (1117, .iconst 2, 1), (1118, .iadd, 1), (1119, .iaload, 1), (1120, .aload_n 0, 1), (1121, .iload_n 3, 1), (1122, .iconst 3, 1), (1123, .iadd, 1), (1124, .iaload, 1), (1125, .aload_n 0, 1), (1126, .iload_n 3, 1), (1127, .iconst 4, 1), (1128, .iadd, 1), (1129, .iaload, 1), (1130, .invokevirtual 143, 3), (1133, .aload_n 2, 1), (1134, .aload_n 0, 1), (1135, .iload_n 3, 1), (1136, .iconst 1, 1), (1137, .iadd, 1), (1138, .iaload, 1), (1139, .aload_n 0, 1), (1140, .iload_n 3, 1), (1141, .iconst 2, 1), (1142, .iadd, 1), (1143, .iaload, 1), (1144, .aload_n 0, 1), (1145, .iload_n 3, 1), (1146, .iconst 3, 1), (1147, .iadd, 1), (1148, .iaload, 1), (1149, .aload_n 0, 1), (1150, .iload_n 3, 1), (1151, .iconst 4, 1), (1152, .iadd, 1), (1153, .iaload, 1), (1154, .invokevirtual 147, 3), (1157, .lcmp, 1), (1158, .ifCond .eq 266, 3), (1161, .iconst 0, 1), (1162, .ireturn, 1), (1163, .aload_n 1, 1), (1164, .invokevirtual 148, 3), (1167, .aload_n 2, 1), (1168, .invokevirtual 151, 3), (1171, .if_icmp .eq 253, 3), (1174, .iconst 0, 1), (1175, .ireturn, 1), (1176, .aload_n 1, 1), (1177, .invokevirtual 152, 3), (1180, .aload_n 2, 1), (1181, .invokevirtual 155, 3), (1184, .if_icmp .eq 240, 3), (1187, .iconst 0, 1), (1188, .ireturn, 1), (1189, .aload_n 1, 1), (1190, .aload_n 0, 1), (1191, .iload_n 3, 1), (1192, .iconst 1, 1), (1193, .iadd, 1), (1194, .iaload, 1), (1195, .aload_n 0, 1), (1196, .iload_n 3, 1), (1197, .iconst 2, 1), (1198, .iadd, 1), (1199, .iaload, 1), (1200, .aload_n 0, 1), (1201, .iload_n 3, 1), (1202, .iconst 3, 1), (1203, .iadd, 1), (1204, .iaload, 1), (1205, .invokevirtual 156, 3), (1208, .aload_n 2, 1), (1209, .aload_n 0, 1), (1210, .iload_n 3, 1), (1211, .iconst 1, 1), (1212, .iadd, 1), (1213, .iaload, 1), (1214, .aload_n 0, 1), (1215, .iload_n 3, 1), (1216, .iconst 2, 1), (1217, .iadd, 1), (1218, .iaload, 1), (1219, .aload_n 0, 1), (1220, .iload_n 3, 1), (1221, .iconst 3, 1), (1222, .iadd, 1), (1223, .iaload, 1), (1224, .invokevirtual 159, 3), (1227, .if_icmp .eq 197, 3), (1230, .iconst 0, 1), (1231, .ireturn, 1), (1232, .aload_n 1, 1), (1233, .aload_n 0, 1), (1234, .iload_n 3, 1), (1235, .iconst 1, 1), (1236, .iadd, 1), (1237, .iaload, 1), (1238, .aload_n 0, 1), (1239, .iload_n 3, 1), (1240, .iconst 2, 1), (1241, .iadd, 1), (1242, .iaload, 1), (1243, .aload_n 0, 1), (1244, .iload_n 3, 1), (1245, .iconst 3, 1), (1246, .iadd, 1), (1247, .iaload, 1), (1248, .invokevirtual 160, 3), (1251, .aload_n 2, 1), (1252, .aload_n 0, 1), (1253, .iload_n 3, 1), (1254, .iconst 1, 1), (1255, .iadd, 1), (1256, .iaload, 1), (1257, .aload_n 0, 1), (1258, .iload_n 3, 1), (1259, .iconst 2, 1), (1260, .iadd, 1), (1261, .iaload, 1), (1262, .aload_n 0, 1), (1263, .iload_n 3, 1), (1264, .iconst 3, 1), (1265, .iadd, 1), (1266, .iaload, 1), (1267, .invokevirtual 163, 3), (1270, .if_icmp .eq 154, 3), (1273, .iconst 0, 1), (1274, .ireturn, 1), (1275, .aload_n 1, 1), (1276, .aload_n 0, 1), (1277, .iload_n 3, 1), (1278, .iconst 1, 1), (1279, .iadd, 1), (1280, .iaload, 1), (1281, .aload_n 0, 1), (1282, .iload_n 3, 1), (1283, .iconst 2, 1), (1284, .iadd, 1), (1285, .iaload, 1), (1286, .aload_n 0, 1), (1287, .iload_n 3, 1), (1288, .iconst 3, 1), (1289, .iadd, 1), (1290, .iaload, 1), (1291, .aload_n 0, 1), (1292, .iload_n 3, 1), (1293, .iconst 4, 1), (1294, .iadd, 1), (1295, .iaload, 1), (1296, .aload_n 0, 1), (1297, .iload_n 3, 1), (1298, .iconst 5, 1), (1299, .iadd, 1), (1300, .iaload, 1), (1301, .invokevirtual 164, 3), (1304, .aload_n 2, 1), (1305, .aload_n 0, 1), (1306, .iload_n 3, 1), (1307, .iconst 1, 1), (1308, .iadd, 1), (1309, .iaload, 1), (1310, .aload_n 0, 1), (1311, .iload_n 3, 1), (1312, .iconst 2, 1), (1313, .iadd, 1), (1314, .iaload, 1), (1315, .aload_n 0, 1), (1316, .iload_n 3, 1), (1317, .iconst 3, 1), (1318, .iadd, 1), (1319, .iaload, 1), (1320, .aload_n 0, 1), (1321, .iload_n 3, 1), (1322, .iconst 4, 1), (1323, .iadd, 1), (1324, .iaload, 1), (1325, .aload_n 0, 1), (1326, .iload_n 3, 1), (1327, .iconst 5, 1), (1328, .iadd, 1), (1329, .iaload, 1), (1330, .invokevirtual 168, 3), (1333, .if_icmp .eq 91, 3), (1336, .iconst 0, 1), (1337, .ireturn, 1), (1338, .aload_n 1, 1), (1339, .aload_n 0, 1), (1340, .iload_n 3, 1), (1341, .iconst 1, 1), (1342, .iadd, 1), (1343, .iaload, 1), (1344, .aload_n 0, 1), (1345, .iload_n 3, 1), (1346, .iconst 2, 1), (1347, .iadd, 1), (1348, .iaload, 1), (1349, .aload_n 0, 1), (1350, .iload_n 3, 1), (1351, .iconst 3, 1), (1352, .iadd, 1), (1353, .iaload, 1), (1354, .aload_n 0, 1), (1355, .iload_n 3, 1), (1356, .iconst 4, 1), (1357, .iadd, 1), (1358, .iaload, 1), (1359, .invokevirtual 169, 3), (1362, .aload_n 2, 1), (1363, .aload_n 0, 1), (1364, .iload_n 3, 1), (1365, .iconst 1, 1), (1366, .iadd, 1), (1367, .iaload, 1), (1368, .aload_n 0, 1), (1369, .iload_n 3, 1), (1370, .iconst 2, 1), (1371, .iadd, 1), (1372, .iaload, 1), (1373, .aload_n 0, 1), (1374, .iload_n 3, 1), (1375, .iconst 3, 1), (1376, .iadd, 1), (1377, .iaload, 1), (1378, .aload_n 0, 1), (1379, .iload_n 3, 1), (1380, .iconst 4, 1), (1381, .iadd, 1), (1382, .iaload, 1), (1383, .invokevirtual 172, 3), (1386, .if_icmp .eq 38, 3), (1389, .iconst 0, 1), (1390, .ireturn, 1), (1391, .aload_n 1, 1), (1392, .aload_n 0, 1), (1393, .iload_n 3, 1), (1394, .iconst 1, 1), (1395, .iadd, 1), (1396, .iaload, 1), (1397, .aload_n 0, 1), (1398, .iload_n 3, 1), (1399, .iconst 2, 1), (1400, .iadd, 1), (1401, .iaload, 1), (1402, .invokevirtual 173, 3), (1405, .aload_n 2, 1), (1406, .aload_n 0, 1), (1407, .iload_n 3, 1), (1408, .iconst 1, 1), (1409, .iadd, 1), (1410, .iaload, 1), (1411, .aload_n 0, 1), (1412, .iload_n 3, 1), (1413, .iconst 2, 1), (1414, .iadd, 1), (1415, .iaload, 1), (1416, .invokevirtual 176, 3), (1419, .if_icmp .eq 5, 3), (1422, .iconst 0, 1), (1423, .ireturn, 1), (1424, .iinc 3 7, 3), (1427, .goto (-1409), 3), (1430, .iconst 1, 1), (1431, .ireturn, 1)]
def zis_0 : List (List (Nat × Instr × Nat)) := [zi_0, zi_1, zi_2, zi_3, zi_4, zi_5, zi_6, zi_7, zi_8, zi_9, zi_10, zi_11, zi_12, zi_13, zi_14, zi_15, zi_16, zi_17, zi_18, zi_19, zi_20, zi_21, zi_22, zi_23, zi_24, zi_25, zi_26, zi_27, zi_28, zi_29, zi_30, zi_31, zi_32, zi_33, zi_34, zi_35, zi_36, zi_37, zi_38, zi_39]
def zis_1 : List (List (Nat × Instr × Nat)) := [zi_40, zi_41, zi_42, zi_43, zi_44, zi_45, zi_46, zi_47, zi_48, zi_49, zi_50, zi_51, zi_52, zi_53, zi_54, zi_55, zi_56, zi_57, zi_58, zi_59, zi_60, zi_61, zi_62, zi_63, zi_64, zi_65, zi_66, zi_67, zi_68, zi_69, zi_70, zi_71, zi_72, zi_73, zi_74, zi_75, zi_76, zi_77, zi_78, zi_79]
def zis_2 : List (List (Nat × Instr × Nat)) := [zi_80, zi_81, zi_82, zi_83, zi_84, zi_85, zi_86, zi_87, zi_88, zi_89, zi_90, zi_91, zi_92, zi_93, zi_94, zi_95, zi_96, zi_97, zi_98, zi_99, zi_100, zi_101, zi_102, zi_103, zi_104, zi_105, zi_106, zi_107, zi_108, zi_109, zi_110, zi_111, zi_112, zi_113, zi_114, zi_115, zi_116, zi_117, zi_118, zi_119]
def zis_3 : List (List (Nat × Instr × Nat)) := [zi_120, zi_121, zi_122, zi_123, zi_124, zi_125, zi_126, zi_127, zi_128, zi_129, zi_130, zi_131, zi_132, zi_133, zi_134, zi_135, zi_136, zi_137, zi_138, zi_139, zi_140, zi_141, zi_142, zi_143, zi_144, zi_145, zi_146, zi_147, zi_148, zi_149, zi_150, zi_151, zi_152, zi_153, zi_154, zi_155, zi_156, zi_157, zi_158, zi_159]
def zis_4 : List (List (Nat × Instr × Nat)) := [zi_160, zi_161, zi_162, zi_163, zi_164, zi_165, zi_166, zi_167, zi_168, zi_169, zi_170, zi_171, zi_172, zi_173, zi_174, zi_175, zi_176, zi_177, zi_178, zi_179, zi_180, zi_181, zi_182, zi_183, zi_184, zi_185, zi_186, zi_187, zi_188, zi_189, zi_190, zi_191, zi_192, zi_193, zi_194, zi_195, zi_196, zi_197, zi_198, zi_199]
def zis_5 : List (List (Nat × Instr × Nat)) := [zi_200, zi_201, zi_202, zi_203, zi_204, zi_205, zi_206, zi_207, zi_208, zi_209, zi_210, zi_211, zi_212, zi_213, zi_214, zi_215, zi_216, zi_217, zi_218, zi_219, zi_220, zi_221, zi_222, zi_223, zi_224, zi_225, zi_226, zi_227, zi_228, zi_229, zi_230, zi_231, zi_232, zi_233, zi_234, zi_235, zi_236, zi_237, zi_238, zi_239]
def zis_6 : List (List (Nat × Instr × Nat)) := [zi_240]
def zi_L : List (List (Nat × Instr × Nat)) := zis_0 ++ (zis_1 ++ (zis_2 ++ (zis_3 ++ (zis_4 ++ (zis_5 ++ (zis_6))))))
def zi_find (pc : Nat) : List (Nat × Instr × Nat) → Option (Instr × Nat)
  | [] => none
  | (q, i, n) :: l => if q = pc then some (i, n) else zi_find pc l
def zi (y pc : Nat) : Option (Instr × Nat) := zi_find pc (zi_L.getD y [])
def zi_okL (b : ByteArray) (l : List (Nat × Instr × Nat)) : Bool := l.all fun e => decide (decode b e.1 = .ok (e.2.1, e.2.2))
theorem zi_ok_0 : zi_okL prog_2_method_1_code zi_0 = true := by decide +kernel
theorem zi_ok_1 : zi_okL prog_2_method_2_code zi_1 = true := by decide +kernel
theorem zi_ok_2 : zi_okL prog_2_method_3_code zi_2 = true := by decide +kernel
theorem zi_ok_3 : zi_okL prog_2_method_4_code zi_3 = true := by decide +kernel
theorem zi_ok_4 : zi_okL prog_2_method_5_code zi_4 = true := by decide +kernel
theorem zi_ok_5 : zi_okL prog_2_method_6_code zi_5 = true := by decide +kernel
theorem zi_ok_6 : zi_okL prog_2_method_7_code zi_6 = true := by decide +kernel
theorem zi_ok_7 : zi_okL prog_2_method_8_code zi_7 = true := by decide +kernel
theorem zi_ok_8 : zi_okL prog_2_method_9_code zi_8 = true := by decide +kernel
theorem zi_ok_9 : zi_okL prog_3_method_1_code zi_9 = true := by decide +kernel
theorem zi_ok_10 : zi_okL prog_3_method_2_code zi_10 = true := by decide +kernel
theorem zi_ok_11 : zi_okL prog_3_method_3_code zi_11 = true := by decide +kernel
theorem zi_ok_12 : zi_okL prog_3_method_4_code zi_12 = true := by decide +kernel
theorem zi_ok_13 : zi_okL prog_3_method_5_code zi_13 = true := by decide +kernel
theorem zi_ok_14 : zi_okL prog_3_method_6_code zi_14 = true := by decide +kernel
theorem zi_ok_15 : zi_okL prog_3_method_7_code zi_15 = true := by decide +kernel
theorem zi_ok_16 : zi_okL prog_4_method_1_code zi_16 = true := by decide +kernel
theorem zi_ok_17 : zi_okL prog_4_method_2_code zi_17 = true := by decide +kernel
theorem zi_ok_18 : zi_okL prog_4_method_3_code zi_18 = true := by decide +kernel
theorem zi_ok_19 : zi_okL prog_4_method_4_code zi_19 = true := by decide +kernel
theorem zi_ok_20 : zi_okL prog_4_method_5_code zi_20 = true := by decide +kernel
theorem zi_ok_21 : zi_okL prog_4_method_6_code zi_21 = true := by decide +kernel
theorem zi_ok_22 : zi_okL prog_4_method_7_code zi_22 = true := by decide +kernel
theorem zi_ok_23 : zi_okL prog_4_method_8_code zi_23 = true := by decide +kernel
theorem zi_ok_24 : zi_okL prog_4_method_9_code zi_24 = true := by decide +kernel
theorem zi_ok_25 : zi_okL prog_4_method_10_code zi_25 = true := by decide +kernel
theorem zi_ok_26 : zi_okL prog_4_method_11_code zi_26 = true := by decide +kernel
theorem zi_ok_27 : zi_okL prog_4_method_12_code zi_27 = true := by decide +kernel
theorem zi_ok_28 : zi_okL prog_4_method_13_code zi_28 = true := by decide +kernel
theorem zi_ok_29 : zi_okL prog_4_method_14_code zi_29 = true := by decide +kernel
theorem zi_ok_30 : zi_okL prog_4_method_15_code zi_30 = true := by decide +kernel
theorem zi_ok_31 : zi_okL prog_4_method_16_code zi_31 = true := by decide +kernel
theorem zi_ok_32 : zi_okL prog_4_method_17_code zi_32 = true := by decide +kernel
theorem zi_ok_33 : zi_okL prog_5_method_1_code zi_33 = true := by decide +kernel
theorem zi_ok_34 : zi_okL prog_5_method_2_code zi_34 = true := by decide +kernel
theorem zi_ok_35 : zi_okL prog_5_method_3_code zi_35 = true := by decide +kernel
theorem zi_ok_36 : zi_okL prog_5_method_4_code zi_36 = true := by decide +kernel
theorem zi_ok_37 : zi_okL prog_5_method_5_code zi_37 = true := by decide +kernel
theorem zi_ok_38 : zi_okL prog_5_method_6_code zi_38 = true := by decide +kernel
theorem zi_ok_39 : zi_okL prog_5_method_7_code zi_39 = true := by decide +kernel
theorem zi_ok_40 : zi_okL prog_5_method_8_code zi_40 = true := by decide +kernel
theorem zi_ok_41 : zi_okL prog_5_method_9_code zi_41 = true := by decide +kernel
theorem zi_ok_42 : zi_okL prog_5_method_10_code zi_42 = true := by decide +kernel
theorem zi_ok_43 : zi_okL prog_5_method_11_code zi_43 = true := by decide +kernel
theorem zi_ok_44 : zi_okL prog_5_method_12_code zi_44 = true := by decide +kernel
theorem zi_ok_45 : zi_okL prog_5_method_13_code zi_45 = true := by decide +kernel
theorem zi_ok_46 : zi_okL prog_5_method_14_code zi_46 = true := by decide +kernel
theorem zi_ok_47 : zi_okL prog_5_method_15_code zi_47 = true := by decide +kernel
theorem zi_ok_48 : zi_okL prog_5_method_16_code zi_48 = true := by decide +kernel
theorem zi_ok_49 : zi_okL prog_5_method_17_code zi_49 = true := by decide +kernel
theorem zi_ok_50 : zi_okL prog_5_method_18_code zi_50 = true := by decide +kernel
theorem zi_ok_51 : zi_okL prog_5_method_19_code zi_51 = true := by decide +kernel
theorem zi_ok_52 : zi_okL prog_5_method_20_code zi_52 = true := by decide +kernel
theorem zi_ok_53 : zi_okL prog_6_method_1_code zi_53 = true := by decide +kernel
theorem zi_ok_54 : zi_okL prog_6_method_2_code zi_54 = true := by decide +kernel
theorem zi_ok_55 : zi_okL prog_6_method_3_code zi_55 = true := by decide +kernel
theorem zi_ok_56 : zi_okL prog_6_method_4_code zi_56 = true := by decide +kernel
theorem zi_ok_57 : zi_okL prog_6_method_5_code zi_57 = true := by decide +kernel
theorem zi_ok_58 : zi_okL prog_6_method_6_code zi_58 = true := by decide +kernel
theorem zi_ok_59 : zi_okL prog_6_method_7_code zi_59 = true := by decide +kernel
theorem zi_ok_60 : zi_okL prog_6_method_8_code zi_60 = true := by decide +kernel
theorem zi_ok_61 : zi_okL prog_6_method_9_code zi_61 = true := by decide +kernel
theorem zi_ok_62 : zi_okL prog_6_method_10_code zi_62 = true := by decide +kernel
theorem zi_ok_63 : zi_okL prog_6_method_11_code zi_63 = true := by decide +kernel
theorem zi_ok_64 : zi_okL prog_6_method_12_code zi_64 = true := by decide +kernel
theorem zi_ok_65 : zi_okL prog_6_method_13_code zi_65 = true := by decide +kernel
theorem zi_ok_66 : zi_okL prog_7_method_1_code zi_66 = true := by decide +kernel
theorem zi_ok_67 : zi_okL prog_7_method_2_code zi_67 = true := by decide +kernel
theorem zi_ok_68 : zi_okL prog_7_method_3_code zi_68 = true := by decide +kernel
theorem zi_ok_69 : zi_okL prog_7_method_4_code zi_69 = true := by decide +kernel
theorem zi_ok_70 : zi_okL prog_7_method_5_code zi_70 = true := by decide +kernel
theorem zi_ok_71 : zi_okL prog_7_method_6_code zi_71 = true := by decide +kernel
theorem zi_ok_72 : zi_okL prog_8_method_1_code zi_72 = true := by decide +kernel
theorem zi_ok_73 : zi_okL prog_8_method_2_code zi_73 = true := by decide +kernel
theorem zi_ok_74 : zi_okL prog_8_method_3_code zi_74 = true := by decide +kernel
theorem zi_ok_75 : zi_okL prog_8_method_4_code zi_75 = true := by decide +kernel
theorem zi_ok_76 : zi_okL prog_8_method_5_code zi_76 = true := by decide +kernel
theorem zi_ok_77 : zi_okL prog_8_method_6_code zi_77 = true := by decide +kernel
theorem zi_ok_78 : zi_okL prog_8_method_7_code zi_78 = true := by decide +kernel
theorem zi_ok_79 : zi_okL prog_8_method_8_code zi_79 = true := by decide +kernel
theorem zi_ok_80 : zi_okL prog_8_method_9_code zi_80 = true := by decide +kernel
theorem zi_ok_81 : zi_okL prog_8_method_10_code zi_81 = true := by decide +kernel
theorem zi_ok_82 : zi_okL prog_1_method_1_code zi_82 = true := by decide +kernel
theorem zi_ok_83 : zi_okL prog_1_method_2_code zi_83 = true := by decide +kernel
theorem zi_ok_84 : zi_okL prog_1_method_3_code zi_84 = true := by decide +kernel
theorem zi_ok_85 : zi_okL prog_1_method_4_code zi_85 = true := by decide +kernel
theorem zi_ok_86 : zi_okL prog_1_method_5_code zi_86 = true := by decide +kernel
theorem zi_ok_87 : zi_okL prog_1_method_6_code zi_87 = true := by decide +kernel
theorem zi_ok_88 : zi_okL prog_1_method_7_code zi_88 = true := by decide +kernel
theorem zi_ok_89 : zi_okL prog_1_method_8_code zi_89 = true := by decide +kernel
theorem zi_ok_90 : zi_okL prog_1_method_9_code zi_90 = true := by decide +kernel
theorem zi_ok_91 : zi_okL prog_1_method_10_code zi_91 = true := by decide +kernel
theorem zi_ok_92 : zi_okL prog_1_method_11_code zi_92 = true := by decide +kernel
theorem zi_ok_93 : zi_okL prog_1_method_12_code zi_93 = true := by decide +kernel
theorem zi_ok_94 : zi_okL prog_1_method_13_code zi_94 = true := by decide +kernel
theorem zi_ok_95 : zi_okL prog_1_method_14_code zi_95 = true := by decide +kernel
theorem zi_ok_96 : zi_okL prog_1_method_15_code zi_96 = true := by decide +kernel
theorem zi_ok_97 : zi_okL prog_1_method_16_code zi_97 = true := by decide +kernel
theorem zi_ok_98 : zi_okL prog_1_method_17_code zi_98 = true := by decide +kernel
theorem zi_ok_99 : zi_okL prog_1_method_18_code zi_99 = true := by decide +kernel
theorem zi_ok_100 : zi_okL prog_1_method_19_code zi_100 = true := by decide +kernel
theorem zi_ok_101 : zi_okL prog_1_method_20_code zi_101 = true := by decide +kernel
theorem zi_ok_102 : zi_okL prog_1_method_21_code zi_102 = true := by decide +kernel
theorem zi_ok_103 : zi_okL prog_1_method_22_code zi_103 = true := by decide +kernel
theorem zi_ok_104 : zi_okL prog_1_method_23_code zi_104 = true := by decide +kernel
theorem zi_ok_105 : zi_okL prog_1_method_24_code zi_105 = true := by decide +kernel
theorem zi_ok_106 : zi_okL prog_1_method_25_code zi_106 = true := by decide +kernel
theorem zi_ok_107 : zi_okL prog_1_method_26_code zi_107 = true := by decide +kernel
theorem zi_ok_108 : zi_okL prog_1_method_27_code zi_108 = true := by decide +kernel
theorem zi_ok_109 : zi_okL prog_1_method_28_code zi_109 = true := by decide +kernel
theorem zi_ok_110 : zi_okL prog_1_method_29_code zi_110 = true := by decide +kernel
theorem zi_ok_111 : zi_okL prog_1_method_30_code zi_111 = true := by decide +kernel
theorem zi_ok_112 : zi_okL prog_1_method_31_code zi_112 = true := by decide +kernel
theorem zi_ok_113 : zi_okL prog_1_method_32_code zi_113 = true := by decide +kernel
theorem zi_ok_114 : zi_okL prog_1_method_33_code zi_114 = true := by decide +kernel
theorem zi_ok_115 : zi_okL prog_1_method_34_code zi_115 = true := by decide +kernel
theorem zi_ok_116 : zi_okL prog_1_method_35_code zi_116 = true := by decide +kernel
theorem zi_ok_117 : zi_okL prog_1_method_36_code zi_117 = true := by decide +kernel
theorem zi_ok_118 : zi_okL prog_1_method_37_code zi_118 = true := by decide +kernel
theorem zi_ok_119 : zi_okL prog_1_method_38_code zi_119 = true := by decide +kernel
theorem zi_ok_120 : zi_okL prog_1_method_39_code zi_120 = true := by decide +kernel
theorem zi_ok_121 : zi_okL prog_1_method_40_code zi_121 = true := by decide +kernel
theorem zi_ok_122 : zi_okL prog_1_method_41_code zi_122 = true := by decide +kernel
theorem zi_ok_123 : zi_okL prog_1_method_42_code zi_123 = true := by decide +kernel
theorem zi_ok_124 : zi_okL prog_1_method_43_code zi_124 = true := by decide +kernel
theorem zi_ok_125 : zi_okL prog_1_method_44_code zi_125 = true := by decide +kernel
theorem zi_ok_126 : zi_okL prog_1_method_45_code zi_126 = true := by decide +kernel
theorem zi_ok_127 : zi_okL prog_1_method_46_code zi_127 = true := by decide +kernel
theorem zi_ok_128 : zi_okL prog_1_method_47_code zi_128 = true := by decide +kernel
theorem zi_ok_129 : zi_okL prog_1_method_48_code zi_129 = true := by decide +kernel
theorem zi_ok_130 : zi_okL prog_1_method_49_code zi_130 = true := by decide +kernel
theorem zi_ok_131 : zi_okL prog_10_method_1_code zi_131 = true := by decide +kernel
theorem zi_ok_132 : zi_okL prog_10_method_3_code zi_132 = true := by decide +kernel
theorem zi_ok_133 : zi_okL prog_10_method_4_code zi_133 = true := by decide +kernel
theorem zi_ok_134 : zi_okL prog_10_method_5_code zi_134 = true := by decide +kernel
theorem zi_ok_135 : zi_okL prog_10_method_6_code zi_135 = true := by decide +kernel
theorem zi_ok_136 : zi_okL prog_10_method_7_code zi_136 = true := by decide +kernel
theorem zi_ok_137 : zi_okL prog_10_method_8_code zi_137 = true := by decide +kernel
theorem zi_ok_138 : zi_okL prog_10_method_9_code zi_138 = true := by decide +kernel
theorem zi_ok_139 : zi_okL prog_10_method_10_code zi_139 = true := by decide +kernel
theorem zi_ok_140 : zi_okL prog_10_method_11_code zi_140 = true := by decide +kernel
theorem zi_ok_141 : zi_okL prog_10_method_12_code zi_141 = true := by decide +kernel
theorem zi_ok_142 : zi_okL prog_10_method_13_code zi_142 = true := by decide +kernel
theorem zi_ok_143 : zi_okL prog_10_method_14_code zi_143 = true := by decide +kernel
theorem zi_ok_144 : zi_okL prog_10_method_15_code zi_144 = true := by decide +kernel
theorem zi_ok_145 : zi_okL prog_10_method_16_code zi_145 = true := by decide +kernel
theorem zi_ok_146 : zi_okL prog_10_method_17_code zi_146 = true := by decide +kernel
theorem zi_ok_147 : zi_okL prog_10_method_18_code zi_147 = true := by decide +kernel
theorem zi_ok_148 : zi_okL prog_10_method_19_code zi_148 = true := by decide +kernel
theorem zi_ok_149 : zi_okL prog_10_method_20_code zi_149 = true := by decide +kernel
theorem zi_ok_150 : zi_okL prog_10_method_21_code zi_150 = true := by decide +kernel
theorem zi_ok_151 : zi_okL prog_10_method_22_code zi_151 = true := by decide +kernel
theorem zi_ok_152 : zi_okL prog_10_method_23_code zi_152 = true := by decide +kernel
theorem zi_ok_153 : zi_okL prog_10_method_24_code zi_153 = true := by decide +kernel
theorem zi_ok_154 : zi_okL prog_10_method_25_code zi_154 = true := by decide +kernel
theorem zi_ok_155 : zi_okL prog_10_method_26_code zi_155 = true := by decide +kernel
theorem zi_ok_156 : zi_okL prog_10_method_27_code zi_156 = true := by decide +kernel
theorem zi_ok_157 : zi_okL prog_10_method_28_code zi_157 = true := by decide +kernel
theorem zi_ok_158 : zi_okL prog_10_method_29_code zi_158 = true := by decide +kernel
theorem zi_ok_159 : zi_okL prog_10_method_30_code zi_159 = true := by decide +kernel
theorem zi_ok_160 : zi_okL prog_10_method_31_code zi_160 = true := by decide +kernel
theorem zi_ok_161 : zi_okL prog_10_method_32_code zi_161 = true := by decide +kernel
theorem zi_ok_162 : zi_okL prog_10_method_33_code zi_162 = true := by decide +kernel
theorem zi_ok_163 : zi_okL prog_10_method_34_code zi_163 = true := by decide +kernel
theorem zi_ok_164 : zi_okL prog_10_method_35_code zi_164 = true := by decide +kernel
theorem zi_ok_165 : zi_okL prog_10_method_36_code zi_165 = true := by decide +kernel
theorem zi_ok_166 : zi_okL prog_10_method_37_code zi_166 = true := by decide +kernel
theorem zi_ok_167 : zi_okL prog_10_method_38_code zi_167 = true := by decide +kernel
theorem zi_ok_168 : zi_okL prog_10_method_39_code zi_168 = true := by decide +kernel
theorem zi_ok_169 : zi_okL prog_10_method_40_code zi_169 = true := by decide +kernel
theorem zi_ok_170 : zi_okL prog_10_method_41_code zi_170 = true := by decide +kernel
theorem zi_ok_171 : zi_okL prog_10_method_42_code zi_171 = true := by decide +kernel
theorem zi_ok_172 : zi_okL prog_10_method_43_code zi_172 = true := by decide +kernel
theorem zi_ok_173 : zi_okL prog_10_method_44_code zi_173 = true := by decide +kernel
theorem zi_ok_174 : zi_okL prog_10_method_45_code zi_174 = true := by decide +kernel
theorem zi_ok_175 : zi_okL prog_10_method_46_code zi_175 = true := by decide +kernel
theorem zi_ok_176 : zi_okL prog_10_method_47_code zi_176 = true := by decide +kernel
theorem zi_ok_177 : zi_okL prog_10_method_48_code zi_177 = true := by decide +kernel
theorem zi_ok_178 : zi_okL prog_10_method_49_code zi_178 = true := by decide +kernel
theorem zi_ok_179 : zi_okL prog_10_method_50_code zi_179 = true := by decide +kernel
theorem zi_ok_180 : zi_okL prog_10_method_51_code zi_180 = true := by decide +kernel
theorem zi_ok_181 : zi_okL prog_10_method_52_code zi_181 = true := by decide +kernel
theorem zi_ok_182 : zi_okL prog_10_method_53_code zi_182 = true := by decide +kernel
theorem zi_ok_183 : zi_okL prog_10_method_54_code zi_183 = true := by decide +kernel
theorem zi_ok_184 : zi_okL prog_10_method_55_code zi_184 = true := by decide +kernel
theorem zi_ok_185 : zi_okL prog_10_method_56_code zi_185 = true := by decide +kernel
theorem zi_ok_186 : zi_okL prog_10_method_57_code zi_186 = true := by decide +kernel
theorem zi_ok_187 : zi_okL prog_10_method_58_code zi_187 = true := by decide +kernel
theorem zi_ok_188 : zi_okL prog_10_method_59_code zi_188 = true := by decide +kernel
theorem zi_ok_189 : zi_okL prog_10_method_60_code zi_189 = true := by decide +kernel
theorem zi_ok_190 : zi_okL prog_10_method_61_code zi_190 = true := by decide +kernel
theorem zi_ok_191 : zi_okL prog_10_method_62_code zi_191 = true := by decide +kernel
theorem zi_ok_192 : zi_okL prog_10_method_63_code zi_192 = true := by decide +kernel
theorem zi_ok_193 : zi_okL prog_10_method_64_code zi_193 = true := by decide +kernel
theorem zi_ok_194 : zi_okL prog_10_method_65_code zi_194 = true := by decide +kernel
theorem zi_ok_195 : zi_okL prog_10_method_66_code zi_195 = true := by decide +kernel
theorem zi_ok_196 : zi_okL prog_10_method_67_code zi_196 = true := by decide +kernel
theorem zi_ok_197 : zi_okL prog_10_method_68_code zi_197 = true := by decide +kernel
theorem zi_ok_198 : zi_okL prog_10_method_69_code zi_198 = true := by decide +kernel
theorem zi_ok_199 : zi_okL prog_10_method_70_code zi_199 = true := by decide +kernel
theorem zi_ok_200 : zi_okL prog_10_method_71_code zi_200 = true := by decide +kernel
theorem zi_ok_201 : zi_okL prog_10_method_72_code zi_201 = true := by decide +kernel
theorem zi_ok_202 : zi_okL prog_10_method_73_code zi_202 = true := by decide +kernel
theorem zi_ok_203 : zi_okL prog_10_method_74_code zi_203 = true := by decide +kernel
theorem zi_ok_204 : zi_okL prog_10_method_75_code zi_204 = true := by decide +kernel
theorem zi_ok_205 : zi_okL prog_10_method_76_code zi_205 = true := by decide +kernel
theorem zi_ok_206 : zi_okL prog_10_method_77_code zi_206 = true := by decide +kernel
theorem zi_ok_207 : zi_okL prog_10_method_78_code zi_207 = true := by decide +kernel
theorem zi_ok_208 : zi_okL prog_10_method_79_code zi_208 = true := by decide +kernel
theorem zi_ok_209 : zi_okL prog_10_method_80_code zi_209 = true := by decide +kernel
theorem zi_ok_210 : zi_okL prog_10_method_81_code zi_210 = true := by decide +kernel
theorem zi_ok_211 : zi_okL prog_10_method_82_code zi_211 = true := by decide +kernel
theorem zi_ok_212 : zi_okL prog_10_method_83_code zi_212 = true := by decide +kernel
theorem zi_ok_213 : zi_okL prog_10_method_84_code zi_213 = true := by decide +kernel
theorem zi_ok_214 : zi_okL prog_10_method_85_code zi_214 = true := by decide +kernel
theorem zi_ok_215 : zi_okL prog_10_method_86_code zi_215 = true := by decide +kernel
theorem zi_ok_216 : zi_okL prog_10_method_87_code zi_216 = true := by decide +kernel
theorem zi_ok_217 : zi_okL prog_10_method_88_code zi_217 = true := by decide +kernel
theorem zi_ok_218 : zi_okL prog_10_method_89_code zi_218 = true := by decide +kernel
theorem zi_ok_219 : zi_okL prog_10_method_90_code zi_219 = true := by decide +kernel
theorem zi_ok_220 : zi_okL prog_10_method_91_code zi_220 = true := by decide +kernel
theorem zi_ok_221 : zi_okL prog_10_method_92_code zi_221 = true := by decide +kernel
theorem zi_ok_222 : zi_okL prog_10_method_93_code zi_222 = true := by decide +kernel
theorem zi_ok_223 : zi_okL prog_10_method_94_code zi_223 = true := by decide +kernel
theorem zi_ok_224 : zi_okL prog_10_method_95_code zi_224 = true := by decide +kernel
theorem zi_ok_225 : zi_okL prog_10_method_96_code zi_225 = true := by decide +kernel
theorem zi_ok_226 : zi_okL prog_10_method_97_code zi_226 = true := by decide +kernel
theorem zi_ok_227 : zi_okL prog_10_method_98_code zi_227 = true := by decide +kernel
theorem zi_ok_228 : zi_okL prog_11_method_49_code zi_228 = true := by decide +kernel
theorem zi_ok_229 : zi_okL prog_12_method_59_code zi_229 = true := by decide +kernel
theorem zi_ok_230 : zi_okL prog_12_method_65_code zi_230 = true := by decide +kernel
theorem zi_ok_231 : zi_okL prog_12_method_69_code zi_231 = true := by decide +kernel
theorem zi_ok_232 : zi_okL prog_13_method_54_code zi_232 = true := by decide +kernel
theorem zi_ok_233 : zi_okL prog_13_method_56_code zi_233 = true := by decide +kernel
theorem zi_ok_234 : zi_okL prog_13_method_152_code zi_234 = true := by decide +kernel
theorem zi_ok_235 : zi_okL prog_13_method_154_code zi_235 = true := by decide +kernel
theorem zi_ok_236 : zi_okL prog_13_method_155_code zi_236 = true := by decide +kernel
theorem zi_ok_237 : zi_okL prog_14_method_2_code zi_237 = true := by decide +kernel
theorem zi_ok_238 : zi_okL prog_17_method_103_code zi_238 = true := by decide +kernel
theorem zi_ok_239 : zi_okL prog_18_method_11_code zi_239 = true := by decide +kernel
end
section
/-- the words at given places: each place less the one ahead -/
def zpk : List Nat → List Cond → List Cond
  | [], _ => []
  | _ :: _, [] => []
  | 0 :: g, w :: l => w :: zpk g l
  | (k + 1) :: g, _ :: l => zpk (k :: g) l
theorem zpk_mem : ∀ (l : List Cond) (g : List Nat), ∀ w ∈ zpk g l, w ∈ l
  | [], [], w, h => by simp [zpk] at h
  | [], _ :: _, w, h => by simp [zpk] at h
  | _ :: _, [], w, h => by simp [zpk] at h
  | a :: l, 0 :: g, w, h => by
    simp only [zpk, List.mem_cons] at h
    rcases h with h | h
    · exact List.mem_cons.mpr (Or.inl h)
    · exact List.mem_cons_of_mem _ (zpk_mem l g w h)
  | a :: l, (k + 1) :: g, w, h => List.mem_cons_of_mem _ (zpk_mem l (k :: g) w h)
def zgw : List Cond := lw_tbl.filter goodWord
theorem zgw_mem {w : Cond} (h : w ∈ lw_tbl) (hg : goodWord w = true) : w ∈ zgw := List.mem_filter.mpr ⟨h, hg⟩
theorem zgw_lw {w : Cond} (h : w ∈ zgw) : w ∈ lw_tbl := (List.mem_filter.mp h).1
theorem zgw_good {w : Cond} (h : w ∈ zgw) : goodWord w = true := (List.mem_filter.mp h).2
theorem zpk_all {α : Type} {L : List α} {f : α → Cond} {g : List Nat} (h : zpk g lw_tbl = L.map f) (hg : (L.map f).all goodWord = true) {e : α} (he : e ∈ L) : f e ∈ zgw := by
  have hm : f e ∈ L.map f := List.mem_map_of_mem he
  exact zgw_mem (zpk_mem _ _ _ (by rw [h]; exact hm)) (List.all_eq_true.mp hg _ hm)
theorem zpk_alw {α : Type} {L : List α} {f : α → Cond} {g : List Nat} (h : zpk g lw_tbl = L.map f) {e : α} (he : e ∈ L) : f e ∈ lw_tbl := zpk_mem _ _ _ (by rw [h]; exact List.mem_map_of_mem he)
def zw_code_w : Nat → Cond := fun y => .code (zm y).1 (zm y).2.1 (zm y).2.2.1 (zm y).2.2.2.1
def zw_code_1 : List Nat := [82, 0, 229, 9, 66, 16, 232, 234, 233, 235, 237, 236, 239, 17, 18, 10, 28, 27, 29, 31]
set_option maxRecDepth 100000 in
set_option maxHeartbeats 4000000 in
theorem zw_code_p1 : zpk [22, 7, 3, 62, 17, 17, 31, 3, 5, 3, 2, 2, 4, 22, 3, 3, 3, 3, 3, 3] tables_1_1 = zw_code_1.map zw_code_w := rfl
def zw_code_2 : List Nat := [32, 30, 19, 20, 21, 22, 26, 11, 23, 24, 25, 12, 33, 53, 72, 83, 126]
set_option maxRecDepth 100000 in
set_option maxHeartbeats 4000000 in
theorem zw_code_p2 : zpk [3, 4, 3, 3, 3, 3, 3, 3, 3, 3, 3, 3, 4, 73, 33, 74, 2] tables_1_2 = zw_code_2.map zw_code_w := rfl
def zw_code_3 : List Nat := [4, 84, 85, 6, 228, 86, 127, 87, 88, 89, 122, 34, 7, 129, 37, 39, 13, 14, 15, 231, 230, 35, 36, 2, 38, 90, 3, 91, 5, 92, 93, 94, 8, 42, 47, 48, 95, 96, 73, 97, 98, 75, 74, 76, 77, 46, 78, 45, 79, 99, 41, 100, 44, 101, 124, 40]
set_option maxRecDepth 100000 in
set_option maxHeartbeats 4000000 in
theorem zw_code_p3 : zpk [3, 4, 3, 3, 2, 6, 2, 3, 3, 3, 3, 3, 3, 2, 5, 4, 3, 2, 2, 2, 2, 3, 3, 3, 5, 4, 3, 3, 3, 4, 3, 3, 3, 5, 3, 3, 4, 4, 3, 3, 3, 3, 3, 5, 3, 4, 4, 3, 4, 4, 3, 3, 3, 3, 3, 3] tables_1_3 = zw_code_3.map zw_code_w := rfl
def zw_code_4 : List Nat := [54, 238, 50, 55, 58, 57, 43, 59, 56, 123, 61, 60, 102, 103, 62, 104, 63, 64, 65, 105, 52, 51, 106, 107, 108, 109, 110, 111, 112, 125, 113, 80, 49, 81, 114, 130, 115, 1, 116, 117, 128, 67, 118, 68, 71, 119, 69, 120, 70, 121, 131]
set_option maxRecDepth 100000 in
set_option maxHeartbeats 4000000 in
theorem zw_code_p4 : zpk [1, 2, 3, 3, 4, 5, 3, 5, 3, 4, 3, 4, 3, 4, 3, 3, 3, 3, 3, 5, 3, 3, 6, 3, 4, 3, 3, 3, 3, 4, 3, 4, 5, 4, 3, 3, 3, 3, 4, 3, 2, 3, 4, 3, 3, 4, 3, 4, 3, 4, 5] tables_1_4 = zw_code_4.map zw_code_w := rfl
def zw_code_5 : List Nat := [136, 134, 132, 137, 139, 138, 142, 140, 141, 159, 146, 143, 145, 144, 158, 149, 147, 152, 153, 154, 151, 150]
set_option maxRecDepth 100000 in
set_option maxHeartbeats 4000000 in
theorem zw_code_p5 : zpk [159, 2, 2, 3, 3, 3, 3, 2, 3, 3, 3, 2, 3, 2, 3, 3, 3, 3, 3, 3, 3, 3] tables_1_5 = zw_code_5.map zw_code_w := rfl
def zw_code_6 : List Nat := [155, 156, 157, 148, 160, 167, 135, 164, 163, 162, 161, 165, 133, 166, 168, 169, 170, 171, 178, 176, 172, 173, 177, 174, 175, 179, 182, 183, 187, 184, 186, 185, 189, 188, 181, 180, 190, 198, 197, 195, 193, 191, 194, 192, 196, 199, 200, 202, 201, 205, 204, 203, 206, 207, 208, 209, 210, 211, 212, 217, 216]
set_option maxRecDepth 100000 in
set_option maxHeartbeats 4000000 in
theorem zw_code_p6 : zpk [2, 3, 3, 3, 3, 3, 3, 3, 3, 3, 2, 3, 2, 3, 3, 3, 3, 3, 3, 3, 3, 3, 3, 3, 3, 3, 3, 3, 3, 3, 3, 3, 3, 3, 3, 3, 3, 3, 3, 3, 3, 3, 3, 3, 3, 3, 3, 3, 3, 3, 3, 3, 3, 3, 3, 3, 3, 3, 3, 3, 2] tables_1_6 = zw_code_6.map zw_code_w := rfl
def zw_code_7 : List Nat := [215, 213, 214, 218, 219, 220, 222, 221, 223, 224, 225, 227, 226]
set_option maxRecDepth 100000 in
set_option maxHeartbeats 4000000 in
theorem zw_code_p7 : zpk [4, 5, 3, 3, 4, 3, 3, 2, 3, 3, 3, 5, 2] tables_1_7 = zw_code_7.map zw_code_w := rfl
theorem zw_code_m1 {e : Nat} (he : e ∈ zw_code_1) : zw_code_w e ∈ lw_tbl := List.mem_append_right _ (List.mem_append_left _ (zpk_mem _ _ _ (by rw [zw_code_p1]; exact List.mem_map_of_mem he)))
theorem zw_code_m2 {e : Nat} (he : e ∈ zw_code_2) : zw_code_w e ∈ lw_tbl := List.mem_append_right _ (List.mem_append_right _ (List.mem_append_left _ (zpk_mem _ _ _ (by rw [zw_code_p2]; exact List.mem_map_of_mem he))))
theorem zw_code_m3 {e : Nat} (he : e ∈ zw_code_3) : zw_code_w e ∈ lw_tbl := List.mem_append_right _ (List.mem_append_right _ (List.mem_append_right _ (List.mem_append_left _ (zpk_mem _ _ _ (by rw [zw_code_p3]; exact List.mem_map_of_mem he)))))
theorem zw_code_m4 {e : Nat} (he : e ∈ zw_code_4) : zw_code_w e ∈ lw_tbl := List.mem_append_right _ (List.mem_append_right _ (List.mem_append_right _ (List.mem_append_right _ (List.mem_append_left _ (zpk_mem _ _ _ (by rw [zw_code_p4]; exact List.mem_map_of_mem he))))))
theorem zw_code_m5 {e : Nat} (he : e ∈ zw_code_5) : zw_code_w e ∈ lw_tbl := List.mem_append_right _ (List.mem_append_right _ (List.mem_append_right _ (List.mem_append_right _ (List.mem_append_right _ (List.mem_append_left _ (zpk_mem _ _ _ (by rw [zw_code_p5]; exact List.mem_map_of_mem he)))))))
theorem zw_code_m6 {e : Nat} (he : e ∈ zw_code_6) : zw_code_w e ∈ lw_tbl := List.mem_append_right _ (List.mem_append_right _ (List.mem_append_right _ (List.mem_append_right _ (List.mem_append_right _ (List.mem_append_right _ (List.mem_append_left _ (zpk_mem _ _ _ (by rw [zw_code_p6]; exact List.mem_map_of_mem he))))))))
theorem zw_code_m7 {e : Nat} (he : e ∈ zw_code_7) : zw_code_w e ∈ lw_tbl := List.mem_append_right _ (List.mem_append_right _ (List.mem_append_right _ (List.mem_append_right _ (List.mem_append_right _ (List.mem_append_right _ (List.mem_append_right _ (zpk_mem _ _ _ (by rw [zw_code_p7]; exact List.mem_map_of_mem he))))))))
theorem zw_code_in : ∀ y, y < 240 → (y ∈ zw_code_1 ∨ y ∈ zw_code_2 ∨ y ∈ zw_code_3 ∨ y ∈ zw_code_4 ∨ y ∈ zw_code_5 ∨ y ∈ zw_code_6 ∨ y ∈ zw_code_7) := by decide +kernel
theorem zw_code_lw {y : Nat} (hy : y < 240) : zw_code_w y ∈ lw_tbl := by
  rcases zw_code_in y hy with h | h | h | h | h | h | h
  · exact zw_code_m1 h
  · exact zw_code_m2 h
  · exact zw_code_m3 h
  · exact zw_code_m4 h
  · exact zw_code_m5 h
  · exact zw_code_m6 h
  · exact zw_code_m7 h
theorem zw_code_ok {y : Nat} (hy : y < 240) : zw_code_w y ∈ zgw := zgw_mem (zw_code_lw hy) rfl
def zw_inst : List Nat := [82, 0, 9, 66, 16, 232, 234, 233, 235, 17, 18, 10, 28, 27, 29, 31, 32, 30, 19, 20, 21, 22, 26, 11, 23, 24, 25, 12, 33, 53, 72, 83, 4, 84, 85, 6, 86, 87, 88, 89, 122, 34, 7, 37, 39, 13, 35, 36, 2, 38, 90, 3, 91, 5, 92, 93, 94, 8, 42, 47, 48, 95, 96, 73, 97, 98, 75, 74, 76, 77, 46, 78, 45, 79, 99, 41, 100, 44, 101, 124, 40, 54, 50, 55, 58, 57, 43, 59, 56, 123, 61, 60, 102, 103, 62, 104, 63, 64, 65, 105, 52, 51, 106, 107, 108, 109, 110, 111, 112, 125, 113, 80, 49, 81, 114, 115, 1, 116, 117, 67, 118, 68, 71, 119, 69, 120, 70, 121, 131, 136, 137, 139, 138, 142, 141, 159, 146, 145, 158, 149, 147, 152, 153, 154, 151, 150, 155, 156, 157, 148, 160, 167, 135, 164, 163, 162, 165, 166, 168, 169, 170, 171, 178, 176, 172, 173, 177, 174, 175, 179, 182, 183, 187, 184, 186, 185, 189, 188, 181, 180, 190, 198, 197, 195, 193, 191, 194, 192, 196, 199, 200, 202, 201, 205, 204, 203, 206, 207, 208, 209, 210, 211, 212, 217, 215, 213, 214, 218, 219, 220, 222, 223, 224, 225, 227]
def zw_inst_w : Nat → Cond := fun y => .instanceMethod (zm y).1
set_option maxRecDepth 100000 in
theorem zw_inst_pk : zpk [101, 7, 66, 17, 17, 30, 3, 5, 3, 33, 3, 3, 4, 3, 3, 3, 5, 4, 3, 3, 3, 3, 3, 2, 4, 3, 3, 2, 5, 73, 33, 73, 6, 4, 3, 3, 9, 6, 3, 3, 4, 2, 3, 8, 5, 2, 16, 2, 3, 5, 4, 3, 3, 3, 4, 3, 3, 3, 5, 3, 3, 4, 4, 3, 3, 3, 3, 4, 5, 3, 3, 5, 2, 5, 3, 3, 3, 3, 3, 4, 2, 3, 6, 4, 4, 5, 2, 6, 3, 4, 2, 4, 3, 4, 3, 3, 3, 4, 3, 4, 3, 3, 6, 3, 4, 3, 3, 3, 3, 5, 2, 4, 5, 5, 2, 7, 3, 4, 3, 6, 4, 3, 3, 4, 3, 4, 3, 4, 6, 172, 9, 3, 4, 2, 7, 2, 4, 6, 6, 3, 3, 3, 3, 3, 3, 3, 3, 3, 3, 3, 2, 3, 4, 3, 3, 3, 6, 6, 2, 3, 3, 3, 3, 4, 3, 3, 3, 3, 3, 2, 3, 3, 3, 4, 3, 3, 2, 4, 3, 3, 2, 3, 4, 3, 3, 3, 3, 3, 3, 2, 3, 3, 4, 2, 4, 3, 2, 3, 3, 3, 3, 3, 3, 3, 8, 5, 3, 2, 4, 3, 3, 6, 3, 3, 5] lw_tbl = zw_inst.map zw_inst_w := by decide +kernel
theorem zw_inst_gd : (zw_inst.map zw_inst_w).all goodWord = true := by decide +kernel
theorem zw_inst_ok {e : Nat} (h : e ∈ zw_inst) : zw_inst_w e ∈ zgw := zpk_all zw_inst_pk zw_inst_gd h
def zw_stat : List Nat := [229, 237, 236, 239, 126, 228, 127, 129, 14, 15, 231, 230, 238, 130, 128, 134, 132, 140, 143, 144, 161, 133, 216, 221, 226]
def zw_stat_w : Nat → Cond := fun y => .static (zm y).1
set_option maxRecDepth 100000 in
theorem zw_stat_pk : zpk [113, 147, 2, 4, 288, 19, 9, 26, 17, 2, 2, 2, 160, 154, 19, 222, 2, 18, 14, 6, 74, 6, 190, 34, 20] lw_tbl = zw_stat.map zw_stat_w := by decide +kernel
theorem zw_stat_gd : (zw_stat.map zw_stat_w).all goodWord = true := by decide +kernel
theorem zw_stat_ok {e : Nat} (h : e ∈ zw_stat) : zw_stat_w e ∈ zgw := zpk_all zw_stat_pk zw_stat_gd h
def zw_sel : List Nat := [28, 27, 29, 31, 32, 30, 19, 20, 21, 22, 26, 23, 24, 25, 122, 39, 35, 74, 76, 77, 78, 79, 124, 55, 58, 57, 59, 56, 123, 64, 65, 125, 81, 138, 141, 146, 145, 158, 149, 147, 152, 153, 154, 151, 150, 155, 156, 157, 148, 135, 164, 163, 162, 165, 166, 176, 172, 173, 177, 174, 175, 184, 186, 185, 188, 181, 180, 197, 195, 193, 191, 194, 192, 196, 201, 204, 203, 215, 213, 214, 232, 234, 233, 235, 17, 18, 10, 11, 12, 83, 4, 84, 85, 6, 86, 87, 88, 89, 34, 7, 37, 13, 36, 2, 38, 90, 3, 91, 5, 92, 93, 94, 8, 42, 47, 48, 95, 96, 73, 97, 98, 75, 46, 45, 99, 41, 100, 44, 101, 40, 54, 50, 43, 61, 60, 102, 103, 62, 104, 63, 105, 52, 51, 106, 107, 108, 109, 110, 111, 112, 113, 80, 49, 114, 115, 1, 116, 117, 67, 118, 68, 71, 119, 69, 120, 70, 121, 136, 137, 139, 142, 159, 160, 167, 168, 169, 170, 171, 178, 179, 182, 183, 187, 189, 190, 198, 199, 200, 202, 205, 206, 207, 208, 209, 210, 211, 212, 217, 218, 219, 220, 222, 223, 224, 225, 227]
def zw_sel_w : Nat → Cond := fun y => .selects (zc_n (zm y).2.2.2.2.1) (zm y).1 (zm y).1
set_option maxRecDepth 100000 in
theorem zw_sel_pk : zpk [0, 0, 0, 0, 0, 0, 0, 0, 0, 0, 0, 0, 0, 0, 0, 0, 0, 0, 0, 0, 0, 0, 0, 0, 0, 0, 0, 0, 0, 0, 0, 0, 0, 0, 0, 0, 0, 0, 0, 0, 0, 0, 0, 0, 0, 0, 0, 0, 0, 0, 0, 0, 0, 0, 0, 0, 0, 0, 0, 0, 0, 0, 0, 0, 0, 0, 0, 0, 0, 0, 0, 0, 0, 0, 0, 0, 0, 0, 0, 0, 164, 3, 5, 3, 33, 3, 3, 50, 15, 187, 6, 4, 3, 3, 9, 6, 3, 3, 7, 3, 8, 8, 19, 3, 5, 4, 3, 3, 3, 4, 3, 3, 3, 5, 3, 3, 4, 4, 3, 3, 3, 3, 18, 8, 9, 3, 3, 3, 3, 7, 3, 6, 18, 18, 4, 3, 4, 3, 3, 3, 13, 3, 3, 6, 3, 4, 3, 3, 3, 3, 8, 4, 5, 8, 7, 3, 4, 3, 6, 4, 3, 3, 4, 3, 4, 3, 4, 179, 9, 3, 7, 10, 65, 3, 33, 3, 3, 3, 3, 27, 3, 3, 3, 15, 15, 3, 31, 3, 3, 7, 11, 3, 3, 3, 3, 3, 3, 3, 21, 4, 3, 3, 6, 3, 3, 5] lw_tbl = zw_sel.map zw_sel_w := by decide +kernel
theorem zw_sel_gd : (zw_sel.map zw_sel_w).all goodWord = true := by decide +kernel
theorem zw_sel_ok {e : Nat} (h : e ∈ zw_sel) : zw_sel_w e ∈ zgw := zpk_all zw_sel_pk zw_sel_gd h
def zw_ini : List Nat := [15, 7, 0, 13, 1, 5, 2, 9, 10, 11, 3, 4, 6, 8, 12, 14]
def zw_ini_w : Nat → Cond := fun i => .initialized (zc_n i)
set_option maxRecDepth 100000 in
theorem zw_ini_pk : zpk [80, 0, 0, 0, 0, 0, 0, 0, 0, 0, 1, 0, 0, 0, 0, 0] lw_tbl = zw_ini.map zw_ini_w := by decide +kernel
theorem zw_ini_gd : (zw_ini.map zw_ini_w).all goodWord = true := by decide +kernel
theorem zw_ini_ok {e : Nat} (h : e ∈ zw_ini) : zw_ini_w e ∈ zgw := zpk_all zw_ini_pk zw_ini_gd h
def zw_ml : List (Nat × Nat × Nat) := [(15, 9, 82), (7, 9, 0), (0, 36, 229), (7, 35, 16), (7, 44, 232), (9, 335, 234), (7, 50, 233), (9, 492, 235), (9, 495, 237), (10, 9, 236), (9, 1059, 239), (7, 54, 17), (7, 58, 18), (2, 23, 10), (2, 34, 28), (2, 79, 27), (2, 83, 29), (2, 87, 31), (2, 96, 232), (2, 102, 32), (2, 106, 233), (2, 91, 30), (2, 37, 19), (2, 47, 20), (2, 55, 21), (2, 61, 22), (2, 64, 26), (2, 58, 11), (2, 67, 23), (2, 70, 24), (2, 73, 25), (2, 51, 12), (7, 71, 33), (7, 80, 53), (7, 89, 72), (15, 13, 83), (7, 94, 126), (7, 102, 4), (15, 18, 84), (15, 23, 85), (7, 112, 6), (7, 116, 228), (15, 27, 86), (7, 127, 127), (15, 32, 87), (15, 37, 88), (15, 41, 89), (7, 130, 122), (7, 134, 34), (3, 38, 7), (3, 60, 37), (3, 74, 39), (3, 78, 13), (1, 25, 14), (1, 29, 15), (3, 91, 231), (3, 96, 230), (3, 67, 35), (3, 70, 36), (7, 137, 2), (7, 140, 36), (7, 144, 37), (7, 148, 38), (3, 99, 2), (15, 46, 90), (7, 151, 3), (15, 50, 91), (7, 155, 5), (0, 62, 2), (15, 54, 92), (15, 59, 93), (15, 63, 94), (7, 180, 8), (7, 183, 42), (7, 186, 47), (3, 132, 48), (3, 135, 228), (15, 67, 95), (7, 190, 48), (15, 71, 96), (7, 193, 73), (15, 75, 97), (15, 79, 98), (7, 196, 75), (6, 59, 74), (6, 35, 8), (6, 55, 42), (6, 62, 76), (6, 72, 77), (6, 89, 46), (6, 75, 47), (6, 79, 78), (6, 93, 45), (6, 66, 79), (6, 100, 38), (15, 83, 99), (7, 206, 41), (15, 87, 100), (7, 214, 44), (15, 91, 101), (7, 217, 124), (7, 230, 40), (7, 312, 54), (4, 25, 238), (4, 38, 50), (4, 44, 55), (4, 48, 58), (4, 52, 42), (4, 61, 57), (4, 78, 43), (4, 82, 47), (4, 86, 45), (4, 94, 59), (4, 58, 56), (4, 65, 46), (7, 221, 123), (7, 224, 61), (4, 98, 40), (4, 101, 60), (15, 95, 102), (7, 227, 60), (15, 99, 103), (7, 233, 62), (15, 103, 104), (7, 237, 63), (4, 111, 64), (4, 114, 65), (4, 122, 38), (4, 117, 230), (15, 107, 105), (7, 246, 52), (3, 153, 51), (15, 111, 106), (15, 115, 107), (7, 249, 51), (15, 119, 108), (15, 123, 109), (15, 127, 110), (15, 131, 111), (15, 135, 112), (7, 255, 45), (7, 258, 125), (15, 139, 113), (7, 262, 80), (6, 107, 49), (3, 143, 47), (6, 113, 81), (15, 143, 114), (7, 268, 130), (15, 148, 115), (7, 271, 1), (15, 152, 116), (15, 156, 117), (7, 278, 128), (7, 281, 67), (5, 22, 238), (15, 160, 118), (7, 286, 68), (7, 287, 71), (5, 28, 68), (15, 164, 119), (7, 290, 69), (15, 169, 120), (7, 302, 70), (7, 305, 90), (15, 173, 121), (7, 309, 129), (15, 12, 131), (15, 17, 136), (8, 125, 134), (8, 118, 132), (15, 22, 137), (15, 26, 139), (8, 132, 138), (15, 31, 142), (8, 145, 140), (8, 148, 141), (15, 36, 159), (8, 186, 146), (8, 161, 143), (8, 164, 145), (8, 171, 144), (8, 221, 158), (8, 192, 149), (8, 183, 147), (8, 218, 152), (8, 189, 153), (8, 199, 154), (8, 202, 151), (8, 195, 150), (8, 206, 155), (8, 212, 156), (8, 215, 157), (8, 209, 148), (15, 40, 160), (15, 45, 167), (8, 237, 135), (8, 240, 164), (8, 228, 163), (8, 231, 162), (8, 224, 161), (8, 243, 165), (8, 234, 133), (8, 247, 166), (15, 49, 168), (15, 53, 169), (15, 58, 170), (15, 62, 171), (15, 66, 178), (8, 266, 176), (8, 253, 172), (8, 257, 173), (8, 260, 177), (8, 263, 174), (8, 250, 175), (15, 70, 179), (15, 74, 182), (15, 78, 183), (15, 82, 187), (8, 275, 184), (8, 278, 186), (8, 281, 185), (15, 86, 189), (8, 290, 188), (8, 293, 181), (8, 269, 180), (15, 90, 190), (15, 94, 198), (8, 317, 197), (8, 311, 195), (8, 305, 193), (8, 296, 191), (8, 308, 194), (8, 302, 192), (8, 314, 196), (15, 98, 199), (15, 102, 200), (15, 106, 202), (8, 320, 201), (15, 110, 205), (8, 326, 204), (8, 323, 203), (15, 114, 206), (15, 118, 207), (15, 122, 208), (15, 126, 209), (15, 130, 210), (15, 134, 211), (15, 138, 212), (15, 142, 217), (8, 343, 216), (8, 346, 215), (8, 336, 213), (8, 339, 214), (15, 147, 218), (15, 151, 219), (15, 155, 220), (15, 159, 222), (8, 364, 221), (15, 163, 223), (15, 168, 224), (15, 172, 225), (8, 369, 168), (15, 176, 227), (8, 373, 226)]
def zw_ml_w : (Nat × Nat × Nat) → Cond := fun e => .methodLink (zc_n e.1) e.2.1 (zm e.2.2).1
set_option maxRecDepth 100000 in
theorem zw_ml_pk : zpk [100, 7, 3, 98, 30, 3, 5, 3, 3, 2, 4, 21, 3, 3, 3, 3, 3, 3, 4, 0, 3, 0, 3, 3, 3, 3, 3, 3, 3, 3, 3, 3, 5, 73, 33, 73, 3, 2, 4, 3, 3, 3, 5, 3, 2, 3, 3, 3, 3, 3, 8, 4, 3, 3, 2, 2, 2, 2, 3, 3, 3, 0, 0, 3, 0, 3, 3, 3, 3, 0, 3, 3, 3, 5, 3, 3, 3, 0, 3, 0, 3, 3, 3, 3, 3, 3, 0, 0, 3, 4, 3, 0, 3, 4, 3, 0, 3, 3, 3, 3, 3, 3, 3, 3, 2, 3, 4, 4, 0, 3, 3, 0, 0, 3, 3, 0, 3, 3, 0, 3, 3, 0, 3, 3, 3, 3, 3, 3, 0, 0, 3, 3, 6, 3, 3, 0, 3, 3, 3, 3, 3, 0, 3, 4, 5, 3, 0, 3, 4, 2, 3, 4, 3, 3, 2, 3, 0, 3, 3, 3, 0, 3, 4, 3, 3, 0, 3, 2, 172, 3, 2, 2, 3, 3, 3, 3, 2, 3, 3, 3, 2, 3, 2, 3, 3, 3, 3, 3, 3, 3, 3, 3, 3, 3, 3, 3, 3, 3, 3, 3, 3, 2, 3, 2, 3, 3, 3, 3, 3, 3, 3, 3, 3, 3, 3, 3, 3, 3, 3, 3, 3, 3, 3, 3, 3, 3, 3, 3, 3, 3, 3, 3, 3, 3, 3, 3, 3, 3, 3, 3, 3, 3, 3, 3, 3, 3, 3, 3, 3, 3, 3, 3, 5, 3, 3, 4, 3, 3, 3, 2, 3, 3, 4, 0, 3] lw_tbl = zw_ml.map zw_ml_w := by decide +kernel
theorem zw_ml_gd : (zw_ml.map zw_ml_w).all goodWord = true := by decide +kernel
theorem zw_ml_ok {e : (Nat × Nat × Nat)} (h : e ∈ zw_ml) : zw_ml_w e ∈ zgw := zpk_all zw_ml_pk zw_ml_gd h
def zw_oi : List (Nat × Nat) := [(7, 1), (0, 3), (1, 3), (5, 3), (2, 3), (3, 3), (4, 3), (6, 3), (8, 1)]
def zw_oi_w : (Nat × Nat) → Cond := fun e => .methodLink (zc_n e.1) e.2 objectInit
set_option maxRecDepth 100000 in
theorem zw_oi_pk : zpk [103, 7, 66, 17, 17, 159, 73, 33, 543] lw_tbl = zw_oi.map zw_oi_w := by decide +kernel
theorem zw_oi_gd : (zw_oi.map zw_oi_w).all goodWord = true := by decide +kernel
theorem zw_oi_ok {e : (Nat × Nat)} (h : e ∈ zw_oi) : zw_oi_w e ∈ zgw := zpk_all zw_oi_pk zw_oi_gd h
def zw_ac : List (Nat × Nat) := [(3, 147), (0, 52), (7, 296)]
def zw_ac_w : (Nat × Nat) → Cond := fun e => .methodLink (zc_n e.1) e.2 arraycopyName
set_option maxRecDepth 100000 in
theorem zw_ac_pk : zpk [895, 72, 37] lw_tbl = zw_ac.map zw_ac_w := by decide +kernel
theorem zw_ac_gd : (zw_ac.map zw_ac_w).all goodWord = true := by decide +kernel
theorem zw_ac_ok {e : (Nat × Nat)} (h : e ∈ zw_ac) : zw_ac_w e ∈ zgw := zpk_all zw_ac_pk zw_ac_gd h
def zw_nl : List (Nat × Nat × Nat) := [(7, 31, 9), (7, 32, 66), (0, 58, 126), (0, 65, 129), (3, 84, 126), (6, 83, 126)]
def zw_nl_w : (Nat × Nat × Nat) → Cond := fun e => .methodLinkNest (zc_n e.1) e.2.1 (zm e.2.2).1 "OneForOne"
set_option maxRecDepth 100000 in
theorem zw_nl_pk : zpk [175, 17, 370, 49, 8, 126] lw_tbl = zw_nl.map zw_nl_w := by decide +kernel
theorem zw_nl_lw {e : (Nat × Nat × Nat)} (h : e ∈ zw_nl) : zw_nl_w e ∈ lw_tbl := zpk_alw zw_nl_pk h
def zw_fd : List (Nat × Nat × Nat × Nat) := [(0, 42, 0, 0), (7, 106, 0, 0), (3, 159, 0, 0), (0, 46, 0, 1), (3, 64, 0, 1), (7, 109, 0, 1), (4, 73, 0, 1), (0, 49, 0, 2), (7, 124, 0, 2), (0, 9, 0, 3), (7, 162, 0, 3), (3, 156, 0, 3), (0, 15, 0, 4), (7, 158, 0, 4), (0, 18, 0, 5), (3, 102, 0, 5), (7, 165, 0, 5), (0, 21, 0, 6), (3, 108, 0, 6), (7, 168, 0, 6), (0, 24, 0, 7), (3, 105, 0, 7), (7, 171, 0, 7), (0, 27, 0, 8), (7, 174, 0, 8), (3, 129, 0, 8), (0, 30, 0, 9), (7, 177, 0, 9), (3, 126, 0, 9), (0, 33, 0, 10), (3, 88, 0, 10), (1, 9, 1, 0), (1, 15, 1, 1), (1, 18, 1, 2), (1, 21, 1, 3), (5, 9, 5, 0), (7, 283, 5, 0), (5, 19, 5, 1), (5, 15, 5, 2), (7, 293, 5, 2), (2, 9, 2, 0), (7, 62, 2, 1), (2, 19, 2, 1), (2, 15, 2, 2), (2, 41, 2, 3), (2, 28, 2, 4), (2, 44, 2, 5), (2, 76, 2, 6), (2, 31, 2, 7), (3, 30, 3, 0), (6, 29, 3, 0), (4, 69, 3, 0), (3, 34, 3, 1), (3, 9, 3, 2), (3, 15, 3, 3), (6, 87, 3, 3), (4, 91, 3, 3), (3, 18, 3, 4), (7, 252, 3, 4), (3, 21, 3, 5), (3, 44, 3, 6), (3, 48, 3, 7), (3, 51, 3, 8), (3, 54, 3, 9), (3, 57, 3, 10), (6, 69, 3, 11), (3, 114, 3, 11), (7, 205, 3, 11), (3, 117, 3, 12), (3, 120, 3, 13), (4, 55, 3, 14), (6, 97, 3, 14), (3, 111, 3, 14), (6, 110, 3, 15), (3, 140, 3, 15), (3, 24, 3, 16), (6, 116, 3, 16), (3, 27, 3, 17), (6, 119, 3, 17), (4, 21, 4, 0), (4, 11, 4, 1), (4, 15, 4, 2), (4, 18, 4, 3), (4, 31, 4, 4), (7, 236, 4, 4), (4, 35, 4, 5), (4, 105, 4, 6), (7, 240, 4, 6), (4, 108, 4, 7), (7, 243, 4, 7), (6, 21, 6, 0), (6, 9, 6, 1), (6, 15, 6, 2), (6, 18, 6, 3), (6, 25, 6, 4), (7, 121, 6, 4), (6, 41, 6, 5), (7, 212, 6, 5), (6, 43, 6, 6), (7, 202, 6, 6), (6, 46, 6, 7), (7, 199, 6, 7), (6, 49, 6, 8), (7, 209, 6, 8), (6, 52, 6, 9), (7, 10, 7, 0), (7, 16, 7, 1), (7, 275, 7, 2), (7, 21, 7, 3), (7, 66, 7, 4), (7, 38, 7, 5), (7, 74, 7, 6), (7, 83, 7, 7), (7, 90, 7, 8), (7, 98, 7, 9), (7, 27, 7, 10), (8, 7, 8, 1), (8, 129, 8, 2), (8, 122, 8, 3), (8, 13, 8, 4), (8, 16, 8, 5), (8, 19, 8, 6), (8, 22, 8, 7), (8, 25, 8, 8), (8, 28, 8, 9), (8, 31, 8, 10), (8, 34, 8, 11), (8, 142, 8, 12), (8, 38, 8, 13), (8, 139, 8, 14), (8, 42, 8, 15), (8, 45, 8, 16), (8, 48, 8, 17), (8, 177, 8, 18), (8, 174, 8, 19), (8, 180, 8, 20), (8, 152, 8, 21), (8, 155, 8, 22), (8, 158, 8, 23), (8, 168, 8, 24), (8, 51, 8, 25), (8, 54, 8, 26), (8, 57, 8, 27), (8, 60, 8, 28), (8, 136, 8, 29), (8, 63, 8, 30), (8, 66, 8, 31), (8, 69, 8, 32), (8, 72, 8, 33), (8, 272, 8, 34), (8, 284, 8, 35), (8, 287, 8, 36), (8, 299, 8, 37), (8, 75, 8, 38), (8, 78, 8, 39), (8, 81, 8, 40), (8, 85, 8, 41), (8, 88, 8, 42), (8, 91, 8, 43), (8, 329, 8, 44), (8, 351, 8, 45), (8, 355, 8, 46), (8, 358, 8, 47), (8, 361, 8, 48), (8, 94, 8, 49), (8, 97, 8, 50), (8, 100, 8, 51), (8, 103, 8, 52), (8, 106, 8, 53), (8, 109, 8, 54), (8, 112, 8, 55)]
def zw_fd_w : (Nat × Nat × Nat × Nat) → Cond := fun e => .fieldLink (zc_n e.1) e.2.1 (zc_n e.2.2.1) (zf e.2.2.1 e.2.2.2).1 (zf e.2.2.1 e.2.2.2).2.1
set_option maxRecDepth 100000 in
theorem zw_fd_pk : zpk [115, 0, 0, 0, 0, 0, 0, 0, 0, 0, 0, 0, 0, 0, 0, 0, 0, 0, 0, 0, 0, 0, 0, 0, 0, 0, 0, 0, 0, 0, 0, 33, 0, 0, 0, 14, 0, 0, 0, 0, 13, 0, 0, 0, 0, 0, 0, 0, 0, 151, 0, 0, 0, 0, 0, 0, 0, 0, 0, 0, 0, 0, 0, 0, 0, 0, 0, 0, 0, 0, 0, 0, 0, 0, 0, 0, 0, 0, 0, 44, 0, 0, 0, 0, 0, 0, 0, 0, 0, 0, 23, 0, 0, 0, 0, 0, 0, 0, 0, 0, 0, 0, 0, 0, 0, 21, 0, 0, 0, 0, 0, 0, 0, 0, 0, 0, 497, 0, 0, 0, 0, 0, 0, 0, 0, 0, 0, 0, 0, 0, 0, 0, 0, 0, 0, 0, 0, 0, 0, 0, 0, 0, 0, 0, 0, 0, 0, 0, 0, 0, 0, 0, 0, 0, 0, 0, 0, 0, 0, 0, 0, 0, 0, 0, 0, 0, 0, 0, 0, 0, 0] lw_tbl = zw_fd.map zw_fd_w := by decide +kernel
theorem zw_fd_gd : (zw_fd.map zw_fd_w).all goodWord = true := by decide +kernel
theorem zw_fd_ok {e : (Nat × Nat × Nat × Nat)} (h : e ∈ zw_fd) : zw_fd_w e ∈ zgw := zpk_all zw_fd_pk zw_fd_gd h
def zw_sf : List (Nat × Nat × String × String × String) := [(9, 38, "java/lang/String", "COMPACT_STRINGS", "Z"), (9, 1053, "jdk/internal/util/Preconditions", "SIOOBE_FORMATTER", "Ljava/util/function/BiFunction;"), (7, 315, "OneForOne", "KIND_ABOVE", "[I"), (0, 69, "OneForOne$Lake", "STEP", "[I"), (3, 123, "OneForOne$Lake", "STEP", "[I"), (9, 9, "java/lang/String", "value", "[B"), (9, 15, "java/lang/String", "coder", "B")]
def zw_sf_w : (Nat × Nat × String × String × String) → Cond := fun e => .fieldLink (zc_n e.1) e.2.1 e.2.2.1 e.2.2.2.1 e.2.2.2.2
set_option maxRecDepth 100000 in
theorem zw_sf_pk : zpk [250, 15, 350, 78, 67, 811, 0] lw_tbl = zw_sf.map zw_sf_w := by decide +kernel
theorem zw_sf_gd : (zw_sf.map zw_sf_w).all goodWord = true := by decide +kernel
theorem zw_sf_ok {e : (Nat × Nat × String × String × String)} (h : e ∈ zw_sf) : zw_sf_w e ∈ zgw := zpk_all zw_sf_pk zw_sf_gd h
def zw_cl : List (Nat × Nat × Nat) := [(15, 7, 7), (7, 7, 0), (7, 19, 1), (7, 25, 5), (7, 33, 2), (7, 69, 3), (7, 78, 4), (7, 87, 6), (15, 10, 8)]
def zw_cl_w : (Nat × Nat × Nat) → Cond := fun e => .classLink (zc_n e.1) e.2.1 (zc_n e.2.2)
set_option maxRecDepth 100000 in
theorem zw_cl_pk : zpk [98, 7, 63, 1, 36, 159, 73, 33, 543] lw_tbl = zw_cl.map zw_cl_w := by decide +kernel
theorem zw_cl_gd : (zw_cl.map zw_cl_w).all goodWord = true := by decide +kernel
theorem zw_cl_ok {e : (Nat × Nat × Nat)} (h : e ∈ zw_cl) : zw_cl_w e ∈ zgw := zpk_all zw_cl_pk zw_cl_gd h
def zw_in : List Nat := [7, 0, 1, 5, 2, 3, 4, 6, 8]
def zw_in_w : Nat → Cond := fun i => .instantiable (zc_n i) (zf_n i)
set_option maxRecDepth 100000 in
theorem zw_in_pk : zpk [99, 7, 66, 17, 17, 159, 73, 33, 543] lw_tbl = zw_in.map zw_in_w := by decide +kernel
theorem zw_in_gd : (zw_in.map zw_in_w).all goodWord = true := by decide +kernel
theorem zw_in_ok {e : Nat} (h : e ∈ zw_in) : zw_in_w e ∈ zgw := zpk_all zw_in_pk zw_in_gd h
def zw_ck : List (Nat × Nat × Int) := [(12, 265, 1431655765), (12, 266, 858993459), (12, 267, 252645135), (4, 64, 62500), (4, 90, 65535), (7, 261, 99999), (8, 342, 99999)]
def zw_ck_w : (Nat × Nat × Int) → Cond := fun e => .constant (zc_n e.1) e.2.1 (Int32.ofInt e.2.2)
set_option maxRecDepth 100000 in
theorem zw_ck_pk : zpk [580, 0, 0, 230, 4, 117, 583] lw_tbl = zw_ck.map zw_ck_w := by decide +kernel
theorem zw_ck_gd : (zw_ck.map zw_ck_w).all goodWord = true := by decide +kernel
theorem zw_ck_ok {e : (Nat × Nat × Int)} (h : e ∈ zw_ck) : zw_ck_w e ∈ zgw := zpk_all zw_ck_pk zw_ck_gd h
def zw_cq : List (Nat × Nat × Int) := [(6, 103, 48271), (6, 105, 2147483647), (7, 266, -4611686018427387904), (8, 332, 48271), (8, 334, 2147483647), (8, 349, -4611686018427387904), (8, 367, 3)]
def zw_cq_w : (Nat × Nat × Int) → Cond := fun e => .constantLong (zc_n e.1) e.2.1 (Int64.ofInt e.2.2)
set_option maxRecDepth 100000 in
theorem zw_cq_pk : zpk [941, 0, 13, 568, 0, 12, 27] lw_tbl = zw_cq.map zw_cq_w := by decide +kernel
theorem zw_cq_gd : (zw_cq.map zw_cq_w).all goodWord = true := by decide +kernel
theorem zw_cq_ok {e : (Nat × Nat × Int)} (h : e ∈ zw_cq) : zw_cq_w e ∈ zgw := zpk_all zw_cq_pk zw_cq_gd h
def zw_la : List (Nat × Nat) := [(0, 0), (0, 1), (0, 2), (0, 3), (0, 4), (0, 5), (0, 6), (0, 7), (0, 8), (0, 9), (0, 10), (1, 0), (1, 1), (1, 2), (1, 3), (5, 0), (5, 1), (5, 2), (2, 0), (2, 1), (2, 2), (2, 3), (2, 4), (2, 5), (2, 6), (2, 7), (3, 0), (3, 1), (3, 2), (3, 3), (3, 4), (3, 5), (3, 6), (3, 7), (3, 8), (3, 9), (3, 10), (3, 11), (3, 12), (3, 13), (3, 14), (3, 15), (3, 16), (3, 17), (4, 0), (4, 1), (4, 2), (4, 3), (4, 4), (4, 5), (4, 6), (4, 7), (6, 0), (6, 1), (6, 2), (6, 3), (6, 4), (6, 5), (6, 6), (6, 7), (6, 8), (6, 9), (7, 0), (7, 1), (7, 2), (7, 3), (7, 4), (7, 5), (7, 6), (7, 7), (7, 8), (7, 9), (7, 10), (8, 0), (8, 1), (8, 2), (8, 3), (8, 4), (8, 5), (8, 6), (8, 7), (8, 8), (8, 9), (8, 10), (8, 11), (8, 12), (8, 13), (8, 14), (8, 15), (8, 16), (8, 17), (8, 18), (8, 19), (8, 20), (8, 21), (8, 22), (8, 23), (8, 24), (8, 25), (8, 26), (8, 27), (8, 28), (8, 29), (8, 30), (8, 31), (8, 32), (8, 33), (8, 34), (8, 35), (8, 36), (8, 37), (8, 38), (8, 39), (8, 40), (8, 41), (8, 42), (8, 43), (8, 44), (8, 45), (8, 46), (8, 47), (8, 48), (8, 49), (8, 50), (8, 51), (8, 52), (8, 53), (8, 54), (8, 55)]
def zw_la_w : (Nat × Nat) → Cond := fun e => u_lay (zc_n e.1) (zf_T e.1) e.2
set_option maxRecDepth 100000 in
theorem zw_la_pk : zpk [146, 1, 1, 1, 1, 1, 1, 1, 1, 1, 1, 16, 1, 1, 1, 12, 1, 1, 17, 1, 1, 1, 1, 1, 1, 1, 166, 1, 1, 1, 1, 1, 1, 1, 1, 1, 1, 1, 1, 1, 1, 1, 1, 1, 20, 1, 1, 1, 1, 1, 1, 1, 23, 1, 1, 1, 1, 1, 1, 1, 1, 1, 13, 1, 1, 1, 1, 1, 1, 1, 1, 1, 1, 531, 1, 1, 1, 1, 1, 1, 1, 1, 1, 1, 1, 1, 1, 1, 1, 1, 1, 1, 1, 1, 1, 1, 1, 1, 1, 1, 1, 1, 1, 1, 1, 1, 1, 1, 1, 1, 1, 1, 1, 1, 1, 1, 1, 1, 1, 1, 1, 1, 1, 1, 1, 1, 1, 1, 1] lw_tbl = zw_la.map zw_la_w := by decide +kernel
theorem zw_la_gd : (zw_la.map zw_la_w).all goodWord = true := by decide +kernel
theorem zw_la_ok {e : (Nat × Nat)} (h : e ∈ zw_la) : zw_la_w e ∈ zgw := zpk_all zw_la_pk zw_la_gd h
def zw_mi : List Cond := [.initialized "java/lang/System", .instanceMethod objectInit, .code objectInit ⟨#[0xb1]⟩ 1 none, .arrayClass .int, .arrayClass .byte, .static arraycopyName, .native arraycopyName, .arrayClass .boolean]
def zw_mi_w : Cond → Cond := fun w => w
set_option maxRecDepth 100000 in
theorem zw_mi_pk : zpk [97, 6, 0, 63, 272, 453, 0, 297] lw_tbl = zw_mi.map zw_mi_w := by decide +kernel
theorem zw_mi_gd : (zw_mi.map zw_mi_w).all goodWord = true := by decide +kernel
theorem zw_mi_ok {e : Cond} (h : e ∈ zw_mi) : zw_mi_w e ∈ zgw := zpk_all zw_mi_pk zw_mi_gd h
def zw_ao : List String := ["OneForOne$Law", "OneForOne$Sheet"]
def zw_ao_w : String → Cond := fun c => .arrayOver (.object c)
set_option maxRecDepth 100000 in
theorem zw_ao_pk : zpk [171, 1] lw_tbl = zw_ao.map zw_ao_w := by decide +kernel
theorem zw_ao_lw {e : String} (h : e ∈ zw_ao) : zw_ao_w e ∈ lw_tbl := zpk_alw zw_ao_pk h
end
section
theorem zi_okl_0 : zi_okL code ((zi_240.drop 0).take 30) = true := by decide +kernel
theorem zi_okl_1 : zi_okL code ((zi_240.drop 30).take 30) = true := by decide +kernel
theorem zi_okl_2 : zi_okL code ((zi_240.drop 60).take 30) = true := by decide +kernel
theorem zi_okl_3 : zi_okL code ((zi_240.drop 90).take 30) = true := by decide +kernel
theorem zi_okl_4 : zi_okL code ((zi_240.drop 120).take 30) = true := by decide +kernel
theorem zi_okl_5 : zi_okL code ((zi_240.drop 150).take 30) = true := by decide +kernel
theorem zi_okl_6 : zi_okL code ((zi_240.drop 180).take 30) = true := by decide +kernel
theorem zi_okl_7 : zi_okL code ((zi_240.drop 210).take 30) = true := by decide +kernel
theorem zi_okl_8 : zi_okL code ((zi_240.drop 240).take 30) = true := by decide +kernel
theorem zi_okl_9 : zi_okL code ((zi_240.drop 270).take 30) = true := by decide +kernel
theorem zi_okl_10 : zi_okL code ((zi_240.drop 300).take 30) = true := by decide +kernel
theorem zi_okl_11 : zi_okL code ((zi_240.drop 330).take 30) = true := by decide +kernel
theorem zi_okl_12 : zi_okL code ((zi_240.drop 360).take 30) = true := by decide +kernel
theorem zi_okl_13 : zi_okL code ((zi_240.drop 390).take 30) = true := by decide +kernel
theorem zi_okl_14 : zi_okL code ((zi_240.drop 420).take 30) = true := by decide +kernel
theorem zi_okl_15 : zi_okL code ((zi_240.drop 450).take 30) = true := by decide +kernel
theorem zi_okl_16 : zi_okL code ((zi_240.drop 480).take 30) = true := by decide +kernel
theorem zi_okl_17 : zi_okL code ((zi_240.drop 510).take 30) = true := by decide +kernel
theorem zi_okl_18 : zi_okL code ((zi_240.drop 540).take 30) = true := by decide +kernel
theorem zi_okl_19 : zi_okL code ((zi_240.drop 570).take 30) = true := by decide +kernel
theorem zi_okl_20 : zi_okL code ((zi_240.drop 600).take 30) = true := by decide +kernel
theorem zi_okl_21 : zi_okL code ((zi_240.drop 630).take 30) = true := by decide +kernel
theorem zi_okl_22 : zi_okL code ((zi_240.drop 660).take 30) = true := by decide +kernel
theorem zi_okl_23 : zi_okL code ((zi_240.drop 690).take 30) = true := by decide +kernel
theorem zi_okl_24 : zi_okL code ((zi_240.drop 720).take 30) = true := by decide +kernel
theorem zi_okl_25 : zi_okL code ((zi_240.drop 750).take 30) = true := by decide +kernel
theorem zi_okl_26 : zi_okL code ((zi_240.drop 780).take 30) = true := by decide +kernel
theorem zi_okl_27 : zi_okL code ((zi_240.drop 810).take 30) = true := by decide +kernel
theorem zi_okl_28 : zi_okL code ((zi_240.drop 840).take 30) = true := by decide +kernel
theorem zi_okl_29 : zi_okL code ((zi_240.drop 870).take 30) = true := by decide +kernel
theorem zi_okl_30 : zi_okL code ((zi_240.drop 900).take 30) = true := by decide +kernel
theorem zi_okl_31 : zi_okL code ((zi_240.drop 930).take 30) = true := by decide +kernel
theorem zi_okl_32 : zi_okL code ((zi_240.drop 960).take 30) = true := by decide +kernel
theorem zi_okl_33 : zi_okL code ((zi_240.drop 990).take 30) = true := by decide +kernel
theorem zi_okL_app {b : ByteArray} {l : List (Nat × Instr × Nat)} {k : Nat} (h1 : zi_okL b (l.take k) = true) (h2 : zi_okL b (l.drop k) = true) : zi_okL b l = true := by
  rw [← List.take_append_drop k l]
  simp only [zi_okL, List.all_append, Bool.and_eq_true] at *
  exact ⟨h1, h2⟩
theorem zi_okr_34 : zi_okL code (zi_240.drop 1020) = true := by decide +kernel
theorem zi_okr_33 : zi_okL code (zi_240.drop 990) = true := zi_okL_app (k := 30) zi_okl_33 (by rw [List.drop_drop]; exact zi_okr_34)
theorem zi_okr_32 : zi_okL code (zi_240.drop 960) = true := zi_okL_app (k := 30) zi_okl_32 (by rw [List.drop_drop]; exact zi_okr_33)
theorem zi_okr_31 : zi_okL code (zi_240.drop 930) = true := zi_okL_app (k := 30) zi_okl_31 (by rw [List.drop_drop]; exact zi_okr_32)
theorem zi_okr_30 : zi_okL code (zi_240.drop 900) = true := zi_okL_app (k := 30) zi_okl_30 (by rw [List.drop_drop]; exact zi_okr_31)
theorem zi_okr_29 : zi_okL code (zi_240.drop 870) = true := zi_okL_app (k := 30) zi_okl_29 (by rw [List.drop_drop]; exact zi_okr_30)
theorem zi_okr_28 : zi_okL code (zi_240.drop 840) = true := zi_okL_app (k := 30) zi_okl_28 (by rw [List.drop_drop]; exact zi_okr_29)
theorem zi_okr_27 : zi_okL code (zi_240.drop 810) = true := zi_okL_app (k := 30) zi_okl_27 (by rw [List.drop_drop]; exact zi_okr_28)
theorem zi_okr_26 : zi_okL code (zi_240.drop 780) = true := zi_okL_app (k := 30) zi_okl_26 (by rw [List.drop_drop]; exact zi_okr_27)
theorem zi_okr_25 : zi_okL code (zi_240.drop 750) = true := zi_okL_app (k := 30) zi_okl_25 (by rw [List.drop_drop]; exact zi_okr_26)
theorem zi_okr_24 : zi_okL code (zi_240.drop 720) = true := zi_okL_app (k := 30) zi_okl_24 (by rw [List.drop_drop]; exact zi_okr_25)
theorem zi_okr_23 : zi_okL code (zi_240.drop 690) = true := zi_okL_app (k := 30) zi_okl_23 (by rw [List.drop_drop]; exact zi_okr_24)
theorem zi_okr_22 : zi_okL code (zi_240.drop 660) = true := zi_okL_app (k := 30) zi_okl_22 (by rw [List.drop_drop]; exact zi_okr_23)
theorem zi_okr_21 : zi_okL code (zi_240.drop 630) = true := zi_okL_app (k := 30) zi_okl_21 (by rw [List.drop_drop]; exact zi_okr_22)
theorem zi_okr_20 : zi_okL code (zi_240.drop 600) = true := zi_okL_app (k := 30) zi_okl_20 (by rw [List.drop_drop]; exact zi_okr_21)
theorem zi_okr_19 : zi_okL code (zi_240.drop 570) = true := zi_okL_app (k := 30) zi_okl_19 (by rw [List.drop_drop]; exact zi_okr_20)
theorem zi_okr_18 : zi_okL code (zi_240.drop 540) = true := zi_okL_app (k := 30) zi_okl_18 (by rw [List.drop_drop]; exact zi_okr_19)
theorem zi_okr_17 : zi_okL code (zi_240.drop 510) = true := zi_okL_app (k := 30) zi_okl_17 (by rw [List.drop_drop]; exact zi_okr_18)
theorem zi_okr_16 : zi_okL code (zi_240.drop 480) = true := zi_okL_app (k := 30) zi_okl_16 (by rw [List.drop_drop]; exact zi_okr_17)
theorem zi_okr_15 : zi_okL code (zi_240.drop 450) = true := zi_okL_app (k := 30) zi_okl_15 (by rw [List.drop_drop]; exact zi_okr_16)
theorem zi_okr_14 : zi_okL code (zi_240.drop 420) = true := zi_okL_app (k := 30) zi_okl_14 (by rw [List.drop_drop]; exact zi_okr_15)
theorem zi_okr_13 : zi_okL code (zi_240.drop 390) = true := zi_okL_app (k := 30) zi_okl_13 (by rw [List.drop_drop]; exact zi_okr_14)
theorem zi_okr_12 : zi_okL code (zi_240.drop 360) = true := zi_okL_app (k := 30) zi_okl_12 (by rw [List.drop_drop]; exact zi_okr_13)
theorem zi_okr_11 : zi_okL code (zi_240.drop 330) = true := zi_okL_app (k := 30) zi_okl_11 (by rw [List.drop_drop]; exact zi_okr_12)
theorem zi_okr_10 : zi_okL code (zi_240.drop 300) = true := zi_okL_app (k := 30) zi_okl_10 (by rw [List.drop_drop]; exact zi_okr_11)
theorem zi_okr_9 : zi_okL code (zi_240.drop 270) = true := zi_okL_app (k := 30) zi_okl_9 (by rw [List.drop_drop]; exact zi_okr_10)
theorem zi_okr_8 : zi_okL code (zi_240.drop 240) = true := zi_okL_app (k := 30) zi_okl_8 (by rw [List.drop_drop]; exact zi_okr_9)
theorem zi_okr_7 : zi_okL code (zi_240.drop 210) = true := zi_okL_app (k := 30) zi_okl_7 (by rw [List.drop_drop]; exact zi_okr_8)
theorem zi_okr_6 : zi_okL code (zi_240.drop 180) = true := zi_okL_app (k := 30) zi_okl_6 (by rw [List.drop_drop]; exact zi_okr_7)
theorem zi_okr_5 : zi_okL code (zi_240.drop 150) = true := zi_okL_app (k := 30) zi_okl_5 (by rw [List.drop_drop]; exact zi_okr_6)
theorem zi_okr_4 : zi_okL code (zi_240.drop 120) = true := zi_okL_app (k := 30) zi_okl_4 (by rw [List.drop_drop]; exact zi_okr_5)
theorem zi_okr_3 : zi_okL code (zi_240.drop 90) = true := zi_okL_app (k := 30) zi_okl_3 (by rw [List.drop_drop]; exact zi_okr_4)
theorem zi_okr_2 : zi_okL code (zi_240.drop 60) = true := zi_okL_app (k := 30) zi_okl_2 (by rw [List.drop_drop]; exact zi_okr_3)
theorem zi_okr_1 : zi_okL code (zi_240.drop 30) = true := zi_okL_app (k := 30) zi_okl_1 (by rw [List.drop_drop]; exact zi_okr_2)
theorem zi_okr_0 : zi_okL code (zi_240.drop 0) = true := zi_okL_app (k := 30) zi_okl_0 (by rw [List.drop_drop]; exact zi_okr_1)
theorem zi_ok_240 : zi_okL code zi_240 = true := zi_okr_0
end
section
/-! THE WALKER: what a method does, by a function over whole numbers. A value is a number, a long, or a reference: 0 null, k + 1 the k-th cell that the law has made, 100000 + j a given one (0 KIND_ABOVE, 1 STEP, 2 and 3 the two texts, 4 and 5 their bytes, 6 the script, 7 a formatter that nobody asks). All that cells hold is one plane of whole numbers. -/
abbrev AV : Type := Int ⊕ (Int ⊕ Nat)
abbrev Pl : Type := Nat → Int → Int
abbrev LVs : Type := List (Option AV)
/-- place, names, pile, how many cells there are, the plane -/
abbrev Fm : Type := Nat × LVs × List AV × Nat × Pl
def zw (x : Int) : Int := Int.bmod x 4294967296
def zl (x : Int) : Int := Int.bmod x 18446744073709551616
def zup (s : Pl) (k : Nat) (i v : Int) : Pl := fun a => if a = k then (fun b => if b = i then v else s k b) else s a
def znew (s : Pl) (k : Nat) : Pl := fun a => if a = k then (fun _ => 0) else s a
def zcopy (s : Pl) (k1 : Nat) (i : Int) (k2 : Nat) (j n : Int) : Pl := fun a => if a = k2 then (fun b => if j ≤ b ∧ b < j + n then s k1 (i + (b - j)) else s k2 b) else s a
/-- the cells, in the order in which the law makes them: kind (0 .. 8 a class, 20 ints, 21 bytes, 22 booleans, 23 Laws, 24 Sheets) and size -/
def zsh_L : List (Nat × Nat) :=
  [(7, 11), (0, 11), (20, 6), (20, 6), (20, 6), (20, 6), (20, 6), (20, 6), (20, 6), (20, 16),
   (0, 11), (20, 6), (20, 6), (20, 6), (20, 6), (20, 6), (20, 6), (20, 6), (20, 16), (23, 6), (24, 4),
   (1, 4), (20, 160), (20, 3), (20, 40), (1, 4), (20, 160), (20, 3), (20, 40), (1, 4), (20, 160), (20, 3), (20, 40),
   (1, 4), (20, 160), (20, 3), (20, 40), (1, 4), (20, 160), (20, 3), (20, 40), (1, 4), (20, 160), (20, 3), (20, 40),
   (5, 3), (20, 40), (5, 3), (20, 40), (5, 3), (20, 40), (5, 3), (20, 40),
   (2, 8), (20, 160), (3, 18), (20, 6), (20, 16), (20, 16), (20, 36), (20, 36), (20, 36), (4, 8), (20, 1954), (20, 1440), (20, 402),
   (6, 10), (20, 16), (20, 16), (20, 16),
   (8, 56), (20, 16), (20, 7), (20, 7), (20, 7), (20, 7), (20, 7), (20, 7), (20, 7), (21, 160), (20, 1190), (20, 1190), (20, 21), (20, 170), (20, 6), (20, 47), (20, 12),
   (20, 16), (20, 16), (20, 16), (20, 7), (20, 1500), (20, 1500), (22, 1500), (20, 4096), (20, 7), (20, 4), (20, 6), (20, 6), (20, 16), (20, 4), (20, 4), (20, 160), (20, 40)]
def zsh (k : Nat) : Nat × Nat := zsh_L.getD k (99, 0)
def zcat : AV → Nat
  | .inr (.inl _) => 2
  | _ => 1
def zkill (lv : LVs) (i : Nat) : LVs := match lv[i]? with
  | some (some (.inr (.inl _))) => lv.set i none
  | _ => lv
def zst1 (lv : LVs) (i : Nat) (v : AV) : LVs := match i with
  | 0 => lv.set 0 (some v)
  | j + 1 => (zkill lv j).set (j + 1) (some v)
def zst2 (lv : LVs) (i : Nat) (v : AV) : LVs := (zst1 lv i v).set (i + 1) none
def zld (lv : LVs) (i : Nat) : Option AV := match lv[i]? with
  | some (some v) => some v
  | _ => none
def zbr (pc : Nat) (off : Int) : Option Nat := if 0 ≤ (pc : Int) + off then some ((pc : Int) + off).toNat else none
def zcp : Jvm.ClassFile.Cond → Int → Int → Bool
  | .eq, x, y => decide (x = y)
  | .ne, x, y => decide (¬ x = y)
  | .lt, x, y => decide (x < y)
  | .ge, x, y => decide (y ≤ x)
  | .gt, x, y => decide (y < x)
  | .le, x, y => decide (x ≤ y)
def zdiv (x y : Int) : Int := (Int32.ofInt x / Int32.ofInt y).toInt
def zrem (x y : Int) : Int := (Int32.ofInt x - Int32.ofInt x / Int32.ofInt y * Int32.ofInt y).toInt
def zshl (x y : Int) : Int := (Int32.ofInt x <<< (Int32.ofInt y &&& 31)).toInt
def zshr (x y : Int) : Int := (Int32.ofInt x >>> (Int32.ofInt y &&& 31)).toInt
def zushr (x y : Int) : Int := ((Int32.ofInt x).toUInt32 >>> ((Int32.ofInt y).toUInt32 &&& Int32.toUInt32 31)).toInt32.toInt
def zand (x y : Int) : Int := (Int32.ofInt x &&& Int32.ofInt y).toInt
def zor (x y : Int) : Int := (Int32.ofInt x ||| Int32.ofInt y).toInt
def zxor (x y : Int) : Int := (Int32.ofInt x ^^^ Int32.ofInt y).toInt
def zb8 (x : Int) : Int := (Int32.ofInt x).toInt8.toInt32.toInt
def zs16 (x : Int) : Int := (Int32.ofInt x).toInt16.toInt32.toInt
def zc16 (x : Int) : Int := ((Int32.ofInt x).toUInt32 % 65536).toInt32.toInt
def zlrem (x y : Int) : Int := (Int64.ofInt x - Int64.ofInt x / Int64.ofInt y * Int64.ofInt y).toInt
def zlcmp (x y : Int) : Int := if y < x then 1 else if x = y then 0 else -1
/-- what a place of one of the given tables holds -/
def zgv_L : List (List Int) := [[-1, 0, 0, 0, 3, 2], [4, 20, 100, 500, 2500, 12500], [], [],
  [109, 97, 121, 32, 49, 32, 59, 32, 114, 111, 119, 32, 98, 97, 115, 101, 32, 59, 32, 103, 97, 105, 110, 32, 98, 97, 115, 101, 32, 42, 32, 40, 104, 111, 117, 114, 32, 60, 32, 98, 121, 32, 43, 32, 49, 41, 32, 59],
  [111, 102, 102, 32, 32, 111, 110, 32, 32, 32, 97, 116, 32, 32, 32, 98, 97, 115, 101, 32, 104, 111, 117, 114, 32, 98, 121, 32, 32, 32, 109, 97, 121, 32, 32, 114, 111, 119, 32, 32, 103, 97, 105, 110, 32, 111, 114, 32, 32, 32, 97, 110, 100, 32, 32, 110, 111, 116, 32, 32]]
/-- the field of an object of ours: class, slot, kind -/
def zfd (o idx : Nat) : Option (Nat × Nat × Nat) := match zw_fd.find? (fun e => e.1 == o && e.2.1 == idx) with
  | some e => some (e.2.2.1, e.2.2.2, (zf e.2.2.1 e.2.2.2).2.2.2)
  | none => none
def zisI (i v : Int) : Bool := decide (i = v)
/-- what getfield asks of a text: its bytes, its coder -/
def zsfd (j o idx : Nat) : Option AV := if o = 9 ∧ (j = 2 ∨ j = 3) then (if idx = 9 then some (.inr (.inr (100002 + j))) else if idx = 15 then some (.inl 0) else none) else none
/-- what getstatic gives -/
def zgs (o idx : Nat) : Option AV :=
  if o = 7 ∧ idx = 315 then some (.inr (.inr 100000)) else if (o = 0 ∧ idx = 69) ∨ (o = 3 ∧ idx = 123) then some (.inr (.inr 100001)) else if o = 9 ∧ idx = 38 then some (.inl 1) else if o = 9 ∧ idx = 1053 then some (.inr (.inr 100007)) else none
def zldc (o idx : Nat) : Option AV :=
  if o = 7 ∧ idx = 42 then some (.inr (.inr 100002)) else if o = 2 ∧ idx = 94 then some (.inr (.inr 100003)) else
  match zw_ck.find? (fun e => e.1 == o && e.2.1 == idx) with
  | some e => some (.inl e.2.2)
  | none => none
def zldc2 (o idx : Nat) : Option AV := match zw_cq.find? (fun e => e.1 == o && e.2.1 == idx) with
  | some e => some (.inr (.inl e.2.2))
  | none => none
def zcla (o idx : Nat) : Option Nat := match zw_cl.find? (fun e => e.1 == o && e.2.1 == idx) with
  | some e => some e.2.2
  | none => none
def zoi (o idx : Nat) : Bool := zw_oi.any fun e => e.1 == o && e.2 == idx
def zac (o idx : Nat) : Bool := zw_ac.any fun e => e.1 == o && e.2 == idx
def zml (o idx : Nat) : Option Nat := match zw_ml.find? (fun e => e.1 == o && e.2.1 == idx) with
  | some e => some e.2.2
  | none => none
def znl (o idx : Nat) : Option Nat := match zw_nl.find? (fun e => e.1 == o && e.2.1 == idx) with
  | some e => some e.2.2
  | none => none
def zatk : ArrayType → Nat
  | .int => 20
  | .byte => 21
  | .boolean => 22
  | _ => 98
section ZS
variable (xs : Nat → Int) (L : Nat)
/-- reading a given table: KIND_ABOVE, STEP, the texts' bytes, the script -/
def zgiv (j : Nat) : Nat × (Int → Int) := if j = 6 then (L, fun i => xs i.toNat) else ((zgv_L.getD j []).length, fun i => (zgv_L.getD j []).getD i.toNat 0)
/-- one instruction that is no call and no return, in five groups -/
def zsA (o : Nat) (ini : Bool) (i : Instr) (z : Nat) (f : Fm) : Option Fm :=
  match f with
  | (pc, lv, st, n, s) =>
    match i, st with
    | .iconst v, st => if -1 ≤ v ∧ v ≤ 5 then some (pc + z, lv, .inl v :: st, n, s) else none
    | .bipush v, st => if -128 ≤ v ∧ v < 128 then some (pc + z, lv, .inl v :: st, n, s) else none
    | .sipush v, st => if -32768 ≤ v ∧ v < 32768 then some (pc + z, lv, .inl v :: st, n, s) else none
    | .lconst v, st => some (pc + z, lv, .inr (.inl ((v : Nat) : Int)) :: st, n, s)
    | .iload_n k, st => match zld lv k with
      | some (.inl v) => some (pc + z, lv, .inl v :: st, n, s)
      | _ => none
    | .iload k, st => match zld lv k with
      | some (.inl v) => some (pc + z, lv, .inl v :: st, n, s)
      | _ => none
    | .lload_n k, st => match zld lv k with
      | some (.inr (.inl v)) => some (pc + z, lv, .inr (.inl v) :: st, n, s)
      | _ => none
    | .lload k, st => match zld lv k with
      | some (.inr (.inl v)) => some (pc + z, lv, .inr (.inl v) :: st, n, s)
      | _ => none
    | .aload_n k, st => match zld lv k with
      | some (.inr (.inr v)) => if 1 ≤ v ∧ v ≤ 100006 then some (pc + z, lv, .inr (.inr v) :: st, n, s) else none
      | _ => none
    | .aload k, st => match zld lv k with
      | some (.inr (.inr v)) => if 1 ≤ v ∧ v ≤ 100006 then some (pc + z, lv, .inr (.inr v) :: st, n, s) else none
      | _ => none
    | .istore_n k, .inl v :: st => if (k : Nat) < lv.length then some (pc + z, zst1 lv k (.inl v), st, n, s) else none
    | .istore k, .inl v :: st => if k < lv.length then some (pc + z, zst1 lv k (.inl v), st, n, s) else none
    | .astore_n k, .inr (.inr v) :: st => if (k : Nat) < lv.length ∧ 1 ≤ v ∧ v ≤ 100006 then some (pc + z, zst1 lv k (.inr (.inr v)), st, n, s) else none
    | .astore k, .inr (.inr v) :: st => if k < lv.length ∧ 1 ≤ v ∧ v ≤ 100006 then some (pc + z, zst1 lv k (.inr (.inr v)), st, n, s) else none
    | .lstore_n k, .inr (.inl v) :: st => if (k : Nat) + 1 < lv.length then some (pc + z, zst2 lv k (.inr (.inl v)), st, n, s) else none
    | .lstore k, .inr (.inl v) :: st => if k + 1 < lv.length then some (pc + z, zst2 lv k (.inr (.inl v)), st, n, s) else none
    | .iinc k c, st => if k < lv.length then match zld lv k with
      | some (.inl v) => some (pc + z, zst1 lv k (.inl (zw (v + c))), st, n, s)
      | _ => none
      else none
    | .dup, v :: st => if zcat v = 1 then some (pc + z, lv, v :: v :: st, n, s) else none
    | .dup2, v :: w :: st => if zcat v = 1 ∧ zcat w = 1 then some (pc + z, lv, v :: w :: v :: w :: st, n, s) else none
    | .pop, v :: st => if zcat v = 1 then some (pc + z, lv, st, n, s) else none
    | _, _ => none
def zsB (o : Nat) (ini : Bool) (i : Instr) (z : Nat) (f : Fm) : Option Fm :=
  match f with
  | (pc, lv, st, n, s) =>
    match i, st with
    | .iadd, .inl y :: .inl x :: st => some (pc + z, lv, .inl (zw (x + y)) :: st, n, s)
    | .isub, .inl y :: .inl x :: st => some (pc + z, lv, .inl (zw (x - y)) :: st, n, s)
    | .imul, .inl y :: .inl x :: st => some (pc + z, lv, .inl (zw (x * y)) :: st, n, s)
    | .idiv, .inl y :: .inl x :: st => if y = 0 then none else some (pc + z, lv, .inl (zdiv x y) :: st, n, s)
    | .irem, .inl y :: .inl x :: st => if y = 0 then none else some (pc + z, lv, .inl (zrem x y) :: st, n, s)
    | .ineg, .inl x :: st => some (pc + z, lv, .inl (zw (-x)) :: st, n, s)
    | .ishl, .inl y :: .inl x :: st => some (pc + z, lv, .inl (zshl x y) :: st, n, s)
    | .ishr, .inl y :: .inl x :: st => some (pc + z, lv, .inl (zshr x y) :: st, n, s)
    | .iushr, .inl y :: .inl x :: st => some (pc + z, lv, .inl (zushr x y) :: st, n, s)
    | .iand, .inl y :: .inl x :: st => some (pc + z, lv, .inl (zand x y) :: st, n, s)
    | .ior, .inl y :: .inl x :: st => some (pc + z, lv, .inl (zor x y) :: st, n, s)
    | .ixor, .inl y :: .inl x :: st => some (pc + z, lv, .inl (zxor x y) :: st, n, s)
    | .i2b, .inl x :: st => some (pc + z, lv, .inl (zb8 x) :: st, n, s)
    | .i2s, .inl x :: st => some (pc + z, lv, .inl (zs16 x) :: st, n, s)
    | .i2c, .inl x :: st => some (pc + z, lv, .inl (zc16 x) :: st, n, s)
    | .i2l, .inl x :: st => some (pc + z, lv, .inr (.inl x) :: st, n, s)
    | .l2i, .inr (.inl x) :: st => some (pc + z, lv, .inl (zw x) :: st, n, s)
    | .ladd, .inr (.inl y) :: .inr (.inl x) :: st => some (pc + z, lv, .inr (.inl (zl (x + y))) :: st, n, s)
    | .lmul, .inr (.inl y) :: .inr (.inl x) :: st => some (pc + z, lv, .inr (.inl (zl (x * y))) :: st, n, s)
    | .lrem, .inr (.inl y) :: .inr (.inl x) :: st => if y = 0 then none else some (pc + z, lv, .inr (.inl (zlrem x y)) :: st, n, s)
    | .lcmp, .inr (.inl y) :: .inr (.inl x) :: st => some (pc + z, lv, .inl (zlcmp x y) :: st, n, s)
    | _, _ => none
def zsC (o : Nat) (ini : Bool) (i : Instr) (z : Nat) (f : Fm) : Option Fm :=
  match f with
  | (pc, lv, st, n, s) =>
    match i, st with
    | .goto d, st => match zbr pc d with
      | some q => some (q, lv, st, n, s)
      | none => none
    | .ifCond c d, .inl x :: st => match zbr pc d with
      | some q => some (if zcp c x 0 = true then q else pc + z, lv, st, n, s)
      | none => none
    | .if_icmp c d, .inl y :: .inl x :: st => match zbr pc d with
      | some q => some (if zcp c x y = true then q else pc + z, lv, st, n, s)
      | none => none
    | .tableswitch d lo hi offs, .inl x :: st => if x < lo ∨ hi < x then match zbr pc d with
        | some q => some (q, lv, st, n, s)
        | none => none
      else match offs[(x - lo).toNat]? with
        | some off => match zbr pc off with
          | some q => some (q, lv, st, n, s)
          | none => none
        | none => none
    | .lookupswitch d ps, .inl x :: st => if (ps.toList.zip (ps.toList.drop 1)).all (fun (a, next) => a.1 < next.1) = true then match zbr pc (Op.lookupswitch.offset ps.toList d x) with
        | some q => some (q, lv, st, n, s)
        | none => none
      else none
    | .ldc idx, st => match zldc o idx with
      | some v => some (pc + z, lv, v :: st, n, s)
      | none => none
    | .ldc_w idx, st => match zldc o idx with
      | some (.inl v) => some (pc + z, lv, .inl v :: st, n, s)
      | _ => none
    | .ldc2_w idx, st => match zldc2 o idx with
      | some v => some (pc + z, lv, v :: st, n, s)
      | none => none
    | .getstatic idx, st => match zgs o idx with
      | some v => some (pc + z, lv, v :: st, n, s)
      | none => none
    | _, _ => none
def zsD (o : Nat) (ini : Bool) (i : Instr) (z : Nat) (f : Fm) : Option Fm :=
  match f with
  | (pc, lv, st, n, s) =>
    match i, st with
    | .getfield idx, .inr (.inr c) :: st => if 100000 ≤ c then match zsfd (c - 100000) o idx with
        | some v => some (pc + z, lv, v :: st, n, s)
        | none => none
      else match zfd o idx with
        | some (ci, k, t) => if 1 ≤ c ∧ c ≤ n ∧ (zsh (c - 1)).1 = ci ∧ k < zf_n ci then some (pc + z, lv, (if t = 1 then .inr (.inr (s (c - 1) k).toNat) else .inl (s (c - 1) k)) :: st, n, s) else none
        | none => none
    | .iaload, .inl i :: .inr (.inr c) :: st => if 100000 ≤ c then (if c = 100000 ∨ c = 100001 ∨ c = 100006 then (if 0 ≤ i ∧ i < ((zgiv xs L (c - 100000)).1 : Int) then some (pc + z, lv, .inl ((zgiv xs L (c - 100000)).2 i) :: st, n, s) else none) else none)
      else if 1 ≤ c ∧ c ≤ n ∧ (zsh (c - 1)).1 = 20 ∧ 0 ≤ i ∧ i < ((zsh (c - 1)).2 : Int) then some (pc + z, lv, .inl (s (c - 1) i) :: st, n, s) else none
    | .baload, .inl i :: .inr (.inr c) :: st => if 100000 ≤ c then (if c = 100004 ∨ c = 100005 then (if 0 ≤ i ∧ i < ((zgiv xs L (c - 100000)).1 : Int) then some (pc + z, lv, .inl ((zgiv xs L (c - 100000)).2 i) :: st, n, s) else none) else none)
      else if 1 ≤ c ∧ c ≤ n ∧ ((zsh (c - 1)).1 = 21 ∨ (zsh (c - 1)).1 = 22) ∧ 0 ≤ i ∧ i < ((zsh (c - 1)).2 : Int) then some (pc + z, lv, .inl (s (c - 1) i) :: st, n, s) else none
    | .aaload, .inl i :: .inr (.inr c) :: st => if 1 ≤ c ∧ c ≤ n ∧ ((zsh (c - 1)).1 = 23 ∨ (zsh (c - 1)).1 = 24) ∧ 0 ≤ i ∧ i < ((zsh (c - 1)).2 : Int) then some (pc + z, lv, .inr (.inr (s (c - 1) i).toNat) :: st, n, s) else none
    | .arraylength, .inr (.inr c) :: st => if 100000 ≤ c then (if c = 100000 ∨ c = 100001 ∨ c = 100004 ∨ c = 100005 ∨ c = 100006 then some (pc + z, lv, .inl ((zgiv xs L (c - 100000)).1 : Int) :: st, n, s) else none)
      else if 1 ≤ c ∧ c ≤ n ∧ 20 ≤ (zsh (c - 1)).1 ∧ (zsh (c - 1)).1 ≤ 24 then some (pc + z, lv, .inl ((zsh (c - 1)).2 : Int) :: st, n, s) else none
    | _, _ => none
def zsE (o : Nat) (ini : Bool) (i : Instr) (z : Nat) (f : Fm) : Option Fm :=
  match f with
  | (pc, lv, st, n, s) =>
    match i, st with
    | .putfield idx, .inl v :: .inr (.inr c) :: st => match zfd o idx with
        | some (ci, k, t) => if 1 ≤ c ∧ c ≤ n ∧ (zsh (c - 1)).1 = ci ∧ k < zf_n ci ∧ (t = 0 ∨ t = 2 ∧ (v = 0 ∨ v = 1)) ∧ ((zf ci k).2.2.1 = false ∨ (ini = true ∧ ci = o)) then some (pc + z, lv, st, n, zup s (c - 1) k v) else none
        | none => none
    | .putfield idx, .inr (.inr w) :: .inr (.inr c) :: st => match zfd o idx with
        | some (ci, k, t) => if 1 ≤ c ∧ c ≤ n ∧ (zsh (c - 1)).1 = ci ∧ k < zf_n ci ∧ t = 1 ∧ 1 ≤ w ∧ w ≤ n ∧ ((zf ci k).2.2.1 = false ∨ (ini = true ∧ ci = o)) then some (pc + z, lv, st, n, zup s (c - 1) k w) else none
        | none => none
    | .iastore, .inl v :: .inl i :: .inr (.inr c) :: st => if 1 ≤ c ∧ c ≤ n ∧ (zsh (c - 1)).1 = 20 ∧ 0 ≤ i ∧ i < ((zsh (c - 1)).2 : Int) then some (pc + z, lv, st, n, zup s (c - 1) i v) else none
    | .bastore, .inl v :: .inl i :: .inr (.inr c) :: st => if 1 ≤ c ∧ c ≤ n ∧ ((zsh (c - 1)).1 = 21 ∨ (zsh (c - 1)).1 = 22 ∧ (v = 0 ∨ v = 1)) ∧ 0 ≤ i ∧ i < ((zsh (c - 1)).2 : Int) then some (pc + z, lv, st, n, zup s (c - 1) i (if (zsh (c - 1)).1 = 21 then zb8 v else v)) else none
    | .aastore, .inr (.inr w) :: .inl i :: .inr (.inr c) :: st => if 1 ≤ c ∧ c ≤ n ∧ 1 ≤ w ∧ w ≤ n ∧ ((zsh (c - 1)).1 = 23 ∧ (zsh (w - 1)).1 = 1 ∨ (zsh (c - 1)).1 = 24 ∧ (zsh (w - 1)).1 = 5) ∧ 0 ≤ i ∧ i < ((zsh (c - 1)).2 : Int) then some (pc + z, lv, st, n, zup s (c - 1) i w) else none
    | .new idx, st => match zcla o idx with
        | some ci => if (zsh n).1 = ci ∧ (zsh n).2 = zf_n ci ∧ ci < 9 then some (pc + z, lv, .inr (.inr (n + 1)) :: st, n + 1, znew s n) else none
        | none => none
    | .newarray a, .inl k :: st => if (zsh n).1 = zatk a ∧ zatk a < 98 ∧ k = ((zsh n).2 : Int) then some (pc + z, lv, .inr (.inr (n + 1)) :: st, n + 1, znew s n) else none
    | .anewarray idx, .inl k :: st => match zcla o idx with
        | some ci => if ((ci = 1 ∧ (zsh n).1 = 23) ∨ (ci = 5 ∧ (zsh n).1 = 24)) ∧ k = ((zsh n).2 : Int) then some (pc + z, lv, .inr (.inr (n + 1)) :: st, n + 1, znew s n) else none
        | none => none
    | .invokespecial idx, .inr (.inr c) :: st => if zoi o idx = true ∧ 1 ≤ c ∧ c ≤ n ∧ (st.map zcat).sum ≤ 8 then some (pc + z, lv, st, n, s) else none
    | .invokestatic idx, .inl k :: .inl j :: .inr (.inr c2) :: .inl i :: .inr (.inr c1) :: st => if zac o idx = true ∧ 1 ≤ c1 ∧ c1 ≤ n ∧ 1 ≤ c2 ∧ c2 ≤ n ∧ (zsh (c1 - 1)).1 = 20 ∧ (zsh (c2 - 1)).1 = 20 ∧ 0 ≤ i ∧ 0 ≤ j ∧ 0 ≤ k ∧ i + k ≤ ((zsh (c1 - 1)).2 : Int) ∧ j + k ≤ ((zsh (c2 - 1)).2 : Int) ∧ (st.map zcat).sum ≤ 8 then some (pc + z, lv, st, n, zcopy s (c1 - 1) i (c2 - 1) j k) else none
    | _, _ => none
def zstep (o : Nat) (ini : Bool) (i : Instr) (z : Nat) (f : Fm) : Option Fm :=
  match zsA o ini i z f with
  | some r => some r
  | none => match zsB o ini i z f with
    | some r => some r
    | none => match zsC o ini i z f with
      | some r => some r
      | none => match zsD xs L o ini i z f with
        | some r => some r
        | none => zsE o ini i z f
/-- a return: what comes back -/
def zret (rt : Nat) (i : Instr) (st : List AV) : Option (Option AV) := match i, st with
  | .ireturn, [.inl v] => if rt = 1 ∨ (rt = 2 ∧ (v = 0 ∨ v = 1)) ∨ (rt = 3 ∧ 0 ≤ v ∧ v < 65536) ∨ (rt = 4 ∧ -128 ≤ v ∧ v < 128) then some (some (.inl v)) else none
  | .lreturn, [.inr (.inl v)] => if rt = 5 then some (some (.inr (.inl v))) else none
  | .areturn, [.inr (.inr c)] => if rt = 6 ∧ c < 100000 then some (some (.inr (.inr c))) else none
  | .return_, [] => if rt = 0 then some none else none
  | _, _ => none
/-- a call: which method; a receiver's class is looked at -/
def zcal (o : Nat) (i : Instr) : Option Nat := match i with
  | .invokevirtual idx => zml o idx
  | .invokestatic idx => match zml o idx with
    | some y => some y
    | none => znl o idx
  | .invokespecial idx => match zml o idx with
    | some y => some y
    | none => znl o idx
  | _ => none
/-- how it is called: 0 virtual, 1 static, 2 a constructor -/
def zmode (i : Instr) : Nat := match i with
  | .invokevirtual _ => 0
  | .invokestatic _ => 1
  | _ => 2
def zrecv (y n : Nat) : List AV → Bool
  | .inr (.inr c) :: _ => (decide (1 ≤ c) && decide (c ≤ n) && decide ((zsh (c - 1)).1 = (zm y).2.2.2.2.1)) || (decide (c = 100002 ∨ c = 100003) && decide ((zm y).2.2.2.2.1 = 9))
  | _ => false
def zcallok (i : Instr) (y n : Nat) (args rest : List AV) : Bool :=
  decide ((rest.map zcat).sum ≤ 8) && decide (y < 240) && (args.all fun v => decide (zcat v = 1)) &&
  (match zmode i with
    | 0 => !(zm y).2.2.2.2.2.2.2 && zrecv y n args && decide ((zm y).1.name ≠ "<init>")
    | 1 => (zm y).2.2.2.2.2.2.2
    | _ => decide ((zm y).1.name = "<init>") && zrecv y n args && decide ((zm y).2.2.2.2.2.1 = 0))
abbrev ZX : Type := Nat → List AV → Nat → Pl → Option (Option AV × Nat × Pl)
/-- a method's run from a place in it; y: which, o: its class -/
def zrun (ex : ZX) (y o rt : Nat) (ini : Bool) : Nat → Fm → Option (Option AV × Nat × Pl)
  | 0, _ => none
  | N + 1, f => match zi y f.1 with
    | none => none
    | some (i, z) => match zret rt i f.2.2.1 with
      | some r => some (r, f.2.2.2)
      | none => match zcal o i with
        | some y2 =>
          if (zm y2).2.2.2.2.2.2.1 ≤ f.2.2.1.length ∧ zcallok i y2 f.2.2.2.1 (f.2.2.1.take (zm y2).2.2.2.2.2.2.1).reverse (f.2.2.1.drop (zm y2).2.2.2.2.2.2.1) = true then
            match ex y2 (f.2.2.1.take (zm y2).2.2.2.2.2.2.1).reverse f.2.2.2.1 f.2.2.2.2 with
            | some (r, n2, s2) => zrun ex y o rt ini N (f.1 + z, f.2.1, r.toList ++ f.2.2.1.drop (zm y2).2.2.2.2.2.2.1, n2, s2)
            | none => none
          else none
        | none => match zstep xs L o ini i z f with
          | some f2 => zrun ex y o rt ini N f2
          | none => none
/-- a whole call, of depth d, each method's run of at most N instructions -/
def zex (N : Nat) : Nat → ZX
  | 0 => fun _ _ _ _ => none
  | d + 1 => fun y args n s => zrun xs L (zex N d) y (zm y).2.2.2.2.1 (zm y).2.2.2.2.2.1 (decide ((zm y).1.name = "<init>")) N (0, args.map some ++ List.replicate ((zm y).2.2.1 - args.length) none, [], n, s)
end ZS
end
section
/-! what the walker's values are in the machine -/
def zR (x : Int) : Prop := -2147483648 ≤ x ∧ x < 2147483648
def zRl (x : Int) : Prop := -9223372036854775808 ≤ x ∧ x < 9223372036854775808
theorem zR_toInt {x : Int} (h : zR x) : (Int32.ofInt x).toInt = x := by
  obtain ⟨h1, h2⟩ := h
  exact Int32.toInt_ofInt_of_le (by omega) (by omega)
theorem zRl_toInt {x : Int} (h : zRl x) : (Int64.ofInt x).toInt = x := by
  obtain ⟨h1, h2⟩ := h
  exact Int64.toInt_ofInt_of_le (by omega) (by omega)
theorem zR_t (v : Int32) : zR v.toInt := by
  have h1 := v.le_toInt
  have h2 := v.toInt_lt
  exact ⟨by omega, by omega⟩
theorem zRl_t (v : Int64) : zRl v.toInt := by
  have h1 := v.le_toInt
  have h2 := v.toInt_lt
  exact ⟨by omega, by omega⟩
theorem zR_eq {x y : Int} (hx : zR x) (hy : zR y) : Int32.ofInt x = Int32.ofInt y ↔ x = y := by
  rw [← Int32.toInt_inj, zR_toInt hx, zR_toInt hy]
theorem zR_lt {x y : Int} (hx : zR x) (hy : zR y) : Int32.ofInt x < Int32.ofInt y ↔ x < y := by
  rw [Int32.lt_iff_toInt_lt, zR_toInt hx, zR_toInt hy]
theorem zR_le {x y : Int} (hx : zR x) (hy : zR y) : Int32.ofInt x ≤ Int32.ofInt y ↔ x ≤ y := by
  rw [Int32.le_iff_toInt_le, zR_toInt hx, zR_toInt hy]
theorem zw_R (x : Int) : zR (zw x) := by
  have h1 := @Int.le_bmod x 4294967296 (by decide)
  have h2 := @Int.bmod_lt x 4294967296 (by decide)
  unfold zR zw
  omega
theorem zl_R (x : Int) : zRl (zl x) := by
  have h1 := @Int.le_bmod x 18446744073709551616 (by decide)
  have h2 := @Int.bmod_lt x 18446744073709551616 (by decide)
  unfold zRl zl
  omega
theorem zw_id {x : Int} (h1 : -2147483648 ≤ x) (h2 : x < 2147483648) : zw x = x := by
  unfold zw
  rw [Int.bmod_eq_of_le (by omega) (by omega)]
theorem zl_id {x : Int} (h1 : -9223372036854775808 ≤ x) (h2 : x < 9223372036854775808) : zl x = x := by
  unfold zl
  rw [Int.bmod_eq_of_le (by omega) (by omega)]
theorem zw_of (x : Int) : Int32.ofInt (zw x) = Int32.ofInt x := by
  apply Int32.toInt.inj
  rw [zR_toInt (zw_R x), Int32.toInt_ofInt]
  rfl
theorem zl_of (x : Int) : Int64.ofInt (zl x) = Int64.ofInt x := by
  apply Int64.toInt.inj
  rw [zRl_toInt (zl_R x), Int64.toInt_ofInt]
  rfl
theorem zt_of (v : Int32) : Int32.ofInt v.toInt = v := Int32.ofInt_toInt v
theorem ztl_of (v : Int64) : Int64.ofInt v.toInt = v := Int64.ofInt_toInt v
theorem zR_in {x : Int} {n : Nat} (hx : zR x) (h0 : 0 ≤ x) (h1 : x < (n : Int)) : vp_in (Int32.ofInt x) n := by
  rw [vp_in_iff, zR_toInt hx]
  exact ⟨h0, h1⟩
theorem zR_clamp {x : Int} (hx : zR x) : (Int32.ofInt x).toNatClampNeg = x.toNat := by
  show (Int32.ofInt x).toInt.toNat = _
  rw [zR_toInt hx]
theorem zR_ofNat (n : Nat) : Int32.ofInt (n : Int) = Int32.ofNat n := Int32.ofInt_eq_ofNat
/-- a reference: null, a cell of ours, a given one -/
def zrv (sp : Nat → Value) (ad : Nat → Nat) (c : Nat) : Value := if c = 0 then .null else if c < 100000 then .ref (ad (c - 1)) else sp (c - 100000)
def zrc (ad : Nat → Nat) (c : Nat) : Option Nat := if c = 0 then none else some (ad (c - 1))
def ztr (sp : Nat → Value) (ad : Nat → Nat) : AV → Value
  | .inl x => .int (Int32.ofInt x)
  | .inr (.inl x) => .long (Int64.ofInt x)
  | .inr (.inr c) => zrv sp ad c
def zok (n : Nat) : AV → Prop
  | .inl x => zR x
  | .inr (.inl x) => zRl x
  | .inr (.inr c) => c ≤ n ∨ 100000 ≤ c
/-- the plane's places that hold references -/
def zrefs (k i : Nat) : Bool := (decide ((zsh k).1 < 20) && decide ((zf (zsh k).1 i).2.2.2 = 1)) || decide (23 ≤ (zsh k).1)
def zmok (n : Nat) (s : Pl) : Prop := (∀ k i, zR (s k i)) ∧ (∀ k i : Nat, k < n → zrefs k i = true → (s k i).toNat ≤ n) ∧ n ≤ 1000
theorem zrc_rf {sp : Nat → Value} {ad : Nat → Nat} {c : Nat} (h : c < 100000) : va_rf (zrc ad c) = zrv sp ad c := by
  unfold zrc zrv
  by_cases h0 : c = 0
  · rw [if_pos h0, if_pos h0]; rfl
  · rw [if_neg h0, if_neg h0, if_pos h]; rfl
/-- a cell, and the world of n cells -/
def zent (cA : Nat → ClassId) (ad : Nat → Nat) (s : Pl) (k : Nat) : va_E :=
  if (zsh k).1 < 20 then .inr ((zsh k).1, (List.range (zsh k).2).map fun j => if (zf (zsh k).1 j).2.2.2 = 1 then va_rf (zrc ad (s k j).toNat) else .int (Int32.ofInt (s k j)))
  else if (zsh k).1 < 23 then .inl (cA (zsh k).1, ((zsh k).2, .inl fun j => Int32.ofInt (s k j)))
  else .inl (cA (zsh k).1, ((zsh k).2, .inr (.inr (.inr (.inr fun j => zrc ad (s k j).toNat)))))
def zwo (cA : Nat → ClassId) (ad : Nat → Nat) (n : Nat) (s : Pl) : va_W := (List.range n).map fun k => (ad k, zent cA ad s k)
def zTY (cA : Nat → ClassId) : List (ClassId × FieldType) := [(cA 20, .int), (cA 21, .byte), (cA 22, .boolean), (cA 23, .object "OneForOne$Law"), (cA 24, .object "OneForOne$Sheet")]
def zA (base : Nat) : Nat → Prop := fun q => base ≤ q
theorem zwo_get {cA : Nat → ClassId} {ad : Nat → Nat} {n : Nat} {s : Pl} {k : Nat} (h : k < n) : (zwo cA ad n s)[k]? = some (ad k, zent cA ad s k) := by
  unfold zwo
  rw [List.getElem?_map, List.getElem?_range h]
  rfl
theorem zwo_len {cA : Nat → ClassId} {ad : Nat → Nat} {n : Nat} {s : Pl} : (zwo cA ad n s).length = n := by
  unfold zwo
  rw [List.length_map, List.length_range]
theorem zent_cong {cA : Nat → ClassId} {ad : Nat → Nat} {s s2 : Pl} {k : Nat} (h : s k = s2 k) : zent cA ad s k = zent cA ad s2 k := by
  unfold zent
  rw [h]
theorem zwo_set {cA : Nat → ClassId} {ad : Nat → Nat} {n : Nat} {s s2 : Pl} {k : Nat} (hk : k < n) {x : va_E} (hx : x = zent cA ad s2 k) (ho : ∀ a, a ≠ k → s2 a = s a) : (zwo cA ad n s).set k (ad k, x) = zwo cA ad n s2 := by
  apply List.ext_getElem?
  intro a
  by_cases ha : a = k
  · subst ha
    rw [List.getElem?_set_self (by rw [zwo_len]; exact hk), zwo_get hk, hx]
  · rw [List.getElem?_set_ne (Ne.symm ha)]
    by_cases hn : a < n
    · rw [zwo_get hn, zwo_get hn, zent_cong (ho a ha)]
    · rw [List.getElem?_eq_none (by rw [zwo_len]; omega), List.getElem?_eq_none (by rw [zwo_len]; omega)]
theorem zup_ne {s : Pl} {k a : Nat} {i v : Int} (h : a ≠ k) : zup s k i v a = s a := by
  unfold zup
  rw [if_neg h]
theorem zup_at {s : Pl} {k : Nat} {i v : Int} : zup s k i v k = fun b => if b = i then v else s k b := by
  unfold zup
  rw [if_pos rfl]
theorem zup_same {s : Pl} {k : Nat} {i v : Int} : zup s k i v k i = v := by
  rw [zup_at]
  exact if_pos rfl
theorem zup_other {s : Pl} {k : Nat} {i v j : Int} (h : j ≠ i) : zup s k i v k j = s k j := by
  rw [zup_at]
  exact if_neg h
/-- the machine's length of an instruction -/
def zln : Instr → Nat
  | .bipush _ => 2
  | .iload _ => 2
  | .lload _ => 2
  | .aload _ => 2
  | .istore _ => 2
  | .astore _ => 2
  | .lstore _ => 2
  | .newarray _ => 2
  | .ldc _ => 2
  | .sipush _ => 3
  | .iinc _ _ => 3
  | .goto _ => 3
  | .ifCond _ _ => 3
  | .if_icmp _ _ => 3
  | .getfield _ => 3
  | .putfield _ => 3
  | .getstatic _ => 3
  | .invokespecial _ => 3
  | .invokestatic _ => 3
  | .invokevirtual _ => 3
  | .new _ => 3
  | .anewarray _ => 3
  | .ldc_w _ => 3
  | .ldc2_w _ => 3
  | _ => 1
def zsw : Instr → Bool
  | .tableswitch _ _ _ _ => true
  | .lookupswitch _ _ => true
  | _ => false
def zlen_ok (l : List (Nat × Instr × Nat)) : Bool := l.all fun e => zsw e.2.1 || decide (e.2.2 = zln e.2.1)
theorem zlen_all : zi_L.all zlen_ok = true := by decide +kernel
theorem zi_find_mem {pc : Nat} {i : Instr} {z : Nat} : ∀ {l : List (Nat × Instr × Nat)}, zi_find pc l = some (i, z) → (pc, i, z) ∈ l
  | [], h => by simp [zi_find] at h
  | (q, j, w) :: l, h => by
    unfold zi_find at h
    by_cases hq : q = pc
    · rw [if_pos hq] at h
      cases h
      rw [hq]
      exact List.mem_cons_self
    · rw [if_neg hq] at h
      exact List.mem_cons_of_mem _ (zi_find_mem h)
theorem zi_dec0 {b : ByteArray} {l : List (Nat × Instr × Nat)} {pc : Nat} {i : Instr} {z : Nat} (hy : zi_okL b l = true) (hn : zlen_ok l = true) (h : zi_find pc l = some (i, z)) : decode b pc = .ok (i, z) ∧ (zsw i = true ∨ z = zln i) := by
  have hm := zi_find_mem h
  have h3 := List.all_eq_true.mp hn _ hm
  simp only [Bool.or_eq_true, decide_eq_true_eq] at h3
  unfold zi_okL at hy
  rw [List.all_eq_true] at hy
  have h1 := hy (pc, i, z) hm
  generalize hw : decode b (pc, i, z).1 = w at h1
  have h2 := of_decide_eq_true h1
  exact ⟨h2, h3⟩
theorem zlen_get (l : List (List (Nat × Instr × Nat))) (h : l.all zlen_ok = true) (y : Nat) : zlen_ok (l.getD y []) = true := by
  rw [List.getD_eq_getElem?_getD]
  cases e : l[y]? with
  | none => rfl
  | some x => exact List.all_eq_true.mp h _ (List.mem_of_getElem? e)
theorem zi_dec {b : ByteArray} {y pc : Nat} {i : Instr} {z : Nat} (hy : zi_okL b (zi_L.getD y []) = true) (h : zi y pc = some (i, z)) : decode b pc = .ok (i, z) ∧ (zsw i = true ∨ z = zln i) := zi_dec0 hy (zlen_get zi_L zlen_all y) h
end
section
/-! the machine does what the walker does: what is known of a method's run, and the first three groups of instructions -/
/-- what stands at the start, and is never written: statics, tables, texts, the script, links that bend -/
def zXt (sp : Nat → Value) (xs : Nat → Int) (L : Nat) (A : Nat → Prop) (U : State) (H : Heap) : Prop :=
  (∀ j, sp j = .null ∨ ∃ a, sp j = .ref a) ∧ ∃ t : Nat → Nat, (∀ j, j ≤ 6 → sp j = .ref (t j)) ∧ L < 2147483648 ∧ (∀ j, zR (xs j)) ∧
    (∀ j, j = 0 ∨ j = 1 ∨ j = 6 → va_T .int (t j) (zgiv xs L j).1 (fun i => .int (Int32.ofInt ((zgiv xs L j).2 (i : Int)))) A U H) ∧
    (∀ j, j = 4 ∨ j = 5 → va_T .byte (t j) (zgiv xs L j).1 (fun i => .int (Int32.ofInt ((zgiv xs L j).2 (i : Int)))) A U H) ∧
    (∀ j, j = 2 ∨ j = 3 → va_O "java/lang/String" (t j) A U H ∧ va_OF "java/lang/String" "coder" "B" (.int 0) (t j) A U H ∧ va_OF "java/lang/String" "value" "[B" (.ref (t (j + 2))) (t j) A U H) ∧
    va_Z "OneForOne" "KIND_ABOVE" "[I" (sp 0) A U H ∧ va_Z "OneForOne$Lake" "STEP" "[I" (sp 1) A U H ∧ va_Z "java/lang/String" "COMPACT_STRINGS" "Z" (.int 1) A U H ∧ va_Z "jdk/internal/util/Preconditions" "SIOOBE_FORMATTER" "Ljava/util/function/BiFunction;" (sp 7) A U H ∧
    vk_R "OneForOne" 42 "may 1 ; row base ; gain base * (hour < by + 1) ;" (t 2) U ∧ vk_R "OneForOne$Reader" 94 "off  on   at   base hour by   may  row  gain or   and  not  " (t 3) U ∧
    (∀ e ∈ zw_nl, va_Nw (zw_nl_w e) U) ∧ va_AO "OneForOne$Law" U ∧ va_AO "OneForOne$Sheet" U
theorem zXt.go {sp : Nat → Value} {xs : Nat → Int} {L : Nat} {A : Nat → Prop} {s U : State} {H : Heap} (h : zXt sp xs L A s s.heap) (hW : s.WarmedH U.vm) (hq : ∀ a : Nat, a < s.heap.size → ¬ A a → H[a]? = s.heap[a]?) : zXt sp xs L A U H := by
  obtain ⟨h0, t, h1, h2, h3, h4, h5, h6, h7, h8, h9, h10, h11, h12, h13, h14, h15⟩ := h
  refine ⟨h0, t, h1, h2, h3, fun j hj => ((h4 j hj).moved hW.alike).kept hq, fun j hj => ((h5 j hj).moved hW.alike).kept hq, fun j hj => ?_, (h7.moved hW.alike).kept hq, (h8.moved hW.alike).kept hq, (h9.moved hW.alike).kept hq, (h10.moved hW.alike).kept hq, h11.warm hW, h12.warm hW, fun e he => ?_, h14.moved hW.alike, h15.moved hW.alike⟩
  · obtain ⟨g1, g2, g3⟩ := h6 j hj
    exact ⟨(g1.moved hW.alike).kept hq, (g2.moved hW.alike).kept hq, (g3.moved hW.alike).kept hq⟩
  · exact va_Nw.warmM hW (h13 e he)
/-- a method's run: y its number, o its class, b its bytes -/
def zCtx (p : Program) (s : State) (m : MethodId) (args : Array Value) (meth : Method) (c : Code) (y o : Nat) (ini : Bool) (b : ByteArray) (nL : Nat) (cA : Nat → ClassId) (dC : Nat → ClassId) (dI : Nat → Nat → Nat) (sp : Nat → Value) (xs : Nat → Int) (L base : Nat) : Prop :=
  p.tables.exec = Jvm.exec ∧ c.code = b ∧ c.maxLocals = nL ∧ (∀ pc i z, zi y pc = some (i, z) → decode b pc = .ok (i, z) ∧ (zsw i = true ∨ z = zln i)) ∧
  s.vm.findClass (zc_n o) = some m.cls ∧ (∀ w ∈ zgw, w.before args s = true) ∧ va_K (dC, dI) classes (zTY cA) s ∧ zXt sp xs L (zA base) s s.heap ∧ base ≤ s.heap.size ∧ (ini = true → meth.name = "<init>")
/-- a place in it: the names and the pile hold what the walker's do, the heap holds the plane -/
def zLv (sp : Nat → Value) (ad : Nat → Nat) (n nL : Nat) (lv : LVs) (ls : Array Slot) : Prop :=
  ls.size = nL ∧ lv.length = nL ∧ lv_wf ls ∧ (∀ (i : Nat) (v : AV), lv[i]? = some (some v) → ls[i]? = some (Slot.val (ztr sp ad v))) ∧ ∀ (i : Nat) (v : AV), lv[i]? = some (some v) → zok n v
def zHp (s : State) (cA : Nat → ClassId) (dC : Nat → ClassId) (dI : Nat → Nat → Nat) (base : Nat) (ad : Nat → Nat) (n : Nat) (sq : Pl) (H : Heap) (locs : List Loc) : Prop :=
  zmok n sq ∧ va_P (dC, dI) classes (zwo cA ad n sq) H ∧ va_D (zA base) (zwo cA ad n sq) ∧ va_S (zA base) s.heap H locs
def zPl (n : Nat) (st : List AV) : Prop := ∀ v ∈ st, zok n v
theorem zPl.cons {n : Nat} {v : AV} {st : List AV} : zPl n (v :: st) ↔ zok n v ∧ zPl n st := List.forall_mem_cons
theorem zld_some {lv : LVs} {k : Nat} {v : AV} (h : zld lv k = some v) : lv[k]? = some (some v) := by
  unfold zld at h
  split at h
  · next w e => cases h; exact e
  · cases h
theorem ztr_cat (sp : Nat → Value) (ad : Nat → Nat) (hsp : ∀ j, sp j = .null ∨ ∃ a, sp j = .ref a) (v : AV) : (ztr sp ad v).category = zcat v := by
  rcases v with x | x | c
  · rfl
  · rfl
  · show (zrv sp ad c).category = 1
    unfold zrv
    split
    · rfl
    · split
      · rfl
      · rcases hsp (c - 100000) with h | ⟨a, h⟩ <;> rw [h] <;> rfl
theorem zkill_get {lv : LVs} {i j : Nat} {v : AV} (h : (zkill lv i)[j]? = some (some v)) : lv[j]? = some (some v) ∧ (j = i → zcat v = 1) := by
  unfold zkill at h
  split at h
  · next x e =>
    by_cases hj : j = i
    · subst hj
      rw [List.getElem?_set_self (List.getElem?_eq_some_iff.mp e).1] at h
      cases h
    · rw [List.getElem?_set_ne (Ne.symm hj)] at h
      exact ⟨h, fun q => absurd q hj⟩
  · next e =>
    refine ⟨h, fun q => ?_⟩
    subst q
    rcases v with x | x | c
    · rfl
    · exact absurd h (e x)
    · rfl
theorem zst1_get {lv : LVs} {i j : Nat} {w v : AV} (h : (zst1 lv i w)[j]? = some (some v)) : (j = i ∧ v = w) ∨ (j ≠ i ∧ lv[j]? = some (some v) ∧ (j + 1 = i → zcat v = 1)) := by
  cases i with
  | zero =>
    simp only [zst1] at h
    by_cases hj : j = 0
    · subst hj
      left
      rw [List.getElem?_set] at h
      simp at h
      exact ⟨rfl, h.2.symm⟩
    · rw [List.getElem?_set_ne (Ne.symm hj)] at h
      exact Or.inr ⟨hj, h, fun q => by omega⟩
  | succ k =>
    simp only [zst1] at h
    by_cases hj : j = k + 1
    · subst hj
      left
      rw [List.getElem?_set] at h
      simp at h
      exact ⟨rfl, h.2.symm⟩
    · rw [List.getElem?_set_ne (Ne.symm hj)] at h
      obtain ⟨h1, h2⟩ := zkill_get h
      exact Or.inr ⟨hj, h1, fun q => h2 (by omega)⟩
theorem zkill_len {lv : LVs} {i : Nat} : (zkill lv i).length = lv.length := by
  unfold zkill
  split
  · rw [List.length_set]
  · rfl
theorem zst1_len {lv : LVs} {i : Nat} {w : AV} : (zst1 lv i w).length = lv.length := by
  cases i with
  | zero => simp [zst1]
  | succ k => simp [zst1, zkill_len]
/-- the named places, as the kit lists them -/
def zls (sp : Nat → Value) (ad : Nat → Nat) (lv : LVs) : List (Nat × Value) := (List.range lv.length).filterMap fun j => (zld lv j).map fun v => (j, ztr sp ad v)
theorem zls_mem {sp : Nat → Value} {ad : Nat → Nat} {lv : LVs} {q : Nat × Value} : q ∈ zls sp ad lv ↔ ∃ v, lv[q.1]? = some (some v) ∧ q.2 = ztr sp ad v := by
  unfold zls
  rw [List.mem_filterMap]
  constructor
  · rintro ⟨j, -, h⟩
    cases e : zld lv j with
    | none => rw [e] at h; cases h
    | some v =>
      rw [e] at h
      cases h
      exact ⟨v, zld_some e, rfl⟩
  · rintro ⟨v, h1, h2⟩
    refine ⟨q.1, List.mem_range.mpr (List.getElem?_eq_some_iff.mp h1).1, ?_⟩
    have e : zld lv q.1 = some v := by unfold zld; rw [h1]
    rw [e]
    show some (q.1, ztr sp ad v) = some q
    rw [← h2]
theorem zLv.has {sp : Nat → Value} {ad : Nat → Nat} {n nL : Nat} {lv : LVs} {ls : Array Slot} (h : zLv sp ad n nL lv ls) : lv_has ls nL (zls sp ad lv) := by
  obtain ⟨h1, h2, h3, h4, -⟩ := h
  refine ⟨h1, h3, fun q hq => ?_⟩
  obtain ⟨v, e1, e2⟩ := zls_mem.mp hq
  rw [h4 _ _ e1, e2]
theorem zLv.st1 {sp : Nat → Value} {ad : Nat → Nat} {n nL : Nat} {lv : LVs} {ls ls2 : Array Slot} {i : Nat} {w : AV} (hsp : ∀ j, sp j = .null ∨ ∃ a, sp j = .ref a) (h : zLv sp ad n nL lv ls) (hw : zok n w)
    (h2 : lv_has ls2 nL ((i, ztr sp ad w) :: (zls sp ad lv).filter (fun q => !(q.1 == i) && !(q.1 + 1 == i && q.2.category == 2)))) : zLv sp ad n nL (zst1 lv i w) ls2 := by
  obtain ⟨-, g2, -, -, g5⟩ := h
  obtain ⟨k1, k2, k3⟩ := h2
  refine ⟨k1, by rw [zst1_len]; exact g2, k2, fun j v hj => ?_, fun j v hj => ?_⟩
  · rcases zst1_get hj with ⟨e1, e2⟩ | ⟨e1, e2, e3⟩
    · subst e1; subst e2
      exact k3 _ List.mem_cons_self
    · refine k3 (j, ztr sp ad v) (List.mem_cons_of_mem _ (List.mem_filter.mpr ⟨zls_mem.mpr ⟨v, e2, rfl⟩, ?_⟩))
      rw [ztr_cat sp ad hsp]
      by_cases q : j + 1 = i
      · simp [e1, e3 q]
      · simp [e1, q]
  · rcases zst1_get hj with ⟨e1, e2⟩ | ⟨e1, e2, e3⟩
    · subst e2; exact hw
    · exact g5 _ _ e2
theorem zLv.st2 {sp : Nat → Value} {ad : Nat → Nat} {n nL : Nat} {lv : LVs} {ls ls2 : Array Slot} {i : Nat} {w : AV} (hsp : ∀ j, sp j = .null ∨ ∃ a, sp j = .ref a) (h : zLv sp ad n nL lv ls) (hw : zok n w)
    (h2 : lv_has ls2 nL ((i, ztr sp ad w) :: (zls sp ad lv).filter (fun q => !(q.1 == i) && (!(q.1 == i + 1) && !(q.1 + 1 == i && q.2.category == 2))))) : zLv sp ad n nL (zst2 lv i w) ls2 := by
  obtain ⟨-, g2, -, -, g5⟩ := h
  obtain ⟨k1, k2, k3⟩ := h2
  have key : ∀ (j : Nat) (v : AV), (zst2 lv i w)[j]? = some (some v) → j ≠ i + 1 ∧ (zst1 lv i w)[j]? = some (some v) := by
    intro j v hj
    unfold zst2 at hj
    by_cases q : j = i + 1
    · subst q
      rw [List.getElem?_set] at hj
      simp at hj
    · rw [List.getElem?_set_ne (Ne.symm q)] at hj
      exact ⟨q, hj⟩
  refine ⟨k1, by unfold zst2; rw [List.length_set, zst1_len]; exact g2, k2, fun j v hj => ?_, fun j v hj => ?_⟩
  · obtain ⟨q0, hj⟩ := key j v hj
    rcases zst1_get hj with ⟨e1, e2⟩ | ⟨e1, e2, e3⟩
    · subst e1; subst e2
      exact k3 _ List.mem_cons_self
    · refine k3 (j, ztr sp ad v) (List.mem_cons_of_mem _ (List.mem_filter.mpr ⟨zls_mem.mpr ⟨v, e2, rfl⟩, ?_⟩))
      rw [ztr_cat sp ad hsp]
      by_cases q : j + 1 = i
      · simp [e1, q0, e3 q]
      · simp [e1, q0, q]
  · obtain ⟨q0, hj⟩ := key j v hj
    rcases zst1_get hj with ⟨e1, e2⟩ | ⟨e1, e2, e3⟩
    · subst e2; exact hw
    · exact g5 _ _ e2
end
section
/-! the machine does what the walker does: constants, names, the pile, arithmetic, branches, constants of the pool, statics. Written by wip/whole/gen/gen08.py -/
section ZSND
variable {p : Program} {l : Launch} {e : Env} {R : Room} {s : State} {m : MethodId} {args : Array Value} {below : List Frame} {meth : Method} {c : Code} {H : Heap} {locs : List Loc} {cells slots : Nat} {Q : State → Prop}
variable {y o : Nat} {ini : Bool} {b : ByteArray} {nL : Nat} {cA dC : Nat → ClassId} {dI : Nat → Nat → Nat} {sp : Nat → Value} {xs : Nat → Int} {L base : Nat} {ad : Nat → Nat}

theorem zrv_ref {n v : Nat} (hXt : zXt sp xs L (zA base) s s.heap) (h : 1 ≤ v ∧ v ≤ 100006) : ∃ a, zrv sp ad v = .ref a := by
  obtain ⟨-, t, h1, -⟩ := hXt
  unfold zrv
  rw [if_neg (by omega)]
  by_cases q : v < 100000
  · rw [if_pos q]
    exact ⟨_, rfl⟩
  · rw [if_neg q]
    exact ⟨_, h1 (v - 100000) (by omega)⟩
theorem zbr_some {pc : Nat} {d : Int} {q : Nat} (h : zbr pc d = some q) : (pc : Int) + d = (q : Int) := by
  unfold zbr at h
  split at h
  · cases h
    omega
  · cases h
theorem zR0 : zR 0 := ⟨by decide, by decide⟩
theorem zI0 : Int32.ofInt 0 = 0 := by decide
set_option maxHeartbeats 4000000 in
theorem zsA_ok {i : Instr} {z pc pc2 : Nat} {lv lv2 : LVs} {st st2 : List AV} {n n2 : Nat} {sq sq2 : Pl} {ls : Array Slot}
    (C : zCtx p s m args meth c y o ini b nL cA dC dI sp xs L base) (hi : zi y pc = some (i, z)) (h : zsA o ini i z (pc, lv, st, n, sq) = some (pc2, lv2, st2, n2, sq2)) (hl : zLv sp ad n nL lv ls) (hp : zPl n st)
    (kk : n2 = n → sq2 = sq → ∀ ls2, zLv sp ad n nL lv2 ls2 → zPl n st2 → W p l e R s m args below meth c H locs cells slots Q (F0 m pc2 ls2 (st2.map (ztr sp ad)))) : W p l e R s m args below meth c H locs cells slots Q (F0 m pc ls (st.map (ztr sp ad))) := by
  obtain ⟨hx, hb, hml, hd, hown, hts, hK, hXt, hbs, hin⟩ := C
  obtain ⟨hdg, hz⟩ := hd _ _ _ hi
  have hsp := hXt.1
  cases i with
  | iconst v =>
    simp only [zsw, zln, Bool.false_eq_true, false_or] at hz
    subst hz
    simp only [zsA] at h
    split at h
    · next hc =>
      cases h
      refine lv_iconst (v := Int32.ofInt v) hx hb hdg rfl ?_
      exact kk rfl rfl ls hl (zPl.cons.mpr ⟨⟨by omega, by omega⟩, hp⟩)
    · cases h
  | bipush v =>
    simp only [zsw, zln, Bool.false_eq_true, false_or] at hz
    subst hz
    simp only [zsA] at h
    split at h
    · next hc =>
      have hE : (Int8.ofInt v).toInt32 = Int32.ofInt v := by
        apply Int32.toInt.inj
        rw [zR_toInt ⟨by omega, by omega⟩, Int8.toInt_toInt32, Int8.toInt_ofInt_of_le (by omega) (by omega)]
      cases h
      refine lv_bipush (v := Int32.ofInt v) hx hb hdg hE ?_
      exact kk rfl rfl ls hl (zPl.cons.mpr ⟨⟨by omega, by omega⟩, hp⟩)
    · cases h
  | sipush v =>
    simp only [zsw, zln, Bool.false_eq_true, false_or] at hz
    subst hz
    simp only [zsA] at h
    split at h
    · next hc =>
      have hE : (Int16.ofInt v).toInt32 = Int32.ofInt v := by
        apply Int32.toInt.inj
        rw [zR_toInt ⟨by omega, by omega⟩, Int16.toInt_toInt32, Int16.toInt_ofInt_of_le (by omega) (by omega)]
      cases h
      refine lv_sipush (v := Int32.ofInt v) hx hb hdg hE ?_
      exact kk rfl rfl ls hl (zPl.cons.mpr ⟨⟨by omega, by omega⟩, hp⟩)
    · cases h
  | lconst v =>
    simp only [zsw, zln, Bool.false_eq_true, false_or] at hz
    subst hz
    simp only [zsA] at h
    cases h
    refine lv_lconst (v := Int64.ofInt ((v : Nat) : Int)) hx hb hdg (by rw [Int64.ofInt_eq_ofNat]) ?_
    exact kk rfl rfl ls hl (zPl.cons.mpr ⟨⟨by omega, by omega⟩, hp⟩)
  | iload_n k =>
    simp only [zsw, zln, Bool.false_eq_true, false_or] at hz
    subst hz
    simp only [zsA] at h
    split at h
    · next v ev =>
      have e2 := zld_some ev
      cases h
      refine lv_iload_n hx hb hdg rfl (hl.2.2.2.1 _ _ e2) ?_
      exact kk rfl rfl ls hl (zPl.cons.mpr ⟨hl.2.2.2.2 _ _ e2, hp⟩)
    · cases h
  | iload k =>
    simp only [zsw, zln, Bool.false_eq_true, false_or] at hz
    subst hz
    simp only [zsA] at h
    split at h
    · next v ev =>
      have e2 := zld_some ev
      cases h
      refine lv_iload hx hb hdg (hl.2.2.2.1 _ _ e2) ?_
      exact kk rfl rfl ls hl (zPl.cons.mpr ⟨hl.2.2.2.2 _ _ e2, hp⟩)
    · cases h
  | lload_n k =>
    simp only [zsw, zln, Bool.false_eq_true, false_or] at hz
    subst hz
    simp only [zsA] at h
    split at h
    · next v ev =>
      have e2 := zld_some ev
      cases h
      refine lv_lload_n hx hb hdg rfl (hl.2.2.2.1 _ _ e2) ?_
      exact kk rfl rfl ls hl (zPl.cons.mpr ⟨hl.2.2.2.2 _ _ e2, hp⟩)
    · cases h
  | lload k =>
    simp only [zsw, zln, Bool.false_eq_true, false_or] at hz
    subst hz
    simp only [zsA] at h
    split at h
    · next v ev =>
      have e2 := zld_some ev
      cases h
      refine lv_lload hx hb hdg (hl.2.2.2.1 _ _ e2) ?_
      exact kk rfl rfl ls hl (zPl.cons.mpr ⟨hl.2.2.2.2 _ _ e2, hp⟩)
    · cases h
  | aload_n k =>
    simp only [zsw, zln, Bool.false_eq_true, false_or] at hz
    subst hz
    simp only [zsA] at h
    split at h
    · next v ev =>
      have e2 := zld_some ev
      split at h
      · next hc =>
        cases h
        obtain ⟨a, ha⟩ := zrv_ref (n := n) (ad := ad) hXt hc
        have e3 := hl.2.2.2.1 _ _ e2
        refine lv_aload_n (x := a) hx hb hdg rfl (by rw [e3]; show some (Slot.val (zrv sp ad v)) = _; rw [ha]) ?_
        have k9 := kk rfl rfl ls hl (zPl.cons.mpr ⟨hl.2.2.2.2 _ _ e2, hp⟩)
        rw [List.map_cons, show ztr sp ad (.inr (.inr v)) = Value.ref a from ha] at k9
        exact k9
      · cases h
    · cases h
  | aload k =>
    simp only [zsw, zln, Bool.false_eq_true, false_or] at hz
    subst hz
    simp only [zsA] at h
    split at h
    · next v ev =>
      have e2 := zld_some ev
      split at h
      · next hc =>
        cases h
        obtain ⟨a, ha⟩ := zrv_ref (n := n) (ad := ad) hXt hc
        have e3 := hl.2.2.2.1 _ _ e2
        refine lv_aload (x := a) hx hb hdg (by rw [e3]; show some (Slot.val (zrv sp ad v)) = _; rw [ha]) ?_
        have k9 := kk rfl rfl ls hl (zPl.cons.mpr ⟨hl.2.2.2.2 _ _ e2, hp⟩)
        rw [List.map_cons, show ztr sp ad (.inr (.inr v)) = Value.ref a from ha] at k9
        exact k9
      · cases h
    · cases h
  | istore_n k =>
    simp only [zsw, zln, Bool.false_eq_true, false_or] at hz
    subst hz
    rcases st with _ | ⟨v | v | v, st⟩ <;> simp only [zsA, reduceCtorEq] at h
    split at h
    · next hc =>
      cases h
      obtain ⟨h1, h2⟩ := zPl.cons.mp hp
      refine lv_istore_n hx hb hdg rfl hl.has (by rw [← hl.2.1]; exact hc) rfl (fun ls2 g2 => ?_)
      exact kk rfl rfl ls2 (hl.st1 hsp h1 g2) h2
    · cases h
  | istore k =>
    simp only [zsw, zln, Bool.false_eq_true, false_or] at hz
    subst hz
    rcases st with _ | ⟨v | v | v, st⟩ <;> simp only [zsA, reduceCtorEq] at h
    split at h
    · next hc =>
      cases h
      obtain ⟨h1, h2⟩ := zPl.cons.mp hp
      refine lv_istore hx hb hdg hl.has (by rw [← hl.2.1]; exact hc) rfl (fun ls2 g2 => ?_)
      exact kk rfl rfl ls2 (hl.st1 hsp h1 g2) h2
    · cases h
  | astore_n k =>
    simp only [zsw, zln, Bool.false_eq_true, false_or] at hz
    subst hz
    rcases st with _ | ⟨v | v | v, st⟩ <;> simp only [zsA, reduceCtorEq] at h
    split at h
    · next hc =>
      cases h
      obtain ⟨h1, h2⟩ := zPl.cons.mp hp
      obtain ⟨a, ha⟩ := zrv_ref (n := n) (ad := ad) hXt hc.2
      rw [List.map_cons, show ztr sp ad (.inr (.inr v)) = Value.ref a from ha]
      refine lv_astore_n hx hb hdg rfl hl.has (by rw [← hl.2.1]; exact hc.1) rfl (fun ls2 g2 => ?_)
      rw [← ha] at g2
      exact kk rfl rfl ls2 (hl.st1 hsp (w := .inr (.inr v)) h1 g2) h2
    · cases h
  | astore k =>
    simp only [zsw, zln, Bool.false_eq_true, false_or] at hz
    subst hz
    rcases st with _ | ⟨v | v | v, st⟩ <;> simp only [zsA, reduceCtorEq] at h
    split at h
    · next hc =>
      cases h
      obtain ⟨h1, h2⟩ := zPl.cons.mp hp
      obtain ⟨a, ha⟩ := zrv_ref (n := n) (ad := ad) hXt hc.2
      rw [List.map_cons, show ztr sp ad (.inr (.inr v)) = Value.ref a from ha]
      refine lv_astore hx hb hdg hl.has (by rw [← hl.2.1]; exact hc.1) rfl (fun ls2 g2 => ?_)
      rw [← ha] at g2
      exact kk rfl rfl ls2 (hl.st1 hsp (w := .inr (.inr v)) h1 g2) h2
    · cases h
  | lstore_n k =>
    simp only [zsw, zln, Bool.false_eq_true, false_or] at hz
    subst hz
    rcases st with _ | ⟨v | v | v, st⟩ <;> simp only [zsA, reduceCtorEq] at h
    split at h
    · next hc =>
      cases h
      obtain ⟨h1, h2⟩ := zPl.cons.mp hp
      refine lv_lstore_n hx hb hdg rfl hl.has (by rw [← hl.2.1]; exact hc) rfl (fun ls2 g2 => ?_)
      exact kk rfl rfl ls2 (hl.st2 hsp h1 g2) h2
    · cases h
  | lstore k =>
    simp only [zsw, zln, Bool.false_eq_true, false_or] at hz
    subst hz
    rcases st with _ | ⟨v | v | v, st⟩ <;> simp only [zsA, reduceCtorEq] at h
    split at h
    · next hc =>
      cases h
      obtain ⟨h1, h2⟩ := zPl.cons.mp hp
      refine lv_lstore hx hb hdg hl.has (by rw [← hl.2.1]; exact hc) rfl (fun ls2 g2 => ?_)
      exact kk rfl rfl ls2 (hl.st2 hsp h1 g2) h2
    · cases h
  | iinc k d =>
    simp only [zsw, zln, Bool.false_eq_true, false_or] at hz
    subst hz
    simp only [zsA] at h
    split at h
    · next hc =>
      split at h
      · next v ev =>
        have e2 := zld_some ev
        cases h
        obtain ⟨q, hq⟩ := List.getElem?_of_mem (zls_mem (sp := sp) (ad := ad) (q := (k, ztr sp ad (.inl v))) |>.mpr ⟨_, e2, rfl⟩)
        refine lv_iinc (v := Int32.ofInt (zw (v + d))) hx hb hdg hl.has hq (by rw [zw_of, Int32.ofInt_add]) (by rw [← hl.2.1]; exact hc) rfl (fun ls2 g2 => ?_)
        exact kk rfl rfl ls2 (hl.st1 hsp (w := .inl (zw (v + d))) (zw_R _) g2) hp
      · cases h
    · cases h
  | dup =>
    simp only [zsw, zln, Bool.false_eq_true, false_or] at hz
    subst hz
    rcases st with _ | ⟨v, st⟩ <;> simp only [zsA, reduceCtorEq] at h
    split at h
    · next hc =>
      cases h
      obtain ⟨h1, h2⟩ := zPl.cons.mp hp
      refine lv_dup hx hb hdg (by rw [ztr_cat sp ad hsp]; exact hc) ?_
      exact kk rfl rfl ls hl (zPl.cons.mpr ⟨h1, hp⟩)
    · cases h
  | dup2 =>
    simp only [zsw, zln, Bool.false_eq_true, false_or] at hz
    subst hz
    rcases st with _ | ⟨v, _ | ⟨w, st⟩⟩ <;> simp only [zsA, reduceCtorEq] at h
    split at h
    · next hc =>
      cases h
      obtain ⟨h1, h2⟩ := zPl.cons.mp hp
      obtain ⟨h3, h4⟩ := zPl.cons.mp h2
      refine lv_dup2_11 hx hb hdg (by rw [ztr_cat sp ad hsp]; exact hc.1) (by rw [ztr_cat sp ad hsp]; exact hc.2) ?_
      exact kk rfl rfl ls hl (zPl.cons.mpr ⟨h1, zPl.cons.mpr ⟨h3, hp⟩⟩)
    · cases h
  | pop =>
    simp only [zsw, zln, Bool.false_eq_true, false_or] at hz
    subst hz
    rcases st with _ | ⟨v, st⟩ <;> simp only [zsA, reduceCtorEq] at h
    split at h
    · next hc =>
      cases h
      obtain ⟨h1, h2⟩ := zPl.cons.mp hp
      refine lv_pop hx hb hdg (by rw [ztr_cat sp ad hsp]; exact hc) ?_
      exact kk rfl rfl ls hl h2
    · cases h
  | _ => simp [zsA] at h
set_option maxHeartbeats 4000000 in
theorem zsB_ok {i : Instr} {z pc pc2 : Nat} {lv lv2 : LVs} {st st2 : List AV} {n n2 : Nat} {sq sq2 : Pl} {ls : Array Slot}
    (C : zCtx p s m args meth c y o ini b nL cA dC dI sp xs L base) (hi : zi y pc = some (i, z)) (h : zsB o ini i z (pc, lv, st, n, sq) = some (pc2, lv2, st2, n2, sq2)) (hl : zLv sp ad n nL lv ls) (hp : zPl n st)
    (kk : n2 = n → sq2 = sq → ∀ ls2, zLv sp ad n nL lv2 ls2 → zPl n st2 → W p l e R s m args below meth c H locs cells slots Q (F0 m pc2 ls2 (st2.map (ztr sp ad)))) : W p l e R s m args below meth c H locs cells slots Q (F0 m pc ls (st.map (ztr sp ad))) := by
  obtain ⟨hx, hb, hml, hd, hown, hts, hK, hXt, hbs, hin⟩ := C
  obtain ⟨hdg, hz⟩ := hd _ _ _ hi
  have hsp := hXt.1
  cases i with
  | iadd =>
    simp only [zsw, zln, Bool.false_eq_true, false_or] at hz
    subst hz
    rcases st with _ | ⟨y | y | y, _ | ⟨x | x | x, st⟩⟩ <;> simp only [zsB, reduceCtorEq] at h
    cases h
    obtain ⟨hy, h2⟩ := zPl.cons.mp hp
    obtain ⟨hxx, h2⟩ := zPl.cons.mp h2
    refine lv_iadd hx hb hdg ?_
    rw [show Int32.ofInt x + Int32.ofInt y = Int32.ofInt (zw (x + y)) from by rw [zw_of, Int32.ofInt_add]]
    exact kk rfl rfl ls hl (zPl.cons.mpr ⟨zw_R _, h2⟩)
  | isub =>
    simp only [zsw, zln, Bool.false_eq_true, false_or] at hz
    subst hz
    rcases st with _ | ⟨y | y | y, _ | ⟨x | x | x, st⟩⟩ <;> simp only [zsB, reduceCtorEq] at h
    cases h
    obtain ⟨hy, h2⟩ := zPl.cons.mp hp
    obtain ⟨hxx, h2⟩ := zPl.cons.mp h2
    refine lv_isub hx hb hdg ?_
    rw [show Int32.ofInt x - Int32.ofInt y = Int32.ofInt (zw (x - y)) from by rw [zw_of, Int32.ofInt_sub]]
    exact kk rfl rfl ls hl (zPl.cons.mpr ⟨zw_R _, h2⟩)
  | imul =>
    simp only [zsw, zln, Bool.false_eq_true, false_or] at hz
    subst hz
    rcases st with _ | ⟨y | y | y, _ | ⟨x | x | x, st⟩⟩ <;> simp only [zsB, reduceCtorEq] at h
    cases h
    obtain ⟨hy, h2⟩ := zPl.cons.mp hp
    obtain ⟨hxx, h2⟩ := zPl.cons.mp h2
    refine lv_imul hx hb hdg ?_
    rw [show Int32.ofInt x * Int32.ofInt y = Int32.ofInt (zw (x * y)) from by rw [zw_of, Int32.ofInt_mul]]
    exact kk rfl rfl ls hl (zPl.cons.mpr ⟨zw_R _, h2⟩)
  | idiv =>
    simp only [zsw, zln, Bool.false_eq_true, false_or] at hz
    subst hz
    rcases st with _ | ⟨y | y | y, _ | ⟨x | x | x, st⟩⟩ <;> simp only [zsB, reduceCtorEq] at h
    split at h
    · cases h
    · next hc =>
      cases h
      obtain ⟨hy, h2⟩ := zPl.cons.mp hp
      obtain ⟨hxx, h2⟩ := zPl.cons.mp h2
      refine lv_idiv hx hb hdg (fun q => hc ((zR_eq hy zR0).mp (by rw [zI0]; exact q))) ?_
      rw [show Int32.ofInt x / Int32.ofInt y = Int32.ofInt (zdiv x y) from (zt_of _).symm]
      exact kk rfl rfl ls hl (zPl.cons.mpr ⟨zR_t _, h2⟩)
  | irem =>
    simp only [zsw, zln, Bool.false_eq_true, false_or] at hz
    subst hz
    rcases st with _ | ⟨y | y | y, _ | ⟨x | x | x, st⟩⟩ <;> simp only [zsB, reduceCtorEq] at h
    split at h
    · cases h
    · next hc =>
      cases h
      obtain ⟨hy, h2⟩ := zPl.cons.mp hp
      obtain ⟨hxx, h2⟩ := zPl.cons.mp h2
      refine lv_irem hx hb hdg (fun q => hc ((zR_eq hy zR0).mp (by rw [zI0]; exact q))) ?_
      rw [show Int32.ofInt x - Int32.ofInt x / Int32.ofInt y * Int32.ofInt y = Int32.ofInt (zrem x y) from (zt_of _).symm]
      exact kk rfl rfl ls hl (zPl.cons.mpr ⟨zR_t _, h2⟩)
  | ineg =>
    simp only [zsw, zln, Bool.false_eq_true, false_or] at hz
    subst hz
    rcases st with _ | ⟨x | x | x, st⟩ <;> simp only [zsB, reduceCtorEq] at h
    cases h
    obtain ⟨hxx, h2⟩ := zPl.cons.mp hp
    refine lv_ineg hx hb hdg ?_
    rw [show -Int32.ofInt x = Int32.ofInt (zw (-x)) from by rw [zw_of, Int32.ofInt_neg]]
    exact kk rfl rfl ls hl (zPl.cons.mpr ⟨zw_R _, h2⟩)
  | ishl =>
    simp only [zsw, zln, Bool.false_eq_true, false_or] at hz
    subst hz
    rcases st with _ | ⟨y | y | y, _ | ⟨x | x | x, st⟩⟩ <;> simp only [zsB, reduceCtorEq] at h
    cases h
    obtain ⟨hy, h2⟩ := zPl.cons.mp hp
    obtain ⟨hxx, h2⟩ := zPl.cons.mp h2
    refine lv_ishl hx hb hdg ?_
    rw [show Int32.ofInt x <<< (Int32.ofInt y &&& 31) = Int32.ofInt (zshl x y) from (zt_of _).symm]
    exact kk rfl rfl ls hl (zPl.cons.mpr ⟨zR_t _, h2⟩)
  | ishr =>
    simp only [zsw, zln, Bool.false_eq_true, false_or] at hz
    subst hz
    rcases st with _ | ⟨y | y | y, _ | ⟨x | x | x, st⟩⟩ <;> simp only [zsB, reduceCtorEq] at h
    cases h
    obtain ⟨hy, h2⟩ := zPl.cons.mp hp
    obtain ⟨hxx, h2⟩ := zPl.cons.mp h2
    refine lv_ishr hx hb hdg ?_
    rw [show Int32.ofInt x >>> (Int32.ofInt y &&& 31) = Int32.ofInt (zshr x y) from (zt_of _).symm]
    exact kk rfl rfl ls hl (zPl.cons.mpr ⟨zR_t _, h2⟩)
  | iand =>
    simp only [zsw, zln, Bool.false_eq_true, false_or] at hz
    subst hz
    rcases st with _ | ⟨y | y | y, _ | ⟨x | x | x, st⟩⟩ <;> simp only [zsB, reduceCtorEq] at h
    cases h
    obtain ⟨hy, h2⟩ := zPl.cons.mp hp
    obtain ⟨hxx, h2⟩ := zPl.cons.mp h2
    refine lv_iand hx hb hdg ?_
    rw [show Int32.ofInt x &&& Int32.ofInt y = Int32.ofInt (zand x y) from (zt_of _).symm]
    exact kk rfl rfl ls hl (zPl.cons.mpr ⟨zR_t _, h2⟩)
  | ior =>
    simp only [zsw, zln, Bool.false_eq_true, false_or] at hz
    subst hz
    rcases st with _ | ⟨y | y | y, _ | ⟨x | x | x, st⟩⟩ <;> simp only [zsB, reduceCtorEq] at h
    cases h
    obtain ⟨hy, h2⟩ := zPl.cons.mp hp
    obtain ⟨hxx, h2⟩ := zPl.cons.mp h2
    refine lv_ior hx hb hdg ?_
    rw [show Int32.ofInt x ||| Int32.ofInt y = Int32.ofInt (zor x y) from (zt_of _).symm]
    exact kk rfl rfl ls hl (zPl.cons.mpr ⟨zR_t _, h2⟩)
  | ixor =>
    simp only [zsw, zln, Bool.false_eq_true, false_or] at hz
    subst hz
    rcases st with _ | ⟨y | y | y, _ | ⟨x | x | x, st⟩⟩ <;> simp only [zsB, reduceCtorEq] at h
    cases h
    obtain ⟨hy, h2⟩ := zPl.cons.mp hp
    obtain ⟨hxx, h2⟩ := zPl.cons.mp h2
    refine lv_ixor hx hb hdg ?_
    rw [show Int32.ofInt x ^^^ Int32.ofInt y = Int32.ofInt (zxor x y) from (zt_of _).symm]
    exact kk rfl rfl ls hl (zPl.cons.mpr ⟨zR_t _, h2⟩)
  | iushr =>
    simp only [zsw, zln, Bool.false_eq_true, false_or] at hz
    subst hz
    rcases st with _ | ⟨y | y | y, _ | ⟨x | x | x, st⟩⟩ <;> simp only [zsB, reduceCtorEq] at h
    cases h
    obtain ⟨hy, h2⟩ := zPl.cons.mp hp
    obtain ⟨hxx, h2⟩ := zPl.cons.mp h2
    refine lv_iushr (v := Int32.ofInt (zushr x y)) hx hb hdg (zt_of _).symm ?_
    exact kk rfl rfl ls hl (zPl.cons.mpr ⟨zR_t _, h2⟩)
  | i2b =>
    simp only [zsw, zln, Bool.false_eq_true, false_or] at hz
    subst hz
    rcases st with _ | ⟨x | x | x, st⟩ <;> simp only [zsB, reduceCtorEq] at h
    cases h
    obtain ⟨hxx, h2⟩ := zPl.cons.mp hp
    refine lv_i2b (v := Int32.ofInt (zb8 x)) hx hb hdg (zt_of _).symm ?_
    exact kk rfl rfl ls hl (zPl.cons.mpr ⟨zR_t _, h2⟩)
  | i2s =>
    simp only [zsw, zln, Bool.false_eq_true, false_or] at hz
    subst hz
    rcases st with _ | ⟨x | x | x, st⟩ <;> simp only [zsB, reduceCtorEq] at h
    cases h
    obtain ⟨hxx, h2⟩ := zPl.cons.mp hp
    refine lv_i2s (v := Int32.ofInt (zs16 x)) hx hb hdg (zt_of _).symm ?_
    exact kk rfl rfl ls hl (zPl.cons.mpr ⟨zR_t _, h2⟩)
  | i2c =>
    simp only [zsw, zln, Bool.false_eq_true, false_or] at hz
    subst hz
    rcases st with _ | ⟨x | x | x, st⟩ <;> simp only [zsB, reduceCtorEq] at h
    cases h
    obtain ⟨hxx, h2⟩ := zPl.cons.mp hp
    refine lv_i2c (v := Int32.ofInt (zc16 x)) hx hb hdg (zt_of _).symm ?_
    exact kk rfl rfl ls hl (zPl.cons.mpr ⟨zR_t _, h2⟩)
  | i2l =>
    simp only [zsw, zln, Bool.false_eq_true, false_or] at hz
    subst hz
    rcases st with _ | ⟨x | x | x, st⟩ <;> simp only [zsB, reduceCtorEq] at h
    cases h
    obtain ⟨hxx, h2⟩ := zPl.cons.mp hp
    have hxx : zR x := hxx
    refine lv_i2l (v := Int64.ofInt x) hx hb hdg (Int64.toInt.inj (by rw [Int32.toInt_toInt64, zR_toInt hxx, zRl_toInt ⟨by have := hxx.1; omega, by have := hxx.2; omega⟩])) ?_
    exact kk rfl rfl ls hl (zPl.cons.mpr ⟨⟨by have := hxx.1; omega, by have := hxx.2; omega⟩, h2⟩)
  | l2i =>
    simp only [zsw, zln, Bool.false_eq_true, false_or] at hz
    subst hz
    rcases st with _ | ⟨x | x | x, st⟩ <;> simp only [zsB, reduceCtorEq] at h
    cases h
    obtain ⟨hxx, h2⟩ := zPl.cons.mp hp
    refine lv_l2i (v := Int32.ofInt (zw x)) hx hb hdg (by rw [zw_of, Int64.toInt32_ofInt]) ?_
    exact kk rfl rfl ls hl (zPl.cons.mpr ⟨zw_R _, h2⟩)
  | ladd =>
    simp only [zsw, zln, Bool.false_eq_true, false_or] at hz
    subst hz
    rcases st with _ | ⟨y | y | y, _ | ⟨x | x | x, st⟩⟩ <;> simp only [zsB, reduceCtorEq] at h
    cases h
    obtain ⟨hy, h2⟩ := zPl.cons.mp hp
    obtain ⟨hxx, h2⟩ := zPl.cons.mp h2
    refine lv_ladd hx hb hdg ?_
    rw [show Int64.ofInt x + Int64.ofInt y = Int64.ofInt (zl (x + y)) from by rw [zl_of, Int64.ofInt_add]]
    exact kk rfl rfl ls hl (zPl.cons.mpr ⟨zl_R _, h2⟩)
  | lmul =>
    simp only [zsw, zln, Bool.false_eq_true, false_or] at hz
    subst hz
    rcases st with _ | ⟨y | y | y, _ | ⟨x | x | x, st⟩⟩ <;> simp only [zsB, reduceCtorEq] at h
    cases h
    obtain ⟨hy, h2⟩ := zPl.cons.mp hp
    obtain ⟨hxx, h2⟩ := zPl.cons.mp h2
    refine lv_lmul hx hb hdg ?_
    rw [show Int64.ofInt x * Int64.ofInt y = Int64.ofInt (zl (x * y)) from by rw [zl_of, Int64.ofInt_mul]]
    exact kk rfl rfl ls hl (zPl.cons.mpr ⟨zl_R _, h2⟩)
  | lrem =>
    simp only [zsw, zln, Bool.false_eq_true, false_or] at hz
    subst hz
    rcases st with _ | ⟨y | y | y, _ | ⟨x | x | x, st⟩⟩ <;> simp only [zsB, reduceCtorEq] at h
    split at h
    · cases h
    · next hc =>
      cases h
      obtain ⟨hy, h2⟩ := zPl.cons.mp hp
      obtain ⟨hxx, h2⟩ := zPl.cons.mp h2
      refine lv_lrem hx hb hdg (fun q => hc (by have q2 := congrArg Int64.toInt q; rw [zRl_toInt hy] at q2; exact q2)) ?_
      rw [show Int64.ofInt x - Int64.ofInt x / Int64.ofInt y * Int64.ofInt y = Int64.ofInt (zlrem x y) from (ztl_of _).symm]
      exact kk rfl rfl ls hl (zPl.cons.mpr ⟨zRl_t _, h2⟩)
  | lcmp =>
    simp only [zsw, zln, Bool.false_eq_true, false_or] at hz
    subst hz
    rcases st with _ | ⟨y | y | y, _ | ⟨x | x | x, st⟩⟩ <;> simp only [zsB, reduceCtorEq] at h
    cases h
    obtain ⟨hy, h2⟩ := zPl.cons.mp hp
    obtain ⟨hxx, h2⟩ := zPl.cons.mp h2
    refine W.lcmp hx hb hdg ?_
    rw [show lg_cmp (Int64.ofInt x) (Int64.ofInt y) = Int32.ofInt (zlcmp x y) from by
      have e1 : Int64.ofInt y < Int64.ofInt x ↔ y < x := by rw [Int64.lt_iff_toInt_lt, zRl_toInt hxx, zRl_toInt hy]
      have e2 : Int64.ofInt x = Int64.ofInt y ↔ x = y := by rw [← Int64.toInt_inj, zRl_toInt hxx, zRl_toInt hy]
      unfold lg_cmp zlcmp
      by_cases q : y < x
      · rw [if_pos (show Int64.ofInt x > Int64.ofInt y from e1.mpr q), if_pos q]; rfl
      · rw [if_neg (show ¬ Int64.ofInt x > Int64.ofInt y from fun z => q (e1.mp z)), if_neg q]
        by_cases q2 : x = y
        · rw [if_pos (e2.mpr q2), if_pos q2]; rfl
        · rw [if_neg (fun z => q2 (e2.mp z)), if_neg q2]; rfl]
    exact kk rfl rfl ls hl (zPl.cons.mpr ⟨by show zR (zlcmp x y); unfold zlcmp; split; exact ⟨by decide, by decide⟩; split; exact ⟨by decide, by decide⟩; exact ⟨by decide, by decide⟩, h2⟩)
  | _ => simp [zsB] at h
end ZSND
end
section
/-! the machine does what the walker does: branches, constants of the pool, statics, reading cells. Written by wip/whole/gen/gen09.py -/
section ZSND
variable {p : Program} {l : Launch} {e : Env} {R : Room} {s : State} {m : MethodId} {args : Array Value} {below : List Frame} {meth : Method} {c : Code} {H : Heap} {locs : List Loc} {cells slots : Nat} {Q : State → Prop}
variable {y o : Nat} {ini : Bool} {b : ByteArray} {nL : Nat} {cA dC : Nat → ClassId} {dI : Nat → Nat → Nat} {sp : Nat → Value} {xs : Nat → Int} {L base : Nat} {ad : Nat → Nat}

theorem zf_ck {oq idx : Nat} {eq0 : Nat × Nat × Int} (h : zw_ck.find? (fun e => e.1 == oq && e.2.1 == idx) = some eq0) : eq0 ∈ zw_ck ∧ eq0.1 = oq ∧ eq0.2.1 = idx := by
  have h1 := List.find?_some h
  simp only [Bool.and_eq_true, beq_iff_eq] at h1
  exact ⟨List.mem_of_find?_eq_some h, h1.1, h1.2⟩
theorem zf_ck2 {oq idx : Nat} {eq0 : Nat × Nat × Int} (h : zw_cq.find? (fun e => e.1 == oq && e.2.1 == idx) = some eq0) : eq0 ∈ zw_cq ∧ eq0.1 = oq ∧ eq0.2.1 = idx := by
  have h1 := List.find?_some h
  simp only [Bool.and_eq_true, beq_iff_eq] at h1
  exact ⟨List.mem_of_find?_eq_some h, h1.1, h1.2⟩
theorem zck_R : ∀ eq0 ∈ zw_ck, -2147483648 ≤ eq0.2.2 ∧ eq0.2.2 < 2147483648 := by decide +kernel
theorem zcq_R : ∀ eq0 ∈ zw_cq, -9223372036854775808 ≤ eq0.2.2 ∧ eq0.2.2 < 9223372036854775808 := by decide +kernel
theorem zldc_int {oq idx : Nat} {v : Int} (h : zldc oq idx = some (.inl v)) : (oq, idx, v) ∈ zw_ck := by
  unfold zldc at h
  split at h
  · cases h
  · split at h
    · cases h
    · split at h
      · next eq0 h0 =>
        obtain ⟨h1, h2, h3⟩ := zf_ck h0
        cases h
        obtain ⟨a1, a2, a3⟩ := eq0
        dsimp only at h2 h3
        rw [← h2, ← h3]
        exact h1
      · cases h
theorem zldc2_long {oq idx : Nat} {v : AV} (h : zldc2 oq idx = some v) : ∃ w : Int, v = .inr (.inl w) ∧ (oq, idx, w) ∈ zw_cq := by
  unfold zldc2 at h
  split at h
  · next eq0 h0 =>
    obtain ⟨h1, h2, h3⟩ := zf_ck2 h0
    cases h
    obtain ⟨a1, a2, a3⟩ := eq0
    dsimp only at h2 h3
    rw [← h2, ← h3]
    exact ⟨_, rfl, h1⟩
  · cases h
theorem zldc_ref {oq idx cq : Nat} (h : zldc oq idx = some (.inr (.inr cq))) : (oq = 7 ∧ idx = 42 ∧ cq = 100002) ∨ (oq = 2 ∧ idx = 94 ∧ cq = 100003) := by
  unfold zldc at h
  split at h
  · next hc => cases h; exact Or.inl ⟨hc.1, hc.2, rfl⟩
  · split at h
    · next hc => cases h; exact Or.inr ⟨hc.1, hc.2, rfl⟩
    · split at h
      · cases h
      · cases h
theorem zldc_nol {oq idx : Nat} {w : Int} (h : zldc oq idx = some (.inr (.inl w))) : False := by
  unfold zldc at h
  split at h
  · cases h
  · split at h
    · cases h
    · split at h
      · cases h
      · cases h
theorem zgs_some {oq idx : Nat} {v : AV} (h : zgs oq idx = some v) : (oq = 7 ∧ idx = 315 ∧ v = .inr (.inr 100000)) ∨ (oq = 0 ∧ idx = 69 ∧ v = .inr (.inr 100001)) ∨ (oq = 3 ∧ idx = 123 ∧ v = .inr (.inr 100001)) ∨ (oq = 9 ∧ idx = 38 ∧ v = .inl 1) ∨ (oq = 9 ∧ idx = 1053 ∧ v = .inr (.inr 100007)) := by
  unfold zgs at h
  split at h
  · next hc => cases h; exact Or.inl ⟨hc.1, hc.2, rfl⟩
  · split at h
    · next hc =>
      cases h
      rcases hc with hc | hc
      · exact Or.inr (Or.inl ⟨hc.1, hc.2, rfl⟩)
      · exact Or.inr (Or.inr (Or.inl ⟨hc.1, hc.2, rfl⟩))
    · split at h
      · next hc => cases h; exact Or.inr (Or.inr (Or.inr (Or.inl ⟨hc.1, hc.2, rfl⟩)))
      · split at h
        · next hc => cases h; exact Or.inr (Or.inr (Or.inr (Or.inr ⟨hc.1, hc.2, rfl⟩)))
        · cases h
theorem zsf_link {eq0 : Nat × Nat × String × String × String} (hts : ∀ w ∈ zgw, w.before args s = true) (h : eq0 ∈ zw_sf) : (Cond.fieldLink (zc_n eq0.1) eq0.2.1 eq0.2.2.1 eq0.2.2.2.1 eq0.2.2.2.2).before args s = true := hts _ (zw_sf_ok h)
theorem zrv_giv {j : Nat} (ad : Nat → Nat) : zrv sp ad (100000 + j) = sp j := by
  unfold zrv
  rw [if_neg (by omega), if_neg (by omega), show 100000 + j - 100000 = j from by omega]
set_option maxHeartbeats 4000000 in
theorem zsC_ok (hS9 : va_S (zA base) s.heap H locs) {i : Instr} {z pc pc2 : Nat} {lv lv2 : LVs} {st st2 : List AV} {n n2 : Nat} {sq sq2 : Pl} {ls : Array Slot}
    (C : zCtx p s m args meth c y o ini b nL cA dC dI sp xs L base) (hi : zi y pc = some (i, z)) (h : zsC o ini i z (pc, lv, st, n, sq) = some (pc2, lv2, st2, n2, sq2)) (hl : zLv sp ad n nL lv ls) (hp : zPl n st)
    (kk : n2 = n → sq2 = sq → ∀ ls2, zLv sp ad n nL lv2 ls2 → zPl n st2 → W p l e R s m args below meth c H locs cells slots Q (F0 m pc2 ls2 (st2.map (ztr sp ad)))) : W p l e R s m args below meth c H locs cells slots Q (F0 m pc ls (st.map (ztr sp ad))) := by
  obtain ⟨hx, hb, hml, hd, hown, hts, hK, hXt, hbs, hin⟩ := C
  obtain ⟨hdg, hz⟩ := hd _ _ _ hi
  have hsp := hXt.1
  cases i with
  | goto d =>
    simp only [zsw, zln, Bool.false_eq_true, false_or] at hz
    subst hz
    simp only [zsC] at h
    split at h
    · next qq hq =>
      cases h
      refine lv_goto hx hb hdg (zbr_some hq) ?_
      exact kk rfl rfl ls hl hp
    · cases h
  | ifCond cq d =>
    simp only [zsw, zln, Bool.false_eq_true, false_or] at hz
    subst hz
    rcases st with _ | ⟨x | x | x, st⟩ <;> simp only [zsC, reduceCtorEq] at h
    split at h
    · next qq hq =>
      cases h
      obtain ⟨hxx, h2⟩ := zPl.cons.mp hp
      have hy := zR0
      have k9 := fun hq2 : zPl n _ => kk rfl rfl ls hl hq2
      cases cq with
      | eq =>
        have hw := zR_eq hxx hy
        rw [zI0] at hw
        refine lv_if_eq hx hb hdg (zbr_some hq) (fun hc => ?_) (fun hc => ?_)
        · have e9 : zcp .eq x 0 = true := decide_eq_true (hw.mp hc)
          rw [if_pos e9] at k9
          exact k9 h2
        · have e9 : ¬ zcp .eq x 0 = true := fun w9 => (fun w => hc (hw.mpr w)) (of_decide_eq_true w9)
          rw [if_neg e9] at k9
          exact k9 h2
      | ne =>
        have hw := zR_eq hxx hy
        rw [zI0] at hw
        refine lv_if_ne hx hb hdg (zbr_some hq) (fun hc => ?_) (fun hc => ?_)
        · have e9 : zcp .ne x 0 = true := decide_eq_true (fun w => hc (hw.mpr w))
          rw [if_pos e9] at k9
          exact k9 h2
        · have e9 : ¬ zcp .ne x 0 = true := fun w9 => (fun w => w (hw.mp hc)) (of_decide_eq_true w9)
          rw [if_neg e9] at k9
          exact k9 h2
      | lt =>
        have hw := zR_lt hxx hy
        rw [zI0] at hw
        refine lv_if_lt hx hb hdg (zbr_some hq) (fun hc => ?_) (fun hc => ?_)
        · have e9 : zcp .lt x 0 = true := decide_eq_true (hw.mp hc)
          rw [if_pos e9] at k9
          exact k9 h2
        · have e9 : ¬ zcp .lt x 0 = true := fun w9 => (fun w => hc (hw.mpr w)) (of_decide_eq_true w9)
          rw [if_neg e9] at k9
          exact k9 h2
      | ge =>
        have hw := zR_le hy hxx
        rw [zI0] at hw
        refine lv_if_ge hx hb hdg (zbr_some hq) (fun hc => ?_) (fun hc => ?_)
        · have e9 : zcp .ge x 0 = true := decide_eq_true (hw.mp hc)
          rw [if_pos e9] at k9
          exact k9 h2
        · have e9 : ¬ zcp .ge x 0 = true := fun w9 => (fun w => hc (hw.mpr w)) (of_decide_eq_true w9)
          rw [if_neg e9] at k9
          exact k9 h2
      | gt =>
        have hw := zR_lt hy hxx
        rw [zI0] at hw
        refine lv_if_gt hx hb hdg (zbr_some hq) (fun hc => ?_) (fun hc => ?_)
        · have e9 : zcp .gt x 0 = true := decide_eq_true (hw.mp hc)
          rw [if_pos e9] at k9
          exact k9 h2
        · have e9 : ¬ zcp .gt x 0 = true := fun w9 => (fun w => hc (hw.mpr w)) (of_decide_eq_true w9)
          rw [if_neg e9] at k9
          exact k9 h2
      | le =>
        have hw := zR_le hxx hy
        rw [zI0] at hw
        refine lv_if_le hx hb hdg (zbr_some hq) (fun hc => ?_) (fun hc => ?_)
        · have e9 : zcp .le x 0 = true := decide_eq_true (hw.mp hc)
          rw [if_pos e9] at k9
          exact k9 h2
        · have e9 : ¬ zcp .le x 0 = true := fun w9 => (fun w => hc (hw.mpr w)) (of_decide_eq_true w9)
          rw [if_neg e9] at k9
          exact k9 h2
    · cases h
  | if_icmp cq d =>
    simp only [zsw, zln, Bool.false_eq_true, false_or] at hz
    subst hz
    rcases st with _ | ⟨y | y | y, _ | ⟨x | x | x, st⟩⟩ <;> simp only [zsC, reduceCtorEq] at h
    split at h
    · next qq hq =>
      cases h
      obtain ⟨hy, h2⟩ := zPl.cons.mp hp
      obtain ⟨hxx, h2⟩ := zPl.cons.mp h2
      have k9 := fun hq2 : zPl n _ => kk rfl rfl ls hl hq2
      cases cq with
      | eq =>
        have hw := zR_eq hxx hy
        refine lv_icmp_eq hx hb hdg (zbr_some hq) (fun hc => ?_) (fun hc => ?_)
        · have e9 : zcp .eq x y = true := decide_eq_true (hw.mp hc)
          rw [if_pos e9] at k9
          exact k9 h2
        · have e9 : ¬ zcp .eq x y = true := fun w9 => (fun w => hc (hw.mpr w)) (of_decide_eq_true w9)
          rw [if_neg e9] at k9
          exact k9 h2
      | ne =>
        have hw := zR_eq hxx hy
        refine lv_icmp_ne hx hb hdg (zbr_some hq) (fun hc => ?_) (fun hc => ?_)
        · have e9 : zcp .ne x y = true := decide_eq_true (fun w => hc (hw.mpr w))
          rw [if_pos e9] at k9
          exact k9 h2
        · have e9 : ¬ zcp .ne x y = true := fun w9 => (fun w => w (hw.mp hc)) (of_decide_eq_true w9)
          rw [if_neg e9] at k9
          exact k9 h2
      | lt =>
        have hw := zR_lt hxx hy
        refine lv_icmp_lt hx hb hdg (zbr_some hq) (fun hc => ?_) (fun hc => ?_)
        · have e9 : zcp .lt x y = true := decide_eq_true (hw.mp hc)
          rw [if_pos e9] at k9
          exact k9 h2
        · have e9 : ¬ zcp .lt x y = true := fun w9 => (fun w => hc (hw.mpr w)) (of_decide_eq_true w9)
          rw [if_neg e9] at k9
          exact k9 h2
      | ge =>
        have hw := zR_le hy hxx
        refine lv_icmp_ge hx hb hdg (zbr_some hq) (fun hc => ?_) (fun hc => ?_)
        · have e9 : zcp .ge x y = true := decide_eq_true (hw.mp hc)
          rw [if_pos e9] at k9
          exact k9 h2
        · have e9 : ¬ zcp .ge x y = true := fun w9 => (fun w => hc (hw.mpr w)) (of_decide_eq_true w9)
          rw [if_neg e9] at k9
          exact k9 h2
      | gt =>
        have hw := zR_lt hy hxx
        refine lv_icmp_gt hx hb hdg (zbr_some hq) (fun hc => ?_) (fun hc => ?_)
        · have e9 : zcp .gt x y = true := decide_eq_true (hw.mp hc)
          rw [if_pos e9] at k9
          exact k9 h2
        · have e9 : ¬ zcp .gt x y = true := fun w9 => (fun w => hc (hw.mpr w)) (of_decide_eq_true w9)
          rw [if_neg e9] at k9
          exact k9 h2
      | le =>
        have hw := zR_le hxx hy
        refine lv_icmp_le hx hb hdg (zbr_some hq) (fun hc => ?_) (fun hc => ?_)
        · have e9 : zcp .le x y = true := decide_eq_true (hw.mp hc)
          rw [if_pos e9] at k9
          exact k9 h2
        · have e9 : ¬ zcp .le x y = true := fun w9 => (fun w => hc (hw.mpr w)) (of_decide_eq_true w9)
          rw [if_neg e9] at k9
          exact k9 h2
    · cases h
  | tableswitch d lo hi offs =>
    clear hz
    rcases st with _ | ⟨x | x | x, st⟩ <;> simp only [zsC, reduceCtorEq] at h
    obtain ⟨hxx, h2⟩ := zPl.cons.mp hp
    have hv : (Int32.ofInt x).toInt = x := zR_toInt hxx
    split at h
    · next hc =>
      split at h
      · next qq hq =>
        cases h
        refine lv_tableOut hx hb hdg (by rw [hv]; exact hc) (zbr_some hq) ?_
        exact kk rfl rfl ls hl h2
      · cases h
    · next hc =>
      split at h
      · next off ho =>
        split at h
        · next qq hq =>
          cases h
          refine lv_tableIn hx hb hdg (by rw [hv]; exact fun w => hc (Or.inl w)) (by rw [hv]; exact fun w => hc (Or.inr w)) (by rw [hv]; exact ho) (zbr_some hq) ?_
          exact kk rfl rfl ls hl h2
        · cases h
      · cases h
  | lookupswitch d ps =>
    clear hz
    rcases st with _ | ⟨x | x | x, st⟩ <;> simp only [zsC, reduceCtorEq] at h
    obtain ⟨hxx, h2⟩ := zPl.cons.mp hp
    have hv : (Int32.ofInt x).toInt = x := zR_toInt hxx
    split at h
    · next hc =>
      split at h
      · next qq hq =>
        cases h
        refine lv_lookup hx hb hdg hc (by rw [hv]) (zbr_some hq) ?_
        exact kk rfl rfl ls hl h2
      · cases h
    · cases h
  | ldc idx =>
    simp only [zsw, zln, Bool.false_eq_true, false_or] at hz
    subst hz
    simp only [zsC] at h
    split at h
    · next v hv =>
      cases h
      rcases v with v | v | v
      · have hm := zldc_int hv
        refine lv_ldc (v := Int32.ofInt v) hx hb hown (hts _ (zw_ck_ok hm)) hdg ?_
        exact kk rfl rfl ls hl (zPl.cons.mpr ⟨zck_R _ hm, hp⟩)
      · exact absurd (zldc_nol hv) id
      · obtain ⟨-, tq, g1, -, -, -, -, -, -, -, -, -, g11, g12, -⟩ := hXt
        rcases zldc_ref hv with ⟨r1, r2, r3⟩ | ⟨r1, r2, r3⟩
        · subst r1; subst r2; subst r3
          refine va_ldcS hx hb hown g11 hdg ?_
          have k9 := kk rfl rfl ls hl (zPl.cons.mpr ⟨Or.inr (by decide), hp⟩)
          rw [List.map_cons] at k9
          rw [show ztr sp ad (.inr (.inr 100002)) = Value.ref (tq 2) from (zrv_giv (j := 2) ad).trans (g1 2 (by decide))] at k9
          exact k9
        · subst r1; subst r2; subst r3
          refine va_ldcS hx hb hown g12 hdg ?_
          have k9 := kk rfl rfl ls hl (zPl.cons.mpr ⟨Or.inr (by decide), hp⟩)
          rw [List.map_cons] at k9
          rw [show ztr sp ad (.inr (.inr 100003)) = Value.ref (tq 3) from (zrv_giv (j := 3) ad).trans (g1 3 (by decide))] at k9
          exact k9
    · cases h
  | ldc_w idx =>
    simp only [zsw, zln, Bool.false_eq_true, false_or] at hz
    subst hz
    simp only [zsC] at h
    split at h
    · next v hv =>
      cases h
      have hm := zldc_int hv
      refine lv_ldcw (v := Int32.ofInt v) hx hb hown (hts _ (zw_ck_ok hm)) hdg ?_
      exact kk rfl rfl ls hl (zPl.cons.mpr ⟨zck_R _ hm, hp⟩)
    · cases h
  | ldc2_w idx =>
    simp only [zsw, zln, Bool.false_eq_true, false_or] at hz
    subst hz
    simp only [zsC] at h
    split at h
    · next v hv =>
      cases h
      obtain ⟨w, rfl, hm⟩ := zldc2_long hv
      refine lv_ldc2 (v := Int64.ofInt w) hx hb hown (hts _ (zw_cq_ok hm)) hdg ?_
      exact kk rfl rfl ls hl (zPl.cons.mpr ⟨zcq_R _ hm, hp⟩)
    · cases h
  | getstatic idx =>
    simp only [zsw, zln, Bool.false_eq_true, false_or] at hz
    subst hz
    simp only [zsC] at h
    split at h
    · next v hv =>
      cases h
      obtain ⟨-, tq, g1, -, -, -, -, -, g7, g8, g9, g10, -⟩ := hXt
      rcases zgs_some hv with ⟨r1, r2, r3⟩ | ⟨r1, r2, r3⟩ | ⟨r1, r2, r3⟩ | ⟨r1, r2, r3⟩ | ⟨r1, r2, r3⟩
      · subst r1; subst r2; subst r3
        refine va_gets hx hb g7 hS9 hown (zsf_link (eq0 := (7, 315, "OneForOne", "KIND_ABOVE", "[I")) hts (by decide +kernel)) (fun _ h9 => h9) hdg ?_
        have k9 := kk rfl rfl ls hl (zPl.cons.mpr ⟨Or.inr (by decide), hp⟩)
        rw [List.map_cons, show ztr sp ad (.inr (.inr 100000)) = sp 0 from zrv_giv (j := 0) ad] at k9
        exact k9
      · subst r1; subst r2; subst r3
        refine va_gets hx hb g8 hS9 hown (zsf_link (eq0 := (0, 69, "OneForOne$Lake", "STEP", "[I")) hts (by decide +kernel)) (fun _ h9 => h9) hdg ?_
        have k9 := kk rfl rfl ls hl (zPl.cons.mpr ⟨Or.inr (by decide), hp⟩)
        rw [List.map_cons, show ztr sp ad (.inr (.inr 100001)) = sp 1 from zrv_giv (j := 1) ad] at k9
        exact k9
      · subst r1; subst r2; subst r3
        refine va_gets hx hb g8 hS9 hown (zsf_link (eq0 := (3, 123, "OneForOne$Lake", "STEP", "[I")) hts (by decide +kernel)) (fun _ h9 => h9) hdg ?_
        have k9 := kk rfl rfl ls hl (zPl.cons.mpr ⟨Or.inr (by decide), hp⟩)
        rw [List.map_cons, show ztr sp ad (.inr (.inr 100001)) = sp 1 from zrv_giv (j := 1) ad] at k9
        exact k9
      · subst r1; subst r2; subst r3
        refine va_gets hx hb g9 hS9 hown (zsf_link (eq0 := (9, 38, "java/lang/String", "COMPACT_STRINGS", "Z")) hts (by decide +kernel)) (fun _ h9 => h9) hdg ?_
        exact kk rfl rfl ls hl (zPl.cons.mpr ⟨⟨by decide, by decide⟩, hp⟩)
      · subst r1; subst r2; subst r3
        refine va_gets hx hb g10 hS9 hown (zsf_link (eq0 := (9, 1053, "jdk/internal/util/Preconditions", "SIOOBE_FORMATTER", "Ljava/util/function/BiFunction;")) hts (by decide +kernel)) (fun _ h9 => h9) hdg ?_
        have k9 := kk rfl rfl ls hl (zPl.cons.mpr ⟨Or.inr (by decide), hp⟩)
        rw [List.map_cons, show ztr sp ad (.inr (.inr 100007)) = sp 7 from zrv_giv (j := 7) ad] at k9
        exact k9
    · cases h
  | _ => simp [zsC] at h
end ZSND
end
section
/-! the machine does what the walker does: reading cells -/
theorem zcl_get : ∀ ci, ci < 9 → classes[ci]? = some (zc_n ci, zf_T ci, zf_n ci) := by
  intro ci h
  match ci, h with
  | 0, _ => rfl
  | 1, _ => rfl
  | 2, _ => rfl
  | 3, _ => rfl
  | 4, _ => rfl
  | 5, _ => rfl
  | 6, _ => rfl
  | 7, _ => rfl
  | 8, _ => rfl
theorem zla_in : ∀ ci, ci < 9 → ∀ k, k < zf_n ci → (ci, k) ∈ zw_la := by decide +kernel
theorem zcl_in {ci : Nat} (h : ci < 9) : ∀ w ∈ u_ws (zc_n ci) (zf_T ci) (zf_n ci), w ∈ zgw := by
  intro w hw
  unfold u_ws at hw
  obtain ⟨k, hk, rfl⟩ := List.mem_map.mp hw
  exact zw_la_ok (e := (ci, k)) (zla_in ci h k (List.mem_range.mp hk))
theorem zfd_lt : ∀ e ∈ zw_fd, e.2.2.1 < 9 ∧ e.2.2.2 < zf_n e.2.2.1 := by decide +kernel
theorem zfd_some {oq idx ci k t : Nat} (h : zfd oq idx = some (ci, k, t)) : (oq, idx, ci, k) ∈ zw_fd ∧ ci < 9 ∧ k < zf_n ci ∧ t = (zf ci k).2.2.2 := by
  unfold zfd at h
  split at h
  · next e0 h0 =>
    have h1 := List.find?_some h0
    have h2 := List.mem_of_find?_eq_some h0
    simp only [Bool.and_eq_true, beq_iff_eq] at h1
    obtain ⟨a1, a2, a3, a4⟩ := e0
    dsimp only at h1 h
    cases h
    obtain ⟨g1, g2⟩ := zfd_lt _ h2
    rw [h1.1, h1.2] at h2
    exact ⟨h2, g1, g2, rfl⟩
  · cases h
theorem zsh_objL : ∀ a, a < zsh_L.length → (zsh a).1 < 9 → (zsh a).2 = zf_n (zsh a).1 := by decide +kernel
theorem zsh_out {a : Nat} (h : zsh_L.length ≤ a) : zsh a = (99, 0) := by
  unfold zsh
  rw [List.getD_eq_getElem?_getD, List.getElem?_eq_none h]
  rfl
theorem zsh_obj {a : Nat} (h : (zsh a).1 < 9) : (zsh a).2 = zf_n (zsh a).1 := by
  rcases Nat.lt_or_ge a zsh_L.length with q | q
  · exact zsh_objL a q h
  · rw [zsh_out q] at h
    exact absurd h (by decide)
theorem zsh_lenL : ∀ a, a < zsh_L.length → (zsh a).2 ≤ 4096 := by decide +kernel
theorem zsh_len (a : Nat) : (zsh a).2 ≤ 4096 := by
  rcases Nat.lt_or_ge a zsh_L.length with q | q
  · exact zsh_lenL a q
  · rw [zsh_out q]
    decide
def zfs (ad : Nat → Nat) (s : Pl) (k : Nat) : List Value := (List.range (zsh k).2).map fun j => if (zf (zsh k).1 j).2.2.2 = 1 then va_rf (zrc ad (s k j).toNat) else .int (Int32.ofInt (s k j))
theorem zent_obj {cA : Nat → ClassId} {ad : Nat → Nat} {s : Pl} {k ci : Nat} (h : (zsh k).1 = ci) (h9 : ci < 9) : zent cA ad s k = .inr (ci, zfs ad s k) := by
  unfold zent zfs
  rw [if_pos (by omega), h]
theorem zent_num {cA : Nat → ClassId} {ad : Nat → Nat} {s : Pl} {k ci : Nat} (h : (zsh k).1 = ci) (h1 : 20 ≤ ci) (h2 : ci < 23) : zent cA ad s k = .inl (cA ci, ((zsh k).2, .inl fun j => Int32.ofInt (s k j))) := by
  unfold zent
  rw [if_neg (by omega), if_pos (by omega), h]
theorem zent_ref {cA : Nat → ClassId} {ad : Nat → Nat} {s : Pl} {k ci : Nat} (h : (zsh k).1 = ci) (h1 : 23 ≤ ci) : zent cA ad s k = .inl (cA ci, ((zsh k).2, .inr (.inr (.inr (.inr fun j => zrc ad (s k j).toNat))))) := by
  unfold zent
  rw [if_neg (by omega), if_neg (by omega), h]
theorem zfs_get {ad : Nat → Nat} {s : Pl} {k j : Nat} (h : j < (zsh k).2) : (zfs ad s k)[j]? = some (if (zf (zsh k).1 j).2.2.2 = 1 then va_rf (zrc ad (s k j).toNat) else .int (Int32.ofInt (s k j))) := by
  unfold zfs
  rw [List.getElem?_map, List.getElem?_range h]
  rfl
theorem zrv_cell {sp : Nat → Value} {ad : Nat → Nat} {cq : Nat} (h1 : 1 ≤ cq) (h2 : cq < 100000) : zrv sp ad cq = .ref (ad (cq - 1)) := by
  unfold zrv
  rw [if_neg (by omega), if_pos h2]
theorem zgv_R : ∀ l ∈ zgv_L, ∀ v ∈ l, -1 ≤ v ∧ v ≤ 12500 := by decide +kernel
theorem zgiv_R {xs : Nat → Int} {L j : Nat} (h : ∀ j, zR (xs j)) (i : Int) : zR ((zgiv xs L j).2 i) := by
  unfold zgiv
  split
  · exact h _
  · show zR ((zgv_L.getD j []).getD i.toNat 0)
    have h1 : ∀ v ∈ zgv_L.getD j [], -1 ≤ v ∧ v ≤ 12500 := by
      rw [List.getD_eq_getElem?_getD]
      cases e0 : zgv_L[j]? with
      | none => intro v hv; cases hv
      | some l0 => exact zgv_R l0 (List.mem_of_getElem? e0)
    rw [List.getD_eq_getElem?_getD]
    cases e1 : (zgv_L.getD j [])[i.toNat]? with
    | none => exact ⟨by decide, by decide⟩
    | some v =>
      have h2 := h1 v (List.mem_of_getElem? e1)
      exact ⟨by show -2147483648 ≤ v; omega, by show v < 2147483648; omega⟩
theorem zgiv_len {xs : Nat → Int} {L j : Nat} (hL : L < 2147483648) : (zgiv xs L j).1 < 2147483648 := by
  unfold zgiv
  split
  · exact hL
  · show (zgv_L.getD j []).length < _
    have h1 : ∀ l ∈ zgv_L, l.length < 2147483648 := by decide +kernel
    rw [List.getD_eq_getElem?_getD]
    cases e0 : zgv_L[j]? with
    | none => decide
    | some l0 => exact h1 l0 (List.mem_of_getElem? e0)
section ZSND
variable {p : Program} {l : Launch} {e : Env} {R : Room} {s : State} {m : MethodId} {args : Array Value} {below : List Frame} {meth : Method} {c : Code} {H : Heap} {locs : List Loc} {cells slots : Nat} {Q : State → Prop}
variable {y o : Nat} {ini : Bool} {b : ByteArray} {nL : Nat} {cA dC : Nat → ClassId} {dI : Nat → Nat → Nat} {sp : Nat → Value} {xs : Nat → Int} {L base : Nat} {ad : Nat → Nat}
theorem zfd_link {oq idx ci k : Nat} (hts : ∀ w ∈ zgw, w.before args s = true) (h : (oq, idx, ci, k) ∈ zw_fd) : (Cond.fieldLink (zc_n oq) idx (zc_n ci) (zf_T ci k).2.1 (zf_T ci k).2.2.1).before args s = true := hts _ (zw_fd_ok h)
theorem zsf_link2 {eq0 : Nat × Nat × String × String × String} (hts : ∀ w ∈ zgw, w.before args s = true) (h : eq0 ∈ zw_sf) : (Cond.fieldLink (zc_n eq0.1) eq0.2.1 eq0.2.2.1 eq0.2.2.2.1 eq0.2.2.2.2).before args s = true := hts _ (zw_sf_ok h)
set_option maxHeartbeats 4000000 in
theorem zsD_ok {i : Instr} {z pc pc2 : Nat} {lv lv2 : LVs} {st st2 : List AV} {n n2 : Nat} {sq sq2 : Pl} {ls : Array Slot}
    (C : zCtx p s m args meth c y o ini b nL cA dC dI sp xs L base) (hi : zi y pc = some (i, z)) (h : zsD xs L o ini i z (pc, lv, st, n, sq) = some (pc2, lv2, st2, n2, sq2)) (hl : zLv sp ad n nL lv ls) (hp : zPl n st) (hH : zHp s cA dC dI base ad n sq H locs)
    (kk : n2 = n → sq2 = sq → ∀ ls2, zLv sp ad n nL lv2 ls2 → zPl n st2 → W p l e R s m args below meth c H locs cells slots Q (F0 m pc2 ls2 (st2.map (ztr sp ad)))) : W p l e R s m args below meth c H locs cells slots Q (F0 m pc ls (st.map (ztr sp ad))) := by
  obtain ⟨hx, hb, hml, hd, hown, hts, hK, hXt, hbs, hin⟩ := C
  obtain ⟨hdg, hz⟩ := hd _ _ _ hi
  obtain ⟨⟨hR, hRf, hn⟩, hP, hD, hS⟩ := hH
  have hsp := hXt.1
  obtain ⟨-, tq, g1, gL, gX, gI, gB, gS, -⟩ := hXt
  cases i with
  | getfield idx =>
    simp only [zsw, zln, Bool.false_eq_true, false_or] at hz
    subst hz
    rcases st with _ | ⟨cq | cq | cq, st⟩ <;> simp only [zsD, reduceCtorEq] at h
    obtain ⟨h1, h2⟩ := zPl.cons.mp hp
    split at h
    · next hc =>
      split at h
      · next v hv =>
        cases h
        unfold zsfd at hv
        split at hv
        · next ho =>
          obtain ⟨rfl, hj⟩ := ho
          obtain ⟨s1, s2, s3⟩ := gS _ hj
          have hcq : 100000 + (cq - 100000) = cq := by omega
          have e1 : ztr sp ad (.inr (.inr cq)) = Value.ref (tq (cq - 100000)) := by
            rw [← hcq]
            refine (zrv_giv (j := cq - 100000) ad).trans ?_
            rw [show 100000 + (cq - 100000) - 100000 = cq - 100000 from by omega]
            exact g1 _ (by omega)
          rw [List.map_cons, e1]
          split at hv
          · next hi9 =>
            cases hv
            subst hi9
            refine vk_getf hx hb s3 hS hown (zsf_link2 (eq0 := (9, 9, "java/lang/String", "value", "[B")) hts (by decide +kernel)) (fun _ h9 => h9) hdg ?_
            have k9 := kk rfl rfl ls hl (zPl.cons.mpr ⟨Or.inr (by omega), h2⟩)
            have e2 : ztr sp ad (.inr (.inr (100002 + (cq - 100000)))) = Value.ref (tq (cq - 100000 + 2)) := by
              rw [show 100002 + (cq - 100000) = 100000 + (cq - 100000 + 2) from by omega]
              exact (zrv_giv (j := cq - 100000 + 2) ad).trans (g1 _ (by omega))
            rw [List.map_cons, e2] at k9
            exact k9
          · split at hv
            · next hi15 =>
              cases hv
              subst hi15
              refine vk_getf hx hb s2 hS hown (zsf_link2 (eq0 := (9, 15, "java/lang/String", "coder", "B")) hts (by decide +kernel)) (fun _ h9 => h9) hdg ?_
              exact kk rfl rfl ls hl (zPl.cons.mpr ⟨⟨by decide, by decide⟩, h2⟩)
            · cases hv
        · cases hv
      · cases h
    · split at h
      · next ci k tt hv =>
        split at h
        · next hc =>
          obtain ⟨c1, c2, c3, c4⟩ := hc
          cases h
          obtain ⟨m1, m2, m3, m4⟩ := zfd_some hv
          rw [List.map_cons, show ztr sp ad (.inr (.inr cq)) = Value.ref (ad (cq - 1)) from zrv_cell c1 (by omega)]
          have hsz : k < (zsh (cq - 1)).2 := by rw [zsh_obj (by omega), c3]; exact c4
          have hv9 := zfs_get (ad := ad) (s := sq) hsz
          rw [c3] at hv9
          refine va_get (D := (dC, dI)) (ci := ci) (C := zc_n ci) (T := zf_T ci) (N := zf_n ci) hx hb hts (zcl_in m2) hown hK hP (cq - 1) (by rw [zwo_get (by omega), zent_obj c3 m2]) (zcl_get ci m2) k c4 (zfd_link hts m1) (fun _ h9 => h9) hv9 hdg ?_
          rw [← m4]
          by_cases ht : tt = 1
          · rw [if_pos ht] at kk ⊢
            have hle : (sq (cq - 1) k).toNat ≤ n := hRf (cq - 1) k (by omega) (by
              unfold zrefs
              rw [c3, ← m4, ht]
              simp only [Bool.or_eq_true, Bool.and_eq_true, decide_eq_true_eq]
              exact Or.inl ⟨by omega, trivial⟩)
            rw [zrc_rf (sp := sp) (by omega)]
            exact kk rfl rfl ls hl (zPl.cons.mpr ⟨Or.inl hle, h2⟩)
          · rw [if_neg ht] at kk ⊢
            exact kk rfl rfl ls hl (zPl.cons.mpr ⟨hR _ _, h2⟩)
        · cases h
      · cases h
  | iaload =>
    simp only [zsw, zln, Bool.false_eq_true, false_or] at hz
    subst hz
    rcases st with _ | ⟨iq | iq | iq, _ | ⟨cq | cq | cq, st⟩⟩ <;> simp only [zsD, reduceCtorEq] at h
    obtain ⟨h1, h2⟩ := zPl.cons.mp hp
    obtain ⟨h3, h2⟩ := zPl.cons.mp h2
    have h1 : zR iq := h1
    split at h
    · split at h
      · next hc =>
        split at h
        · next hr =>
          cases h
          have hj : cq - 100000 = 0 ∨ cq - 100000 = 1 ∨ cq - 100000 = 6 := by omega
          have e1 : ztr sp ad (.inr (.inr cq)) = Value.ref (tq (cq - 100000)) := by
            have hcq : cq = 100000 + (cq - 100000) := by omega
            rw [hcq]
            refine (zrv_giv (j := cq - 100000) ad).trans ?_
            rw [show 100000 + (cq - 100000) - 100000 = cq - 100000 from by omega]
            exact g1 _ (by omega)
          rw [List.map_cons, List.map_cons, e1]
          refine va_ti (i := Int32.ofInt iq) hx hb (gI _ hj) hS (zR_in h1 hr.1 hr.2) rfl hdg ?_
          have k9 := kk rfl rfl ls hl (zPl.cons.mpr ⟨zgiv_R gX iq, h2⟩)
          rw [zR_clamp h1, show ((iq.toNat : Nat) : Int) = iq from Int.toNat_of_nonneg hr.1]
          exact k9
        · cases h
      · cases h
    · split at h
      · next hc =>
        obtain ⟨c1, c2, c3, c4, c5⟩ := hc
        cases h
        rw [List.map_cons, List.map_cons, show ztr sp ad (.inr (.inr cq)) = Value.ref (ad (cq - 1)) from zrv_cell c1 (by omega)]
        refine va_iald (i := Int32.ofInt iq) hx hb hK hP (cq - 1) 0 (by rw [zwo_get (by omega), zent_num c3 (by decide) (by decide)]) rfl (zR_in h1 c4 c5) hdg ?_
        have k9 := kk rfl rfl ls hl (zPl.cons.mpr ⟨hR _ _, h2⟩)
        rw [zR_clamp h1, show ((iq.toNat : Nat) : Int) = iq from Int.toNat_of_nonneg c4]
        exact k9
      · cases h
  | baload =>
    simp only [zsw, zln, Bool.false_eq_true, false_or] at hz
    subst hz
    rcases st with _ | ⟨iq | iq | iq, _ | ⟨cq | cq | cq, st⟩⟩ <;> simp only [zsD, reduceCtorEq] at h
    obtain ⟨h1, h2⟩ := zPl.cons.mp hp
    obtain ⟨h3, h2⟩ := zPl.cons.mp h2
    have h1 : zR iq := h1
    split at h
    · split at h
      · next hc =>
        split at h
        · next hr =>
          cases h
          have hj : cq - 100000 = 4 ∨ cq - 100000 = 5 := by omega
          have e1 : ztr sp ad (.inr (.inr cq)) = Value.ref (tq (cq - 100000)) := by
            have hcq : cq = 100000 + (cq - 100000) := by omega
            rw [hcq]
            refine (zrv_giv (j := cq - 100000) ad).trans ?_
            rw [show 100000 + (cq - 100000) - 100000 = cq - 100000 from by omega]
            exact g1 _ (by omega)
          rw [List.map_cons, List.map_cons, e1]
          refine va_tb (i := Int32.ofInt iq) hx hb (gB _ hj) hS (zR_in h1 hr.1 hr.2) rfl hdg ?_
          have k9 := kk rfl rfl ls hl (zPl.cons.mpr ⟨zgiv_R gX iq, h2⟩)
          rw [zR_clamp h1, show ((iq.toNat : Nat) : Int) = iq from Int.toNat_of_nonneg hr.1]
          exact k9
        · cases h
      · cases h
    · split at h
      · next hc =>
        obtain ⟨c1, c2, c3, c4, c5⟩ := hc
        cases h
        rw [List.map_cons, List.map_cons, show ztr sp ad (.inr (.inr cq)) = Value.ref (ad (cq - 1)) from zrv_cell c1 (by omega)]
        have k9 := kk rfl rfl ls hl (zPl.cons.mpr ⟨hR _ _, h2⟩)
        rcases c3 with c3 | c3
        · refine va_bald (i := Int32.ofInt iq) hx hb hK hP (cq - 1) 1 (by rw [zwo_get (by omega), zent_num c3 (by decide) (by decide)]) rfl (zR_in h1 c4 c5) hdg ?_
          rw [zR_clamp h1, show ((iq.toNat : Nat) : Int) = iq from Int.toNat_of_nonneg c4]
          exact k9
        · refine va_zald (i := Int32.ofInt iq) hx hb hK hP (cq - 1) 2 (by rw [zwo_get (by omega), zent_num c3 (by decide) (by decide)]) rfl (zR_in h1 c4 c5) hdg ?_
          rw [zR_clamp h1, show ((iq.toNat : Nat) : Int) = iq from Int.toNat_of_nonneg c4]
          exact k9
      · cases h
  | aaload =>
    simp only [zsw, zln, Bool.false_eq_true, false_or] at hz
    subst hz
    rcases st with _ | ⟨iq | iq | iq, _ | ⟨cq | cq | cq, st⟩⟩ <;> simp only [zsD, reduceCtorEq] at h
    obtain ⟨h1, h2⟩ := zPl.cons.mp hp
    obtain ⟨h3, h2⟩ := zPl.cons.mp h2
    have h1 : zR iq := h1
    split at h
    · next hc =>
      obtain ⟨c1, c2, c3, c4, c5⟩ := hc
      cases h
      rw [List.map_cons, List.map_cons, show ztr sp ad (.inr (.inr cq)) = Value.ref (ad (cq - 1)) from zrv_cell c1 (by omega)]
      have hle : (sq (cq - 1) iq).toNat ≤ n := by
        have h9 := hRf (cq - 1) iq.toNat (by omega) (by
          unfold zrefs
          simp only [Bool.or_eq_true, Bool.and_eq_true, decide_eq_true_eq]
          exact Or.inr (by omega))
        rw [Int.toNat_of_nonneg c4] at h9
        exact h9
      have k9 := kk rfl rfl ls hl (zPl.cons.mpr ⟨Or.inl hle, h2⟩)
      rw [List.map_cons, show ztr sp ad (.inr (.inr (sq (cq - 1) iq).toNat)) = va_rf (zrc ad (sq (cq - 1) iq).toNat) from (zrc_rf (by omega)).symm] at k9
      rcases c3 with c3 | c3
      · refine va_aldq (i := Int32.ofInt iq) (C := "OneForOne$Law") hx hb hK hP (cq - 1) 3 (by rw [zwo_get (by omega), zent_ref c3 (by decide)]) rfl (zR_in h1 c4 c5) hdg ?_
        rw [zR_clamp h1, show ((iq.toNat : Nat) : Int) = iq from Int.toNat_of_nonneg c4]
        exact k9
      · refine va_aldq (i := Int32.ofInt iq) (C := "OneForOne$Sheet") hx hb hK hP (cq - 1) 4 (by rw [zwo_get (by omega), zent_ref c3 (by decide)]) rfl (zR_in h1 c4 c5) hdg ?_
        rw [zR_clamp h1, show ((iq.toNat : Nat) : Int) = iq from Int.toNat_of_nonneg c4]
        exact k9
    · cases h
  | arraylength =>
    simp only [zsw, zln, Bool.false_eq_true, false_or] at hz
    subst hz
    rcases st with _ | ⟨cq | cq | cq, st⟩ <;> simp only [zsD, reduceCtorEq] at h
    obtain ⟨h1, h2⟩ := zPl.cons.mp hp
    split at h
    · split at h
      · next hc =>
        cases h
        have e1 : ztr sp ad (.inr (.inr cq)) = Value.ref (tq (cq - 100000)) := by
          have hcq : cq = 100000 + (cq - 100000) := by omega
          rw [hcq]
          refine (zrv_giv (j := cq - 100000) ad).trans ?_
          rw [show 100000 + (cq - 100000) - 100000 = cq - 100000 from by omega]
          exact g1 _ (by omega)
        have hll := zgiv_len (xs := xs) (j := cq - 100000) gL
        have k9 := kk rfl rfl ls hl (zPl.cons.mpr ⟨⟨by omega, by omega⟩, h2⟩)
        rw [List.map_cons, show ztr sp ad (.inl ((zgiv xs L (cq - 100000)).1 : Int)) = Value.int (Int32.ofNat (zgiv xs L (cq - 100000)).1) from by show Value.int (Int32.ofInt _) = _; rw [zR_ofNat]] at k9
        rw [List.map_cons, e1]
        have key : ∀ (ty : FieldType) (f9 : Nat → Value), va_T ty (tq (cq - 100000)) (zgiv xs L (cq - 100000)).1 f9 (zA base) s s.heap → W p l e R s m args below meth c H locs cells slots Q (F0 m pc ls (Value.ref (tq (cq - 100000)) :: st.map (ztr sp ad))) := by
          rintro ty f9 ⟨cell, q1, q2, q3, q4, q5, q6, q7⟩
          exact W.alen (n := Int32.ofNat (zgiv xs L (cq - 100000)).1) hx hb (by rw [hS.2.1 _ (Array.getElem?_eq_some_iff.mp q1).1 q7]; exact q1) q2 q5 rfl rfl hdg k9
        rcases hc with hc | hc | hc | hc | hc
        · exact key _ _ (gI _ (by omega))
        · exact key _ _ (gI _ (by omega))
        · exact key _ _ (gB _ (by omega))
        · exact key _ _ (gB _ (by omega))
        · exact key _ _ (gI _ (by omega))
      · cases h
    · split at h
      · next hc =>
        obtain ⟨c1, c2, c3, c4⟩ := hc
        cases h
        rw [List.map_cons, show ztr sp ad (.inr (.inr cq)) = Value.ref (ad (cq - 1)) from zrv_cell c1 (by omega)]
        have hll := zsh_len (cq - 1)
        have k9 := kk rfl rfl ls hl (zPl.cons.mpr ⟨⟨by omega, by omega⟩, h2⟩)
        rcases (show (zsh (cq - 1)).1 = 20 ∨ (zsh (cq - 1)).1 = 21 ∨ (zsh (cq - 1)).1 = 22 ∨ (zsh (cq - 1)).1 = 23 ∨ (zsh (cq - 1)).1 = 24 by omega) with c5 | c5 | c5 | c5 | c5
        · exact va_alen (x := ((zsh (cq - 1)).2, .inl fun j => Int32.ofInt (sq (cq - 1) j))) hx hb hK hP (cq - 1) 0 (by rw [zwo_get (by omega), zent_num c5 (by decide) (by decide)]) (ty := .int) rfl (zR_ofNat (zsh (cq - 1)).2).symm hdg k9
        · exact va_alen (x := ((zsh (cq - 1)).2, .inl fun j => Int32.ofInt (sq (cq - 1) j))) hx hb hK hP (cq - 1) 1 (by rw [zwo_get (by omega), zent_num c5 (by decide) (by decide)]) (ty := .byte) rfl (zR_ofNat (zsh (cq - 1)).2).symm hdg k9
        · exact va_alen (x := ((zsh (cq - 1)).2, .inl fun j => Int32.ofInt (sq (cq - 1) j))) hx hb hK hP (cq - 1) 2 (by rw [zwo_get (by omega), zent_num c5 (by decide) (by decide)]) (ty := .boolean) rfl (zR_ofNat (zsh (cq - 1)).2).symm hdg k9
        · exact va_alen (x := ((zsh (cq - 1)).2, .inr (.inr (.inr (.inr fun j => zrc ad (sq (cq - 1) j).toNat))))) hx hb hK hP (cq - 1) 3 (by rw [zwo_get (by omega), zent_ref c5 (by decide)]) (ty := .object "OneForOne$Law") rfl (zR_ofNat (zsh (cq - 1)).2).symm hdg k9
        · exact va_alen (x := ((zsh (cq - 1)).2, .inr (.inr (.inr (.inr fun j => zrc ad (sq (cq - 1) j).toNat))))) hx hb hK hP (cq - 1) 4 (by rw [zwo_get (by omega), zent_ref c5 (by decide)]) (ty := .object "OneForOne$Sheet") rfl (zR_ofNat (zsh (cq - 1)).2).symm hdg k9
      · cases h
  | _ => simp [zsD] at h
end ZSND
end
section
/-! the machine does what the walker does: writing cells, making cells -/
def zsz (n : Nat) : Nat := ((List.range n).map fun k => (zsh k).2).sum
theorem zsz_succ (n : Nat) : zsz (n + 1) = zsz n + (zsh n).2 := by
  unfold zsz
  rw [List.range_succ, List.map_append, List.sum_append]
  simp
theorem zmok_up {n : Nat} {sq : Pl} {kq : Nat} {iq vq : Int} (h : zmok n sq) (hv : zR vq) (hr : ∀ j : Nat, (j : Int) = iq → zrefs kq j = true → vq.toNat ≤ n) : zmok n (zup sq kq iq vq) := by
  obtain ⟨h1, h2, h3⟩ := h
  refine ⟨fun a j => ?_, fun a j ha hj => ?_, h3⟩
  · by_cases q : a = kq
    · subst q
      by_cases q2 : j = iq
      · subst q2; rw [zup_same]; exact hv
      · rw [zup_other q2]; exact h1 _ _
    · rw [zup_ne q]; exact h1 _ _
  · by_cases q : a = kq
    · subst q
      by_cases q2 : (j : Int) = iq
      · rw [← q2, zup_same]; exact hr j q2 hj
      · rw [zup_other q2]; exact h2 _ _ ha hj
    · rw [zup_ne q]; exact h2 _ _ ha hj
theorem zfs_len {ad : Nat → Nat} {sq : Pl} {kq : Nat} : (zfs ad sq kq).length = (zsh kq).2 := by
  unfold zfs
  rw [List.length_map, List.length_range]
theorem zfs_set {ad : Nat → Nat} {sq : Pl} {kq j : Nat} {vq : Int} {w : Value} (hw : w = if (zf (zsh kq).1 j).2.2.2 = 1 then va_rf (zrc ad vq.toNat) else .int (Int32.ofInt vq)) : (zfs ad sq kq).set j w = zfs ad (zup sq kq j vq) kq := by
  apply List.ext_getElem?
  intro a
  by_cases hn : a < (zsh kq).2
  · by_cases ha : a = j
    · subst ha
      rw [List.getElem?_set_self (by rw [zfs_len]; exact hn), zfs_get hn, zup_same, hw]
    · rw [List.getElem?_set_ne (Ne.symm ha), zfs_get hn, zfs_get hn, zup_other (by omega)]
  · rw [List.getElem?_eq_none (by rw [List.length_set, zfs_len]; omega), List.getElem?_eq_none (by rw [zfs_len]; omega)]
theorem zf_nm : ∀ ci, ci < 9 → ∀ a, a < zf_n ci → ∀ b, b < zf_n ci → a ≠ b → (zf_T ci a).2.1 ≠ (zf_T ci b).2.1 := by decide +kernel
theorem zf_tyok : ∀ ci, ci < 9 → ∀ k, k < zf_n ci → parseFieldDescriptor (zf_T ci k).2.2.1 = some (zf_ty ci k) := by decide +kernel
theorem zf_ty0 : ∀ ci, ci < 9 → ∀ k, k < zf_n ci → (zf ci k).2.2.2 = 0 → zf_ty ci k = .int := by decide +kernel
theorem zf_ty2 : ∀ ci, ci < 9 → ∀ k, k < zf_n ci → (zf ci k).2.2.2 = 2 → zf_ty ci k = .boolean := by decide +kernel
def zrefty : FieldType → Bool
  | .object _ => true
  | .array _ => true
  | _ => false
theorem zf_ty1 : ∀ ci, ci < 9 → ∀ k, k < zf_n ci → (zf ci k).2.2.2 = 1 → zrefty (zf_ty ci k) = true := by decide +kernel
theorem zf_def : ∀ ci, ci < 9 → ∀ k, k < zf_n ci → defaultValue (zf_ty ci k) = if (zf ci k).2.2.2 = 1 then .null else .int 0 := by decide +kernel
theorem zini_in : ∀ ci, ci < 9 → ci ∈ zw_ini := by decide +kernel
theorem zinn_in : ∀ ci, ci < 9 → ci ∈ zw_in := by decide +kernel
theorem zrefty_fits {ty : FieldType} (h : zrefty ty = true) (a : Nat) : fits ty (.ref a) = true ∧ narrow ty (.ref a) = .ref a := by
  cases ty <;> first | exact ⟨rfl, rfl⟩ | cases h
theorem zrv_new {sp : Nat → Value} {ad : Nat → Nat} {n q : Nat} {v : AV} (h : zok n v) (hn : n ≤ 1000) : ztr sp (fun k => if k = n then q else ad k) v = ztr sp ad v := by
  rcases v with x | x | c
  · rfl
  · rfl
  · have key : zrv sp (fun k => if k = n then q else ad k) c = zrv sp ad c := by
      unfold zrv
      rcases h with h | h
      · by_cases h0 : c = 0
        · rw [if_pos h0, if_pos h0]
        · rw [if_neg h0, if_neg h0, if_pos (by omega), if_pos (by omega)]
          show Value.ref (if c - 1 = n then q else ad (c - 1)) = _
          rw [if_neg (by omega)]
      · rw [if_neg (by omega), if_neg (by omega), if_neg (by omega), if_neg (by omega)]
    exact key
theorem zrc_new {ad : Nat → Nat} {n q c : Nat} (h : c ≤ n) : zrc (fun k => if k = n then q else ad k) c = zrc ad c := by
  unfold zrc
  by_cases h0 : c = 0
  · rw [if_pos h0, if_pos h0]
  · rw [if_neg h0, if_neg h0]
    show some (if c - 1 = n then q else ad (c - 1)) = _
    rw [if_neg (by omega)]
theorem zent_new {cA : Nat → ClassId} {ad : Nat → Nat} {sq : Pl} {n q k : Nat} (hm : zmok n sq) (hk : k < n) : zent cA (fun k => if k = n then q else ad k) sq k = zent cA ad sq k := by
  unfold zent
  by_cases h1 : (zsh k).1 < 20
  · rw [if_pos h1, if_pos h1]
    congr 2
    apply List.map_congr_left
    intro j _
    by_cases h2 : (zf (zsh k).1 j).2.2.2 = 1
    · rw [if_pos h2, if_pos h2, zrc_new (hm.2.1 k j hk (by unfold zrefs; simp only [Bool.or_eq_true, Bool.and_eq_true, decide_eq_true_eq]; exact Or.inl ⟨h1, h2⟩))]
    · rw [if_neg h2, if_neg h2]
  · rw [if_neg h1, if_neg h1]
    by_cases h2 : (zsh k).1 < 23
    · rw [if_pos h2, if_pos h2]
    · rw [if_neg h2, if_neg h2]
      have e0 : (fun j : Nat => zrc (fun k => if k = n then q else ad k) (sq k j).toNat) = fun j : Nat => zrc ad (sq k j).toNat := by
        funext j
        exact zrc_new (hm.2.1 k j hk (by unfold zrefs; simp only [Bool.or_eq_true, Bool.and_eq_true, decide_eq_true_eq]; exact Or.inr (by omega)))
      rw [e0]
theorem zwo_new {cA : Nat → ClassId} {ad : Nat → Nat} {sq : Pl} {n q : Nat} {x : va_E} (hm : zmok n sq) (hx : x = zent cA (fun k => if k = n then q else ad k) (znew sq n) n) : zwo cA ad n sq ++ [(q, x)] = zwo cA (fun k => if k = n then q else ad k) (n + 1) (znew sq n) := by
  have e0 : zwo cA (fun k => if k = n then q else ad k) (n + 1) (znew sq n) = (List.range n).map (fun k => ((fun k => if k = n then q else ad k) k, zent cA (fun k => if k = n then q else ad k) (znew sq n) k)) ++ [(q, zent cA (fun k => if k = n then q else ad k) (znew sq n) n)] := by
    unfold zwo
    rw [List.range_succ, List.map_append]
    simp
  rw [e0, hx]
  congr 1
  unfold zwo
  apply List.map_congr_left
  intro k hk
  have hk := List.mem_range.mp hk
  have h1 : znew sq n k = sq k := by unfold znew; rw [if_neg (by omega)]
  show (ad k, zent cA ad sq k) = (if k = n then q else ad k, _)
  rw [if_neg (by omega), zent_cong h1, zent_new hm hk]
theorem zmok_new {n : Nat} {sq : Pl} (h : zmok n sq) (hn : n < 1000) : zmok (n + 1) (znew sq n) := by
  obtain ⟨h1, h2, h3⟩ := h
  refine ⟨fun a j => ?_, fun a j ha hj => ?_, by omega⟩
  · unfold znew
    by_cases q : a = n
    · rw [if_pos q]; exact ⟨by decide, by decide⟩
    · rw [if_neg q]; exact h1 _ _
  · unfold znew
    by_cases q : a = n
    · rw [if_pos q]; exact Nat.zero_le _
    · rw [if_neg q]
      have := h2 a j (by omega) hj
      omega
theorem zLv.new {sp : Nat → Value} {ad : Nat → Nat} {n nL q : Nat} {lv : LVs} {ls : Array Slot} (h : zLv sp ad n nL lv ls) (hn : n ≤ 1000) : zLv sp (fun k => if k = n then q else ad k) (n + 1) nL lv ls := by
  obtain ⟨h1, h2, h3, h4, h5⟩ := h
  refine ⟨h1, h2, h3, fun i v hv => by rw [zrv_new (h5 i v hv) hn]; exact h4 i v hv, fun i v hv => ?_⟩
  have h6 := h5 i v hv
  rcases v with x | x | c
  · exact h6
  · exact h6
  · rcases h6 with h6 | h6
    · exact Or.inl (by omega)
    · exact Or.inr h6
theorem zPl.new {n : Nat} {st : List AV} (h : zPl n st) : zPl (n + 1) st := by
  intro v hv
  have h6 := h v hv
  rcases v with x | x | c
  · exact h6
  · exact h6
  · rcases h6 with h6 | h6
    · exact Or.inl (by omega)
    · exact Or.inr h6
theorem zPl.newmap {sp : Nat → Value} {ad : Nat → Nat} {n q : Nat} {st : List AV} (h : zPl n st) (hn : n ≤ 1000) : st.map (ztr sp (fun k => if k = n then q else ad k)) = st.map (ztr sp ad) := by
  apply List.map_congr_left
  intro v hv
  exact zrv_new (h v hv) hn
theorem zsh_bound {n : Nat} (h : (zsh n).1 < 99) : n < 1000 := by
  rcases Nat.lt_or_ge n zsh_L.length with q | q
  · have h1 : zsh_L.length ≤ 1000 := by decide +kernel
    omega
  · rw [zsh_out q] at h
    exact absurd h (by decide)
section ZSND
variable {p : Program} {l : Launch} {e : Env} {R : Room} {s : State} {m : MethodId} {args : Array Value} {below : List Frame} {meth : Method} {c : Code} {H : Heap} {locs : List Loc} {cells slots : Nat} {Q : State → Prop}
variable {y o : Nat} {ini : Bool} {b : ByteArray} {nL : Nat} {cA dC : Nat → ClassId} {dI : Nat → Nat → Nat} {sp : Nat → Value} {xs : Nat → Int} {L base : Nat} {ad : Nat → Nat}
/-- a field is written: final ones in the class's own constructor alone -/
theorem zput {idx pc ci kq cq n : Nat} {vq : Int} {sq : Pl} {ls : Array Slot} {rest : List Value} {w : Value}
    (C : zCtx p s m args meth c y o ini b nL cA dC dI sp xs L base) (hdg : decode b pc = .ok (.putfield idx, 3)) (hH : zHp s cA dC dI base ad n sq H locs) (hm : (o, idx, ci, kq) ∈ zw_fd) (h9 : ci < 9) (hk : kq < zf_n ci) (c1 : 1 ≤ cq) (c2 : cq ≤ n) (c3 : (zsh (cq - 1)).1 = ci) (hfin : (zf ci kq).2.2.1 = false ∨ (ini = true ∧ ci = o))
    (hnar : narrow (zf_ty ci kq) w = w) (hfit : fits (zf_ty ci kq) w = true) (hw : w = if (zf ci kq).2.2.2 = 1 then va_rf (zrc ad vq.toNat) else .int (Int32.ofInt vq)) (hv : zR vq) (hr : (zf ci kq).2.2.2 = 1 → vq.toNat ≤ n)
    (kk : ∀ (H1 : Heap) (locs1 : List Loc), zHp s cA dC dI base ad n (zup sq (cq - 1) kq vq) H1 locs1 → W p l e R s m args below meth c H1 locs1 cells slots Q (F0 m (pc + 3) ls rest)) : W p l e R s m args below meth c H locs cells slots Q (F0 m pc ls (w :: .ref (ad (cq - 1)) :: rest)) := by
  obtain ⟨hx, hb, hml, hd, hown, hts, hK, hXt, hbs, hin⟩ := C
  obtain ⟨hM, hP, hD, hS⟩ := hH
  have hsz : kq < (zsh (cq - 1)).2 := by rw [zsh_obj (by omega), c3]; exact hk
  have he : (zwo cA ad n sq)[cq - 1]? = some (ad (cq - 1), .inr (ci, zfs ad sq (cq - 1))) := by rw [zwo_get (by omega), zent_obj c3 h9]
  have hM2 : zmok n (zup sq (cq - 1) kq vq) := zmok_up hM hv (fun j hj hj2 => by
    have hj3 : j = kq := by omega
    subst hj3
    unfold zrefs at hj2
    rw [c3] at hj2
    simp only [Bool.or_eq_true, Bool.and_eq_true, decide_eq_true_eq] at hj2
    rcases hj2 with hj2 | hj2
    · exact hr hj2.2
    · omega)
  have hset : (zwo cA ad n sq).set (cq - 1) (ad (cq - 1), .inr (ci, (zfs ad sq (cq - 1)).set kq w)) = zwo cA ad n (zup sq (cq - 1) kq vq) := by
    refine zwo_set (by omega) ?_ (fun a ha => zup_ne ha)
    rw [zent_obj c3 h9, zfs_set (vq := vq) (by rw [c3]; exact hw)]
  have hfinish : ∀ (H1 : Heap) (locs1 : List Loc), va_P (dC, dI) classes ((zwo cA ad n sq).set (cq - 1) (ad (cq - 1), .inr (ci, (zfs ad sq (cq - 1)).set kq w))) H1 → va_D (zA base) ((zwo cA ad n sq).set (cq - 1) (ad (cq - 1), .inr (ci, (zfs ad sq (cq - 1)).set kq w))) → va_S (zA base) s.heap H1 locs1 → W p l e R s m args below meth c H1 locs1 cells slots Q (F0 m (pc + 3) ls rest) := by
    intro H1 locs1 a1 a2 a3
    rw [hset] at a1 a2
    exact kk H1 locs1 ⟨hM2, a1, a2, a3⟩
  cases hff : (zf ci kq).2.2.1 with
  | false =>
    exact va_put (D := (dC, dI)) (ci := ci) (v := w) (ty := zf_ty ci kq) (C := zc_n ci) (T := zf_T ci) (N := zf_n ci) hx hb hts (zcl_in h9) (zf_ty ci) (zf_tyok ci h9) (zf_nm ci h9) hown hK hP hD hS (cq - 1) he (zcl_get ci h9) kq hk (zfd_link hts hm) (fun _ h9 => h9) hff (zf_tyok ci h9 kq hk) hnar hfit (by rw [zfs_len]; exact hsz) hdg hfinish
  | true =>
    rcases hfin with q | ⟨q1, q2⟩
    · rw [hff] at q; cases q
    · exact va_putF (D := (dC, dI)) (ci := ci) (v := w) (ty := zf_ty ci kq) (C := zc_n ci) (T := zf_T ci) (N := zf_n ci) hx hb hts (zcl_in h9) (zf_ty ci) (zf_tyok ci h9) (zf_nm ci h9) hown hK hP hD hS (cq - 1) he (zcl_get ci h9) kq hk (zfd_link hts hm) (fun _ h9 => h9) hff (hin q1) (by show zc_n ci = zc_n o; rw [q2]) (zf_tyok ci h9 kq hk) hnar hfit (by rw [zfs_len]; exact hsz) hdg hfinish
end ZSND
end
section
/-! the machine does what the walker does: the group that writes and makes -/
theorem zac_some {oq idx : Nat} (h : zac oq idx = true) : (oq, idx) ∈ zw_ac := by
  unfold zac at h
  obtain ⟨e0, h1, h2⟩ := List.any_eq_true.mp h
  simp only [Bool.and_eq_true, beq_iff_eq] at h2
  obtain ⟨a1, a2⟩ := e0
  dsimp only at h2
  rw [h2.1, h2.2] at h1
  exact h1
theorem zoi_some {oq idx : Nat} (h : zoi oq idx = true) : (oq, idx) ∈ zw_oi := by
  unfold zoi at h
  obtain ⟨e0, h1, h2⟩ := List.any_eq_true.mp h
  simp only [Bool.and_eq_true, beq_iff_eq] at h2
  obtain ⟨a1, a2⟩ := e0
  dsimp only at h2
  rw [h2.1, h2.2] at h1
  exact h1
theorem zcla_some {oq idx ci : Nat} (h : zcla oq idx = some ci) : (oq, idx, ci) ∈ zw_cl := by
  unfold zcla at h
  split at h
  · next e0 h0 =>
    have h1 := List.find?_some h0
    have h2 := List.mem_of_find?_eq_some h0
    simp only [Bool.and_eq_true, beq_iff_eq] at h1
    obtain ⟨a1, a2, a3⟩ := e0
    dsimp only at h1 h
    cases h
    rw [h1.1, h1.2] at h2
    exact h2
  · cases h
theorem zmi_in : (.arrayClass .int : Cond) ∈ zw_mi ∧ (.arrayClass .byte : Cond) ∈ zw_mi ∧ (.arrayClass .boolean : Cond) ∈ zw_mi ∧ (.native arraycopyName : Cond) ∈ zw_mi ∧ (.static arraycopyName : Cond) ∈ zw_mi ∧ (.initialized "java/lang/System" : Cond) ∈ zw_mi ∧ (.instanceMethod objectInit : Cond) ∈ zw_mi ∧ (.code objectInit ⟨#[0xb1]⟩ 1 none : Cond) ∈ zw_mi := by
  unfold zw_mi
  simp
theorem zb8_bool {v : Int} (h : v = 0 ∨ v = 1) : vp_nar .boolean (Int32.ofInt v) = Int32.ofInt v := by
  rcases h with rfl | rfl <;> decide
theorem zcat_map {sp : Nat → Value} {ad : Nat → Nat} (hsp : ∀ j, sp j = .null ∨ ∃ a, sp j = .ref a) (stq : List AV) : ((stq.map (ztr sp ad)).map fun v => v.category) = stq.map zcat := by
  rw [List.map_map]
  apply List.map_congr_left
  intro v _
  exact ztr_cat sp ad hsp v
theorem ztr_newref {sp : Nat → Value} {ad : Nat → Nat} {n q : Nat} (h : n ≤ 1000) : ztr sp (fun k => if k = n then q else ad k) (.inr (.inr (n + 1))) = Value.ref q := by
  have h1 : zrv sp (fun k => if k = n then q else ad k) (n + 1) = .ref ((fun k => if k = n then q else ad k) (n + 1 - 1)) := zrv_cell (by omega) (by omega)
  refine Eq.trans h1 ?_
  show Value.ref (if n + 1 - 1 = n then q else ad (n + 1 - 1)) = _
  rw [if_pos (by omega)]
section ZSND
variable {p : Program} {l : Launch} {e : Env} {R : Room} {s : State} {m : MethodId} {args : Array Value} {below : List Frame} {meth : Method} {c : Code} {H : Heap} {locs : List Loc} {cells slots : Nat} {Q : State → Prop}
variable {y o : Nat} {ini : Bool} {b : ByteArray} {nL : Nat} {cA dC : Nat → ClassId} {dI : Nat → Nat → Nat} {sp : Nat → Value} {xs : Nat → Int} {L base : Nat} {ad : Nat → Nat}
/-- a new cell: the world grows by it -/
theorem zgrow {n q : Nat} {sq : Pl} {H1 : Heap} {locs1 : List Loc} {x : va_E} (hM : zmok n sq) (hn : n < 1000) (hx : x = zent cA (fun k => if k = n then q else ad k) (znew sq n) n) (hP : va_P (dC, dI) classes (zwo cA ad n sq ++ [(q, x)]) H1) (hD : va_D (zA base) (zwo cA ad n sq ++ [(q, x)])) (hS : va_S (zA base) s.heap H1 locs1) : zHp s cA dC dI base (fun k => if k = n then q else ad k) (n + 1) (znew sq n) H1 locs1 := by
  rw [zwo_new hM hx] at hP hD
  exact ⟨zmok_new hM hn, hP, hD, hS⟩
set_option maxHeartbeats 4000000 in
theorem zsE_ok {i : Instr} {z pc pc2 : Nat} {lv lv2 : LVs} {st st2 : List AV} {n n2 : Nat} {sq sq2 : Pl} {ls : Array Slot}
    (C : zCtx p s m args meth c y o ini b nL cA dC dI sp xs L base) (hi : zi y pc = some (i, z)) (h : zsE o ini i z (pc, lv, st, n, sq) = some (pc2, lv2, st2, n2, sq2)) (hl : zLv sp ad n nL lv ls) (hp : zPl n st) (hH : zHp s cA dC dI base ad n sq H locs)
    (hrc : cells + (n2 - n) ≤ R.cells) (hrs : slots + (zsz n2 - zsz n) ≤ R.slots) (hrf : 1 ≤ R.frames) (hrl : 64 ≤ R.locals)
    (kk : ∀ (ad2 : Nat → Nat) (H2 : Heap) (locs2 : List Loc) (cells2 slots2 : Nat), n ≤ n2 → (∀ k, k < n → ad2 k = ad k) → cells2 = cells + (n2 - n) → slots2 = slots + (zsz n2 - zsz n) → zHp s cA dC dI base ad2 n2 sq2 H2 locs2 → zLv sp ad2 n2 nL lv2 ls → zPl n2 st2 → W p l e R s m args below meth c H2 locs2 cells2 slots2 Q (F0 m pc2 ls (st2.map (ztr sp ad2)))) : W p l e R s m args below meth c H locs cells slots Q (F0 m pc ls (st.map (ztr sp ad))) := by
  have C0 := C
  obtain ⟨hx, hb, hml, hd, hown, hts, hK, hXt, hbs, hin⟩ := C
  obtain ⟨hdg, hz⟩ := hd _ _ _ hi
  have hH0 := hH
  obtain ⟨hM, hP, hD, hS⟩ := hH
  have hM0 := hM
  obtain ⟨hR, hRf, hn⟩ := hM
  have hAq : ∀ q : Nat, s.heap.size ≤ q → zA base q := fun q hq => Nat.le_trans hbs hq
  cases i with
  | putfield idx =>
    simp only [zsw, zln, Bool.false_eq_true, false_or] at hz
    subst hz
    rcases st with _ | ⟨vq | vq | vq, _ | ⟨cq | cq | cq, st⟩⟩ <;> simp only [zsE, reduceCtorEq] at h
    · obtain ⟨h1, h2⟩ := zPl.cons.mp hp
      obtain ⟨h3, h2⟩ := zPl.cons.mp h2
      split at h
      · next ci kq tt hv =>
        split at h
        · next hc =>
          obtain ⟨c1, c2, c3, c4, c5, c6⟩ := hc
          obtain ⟨m1, m2, m3, m4⟩ := zfd_some hv
          cases h
          have htt : (zf ci kq).2.2.2 ≠ 1 := by omega
          rw [List.map_cons, List.map_cons, show ztr sp ad (.inr (.inr cq)) = Value.ref (ad (cq - 1)) from zrv_cell c1 (by omega)]
          have hnf : narrow (zf_ty ci kq) (.int (Int32.ofInt vq)) = .int (Int32.ofInt vq) ∧ fits (zf_ty ci kq) (.int (Int32.ofInt vq)) = true := by
            rcases c5 with c5 | ⟨c5, c7⟩
            · rw [zf_ty0 ci m2 kq c4 (by omega)]; exact ⟨rfl, rfl⟩
            · rw [zf_ty2 ci m2 kq c4 (by omega)]
              rcases c7 with rfl | rfl <;> exact ⟨by decide, by decide⟩
          refine zput C0 hdg hH0 m1 m2 c4 c1 c2 c3 c6 hnf.1 hnf.2 (vq := vq) (by rw [if_neg htt]; rfl) h1 (fun q => absurd q htt) (fun H1 locs1 k1 => ?_)
          exact kk ad H1 locs1 cells slots (Nat.le_refl _) (fun _ _ => rfl) (by omega) (by omega) k1 hl h2
        · cases h
      · cases h
    · obtain ⟨h1, h2⟩ := zPl.cons.mp hp
      obtain ⟨h3, h2⟩ := zPl.cons.mp h2
      split at h
      · next ci kq tt hv =>
        split at h
        · next hc =>
          obtain ⟨c1, c2, c3, c4, c5, c6, c7, c8⟩ := hc
          obtain ⟨m1, m2, m3, m4⟩ := zfd_some hv
          cases h
          have htt : (zf ci kq).2.2.2 = 1 := by omega
          rw [List.map_cons, List.map_cons, show ztr sp ad (.inr (.inr cq)) = Value.ref (ad (cq - 1)) from zrv_cell c1 (by omega), show ztr sp ad (.inr (.inr vq)) = Value.ref (ad (vq - 1)) from zrv_cell c6 (by omega)]
          obtain ⟨n1, n3⟩ := zrefty_fits (zf_ty1 ci m2 kq c4 htt) (ad (vq - 1))
          refine zput C0 hdg hH0 m1 m2 c4 c1 c2 c3 c8 n3 n1 (vq := (vq : Int)) (by rw [if_pos htt, Int.toNat_natCast, zrc_rf (sp := sp) (by omega), zrv_cell c6 (by omega)]) ⟨by omega, by omega⟩ (fun _ => by rw [Int.toNat_natCast]; exact c7) (fun H1 locs1 k1 => ?_)
          exact kk ad H1 locs1 cells slots (Nat.le_refl _) (fun _ _ => rfl) (by omega) (by omega) k1 hl h2
        · cases h
      · cases h
  | iastore =>
    simp only [zsw, zln, Bool.false_eq_true, false_or] at hz
    subst hz
    rcases st with _ | ⟨vq | vq | vq, _ | ⟨iq | iq | iq, _ | ⟨cq | cq | cq, st⟩⟩⟩ <;> simp only [zsE, reduceCtorEq] at h
    obtain ⟨h1, h2⟩ := zPl.cons.mp hp
    obtain ⟨h4, h2⟩ := zPl.cons.mp h2
    obtain ⟨h3, h2⟩ := zPl.cons.mp h2
    have h4 : zR iq := h4
    split at h
    · next hc =>
      obtain ⟨c1, c2, c3, c4, c5⟩ := hc
      cases h
      rw [List.map_cons, List.map_cons, List.map_cons, show ztr sp ad (.inr (.inr cq)) = Value.ref (ad (cq - 1)) from zrv_cell c1 (by omega)]
      have hset : (zwo cA ad n sq).set (cq - 1) (ad (cq - 1), .inl (cA 20, (zsh (cq - 1)).2, .inl (upd (fun j : Nat => Int32.ofInt (sq (cq - 1) j)) (Int32.ofInt iq).toNatClampNeg (Int32.ofInt vq)))) = zwo cA ad n (zup sq (cq - 1) iq vq) := by
        refine zwo_set (by omega) ?_ (fun a ha => zup_ne ha)
        rw [zent_num c3 (by decide) (by decide)]
        congr 3
        congr 1
        funext j
        rw [zR_clamp h4]
        unfold upd
        by_cases q : j = iq.toNat
        · rw [if_pos q, show ((j : Nat) : Int) = iq from by omega, zup_same]
        · rw [if_neg q, zup_other (by omega)]
      refine va_iast (i := Int32.ofInt iq) (x := Int32.ofInt vq) hx hb hK hP hD hS (cq - 1) 0 (by rw [zwo_get (by omega), zent_num c3 (by decide) (by decide)]) rfl (zR_in h4 c4 c5) hdg (fun H1 locs1 a1 a2 a3 => ?_)
      rw [hset] at a1 a2
      refine kk ad H1 locs1 cells slots (Nat.le_refl _) (fun _ _ => rfl) (by omega) (by omega) ⟨zmok_up hM0 h1 (fun j hj hj2 => ?_), a1, a2, a3⟩ hl h2
      unfold zrefs at hj2
      rw [c3] at hj2
      exact absurd hj2 (by simp)
    · cases h
  | bastore =>
    simp only [zsw, zln, Bool.false_eq_true, false_or] at hz
    subst hz
    rcases st with _ | ⟨vq | vq | vq, _ | ⟨iq | iq | iq, _ | ⟨cq | cq | cq, st⟩⟩⟩ <;> simp only [zsE, reduceCtorEq] at h
    obtain ⟨h1, h2⟩ := zPl.cons.mp hp
    obtain ⟨h4, h2⟩ := zPl.cons.mp h2
    obtain ⟨h3, h2⟩ := zPl.cons.mp h2
    have h4 : zR iq := h4
    split at h
    · next hc =>
      obtain ⟨c1, c2, c3, c4, c5⟩ := hc
      cases h
      rw [List.map_cons, List.map_cons, List.map_cons, show ztr sp ad (.inr (.inr cq)) = Value.ref (ad (cq - 1)) from zrv_cell c1 (by omega)]
      have hset : ∀ (ci : Nat) (w : Int), (zsh (cq - 1)).1 = ci → 20 ≤ ci → ci < 23 → (zwo cA ad n sq).set (cq - 1) (ad (cq - 1), .inl (cA ci, (zsh (cq - 1)).2, .inl (upd (fun j : Nat => Int32.ofInt (sq (cq - 1) j)) (Int32.ofInt iq).toNatClampNeg (Int32.ofInt w)))) = zwo cA ad n (zup sq (cq - 1) iq w) := by
        intro ci w e1 e2 e3
        refine zwo_set (by omega) ?_ (fun a ha => zup_ne ha)
        rw [zent_num e1 e2 e3]
        congr 3
        congr 1
        funext j
        rw [zR_clamp h4]
        unfold upd
        by_cases q : j = iq.toNat
        · rw [if_pos q, show ((j : Nat) : Int) = iq from by omega, zup_same]
        · rw [if_neg q, zup_other (by omega)]
      have hnr : ∀ j : Nat, zrefs (cq - 1) j = true → False := by
        intro j hj2
        unfold zrefs at hj2
        simp only [Bool.or_eq_true, Bool.and_eq_true, decide_eq_true_eq] at hj2
        omega
      rcases c3 with c3 | ⟨c3, c6⟩
      · rw [if_pos c3] at kk
        refine va_bast (i := Int32.ofInt iq) (x := Int32.ofInt vq) hx hb hK hP hD hS (cq - 1) 1 (by rw [zwo_get (by omega), zent_num c3 (by decide) (by decide)]) rfl (zR_in h4 c4 c5) hdg (fun H1 locs1 a1 a2 a3 => ?_)
        rw [vp_nar_byte, show (Int32.ofInt vq).toInt8.toInt32 = Int32.ofInt (zb8 vq) from (zt_of _).symm, hset 21 _ c3 (by decide) (by decide)] at a1 a2
        exact kk ad H1 locs1 cells slots (Nat.le_refl _) (fun _ _ => rfl) (by omega) (by omega) ⟨zmok_up hM0 (zR_t _) (fun j hj hj2 => (hnr j hj2).elim), a1, a2, a3⟩ hl h2
      · rw [if_neg (by omega)] at kk
        refine va_zast (i := Int32.ofInt iq) (x := Int32.ofInt vq) hx hb hK hP hD hS (cq - 1) 2 (by rw [zwo_get (by omega), zent_num c3 (by decide) (by decide)]) rfl (zR_in h4 c4 c5) hdg (fun H1 locs1 a1 a2 a3 => ?_)
        rw [zb8_bool c6, hset 22 _ c3 (by decide) (by decide)] at a1 a2
        exact kk ad H1 locs1 cells slots (Nat.le_refl _) (fun _ _ => rfl) (by omega) (by omega) ⟨zmok_up hM0 h1 (fun j hj hj2 => (hnr j hj2).elim), a1, a2, a3⟩ hl h2
    · cases h
  | aastore =>
    simp only [zsw, zln, Bool.false_eq_true, false_or] at hz
    subst hz
    rcases st with _ | ⟨vq | vq | vq, _ | ⟨iq | iq | iq, _ | ⟨cq | cq | cq, st⟩⟩⟩ <;> simp only [zsE, reduceCtorEq] at h
    obtain ⟨h1, h2⟩ := zPl.cons.mp hp
    obtain ⟨h4, h2⟩ := zPl.cons.mp h2
    obtain ⟨h3, h2⟩ := zPl.cons.mp h2
    have h4 : zR iq := h4
    split at h
    · next hc =>
      obtain ⟨c1, c2, w1, w2, c3, c4, c5⟩ := hc
      cases h
      rw [List.map_cons, List.map_cons, List.map_cons, show ztr sp ad (.inr (.inr cq)) = Value.ref (ad (cq - 1)) from zrv_cell c1 (by omega), show ztr sp ad (.inr (.inr vq)) = Value.ref (ad (vq - 1)) from zrv_cell w1 (by omega)]
      have hset : ∀ ci : Nat, (zsh (cq - 1)).1 = ci → 23 ≤ ci → (zwo cA ad n sq).set (cq - 1) (ad (cq - 1), .inl (cA ci, (zsh (cq - 1)).2, .inr (.inr (.inr (.inr (va_up (fun j : Nat => zrc ad (sq (cq - 1) j).toNat) (Int32.ofInt iq).toNatClampNeg (some (ad (vq - 1))))))))) = zwo cA ad n (zup sq (cq - 1) iq (vq : Int)) := by
        intro ci e1 e2
        refine zwo_set (by omega) ?_ (fun a ha => zup_ne ha)
        rw [zent_ref e1 e2]
        have e0 : va_up (fun j : Nat => zrc ad (sq (cq - 1) j).toNat) (Int32.ofInt iq).toNatClampNeg (some (ad (vq - 1))) = fun j : Nat => zrc ad (zup sq (cq - 1) iq (vq : Int) (cq - 1) j).toNat := by
          funext j
          rw [zR_clamp h4]
          unfold va_up
          by_cases q : j = iq.toNat
          · rw [if_pos q, show ((j : Nat) : Int) = iq from by omega, zup_same, Int.toNat_natCast]
            unfold zrc
            rw [if_neg (by omega)]
          · rw [if_neg q, zup_other (by omega)]
        rw [e0]
      have hM2 : zmok n (zup sq (cq - 1) iq (vq : Int)) := zmok_up hM0 ⟨by omega, by omega⟩ (fun _ _ _ => by rw [Int.toNat_natCast]; exact w2)
      rcases c3 with ⟨c3, c6⟩ | ⟨c3, c6⟩
      · refine va_astq (i := Int32.ofInt iq) (r := (zc_n 1, zf_T 1, zf_n 1)) hx hb hK hP hD hS (cq - 1) 3 (vq - 1) 1 (by rw [zwo_get (by omega), zent_ref c3 (by decide)]) rfl (by rw [zwo_get (by omega), zent_obj c6 (by decide)]) rfl (zR_in h4 c4 c5) hdg (fun H1 locs1 a1 a2 a3 => ?_)
        rw [hset 23 c3 (by decide)] at a1 a2
        exact kk ad H1 locs1 cells slots (Nat.le_refl _) (fun _ _ => rfl) (by omega) (by omega) ⟨hM2, a1, a2, a3⟩ hl h2
      · refine va_astq (i := Int32.ofInt iq) (r := (zc_n 5, zf_T 5, zf_n 5)) hx hb hK hP hD hS (cq - 1) 4 (vq - 1) 5 (by rw [zwo_get (by omega), zent_ref c3 (by decide)]) rfl (by rw [zwo_get (by omega), zent_obj c6 (by decide)]) rfl (zR_in h4 c4 c5) hdg (fun H1 locs1 a1 a2 a3 => ?_)
        rw [hset 24 c3 (by decide)] at a1 a2
        exact kk ad H1 locs1 cells slots (Nat.le_refl _) (fun _ _ => rfl) (by omega) (by omega) ⟨hM2, a1, a2, a3⟩ hl h2
    · cases h
  | new idx =>
    simp only [zsw, zln, Bool.false_eq_true, false_or] at hz
    subst hz
    simp only [zsE] at h
    split at h
    · next ci hv =>
      split at h
      · next hc =>
        obtain ⟨c1, c2, c3⟩ := hc
        cases h
        have hn9 : n < 1000 := zsh_bound (by omega)
        have hzz := zsz_succ n
        refine va_new (ci := ci) (fs := zfs ad (znew sq n) n) (C := zc_n ci) (T := zf_T ci) (N := zf_n ci) hx hb hts (zcl_in c3) (zf_ty ci) (zf_tyok ci c3) hown (hts _ (zw_cl_ok (zcla_some hv))) (hts _ (zw_in_ok (zinn_in ci c3))) (hts _ (zw_ini_ok (zini_in ci c3))) hK hP hD hS hAq (zcl_get ci c3) (fun j hj => ?_) (by omega) (by omega) hdg (fun q H1 a1 a2 a3 => ?_)
        · rw [zf_def ci c3 j hj]
          unfold vp_V
          rw [List.getD_eq_getElem?_getD, zfs_get (by rw [c2]; exact hj), c1]
          have e0 : znew sq n n (j : Int) = 0 := by unfold znew; rw [if_pos rfl]
          rw [e0]
          by_cases q : (zf ci j).2.2.2 = 1
          · rw [if_pos q, if_pos q]; rfl
          · rw [if_neg q, if_neg q]; rfl
        · have hx9 : (Sum.inr (ci, zfs ad (znew sq n) n) : va_E) = zent cA (fun k => if k = n then q else ad k) (znew sq n) n := by
            rw [zent_obj c1 c3]
            congr 2
            unfold zfs
            apply List.map_congr_left
            intro j _
            have e0 : znew sq n n (j : Int) = 0 := by unfold znew; rw [if_pos rfl]
            rw [e0]
            rfl
          have g1 := zgrow hM0 hn9 hx9 a1 a2 a3
          have k9 := kk _ H1 locs (cells + 1) (slots + zf_n ci) (by omega) (fun k hk => if_neg (by omega)) (by omega) (by omega) g1 (hl.new hn) (zPl.cons.mpr ⟨Or.inl (Nat.le_refl _), hp.new⟩)
          rw [List.map_cons, zPl.newmap hp hn, ztr_newref hn] at k9
          exact k9
      · cases h
    · cases h
  | newarray a =>
    simp only [zsw, zln, Bool.false_eq_true, false_or] at hz
    subst hz
    rcases st with _ | ⟨kq | kq | kq, st⟩ <;> simp only [zsE, reduceCtorEq] at h
    obtain ⟨h1, h2⟩ := zPl.cons.mp hp
    have h1 : zR kq := h1
    split at h
    · next hc =>
      obtain ⟨c1, c2, c3⟩ := hc
      cases h
      have hn9 : n < 1000 := zsh_bound (by omega)
      have hzz := zsz_succ n
      have hlen := zsh_len n
      have hcl : (Int32.ofInt kq).toNatClampNeg = (zsh n).2 := by rw [zR_clamp h1, c3, Int.toNat_natCast]
      have hneg : ¬ Int32.ofInt kq < 0 := by
        rw [← zI0, zR_lt h1 zR0]
        omega
      have main : ∀ (ty : FieldType) (t0 : Nat), newarray.typeOf a = ty → (zTY cA)[t0]? = some (cA (zatk a), ty) → (Cond.arrayClass ty).before args s = true → componentBytes ty ≤ 4 → defaultValue ty = .int 0 → (∀ C0 : String, ty ≠ .object C0) → 20 ≤ zatk a → zatk a < 23 → W p l e R s m args below meth c H locs cells slots Q (F0 m pc ls (.int (Int32.ofInt kq) :: st.map (ztr sp ad))) := by
        intro ty t0 e1 e2 e3 e4 e5 e6 e7 e8
        subst e1
        refine va_newaK (N := (zsh n).2) hx hb e3 rfl hdg rfl hneg hcl (Nat.le_trans (Nat.mul_le_mul hlen e4) (by decide)) (by omega) (by omega) rfl (fun H1 cB f1 z1 o1 hAr hNm => ?_)
        have hcB : cB = cA (zatk a) := by
          have g2 := (hK.2 t0 _ e2).2
          have g3 : s.vm.findClass ("[" ++ (newarray.typeOf a).toString) = some (cA (zatk a)) := by
            cases a <;> first | exact g2 | exact absurd c2 (by decide)
          exact Option.some.inj (hNm.symm.trans g3)
        subst hcB
        have hx9 : (Sum.inl (cA (zatk a), ((zsh n).2, Sum.inl fun _ => 0)) : va_E) = zent cA (fun k => if k = n then H.size else ad k) (znew sq n) n := by
          rw [zent_num c1 e7 e8]
          congr 4
          funext j
          have e0 : znew sq n n (j : Int) = 0 := by unfold znew; rw [if_pos rfl]
          rw [e0]
          rfl
        have hkq : ∀ (k : Nat) (x : Nat × va_E), (zwo cA ad n sq)[k]? = some x → H1[x.1]? = H[x.1]? := fun k x hx => o1 x.1 ((hP k x hx).lt)
        have hP2 : va_P (dC, dI) classes (zwo cA ad n sq ++ [(H.size, Sum.inl (cA (zatk a), ((zsh n).2, Sum.inl fun _ => 0)))]) H1 := (hP.kept hkq).app (fun k x hx => by
          have hz : k < 1 := (List.getElem?_eq_some_iff.mp hx).1
          rw [show k = 0 by omega] at hx
          cases hx
          show H1[H.size]? = some (vp_cell _ _)
          rw [f1, e5]
          rfl)
        have g1 := zgrow (ad := ad) hM0 hn9 hx9 hP2 (hD.push hP rfl (hAq _ hS.1)) ⟨Nat.le_trans hS.1 (by omega), fun x h1 h2 => (o1 x (Nat.lt_of_lt_of_le h1 hS.1)).trans (hS.2.1 x h1 h2), hS.2.2⟩
        have k9 := kk _ H1 locs (cells + 1) (slots + (zsh n).2) (by omega) (fun k hk => if_neg (by omega)) (by omega) (by omega) g1 (hl.new hn) (zPl.cons.mpr ⟨Or.inl (Nat.le_refl _), h2.new⟩)
        rw [List.map_cons, zPl.newmap h2 hn, ztr_newref hn] at k9
        exact k9
      cases a with
      | int => exact main .int 0 rfl rfl (hts _ (zw_mi_ok zmi_in.1)) (by decide) rfl (fun _ q => by cases q) (by decide) (by decide)
      | byte => exact main .byte 1 rfl rfl (hts _ (zw_mi_ok zmi_in.2.1)) (by decide) rfl (fun _ q => by cases q) (by decide) (by decide)
      | boolean => exact main .boolean 2 rfl rfl (hts _ (zw_mi_ok zmi_in.2.2.1)) (by decide) rfl (fun _ q => by cases q) (by decide) (by decide)
      | _ => exact absurd c2 (by decide)
    · cases h
  | anewarray idx =>
    simp only [zsw, zln, Bool.false_eq_true, false_or] at hz
    subst hz
    rcases st with _ | ⟨kq | kq | kq, st⟩ <;> simp only [zsE, reduceCtorEq] at h
    obtain ⟨h1, h2⟩ := zPl.cons.mp hp
    have h1 : zR kq := h1
    split at h
    · next ci hv =>
      split at h
      · next hc =>
        obtain ⟨c1, c3⟩ := hc
        cases h
        have hn9 : n < 1000 := zsh_bound (by omega)
        have hzz := zsz_succ n
        have hlen := zsh_len n
        have hcl : (Int32.ofInt kq).toNatClampNeg = (zsh n).2 := by rw [zR_clamp h1, c3, Int.toNat_natCast]
        have hneg : ¬ Int32.ofInt kq < 0 := by
          rw [← zI0, zR_lt h1 zR0]
          omega
        obtain ⟨-, tq, -, -, -, -, -, -, -, -, -, -, -, -, -, gA, gB⟩ := hXt
        have main : ∀ (C0 : String) (t0 kd : Nat), zc_n ci = C0 → (zsh n).1 = kd → (zTY cA)[t0]? = some (cA kd, .object C0) → va_AO C0 s → 23 ≤ kd → W p l e R s m args below meth c H locs cells slots Q (F0 m pc ls (.int (Int32.ofInt kq) :: st.map (ztr sp ad))) := by
          intro C0 t0 kd e1 e2 e3 e4 e5
          subst e1
          refine va_newq (C := zc_n ci) (N' := (zsh n).2) hx hb hown (hts _ (zw_cl_ok (zcla_some hv))) e4 hK hP hD hS hAq hneg hcl (by omega) (by omega) (by omega) hdg (fun q cB H1 a0 a1 a2 a3 => ?_)
          have hcB : cB = cA kd := by
            obtain ⟨kA, comp, g1, g2, g3, g4⟩ := (hK.2 t0 _ e3).2
            obtain ⟨kA2, comp2, g5, g6, g7, g8⟩ := (a0.2 5 _ rfl).2
            exact Option.some.inj (g8.symm.trans g4)
          subst hcB
          have hx9 : (Sum.inl (cA kd, (zsh n).2, .inr (.inr (.inr (.inr (fun _ => none))))) : va_E) = zent cA (fun k => if k = n then q else ad k) (znew sq n) n := by
            rw [zent_ref e2 e5]
            have e0 : (fun j : Nat => zrc (fun k => if k = n then q else ad k) (znew sq n n (j : Int)).toNat) = fun _ => none := by
              funext j
              have e1 : znew sq n n (j : Int) = 0 := by unfold znew; rw [if_pos rfl]
              rw [e1]
              rfl
            rw [e0]
          have g1 := zgrow (ad := ad) hM0 hn9 hx9 a1 a2 a3
          have k9 := kk _ H1 locs (cells + 1) (slots + (zsh n).2) (by omega) (fun k hk => if_neg (by omega)) (by omega) (by omega) g1 (hl.new hn) (zPl.cons.mpr ⟨Or.inl (Nat.le_refl _), h2.new⟩)
          rw [List.map_cons, zPl.newmap h2 hn, ztr_newref hn] at k9
          exact k9
        rcases c1 with ⟨rfl, c2⟩ | ⟨rfl, c2⟩
        · exact main "OneForOne$Law" 3 23 rfl c2 rfl gA (by decide)
        · exact main "OneForOne$Sheet" 4 24 rfl c2 rfl gB (by decide)
      · cases h
    · cases h
  | invokespecial idx =>
    simp only [zsw, zln, Bool.false_eq_true, false_or] at hz
    subst hz
    rcases st with _ | ⟨cq | cq | cq, st⟩ <;> simp only [zsE, reduceCtorEq] at h
    obtain ⟨h1, h2⟩ := zPl.cons.mp hp
    split at h
    · next hc =>
      obtain ⟨c1, c2, c3, c4⟩ := hc
      cases h
      rw [List.map_cons, show ztr sp ad (.inr (.inr cq)) = Value.ref (ad (cq - 1)) from zrv_cell c2 (by omega)]
      refine W.objInit hx hb hown (hts _ (zw_oi_ok (zoi_some c1))) (hts _ (zw_mi_ok zmi_in.2.2.2.2.2.2.1)) (hts _ (zw_mi_ok zmi_in.2.2.2.2.2.2.2)) rfl (by rw [hml]; exact hl.1) rfl hdg hrf (by rw [zcat_map hXt.1]; show 2 * 0 + _ + 12 ≤ _; omega) ?_
      exact kk ad H locs cells slots (Nat.le_refl _) (fun _ _ => rfl) (by omega) (by omega) hH0 hl h2
    · cases h
  | invokestatic idx =>
    simp only [zsw, zln, Bool.false_eq_true, false_or] at hz
    subst hz
    rcases st with _ | ⟨kq | kq | kq, _ | ⟨jq | jq | jq, _ | ⟨c2q | c2q | c2q, _ | ⟨iq | iq | iq, _ | ⟨c1q | c1q | c1q, st⟩⟩⟩⟩⟩ <;> simp only [zsE, reduceCtorEq] at h
    obtain ⟨h1, h2⟩ := zPl.cons.mp hp
    obtain ⟨h3, h2⟩ := zPl.cons.mp h2
    obtain ⟨h4, h2⟩ := zPl.cons.mp h2
    obtain ⟨h5, h2⟩ := zPl.cons.mp h2
    obtain ⟨h6, h2⟩ := zPl.cons.mp h2
    have h1 : zR kq := h1
    have h3 : zR jq := h3
    have h5 : zR iq := h5
    split at h
    · next hc =>
      obtain ⟨c0, c1, c2, c3, c4, c5, c6, c7, c8, c9, c10, c11, c12⟩ := hc
      cases h
      rw [List.map_cons, List.map_cons, List.map_cons, List.map_cons, List.map_cons, show ztr sp ad (.inr (.inr c1q)) = Value.ref (ad (c1q - 1)) from zrv_cell c1 (by omega), show ztr sp ad (.inr (.inr c2q)) = Value.ref (ad (c2q - 1)) from zrv_cell c3 (by omega)]
      have ng : ∀ w : Int, zR w → 0 ≤ w → ¬ Int32.ofInt w < 0 := by
        intro w hw h0
        rw [← zI0, zR_lt hw zR0]
        omega
      have hnat : nativeFrameWords "java/lang/System" "arraycopy" 5 = 7 := by decide
      refine va_copyi (sp := Int32.ofInt iq) (dp := Int32.ofInt jq) (n := Int32.ofInt kq) (ty := .int) hx hb (by rw [hml]; exact hl.1.symm) hown (hts _ (zw_ac_ok (zac_some c0))) (hts _ (zw_mi_ok zmi_in.2.2.2.1)) (hts _ (zw_mi_ok zmi_in.2.2.2.2.1)) (hts _ (zw_mi_ok zmi_in.2.2.2.2.2.1)) hK hP hD hS (c1q - 1) (c2q - 1) 0 0 (by rw [zwo_get (by omega), zent_num c5 (by decide) (by decide)]) (by rw [zwo_get (by omega), zent_num c6 (by decide) (by decide)]) rfl rfl rfl (ng _ h5 c7) (ng _ h3 c8) (ng _ h1 c9) (by rw [zR_clamp h5, zR_clamp h1]; omega) (by rw [zR_clamp h3, zR_clamp h1]; omega) (fun _ _ => rfl) hrf (by rw [zcat_map hXt.1, hnat]; omega) hdg (fun H1 locs1 a1 a2 a3 => ?_)
      have hset : (zwo cA ad n sq).set (c2q - 1) (ad (c2q - 1), .inl (cA 20, (zsh (c2q - 1)).2, .inl (va_cpy (fun j : Nat => Int32.ofInt (sq (c1q - 1) j)) (fun j : Nat => Int32.ofInt (sq (c2q - 1) j)) (Int32.ofInt iq).toNatClampNeg (Int32.ofInt jq).toNatClampNeg (Int32.ofInt kq).toNatClampNeg))) = zwo cA ad n (zcopy sq (c1q - 1) iq (c2q - 1) jq kq) := by
        refine zwo_set (by omega) ?_ (fun a ha => by unfold zcopy; rw [if_neg ha])
        rw [zent_num c6 (by decide) (by decide)]
        congr 3
        congr 1
        funext j
        rw [zR_clamp h5, zR_clamp h3, zR_clamp h1]
        unfold va_cpy zcopy
        rw [if_pos rfl]
        by_cases q : jq.toNat ≤ j ∧ j < jq.toNat + kq.toNat
        · rw [if_pos q, if_pos (by omega)]
          show Int32.ofInt (sq (c1q - 1) ((iq.toNat + (j - jq.toNat) : Nat) : Int)) = _
          rw [show ((iq.toNat + (j - jq.toNat) : Nat) : Int) = iq + ((j : Int) - jq) from by omega]
        · rw [if_neg q, if_neg (by omega)]
      rw [hset] at a1 a2
      refine kk ad H1 locs1 cells slots (Nat.le_refl _) (fun _ _ => rfl) (by omega) (by omega) ⟨⟨fun a j => ?_, fun a j ha hj => ?_, hn⟩, a1, a2, a3⟩ hl h2
      · unfold zcopy
        by_cases q : a = c2q - 1
        · rw [if_pos q]
          show zR (if _ then _ else _)
          split
          · exact hR _ _
          · exact hR _ _
        · rw [if_neg q]; exact hR _ _
      · have q : a ≠ c2q - 1 := by
          intro q
          subst q
          unfold zrefs at hj
          rw [c6] at hj
          exact absurd hj (by simp)
        unfold zcopy
        rw [if_neg q]
        exact hRf _ _ ha hj
    · cases h
  | _ => simp [zsE] at h
end ZSND
end
section
/-! a whole method: every contract at once, by the depth of the calls -/
theorem zm_all : ∀ yq, yq < 240 → (zm yq).1.cls = zc_n (zm yq).2.2.2.2.1 ∧ (parseMethodDescriptor (zm yq).1.desc).map (fun d => d.parameters.length) = some ((zm yq).2.2.2.2.2.2.1 - if (zm yq).2.2.2.2.2.2.2 = true then 0 else 1) ∧ (zm yq).2.2.1 ≤ 16 ∧ (zm yq).2.2.2.2.2.2.1 ≤ (zm yq).2.2.1 := by decide +kernel
theorem zm_noMH : ∀ yq, yq < 240 → (zm yq).1.cls ≠ "java/lang/invoke/MethodHandle" ∧ (zm yq).1.cls ≠ "java/lang/invoke/VarHandle" := by decide +kernel
theorem zm_pf : ∀ yq, yq < 240 → plainFor (zm yq).1 = true := by decide +kernel
theorem zm_inst : ∀ yq, yq < 240 → (zm yq).2.2.2.2.2.2.2 = false → yq ∈ zw_inst ∧ 1 ≤ (zm yq).2.2.2.2.2.2.1 := by decide +kernel
theorem zm_stat : ∀ yq, yq < 240 → (zm yq).2.2.2.2.2.2.2 = true → yq ∈ zw_stat := by decide +kernel
theorem zm_sel : ∀ yq, yq < 240 → (zm yq).2.2.2.2.2.2.2 = false → (zm yq).1.name ≠ "<init>" → yq ∈ zw_sel := by decide +kernel
theorem zm_ini : ∀ yq, yq < 240 → (zm yq).2.2.2.2.1 ∈ zw_ini := by decide +kernel
theorem zm_rt : ∀ yq, yq < 240 → ((zm yq).2.2.2.2.2.1 = 0 → (zm yq).2.2.2.1 = none) ∧ ((zm yq).2.2.2.2.2.1 = 1 → (zm yq).2.2.2.1 = some .int) ∧ ((zm yq).2.2.2.2.2.1 = 2 → (zm yq).2.2.2.1 = some .boolean) ∧ ((zm yq).2.2.2.2.2.1 = 3 → (zm yq).2.2.2.1 = some .char) ∧ ((zm yq).2.2.2.2.2.1 = 4 → (zm yq).2.2.2.1 = some .byte) ∧ ((zm yq).2.2.2.2.2.1 = 5 → (zm yq).2.2.2.1 = some .long) ∧ ((zm yq).2.2.2.2.2.1 = 6 → (zm yq).2.2.2.1 = some (.object "OneForOne$Law")) := by decide +kernel
theorem zml_some {oq idx yq : Nat} (h : zml oq idx = some yq) : (oq, idx, yq) ∈ zw_ml := by
  unfold zml at h
  split at h
  · next e0 h0 =>
    have h1 := List.find?_some h0
    have h2 := List.mem_of_find?_eq_some h0
    simp only [Bool.and_eq_true, beq_iff_eq] at h1
    obtain ⟨a1, a2, a3⟩ := e0
    dsimp only at h1 h
    cases h
    rw [h1.1, h1.2] at h2
    exact h2
  · cases h
theorem znl_some {oq idx yq : Nat} (h : znl oq idx = some yq) : (oq, idx, yq) ∈ zw_nl := by
  unfold znl at h
  split at h
  · next e0 h0 =>
    have h1 := List.find?_some h0
    have h2 := List.mem_of_find?_eq_some h0
    simp only [Bool.and_eq_true, beq_iff_eq] at h1
    obtain ⟨a1, a2, a3⟩ := e0
    dsimp only at h1 h
    cases h
    rw [h1.1, h1.2] at h2
    exact h2
  · cases h
/-- the words of a method -/
def zws (yq : Nat) : List Cond := zw_code_w yq :: zgw
theorem zgood (w : Cond) (h : w ∈ zgw) : w ∈ zgw ∧ ((w.onTables && w.keeps) = true ∨ ∃ ty, w = .arrayClass ty) := ⟨h, good_of_word (zgw_good h)⟩
theorem zws_good {yq : Nat} (hy : yq < 240) : GoodIn zgw (zws yq) := by
  intro w hw
  rcases List.mem_cons.mp hw with h | h
  · rw [h]; exact zgood _ (zw_code_ok hy)
  · exact zgood _ h
def zrm (d n n2 : Nat) : Room := { frames := d, cells := n2 - n, slots := zsz n2 - zsz n, locals := 64 * d }
def zPc (cA dC : Nat → ClassId) (dI : Nat → Nat → Nat) (sp : Nat → Value) (xs : Nat → Int) (L base : Nat) (ad : Nat → Nat) (n : Nat) (sq : Pl) (argq : List AV) : Array Value → State → Prop :=
  va_Pc (argq.map (ztr sp ad)) fun U => base ≤ U.heap.size ∧ zmok n sq ∧ va_P (dC, dI) classes (zwo cA ad n sq) U.heap ∧ va_D (zA base) (zwo cA ad n sq) ∧ va_K (dC, dI) classes (zTY cA) U ∧ zXt sp xs L (zA base) U U.heap ∧ zPl n argq
def zQc (cA dC : Nat → ClassId) (dI : Nat → Nat → Nat) (sp : Nat → Value) (base : Nat) (ad : Nat → Nat) (n : Nat) (r : Option AV) (n2 : Nat) (sq2 : Pl) : Array Value → State → Outcome → State → Prop := fun _ st oc t =>
  ∃ ad2 : Nat → Nat, (∀ k, k < n → ad2 k = ad k) ∧ oc = .returned (r.map (ztr sp ad2)) ∧ zmok n2 sq2 ∧ va_P (dC, dI) classes (zwo cA ad2 n2 sq2) t.heap ∧ va_D (zA base) (zwo cA ad2 n2 sq2) ∧ zPl n2 r.toList ∧ n ≤ n2 ∧ va_F (zA base) st t
/-- what a way of calling keeps: the contract of each method at a depth -/
def zMet (l : Launch) (xs : Nat → Int) (L : Nat) (ex : ZX) (d : Nat) : Prop :=
  ∀ (yq : Nat) (argq : List AV) (n : Nat) (sq : Pl) (r : Option AV) (n2 : Nat) (sq2 : Pl), yq < 240 → argq.length = (zm yq).2.2.2.2.2.2.1 → (∀ v ∈ argq, zcat v = 1) → ex yq argq n sq = some (r, n2, sq2) →
    ∀ (cA dC : Nat → ClassId) (dI : Nat → Nat → Nat) (sp : Nat → Value) (base : Nat) (ad : Nat → Nat),
      Met l (zm yq).1 (zws yq) (zrm d n n2) (zPc cA dC dI sp xs L base ad n sq argq) (zQc cA dC dI sp base ad n r n2 sq2) (n2 - n) (zsz n2 - zsz n) (zA base)
/-- cells only come -/
def zMono (ex : ZX) : Prop := ∀ yq argq n sq r n2 sq2, ex yq argq n sq = some (r, n2, sq2) → n ≤ n2
theorem zsA_mono {o : Nat} {ini : Bool} {i : Instr} {z : Nat} {f f2 : Fm} (h : zsA o ini i z f = some f2) : f2.2.2.2.1 = f.2.2.2.1 := by
  unfold zsA at h
  (repeat' split at h) <;> first | (cases h; rfl) | (cases h; done)
theorem zsB_mono {o : Nat} {ini : Bool} {i : Instr} {z : Nat} {f f2 : Fm} (h : zsB o ini i z f = some f2) : f2.2.2.2.1 = f.2.2.2.1 := by
  unfold zsB at h
  (repeat' split at h) <;> first | (cases h; rfl) | (cases h; done)
theorem zsC_mono {o : Nat} {ini : Bool} {i : Instr} {z : Nat} {f f2 : Fm} (h : zsC o ini i z f = some f2) : f2.2.2.2.1 = f.2.2.2.1 := by
  unfold zsC at h
  (repeat' split at h) <;> first | (cases h; rfl) | (cases h; done)
theorem zsD_mono {xs : Nat → Int} {L o : Nat} {ini : Bool} {i : Instr} {z : Nat} {f f2 : Fm} (h : zsD xs L o ini i z f = some f2) : f2.2.2.2.1 = f.2.2.2.1 := by
  unfold zsD at h
  (repeat' split at h) <;> first | (cases h; rfl) | (cases h; done)
theorem zsE_mono {o : Nat} {ini : Bool} {i : Instr} {z : Nat} {f f2 : Fm} (h : zsE o ini i z f = some f2) : f.2.2.2.1 ≤ f2.2.2.2.1 := by
  unfold zsE at h
  (repeat' split at h) <;> first | (cases h; exact Nat.le_refl _) | (cases h; exact Nat.le_succ _) | (cases h; done)
theorem zstep_mono {xs : Nat → Int} {L o : Nat} {ini : Bool} {i : Instr} {z : Nat} {f f2 : Fm} (h : zstep xs L o ini i z f = some f2) : f.2.2.2.1 ≤ f2.2.2.2.1 := by
  unfold zstep at h
  split at h
  · next r hr => cases h; exact Nat.le_of_eq (zsA_mono hr).symm
  · split at h
    · next r hr => cases h; exact Nat.le_of_eq (zsB_mono hr).symm
    · split at h
      · next r hr => cases h; exact Nat.le_of_eq (zsC_mono hr).symm
      · split at h
        · next r hr => cases h; exact Nat.le_of_eq (zsD_mono hr).symm
        · exact zsE_mono h
theorem zrun_mono {xs : Nat → Int} {L : Nat} {ex : ZX} (hm : zMono ex) {yq o rt : Nat} {ini : Bool} : ∀ (N : Nat) (f : Fm) (r : Option AV) (n2 : Nat) (sq2 : Pl), zrun xs L ex yq o rt ini N f = some (r, n2, sq2) → f.2.2.2.1 ≤ n2 := by
  intro N
  induction N with
  | zero => intro f r n2 sq2 h; cases h
  | succ N ih =>
    intro f r n2 sq2 h
    unfold zrun at h
    split at h
    · cases h
    · split at h
      · next r0 hr => 
        have h := Option.some.inj h
        have h2 := congrArg (fun q => q.2.1) h
        exact Nat.le_of_eq h2
      · split at h
        · split at h
          · split at h
            · next r1 n1 s1 he =>
              exact Nat.le_trans (hm _ _ _ _ _ _ _ he) (ih _ _ _ _ h)
            · cases h
          · cases h
        · split at h
          · next f2 hf => exact Nat.le_trans (zstep_mono hf) (ih _ _ _ _ h)
          · cases h
theorem zex_mono {xs : Nat → Int} {L N : Nat} : ∀ d, zMono (zex xs L N d) := by
  intro d
  induction d with
  | zero => intro yq argq n sq r n2 sq2 h; cases h
  | succ d ih =>
    intro yq argq n sq r n2 sq2 h
    exact zrun_mono ih _ _ _ _ _ h
theorem zsz_mono {a bq : Nat} (h : a ≤ bq) : zsz a ≤ zsz bq := by
  induction h with
  | refl => exact Nat.le_refl _
  | step _ ih => rw [zsz_succ]; omega
theorem zXt.cong {sp : Nat → Value} {xs : Nat → Int} {L : Nat} {A : Nat → Prop} {u U : State} (h : zXt sp xs L A u u.heap) (hv : U.vm = u.vm) (hh : U.heap = u.heap) : zXt sp xs L A U U.heap := by
  obtain ⟨h0, t, h1, h2, h3, h4, h5, h6, h7, h8, h9, h10, h11, h12, h13, h14, h15⟩ := h
  have al : u.vm.Alike U.vm := by rw [hv]; exact Vm.Alike.refl _
  rw [hh]
  refine ⟨h0, t, h1, h2, h3, fun j hj => (h4 j hj).moved al, fun j hj => (h5 j hj).moved al, fun j hj => ⟨(h6 j hj).1.moved al, (h6 j hj).2.1.moved al, (h6 j hj).2.2.moved al⟩, h7.moved al, h8.moved al, h9.moved al, h10.moved al, h11.same hv, h12.same hv, fun e he => ?_, h14.moved al, h15.moved al⟩
  exact va_tabs rfl hv.symm (h13 e he)
theorem zPc_blind {cA dC : Nat → ClassId} {dI : Nat → Nat → Nat} {sp : Nat → Value} {xs : Nat → Int} {L base : Nat} {ad : Nat → Nat} {n : Nat} {sq : Pl} {argq : List AV} : FrameBlind (zPc cA dC dI sp xs L base ad n sq argq) := by
  intro a U g mk q
  obtain ⟨q0, q1, q2, q3, q4, q5, q6, q7⟩ := q
  refine ⟨q0, q1, q2, q3, q4, va_K.moved (u := U) (U := U.calling g mk a) (Vm.Alike.refl U.vm) q5, ?_, q7⟩
  exact zXt.cong q6 rfl rfl
end
section
/-! a method's run, walked on the machine -/
section ZSND
variable {p : Program} {l : Launch} {e : Env} {R : Room} {s : State} {m : MethodId} {args : Array Value} {below : List Frame} {meth : Method} {c : Code} {H : Heap} {locs : List Loc} {cells slots : Nat} {Q : State → Prop}
variable {y o : Nat} {ini : Bool} {b : ByteArray} {nL : Nat} {cA dC : Nat → ClassId} {dI : Nat → Nat → Nat} {sp : Nat → Value} {xs : Nat → Int} {L base : Nat} {ad : Nat → Nat}
/-- behind a call -/
theorem zgo {mc ms pc : Nat} {ls : Array Slot} {restq st0 : List Value} {Qa : State → Outcome → State → Prop} {free : Addr → Prop} (hr : va_Run p l e R s m args below meth c H locs cells slots mc ms (F0 m pc ls st0) restq Qa free)
    (kk : ∀ (v : Option Value) (st₀ t : State) (H1 : Heap) (locs1 : List Loc), st₀.heap = H → t.heap = H1 → s.WarmedH t.vm → Qa st₀ (.returned v) t → (∀ q ∈ locs1, q ∈ locs ∨ free q.base) → W p l e R s m args below meth c H1 locs1 (cells + mc) (slots + ms) Q (F0 m (pc + 3) ls (v.toList ++ restq))) : W p l e R s m args below meth c H locs cells slots Q (F0 m pc ls st0) := by
  intro T hT X
  obtain ⟨v, st₀, t, T', L', h0, X', hL, e1, e2, hq, st⟩ := hr T hT X
  obtain ⟨t2, a1, b1⟩ := kk v st₀ t T'.heap (locs ++ L') h0 e1.symm (by rw [← e2]; exact X'.warmed) hq (fun q hq => by
    rcases List.mem_append.mp hq with h | h
    · exact Or.inl h
    · exact Or.inr (hL q h)) T' rfl X'
  exact ⟨t2, st t2 a1, b1⟩
theorem zsplit {st : List AV} {na : Nat} (h : na ≤ st.length) : st = ((st.take na).reverse).reverse ++ st.drop na := by
  rw [List.reverse_reverse, List.take_append_drop]
set_option maxHeartbeats 4000000 in
/-- a call as the machine makes it -/
theorem zcall {d y2 n n1 pc z : Nat} {i : Instr} {ls : Array Slot} {sq s1 : Pl} {r1 : Option AV} {argq restq : List AV} {ex : ZX}
    (C : zCtx p s m args meth c y o ini b nL cA dC dI sp xs L base) (hi : zi y pc = some (i, z)) (hex : zMet l xs L ex d) (hcal : zcal o i = some y2) (hok : zcallok i y2 n argq restq = true) (hlen : argq.length = (zm y2).2.2.2.2.2.2.1) (hcall : ex y2 argq n sq = some (r1, n1, s1))
    (hsz : ls.size = nL) (hpa : zPl n argq) (hH : zHp s cA dC dI base ad n sq H locs) (hf : d + 1 ≤ R.frames) (hlo : 64 * (d + 1) ≤ R.locals) (hcs : cells + (n1 - n) ≤ R.cells ∧ slots + (zsz n1 - zsz n) ≤ R.slots) :
    z = 3 ∧ va_Run p l e R s m args below meth c H locs cells slots (n1 - n) (zsz n1 - zsz n) (F0 m pc ls ((argq.reverse ++ restq).map (ztr sp ad))) (restq.map (ztr sp ad)) (zQc cA dC dI sp base ad n r1 n1 s1 (argq.map (ztr sp ad)).toArray) (zA base) := by
  obtain ⟨hx, hb, hml, hd, hown, hts, hK, hXt, hbs, hin⟩ := C
  obtain ⟨hdg, hz⟩ := hd _ _ _ hi
  obtain ⟨hM, hP, hD, hS⟩ := hH
  have hn := hM.2.2
  unfold zcallok at hok
  simp only [Bool.and_eq_true, decide_eq_true_eq] at hok
  obtain ⟨⟨⟨k1, k2⟩, k3⟩, k4⟩ := hok
  have k3 : ∀ v ∈ argq, zcat v = 1 := fun v hv => of_decide_eq_true (List.all_eq_true.mp k3 v hv)
  have hMt := hex y2 argq n sq r1 n1 s1 k2 hlen k3 hcall cA dC dI sp base ad
  obtain ⟨z1, z2, z3, z4⟩ := zm_all y2 k2
  have hpre : ∀ U : State, U.heap = H → s.WarmedH U.vm → zPc cA dC dI sp xs L base ad n sq argq (argq.map (ztr sp ad)).toArray U := by
    intro U hU hW
    refine ⟨rfl, ?_, hM, by rw [hU]; exact hP, hD, va_K.moved hW.alike hK, ?_, hpa⟩
    · rw [hU]; exact Nat.le_trans hbs hS.1
    · rw [hU]; exact hXt.go hW hS.2.1
  have hst : (argq.reverse ++ restq).map (ztr sp ad) = (argq.map (ztr sp ad)).reverse ++ restq.map (ztr sp ad) := by
    rw [List.map_append, List.map_reverse]
  have hroom : 2 * (F0 m pc ls ((argq.reverse ++ restq).map (ztr sp ad))).monitorRoom + ((restq.map (ztr sp ad)).map fun v => v.category).sum ≤ 8 := by
    rw [zcat_map hXt.1]
    show 2 * 0 + _ ≤ 8
    omega
  have hRl : (zrm d n n1).frames + 1 ≤ R.frames ∧ 8 + ((zm y2).2.2.1 + 11) + (zrm d n n1).locals ≤ R.locals := ⟨hf, by show 8 + _ + 64 * d ≤ _; omega⟩
  have hRv : ∀ (cq : Nat) (As : List AV), argq = .inr (.inr cq) :: As → zrecv y2 n argq = true → ∃ a0 : Nat, ztr sp ad (.inr (.inr cq)) = .ref a0 ∧ ∃ cellB : Cell, H[a0]? = some cellB ∧ cellB.vm.isStatics = false ∧ s.vm.findClass (zc_n (zm y2).2.2.2.2.1) = some cellB.cls := by
    intro cq As ea hrv
    rw [ea] at hrv
    simp only [zrecv, Bool.or_eq_true, Bool.and_eq_true, decide_eq_true_eq] at hrv
    rcases hrv with ⟨⟨g1, g2⟩, g3⟩ | ⟨g1, g2⟩
    · have h9 : (zsh (cq - 1)).1 < 16 := by
        have : ∀ yq, yq < 240 → (zm yq).2.2.2.2.1 < 16 := by decide +kernel
        rw [g3]; exact this y2 k2
      have h9 : (zsh (cq - 1)).1 < 9 := by
        have : ∀ a, a < zsh_L.length → (zsh a).1 < 16 → (zsh a).1 < 9 := by decide +kernel
        rcases Nat.lt_or_ge (cq - 1) zsh_L.length with q | q
        · exact this _ q h9
        · rw [zsh_out q] at h9; exact absurd h9 (by decide)
      refine ⟨ad (cq - 1), zrv_cell g1 (by omega), ?_⟩
      rw [← g3]
      exact va_recv hK hP (zcl_get _ h9) (q0 := cq - 1) (by rw [zwo_get (by omega), zent_obj rfl h9])
    · obtain ⟨-, tq, f1, -, -, -, -, fS, -⟩ := hXt
      have hj : cq - 100000 = 2 ∨ cq - 100000 = 3 := by omega
      obtain ⟨cell, q1, q2, q3, -⟩ := (fS _ hj).1.kept hS.2.1
      refine ⟨tq (cq - 100000), ?_, cell, q1, q2, by rw [g2]; exact q3⟩
      have hcq : cq = 100000 + (cq - 100000) := by omega
      rw [hcq]
      refine (zrv_giv (j := cq - 100000) ad).trans ?_
      rw [show 100000 + (cq - 100000) - 100000 = cq - 100000 from by omega]
      exact f1 _ (by omega)
  have hini : (Cond.initialized (zm y2).1.cls).before args s = true := by rw [z1]; exact hts _ (zw_ini_ok (zm_ini y2 k2))
  have hgi : Cond.initialized (zm y2).1.cls ∈ zgw := by rw [z1]; exact zw_ini_ok (zm_ini y2 k2)
  have fix : CallFix p m c b nL s args zgw (zc_n o) := ⟨hx, hb, hml, hown, hts⟩
  cases i with
  | invokevirtual idx =>
    simp only [zsw, zln, Bool.false_eq_true, false_or] at hz
    refine ⟨hz, ?_⟩
    subst hz
    have hml2 := zml_some hcal
    simp only [zmode, Bool.and_eq_true, Bool.not_eq_true', decide_eq_true_eq] at k4
    obtain ⟨⟨g1, g2⟩, g3⟩ := k4
    obtain ⟨i1, i2⟩ := zm_inst y2 k2 g1
    rw [g1] at z2
    cases argq with
    | nil => simp [zrecv] at g2
    | cons v As =>
      rcases v with v | v | cq
      · simp [zrecv] at g2
      · simp [zrecv] at g2
      · obtain ⟨a0, ea0, hcell⟩ := hRv cq As rfl g2
        rw [hst]
        rw [List.map_cons, ea0] at hst ⊢ hpre
        have hgood : GoodIn zgw (wsV (zc_n o) idx (zc_n (zm y2).2.2.2.2.1) (zm y2).1 (zws y2)) := by
          intro w hw
          unfold wsV at hw
          rcases List.mem_append.mp hw with h | h
          · simp only [List.mem_cons, List.not_mem_nil, or_false] at h
            rcases h with h | h | h | h
            · rw [h]; exact zgood _ (zw_ml_ok hml2)
            · rw [h]; exact zgood _ (zw_inst_ok i1)
            · rw [h]; exact zgood _ (zw_sel_ok (zm_sel y2 k2 g1 g3))
            · rw [h]; exact zgood _ (zw_ini_ok (zm_ini y2 k2))
          · exact zws_good k2 w h
        have hnp : As.length + 1 = (zm y2).2.2.2.2.2.2.1 := by rw [← hlen]; rfl
        exact va_runV (As := As.map (ztr sp ad)) (rest := restq.map (ztr sp ad)) fix hMt
          (cwV (n := As.length) hts hgood rfl rfl rfl ⟨z1, (zm_noMH y2 k2).1, (zm_noMH y2 k2).2, by rw [z2]; congr 1; simp; omega⟩ hRl)
          ⟨zPc_blind, hcell, hpre⟩ rfl (by rw [List.length_map]) hsz (by show _ = _; rw [List.reverse_cons, List.append_assoc]; rfl) (by rw [zcat_map hXt.1]; show 2 * 0 + _ ≤ 8; omega) hdg hcs
  | invokestatic idx =>
    simp only [zsw, zln, Bool.false_eq_true, false_or] at hz
    refine ⟨hz, ?_⟩
    subst hz
    simp only [zmode] at k4
    have i1 := zm_stat y2 k2 k4
    rw [if_pos k4, Nat.sub_zero] at z2
    rw [hst]
    simp only [zcal] at hcal
    split at hcal
    · next y3 h3 =>
      cases hcal
      have hml2 := zml_some h3
      have hgood : GoodIn zgw (va_wsS (zc_n o) idx (zm y2).1 (zws y2)) := by
        intro w hw
        unfold va_wsS at hw
        rcases List.mem_append.mp hw with h | h
        · simp only [List.mem_cons, List.not_mem_nil, or_false] at h
          rcases h with h | h | h
          · rw [h]; exact zgood _ (zw_ml_ok hml2)
          · rw [h]; exact zgood _ (zw_stat_ok i1)
          · rw [h]; exact zgood _ hgi
        · exact zws_good k2 w h
      exact va_runS (As := argq.map (ztr sp ad)) (rest := restq.map (ztr sp ad)) fix hMt
        (va_cwS (n := argq.length) hts hgood rfl rfl rfl ⟨(zm_noMH y2 k2).1, (zm_noMH y2 k2).2, by rw [z2, hlen]⟩ hRl)
        ⟨zPc_blind, hpre⟩ rfl (by rw [List.length_map]) hsz rfl (by rw [zcat_map hXt.1]; show 2 * 0 + _ ≤ 8; omega) hdg hcs
    · have hnl2 := znl_some hcal
      obtain ⟨-, tq, -, -, -, -, -, -, -, -, -, -, -, -, fN, -⟩ := hXt
      exact va_runSN (As := argq.map (ztr sp ad)) (rest := restq.map (ztr sp ad)) fix hMt
        ⟨va_cnB (host := "OneForOne") (n := argq.length) hts (zws_good k2) rfl rfl rfl (fN _ hnl2) hini ⟨(zm_noMH y2 k2).1, (zm_noMH y2 k2).2, by rw [z2, hlen]⟩ hRl, hts _ (zw_stat_ok i1), trivial⟩
        ⟨zPc_blind, hpre⟩ rfl (by rw [List.length_map]) hsz rfl (by rw [← hst]; exact hroom) hdg hcs
  | invokespecial idx =>
    simp only [zsw, zln, Bool.false_eq_true, false_or] at hz
    refine ⟨hz, ?_⟩
    subst hz
    simp only [zmode, Bool.and_eq_true, decide_eq_true_eq] at k4
    obtain ⟨⟨g3, g2⟩, g4⟩ := k4
    have hret := (zm_rt y2 k2).1 g4
    have g1 : (zm y2).2.2.2.2.2.2.2 = false := by
      have : ∀ yq, yq < 240 → (zm yq).1.name = "<init>" → (zm yq).2.2.2.2.2.2.2 = false := by decide +kernel
      exact this y2 k2 g3
    obtain ⟨i1, i2⟩ := zm_inst y2 k2 g1
    rw [g1] at z2
    cases argq with
    | nil => simp [zrecv] at g2
    | cons v As =>
      rcases v with v | v | cq
      · simp [zrecv] at g2
      · simp [zrecv] at g2
      · obtain ⟨a0, ea0, hcell⟩ := hRv cq As rfl g2
        rw [hst]
        rw [List.map_cons, ea0] at hst ⊢ hpre
        have hnp : As.length + 1 = (zm y2).2.2.2.2.2.2.1 := by rw [← hlen]; rfl
        have hw9 : zws y2 = Cond.code (zm y2).1 (zm y2).2.1 (zm y2).2.2.1 none :: zgw := by
          unfold zws zw_code_w
          rw [hret]
        have hpar : (parseMethodDescriptor (zm y2).1.desc).map (fun d => d.parameters.length) = some As.length := by
          rw [z2]; congr 1; simp; omega
        simp only [zcal] at hcal
        split at hcal
        · next y3 h3 =>
          cases hcal
          have hml2 := zml_some h3
          exact va_runI (As := As.map (ztr sp ad)) (rest := restq.map (ztr sp ad)) fix hMt
            (cwI (n := As.length) hts (zws_good k2) hw9 rfl rfl hini (hts _ (zw_ml_ok hml2)) (hts _ (zw_inst_ok i1)) g3 ⟨(zm_noMH y2 k2).1, (zm_noMH y2 k2).2, hpar⟩ hRl)
            ⟨zPc_blind, hpre⟩ rfl (by rw [List.length_map]) hsz (by show _ = _; rw [List.reverse_cons, List.append_assoc]; rfl) (by rw [zcat_map hXt.1]; show 2 * 0 + _ ≤ 8; omega) hdg hcs
        · have hnl2 := znl_some hcal
          obtain ⟨-, tq, -, -, -, -, -, -, -, -, -, -, -, -, fN, -⟩ := id hXt
          exact va_runIN (As := As.map (ztr sp ad)) (rest := restq.map (ztr sp ad)) fix hMt
            ⟨va_cnB (host := "OneForOne") (n := As.length) hts (zws_good k2) hw9 rfl rfl (fN _ hnl2) hini ⟨(zm_noMH y2 k2).1, (zm_noMH y2 k2).2, hpar⟩ hRl, g3, hts _ (zw_inst_ok i1)⟩
            ⟨zPc_blind, hpre⟩ rfl (by rw [List.length_map]) hsz (by show _ = _; rw [List.reverse_cons, List.append_assoc]; rfl) (by rw [zcat_map hXt.1]; show 2 * 0 + _ ≤ 8; omega) hdg hcs
  | _ => simp [zcal] at hcal
end ZSND
end
section
/-! every method stands in the lists as in the class files -/
theorem zi_okn_0 : zi_okL (zm 0).2.1 (zi_L.getD 0 []) = true := zi_ok_0
theorem zi_okn_1 : zi_okL (zm 1).2.1 (zi_L.getD 1 []) = true := zi_ok_1
theorem zi_okn_2 : zi_okL (zm 2).2.1 (zi_L.getD 2 []) = true := zi_ok_2
theorem zi_okn_3 : zi_okL (zm 3).2.1 (zi_L.getD 3 []) = true := zi_ok_3
theorem zi_okn_4 : zi_okL (zm 4).2.1 (zi_L.getD 4 []) = true := zi_ok_4
theorem zi_okn_5 : zi_okL (zm 5).2.1 (zi_L.getD 5 []) = true := zi_ok_5
theorem zi_okn_6 : zi_okL (zm 6).2.1 (zi_L.getD 6 []) = true := zi_ok_6
theorem zi_okn_7 : zi_okL (zm 7).2.1 (zi_L.getD 7 []) = true := zi_ok_7
theorem zi_okn_8 : zi_okL (zm 8).2.1 (zi_L.getD 8 []) = true := zi_ok_8
theorem zi_okn_9 : zi_okL (zm 9).2.1 (zi_L.getD 9 []) = true := zi_ok_9
theorem zi_okn_10 : zi_okL (zm 10).2.1 (zi_L.getD 10 []) = true := zi_ok_10
theorem zi_okn_11 : zi_okL (zm 11).2.1 (zi_L.getD 11 []) = true := zi_ok_11
theorem zi_okn_12 : zi_okL (zm 12).2.1 (zi_L.getD 12 []) = true := zi_ok_12
theorem zi_okn_13 : zi_okL (zm 13).2.1 (zi_L.getD 13 []) = true := zi_ok_13
theorem zi_okn_14 : zi_okL (zm 14).2.1 (zi_L.getD 14 []) = true := zi_ok_14
theorem zi_okn_15 : zi_okL (zm 15).2.1 (zi_L.getD 15 []) = true := zi_ok_15
theorem zi_okn_16 : zi_okL (zm 16).2.1 (zi_L.getD 16 []) = true := zi_ok_16
theorem zi_okn_17 : zi_okL (zm 17).2.1 (zi_L.getD 17 []) = true := zi_ok_17
theorem zi_okn_18 : zi_okL (zm 18).2.1 (zi_L.getD 18 []) = true := zi_ok_18
theorem zi_okn_19 : zi_okL (zm 19).2.1 (zi_L.getD 19 []) = true := zi_ok_19
theorem zi_okn_20 : zi_okL (zm 20).2.1 (zi_L.getD 20 []) = true := zi_ok_20
theorem zi_okn_21 : zi_okL (zm 21).2.1 (zi_L.getD 21 []) = true := zi_ok_21
theorem zi_okn_22 : zi_okL (zm 22).2.1 (zi_L.getD 22 []) = true := zi_ok_22
theorem zi_okn_23 : zi_okL (zm 23).2.1 (zi_L.getD 23 []) = true := zi_ok_23
theorem zi_okn_24 : zi_okL (zm 24).2.1 (zi_L.getD 24 []) = true := zi_ok_24
theorem zi_okn_25 : zi_okL (zm 25).2.1 (zi_L.getD 25 []) = true := zi_ok_25
theorem zi_okn_26 : zi_okL (zm 26).2.1 (zi_L.getD 26 []) = true := zi_ok_26
theorem zi_okn_27 : zi_okL (zm 27).2.1 (zi_L.getD 27 []) = true := zi_ok_27
theorem zi_okn_28 : zi_okL (zm 28).2.1 (zi_L.getD 28 []) = true := zi_ok_28
theorem zi_okn_29 : zi_okL (zm 29).2.1 (zi_L.getD 29 []) = true := zi_ok_29
theorem zi_okn_30 : zi_okL (zm 30).2.1 (zi_L.getD 30 []) = true := zi_ok_30
theorem zi_okn_31 : zi_okL (zm 31).2.1 (zi_L.getD 31 []) = true := zi_ok_31
theorem zi_okn_32 : zi_okL (zm 32).2.1 (zi_L.getD 32 []) = true := zi_ok_32
theorem zi_okn_33 : zi_okL (zm 33).2.1 (zi_L.getD 33 []) = true := zi_ok_33
theorem zi_okn_34 : zi_okL (zm 34).2.1 (zi_L.getD 34 []) = true := zi_ok_34
theorem zi_okn_35 : zi_okL (zm 35).2.1 (zi_L.getD 35 []) = true := zi_ok_35
theorem zi_okn_36 : zi_okL (zm 36).2.1 (zi_L.getD 36 []) = true := zi_ok_36
theorem zi_okn_37 : zi_okL (zm 37).2.1 (zi_L.getD 37 []) = true := zi_ok_37
theorem zi_okn_38 : zi_okL (zm 38).2.1 (zi_L.getD 38 []) = true := zi_ok_38
theorem zi_okn_39 : zi_okL (zm 39).2.1 (zi_L.getD 39 []) = true := zi_ok_39
theorem zi_okn_40 : zi_okL (zm 40).2.1 (zi_L.getD 40 []) = true := zi_ok_40
theorem zi_okn_41 : zi_okL (zm 41).2.1 (zi_L.getD 41 []) = true := zi_ok_41
theorem zi_okn_42 : zi_okL (zm 42).2.1 (zi_L.getD 42 []) = true := zi_ok_42
theorem zi_okn_43 : zi_okL (zm 43).2.1 (zi_L.getD 43 []) = true := zi_ok_43
theorem zi_okn_44 : zi_okL (zm 44).2.1 (zi_L.getD 44 []) = true := zi_ok_44
theorem zi_okn_45 : zi_okL (zm 45).2.1 (zi_L.getD 45 []) = true := zi_ok_45
theorem zi_okn_46 : zi_okL (zm 46).2.1 (zi_L.getD 46 []) = true := zi_ok_46
theorem zi_okn_47 : zi_okL (zm 47).2.1 (zi_L.getD 47 []) = true := zi_ok_47
theorem zi_okn_48 : zi_okL (zm 48).2.1 (zi_L.getD 48 []) = true := zi_ok_48
theorem zi_okn_49 : zi_okL (zm 49).2.1 (zi_L.getD 49 []) = true := zi_ok_49
theorem zi_okn_50 : zi_okL (zm 50).2.1 (zi_L.getD 50 []) = true := zi_ok_50
theorem zi_okn_51 : zi_okL (zm 51).2.1 (zi_L.getD 51 []) = true := zi_ok_51
theorem zi_okn_52 : zi_okL (zm 52).2.1 (zi_L.getD 52 []) = true := zi_ok_52
theorem zi_okn_53 : zi_okL (zm 53).2.1 (zi_L.getD 53 []) = true := zi_ok_53
theorem zi_okn_54 : zi_okL (zm 54).2.1 (zi_L.getD 54 []) = true := zi_ok_54
theorem zi_okn_55 : zi_okL (zm 55).2.1 (zi_L.getD 55 []) = true := zi_ok_55
theorem zi_okn_56 : zi_okL (zm 56).2.1 (zi_L.getD 56 []) = true := zi_ok_56
theorem zi_okn_57 : zi_okL (zm 57).2.1 (zi_L.getD 57 []) = true := zi_ok_57
theorem zi_okn_58 : zi_okL (zm 58).2.1 (zi_L.getD 58 []) = true := zi_ok_58
theorem zi_okn_59 : zi_okL (zm 59).2.1 (zi_L.getD 59 []) = true := zi_ok_59
theorem zi_okn_60 : zi_okL (zm 60).2.1 (zi_L.getD 60 []) = true := zi_ok_60
theorem zi_okn_61 : zi_okL (zm 61).2.1 (zi_L.getD 61 []) = true := zi_ok_61
theorem zi_okn_62 : zi_okL (zm 62).2.1 (zi_L.getD 62 []) = true := zi_ok_62
theorem zi_okn_63 : zi_okL (zm 63).2.1 (zi_L.getD 63 []) = true := zi_ok_63
theorem zi_okn_64 : zi_okL (zm 64).2.1 (zi_L.getD 64 []) = true := zi_ok_64
theorem zi_okn_65 : zi_okL (zm 65).2.1 (zi_L.getD 65 []) = true := zi_ok_65
theorem zi_okn_66 : zi_okL (zm 66).2.1 (zi_L.getD 66 []) = true := zi_ok_66
theorem zi_okn_67 : zi_okL (zm 67).2.1 (zi_L.getD 67 []) = true := zi_ok_67
theorem zi_okn_68 : zi_okL (zm 68).2.1 (zi_L.getD 68 []) = true := zi_ok_68
theorem zi_okn_69 : zi_okL (zm 69).2.1 (zi_L.getD 69 []) = true := zi_ok_69
theorem zi_okn_70 : zi_okL (zm 70).2.1 (zi_L.getD 70 []) = true := zi_ok_70
theorem zi_okn_71 : zi_okL (zm 71).2.1 (zi_L.getD 71 []) = true := zi_ok_71
theorem zi_okn_72 : zi_okL (zm 72).2.1 (zi_L.getD 72 []) = true := zi_ok_72
theorem zi_okn_73 : zi_okL (zm 73).2.1 (zi_L.getD 73 []) = true := zi_ok_73
theorem zi_okn_74 : zi_okL (zm 74).2.1 (zi_L.getD 74 []) = true := zi_ok_74
theorem zi_okn_75 : zi_okL (zm 75).2.1 (zi_L.getD 75 []) = true := zi_ok_75
theorem zi_okn_76 : zi_okL (zm 76).2.1 (zi_L.getD 76 []) = true := zi_ok_76
theorem zi_okn_77 : zi_okL (zm 77).2.1 (zi_L.getD 77 []) = true := zi_ok_77
theorem zi_okn_78 : zi_okL (zm 78).2.1 (zi_L.getD 78 []) = true := zi_ok_78
theorem zi_okn_79 : zi_okL (zm 79).2.1 (zi_L.getD 79 []) = true := zi_ok_79
theorem zi_okn_80 : zi_okL (zm 80).2.1 (zi_L.getD 80 []) = true := zi_ok_80
theorem zi_okn_81 : zi_okL (zm 81).2.1 (zi_L.getD 81 []) = true := zi_ok_81
theorem zi_okn_82 : zi_okL (zm 82).2.1 (zi_L.getD 82 []) = true := zi_ok_82
theorem zi_okn_83 : zi_okL (zm 83).2.1 (zi_L.getD 83 []) = true := zi_ok_83
theorem zi_okn_84 : zi_okL (zm 84).2.1 (zi_L.getD 84 []) = true := zi_ok_84
theorem zi_okn_85 : zi_okL (zm 85).2.1 (zi_L.getD 85 []) = true := zi_ok_85
theorem zi_okn_86 : zi_okL (zm 86).2.1 (zi_L.getD 86 []) = true := zi_ok_86
theorem zi_okn_87 : zi_okL (zm 87).2.1 (zi_L.getD 87 []) = true := zi_ok_87
theorem zi_okn_88 : zi_okL (zm 88).2.1 (zi_L.getD 88 []) = true := zi_ok_88
theorem zi_okn_89 : zi_okL (zm 89).2.1 (zi_L.getD 89 []) = true := zi_ok_89
theorem zi_okn_90 : zi_okL (zm 90).2.1 (zi_L.getD 90 []) = true := zi_ok_90
theorem zi_okn_91 : zi_okL (zm 91).2.1 (zi_L.getD 91 []) = true := zi_ok_91
theorem zi_okn_92 : zi_okL (zm 92).2.1 (zi_L.getD 92 []) = true := zi_ok_92
theorem zi_okn_93 : zi_okL (zm 93).2.1 (zi_L.getD 93 []) = true := zi_ok_93
theorem zi_okn_94 : zi_okL (zm 94).2.1 (zi_L.getD 94 []) = true := zi_ok_94
theorem zi_okn_95 : zi_okL (zm 95).2.1 (zi_L.getD 95 []) = true := zi_ok_95
theorem zi_okn_96 : zi_okL (zm 96).2.1 (zi_L.getD 96 []) = true := zi_ok_96
theorem zi_okn_97 : zi_okL (zm 97).2.1 (zi_L.getD 97 []) = true := zi_ok_97
theorem zi_okn_98 : zi_okL (zm 98).2.1 (zi_L.getD 98 []) = true := zi_ok_98
theorem zi_okn_99 : zi_okL (zm 99).2.1 (zi_L.getD 99 []) = true := zi_ok_99
theorem zi_okn_100 : zi_okL (zm 100).2.1 (zi_L.getD 100 []) = true := zi_ok_100
theorem zi_okn_101 : zi_okL (zm 101).2.1 (zi_L.getD 101 []) = true := zi_ok_101
theorem zi_okn_102 : zi_okL (zm 102).2.1 (zi_L.getD 102 []) = true := zi_ok_102
theorem zi_okn_103 : zi_okL (zm 103).2.1 (zi_L.getD 103 []) = true := zi_ok_103
theorem zi_okn_104 : zi_okL (zm 104).2.1 (zi_L.getD 104 []) = true := zi_ok_104
theorem zi_okn_105 : zi_okL (zm 105).2.1 (zi_L.getD 105 []) = true := zi_ok_105
theorem zi_okn_106 : zi_okL (zm 106).2.1 (zi_L.getD 106 []) = true := zi_ok_106
theorem zi_okn_107 : zi_okL (zm 107).2.1 (zi_L.getD 107 []) = true := zi_ok_107
theorem zi_okn_108 : zi_okL (zm 108).2.1 (zi_L.getD 108 []) = true := zi_ok_108
theorem zi_okn_109 : zi_okL (zm 109).2.1 (zi_L.getD 109 []) = true := zi_ok_109
theorem zi_okn_110 : zi_okL (zm 110).2.1 (zi_L.getD 110 []) = true := zi_ok_110
theorem zi_okn_111 : zi_okL (zm 111).2.1 (zi_L.getD 111 []) = true := zi_ok_111
theorem zi_okn_112 : zi_okL (zm 112).2.1 (zi_L.getD 112 []) = true := zi_ok_112
theorem zi_okn_113 : zi_okL (zm 113).2.1 (zi_L.getD 113 []) = true := zi_ok_113
theorem zi_okn_114 : zi_okL (zm 114).2.1 (zi_L.getD 114 []) = true := zi_ok_114
theorem zi_okn_115 : zi_okL (zm 115).2.1 (zi_L.getD 115 []) = true := zi_ok_115
theorem zi_okn_116 : zi_okL (zm 116).2.1 (zi_L.getD 116 []) = true := zi_ok_116
theorem zi_okn_117 : zi_okL (zm 117).2.1 (zi_L.getD 117 []) = true := zi_ok_117
theorem zi_okn_118 : zi_okL (zm 118).2.1 (zi_L.getD 118 []) = true := zi_ok_118
theorem zi_okn_119 : zi_okL (zm 119).2.1 (zi_L.getD 119 []) = true := zi_ok_119
theorem zi_okn_120 : zi_okL (zm 120).2.1 (zi_L.getD 120 []) = true := zi_ok_120
theorem zi_okn_121 : zi_okL (zm 121).2.1 (zi_L.getD 121 []) = true := zi_ok_121
theorem zi_okn_122 : zi_okL (zm 122).2.1 (zi_L.getD 122 []) = true := zi_ok_122
theorem zi_okn_123 : zi_okL (zm 123).2.1 (zi_L.getD 123 []) = true := zi_ok_123
theorem zi_okn_124 : zi_okL (zm 124).2.1 (zi_L.getD 124 []) = true := zi_ok_124
theorem zi_okn_125 : zi_okL (zm 125).2.1 (zi_L.getD 125 []) = true := zi_ok_125
theorem zi_okn_126 : zi_okL (zm 126).2.1 (zi_L.getD 126 []) = true := zi_ok_126
theorem zi_okn_127 : zi_okL (zm 127).2.1 (zi_L.getD 127 []) = true := zi_ok_127
theorem zi_okn_128 : zi_okL (zm 128).2.1 (zi_L.getD 128 []) = true := zi_ok_128
theorem zi_okn_129 : zi_okL (zm 129).2.1 (zi_L.getD 129 []) = true := zi_ok_129
theorem zi_okn_130 : zi_okL (zm 130).2.1 (zi_L.getD 130 []) = true := zi_ok_130
theorem zi_okn_131 : zi_okL (zm 131).2.1 (zi_L.getD 131 []) = true := zi_ok_131
theorem zi_okn_132 : zi_okL (zm 132).2.1 (zi_L.getD 132 []) = true := zi_ok_132
theorem zi_okn_133 : zi_okL (zm 133).2.1 (zi_L.getD 133 []) = true := zi_ok_133
theorem zi_okn_134 : zi_okL (zm 134).2.1 (zi_L.getD 134 []) = true := zi_ok_134
theorem zi_okn_135 : zi_okL (zm 135).2.1 (zi_L.getD 135 []) = true := zi_ok_135
theorem zi_okn_136 : zi_okL (zm 136).2.1 (zi_L.getD 136 []) = true := zi_ok_136
theorem zi_okn_137 : zi_okL (zm 137).2.1 (zi_L.getD 137 []) = true := zi_ok_137
theorem zi_okn_138 : zi_okL (zm 138).2.1 (zi_L.getD 138 []) = true := zi_ok_138
theorem zi_okn_139 : zi_okL (zm 139).2.1 (zi_L.getD 139 []) = true := zi_ok_139
theorem zi_okn_140 : zi_okL (zm 140).2.1 (zi_L.getD 140 []) = true := zi_ok_140
theorem zi_okn_141 : zi_okL (zm 141).2.1 (zi_L.getD 141 []) = true := zi_ok_141
theorem zi_okn_142 : zi_okL (zm 142).2.1 (zi_L.getD 142 []) = true := zi_ok_142
theorem zi_okn_143 : zi_okL (zm 143).2.1 (zi_L.getD 143 []) = true := zi_ok_143
theorem zi_okn_144 : zi_okL (zm 144).2.1 (zi_L.getD 144 []) = true := zi_ok_144
theorem zi_okn_145 : zi_okL (zm 145).2.1 (zi_L.getD 145 []) = true := zi_ok_145
theorem zi_okn_146 : zi_okL (zm 146).2.1 (zi_L.getD 146 []) = true := zi_ok_146
theorem zi_okn_147 : zi_okL (zm 147).2.1 (zi_L.getD 147 []) = true := zi_ok_147
theorem zi_okn_148 : zi_okL (zm 148).2.1 (zi_L.getD 148 []) = true := zi_ok_148
theorem zi_okn_149 : zi_okL (zm 149).2.1 (zi_L.getD 149 []) = true := zi_ok_149
theorem zi_okn_150 : zi_okL (zm 150).2.1 (zi_L.getD 150 []) = true := zi_ok_150
theorem zi_okn_151 : zi_okL (zm 151).2.1 (zi_L.getD 151 []) = true := zi_ok_151
theorem zi_okn_152 : zi_okL (zm 152).2.1 (zi_L.getD 152 []) = true := zi_ok_152
theorem zi_okn_153 : zi_okL (zm 153).2.1 (zi_L.getD 153 []) = true := zi_ok_153
theorem zi_okn_154 : zi_okL (zm 154).2.1 (zi_L.getD 154 []) = true := zi_ok_154
theorem zi_okn_155 : zi_okL (zm 155).2.1 (zi_L.getD 155 []) = true := zi_ok_155
theorem zi_okn_156 : zi_okL (zm 156).2.1 (zi_L.getD 156 []) = true := zi_ok_156
theorem zi_okn_157 : zi_okL (zm 157).2.1 (zi_L.getD 157 []) = true := zi_ok_157
theorem zi_okn_158 : zi_okL (zm 158).2.1 (zi_L.getD 158 []) = true := zi_ok_158
theorem zi_okn_159 : zi_okL (zm 159).2.1 (zi_L.getD 159 []) = true := zi_ok_159
theorem zi_okn_160 : zi_okL (zm 160).2.1 (zi_L.getD 160 []) = true := zi_ok_160
theorem zi_okn_161 : zi_okL (zm 161).2.1 (zi_L.getD 161 []) = true := zi_ok_161
theorem zi_okn_162 : zi_okL (zm 162).2.1 (zi_L.getD 162 []) = true := zi_ok_162
theorem zi_okn_163 : zi_okL (zm 163).2.1 (zi_L.getD 163 []) = true := zi_ok_163
theorem zi_okn_164 : zi_okL (zm 164).2.1 (zi_L.getD 164 []) = true := zi_ok_164
theorem zi_okn_165 : zi_okL (zm 165).2.1 (zi_L.getD 165 []) = true := zi_ok_165
theorem zi_okn_166 : zi_okL (zm 166).2.1 (zi_L.getD 166 []) = true := zi_ok_166
theorem zi_okn_167 : zi_okL (zm 167).2.1 (zi_L.getD 167 []) = true := zi_ok_167
theorem zi_okn_168 : zi_okL (zm 168).2.1 (zi_L.getD 168 []) = true := zi_ok_168
theorem zi_okn_169 : zi_okL (zm 169).2.1 (zi_L.getD 169 []) = true := zi_ok_169
theorem zi_okn_170 : zi_okL (zm 170).2.1 (zi_L.getD 170 []) = true := zi_ok_170
theorem zi_okn_171 : zi_okL (zm 171).2.1 (zi_L.getD 171 []) = true := zi_ok_171
theorem zi_okn_172 : zi_okL (zm 172).2.1 (zi_L.getD 172 []) = true := zi_ok_172
theorem zi_okn_173 : zi_okL (zm 173).2.1 (zi_L.getD 173 []) = true := zi_ok_173
theorem zi_okn_174 : zi_okL (zm 174).2.1 (zi_L.getD 174 []) = true := zi_ok_174
theorem zi_okn_175 : zi_okL (zm 175).2.1 (zi_L.getD 175 []) = true := zi_ok_175
theorem zi_okn_176 : zi_okL (zm 176).2.1 (zi_L.getD 176 []) = true := zi_ok_176
theorem zi_okn_177 : zi_okL (zm 177).2.1 (zi_L.getD 177 []) = true := zi_ok_177
theorem zi_okn_178 : zi_okL (zm 178).2.1 (zi_L.getD 178 []) = true := zi_ok_178
theorem zi_okn_179 : zi_okL (zm 179).2.1 (zi_L.getD 179 []) = true := zi_ok_179
theorem zi_okn_180 : zi_okL (zm 180).2.1 (zi_L.getD 180 []) = true := zi_ok_180
theorem zi_okn_181 : zi_okL (zm 181).2.1 (zi_L.getD 181 []) = true := zi_ok_181
theorem zi_okn_182 : zi_okL (zm 182).2.1 (zi_L.getD 182 []) = true := zi_ok_182
theorem zi_okn_183 : zi_okL (zm 183).2.1 (zi_L.getD 183 []) = true := zi_ok_183
theorem zi_okn_184 : zi_okL (zm 184).2.1 (zi_L.getD 184 []) = true := zi_ok_184
theorem zi_okn_185 : zi_okL (zm 185).2.1 (zi_L.getD 185 []) = true := zi_ok_185
theorem zi_okn_186 : zi_okL (zm 186).2.1 (zi_L.getD 186 []) = true := zi_ok_186
theorem zi_okn_187 : zi_okL (zm 187).2.1 (zi_L.getD 187 []) = true := zi_ok_187
theorem zi_okn_188 : zi_okL (zm 188).2.1 (zi_L.getD 188 []) = true := zi_ok_188
theorem zi_okn_189 : zi_okL (zm 189).2.1 (zi_L.getD 189 []) = true := zi_ok_189
theorem zi_okn_190 : zi_okL (zm 190).2.1 (zi_L.getD 190 []) = true := zi_ok_190
theorem zi_okn_191 : zi_okL (zm 191).2.1 (zi_L.getD 191 []) = true := zi_ok_191
theorem zi_okn_192 : zi_okL (zm 192).2.1 (zi_L.getD 192 []) = true := zi_ok_192
theorem zi_okn_193 : zi_okL (zm 193).2.1 (zi_L.getD 193 []) = true := zi_ok_193
theorem zi_okn_194 : zi_okL (zm 194).2.1 (zi_L.getD 194 []) = true := zi_ok_194
theorem zi_okn_195 : zi_okL (zm 195).2.1 (zi_L.getD 195 []) = true := zi_ok_195
theorem zi_okn_196 : zi_okL (zm 196).2.1 (zi_L.getD 196 []) = true := zi_ok_196
theorem zi_okn_197 : zi_okL (zm 197).2.1 (zi_L.getD 197 []) = true := zi_ok_197
theorem zi_okn_198 : zi_okL (zm 198).2.1 (zi_L.getD 198 []) = true := zi_ok_198
theorem zi_okn_199 : zi_okL (zm 199).2.1 (zi_L.getD 199 []) = true := zi_ok_199
theorem zi_okn_200 : zi_okL (zm 200).2.1 (zi_L.getD 200 []) = true := zi_ok_200
theorem zi_okn_201 : zi_okL (zm 201).2.1 (zi_L.getD 201 []) = true := zi_ok_201
theorem zi_okn_202 : zi_okL (zm 202).2.1 (zi_L.getD 202 []) = true := zi_ok_202
theorem zi_okn_203 : zi_okL (zm 203).2.1 (zi_L.getD 203 []) = true := zi_ok_203
theorem zi_okn_204 : zi_okL (zm 204).2.1 (zi_L.getD 204 []) = true := zi_ok_204
theorem zi_okn_205 : zi_okL (zm 205).2.1 (zi_L.getD 205 []) = true := zi_ok_205
theorem zi_okn_206 : zi_okL (zm 206).2.1 (zi_L.getD 206 []) = true := zi_ok_206
theorem zi_okn_207 : zi_okL (zm 207).2.1 (zi_L.getD 207 []) = true := zi_ok_207
theorem zi_okn_208 : zi_okL (zm 208).2.1 (zi_L.getD 208 []) = true := zi_ok_208
theorem zi_okn_209 : zi_okL (zm 209).2.1 (zi_L.getD 209 []) = true := zi_ok_209
theorem zi_okn_210 : zi_okL (zm 210).2.1 (zi_L.getD 210 []) = true := zi_ok_210
theorem zi_okn_211 : zi_okL (zm 211).2.1 (zi_L.getD 211 []) = true := zi_ok_211
theorem zi_okn_212 : zi_okL (zm 212).2.1 (zi_L.getD 212 []) = true := zi_ok_212
theorem zi_okn_213 : zi_okL (zm 213).2.1 (zi_L.getD 213 []) = true := zi_ok_213
theorem zi_okn_214 : zi_okL (zm 214).2.1 (zi_L.getD 214 []) = true := zi_ok_214
theorem zi_okn_215 : zi_okL (zm 215).2.1 (zi_L.getD 215 []) = true := zi_ok_215
theorem zi_okn_216 : zi_okL (zm 216).2.1 (zi_L.getD 216 []) = true := zi_ok_216
theorem zi_okn_217 : zi_okL (zm 217).2.1 (zi_L.getD 217 []) = true := zi_ok_217
theorem zi_okn_218 : zi_okL (zm 218).2.1 (zi_L.getD 218 []) = true := zi_ok_218
theorem zi_okn_219 : zi_okL (zm 219).2.1 (zi_L.getD 219 []) = true := zi_ok_219
theorem zi_okn_220 : zi_okL (zm 220).2.1 (zi_L.getD 220 []) = true := zi_ok_220
theorem zi_okn_221 : zi_okL (zm 221).2.1 (zi_L.getD 221 []) = true := zi_ok_221
theorem zi_okn_222 : zi_okL (zm 222).2.1 (zi_L.getD 222 []) = true := zi_ok_222
theorem zi_okn_223 : zi_okL (zm 223).2.1 (zi_L.getD 223 []) = true := zi_ok_223
theorem zi_okn_224 : zi_okL (zm 224).2.1 (zi_L.getD 224 []) = true := zi_ok_224
theorem zi_okn_225 : zi_okL (zm 225).2.1 (zi_L.getD 225 []) = true := zi_ok_225
theorem zi_okn_226 : zi_okL (zm 226).2.1 (zi_L.getD 226 []) = true := zi_ok_226
theorem zi_okn_227 : zi_okL (zm 227).2.1 (zi_L.getD 227 []) = true := zi_ok_227
theorem zi_okn_228 : zi_okL (zm 228).2.1 (zi_L.getD 228 []) = true := zi_ok_228
theorem zi_okn_229 : zi_okL (zm 229).2.1 (zi_L.getD 229 []) = true := zi_ok_229
theorem zi_okn_230 : zi_okL (zm 230).2.1 (zi_L.getD 230 []) = true := zi_ok_230
theorem zi_okn_231 : zi_okL (zm 231).2.1 (zi_L.getD 231 []) = true := zi_ok_231
theorem zi_okn_232 : zi_okL (zm 232).2.1 (zi_L.getD 232 []) = true := zi_ok_232
theorem zi_okn_233 : zi_okL (zm 233).2.1 (zi_L.getD 233 []) = true := zi_ok_233
theorem zi_okn_234 : zi_okL (zm 234).2.1 (zi_L.getD 234 []) = true := zi_ok_234
theorem zi_okn_235 : zi_okL (zm 235).2.1 (zi_L.getD 235 []) = true := zi_ok_235
theorem zi_okn_236 : zi_okL (zm 236).2.1 (zi_L.getD 236 []) = true := zi_ok_236
theorem zi_okn_237 : zi_okL (zm 237).2.1 (zi_L.getD 237 []) = true := zi_ok_237
theorem zi_okn_238 : zi_okL (zm 238).2.1 (zi_L.getD 238 []) = true := zi_ok_238
theorem zi_okn_239 : zi_okL (zm 239).2.1 (zi_L.getD 239 []) = true := zi_ok_239
theorem zi_okc_0 : ∀ a, a < 0 → zi_okL (zm a).2.1 (zi_L.getD a []) = true := lt_0
theorem zi_okc_20 : ∀ a, a < 20 → zi_okL (zm a).2.1 (zi_L.getD a []) = true := lt_s (lt_s (lt_s (lt_s (lt_s (lt_s (lt_s (lt_s (lt_s (lt_s (lt_s (lt_s (lt_s (lt_s (lt_s (lt_s (lt_s (lt_s (lt_s (lt_s zi_okc_0 zi_okn_0) zi_okn_1) zi_okn_2) zi_okn_3) zi_okn_4) zi_okn_5) zi_okn_6) zi_okn_7) zi_okn_8) zi_okn_9) zi_okn_10) zi_okn_11) zi_okn_12) zi_okn_13) zi_okn_14) zi_okn_15) zi_okn_16) zi_okn_17) zi_okn_18) zi_okn_19
theorem zi_okc_40 : ∀ a, a < 40 → zi_okL (zm a).2.1 (zi_L.getD a []) = true := lt_s (lt_s (lt_s (lt_s (lt_s (lt_s (lt_s (lt_s (lt_s (lt_s (lt_s (lt_s (lt_s (lt_s (lt_s (lt_s (lt_s (lt_s (lt_s (lt_s zi_okc_20 zi_okn_20) zi_okn_21) zi_okn_22) zi_okn_23) zi_okn_24) zi_okn_25) zi_okn_26) zi_okn_27) zi_okn_28) zi_okn_29) zi_okn_30) zi_okn_31) zi_okn_32) zi_okn_33) zi_okn_34) zi_okn_35) zi_okn_36) zi_okn_37) zi_okn_38) zi_okn_39
theorem zi_okc_60 : ∀ a, a < 60 → zi_okL (zm a).2.1 (zi_L.getD a []) = true := lt_s (lt_s (lt_s (lt_s (lt_s (lt_s (lt_s (lt_s (lt_s (lt_s (lt_s (lt_s (lt_s (lt_s (lt_s (lt_s (lt_s (lt_s (lt_s (lt_s zi_okc_40 zi_okn_40) zi_okn_41) zi_okn_42) zi_okn_43) zi_okn_44) zi_okn_45) zi_okn_46) zi_okn_47) zi_okn_48) zi_okn_49) zi_okn_50) zi_okn_51) zi_okn_52) zi_okn_53) zi_okn_54) zi_okn_55) zi_okn_56) zi_okn_57) zi_okn_58) zi_okn_59
theorem zi_okc_80 : ∀ a, a < 80 → zi_okL (zm a).2.1 (zi_L.getD a []) = true := lt_s (lt_s (lt_s (lt_s (lt_s (lt_s (lt_s (lt_s (lt_s (lt_s (lt_s (lt_s (lt_s (lt_s (lt_s (lt_s (lt_s (lt_s (lt_s (lt_s zi_okc_60 zi_okn_60) zi_okn_61) zi_okn_62) zi_okn_63) zi_okn_64) zi_okn_65) zi_okn_66) zi_okn_67) zi_okn_68) zi_okn_69) zi_okn_70) zi_okn_71) zi_okn_72) zi_okn_73) zi_okn_74) zi_okn_75) zi_okn_76) zi_okn_77) zi_okn_78) zi_okn_79
theorem zi_okc_100 : ∀ a, a < 100 → zi_okL (zm a).2.1 (zi_L.getD a []) = true := lt_s (lt_s (lt_s (lt_s (lt_s (lt_s (lt_s (lt_s (lt_s (lt_s (lt_s (lt_s (lt_s (lt_s (lt_s (lt_s (lt_s (lt_s (lt_s (lt_s zi_okc_80 zi_okn_80) zi_okn_81) zi_okn_82) zi_okn_83) zi_okn_84) zi_okn_85) zi_okn_86) zi_okn_87) zi_okn_88) zi_okn_89) zi_okn_90) zi_okn_91) zi_okn_92) zi_okn_93) zi_okn_94) zi_okn_95) zi_okn_96) zi_okn_97) zi_okn_98) zi_okn_99
theorem zi_okc_120 : ∀ a, a < 120 → zi_okL (zm a).2.1 (zi_L.getD a []) = true := lt_s (lt_s (lt_s (lt_s (lt_s (lt_s (lt_s (lt_s (lt_s (lt_s (lt_s (lt_s (lt_s (lt_s (lt_s (lt_s (lt_s (lt_s (lt_s (lt_s zi_okc_100 zi_okn_100) zi_okn_101) zi_okn_102) zi_okn_103) zi_okn_104) zi_okn_105) zi_okn_106) zi_okn_107) zi_okn_108) zi_okn_109) zi_okn_110) zi_okn_111) zi_okn_112) zi_okn_113) zi_okn_114) zi_okn_115) zi_okn_116) zi_okn_117) zi_okn_118) zi_okn_119
theorem zi_okc_140 : ∀ a, a < 140 → zi_okL (zm a).2.1 (zi_L.getD a []) = true := lt_s (lt_s (lt_s (lt_s (lt_s (lt_s (lt_s (lt_s (lt_s (lt_s (lt_s (lt_s (lt_s (lt_s (lt_s (lt_s (lt_s (lt_s (lt_s (lt_s zi_okc_120 zi_okn_120) zi_okn_121) zi_okn_122) zi_okn_123) zi_okn_124) zi_okn_125) zi_okn_126) zi_okn_127) zi_okn_128) zi_okn_129) zi_okn_130) zi_okn_131) zi_okn_132) zi_okn_133) zi_okn_134) zi_okn_135) zi_okn_136) zi_okn_137) zi_okn_138) zi_okn_139
theorem zi_okc_160 : ∀ a, a < 160 → zi_okL (zm a).2.1 (zi_L.getD a []) = true := lt_s (lt_s (lt_s (lt_s (lt_s (lt_s (lt_s (lt_s (lt_s (lt_s (lt_s (lt_s (lt_s (lt_s (lt_s (lt_s (lt_s (lt_s (lt_s (lt_s zi_okc_140 zi_okn_140) zi_okn_141) zi_okn_142) zi_okn_143) zi_okn_144) zi_okn_145) zi_okn_146) zi_okn_147) zi_okn_148) zi_okn_149) zi_okn_150) zi_okn_151) zi_okn_152) zi_okn_153) zi_okn_154) zi_okn_155) zi_okn_156) zi_okn_157) zi_okn_158) zi_okn_159
theorem zi_okc_180 : ∀ a, a < 180 → zi_okL (zm a).2.1 (zi_L.getD a []) = true := lt_s (lt_s (lt_s (lt_s (lt_s (lt_s (lt_s (lt_s (lt_s (lt_s (lt_s (lt_s (lt_s (lt_s (lt_s (lt_s (lt_s (lt_s (lt_s (lt_s zi_okc_160 zi_okn_160) zi_okn_161) zi_okn_162) zi_okn_163) zi_okn_164) zi_okn_165) zi_okn_166) zi_okn_167) zi_okn_168) zi_okn_169) zi_okn_170) zi_okn_171) zi_okn_172) zi_okn_173) zi_okn_174) zi_okn_175) zi_okn_176) zi_okn_177) zi_okn_178) zi_okn_179
theorem zi_okc_200 : ∀ a, a < 200 → zi_okL (zm a).2.1 (zi_L.getD a []) = true := lt_s (lt_s (lt_s (lt_s (lt_s (lt_s (lt_s (lt_s (lt_s (lt_s (lt_s (lt_s (lt_s (lt_s (lt_s (lt_s (lt_s (lt_s (lt_s (lt_s zi_okc_180 zi_okn_180) zi_okn_181) zi_okn_182) zi_okn_183) zi_okn_184) zi_okn_185) zi_okn_186) zi_okn_187) zi_okn_188) zi_okn_189) zi_okn_190) zi_okn_191) zi_okn_192) zi_okn_193) zi_okn_194) zi_okn_195) zi_okn_196) zi_okn_197) zi_okn_198) zi_okn_199
theorem zi_okc_220 : ∀ a, a < 220 → zi_okL (zm a).2.1 (zi_L.getD a []) = true := lt_s (lt_s (lt_s (lt_s (lt_s (lt_s (lt_s (lt_s (lt_s (lt_s (lt_s (lt_s (lt_s (lt_s (lt_s (lt_s (lt_s (lt_s (lt_s (lt_s zi_okc_200 zi_okn_200) zi_okn_201) zi_okn_202) zi_okn_203) zi_okn_204) zi_okn_205) zi_okn_206) zi_okn_207) zi_okn_208) zi_okn_209) zi_okn_210) zi_okn_211) zi_okn_212) zi_okn_213) zi_okn_214) zi_okn_215) zi_okn_216) zi_okn_217) zi_okn_218) zi_okn_219
theorem zi_okc_240 : ∀ a, a < 240 → zi_okL (zm a).2.1 (zi_L.getD a []) = true := lt_s (lt_s (lt_s (lt_s (lt_s (lt_s (lt_s (lt_s (lt_s (lt_s (lt_s (lt_s (lt_s (lt_s (lt_s (lt_s (lt_s (lt_s (lt_s (lt_s zi_okc_220 zi_okn_220) zi_okn_221) zi_okn_222) zi_okn_223) zi_okn_224) zi_okn_225) zi_okn_226) zi_okn_227) zi_okn_228) zi_okn_229) zi_okn_230) zi_okn_231) zi_okn_232) zi_okn_233) zi_okn_234) zi_okn_235) zi_okn_236) zi_okn_237) zi_okn_238) zi_okn_239
theorem zi_okm : ∀ yq, yq < 240 → zi_okL (zm yq).2.1 (zi_L.getD yq []) = true := zi_okc_240
set_option maxRecDepth 100000 in
theorem zi_okn_240 : zi_okL code (zi_L.getD 240 []) = true := zi_ok_240
end
section
/-! a method's run to its end; every method's contract, by depth -/
section ZSND
variable {p : Program} {l : Launch} {e : Env} {R : Room} {s : State} {m : MethodId} {args : Array Value} {below : List Frame} {meth : Method} {c : Code} {Q : State → Prop}
variable {y o rt : Nat} {ini : Bool} {b : ByteArray} {nL : Nat} {cA dC : Nat → ClassId} {dI : Nat → Nat → Nat} {sp : Nat → Value} {xs : Nat → Int} {L base : Nat}
set_option maxHeartbeats 4000000 in
theorem zrun_ok {d n0 nF : Nat} {sqF : Pl} {rF : Option AV} {ex : ZX} {ad0 : Nat → Nat}
    (C : zCtx p s m args meth c y o ini b nL cA dC dI sp xs L base) (hex : zMet l xs L ex d) (hmo : zMono ex) (hf : d + 1 ≤ R.frames) (hlo : 64 * (d + 1) ≤ R.locals) (hrc : nF - n0 ≤ R.cells) (hrs : zsz nF - zsz n0 ≤ R.slots)
    (kret : ∀ (pc2 : Nat) (i2 : Instr) (z2 : Nat) (ls2 : Array Slot) (H2 : Heap) (locs2 : List Loc) (ad2 : Nat → Nat) (st2 : List AV), zi y pc2 = some (i2, z2) → zret rt i2 st2 = some rF → zHp s cA dC dI base ad2 nF sqF H2 locs2 → (∀ k, k < n0 → ad2 k = ad0 k) → zPl nF st2 → W p l e R s m args below meth c H2 locs2 (nF - n0) (zsz nF - zsz n0) Q (F0 m pc2 ls2 (st2.map (ztr sp ad2)))) :
    ∀ (N : Nat) (pc : Nat) (lv : LVs) (st : List AV) (n : Nat) (sq : Pl) (ls : Array Slot) (H : Heap) (locs : List Loc) (ad : Nat → Nat) (cells slots : Nat), zrun xs L ex y o rt ini N (pc, lv, st, n, sq) = some (rF, nF, sqF) → zLv sp ad n nL lv ls → zPl n st → zHp s cA dC dI base ad n sq H locs → cells = n - n0 → slots = zsz n - zsz n0 → n0 ≤ n → (∀ k, k < n0 → ad k = ad0 k) → W p l e R s m args below meth c H locs cells slots Q (F0 m pc ls (st.map (ztr sp ad))) := by
  intro N
  induction N with
  | zero => intro pc lv st n sq ls H locs ad cells slots h; cases h
  | succ N ih =>
    intro pc lv st n sq ls H locs ad cells slots h hl hp hH hce hsl hn0 hag
    have hmono := zrun_mono hmo _ _ _ _ _ h
    dsimp only at hmono
    have hszm := zsz_mono hn0
    unfold zrun at h
    dsimp only at h
    cases hi : zi y pc with
    | none => rw [hi] at h; cases h
    | some iz =>
      obtain ⟨i, z⟩ := iz
      rw [hi] at h
      dsimp only at h
      cases hr : zret rt i st with
      | some r0 =>
        rw [hr] at h
        dsimp only at h
        cases h
        subst hce
        subst hsl
        exact kret pc i z ls H locs ad st hi hr hH hag hp
      | none =>
        rw [hr] at h
        dsimp only at h
        cases hc : zcal o i with
        | some y2 =>
          rw [hc] at h
          dsimp only at h
          split at h
          · next hok =>
            obtain ⟨hlen, hok⟩ := hok
            cases hcall : ex y2 (st.take (zm y2).2.2.2.2.2.2.1).reverse n sq with
            | none => rw [hcall] at h; cases h
            | some q =>
              obtain ⟨r1, n1, s1⟩ := q
              rw [hcall] at h
              dsimp only at h
              have hn1 := hmo _ _ _ _ _ _ _ hcall
              have hn2 := zrun_mono hmo _ _ _ _ _ h
              dsimp only at hn2
              have hz1 := zsz_mono hn1
              have hz2 := zsz_mono hn2
              have hpt : zPl n (st.take (zm y2).2.2.2.2.2.2.1).reverse := fun v hv => hp v (List.mem_of_mem_take (List.mem_reverse.mp hv))
              obtain ⟨hz3, hrun⟩ := zcall (l := l) (e := e) (R := R) (below := below) (locs := locs) (cells := cells) (slots := slots) C hi hex hc hok (by rw [List.length_reverse, List.length_take]; omega) hcall hl.1 hpt hH hf hlo ⟨by omega, by omega⟩
              rw [← zsplit hlen] at hrun
              refine zgo hrun (fun v st₀ t H1 locs1 h0 ht hW hq hlq => ?_)
              obtain ⟨ad2, a1, a2, a3, a4, a5, a6, a7, a8⟩ := hq
              cases a2
              rw [ht] at a4
              obtain ⟨f1, f2⟩ := a8
              rw [h0] at f1 f2
              rw [ht] at f1 f2
              obtain ⟨hM, hP, hD, hS⟩ := hH
              have hrest : zPl n (st.drop (zm y2).2.2.2.2.2.2.1) := fun v hv => hp v (List.mem_of_mem_drop hv)
              have htr : ∀ v : AV, zok n v → ztr sp ad2 v = ztr sp ad v := by
                intro v hv
                rcases v with v | v | cq
                · rfl
                · rfl
                · have key : zrv sp ad2 cq = zrv sp ad cq := by
                    unfold zrv
                    have hn9 := hM.2.2
                    rcases hv with hv | hv
                    · by_cases h0 : cq = 0
                      · rw [if_pos h0, if_pos h0]
                      · rw [if_neg h0, if_neg h0, if_pos (by omega), if_pos (by omega), a1 _ (by omega)]
                    · rw [if_neg (by omega), if_neg (by omega), if_neg (by omega), if_neg (by omega)]
                  exact key
              have hup : ∀ v : AV, zok n v → zok n1 v := by
                intro v hv
                rcases v with v | v | cq
                · exact hv
                · exact hv
                · rcases hv with hv | hv
                  · exact Or.inl (by omega)
                  · exact Or.inr hv
              have hl2 : zLv sp ad2 n1 nL lv ls := ⟨hl.1, hl.2.1, hl.2.2.1, fun i v hv => by rw [htr v (hl.2.2.2.2 i v hv)]; exact hl.2.2.2.1 i v hv, fun i v hv => hup v (hl.2.2.2.2 i v hv)⟩
              have hp2 : zPl n1 (r1.toList ++ st.drop (zm y2).2.2.2.2.2.2.1) := by
                intro v hv
                rcases List.mem_append.mp hv with h9 | h9
                · exact a6 v h9
                · exact hup v (hrest v h9)
              have hS2 : va_S (zA base) s.heap H1 locs1 := by
                refine ⟨Nat.le_trans hS.1 f1, fun q g1 g2 => ?_, fun q hq => ?_⟩
                · rw [f2 q (Nat.lt_of_lt_of_le g1 hS.1) g2]
                  exact hS.2.1 q g1 g2
                · rcases hlq q hq with h9 | h9
                  · exact hS.2.2 q h9
                  · exact h9
              have k9 := ih (pc + z) lv (r1.toList ++ st.drop (zm y2).2.2.2.2.2.2.1) n1 s1 ls H1 locs1 ad2 (cells + (n1 - n)) (slots + (zsz n1 - zsz n)) h hl2 hp2 ⟨a3, a4, a5, hS2⟩ (by omega) (by omega) (by omega) (fun k hk => by rw [a1 k (by omega)]; exact hag k hk)
              have e9 : (r1.toList ++ st.drop (zm y2).2.2.2.2.2.2.1).map (ztr sp ad2) = (r1.map (ztr sp ad2)).toList ++ (st.drop (zm y2).2.2.2.2.2.2.1).map (ztr sp ad) := by
                rw [List.map_append]
                congr 1
                · cases r1 <;> rfl
                · exact List.map_congr_left (fun v hv => htr v (hrest v hv))
              rw [e9, hz3] at k9
              exact k9
          · cases h
        | none =>
          rw [hc] at h
          dsimp only at h
          cases hs : zstep xs L o ini i z (pc, lv, st, n, sq) with
          | none => rw [hs] at h; cases h
          | some f2 =>
            obtain ⟨pc2, lv2, st2, n2, sq2⟩ := f2
            rw [hs] at h
            dsimp only at h
            have hn2 := zrun_mono hmo _ _ _ _ _ h
            dsimp only at hn2
            have same : n2 = n → sq2 = sq → ∀ ls2, zLv sp ad n nL lv2 ls2 → zPl n st2 → W p l e R s m args below meth c H locs cells slots Q (F0 m pc2 ls2 (st2.map (ztr sp ad))) := by
              intro e1 e2 ls2 hl2 hp2
              subst e1
              subst e2
              exact ih pc2 lv2 st2 n2 sq2 ls2 H locs ad cells slots h hl2 hp2 hH hce hsl hn0 hag
            unfold zstep at hs
            split at hs
            · next r0 h9 => cases hs; exact zsA_ok C hi h9 hl hp same
            · split at hs
              · next r0 h9 => cases hs; exact zsB_ok C hi h9 hl hp same
              · split at hs
                · next r0 h9 => cases hs; exact zsC_ok hH.2.2.2 C hi h9 hl hp same
                · split at hs
                  · next r0 h9 => cases hs; exact zsD_ok C hi h9 hl hp hH same
                  · have hz2 := zsz_mono hn2
                    have hz3 := zsz_mono (zsE_mono hs)
                    have hz4 := zsE_mono hs
                    dsimp only at hz3 hz4
                    refine zsE_ok C hi hs hl hp hH (by omega) (by omega) (by omega) (by omega) (fun ad2 H2 locs2 cells2 slots2 g1 g2 g3 g4 g5 g6 g7 => ?_)
                    exact ih pc2 lv2 st2 n2 sq2 ls H2 locs2 ad2 cells2 slots2 h g6 g7 g5 (by omega) (by omega) (by omega) (fun k hk => by rw [g2 k (by omega)]; exact hag k hk)
end ZSND
theorem zlg_len : ∀ (vs : List Value), (∀ v ∈ vs, v.category ≠ 2) → (lg_sl vs).length = vs.length := by
  intro vs h
  induction vs with
  | nil => rfl
  | cons v vs ih =>
    have h1 := h v List.mem_cons_self
    have h2 := ih (fun w hw => h w (List.mem_cons_of_mem _ hw))
    unfold lg_sl at h2 ⊢
    rw [List.flatMap_cons, if_neg h1, List.length_append, h2]
    simp
    omega
theorem zlv_args : ∀ (vs : List Value) (i j : Nat) (v : Value), (∀ w ∈ vs, w.category ≠ 2) → vs[j]? = some v → (i + j, v) ∈ lv_args i vs := by
  intro vs
  induction vs with
  | nil => intro i j v _ h; simp at h
  | cons w vs ih =>
    intro i j v hc h
    unfold lv_args
    cases j with
    | zero =>
      rw [List.getElem?_cons_zero] at h
      cases h
      exact List.mem_cons_self
    | succ j =>
      rw [List.getElem?_cons_succ] at h
      rw [if_neg (hc w List.mem_cons_self)]
      have h9 := ih (i + 1) j v (fun u hu => hc u (List.mem_cons_of_mem _ hu)) h
      rw [show i + (j + 1) = i + 1 + j from by omega]
      exact List.mem_cons_of_mem _ h9
theorem zentry {sp : Nat → Value} {ad : Nat → Nat} {n nL : Nat} {argq : List AV} {ls : Array Slot} (hsp : ∀ j, sp j = .null ∨ ∃ a, sp j = .ref a) (hc : ∀ v ∈ argq, zcat v = 1) (hp : zPl n argq) (hn : argq.length ≤ nL) (hl : lv_has ls nL (lv_args 0 (argq.map (ztr sp ad)))) : zLv sp ad n nL (argq.map some ++ List.replicate (nL - argq.length) none) ls := by
  obtain ⟨h1, h2, h3⟩ := hl
  have key : ∀ (i : Nat) (v : AV), (argq.map some ++ List.replicate (nL - argq.length) none)[i]? = some (some v) → argq[i]? = some v := by
    intro i v hv
    by_cases q : i < argq.length
    · rw [List.getElem?_append_left (by rw [List.length_map]; exact q), List.getElem?_map] at hv
      cases e : argq[i]? with
      | none => rw [e] at hv; cases hv
      | some w => rw [e] at hv; cases hv; rfl
    · rw [List.getElem?_append_right (by rw [List.length_map]; omega)] at hv
      have h9 := List.mem_of_getElem? hv
      rw [List.mem_replicate] at h9
      cases h9.2
  refine ⟨h1, by rw [List.length_append, List.length_map, List.length_replicate]; omega, h2, fun i v hv => ?_, fun i v hv => hp v (List.mem_of_getElem? (key i v hv))⟩
  have h9 := zlv_args (argq.map (ztr sp ad)) 0 i (ztr sp ad v) (fun w hw => by
    obtain ⟨u, hu, rfl⟩ := List.mem_map.mp hw
    rw [ztr_cat sp ad hsp, hc u hu]
    decide) (by rw [List.getElem?_map, key i v hv]; rfl)
  rw [Nat.zero_add] at h9
  exact h3 _ h9
theorem zret_cases {rt : Nat} {i : Instr} {st : List AV} {r : Option AV} (h : zret rt i st = some r) : (i = .ireturn ∧ ∃ v, st = [.inl v] ∧ r = some (.inl v) ∧ (rt = 1 ∨ (rt = 2 ∧ (v = 0 ∨ v = 1)) ∨ (rt = 3 ∧ 0 ≤ v ∧ v < 65536) ∨ (rt = 4 ∧ -128 ≤ v ∧ v < 128))) ∨ (i = .lreturn ∧ rt = 5 ∧ ∃ v, st = [.inr (.inl v)] ∧ r = some (.inr (.inl v))) ∨ (i = .areturn ∧ rt = 6 ∧ ∃ cq, st = [.inr (.inr cq)] ∧ r = some (.inr (.inr cq)) ∧ cq < 100000) ∨ (i = .return_ ∧ rt = 0 ∧ st = [] ∧ r = none) := by
  unfold zret at h
  split at h
  · split at h
    · next hc => cases h; exact Or.inl ⟨rfl, _, rfl, rfl, hc⟩
    · cases h
  · split at h
    · next hc => cases h; exact Or.inr (Or.inl ⟨rfl, hc, _, rfl, rfl⟩)
    · cases h
  · split at h
    · next hc => cases h; exact Or.inr (Or.inr (Or.inl ⟨rfl, hc.1, _, rfl, rfl, hc.2⟩))
    · cases h
  · split at h
    · next hc => cases h; exact Or.inr (Or.inr (Or.inr ⟨rfl, hc, rfl, rfl⟩))
    · cases h
  · cases h
theorem zret_ty {rt : Nat} {v : Int} (hR : zR v) (h : rt = 1 ∨ (rt = 2 ∧ (v = 0 ∨ v = 1)) ∨ (rt = 3 ∧ 0 ≤ v ∧ v < 65536) ∨ (rt = 4 ∧ -128 ≤ v ∧ v < 128)) : (rt = 1 ∧ narrow .int (.int (Int32.ofInt v)) = .int (Int32.ofInt v)) ∨ (rt = 2 ∧ narrow .boolean (.int (Int32.ofInt v)) = .int (Int32.ofInt v)) ∨ (rt = 3 ∧ narrow .char (.int (Int32.ofInt v)) = .int (Int32.ofInt v)) ∨ (rt = 4 ∧ narrow .byte (.int (Int32.ofInt v)) = .int (Int32.ofInt v)) := by
  rcases h with h | ⟨h, h1⟩ | ⟨h, h1, h2⟩ | ⟨h, h1, h2⟩
  · exact Or.inl ⟨h, rfl⟩
  · refine Or.inr (Or.inl ⟨h, ?_⟩)
    rcases h1 with rfl | rfl <;> decide
  · refine Or.inr (Or.inr (Or.inl ⟨h, ?_⟩))
    have e1 : Int32.ofInt v = nI v.toNat := by
      unfold nI
      rw [← zR_ofNat, Int.toNat_of_nonneg h1]
    rw [e1]
    exact (pk_charN (by omega)).1
  · refine Or.inr (Or.inr (Or.inr ⟨h, ?_⟩))
    have e1 : (Int32.ofInt v).toInt8.toInt32 = Int32.ofInt v := by
      apply Int32.toInt.inj
      rw [Int32.toInt8_ofInt, Int8.toInt_toInt32, Int8.toInt_ofInt_of_le (by omega) (by omega), zR_toInt hR]
    rw [← e1]
    exact pk_nb _
set_option maxHeartbeats 4000000 in
/-- every method keeps its contract one call deeper than its callees do -/
theorem zmet_succ {l : Launch} {xs : Nat → Int} {L N d : Nat} (hex : zMet l xs L (zex xs L N d) d) : zMet l xs L (zex xs L N (d + 1)) (d + 1) := by
  intro yq argq n sq r n2 sq2 hy hlen hcat h cA dC dI sp base ad
  obtain ⟨z1, z2, z3, z4⟩ := zm_all yq hy
  obtain ⟨t0, t1, t2, t3, t4, t5, t6⟩ := zm_rt yq hy
  refine va_MetF (cc := (zm yq).2.1) (maxL := (zm yq).2.2.1) (ret := (zm yq).2.2.2.1) (zm_pf yq hy) rfl ?_
  intro p e s m args below meth c s₁ B hml hv
  obtain ⟨rfl, hbs, hM, hP, hD, hK, hXt, hargs⟩ := hv
  have hx := B.exec
  have hb := B.bytes
  have hr := B.returns
  have hlocks := B.notSynchronized
  have hts0 := atoms_spec (ws := zws yq) B.pre
  have hts : ∀ w ∈ zgw, w.before (argq.map (ztr sp ad)).toArray s = true := fun w hw => hts0 w (List.mem_cons_of_mem _ hw)
  have hown : s.vm.findClass (zc_n (zm yq).2.2.2.2.1) = some m.cls := by rw [← z1]; exact findClass_of_methodNamed B.named
  have hin : meth.name = (zm yq).1.name := (name_of_methodNamed B.named B.method).1
  have C : zCtx p s m (argq.map (ztr sp ad)).toArray meth c yq (zm yq).2.2.2.2.1 (decide ((zm yq).1.name = "<init>")) (zm yq).2.1 (zm yq).2.2.1 cA dC dI sp xs L base :=
    ⟨hx, hb, hml, fun pc i z hi => zi_dec (zi_okm yq hy) hi, hown, hts, hK, hXt, hbs, fun q => hin.trans (of_decide_eq_true q)⟩
  have hnc : ∀ v ∈ argq.map (ztr sp ad), v.category ≠ 2 := by
    intro w hw
    obtain ⟨u, hu, rfl⟩ := List.mem_map.mp hw
    rw [ztr_cat sp ad hXt.1, hcat u hu]
    decide
  have hl := lv_entry (argq.map (ztr sp ad)) (n := (zm yq).2.2.1) (by rw [zlg_len _ hnc, List.length_map]; omega)
  rw [lg_entry_eq]
  generalize (lg_sl (argq.map (ztr sp ad)) ++ List.replicate ((zm yq).2.2.1 - (lg_sl (argq.map (ztr sp ad))).length) Slot.unset).toArray = ls at hl ⊢
  have hlv : zLv sp ad n (zm yq).2.2.1 (argq.map some ++ List.replicate ((zm yq).2.2.1 - argq.length) none) ls := zentry hXt.1 hcat hargs (by omega) hl
  have h9 : zrun xs L (zex xs L N d) yq (zm yq).2.2.2.2.1 (zm yq).2.2.2.2.2.1 (decide ((zm yq).1.name = "<init>")) N (0, argq.map some ++ List.replicate ((zm yq).2.2.1 - argq.length) none, [], n, sq) = some (r, n2, sq2) := h
  have hn2 := zrun_mono (zex_mono d) _ _ _ _ _ h9
  dsimp only at hn2
  refine zrun_ok (d := d) (n0 := n) (ad0 := ad) (R := zrm (d + 1) n n2) C hex (zex_mono d) (Nat.le_refl _) (Nat.le_refl _) (Nat.le_refl _) (Nat.le_refl _) ?_ N 0 _ [] n sq ls s.heap [] ad 0 0 h9 hlv (fun v hv => by cases hv) ⟨hM, hP, hD, va_S.rf⟩ (by omega) (by omega) (Nat.le_refl _) (fun _ _ => rfl)
  intro pc2 i2 z2 ls2 H2 locs2 ad2 st2 hi2 hrt2 hH2 hag hp2
  obtain ⟨hdg, hz⟩ := zi_dec (zi_okm yq hy) hi2
  obtain ⟨hM2, hP2, hD2, hS2⟩ := hH2
  have post : ∀ (t : State) (rv : Option Value), t.heap = H2 → rv = r.map (ztr sp ad2) → zPl n2 r.toList → zQc cA dC dI sp base ad n r n2 sq2 (argq.map (ztr sp ad)).toArray s (.returned rv) t := by
    intro t rv ht hrv hpr
    exact ⟨ad2, hag, by rw [hrv], hM2, by rw [ht]; exact hP2, hD2, hpr, hn2, hS2.F ht⟩
  rcases zret_cases hrt2 with ⟨rfl, v, rfl, rfl, hc⟩ | ⟨rfl, hc, v, rfl, rfl⟩ | ⟨rfl, hc, cq, rfl, rfl, hcq⟩ | ⟨rfl, hc, rfl, rfl⟩
  · simp only [zsw, zln, Bool.false_eq_true, false_or] at hz
    subst hz
    have hv : zok n2 (.inl v) := hp2 _ List.mem_cons_self
    have hpr : zPl n2 (some (.inl v) : Option AV).toList := fun w hw => hp2 w hw
    rcases zret_ty hv hc with ⟨e1, e2⟩ | ⟨e1, e2⟩ | ⟨e1, e2⟩ | ⟨e1, e2⟩
    · exact W.zret (v := Int32.ofInt v) hx hb (by rw [hr]; exact t1 e1) e2 (fun t ht hW => post t _ ht rfl hpr) hS2.2.2 hdg hlocks
    · exact W.zret (v := Int32.ofInt v) hx hb (by rw [hr]; exact t2 e1) e2 (fun t ht hW => post t _ ht rfl hpr) hS2.2.2 hdg hlocks
    · exact W.zret (v := Int32.ofInt v) hx hb (by rw [hr]; exact t3 e1) e2 (fun t ht hW => post t _ ht rfl hpr) hS2.2.2 hdg hlocks
    · exact W.zret (v := Int32.ofInt v) hx hb (by rw [hr]; exact t4 e1) e2 (fun t ht hW => post t _ ht rfl hpr) hS2.2.2 hdg hlocks
  · simp only [zsw, zln, Bool.false_eq_true, false_or] at hz
    subst hz
    exact W.lret (v := Int64.ofInt v) hx hb (by rw [hr]; exact t5 hc) (fun t ht hW => post t _ ht rfl (fun w hw => hp2 w hw)) hS2.2.2 hdg hlocks
  · simp only [zsw, zln, Bool.false_eq_true, false_or] at hz
    subst hz
    have hcv : zrv sp ad2 cq = .null ∨ ∃ a, zrv sp ad2 cq = .ref a := by
      unfold zrv
      by_cases h0 : cq = 0
      · rw [if_pos h0]; exact Or.inl rfl
      · rw [if_neg h0, if_pos hcq]; exact Or.inr ⟨_, rfl⟩
    exact W.aret (v := zrv sp ad2 cq) hx hb (by rw [hr]; exact t6 hc) (Or.inl ⟨_, rfl⟩) hcv (fun t ht hW => post t _ ht rfl (fun w hw => hp2 w hw)) hS2.2.2 hdg hlocks
  · simp only [zsw, zln, Bool.false_eq_true, false_or] at hz
    subst hz
    exact W.vret hx hb (by rw [hr]; exact t0 hc) (fun t ht hW => post t _ ht rfl (fun w hw => by cases hw)) hS2.2.2 hdg hlocks
theorem zmet_all (l : Launch) (xs : Nat → Int) (L N : Nat) : ∀ d, zMet l xs L (zex xs L N d) d := by
  intro d
  induction d with
  | zero =>
    intro yq argq n sq r n2 sq2 hy hlen hcat h
    cases h
  | succ d ih => exact zmet_succ ih
end
section
/-! THE CLAIM OUT OF ONE WALK OF THE LAW'S BODY. Your part is whole_start (and what it stands on); all else here is the same for every law, but numbers. -/
def R_law : String := "OneForOneLaw"
def lw_P (b : Addr) (xs : List Int32) (args : Array Value) (s : State) : Prop := args = #[.ref b] ∧ s.IntsAt b xs ∧ xs.length ≤ 3584 ∧ (Jvm.Cond.and given_1 narrow_1).before args s = true
def lw_Q (_ : Array Value) (s : State) (o : Outcome) (t : State) : Prop := o = .returned (some (.int 1)) ∧ Framed s o t [] 600000 7302250
def lw_Z (below : List Frame) (a : Array Value) (s : State) : State → Prop := fun t => ∃ o, t.status = .running ∧ Ended t below o ∧ lw_Q a s o t
/-- the law's own end, with 1 on the stack, nothing written that was there before, its room as the claim has it -/
theorem lw_ret {p : Program} {l : Launch} {e : Env} {s : State} {m : MethodId} {below : List Frame} {meth : Method} {c : Code} {b : Nat} (hx : p.tables.exec = Jvm.exec) (hb : c.code = code) (hr : meth.sig.returnType = ret) (hlocks : meth.locks = false) {pc : Nat} {H : Heap} {ls : Array Slot} (hdg : decode code pc = .ok (.ireturn, 1)) : W p l e room_1 s m #[Value.ref b] below meth c H [] 600000 7302250 (lw_Z below #[Value.ref b] s) (F0 m pc ls [.int 1]) := by
  intro T hT X
  obtain ⟨fs, hret, hrun, hended, hW, hframe⟩ := X.leave (v := some (.int 1)) (hlocks := hlocks) (fun h => by rw [hr] at h; cases h)
  have hmeth' : T.vm.method? m = some meth := X.method'
  refine ⟨T.setFrames fs, ?_, .returned (some (.int 1)), hrun, hended, rfl, ⟨_, rfl⟩, hW, hframe⟩
  jvm_step X.here [X.here.top, hx, hb, hdg, hmeth', hr, ret, narrow_b1]
  (try refine ⟨rfl, ?_⟩); (try refine ⟨rfl, ?_⟩)
  first | (intro acts; rw [hret _ acts rfl rfl rfl]) | rw [hret _ _ rfl rfl rfl]
  exact Steps.refl _
/-- what holds at the law's entry: the machine, the code, the tables' words (any of lw_tbl by 'hts w (by decide +kernel)'), the script of L ints xs at the cell b, what the Statement gives of the start (any of its parts by flat_of_before) -/
def lw_At (p : Program) (s : State) (m : MethodId) (meth : Method) (c : Code) (b L : Nat) (xs : Nat → Int32) : Prop :=
  p.tables.exec = Jvm.exec ∧ c.code = code ∧ meth.sig.returnType = ret ∧ c.maxLocals = 4 ∧ s.vm.findClass R_law = some m.cls ∧ (∀ w ∈ lw_tbl, w.before #[Value.ref b] s = true) ∧ va_X b L xs s s.heap ∧ b < s.heap.size ∧ meth.locks = false ∧ (Jvm.Cond.and given_1 narrow_1).before #[Value.ref b] s = true

/-! FROM THE WALKER TO THE CLAIM -/
theorem zq_ka : ∀ j, j < 6 → (Cond.eq (.elem (.static "OneForOne" "KIND_ABOVE" "[I") (.int (Int32.ofNat j))) (.int (Int32.ofInt ((zgv_L.getD 0 []).getD j 0)))) ∈ flatC (Jvm.Cond.and given_1 narrow_1) := by decide +kernel
theorem zq_st : ∀ j, j < 6 → (Cond.eq (.elem (.static "OneForOne$Lake" "STEP" "[I") (.int (Int32.ofNat j))) (.int (Int32.ofInt ((zgv_L.getD 1 []).getD j 0)))) ∈ flatC (Jvm.Cond.and given_1 narrow_1) := by decide +kernel
def zq_tm : Nat → Term := fun i => if i = 0 then .string "OneForOne" 42 else .string "OneForOne$Reader" 94
def zq_len : List Nat := [48, 60]
def zq_byt : List (List Int32) := [(zgv_L.getD 4 []).map Int32.ofInt, (zgv_L.getD 5 []).map Int32.ofInt]
theorem zq_el : ∀ i, i < 2 → ∀ j, j < zq_len.getD i 0 → (Cond.eq (.elem (.field (zq_tm i) "java/lang/String" "value" "[B") (.int (Int32.ofNat j))) (.int ((zq_byt.getD i []).getD j 0))) ∈ flatC (Jvm.Cond.and given_1 narrow_1) := by decide +kernel
theorem zq_ex : ∀ i, i < 2 → (Cond.exactly (zq_tm i) "java/lang/String") ∈ flatC (Jvm.Cond.and given_1 narrow_1) ∧ (Cond.eq (.field (zq_tm i) "java/lang/String" "coder" "B") (.int 0)) ∈ flatC (Jvm.Cond.and given_1 narrow_1) ∧ (Cond.arrayOf (.field (zq_tm i) "java/lang/String" "value" "[B") .byte) ∈ flatC (Jvm.Cond.and given_1 narrow_1) ∧ (Cond.eq (.length (.field (zq_tm i) "java/lang/String" "value" "[B")) (.int (Int32.ofNat (zq_len.getD i 0)))) ∈ flatC (Jvm.Cond.and given_1 narrow_1) := by decide +kernel
theorem zq_ne : (Cond.not (Cond.eq (zq_tm 0) (zq_tm 1))) ∈ flatC (Jvm.Cond.and given_1 narrow_1) ∨ (Cond.not (Cond.eq (zq_tm 1) (zq_tm 0))) ∈ flatC (Jvm.Cond.and given_1 narrow_1) := by decide +kernel
theorem zq_mi : (Cond.arrayOf (.static "OneForOne" "KIND_ABOVE" "[I") .int) ∈ flatC (Jvm.Cond.and given_1 narrow_1) ∧ (Cond.eq (.length (.static "OneForOne" "KIND_ABOVE" "[I")) (.int 6)) ∈ flatC (Jvm.Cond.and given_1 narrow_1) ∧ (Cond.arrayOf (.static "OneForOne$Lake" "STEP" "[I") .int) ∈ flatC (Jvm.Cond.and given_1 narrow_1) ∧ (Cond.eq (.length (.static "OneForOne$Lake" "STEP" "[I")) (.int 6)) ∈ flatC (Jvm.Cond.and given_1 narrow_1) ∧ (Cond.eq (.static "java/lang/String" "COMPACT_STRINGS" "Z") (.int 1)) ∈ flatC (Jvm.Cond.and given_1 narrow_1) ∧ (Cond.isRef (.static "jdk/internal/util/Preconditions" "SIOOBE_FORMATTER" "Ljava/util/function/BiFunction;")) ∈ flatC (Jvm.Cond.and given_1 narrow_1) := by decide +kernel
theorem zq_lw : (Cond.laysStatic "OneForOne" "KIND_ABOVE" "[I") ∈ lw_tbl ∧ (Cond.laysStatic "OneForOne$Lake" "STEP" "[I") ∈ lw_tbl ∧ (Cond.laysStatic "java/lang/String" "COMPACT_STRINGS" "Z") ∈ lw_tbl ∧ (Cond.laysStatic "jdk/internal/util/Preconditions" "SIOOBE_FORMATTER" "Ljava/util/function/BiFunction;") ∈ lw_tbl ∧ (Cond.stringRef "OneForOne" 42 "may 1 ; row base ; gain base * (hour < by + 1) ;") ∈ lw_tbl ∧ (Cond.stringRef "OneForOne$Reader" 94 "off  on   at   base hour by   may  row  gain or   and  not  ") ∈ lw_tbl := by decide +kernel
theorem zq_ini : (Cond.initialized "OneForOne") ∈ lw_tbl ∧ (Cond.initialized "OneForOne$Lake") ∈ lw_tbl ∧ (Cond.initialized "java/lang/String") ∈ lw_tbl ∧ (Cond.initialized "jdk/internal/util/Preconditions") ∈ lw_tbl := by decide +kernel
theorem zq_byte : ∀ i, i < 2 → ∀ j, j < zq_len.getD i 0 → (zq_byt.getD i []).getD j 0 = Int32.ofInt ((zgv_L.getD (4 + i) []).getD j 0) := by decide +kernel
theorem zXt_start {s : State} {b L : Nat} {xs : Nat → Int32} (hL : L ≤ 3584) (hts : ∀ w ∈ lw_tbl, w.before #[Value.ref b] s = true) (hX : va_X b L xs s s.heap) (hbl : b < s.heap.size) (hgv : (Jvm.Cond.and given_1 narrow_1).before #[Value.ref b] s = true) :
    ∃ sp : Nat → Value, sp 6 = .ref b ∧ zXt sp (fun j => (xs j).toInt) L (zA s.heap.size) s s.heap := by
  have hA : ∀ a : Nat, a < s.heap.size → ¬ zA s.heap.size a := fun a h h2 => by
    unfold zA at h2
    omega
  have hs := flat_of_before _ hgv
  obtain ⟨m1, m2, m3, m4, m5, m6⟩ := zq_mi
  obtain ⟨w1, w2, w3, w4, w5, w6⟩ := zq_lw
  obtain ⟨i1, i2, i3, i4⟩ := zq_ini
  obtain ⟨t0, e0, T0⟩ := va_Tof (f := fun j => .int (Int32.ofInt ((zgv_L.getD 0 []).getD j 0))) (N := 6) (by decide) (hs _ m1) (va_eqt (hs _ m2)) (fun j hj => va_eqt (hs _ (zq_ka j hj))) hA
  obtain ⟨t1, e1, T1⟩ := va_Tof (f := fun j => .int (Int32.ofInt ((zgv_L.getD 1 []).getD j 0))) (N := 6) (by decide) (hs _ m3) (va_eqt (hs _ m4)) (fun j hj => va_eqt (hs _ (zq_st j hj))) hA
  obtain ⟨adK, adV, hS, hE⟩ := vk_Sof (N := 2) (tm := zq_tm) (len := zq_len) (byt := zq_byt) (by decide) (fun i hi => hs _ (zq_ex i hi).1) (fun i hi => hs _ (zq_ex i hi).2.1) (fun i hi => hs _ (zq_ex i hi).2.2.1) (fun i hi => hs _ (zq_ex i hi).2.2.2) (fun i hi j hj => hs _ (zq_el i hi j hj)) (fun i j hi hj hij => by
    rcases (show (i = 0 ∧ j = 1) ∨ (i = 1 ∧ j = 0) by omega) with ⟨rfl, rfl⟩ | ⟨rfl, rfl⟩
    · rcases zq_ne with h | h
      · exact Or.inl (hs _ h)
      · exact Or.inr (hs _ h)
    · rcases zq_ne with h | h
      · exact Or.inr (hs _ h)
      · exact Or.inl (hs _ h)) hA
  obtain ⟨vq, hvq, hZq⟩ : ∃ vq : Value, (vq = .null ∨ ∃ a, vq = .ref a) ∧ va_Z "jdk/internal/util/Preconditions" "SIOOBE_FORMATTER" "Ljava/util/function/BiFunction;" vq (zA s.heap.size) s s.heap := by
    rcases va_Zqof (hts _ w4) (hts _ i4) (hs _ m6) hA with h | ⟨t, h⟩
    · exact ⟨_, Or.inl rfl, h⟩
    · exact ⟨_, Or.inr ⟨t, rfl⟩, h⟩
  have hT4 : va_T .byte (adV 0) 48 (fun i => .int (Int32.ofInt ((zgv_L.getD 4 []).getD i 0))) (zA s.heap.size) s s.heap := by
    obtain ⟨cell, q1, q2, q3, q4, q5, q6, q7⟩ := (hS.1 0 (by decide)).2.2.2
    exact ⟨cell, q1, q2, q3, q4, q5, fun j hj => (q6 j hj).trans (congrArg (fun w => some (Value.int w)) (zq_byte 0 (by decide) j hj)), q7⟩
  have hT5 : va_T .byte (adV 1) 60 (fun i => .int (Int32.ofInt ((zgv_L.getD 5 []).getD i 0))) (zA s.heap.size) s s.heap := by
    obtain ⟨cell, q1, q2, q3, q4, q5, q6, q7⟩ := (hS.1 1 (by decide)).2.2.2
    exact ⟨cell, q1, q2, q3, q4, q5, fun j hj => (q6 j hj).trans (congrArg (fun w => some (Value.int w)) (zq_byte 1 (by decide) j hj)), q7⟩
  have hT6 : va_T .int b L (fun i => .int (Int32.ofInt ((xs i).toInt))) (zA s.heap.size) s s.heap := by
    obtain ⟨scr, q1, q2, q3, q4, q5⟩ := hX
    exact ⟨scr, q1, q2, q3, by omega, by rw [q4], fun j hj => by rw [q5 j hj]; show _ = some (Value.int (Int32.ofInt (xs j).toInt)); rw [Int32.ofInt_toInt], hA b hbl⟩
  refine ⟨fun j => if j = 0 then .ref t0 else if j = 1 then .ref t1 else if j = 2 then .ref (adK 0) else if j = 3 then .ref (adK 1) else if j = 4 then .ref (adV 0) else if j = 5 then .ref (adV 1) else if j = 6 then .ref b else if j = 7 then vq else .null, rfl, ?_, fun j => if j = 0 then t0 else if j = 1 then t1 else if j = 2 then adK 0 else if j = 3 then adK 1 else if j = 4 then adV 0 else if j = 5 then adV 1 else b, ?_, by omega, fun j => zR_t _, ?_, ?_, ?_, va_Zref (hts _ w1) (hts _ i1) e0 hA, va_Zref (hts _ w2) (hts _ i2) e1 hA, va_Zof (hts _ w3) (hts _ i3) (va_eqi (hs _ m5)) hA, hZq, vk_R.of (hts _ w5) ?_, vk_R.of (hts _ w6) ?_, fun e he => ?_, ?_, ?_⟩
  · intro j
    rcases Nat.lt_or_ge j 8 with h | h
    · match j, h with
      | 0, _ => exact Or.inr ⟨_, rfl⟩
      | 1, _ => exact Or.inr ⟨_, rfl⟩
      | 2, _ => exact Or.inr ⟨_, rfl⟩
      | 3, _ => exact Or.inr ⟨_, rfl⟩
      | 4, _ => exact Or.inr ⟨_, rfl⟩
      | 5, _ => exact Or.inr ⟨_, rfl⟩
      | 6, _ => exact Or.inr ⟨_, rfl⟩
      | 7, _ => exact hvq
    · left
      simp only [show ¬ j = 0 by omega, show ¬ j = 1 by omega, show ¬ j = 2 by omega, show ¬ j = 3 by omega, show ¬ j = 4 by omega, show ¬ j = 5 by omega, show ¬ j = 6 by omega, show ¬ j = 7 by omega, if_false]
  · intro j hj
    match j, hj with
    | 0, _ => rfl
    | 1, _ => rfl
    | 2, _ => rfl
    | 3, _ => rfl
    | 4, _ => rfl
    | 5, _ => rfl
    | 6, _ => rfl
  · intro j hj
    rcases hj with rfl | rfl | rfl
    · exact T0
    · exact T1
    · exact hT6
  · intro j hj
    rcases hj with rfl | rfl
    · exact hT4
    · exact hT5
  · intro j hj
    rcases hj with rfl | rfl
    · exact ⟨(hS.1 0 (by decide)).1, (hS.1 0 (by decide)).2.1, (hS.1 0 (by decide)).2.2.1⟩
    · exact ⟨(hS.1 1 (by decide)).1, (hS.1 1 (by decide)).2.1, (hS.1 1 (by decide)).2.2.1⟩
  · exact hE 0 (by decide)
  · exact hE 1 (by decide)
  · exact va_tabs rfl rfl (hts _ (zw_nl_lw he))
  · exact va_AO.of (hts _ (zw_ao_lw (e := "OneForOne$Law") (by decide +kernel)))
  · exact va_AO.of (hts _ (zw_ao_lw (e := "OneForOne$Sheet") (by decide +kernel)))

theorem zcAv : ∀ {s : State} {args : Array Value}, (∀ w ∈ lw_tbl, w.before args s = true) → ∃ cA : Nat → ClassId, ∀ (k : Nat) (q : ClassId × FieldType), (zTY cA)[k]? = some q → ArrOfT s q.1 q.2 ∧ va_RA s q.1 q.2 := by
  intro s args hts
  have prim : ∀ ty : FieldType, (Cond.arrayClass ty).before args s = true → ∃ cB : ClassId, ArrOfT s cB ty ∧ s.vm.findClass ("[" ++ ty.toString) = some cB := by
    intro ty h
    obtain ⟨cB, kB, comp, h1, h2, h3⟩ := Cond.arrayClass_spec h
    exact ⟨cB, fun n z => ⟨fun k h => (by cases h), kB, h2, comp, h3⟩, h1⟩
  have obj : ∀ C : String, (Cond.arrayOver (.object C)).before args s = true → ∃ cB : ClassId, ArrOfT s cB (.object C) ∧ va_RA s cB (.object C) := by
    intro C h
    obtain ⟨comp, cB, kB, h1, h2, h3, h4, h5⟩ := Cond.arrayOver_spec h
    exact ⟨cB, fun n z => ⟨fun k h => (by cases h), kB, h3, comp, h4⟩, kB, comp, h3, h4, h1, h5⟩
  obtain ⟨c0, a0, b0⟩ := prim .int (hts _ (zgw_lw (zw_mi_ok zmi_in.1)))
  obtain ⟨c1, a1, b1⟩ := prim .byte (hts _ (zgw_lw (zw_mi_ok zmi_in.2.1)))
  obtain ⟨c2, a2, b2⟩ := prim .boolean (hts _ (zgw_lw (zw_mi_ok zmi_in.2.2.1)))
  obtain ⟨c3, a3, b3⟩ := obj "OneForOne$Law" (hts _ (zw_ao_lw (e := "OneForOne$Law") (by decide +kernel)))
  obtain ⟨c4, a4, b4⟩ := obj "OneForOne$Sheet" (hts _ (zw_ao_lw (e := "OneForOne$Sheet") (by decide +kernel)))
  refine ⟨fun k => if k = 20 then c0 else if k = 21 then c1 else if k = 22 then c2 else if k = 23 then c3 else c4, ?_⟩
  intro k q h
  match k, h with
  | 0, h => cases h; exact ⟨a0, b0⟩
  | 1, h => cases h; exact ⟨a1, b1⟩
  | 2, h => cases h; exact ⟨a2, b2⟩
  | 3, h => cases h; exact ⟨a3, b3⟩
  | 4, h => cases h; exact ⟨a4, b4⟩
  | k + 5, h => simp [zTY] at h
theorem zcKv {s : State} {args : Array Value} (hts : ∀ w ∈ lw_tbl, w.before args s = true) : ∃ (dC : Nat → ClassId) (dI : Nat → Nat → Nat), ∀ (k : Nat) (q : vw_C), classes[k]? = some q → u_Kn s q.1 q.2.1 q.2.2 (dC k) (dI k) := by
  have h0 : ∀ k : Nat, ∃ w : ClassId × (Nat → Nat), k < 9 → u_Kn s (zc_n k) (zf_T k) (zf_n k) w.1 w.2 := by
    intro k
    by_cases hk : k < 9
    · obtain ⟨cC, iS, h⟩ := u_known (C := zc_n k) (T := zf_T k) (N := zf_n k) (n := zf_n k) hts (fun w hw => zgw_lw (zcl_in hk w hw)) (hts _ (zgw_lw (zw_in_ok (zinn_in k hk))))
      exact ⟨(cC, iS), fun _ => h⟩
    · exact ⟨(0, fun _ => 0), fun h => absurd h hk⟩
  obtain ⟨f, hf⟩ := Classical.axiomOfChoice h0
  refine ⟨fun k => (f k).1, fun k => (f k).2, fun k q hq => ?_⟩
  have hk : k < 9 := by
    rcases Nat.lt_or_ge k 9 with h | h
    · exact h
    · rw [List.getElem?_eq_none (by simpa [classes] using h)] at hq
      cases hq
  rw [zcl_get k hk] at hq
  cases hq
  exact hf k hk
theorem zlaw_own : zc_n 15 = R_law := by decide
/-- what is left to show: the walker's run of the law ends, with 1 -/
def zPure (xs : Nat → Int) (L : Nat) : Prop := ∃ (N : Nat) (nF : Nat) (sqF : Pl), nF ≤ 1000 ∧ zrun xs L (zex xs L N 100) 240 15 2 false N (0, [some (.inr (.inr 100006)), none, none, none], [], 0, fun _ _ => 0) = some (some (.inl 1), nF, sqF)
theorem zsz_le (n : Nat) : zsz n ≤ 4096 * n := by
  induction n with
  | zero => exact Nat.le_refl _
  | succ n ih =>
    rw [zsz_succ]
    have := zsh_len n
    omega
set_option maxHeartbeats 4000000 in
theorem zstart {p : Program} {e : Env} {s : State} {m : MethodId} {below : List Frame} {meth : Method} {c : Code} (l : Launch) {b L : Nat} {xs : Nat → Int32} (hL : L ≤ 3584) (C0 : lw_At p s m meth c b L xs) (hpure : zPure (fun j => (xs j).toInt) L) : W p l e room_1 s m #[Value.ref b] below meth c s.heap [] 0 0 (lw_Z below #[Value.ref b] s) (entryFrame m ([Value.ref b] : List Value).toArray 4) := by
  obtain ⟨hx, hb, hr, hml, hown, hts, hX, hbl, hlocks, hgv⟩ := C0
  obtain ⟨sp, hsp6, hXt⟩ := zXt_start hL hts hX hbl hgv
  obtain ⟨cA, hcA⟩ := zcAv hts
  obtain ⟨dC, dI, hdC⟩ := zcKv hts
  obtain ⟨N, nF, sqF, hnF, hrun⟩ := hpure
  have hK : va_K (dC, dI) classes (zTY cA) s := ⟨hdC, hcA⟩
  have C : zCtx p s m #[Value.ref b] meth c 240 15 false code 4 cA dC dI sp (fun j => (xs j).toInt) L s.heap.size :=
    ⟨hx, hb, hml, fun pc i z hi => zi_dec zi_okn_240 hi, by rw [zlaw_own]; exact hown, fun w hw => hts w (zgw_lw hw), hK, hXt, Nat.le_refl _, fun q => by cases q⟩
  have hl := lv_entry ([.ref b]) (n := 4) (Nat.le_of_ble_eq_true rfl)
  rw [lg_entry_eq]
  generalize (lg_sl ([.ref b]) ++ List.replicate (4 - (lg_sl ([.ref b])).length) Slot.unset).toArray = ls at hl ⊢
  have hl : lv_has ls 4 [(0, .ref b)] := hl
  have hr6 : ∀ ad : Nat → Nat, ztr sp ad (.inr (.inr 100006)) = .ref b := fun ad => (zrv_giv (j := 6) ad).trans hsp6
  have hlv : zLv sp (fun _ => 0) 0 4 [some (.inr (.inr 100006)), none, none, none] ls := by
    refine ⟨hl.1, rfl, hl.2.1, fun i v hv => ?_, fun i v hv => ?_⟩
    · match i, hv with
      | 0, hv => cases hv; rw [hr6]; exact hl.2.2 _ List.mem_cons_self
      | 1, hv => cases hv
      | 2, hv => cases hv
      | 3, hv => cases hv
      | i + 4, hv => simp at hv
    · match i, hv with
      | 0, hv => cases hv; exact Or.inr (by decide)
      | 1, hv => cases hv
      | 2, hv => cases hv
      | 3, hv => cases hv
      | i + 4, hv => simp at hv
  have hP : va_P (dC, dI) classes (zwo cA (fun _ => 0) 0 (fun _ _ => 0)) s.heap := fun k q h => by simp [zwo] at h
  have hD : va_D (zA s.heap.size) (zwo cA (fun _ => 0) 0 (fun _ _ => 0)) := ⟨fun i j p q h => by simp [zwo] at h, fun k q h => by simp [zwo] at h⟩
  have hz9 := zsz_le nF
  refine zrun_ok (d := 100) (n0 := 0) (nF := nF) (sqF := sqF) (rF := some (.inl 1)) (ad0 := fun _ => 0) (R := room_1) C (zmet_all l _ L N 100) (zex_mono 100) (Nat.le_of_ble_eq_true rfl) (Nat.le_of_ble_eq_true rfl) (Nat.le_trans (by omega : nF - 0 ≤ 1000) (Nat.le_of_ble_eq_true rfl)) (Nat.le_trans (by omega : zsz nF - zsz 0 ≤ 4096000) (Nat.le_of_ble_eq_true rfl)) ?_ N 0 _ [] 0 (fun _ _ => 0) ls s.heap [] (fun _ => 0) 0 0 hrun hlv (fun v hv => by cases hv) ⟨⟨fun _ _ => zR0, fun _ _ h => absurd h (Nat.not_lt_zero _), Nat.zero_le _⟩, hP, hD, va_S.rf⟩ rfl rfl (Nat.le_refl _) (fun _ _ => rfl)
  intro pc2 i2 z2 ls2 H2 locs2 ad2 st2 hi2 hrt2 hH2 hag hp2
  obtain ⟨hdg, hz⟩ := zi_dec zi_okn_240 hi2
  obtain ⟨hM2, hP2, hD2, hS2⟩ := hH2
  rcases zret_cases hrt2 with ⟨rfl, v, rfl, hv, hc⟩ | ⟨rfl, hc, v, rfl, hv⟩ | ⟨rfl, hc, cq, rfl, hv, hcq⟩ | ⟨rfl, hc, rfl, hv⟩
  · cases hv
    simp only [zsw, zln, Bool.false_eq_true, false_or] at hz
    subst hz
    refine va_forget (fun q hq => hS2.2.2 q hq) ?_
    refine W.widen (k := 600000) (n := 7302250) (Nat.le_trans (by omega : nF - 0 ≤ 1000) (Nat.le_of_ble_eq_true rfl)) (Nat.le_trans (by omega : zsz nF - zsz 0 ≤ 4096000) (Nat.le_of_ble_eq_true rfl)) ?_
    exact lw_ret hx hb hr hlocks hdg
  · cases hv
  · cases hv
  · cases hv
end
section
/-! RULES FOR THE WALKER: a place in a method's run, from which it ends so that Q holds -/
def yo (y : Nat) : Nat := if y = 240 then 15 else (zm y).2.2.2.2.1
def yr (y : Nat) : Nat := if y = 240 then 2 else (zm y).2.2.2.2.2.1
def yi (y : Nat) : Bool := if y = 240 then false else decide ((zm y).1.name = "<init>")
def it (x : Int) : AV := .inl x
def lg (x : Int) : AV := .inr (.inl x)
def rf (c : Nat) : AV := .inr (.inr c)
def zLe (a b : ZX) : Prop := ∀ y as n s x, a y as n s = some x → b y as n s = some x
section ZR
variable {xs : Nat → Int} {L : Nat}
theorem zrun_le {ex ex2 : ZX} (h : zLe ex ex2) {y o rt : Nat} {ini : Bool} : ∀ (N M : Nat) (f : Fm) (x : Option AV × Nat × Pl), N ≤ M → zrun xs L ex y o rt ini N f = some x → zrun xs L ex2 y o rt ini M f = some x := by
  intro N
  induction N with
  | zero => intro M f x _ hx; cases hx
  | succ N ih =>
    intro M f x hM hx
    obtain ⟨K, rfl⟩ : ∃ K, M = K + 1 := ⟨M - 1, by omega⟩
    unfold zrun at hx ⊢
    cases hi : zi y f.1 with
    | none => rw [hi] at hx; cases hx
    | some iz =>
      obtain ⟨i, z⟩ := iz
      rw [hi] at hx
      dsimp only at hx ⊢
      cases hr : zret rt i f.2.2.1 with
      | some r0 => rw [hr] at hx; exact hx
      | none =>
        rw [hr] at hx
        dsimp only at hx ⊢
        cases hc : zcal o i with
        | some y2 =>
          rw [hc] at hx
          dsimp only at hx ⊢
          split at hx
          · next hok =>
            rw [if_pos hok]
            cases he : ex y2 (f.2.2.1.take (zm y2).2.2.2.2.2.2.1).reverse f.2.2.2.1 f.2.2.2.2 with
            | none => rw [he] at hx; cases hx
            | some q =>
              rw [he] at hx
              rw [h _ _ _ _ _ he]
              exact ih K _ x (by omega) hx
          · cases hx
        | none =>
          rw [hc] at hx
          dsimp only at hx ⊢
          cases hs : zstep xs L o ini i z f with
          | none => rw [hs] at hx; cases hx
          | some f2 =>
            rw [hs] at hx
            exact ih K _ x (by omega) hx
theorem zex_le {N M : Nat} (h : N ≤ M) : ∀ d, zLe (zex xs L N d) (zex xs L M d) := by
  intro d
  induction d with
  | zero => intro y as n s x hx; cases hx
  | succ d ih => intro y as n s x hx; exact zrun_le ih N M _ x h hx
end ZR
variable (xs : Nat → Int) (L : Nat)
/-- a frame's run -/
def Gr (d y pc : Nat) (lv : LVs) (st : List AV) (n : Nat) (s : Pl) (Q : Option AV → Nat → Pl → Prop) : Prop :=
  ∃ (N : Nat) (r : Option AV) (n2 : Nat) (s2 : Pl), zrun xs L (zex xs L N d) y (yo y) (yr y) (yi y) N (pc, lv, st, n, s) = some (r, n2, s2) ∧ Q r n2 s2
/-- a call -/
def Er (d y : Nat) (as : List AV) (n : Nat) (s : Pl) (Q : Option AV → Nat → Pl → Prop) : Prop :=
  ∃ (N : Nat) (r : Option AV) (n2 : Nat) (s2 : Pl), zex xs L N d y as n s = some (r, n2, s2) ∧ Q r n2 s2
variable {xs : Nat → Int} {L : Nat}
theorem Gr.step {d y pc : Nat} {lv lv2 : LVs} {st st2 : List AV} {n n2 pc2 z : Nat} {s s2 : Pl} {Q : Option AV → Nat → Pl → Prop} {i : Instr} (hi : zi y pc = some (i, z)) (hr : zret (yr y) i st = none) (hc : zcal (yo y) i = none) (hs : zstep xs L (yo y) (yi y) i z (pc, lv, st, n, s) = some (pc2, lv2, st2, n2, s2)) (k : Gr xs L d y pc2 lv2 st2 n2 s2 Q) : Gr xs L d y pc lv st n s Q := by
  obtain ⟨N, r, n3, s3, h1, h2⟩ := k
  refine ⟨N + 1, r, n3, s3, ?_, h2⟩
  unfold zrun
  dsimp only
  rw [hi]
  dsimp only
  rw [hr]
  dsimp only
  rw [hc]
  dsimp only
  rw [hs]
  exact zrun_le (zex_le (by omega) d) N N _ _ (Nat.le_refl _) h1
theorem Gr.ret {d y pc : Nat} {lv : LVs} {st : List AV} {n z : Nat} {s : Pl} {Q : Option AV → Nat → Pl → Prop} {i : Instr} {r : Option AV} (hi : zi y pc = some (i, z)) (hr : zret (yr y) i st = some r) (k : Q r n s) : Gr xs L d y pc lv st n s Q := by
  refine ⟨1, r, n, s, ?_, k⟩
  unfold zrun
  dsimp only
  rw [hi]
  dsimp only
  rw [hr]
theorem Gr.call {d y pc y2 na : Nat} {lv : LVs} {st as rest : List AV} {n z : Nat} {s : Pl} {Q Q2 : Option AV → Nat → Pl → Prop} {i : Instr} (hi : zi y pc = some (i, z)) (hr : zret (yr y) i st = none) (hc : zcal (yo y) i = some y2) (hna : (zm y2).2.2.2.2.2.2.1 = na) (hst : st = as.reverse ++ rest) (hl : as.length = na) (hok : zcallok i y2 n as rest = true) (hcall : Er xs L d y2 as n s Q2)
    (k : ∀ r n2 s2, Q2 r n2 s2 → Gr xs L d y (pc + z) lv (r.toList ++ rest) n2 s2 Q) : Gr xs L d y pc lv st n s Q := by
  obtain ⟨N1, r, n2, s2, h1, h2⟩ := hcall
  obtain ⟨N2, r3, n3, s3, h3, h4⟩ := k r n2 s2 h2
  subst hna
  have e1 : (st.take (zm y2).2.2.2.2.2.2.1).reverse = as := by
    rw [hst, ← hl, ← List.length_reverse, List.take_left, List.reverse_reverse]
  have e2 : st.drop (zm y2).2.2.2.2.2.2.1 = rest := by
    rw [hst, ← hl, ← List.length_reverse, List.drop_left]
  refine ⟨N1 + N2 + 1, r3, n3, s3, ?_, h4⟩
  unfold zrun
  dsimp only
  rw [hi]
  dsimp only
  rw [hr]
  dsimp only
  rw [hc]
  dsimp only
  rw [e1, e2, if_pos ⟨by rw [hst, List.length_append, List.length_reverse]; omega, hok⟩, zex_le (show N1 ≤ N1 + N2 + 1 by omega) d _ _ _ _ _ h1]
  dsimp only
  exact zrun_le (zex_le (by omega) d) N2 (N1 + N2) _ _ (by omega) h3
theorem Er.of {d y : Nat} {as : List AV} {n : Nat} {s : Pl} {Q : Option AV → Nat → Pl → Prop} (hy : y < 240) (lv : LVs) (hlv : as.map some ++ List.replicate ((zm y).2.2.1 - as.length) none = lv) (k : Gr xs L d y 0 lv [] n s Q) : Er xs L (d + 1) y as n s Q := by
  obtain ⟨N, r, n2, s2, h1, h2⟩ := k
  refine ⟨N, r, n2, s2, ?_, h2⟩
  unfold zex
  rw [hlv]
  have e1 : yo y = (zm y).2.2.2.2.1 := by unfold yo; rw [if_neg (by omega)]
  have e2 : yr y = (zm y).2.2.2.2.2.1 := by unfold yr; rw [if_neg (by omega)]
  have e3 : yi y = decide ((zm y).1.name = "<init>") := by unfold yi; rw [if_neg (by omega)]
  rw [e1, e2, e3] at h1
  exact h1
theorem Gr.mono {d y pc : Nat} {lv : LVs} {st : List AV} {n : Nat} {s : Pl} {Q Q2 : Option AV → Nat → Pl → Prop} (h : Gr xs L d y pc lv st n s Q) (k : ∀ r n2 s2, Q r n2 s2 → Q2 r n2 s2) : Gr xs L d y pc lv st n s Q2 := by
  obtain ⟨N, r, n2, s2, h1, h2⟩ := h
  exact ⟨N, r, n2, s2, h1, k _ _ _ h2⟩
theorem Er.mono {d y : Nat} {as : List AV} {n : Nat} {s : Pl} {Q Q2 : Option AV → Nat → Pl → Prop} (h : Er xs L d y as n s Q) (k : ∀ r n2 s2, Q r n2 s2 → Q2 r n2 s2) : Er xs L d y as n s Q2 := by
  obtain ⟨N, r, n2, s2, h1, h2⟩ := h
  exact ⟨N, r, n2, s2, h1, k _ _ _ h2⟩
theorem zrun_dmono {ex ex2 : ZX} {N : Nat} (h : zLe ex ex2) {y o rt : Nat} {ini : Bool} {f : Fm} {x : Option AV × Nat × Pl} (hx : zrun xs L ex y o rt ini N f = some x) : zrun xs L ex2 y o rt ini N f = some x := zrun_le h N N f x (Nat.le_refl _) hx
theorem zex_dle {N : Nat} : ∀ d, zLe (zex xs L N d) (zex xs L N (d + 1)) := by
  intro d
  induction d with
  | zero => intro y as n s x hx; cases hx
  | succ d ih => intro y as n s x hx; exact zrun_dmono ih hx
theorem zex_dle2 {N d d2 : Nat} (h : d ≤ d2) : zLe (zex xs L N d) (zex xs L N d2) := by
  induction h with
  | refl => exact fun _ _ _ _ _ h => h
  | step _ ih => exact fun y as n s x hx => zex_dle _ _ _ _ _ _ (ih _ _ _ _ _ hx)
theorem Er.up {d d2 y : Nat} {as : List AV} {n : Nat} {s : Pl} {Q : Option AV → Nat → Pl → Prop} (h : Er xs L d y as n s Q) (hd : d ≤ d2) : Er xs L d2 y as n s Q := by
  obtain ⟨N, r, n2, s2, h1, h2⟩ := h
  exact ⟨N, r, n2, s2, zex_dle2 hd _ _ _ _ _ h1, h2⟩
end
section
/-! rules, the references that never change out of sight -/
theorem zsh_lt9 {c ci : Nat} (h : (zsh c).1 = ci) (h9 : ci < 25) : c < 1000 := zsh_bound (by omega)
def Tok (T : List (Nat × Int × Int)) : Prop := ∀ e ∈ T, 0 ≤ e.2.1 ∧ zrefs e.1 e.2.1.toNat = true
def Sh (T : List (Nat × Int × Int)) (s : Pl) : Prop := ∀ e ∈ T, s e.1 e.2.1 = e.2.2
theorem Sh.up {T : List (Nat × Int × Int)} {s : Pl} {c : Nat} {i v : Int} (hT : Tok T) (h : Sh T s) (hz : 0 ≤ i → zrefs c i.toNat = false) : Sh T (zup s c i v) := by
  intro e he
  obtain ⟨h1, h2⟩ := hT e he
  by_cases q : e.1 = c
  · by_cases q2 : e.2.1 = i
    · rw [q, q2] at h2
      rw [hz (by omega)] at h2
      cases h2
    · rw [q, zup_other q2, ← q]
      exact h e he
  · rw [zup_ne q]
    exact h e he
theorem zrefs_num {c i ci : Nat} (h : (zsh c).1 = ci) (h9 : ci < 9) (ht : (zf ci i).2.2.2 ≠ 1) : zrefs c i = false := by
  unfold zrefs
  rw [h]
  simp only [Bool.or_eq_false_iff, Bool.and_eq_false_iff, decide_eq_false_iff_not]
  exact ⟨Or.inr ht, by omega⟩
theorem zrefs_arr {c i ci : Nat} (h : (zsh c).1 = ci) (h1 : 20 ≤ ci) (h2 : ci < 23) : zrefs c i = false := by
  unfold zrefs
  rw [h]
  simp only [Bool.or_eq_false_iff, Bool.and_eq_false_iff, decide_eq_false_iff_not]
  exact ⟨Or.inl (by omega), by omega⟩
def qi (P : Int → Pl → Prop) : Option AV → Pl → Prop := fun r s => ∃ v, r = some (it v) ∧ P v s
def ql (P : Int → Pl → Prop) : Option AV → Pl → Prop := fun r s => ∃ v, r = some (lg v) ∧ P v s
def qr (P : Nat → Pl → Prop) : Option AV → Pl → Prop := fun r s => ∃ c, r = some (rf c) ∧ P c s
def qv (P : Pl → Prop) : Option AV → Pl → Prop := fun r s => r = none ∧ P s
def zP : Jvm.ClassFile.Cond → Int → Int → Prop
  | .eq, x, y => x = y
  | .ne, x, y => ¬ x = y
  | .lt, x, y => x < y
  | .ge, x, y => y ≤ x
  | .gt, x, y => y < x
  | .le, x, y => x ≤ y
theorem zP_iff (c : Jvm.ClassFile.Cond) (x y : Int) : zcp c x y = true ↔ zP c x y := by
  cases c <;> exact decide_eq_true_iff
variable (xs : Nat → Int) (L : Nat)
def Fr (T : List (Nat × Int × Int)) (n d y pc : Nat) (lv : LVs) (st : List AV) (s : Pl) (Q : Option AV → Pl → Prop) : Prop :=
  Tok T → Sh T s → Gr xs L d y pc lv st n s (fun r n2 s2 => n2 = n ∧ Sh T s2 ∧ Q r s2)
def Ev (T : List (Nat × Int × Int)) (n d y : Nat) (as : List AV) (s : Pl) (Q : Option AV → Pl → Prop) : Prop :=
  Tok T → Sh T s → Er xs L d y as n s (fun r n2 s2 => n2 = n ∧ Sh T s2 ∧ Q r s2)
variable {xs : Nat → Int} {L : Nat} {T : List (Nat × Int × Int)} {n d y pc : Nat} {lv : LVs} {st : List AV} {s : Pl} {Q : Option AV → Pl → Prop}
theorem Ev.mono {as : List AV} {Q2 : Option AV → Pl → Prop} (h : Ev xs L T n d y as s Q) (k : ∀ r s2, Q r s2 → Q2 r s2) : Ev xs L T n d y as s Q2 := fun h1 h2 => (h h1 h2).mono fun r n2 s2 h => ⟨h.1, h.2.1, k _ _ h.2.2⟩
theorem Ev.i {as : List AV} {P P2 : Int → Pl → Prop} (h : Ev xs L T n d y as s (qi P)) (k : ∀ v s2, P v s2 → P2 v s2) : Ev xs L T n d y as s (qi P2) := h.mono fun _ _ ⟨v, h1, h2⟩ => ⟨v, h1, k _ _ h2⟩
theorem Ev.l {as : List AV} {P P2 : Int → Pl → Prop} (h : Ev xs L T n d y as s (ql P)) (k : ∀ v s2, P v s2 → P2 v s2) : Ev xs L T n d y as s (ql P2) := h.mono fun _ _ ⟨v, h1, h2⟩ => ⟨v, h1, k _ _ h2⟩
theorem Ev.r {as : List AV} {P P2 : Nat → Pl → Prop} (h : Ev xs L T n d y as s (qr P)) (k : ∀ v s2, P v s2 → P2 v s2) : Ev xs L T n d y as s (qr P2) := h.mono fun _ _ ⟨v, h1, h2⟩ => ⟨v, h1, k _ _ h2⟩
theorem Ev.v {as : List AV} {P P2 : Pl → Prop} (h : Ev xs L T n d y as s (qv P)) (k : ∀ s2, P s2 → P2 s2) : Ev xs L T n d y as s (qv P2) := h.mono fun _ _ ⟨h1, h2⟩ => ⟨h1, k _ h2⟩
theorem Ev.up {as : List AV} {d2 : Nat} (h : Ev xs L T n d y as s Q) (hd : d ≤ d2) : Ev xs L T n d2 y as s Q := fun h1 h2 => (h h1 h2).up hd
theorem Ev.of {as : List AV} (hy : y < 240) (lv : LVs) (hlv : as.map some ++ List.replicate ((zm y).2.2.1 - as.length) none = lv) (hd : 1 ≤ d) (k : Fr xs L T n (d - 1) y 0 lv [] s Q) : Ev xs L T n d y as s Q := by
  intro h1 h2
  have h3 := Er.of hy lv hlv (k h1 h2)
  rw [show d - 1 + 1 = d from by omega] at h3
  exact h3
theorem Fr.step {lv2 : LVs} {st2 : List AV} {pc2 z : Nat} {i : Instr} (hi : zi y pc = some (i, z)) (hr : zret (yr y) i st = none) (hc : zcal (yo y) i = none) (hs : zstep xs L (yo y) (yi y) i z (pc, lv, st, n, s) = some (pc2, lv2, st2, n, s)) (k : Fr xs L T n d y pc2 lv2 st2 s Q) : Fr xs L T n d y pc lv st s Q := fun h1 h2 => Gr.step hi hr hc hs (k h1 h2)
/-- groups A, B, C by themselves -/
theorem Fr.sA {lv2 : LVs} {st2 : List AV} {pc2 z : Nat} {i : Instr} (hi : zi y pc = some (i, z)) (hr : zret (yr y) i st = none) (hc : zcal (yo y) i = none) (hs : zsA (yo y) (yi y) i z (pc, lv, st, n, s) = some (pc2, lv2, st2, n, s)) (k : Fr xs L T n d y pc2 lv2 st2 s Q) : Fr xs L T n d y pc lv st s Q :=
  Fr.step hi hr hc (by unfold zstep; rw [hs]) k
theorem Fr.sB {lv2 : LVs} {st2 : List AV} {pc2 z : Nat} {i : Instr} (hi : zi y pc = some (i, z)) (hr : zret (yr y) i st = none) (hc : zcal (yo y) i = none) (ha : zsA (yo y) (yi y) i z (pc, lv, st, n, s) = none) (hs : zsB (yo y) (yi y) i z (pc, lv, st, n, s) = some (pc2, lv2, st2, n, s)) (k : Fr xs L T n d y pc2 lv2 st2 s Q) : Fr xs L T n d y pc lv st s Q :=
  Fr.step hi hr hc (by unfold zstep; rw [ha]; dsimp only; rw [hs]) k
theorem Fr.sC {lv2 : LVs} {st2 : List AV} {pc2 z : Nat} {i : Instr} (hi : zi y pc = some (i, z)) (hr : zret (yr y) i st = none) (hc : zcal (yo y) i = none) (ha : zsA (yo y) (yi y) i z (pc, lv, st, n, s) = none) (hb : zsB (yo y) (yi y) i z (pc, lv, st, n, s) = none) (hs : zsC (yo y) (yi y) i z (pc, lv, st, n, s) = some (pc2, lv2, st2, n, s)) (k : Fr xs L T n d y pc2 lv2 st2 s Q) : Fr xs L T n d y pc lv st s Q :=
  Fr.step hi hr hc (by unfold zstep; rw [ha]; dsimp only; rw [hb]; dsimp only; rw [hs]) k
theorem Fr.goto {q : Nat} {df : Int} (hi : zi y pc = some (.goto df, 3)) (hq : zbr pc df = some q) (k : Fr xs L T n d y q lv st s Q) : Fr xs L T n d y pc lv st s Q :=
  Fr.sC hi rfl rfl rfl rfl (by simp only [zsC]; rw [hq]) k
theorem Fr.if0 {q : Nat} {df x : Int} {cq : Jvm.ClassFile.Cond} (hi : zi y pc = some (.ifCond cq df, 3)) (hq : zbr pc df = some q) (kt : zP cq x 0 → Fr xs L T n d y q lv st s Q) (kf : ¬ zP cq x 0 → Fr xs L T n d y (pc + 3) lv st s Q) : Fr xs L T n d y pc lv (it x :: st) s Q := by
  by_cases h : zP cq x 0
  · exact Fr.sC (pc2 := q) hi rfl rfl rfl rfl (by simp only [zsC, it]; rw [hq]; dsimp only; rw [if_pos ((zP_iff _ _ _).mpr h)]) (kt h)
  · exact Fr.sC (pc2 := pc + 3) hi rfl rfl rfl rfl (by simp only [zsC, it]; rw [hq]; dsimp only; rw [if_neg (fun w => h ((zP_iff _ _ _).mp w))]) (kf h)
theorem Fr.if2 {q : Nat} {df x x2 : Int} {cq : Jvm.ClassFile.Cond} (hi : zi y pc = some (.if_icmp cq df, 3)) (hq : zbr pc df = some q) (kt : zP cq x x2 → Fr xs L T n d y q lv st s Q) (kf : ¬ zP cq x x2 → Fr xs L T n d y (pc + 3) lv st s Q) : Fr xs L T n d y pc lv (it x2 :: it x :: st) s Q := by
  by_cases h : zP cq x x2
  · exact Fr.sC (pc2 := q) hi rfl rfl rfl rfl (by simp only [zsC, it]; rw [hq]; dsimp only; rw [if_pos ((zP_iff _ _ _).mpr h)]) (kt h)
  · exact Fr.sC (pc2 := pc + 3) hi rfl rfl rfl rfl (by simp only [zsC, it]; rw [hq]; dsimp only; rw [if_neg (fun w => h ((zP_iff _ _ _).mp w))]) (kf h)
theorem Fr.getI {c idx ci k t : Nat} (hi : zi y pc = some (.getfield idx, 3)) (hf : zfd (yo y) idx = some (ci, k, t)) (ht : t ≠ 1) (hc : (zsh c).1 = ci) (hk : k < zf_n ci) (h9 : ci < 9) (hn : c < n) (kk : Fr xs L T n d y (pc + 3) lv (it (s c k) :: st) s Q) : Fr xs L T n d y pc lv (rf (c + 1) :: st) s Q := by
  have h1 := zsh_lt9 hc (by omega)
  refine Fr.step (pc2 := pc + 3) (st2 := it (s c k) :: st) hi rfl rfl ?_ kk
  unfold zstep
  have ha : zsA (yo y) (yi y) (.getfield idx) 3 (pc, lv, rf (c + 1) :: st, n, s) = none := rfl
  have hb : zsB (yo y) (yi y) (.getfield idx) 3 (pc, lv, rf (c + 1) :: st, n, s) = none := rfl
  have hcq : zsC (yo y) (yi y) (.getfield idx) 3 (pc, lv, rf (c + 1) :: st, n, s) = none := rfl
  rw [ha, hb, hcq]
  simp only [zsD, rf]
  rw [if_neg (by omega), hf]
  simp only [Nat.add_sub_cancel]
  rw [if_pos ⟨by omega, by omega, hc, hk⟩, if_neg ht]
  rfl
theorem Fr.getR {c c2 idx ci k : Nat} (hi : zi y pc = some (.getfield idx, 3)) (hf : zfd (yo y) idx = some (ci, k, 1)) (hc : (zsh c).1 = ci) (hk : k < zf_n ci) (h9 : ci < 9) (hn : c < n) (hv : Sh T s → s c k = (c2 : Int)) (kk : Fr xs L T n d y (pc + 3) lv (rf c2 :: st) s Q) : Fr xs L T n d y pc lv (rf (c + 1) :: st) s Q := by
  intro hT hS
  have h1 := zsh_lt9 hc (by omega)
  refine Gr.step (pc2 := pc + 3) (st2 := rf c2 :: st) hi rfl rfl ?_ (kk hT hS)
  unfold zstep
  have ha : zsA (yo y) (yi y) (.getfield idx) 3 (pc, lv, rf (c + 1) :: st, n, s) = none := rfl
  have hb : zsB (yo y) (yi y) (.getfield idx) 3 (pc, lv, rf (c + 1) :: st, n, s) = none := rfl
  have hcq : zsC (yo y) (yi y) (.getfield idx) 3 (pc, lv, rf (c + 1) :: st, n, s) = none := rfl
  rw [ha, hb, hcq]
  simp only [zsD, rf]
  rw [if_neg (by omega), hf]
  simp only [Nat.add_sub_cancel]
  rw [if_pos ⟨by omega, by omega, hc, hk⟩, if_pos trivial, hv hS, Int.toNat_natCast]
theorem Fr.putI {c idx ci k t : Nat} {v : Int} (hi : zi y pc = some (.putfield idx, 3)) (hf : zfd (yo y) idx = some (ci, k, t)) (ht : t = 0 ∨ t = 2 ∧ (v = 0 ∨ v = 1)) (hc : (zsh c).1 = ci) (hk : k < zf_n ci) (h9 : ci < 9) (hn : c < n) (hfin : (zf ci k).2.2.1 = false) (htk : (zf ci k).2.2.2 ≠ 1) (kk : Fr xs L T n d y (pc + 3) lv st (zup s c k v) Q) : Fr xs L T n d y pc lv (it v :: rf (c + 1) :: st) s Q := by
  intro hT hS
  have h1 := zsh_lt9 hc (by omega)
  refine Gr.step (pc2 := pc + 3) (st2 := st) hi rfl rfl ?_ (kk hT (hS.up hT (fun _ => zrefs_num hc h9 (by rw [Int.toNat_natCast]; exact htk))))
  unfold zstep
  have ha : zsA (yo y) (yi y) (.putfield idx) 3 (pc, lv, it v :: rf (c + 1) :: st, n, s) = none := rfl
  have hb : zsB (yo y) (yi y) (.putfield idx) 3 (pc, lv, it v :: rf (c + 1) :: st, n, s) = none := rfl
  have hcq : zsC (yo y) (yi y) (.putfield idx) 3 (pc, lv, it v :: rf (c + 1) :: st, n, s) = none := rfl
  have hdq : zsD xs L (yo y) (yi y) (.putfield idx) 3 (pc, lv, it v :: rf (c + 1) :: st, n, s) = none := rfl
  rw [ha, hb, hcq, hdq]
  simp only [zsE, rf, it]
  rw [hf]
  simp only [Nat.add_sub_cancel]
  rw [if_pos ⟨by omega, by omega, hc, hk, ht, Or.inl hfin⟩]
theorem Fr.putR {c w idx ci k : Nat} (hi : zi y pc = some (.putfield idx, 3)) (hf : zfd (yo y) idx = some (ci, k, 1)) (hc : (zsh c).1 = ci) (hk : k < zf_n ci) (h9 : ci < 9) (hn : c < n) (hfin : (zf ci k).2.2.1 = false) (hw : 1 ≤ w ∧ w ≤ n) (hns : ∀ e ∈ T, ¬ (e.1 = c ∧ e.2.1 = (k : Int))) (kk : Fr xs L T n d y (pc + 3) lv st (zup s c k w) Q) : Fr xs L T n d y pc lv (rf w :: rf (c + 1) :: st) s Q := by
  intro hT hS
  have h1 := zsh_lt9 hc (by omega)
  refine Gr.step (pc2 := pc + 3) (st2 := st) hi rfl rfl ?_ (kk hT (fun e he => by
    by_cases q : e.1 = c
    · by_cases q2 : e.2.1 = (k : Int)
      · exact absurd ⟨q, q2⟩ (hns e he)
      · rw [q, zup_other q2, ← q]; exact hS e he
    · rw [zup_ne q]; exact hS e he))
  unfold zstep
  have ha : zsA (yo y) (yi y) (.putfield idx) 3 (pc, lv, rf w :: rf (c + 1) :: st, n, s) = none := rfl
  have hb : zsB (yo y) (yi y) (.putfield idx) 3 (pc, lv, rf w :: rf (c + 1) :: st, n, s) = none := rfl
  have hcq : zsC (yo y) (yi y) (.putfield idx) 3 (pc, lv, rf w :: rf (c + 1) :: st, n, s) = none := rfl
  have hdq : zsD xs L (yo y) (yi y) (.putfield idx) 3 (pc, lv, rf w :: rf (c + 1) :: st, n, s) = none := rfl
  rw [ha, hb, hcq, hdq]
  simp only [zsE, rf]
  rw [hf]
  simp only [Nat.add_sub_cancel]
  rw [if_pos ⟨by omega, by omega, hc, hk, trivial, hw.1, hw.2, Or.inl hfin⟩]
theorem Fr.iald {c : Nat} {i : Int} {N : Nat} (hi : zi y pc = some (.iaload, 1)) (hc : zsh c = (20, N)) (hn : c < n) (h0 : 0 ≤ i) (h1 : i < (N : Int)) (kk : Fr xs L T n d y (pc + 1) lv (it (s c i) :: st) s Q) : Fr xs L T n d y pc lv (it i :: rf (c + 1) :: st) s Q := by
  have h9 : c < 1000 := zsh_lt9 (ci := 20) (by rw [hc]) (by decide)
  refine Fr.step (pc2 := pc + 1) (st2 := it (s c i) :: st) hi rfl rfl ?_ kk
  unfold zstep
  have ha : zsA (yo y) (yi y) .iaload 1 (pc, lv, it i :: rf (c + 1) :: st, n, s) = none := rfl
  have hb : zsB (yo y) (yi y) .iaload 1 (pc, lv, it i :: rf (c + 1) :: st, n, s) = none := rfl
  have hcq : zsC (yo y) (yi y) .iaload 1 (pc, lv, it i :: rf (c + 1) :: st, n, s) = none := rfl
  rw [ha, hb, hcq]
  simp only [zsD, rf, it]
  rw [if_neg (by omega)]
  simp only [Nat.add_sub_cancel]
  rw [hc, if_pos ⟨by omega, by omega, rfl, h0, h1⟩]
theorem Fr.bald {c : Nat} {i : Int} {N K : Nat} (hi : zi y pc = some (.baload, 1)) (hc : zsh c = (K, N)) (hK : K = 21 ∨ K = 22) (hn : c < n) (h0 : 0 ≤ i) (h1 : i < (N : Int)) (kk : Fr xs L T n d y (pc + 1) lv (it (s c i) :: st) s Q) : Fr xs L T n d y pc lv (it i :: rf (c + 1) :: st) s Q := by
  have h9 : c < 1000 := zsh_lt9 (ci := K) (by rw [hc]) (by omega)
  refine Fr.step (pc2 := pc + 1) (st2 := it (s c i) :: st) hi rfl rfl ?_ kk
  unfold zstep
  have ha : zsA (yo y) (yi y) .baload 1 (pc, lv, it i :: rf (c + 1) :: st, n, s) = none := rfl
  have hb : zsB (yo y) (yi y) .baload 1 (pc, lv, it i :: rf (c + 1) :: st, n, s) = none := rfl
  have hcq : zsC (yo y) (yi y) .baload 1 (pc, lv, it i :: rf (c + 1) :: st, n, s) = none := rfl
  rw [ha, hb, hcq]
  simp only [zsD, rf, it]
  rw [if_neg (by omega)]
  simp only [Nat.add_sub_cancel]
  rw [hc, if_pos ⟨by omega, by omega, hK, h0, h1⟩]
theorem Fr.aald {c c2 : Nat} {i : Int} {N K : Nat} (hi : zi y pc = some (.aaload, 1)) (hc : zsh c = (K, N)) (hK : K = 23 ∨ K = 24) (hn : c < n) (h0 : 0 ≤ i) (h1 : i < (N : Int)) (hv : Sh T s → s c i = (c2 : Int)) (kk : Fr xs L T n d y (pc + 1) lv (rf c2 :: st) s Q) : Fr xs L T n d y pc lv (it i :: rf (c + 1) :: st) s Q := by
  intro hT hS
  have h9 : c < 1000 := zsh_lt9 (ci := K) (by rw [hc]) (by omega)
  refine Gr.step (pc2 := pc + 1) (st2 := rf c2 :: st) hi rfl rfl ?_ (kk hT hS)
  unfold zstep
  have ha : zsA (yo y) (yi y) .aaload 1 (pc, lv, it i :: rf (c + 1) :: st, n, s) = none := rfl
  have hb : zsB (yo y) (yi y) .aaload 1 (pc, lv, it i :: rf (c + 1) :: st, n, s) = none := rfl
  have hcq : zsC (yo y) (yi y) .aaload 1 (pc, lv, it i :: rf (c + 1) :: st, n, s) = none := rfl
  rw [ha, hb, hcq]
  simp only [zsD, rf, it]
  simp only [Nat.add_sub_cancel]
  rw [hc, if_pos ⟨by omega, by omega, hK, h0, h1⟩, hv hS, Int.toNat_natCast]
theorem Fr.alen {c N K : Nat} (hi : zi y pc = some (.arraylength, 1)) (hc : zsh c = (K, N)) (hK : 20 ≤ K ∧ K ≤ 24) (hn : c < n) (kk : Fr xs L T n d y (pc + 1) lv (it (N : Int) :: st) s Q) : Fr xs L T n d y pc lv (rf (c + 1) :: st) s Q := by
  have h9 : c < 1000 := zsh_lt9 (ci := K) (by rw [hc]) (by omega)
  refine Fr.step (pc2 := pc + 1) (st2 := it (N : Int) :: st) hi rfl rfl ?_ kk
  unfold zstep
  have ha : zsA (yo y) (yi y) .arraylength 1 (pc, lv, rf (c + 1) :: st, n, s) = none := rfl
  have hb : zsB (yo y) (yi y) .arraylength 1 (pc, lv, rf (c + 1) :: st, n, s) = none := rfl
  have hcq : zsC (yo y) (yi y) .arraylength 1 (pc, lv, rf (c + 1) :: st, n, s) = none := rfl
  rw [ha, hb, hcq]
  simp only [zsD, rf, it]
  rw [if_neg (by omega)]
  simp only [Nat.add_sub_cancel]
  rw [hc, if_pos ⟨by omega, by omega, hK.1, hK.2⟩]
theorem Fr.iast {c : Nat} {i v : Int} {N : Nat} (hi : zi y pc = some (.iastore, 1)) (hc : zsh c = (20, N)) (hn : c < n) (h0 : 0 ≤ i) (h1 : i < (N : Int)) (kk : Fr xs L T n d y (pc + 1) lv st (zup s c i v) Q) : Fr xs L T n d y pc lv (it v :: it i :: rf (c + 1) :: st) s Q := by
  intro hT hS
  have h9 : c < 1000 := zsh_lt9 (ci := 20) (by rw [hc]) (by decide)
  refine Gr.step (pc2 := pc + 1) (st2 := st) hi rfl rfl ?_ (kk hT (hS.up hT (fun _ => zrefs_arr (ci := 20) (by rw [hc]) (by decide) (by decide))))
  unfold zstep
  have ha : zsA (yo y) (yi y) .iastore 1 (pc, lv, it v :: it i :: rf (c + 1) :: st, n, s) = none := rfl
  have hb : zsB (yo y) (yi y) .iastore 1 (pc, lv, it v :: it i :: rf (c + 1) :: st, n, s) = none := rfl
  have hcq : zsC (yo y) (yi y) .iastore 1 (pc, lv, it v :: it i :: rf (c + 1) :: st, n, s) = none := rfl
  have hdq : zsD xs L (yo y) (yi y) .iastore 1 (pc, lv, it v :: it i :: rf (c + 1) :: st, n, s) = none := rfl
  rw [ha, hb, hcq, hdq]
  simp only [zsE, rf, it]
  simp only [Nat.add_sub_cancel]
  rw [hc, if_pos ⟨by omega, by omega, rfl, h0, h1⟩]
theorem Fr.bast {c : Nat} {i v : Int} {N : Nat} (hi : zi y pc = some (.bastore, 1)) (hc : zsh c = (21, N)) (hn : c < n) (h0 : 0 ≤ i) (h1 : i < (N : Int)) (kk : Fr xs L T n d y (pc + 1) lv st (zup s c i (zb8 v)) Q) : Fr xs L T n d y pc lv (it v :: it i :: rf (c + 1) :: st) s Q := by
  intro hT hS
  have h9 : c < 1000 := zsh_lt9 (ci := 21) (by rw [hc]) (by decide)
  refine Gr.step (pc2 := pc + 1) (st2 := st) hi rfl rfl ?_ (kk hT (hS.up hT (fun _ => zrefs_arr (ci := 21) (by rw [hc]) (by decide) (by decide))))
  unfold zstep
  have ha : zsA (yo y) (yi y) .bastore 1 (pc, lv, it v :: it i :: rf (c + 1) :: st, n, s) = none := rfl
  have hb : zsB (yo y) (yi y) .bastore 1 (pc, lv, it v :: it i :: rf (c + 1) :: st, n, s) = none := rfl
  have hcq : zsC (yo y) (yi y) .bastore 1 (pc, lv, it v :: it i :: rf (c + 1) :: st, n, s) = none := rfl
  have hdq : zsD xs L (yo y) (yi y) .bastore 1 (pc, lv, it v :: it i :: rf (c + 1) :: st, n, s) = none := rfl
  rw [ha, hb, hcq, hdq]
  simp only [zsE, rf, it]
  simp only [Nat.add_sub_cancel]
  rw [hc, if_pos ⟨by omega, by omega, Or.inl rfl, h0, h1⟩, if_pos rfl]
theorem Fr.zast {c : Nat} {i v : Int} {N : Nat} (hi : zi y pc = some (.bastore, 1)) (hc : zsh c = (22, N)) (hn : c < n) (h0 : 0 ≤ i) (h1 : i < (N : Int)) (hv : v = 0 ∨ v = 1) (kk : Fr xs L T n d y (pc + 1) lv st (zup s c i v) Q) : Fr xs L T n d y pc lv (it v :: it i :: rf (c + 1) :: st) s Q := by
  intro hT hS
  have h9 : c < 1000 := zsh_lt9 (ci := 22) (by rw [hc]) (by decide)
  refine Gr.step (pc2 := pc + 1) (st2 := st) hi rfl rfl ?_ (kk hT (hS.up hT (fun _ => zrefs_arr (ci := 22) (by rw [hc]) (by decide) (by decide))))
  unfold zstep
  have ha : zsA (yo y) (yi y) .bastore 1 (pc, lv, it v :: it i :: rf (c + 1) :: st, n, s) = none := rfl
  have hb : zsB (yo y) (yi y) .bastore 1 (pc, lv, it v :: it i :: rf (c + 1) :: st, n, s) = none := rfl
  have hcq : zsC (yo y) (yi y) .bastore 1 (pc, lv, it v :: it i :: rf (c + 1) :: st, n, s) = none := rfl
  have hdq : zsD xs L (yo y) (yi y) .bastore 1 (pc, lv, it v :: it i :: rf (c + 1) :: st, n, s) = none := rfl
  rw [ha, hb, hcq, hdq]
  simp only [zsE, rf, it]
  simp only [Nat.add_sub_cancel]
  rw [hc, if_pos ⟨by omega, by omega, Or.inr ⟨rfl, hv⟩, h0, h1⟩, if_neg (fun w => absurd w (by decide : ¬ (22 : Nat) = 21))]
theorem Fr.giv {j : Nat} {i : Int} (hi : zi y pc = some (.iaload, 1)) (hj : j = 0 ∨ j = 1 ∨ j = 6) (h0 : 0 ≤ i) (h1 : i < ((zgiv xs L j).1 : Int)) (kk : Fr xs L T n d y (pc + 1) lv (it ((zgiv xs L j).2 i) :: st) s Q) : Fr xs L T n d y pc lv (it i :: rf (100000 + j) :: st) s Q := by
  refine Fr.step (pc2 := pc + 1) (st2 := it ((zgiv xs L j).2 i) :: st) hi rfl rfl ?_ kk
  unfold zstep
  have ha : zsA (yo y) (yi y) .iaload 1 (pc, lv, it i :: rf (100000 + j) :: st, n, s) = none := rfl
  have hb : zsB (yo y) (yi y) .iaload 1 (pc, lv, it i :: rf (100000 + j) :: st, n, s) = none := rfl
  have hcq : zsC (yo y) (yi y) .iaload 1 (pc, lv, it i :: rf (100000 + j) :: st, n, s) = none := rfl
  rw [ha, hb, hcq]
  simp only [zsD, rf, it]
  rw [if_pos (by omega), if_pos (by omega), show 100000 + j - 100000 = j from by omega, if_pos ⟨h0, h1⟩]
theorem Fr.glen {j : Nat} (hi : zi y pc = some (.arraylength, 1)) (hj : j = 0 ∨ j = 1 ∨ j = 4 ∨ j = 5 ∨ j = 6) (kk : Fr xs L T n d y (pc + 1) lv (it ((zgiv xs L j).1 : Int) :: st) s Q) : Fr xs L T n d y pc lv (rf (100000 + j) :: st) s Q := by
  refine Fr.step (pc2 := pc + 1) (st2 := it ((zgiv xs L j).1 : Int) :: st) hi rfl rfl ?_ kk
  unfold zstep
  have ha : zsA (yo y) (yi y) .arraylength 1 (pc, lv, rf (100000 + j) :: st, n, s) = none := rfl
  have hb : zsB (yo y) (yi y) .arraylength 1 (pc, lv, rf (100000 + j) :: st, n, s) = none := rfl
  have hcq : zsC (yo y) (yi y) .arraylength 1 (pc, lv, rf (100000 + j) :: st, n, s) = none := rfl
  rw [ha, hb, hcq]
  simp only [zsD, rf, it]
  rw [if_pos (by omega), if_pos (by omega), show 100000 + j - 100000 = j from by omega]
theorem Fr.copy {c1 c2 N1 N2 idx : Nat} {i j k : Int} (hi : zi y pc = some (.invokestatic idx, 3)) (hm : zml (yo y) idx = none) (hnl : znl (yo y) idx = none) (hac : zac (yo y) idx = true) (hc1 : zsh c1 = (20, N1)) (hc2 : zsh c2 = (20, N2)) (hn1 : c1 < n) (hn2 : c2 < n) (h0 : 0 ≤ i) (h1 : 0 ≤ j) (h2 : 0 ≤ k) (h3 : i + k ≤ (N1 : Int)) (h4 : j + k ≤ (N2 : Int)) (hst : (st.map zcat).sum ≤ 8) (kk : Fr xs L T n d y (pc + 3) lv st (zcopy s c1 i c2 j k) Q) : Fr xs L T n d y pc lv (it k :: it j :: rf (c2 + 1) :: it i :: rf (c1 + 1) :: st) s Q := by
  intro hT hS
  refine Gr.step (pc2 := pc + 3) (st2 := st) hi rfl (by simp only [zcal]; rw [hm]; exact hnl) ?_ (kk hT (fun e he => by
    by_cases q : e.1 = c2
    · have h9 := (hT e he).2
      rw [q, zrefs_arr (ci := 20) (by rw [hc2]) (by decide) (by decide)] at h9
      cases h9
    · unfold zcopy; rw [if_neg q]; exact hS e he))
  unfold zstep
  have ha : zsA (yo y) (yi y) (.invokestatic idx) 3 (pc, lv, it k :: it j :: rf (c2 + 1) :: it i :: rf (c1 + 1) :: st, n, s) = none := rfl
  have hb : zsB (yo y) (yi y) (.invokestatic idx) 3 (pc, lv, it k :: it j :: rf (c2 + 1) :: it i :: rf (c1 + 1) :: st, n, s) = none := rfl
  have hcq : zsC (yo y) (yi y) (.invokestatic idx) 3 (pc, lv, it k :: it j :: rf (c2 + 1) :: it i :: rf (c1 + 1) :: st, n, s) = none := rfl
  have hdq : zsD xs L (yo y) (yi y) (.invokestatic idx) 3 (pc, lv, it k :: it j :: rf (c2 + 1) :: it i :: rf (c1 + 1) :: st, n, s) = none := rfl
  rw [ha, hb, hcq, hdq]
  simp only [zsE, rf, it]
  simp only [Nat.add_sub_cancel]
  rw [hc1, hc2, if_pos ⟨hac, by omega, by omega, by omega, by omega, rfl, rfl, h0, h1, h2, h3, h4, hst⟩]
/-- calls, by what comes back -/
theorem Fr.callQ {y2 na z : Nat} {as rest : List AV} {Q2 : Option AV → Pl → Prop} {i : Instr} (hi : zi y pc = some (i, z)) (hr : zret (yr y) i st = none) (hc : zcal (yo y) i = some y2) (hna : (zm y2).2.2.2.2.2.2.1 = na) (hst : st = as.reverse ++ rest) (hl : as.length = na) (hok : zcallok i y2 n as rest = true) (hcall : Ev xs L T n d y2 as s Q2)
    (k : ∀ r s2, Q2 r s2 → Fr xs L T n d y (pc + z) lv (r.toList ++ rest) s2 Q) : Fr xs L T n d y pc lv st s Q := fun h1 h2 => Gr.call hi hr hc hna hst hl hok (hcall h1 h2) (fun r n2 s2 ⟨e1, e2, e3⟩ => by subst e1; exact k r s2 e3 h1 e2)
theorem Fr.callI {y2 na z : Nat} {as rest : List AV} {P : Int → Pl → Prop} {i : Instr} (hi : zi y pc = some (i, z)) (hr : zret (yr y) i st = none) (hc : zcal (yo y) i = some y2) (hna : (zm y2).2.2.2.2.2.2.1 = na) (hst : st = as.reverse ++ rest) (hl : as.length = na) (hok : zcallok i y2 n as rest = true) (hcall : Ev xs L T n d y2 as s (qi P))
    (k : ∀ v s2, P v s2 → Fr xs L T n d y (pc + z) lv (it v :: rest) s2 Q) : Fr xs L T n d y pc lv st s Q := Fr.callQ hi hr hc hna hst hl hok hcall (fun _ _ ⟨_, e1, e2⟩ => by subst e1; exact k _ _ e2)
theorem Fr.callL {y2 na z : Nat} {as rest : List AV} {P : Int → Pl → Prop} {i : Instr} (hi : zi y pc = some (i, z)) (hr : zret (yr y) i st = none) (hc : zcal (yo y) i = some y2) (hna : (zm y2).2.2.2.2.2.2.1 = na) (hst : st = as.reverse ++ rest) (hl : as.length = na) (hok : zcallok i y2 n as rest = true) (hcall : Ev xs L T n d y2 as s (ql P))
    (k : ∀ v s2, P v s2 → Fr xs L T n d y (pc + z) lv (lg v :: rest) s2 Q) : Fr xs L T n d y pc lv st s Q := Fr.callQ hi hr hc hna hst hl hok hcall (fun _ _ ⟨_, e1, e2⟩ => by subst e1; exact k _ _ e2)
theorem Fr.callR {y2 na z : Nat} {as rest : List AV} {P : Nat → Pl → Prop} {i : Instr} (hi : zi y pc = some (i, z)) (hr : zret (yr y) i st = none) (hc : zcal (yo y) i = some y2) (hna : (zm y2).2.2.2.2.2.2.1 = na) (hst : st = as.reverse ++ rest) (hl : as.length = na) (hok : zcallok i y2 n as rest = true) (hcall : Ev xs L T n d y2 as s (qr P))
    (k : ∀ v s2, P v s2 → Fr xs L T n d y (pc + z) lv (rf v :: rest) s2 Q) : Fr xs L T n d y pc lv st s Q := Fr.callQ hi hr hc hna hst hl hok hcall (fun _ _ ⟨_, e1, e2⟩ => by subst e1; exact k _ _ e2)
theorem Fr.callV {y2 na z : Nat} {as rest : List AV} {P : Pl → Prop} {i : Instr} (hi : zi y pc = some (i, z)) (hr : zret (yr y) i st = none) (hc : zcal (yo y) i = some y2) (hna : (zm y2).2.2.2.2.2.2.1 = na) (hst : st = as.reverse ++ rest) (hl : as.length = na) (hok : zcallok i y2 n as rest = true) (hcall : Ev xs L T n d y2 as s (qv P))
    (k : ∀ s2, P s2 → Fr xs L T n d y (pc + z) lv rest s2 Q) : Fr xs L T n d y pc lv st s Q := Fr.callQ hi hr hc hna hst hl hok hcall (fun _ _ ⟨e1, e2⟩ => by subst e1; exact k _ e2)
/-- returns -/
theorem Fr.retI {v : Int} {P : Int → Pl → Prop} (hi : zi y pc = some (.ireturn, 1)) (hy : yr y = 1) (k : P v s) : Fr xs L T n d y pc lv [it v] s (qi P) := fun _ h2 => Gr.ret (r := some (it v)) hi (by rw [hy]; rfl) ⟨rfl, h2, v, rfl, k⟩
theorem Fr.retZ {v : Int} {P : Int → Pl → Prop} (hi : zi y pc = some (.ireturn, 1)) (hy : yr y = 2) (hv : v = 0 ∨ v = 1) (k : P v s) : Fr xs L T n d y pc lv [it v] s (qi P) := fun _ h2 => Gr.ret (r := some (it v)) hi (by rw [hy]; show (if _ then _ else _) = _; rw [if_pos (Or.inr (Or.inl ⟨rfl, hv⟩))]; rfl) ⟨rfl, h2, v, rfl, k⟩
theorem Fr.retC {v : Int} {P : Int → Pl → Prop} (hi : zi y pc = some (.ireturn, 1)) (hy : yr y = 3) (hv : 0 ≤ v ∧ v < 65536) (k : P v s) : Fr xs L T n d y pc lv [it v] s (qi P) := fun _ h2 => Gr.ret (r := some (it v)) hi (by rw [hy]; show (if _ then _ else _) = _; rw [if_pos (Or.inr (Or.inr (Or.inl ⟨rfl, hv.1, hv.2⟩)))]; rfl) ⟨rfl, h2, v, rfl, k⟩
theorem Fr.retB {v : Int} {P : Int → Pl → Prop} (hi : zi y pc = some (.ireturn, 1)) (hy : yr y = 4) (hv : -128 ≤ v ∧ v < 128) (k : P v s) : Fr xs L T n d y pc lv [it v] s (qi P) := fun _ h2 => Gr.ret (r := some (it v)) hi (by rw [hy]; show (if _ then _ else _) = _; rw [if_pos (Or.inr (Or.inr (Or.inr ⟨rfl, hv.1, hv.2⟩)))]; rfl) ⟨rfl, h2, v, rfl, k⟩
theorem Fr.retL {v : Int} {P : Int → Pl → Prop} (hi : zi y pc = some (.lreturn, 1)) (hy : yr y = 5) (k : P v s) : Fr xs L T n d y pc lv [lg v] s (ql P) := fun _ h2 => Gr.ret (r := some (lg v)) hi (by rw [hy]; rfl) ⟨rfl, h2, v, rfl, k⟩
theorem Fr.retR {c : Nat} {P : Nat → Pl → Prop} (hi : zi y pc = some (.areturn, 1)) (hy : yr y = 6) (hc : c < 100000) (k : P c s) : Fr xs L T n d y pc lv [rf c] s (qr P) := fun _ h2 => Gr.ret (r := some (rf c)) hi (by rw [hy]; show (if _ then _ else _) = _; rw [if_pos ⟨rfl, hc⟩]; rfl) ⟨rfl, h2, c, rfl, k⟩
theorem Fr.retV {P : Pl → Prop} (hi : zi y pc = some (.return_, 1)) (hy : yr y = 0) (k : P s) : Fr xs L T n d y pc lv [] s (qv P) := fun _ h2 => Gr.ret (r := none) hi (by rw [hy]; rfl) ⟨rfl, h2, rfl, k⟩
end
section
/-! rules, an instruction each -/
variable {xs : Nat → Int} {L : Nat} {T : List (Nat × Int × Int)} {n d y pc : Nat} {lv lv2 : LVs} {st : List AV} {s : Pl} {Q : Option AV → Pl → Prop}
theorem Fr.iconst {v : Int} (hi : zi y pc = some (.iconst v, 1)) (h : -1 ≤ v ∧ v ≤ 5) (k : Fr xs L T n d y (pc + 1) lv (it v :: st) s Q) : Fr xs L T n d y pc lv (st) s Q := Fr.sA hi rfl rfl (by simp only [zsA, it]; rw [if_pos h]) k
theorem Fr.bipush {v : Int} (hi : zi y pc = some (.bipush v, 2)) (h : -128 ≤ v ∧ v < 128) (k : Fr xs L T n d y (pc + 2) lv (it v :: st) s Q) : Fr xs L T n d y pc lv (st) s Q := Fr.sA hi rfl rfl (by simp only [zsA, it]; rw [if_pos h]) k
theorem Fr.sipush {v : Int} (hi : zi y pc = some (.sipush v, 3)) (h : -32768 ≤ v ∧ v < 32768) (k : Fr xs L T n d y (pc + 3) lv (it v :: st) s Q) : Fr xs L T n d y pc lv (st) s Q := Fr.sA hi rfl rfl (by simp only [zsA, it]; rw [if_pos h]) k
theorem Fr.lconst {v : Fin 2} (hi : zi y pc = some (.lconst v, 1)) (k : Fr xs L T n d y (pc + 1) lv (lg ((v : Nat) : Int) :: st) s Q) : Fr xs L T n d y pc lv (st) s Q := Fr.sA hi rfl rfl (by rfl) k
theorem Fr.ildn {k : Fin 4} {v : Int} (hi : zi y pc = some (.iload_n k, 1)) (h : zld lv k = some (it v)) (k : Fr xs L T n d y (pc + 1) lv (it v :: st) s Q) : Fr xs L T n d y pc lv (st) s Q := Fr.sA hi rfl rfl (by simp only [zsA]; rw [h]; rfl) k
theorem Fr.ild {k : Nat} {v : Int} (hi : zi y pc = some (.iload k, 2)) (h : zld lv k = some (it v)) (k : Fr xs L T n d y (pc + 2) lv (it v :: st) s Q) : Fr xs L T n d y pc lv (st) s Q := Fr.sA hi rfl rfl (by simp only [zsA]; rw [h]; rfl) k
theorem Fr.lldn {k : Fin 4} {v : Int} (hi : zi y pc = some (.lload_n k, 1)) (h : zld lv k = some (lg v)) (k : Fr xs L T n d y (pc + 1) lv (lg v :: st) s Q) : Fr xs L T n d y pc lv (st) s Q := Fr.sA hi rfl rfl (by simp only [zsA]; rw [h]; rfl) k
theorem Fr.lld {k : Nat} {v : Int} (hi : zi y pc = some (.lload k, 2)) (h : zld lv k = some (lg v)) (k : Fr xs L T n d y (pc + 2) lv (lg v :: st) s Q) : Fr xs L T n d y pc lv (st) s Q := Fr.sA hi rfl rfl (by simp only [zsA]; rw [h]; rfl) k
theorem Fr.aldn {k : Fin 4} {c : Nat} (hi : zi y pc = some (.aload_n k, 1)) (h : zld lv k = some (rf c)) (hc : 1 ≤ c ∧ c ≤ 100006) (k : Fr xs L T n d y (pc + 1) lv (rf c :: st) s Q) : Fr xs L T n d y pc lv (st) s Q := Fr.sA hi rfl rfl (by simp only [zsA]; rw [h]; simp only [rf]; rw [if_pos hc]) k
theorem Fr.ald {k : Nat} {c : Nat} (hi : zi y pc = some (.aload k, 2)) (h : zld lv k = some (rf c)) (hc : 1 ≤ c ∧ c ≤ 100006) (k : Fr xs L T n d y (pc + 2) lv (rf c :: st) s Q) : Fr xs L T n d y pc lv (st) s Q := Fr.sA hi rfl rfl (by simp only [zsA]; rw [h]; simp only [rf]; rw [if_pos hc]) k
theorem Fr.istn {k : Fin 4} {v : Int} (hi : zi y pc = some (.istore_n k, 1)) (hk : (k : Nat) < lv.length) (h : zst1 lv k (it v) = lv2) (k : Fr xs L T n d y (pc + 1) lv2 (st) s Q) : Fr xs L T n d y pc lv (it v :: st) s Q := Fr.sA hi rfl rfl (by subst h; simp only [zsA, it]; rw [if_pos hk]) k
theorem Fr.ist {k : Nat} {v : Int} (hi : zi y pc = some (.istore k, 2)) (hk : (k : Nat) < lv.length) (h : zst1 lv k (it v) = lv2) (k : Fr xs L T n d y (pc + 2) lv2 (st) s Q) : Fr xs L T n d y pc lv (it v :: st) s Q := Fr.sA hi rfl rfl (by subst h; simp only [zsA, it]; rw [if_pos hk]) k
theorem Fr.astn {k : Fin 4} {c : Nat} (hi : zi y pc = some (.astore_n k, 1)) (hk : (k : Nat) < lv.length) (hc : 1 ≤ c ∧ c ≤ 100006) (h : zst1 lv k (rf c) = lv2) (k : Fr xs L T n d y (pc + 1) lv2 (st) s Q) : Fr xs L T n d y pc lv (rf c :: st) s Q := Fr.sA hi rfl rfl (by subst h; simp only [zsA, rf]; rw [if_pos ⟨hk, hc⟩]) k
theorem Fr.ast {k : Nat} {c : Nat} (hi : zi y pc = some (.astore k, 2)) (hk : (k : Nat) < lv.length) (hc : 1 ≤ c ∧ c ≤ 100006) (h : zst1 lv k (rf c) = lv2) (k : Fr xs L T n d y (pc + 2) lv2 (st) s Q) : Fr xs L T n d y pc lv (rf c :: st) s Q := Fr.sA hi rfl rfl (by subst h; simp only [zsA, rf]; rw [if_pos ⟨hk, hc⟩]) k
theorem Fr.lstn {k : Fin 4} {v : Int} (hi : zi y pc = some (.lstore_n k, 1)) (hk : (k : Nat) + 1 < lv.length) (h : zst2 lv k (lg v) = lv2) (k : Fr xs L T n d y (pc + 1) lv2 (st) s Q) : Fr xs L T n d y pc lv (lg v :: st) s Q := Fr.sA hi rfl rfl (by subst h; simp only [zsA, lg]; rw [if_pos hk]) k
theorem Fr.lst {k : Nat} {v : Int} (hi : zi y pc = some (.lstore k, 2)) (hk : (k : Nat) + 1 < lv.length) (h : zst2 lv k (lg v) = lv2) (k : Fr xs L T n d y (pc + 2) lv2 (st) s Q) : Fr xs L T n d y pc lv (lg v :: st) s Q := Fr.sA hi rfl rfl (by subst h; simp only [zsA, lg]; rw [if_pos hk]) k
theorem Fr.iinc {k : Nat} {v c : Int} (hi : zi y pc = some (.iinc k c, 3)) (hk : k < lv.length) (hv : zld lv k = some (it v)) (h : zst1 lv k (it (zw (v + c))) = lv2) (k : Fr xs L T n d y (pc + 3) lv2 (st) s Q) : Fr xs L T n d y pc lv (st) s Q := Fr.sA hi rfl rfl (by subst h; simp only [zsA]; rw [if_pos hk, hv]; rfl) k
theorem Fr.dup {v : AV} (hi : zi y pc = some (.dup, 1)) (h : zcat v = 1) (k : Fr xs L T n d y (pc + 1) lv (v :: v :: st) s Q) : Fr xs L T n d y pc lv (v :: st) s Q := Fr.sA hi rfl rfl (by simp only [zsA]; rw [if_pos h]) k
theorem Fr.dup2 {v w : AV} (hi : zi y pc = some (.dup2, 1)) (h : zcat v = 1 ∧ zcat w = 1) (k : Fr xs L T n d y (pc + 1) lv (v :: w :: v :: w :: st) s Q) : Fr xs L T n d y pc lv (v :: w :: st) s Q := Fr.sA hi rfl rfl (by simp only [zsA]; rw [if_pos h]) k
theorem Fr.pop {v : AV} (hi : zi y pc = some (.pop, 1)) (h : zcat v = 1) (k : Fr xs L T n d y (pc + 1) lv (st) s Q) : Fr xs L T n d y pc lv (v :: st) s Q := Fr.sA hi rfl rfl (by simp only [zsA]; rw [if_pos h]) k
theorem Fr.iadd {a b : Int} (hi : zi y pc = some (.iadd, 1)) (k : Fr xs L T n d y (pc + 1) lv (it (zw (a + b)) :: st) s Q) : Fr xs L T n d y pc lv (it b :: it a :: st) s Q := Fr.sB hi rfl rfl rfl (by rfl) k
theorem Fr.isub {a b : Int} (hi : zi y pc = some (.isub, 1)) (k : Fr xs L T n d y (pc + 1) lv (it (zw (a - b)) :: st) s Q) : Fr xs L T n d y pc lv (it b :: it a :: st) s Q := Fr.sB hi rfl rfl rfl (by rfl) k
theorem Fr.imul {a b : Int} (hi : zi y pc = some (.imul, 1)) (k : Fr xs L T n d y (pc + 1) lv (it (zw (a * b)) :: st) s Q) : Fr xs L T n d y pc lv (it b :: it a :: st) s Q := Fr.sB hi rfl rfl rfl (by rfl) k
theorem Fr.ishl {a b : Int} (hi : zi y pc = some (.ishl, 1)) (k : Fr xs L T n d y (pc + 1) lv (it (zshl a b) :: st) s Q) : Fr xs L T n d y pc lv (it b :: it a :: st) s Q := Fr.sB hi rfl rfl rfl (by rfl) k
theorem Fr.ishr {a b : Int} (hi : zi y pc = some (.ishr, 1)) (k : Fr xs L T n d y (pc + 1) lv (it (zshr a b) :: st) s Q) : Fr xs L T n d y pc lv (it b :: it a :: st) s Q := Fr.sB hi rfl rfl rfl (by rfl) k
theorem Fr.iushr {a b : Int} (hi : zi y pc = some (.iushr, 1)) (k : Fr xs L T n d y (pc + 1) lv (it (zushr a b) :: st) s Q) : Fr xs L T n d y pc lv (it b :: it a :: st) s Q := Fr.sB hi rfl rfl rfl (by rfl) k
theorem Fr.iand {a b : Int} (hi : zi y pc = some (.iand, 1)) (k : Fr xs L T n d y (pc + 1) lv (it (zand a b) :: st) s Q) : Fr xs L T n d y pc lv (it b :: it a :: st) s Q := Fr.sB hi rfl rfl rfl (by rfl) k
theorem Fr.ior {a b : Int} (hi : zi y pc = some (.ior, 1)) (k : Fr xs L T n d y (pc + 1) lv (it (zor a b) :: st) s Q) : Fr xs L T n d y pc lv (it b :: it a :: st) s Q := Fr.sB hi rfl rfl rfl (by rfl) k
theorem Fr.ixor {a b : Int} (hi : zi y pc = some (.ixor, 1)) (k : Fr xs L T n d y (pc + 1) lv (it (zxor a b) :: st) s Q) : Fr xs L T n d y pc lv (it b :: it a :: st) s Q := Fr.sB hi rfl rfl rfl (by rfl) k
theorem Fr.idiv {a b : Int} (hi : zi y pc = some (.idiv, 1)) (h : ¬ b = 0) (k : Fr xs L T n d y (pc + 1) lv (it (zdiv a b) :: st) s Q) : Fr xs L T n d y pc lv (it b :: it a :: st) s Q := Fr.sB hi rfl rfl rfl (by simp only [zsB, it]; rw [if_neg h]) k
theorem Fr.irem {a b : Int} (hi : zi y pc = some (.irem, 1)) (h : ¬ b = 0) (k : Fr xs L T n d y (pc + 1) lv (it (zrem a b) :: st) s Q) : Fr xs L T n d y pc lv (it b :: it a :: st) s Q := Fr.sB hi rfl rfl rfl (by simp only [zsB, it]; rw [if_neg h]) k
theorem Fr.ineg {a : Int} (hi : zi y pc = some (.ineg, 1)) (k : Fr xs L T n d y (pc + 1) lv (it (zw (-a)) :: st) s Q) : Fr xs L T n d y pc lv (it a :: st) s Q := Fr.sB hi rfl rfl rfl (by rfl) k
theorem Fr.i2b {a : Int} (hi : zi y pc = some (.i2b, 1)) (k : Fr xs L T n d y (pc + 1) lv (it (zb8 a) :: st) s Q) : Fr xs L T n d y pc lv (it a :: st) s Q := Fr.sB hi rfl rfl rfl (by rfl) k
theorem Fr.i2s {a : Int} (hi : zi y pc = some (.i2s, 1)) (k : Fr xs L T n d y (pc + 1) lv (it (zs16 a) :: st) s Q) : Fr xs L T n d y pc lv (it a :: st) s Q := Fr.sB hi rfl rfl rfl (by rfl) k
theorem Fr.i2c {a : Int} (hi : zi y pc = some (.i2c, 1)) (k : Fr xs L T n d y (pc + 1) lv (it (zc16 a) :: st) s Q) : Fr xs L T n d y pc lv (it a :: st) s Q := Fr.sB hi rfl rfl rfl (by rfl) k
theorem Fr.i2l {a : Int} (hi : zi y pc = some (.i2l, 1)) (k : Fr xs L T n d y (pc + 1) lv (lg a :: st) s Q) : Fr xs L T n d y pc lv (it a :: st) s Q := Fr.sB hi rfl rfl rfl (by rfl) k
theorem Fr.l2i {a : Int} (hi : zi y pc = some (.l2i, 1)) (k : Fr xs L T n d y (pc + 1) lv (it (zw a) :: st) s Q) : Fr xs L T n d y pc lv (lg a :: st) s Q := Fr.sB hi rfl rfl rfl (by rfl) k
theorem Fr.ladd {a b : Int} (hi : zi y pc = some (.ladd, 1)) (k : Fr xs L T n d y (pc + 1) lv (lg (zl (a + b)) :: st) s Q) : Fr xs L T n d y pc lv (lg b :: lg a :: st) s Q := Fr.sB hi rfl rfl rfl (by rfl) k
theorem Fr.lmul {a b : Int} (hi : zi y pc = some (.lmul, 1)) (k : Fr xs L T n d y (pc + 1) lv (lg (zl (a * b)) :: st) s Q) : Fr xs L T n d y pc lv (lg b :: lg a :: st) s Q := Fr.sB hi rfl rfl rfl (by rfl) k
theorem Fr.lrem {a b : Int} (hi : zi y pc = some (.lrem, 1)) (h : ¬ b = 0) (k : Fr xs L T n d y (pc + 1) lv (lg (zlrem a b) :: st) s Q) : Fr xs L T n d y pc lv (lg b :: lg a :: st) s Q := Fr.sB hi rfl rfl rfl (by simp only [zsB, lg]; rw [if_neg h]) k
theorem Fr.lcmp {a b : Int} (hi : zi y pc = some (.lcmp, 1)) (k : Fr xs L T n d y (pc + 1) lv (it (zlcmp a b) :: st) s Q) : Fr xs L T n d y pc lv (lg b :: lg a :: st) s Q := Fr.sB hi rfl rfl rfl (by rfl) k
theorem Fr.ldc {idx : Nat} {v : AV} (hi : zi y pc = some (.ldc idx, 2)) (h : zldc (yo y) idx = some v) (k : Fr xs L T n d y (pc + 2) lv (v :: st) s Q) : Fr xs L T n d y pc lv st s Q := Fr.sC hi rfl rfl rfl rfl (by simp only [zsC]; rw [h]) k
theorem Fr.ldcw {idx : Nat} {v : Int} (hi : zi y pc = some (.ldc_w idx, 3)) (h : zldc (yo y) idx = some (it v)) (k : Fr xs L T n d y (pc + 3) lv (it v :: st) s Q) : Fr xs L T n d y pc lv st s Q := Fr.sC hi rfl rfl rfl rfl (by simp only [zsC]; rw [h]; rfl) k
theorem Fr.ldc2 {idx : Nat} {v : AV} (hi : zi y pc = some (.ldc2_w idx, 3)) (h : zldc2 (yo y) idx = some v) (k : Fr xs L T n d y (pc + 3) lv (v :: st) s Q) : Fr xs L T n d y pc lv st s Q := Fr.sC hi rfl rfl rfl rfl (by simp only [zsC]; rw [h]) k
theorem Fr.gets {idx : Nat} {v : AV} (hi : zi y pc = some (.getstatic idx, 3)) (h : zgs (yo y) idx = some v) (k : Fr xs L T n d y (pc + 3) lv (v :: st) s Q) : Fr xs L T n d y pc lv st s Q := Fr.sC hi rfl rfl rfl rfl (by simp only [zsC]; rw [h]) k
theorem Fr.tsw {z q : Nat} {df lo hi2 x off : Int} {offs : Array Int} (hi : zi y pc = some (.tableswitch df lo hi2 offs, z)) (hx : ¬ (x < lo ∨ hi2 < x)) (ho : offs[(x - lo).toNat]? = some off) (hq : zbr pc off = some q) (k : Fr xs L T n d y q lv st s Q) : Fr xs L T n d y pc lv (it x :: st) s Q :=
  Fr.sC hi rfl rfl rfl rfl (by simp only [zsC, it]; rw [if_neg hx, ho]; dsimp only; rw [hq]) k
theorem Fr.tsd {z q : Nat} {df lo hi2 x : Int} {offs : Array Int} (hi : zi y pc = some (.tableswitch df lo hi2 offs, z)) (hx : x < lo ∨ hi2 < x) (hq : zbr pc df = some q) (k : Fr xs L T n d y q lv st s Q) : Fr xs L T n d y pc lv (it x :: st) s Q :=
  Fr.sC hi rfl rfl rfl rfl (by simp only [zsC, it]; rw [if_pos hx, hq]) k
theorem Fr.lsw {z q : Nat} {df x off : Int} {ps : Array (Int × Int)} (hi : zi y pc = some (.lookupswitch df ps, z)) (hs : (ps.toList.zip (ps.toList.drop 1)).all (fun (a, next) => a.1 < next.1) = true) (ho : Op.lookupswitch.offset ps.toList df x = off) (hq : zbr pc off = some q) (k : Fr xs L T n d y q lv st s Q) : Fr xs L T n d y pc lv (it x :: st) s Q :=
  Fr.sC hi rfl rfl rfl rfl (by simp only [zsC, it]; rw [if_pos hs, ho, hq]) k
/-- calls are fit to be made -/
theorem zok_V {i : Instr} {y2 : Nat} {as rest : List AV} (hm : zmode i = 0) (hy : y2 < 240) (hk : (zm y2).2.2.2.2.2.2.2 = false) (hn : (zm y2).1.name ≠ "<init>") (hr : zrecv y2 n as = true) (hc : (as.all fun v => decide (zcat v = 1)) = true) (hs : (rest.map zcat).sum ≤ 8) : zcallok i y2 n as rest = true := by
  unfold zcallok
  rw [hm, hc, hk, hr, decide_eq_true hs, decide_eq_true hy, decide_eq_true hn]
  rfl
theorem zok_S {i : Instr} {y2 : Nat} {as rest : List AV} (hm : zmode i = 1) (hy : y2 < 240) (hk : (zm y2).2.2.2.2.2.2.2 = true) (hc : (as.all fun v => decide (zcat v = 1)) = true) (hs : (rest.map zcat).sum ≤ 8) : zcallok i y2 n as rest = true := by
  unfold zcallok
  rw [hm, hc, hk, decide_eq_true hs, decide_eq_true hy]
  rfl
theorem zok_I {i : Instr} {y2 : Nat} {as rest : List AV} (hm : zmode i = 2) (hy : y2 < 240) (hn : (zm y2).1.name = "<init>") (hv : (zm y2).2.2.2.2.2.1 = 0) (hr : zrecv y2 n as = true) (hc : (as.all fun v => decide (zcat v = 1)) = true) (hs : (rest.map zcat).sum ≤ 8) : zcallok i y2 n as rest = true := by
  unfold zcallok
  rw [hm, hc, hr, decide_eq_true hs, decide_eq_true hy, decide_eq_true hn, decide_eq_true hv]
  rfl
theorem zrecv_c {y2 c : Nat} {as : List AV} (hc : c < n) (ho : (zsh c).1 = (zm y2).2.2.2.2.1) : zrecv y2 n (rf (c + 1) :: as) = true := by
  simp only [zrecv, rf, Nat.add_sub_cancel, Bool.or_eq_true, Bool.and_eq_true, decide_eq_true_eq]
  exact Or.inl ⟨⟨by omega, by omega⟩, ho⟩
theorem zrecv_s {y2 c : Nat} {as : List AV} (hc : c = 100002 ∨ c = 100003) (ho : (zm y2).2.2.2.2.1 = 9) : zrecv y2 n (rf c :: as) = true := by
  simp only [zrecv, rf, Bool.or_eq_true, Bool.and_eq_true, decide_eq_true_eq]
  exact Or.inr ⟨hc, ho⟩
end
section
/-! the references that never change: cell, place, code. Written by wip/whole/gen (layout.py) -/
def T0 : List (Nat × Int × Int) := [(0, 0, 2), (0, 1, 11), (0, 3, 20), (0, 5, 54), (0, 6, 56), (0, 7, 63), (0, 8, 67), (0, 10, 21), (1, 3, 3), (1, 4, 4), (1, 5, 5), (1, 6, 6), (1, 7, 7), (1, 8, 8), (1, 9, 9), (1, 10, 10), (10, 3, 12), (10, 4, 13), (10, 5, 14), (10, 6, 15), (10, 7, 16), (10, 8, 17), (10, 9, 18), (10, 10, 19), (21, 0, 23), (21, 1, 24), (21, 2, 25), (25, 0, 27), (25, 1, 28), (25, 2, 29), (29, 0, 31), (29, 1, 32), (29, 2, 33), (33, 0, 35), (33, 1, 36), (33, 2, 37), (37, 0, 39), (37, 1, 40), (37, 2, 41), (41, 0, 43), (41, 1, 44), (41, 2, 45), (45, 2, 47), (47, 2, 49), (49, 2, 51), (51, 2, 53), (53, 0, 55), (55, 0, 2), (55, 2, 57), (55, 3, 58), (55, 4, 59), (55, 5, 60), (55, 16, 61), (55, 17, 62), (62, 0, 56), (62, 1, 64), (62, 2, 65), (62, 3, 66), (66, 0, 56), (66, 1, 68), (66, 2, 69), (66, 3, 70), (70, 1, 72), (70, 4, 73), (70, 5, 74), (70, 6, 75), (70, 7, 76), (70, 8, 77), (70, 9, 78), (70, 10, 79), (70, 11, 80), (70, 15, 81), (70, 16, 82), (70, 17, 83), (70, 25, 84), (70, 26, 85), (70, 27, 86), (70, 28, 87), (70, 30, 88), (70, 31, 89), (70, 32, 90), (70, 33, 91), (70, 38, 92), (70, 39, 93), (70, 40, 94), (70, 41, 95), (70, 42, 96), (70, 43, 97), (70, 49, 98), (70, 50, 99), (70, 51, 100), (70, 52, 101), (70, 53, 102), (70, 54, 103), (70, 55, 104), (19, 0, 22), (19, 1, 26), (19, 2, 30), (19, 3, 34), (19, 4, 38), (19, 5, 42), (20, 0, 46), (20, 1, 48), (20, 2, 50), (20, 3, 52)]
def TR : List (Nat × Int × Int) := [(21, 0, 23), (21, 1, 24), (21, 2, 25), (25, 0, 27), (25, 1, 28), (25, 2, 29), (29, 0, 31), (29, 1, 32), (29, 2, 33), (33, 0, 35), (33, 1, 36), (33, 2, 37), (37, 0, 39), (37, 1, 40), (37, 2, 41), (41, 0, 43), (41, 1, 44), (41, 2, 45), (53, 0, 55), (19, 0, 22), (19, 1, 26), (19, 2, 30), (19, 3, 34), (19, 4, 38), (19, 5, 42)]
/-- enough for the reader and the laws -/
def KR (T : List (Nat × Int × Int)) (n : Nat) : Prop := 55 ≤ n ∧ (∀ e ∈ TR, e ∈ T) ∧ ∀ e ∈ T, e ∈ T0
theorem T0_ok : Tok T0 := by
  unfold Tok
  decide +kernel
theorem KR0 : KR T0 104 := ⟨by decide, by decide +kernel, fun _ h => h⟩
theorem zlaw_sh : ∀ t, t < 6 → zsh (21 + 4 * t) = (1, 4) ∧ zsh (22 + 4 * t) = (20, 160) ∧ zsh (23 + 4 * t) = (20, 3) ∧ zsh (24 + 4 * t) = (20, 40) := by decide +kernel
theorem zlaw_T0 : ∀ t : Nat, t < 6 → ((21 + 4 * t, 0, ((22 + 4 * t + 1 : Nat) : Int)) : Nat × Int × Int) ∈ TR := by decide +kernel
theorem zlaw_T1 : ∀ t : Nat, t < 6 → ((21 + 4 * t, 1, ((23 + 4 * t + 1 : Nat) : Int)) : Nat × Int × Int) ∈ TR := by decide +kernel
theorem zlaw_T2 : ∀ t : Nat, t < 6 → ((21 + 4 * t, 2, ((24 + 4 * t + 1 : Nat) : Int)) : Nat × Int × Int) ∈ TR := by decide +kernel
theorem zlaw_T3 : ∀ t : Nat, t < 6 → ((19, (t : Int), ((21 + 4 * t + 1 : Nat) : Int)) : Nat × Int × Int) ∈ TR := by decide +kernel
theorem zsheet_sh : ∀ t, t < 4 → zsh (45 + 2 * t) = (5, 3) ∧ zsh (46 + 2 * t) = (20, 40) := by decide +kernel
theorem zsheet_T : ∀ t : Nat, t < 4 → ((45 + 2 * t, 2, ((46 + 2 * t + 1 : Nat) : Int)) : Nat × Int × Int) ∈ T0 ∧ ((20, (t : Int), ((45 + 2 * t + 1 : Nat) : Int)) : Nat × Int × Int) ∈ T0 := by decide +kernel
theorem zlaw_ns : ∀ e ∈ T0, ¬ (e.1 = 53 ∧ e.2.1 = 2) ∧ ¬ (e.1 = 55 ∧ e.2.1 = 1) := by decide +kernel
variable {xs : Nat → Int} {L : Nat} {T : List (Nat × Int × Int)} {n d y pc : Nat} {lv lv2 : LVs} {st : List AV} {s : Pl} {Q : Option AV → Pl → Prop}
/-- fields, all that is asked in one -/
theorem Fr.gI {c idx ci k t : Nat} (ki : Int) (hi : zi y pc = some (.getfield idx, 3)) (hf : zfd (yo y) idx = some (ci, k, t)) (hb : (decide (t ≠ 1) && decide (k < zf_n ci) && decide (ci < 9)) = true) (hc : (zsh c).1 = ci) (hn : c < n) (hk : ((k : Nat) : Int) = ki) (kk : Fr xs L T n d y (pc + 3) lv (it (s c ki) :: st) s Q) : Fr xs L T n d y pc lv (rf (c + 1) :: st) s Q := by
  subst hk
  simp only [Bool.and_eq_true, decide_eq_true_eq] at hb
  exact Fr.getI hi hf hb.1.1 hc hb.1.2 hb.2 hn kk
theorem Fr.gR {c c2 idx ci k : Nat} (ki : Int) (hi : zi y pc = some (.getfield idx, 3)) (hf : zfd (yo y) idx = some (ci, k, 1)) (hb : (decide (k < zf_n ci) && decide (ci < 9)) = true) (hc : (zsh c).1 = ci) (hn : c < n) (hk : ((k : Nat) : Int) = ki) (hv : Sh T s → s c ki = (c2 : Int)) (kk : Fr xs L T n d y (pc + 3) lv (rf c2 :: st) s Q) : Fr xs L T n d y pc lv (rf (c + 1) :: st) s Q := by
  subst hk
  simp only [Bool.and_eq_true, decide_eq_true_eq] at hb
  exact Fr.getR hi hf hc hb.1 hb.2 hn hv kk
theorem Fr.pI {c idx ci k : Nat} {v : Int} (ki : Int) (hi : zi y pc = some (.putfield idx, 3)) (hf : zfd (yo y) idx = some (ci, k, 0)) (hb : (decide (k < zf_n ci) && decide (ci < 9) && !(zf ci k).2.2.1 && decide ((zf ci k).2.2.2 ≠ 1)) = true) (hc : (zsh c).1 = ci) (hn : c < n) (hk : ((k : Nat) : Int) = ki) (kk : Fr xs L T n d y (pc + 3) lv st (zup s c ki v) Q) : Fr xs L T n d y pc lv (it v :: rf (c + 1) :: st) s Q := by
  subst hk
  simp only [Bool.and_eq_true, decide_eq_true_eq, Bool.not_eq_true'] at hb
  exact Fr.putI hi hf (Or.inl rfl) hc hb.1.1.1 hb.1.1.2 hn hb.1.2 hb.2 kk
theorem Fr.pZ {c idx ci k : Nat} {v : Int} (ki : Int) (hi : zi y pc = some (.putfield idx, 3)) (hf : zfd (yo y) idx = some (ci, k, 2)) (hb : (decide (k < zf_n ci) && decide (ci < 9) && !(zf ci k).2.2.1 && decide ((zf ci k).2.2.2 ≠ 1)) = true) (hv : v = 0 ∨ v = 1) (hc : (zsh c).1 = ci) (hn : c < n) (hk : ((k : Nat) : Int) = ki) (kk : Fr xs L T n d y (pc + 3) lv st (zup s c ki v) Q) : Fr xs L T n d y pc lv (it v :: rf (c + 1) :: st) s Q := by
  subst hk
  simp only [Bool.and_eq_true, decide_eq_true_eq, Bool.not_eq_true'] at hb
  exact Fr.putI hi hf (Or.inr ⟨rfl, hv⟩) hc hb.1.1.1 hb.1.1.2 hn hb.1.2 hb.2 kk
theorem Fr.pR {c w idx ci k : Nat} (ki : Int) (hi : zi y pc = some (.putfield idx, 3)) (hf : zfd (yo y) idx = some (ci, k, 1)) (hb : (decide (k < zf_n ci) && decide (ci < 9) && !(zf ci k).2.2.1) = true) (hc : (zsh c).1 = ci) (hn : c < n) (hk : ((k : Nat) : Int) = ki) (hw : 1 ≤ w ∧ w ≤ n) (hns : ∀ e ∈ T, ¬ (e.1 = c ∧ e.2.1 = ki)) (kk : Fr xs L T n d y (pc + 3) lv st (zup s c ki w) Q) : Fr xs L T n d y pc lv (rf w :: rf (c + 1) :: st) s Q := by
  subst hk
  simp only [Bool.and_eq_true, decide_eq_true_eq, Bool.not_eq_true'] at hb
  exact Fr.putR hi hf hc hb.1.1 hb.1.2 hn hb.2 hw hns kk
end
section
-- 1 X0_become lake
theorem f1_lake_0 {xs : Nat → Int} {L : Nat} {d : Nat}  {s : Pl} {P : Pl → Prop} (h : (0 ≤ (0 : Int) ∧ 0 ≤ (0 : Int) ∧ 0 ≤ (6 : Int) ∧ (0 : Int) + 6 ≤ 6 ∧ (0 : Int) + 6 ≤ 6) ∧ (0 ≤ (0 : Int) ∧ 0 ≤ (0 : Int) ∧ 0 ≤ (6 : Int) ∧ (0 : Int) + 6 ≤ 6 ∧ (0 : Int) + 6 ≤ 6) ∧ (0 ≤ (0 : Int) ∧ 0 ≤ (0 : Int) ∧ 0 ≤ (6 : Int) ∧ (0 : Int) + 6 ≤ 6 ∧ (0 : Int) + 6 ≤ 6) ∧ (0 ≤ (0 : Int) ∧ 0 ≤ (0 : Int) ∧ 0 ≤ (6 : Int) ∧ (0 : Int) + 6 ≤ 6 ∧ (0 : Int) + 6 ≤ 6) ∧ (0 ≤ (0 : Int) ∧ 0 ≤ (0 : Int) ∧ 0 ≤ (6 : Int) ∧ (0 : Int) + 6 ≤ 6 ∧ (0 : Int) + 6 ≤ 6) ∧ (0 ≤ (0 : Int) ∧ 0 ≤ (0 : Int) ∧ 0 ≤ (6 : Int) ∧ (0 : Int) + 6 ≤ 6 ∧ (0 : Int) + 6 ≤ 6) ∧ (0 ≤ (0 : Int) ∧ 0 ≤ (0 : Int) ∧ 0 ≤ (6 : Int) ∧ (0 : Int) + 6 ≤ 6 ∧ (0 : Int) + 6 ≤ 6) ∧ (0 ≤ (0 : Int) ∧ 0 ≤ (0 : Int) ∧ 0 ≤ (16 : Int) ∧ (0 : Int) + 16 ≤ 16 ∧ (0 : Int) + 16 ≤ 16) ∧ P (zcopy (zcopy (zcopy (zcopy (zcopy (zcopy (zcopy (zcopy (zup (zup (zup s 1 0 (s 10 0)) 1 1 ((zup s 1 0 (s 10 0)) 10 1)) 1 2 ((zup (zup s 1 0 (s 10 0)) 1 1 ((zup s 1 0 (s 10 0)) 10 1)) 10 2)) 11 0 2 0 6) 12 0 3 0 6) 13 0 4 0 6) 14 0 5 0 6) 15 0 6 0 6) 16 0 7 0 6) 17 0 8 0 6) 18 0 9 0 16)) : Fr xs L T0 104 d 1 0 [some (rf 2), some (rf 11)] [] s (qv P) := by
  refine Fr.aldn (c := 2) (by decide +kernel : zi 1 0 = some (.aload_n 0, 1)) rfl ⟨by omega, by omega⟩ ?_
  refine Fr.aldn (c := 11) (by decide +kernel : zi 1 1 = some (.aload_n 1, 1)) rfl ⟨by omega, by omega⟩ ?_
  refine Fr.gI (c := 10) (ci := 0) (k := 0) (t := 0) 0 (by decide +kernel : zi 1 2 = some (.getfield 42, 3)) (by decide +kernel) (by decide +kernel) (by decide +kernel) (by decide) rfl ?_
  refine Fr.pI (c := 1) (ci := 0) (k := 0) 0 (by decide +kernel : zi 1 5 = some (.putfield 42, 3)) (by decide +kernel) (by decide +kernel) (by decide +kernel) (by decide) rfl ?_
  refine Fr.aldn (c := 2) (by decide +kernel : zi 1 8 = some (.aload_n 0, 1)) rfl ⟨by omega, by omega⟩ ?_
  refine Fr.aldn (c := 11) (by decide +kernel : zi 1 9 = some (.aload_n 1, 1)) rfl ⟨by omega, by omega⟩ ?_
  refine Fr.gI (c := 10) (ci := 0) (k := 1) (t := 0) 1 (by decide +kernel : zi 1 10 = some (.getfield 46, 3)) (by decide +kernel) (by decide +kernel) (by decide +kernel) (by decide) rfl ?_
  refine Fr.pI (c := 1) (ci := 0) (k := 1) 1 (by decide +kernel : zi 1 13 = some (.putfield 46, 3)) (by decide +kernel) (by decide +kernel) (by decide +kernel) (by decide) rfl ?_
  refine Fr.aldn (c := 2) (by decide +kernel : zi 1 16 = some (.aload_n 0, 1)) rfl ⟨by omega, by omega⟩ ?_
  refine Fr.aldn (c := 11) (by decide +kernel : zi 1 17 = some (.aload_n 1, 1)) rfl ⟨by omega, by omega⟩ ?_
  refine Fr.gI (c := 10) (ci := 0) (k := 2) (t := 0) 2 (by decide +kernel : zi 1 18 = some (.getfield 49, 3)) (by decide +kernel) (by decide +kernel) (by decide +kernel) (by decide) rfl ?_
  refine Fr.pI (c := 1) (ci := 0) (k := 2) 2 (by decide +kernel : zi 1 21 = some (.putfield 49, 3)) (by decide +kernel) (by decide +kernel) (by decide +kernel) (by decide) rfl ?_
  refine Fr.aldn (c := 11) (by decide +kernel : zi 1 24 = some (.aload_n 1, 1)) rfl ⟨by omega, by omega⟩ ?_
  refine Fr.gR (c := 10) (c2 := 12) (ci := 0) (k := 3) 3 (by decide +kernel : zi 1 25 = some (.getfield 9, 3)) (by decide +kernel) (by decide +kernel) (by decide +kernel) (by decide) rfl (fun q => q (10, 3, 12) (by decide +kernel)) ?_
  refine Fr.iconst (by decide +kernel : zi 1 28 = some (.iconst 0, 1)) (by decide) ?_
  refine Fr.aldn (c := 2) (by decide +kernel : zi 1 29 = some (.aload_n 0, 1)) rfl ⟨by omega, by omega⟩ ?_
  refine Fr.gR (c := 1) (c2 := 3) (ci := 0) (k := 3) 3 (by decide +kernel : zi 1 30 = some (.getfield 9, 3)) (by decide +kernel) (by decide +kernel) (by decide +kernel) (by decide) rfl (fun q => q (1, 3, 3) (by decide +kernel)) ?_
  refine Fr.iconst (by decide +kernel : zi 1 33 = some (.iconst 0, 1)) (by decide) ?_
  refine Fr.bipush (by decide +kernel : zi 1 34 = some (.bipush 6, 2)) (by decide) ?_
  obtain ⟨⟨g0, g1, g2, g3, g4⟩, h⟩ := h
  refine Fr.copy (c1 := 11) (c2 := 2) (N1 := 6) (N2 := 6) (by decide +kernel : zi 1 36 = some (.invokestatic 52, 3)) (by decide +kernel) (by decide +kernel) (by decide +kernel) (by decide +kernel) (by decide +kernel) (by decide) (by decide) g0 g1 g2 g3 g4 (Nat.le_of_ble_eq_true rfl) ?_
  refine Fr.aldn (c := 11) (by decide +kernel : zi 1 39 = some (.aload_n 1, 1)) rfl ⟨by omega, by omega⟩ ?_
  refine Fr.gR (c := 10) (c2 := 13) (ci := 0) (k := 4) 4 (by decide +kernel : zi 1 40 = some (.getfield 15, 3)) (by decide +kernel) (by decide +kernel) (by decide +kernel) (by decide) rfl (fun q => q (10, 4, 13) (by decide +kernel)) ?_
  refine Fr.iconst (by decide +kernel : zi 1 43 = some (.iconst 0, 1)) (by decide) ?_
  refine Fr.aldn (c := 2) (by decide +kernel : zi 1 44 = some (.aload_n 0, 1)) rfl ⟨by omega, by omega⟩ ?_
  refine Fr.gR (c := 1) (c2 := 4) (ci := 0) (k := 4) 4 (by decide +kernel : zi 1 45 = some (.getfield 15, 3)) (by decide +kernel) (by decide +kernel) (by decide +kernel) (by decide) rfl (fun q => q (1, 4, 4) (by decide +kernel)) ?_
  refine Fr.iconst (by decide +kernel : zi 1 48 = some (.iconst 0, 1)) (by decide) ?_
  refine Fr.bipush (by decide +kernel : zi 1 49 = some (.bipush 6, 2)) (by decide) ?_
  obtain ⟨⟨g0, g1, g2, g3, g4⟩, h⟩ := h
  refine Fr.copy (c1 := 12) (c2 := 3) (N1 := 6) (N2 := 6) (by decide +kernel : zi 1 51 = some (.invokestatic 52, 3)) (by decide +kernel) (by decide +kernel) (by decide +kernel) (by decide +kernel) (by decide +kernel) (by decide) (by decide) g0 g1 g2 g3 g4 (Nat.le_of_ble_eq_true rfl) ?_
  refine Fr.aldn (c := 11) (by decide +kernel : zi 1 54 = some (.aload_n 1, 1)) rfl ⟨by omega, by omega⟩ ?_
  refine Fr.gR (c := 10) (c2 := 14) (ci := 0) (k := 5) 5 (by decide +kernel : zi 1 55 = some (.getfield 18, 3)) (by decide +kernel) (by decide +kernel) (by decide +kernel) (by decide) rfl (fun q => q (10, 5, 14) (by decide +kernel)) ?_
  refine Fr.iconst (by decide +kernel : zi 1 58 = some (.iconst 0, 1)) (by decide) ?_
  refine Fr.aldn (c := 2) (by decide +kernel : zi 1 59 = some (.aload_n 0, 1)) rfl ⟨by omega, by omega⟩ ?_
  refine Fr.gR (c := 1) (c2 := 5) (ci := 0) (k := 5) 5 (by decide +kernel : zi 1 60 = some (.getfield 18, 3)) (by decide +kernel) (by decide +kernel) (by decide +kernel) (by decide) rfl (fun q => q (1, 5, 5) (by decide +kernel)) ?_
  refine Fr.iconst (by decide +kernel : zi 1 63 = some (.iconst 0, 1)) (by decide) ?_
  refine Fr.bipush (by decide +kernel : zi 1 64 = some (.bipush 6, 2)) (by decide) ?_
  obtain ⟨⟨g0, g1, g2, g3, g4⟩, h⟩ := h
  refine Fr.copy (c1 := 13) (c2 := 4) (N1 := 6) (N2 := 6) (by decide +kernel : zi 1 66 = some (.invokestatic 52, 3)) (by decide +kernel) (by decide +kernel) (by decide +kernel) (by decide +kernel) (by decide +kernel) (by decide) (by decide) g0 g1 g2 g3 g4 (Nat.le_of_ble_eq_true rfl) ?_
  refine Fr.aldn (c := 11) (by decide +kernel : zi 1 69 = some (.aload_n 1, 1)) rfl ⟨by omega, by omega⟩ ?_
  refine Fr.gR (c := 10) (c2 := 15) (ci := 0) (k := 6) 6 (by decide +kernel : zi 1 70 = some (.getfield 21, 3)) (by decide +kernel) (by decide +kernel) (by decide +kernel) (by decide) rfl (fun q => q (10, 6, 15) (by decide +kernel)) ?_
  refine Fr.iconst (by decide +kernel : zi 1 73 = some (.iconst 0, 1)) (by decide) ?_
  refine Fr.aldn (c := 2) (by decide +kernel : zi 1 74 = some (.aload_n 0, 1)) rfl ⟨by omega, by omega⟩ ?_
  refine Fr.gR (c := 1) (c2 := 6) (ci := 0) (k := 6) 6 (by decide +kernel : zi 1 75 = some (.getfield 21, 3)) (by decide +kernel) (by decide +kernel) (by decide +kernel) (by decide) rfl (fun q => q (1, 6, 6) (by decide +kernel)) ?_
  refine Fr.iconst (by decide +kernel : zi 1 78 = some (.iconst 0, 1)) (by decide) ?_
  refine Fr.bipush (by decide +kernel : zi 1 79 = some (.bipush 6, 2)) (by decide) ?_
  obtain ⟨⟨g0, g1, g2, g3, g4⟩, h⟩ := h
  refine Fr.copy (c1 := 14) (c2 := 5) (N1 := 6) (N2 := 6) (by decide +kernel : zi 1 81 = some (.invokestatic 52, 3)) (by decide +kernel) (by decide +kernel) (by decide +kernel) (by decide +kernel) (by decide +kernel) (by decide) (by decide) g0 g1 g2 g3 g4 (Nat.le_of_ble_eq_true rfl) ?_
  refine Fr.aldn (c := 11) (by decide +kernel : zi 1 84 = some (.aload_n 1, 1)) rfl ⟨by omega, by omega⟩ ?_
  refine Fr.gR (c := 10) (c2 := 16) (ci := 0) (k := 7) 7 (by decide +kernel : zi 1 85 = some (.getfield 24, 3)) (by decide +kernel) (by decide +kernel) (by decide +kernel) (by decide) rfl (fun q => q (10, 7, 16) (by decide +kernel)) ?_
  refine Fr.iconst (by decide +kernel : zi 1 88 = some (.iconst 0, 1)) (by decide) ?_
  refine Fr.aldn (c := 2) (by decide +kernel : zi 1 89 = some (.aload_n 0, 1)) rfl ⟨by omega, by omega⟩ ?_
  refine Fr.gR (c := 1) (c2 := 7) (ci := 0) (k := 7) 7 (by decide +kernel : zi 1 90 = some (.getfield 24, 3)) (by decide +kernel) (by decide +kernel) (by decide +kernel) (by decide) rfl (fun q => q (1, 7, 7) (by decide +kernel)) ?_
  refine Fr.iconst (by decide +kernel : zi 1 93 = some (.iconst 0, 1)) (by decide) ?_
  refine Fr.bipush (by decide +kernel : zi 1 94 = some (.bipush 6, 2)) (by decide) ?_
  obtain ⟨⟨g0, g1, g2, g3, g4⟩, h⟩ := h
  refine Fr.copy (c1 := 15) (c2 := 6) (N1 := 6) (N2 := 6) (by decide +kernel : zi 1 96 = some (.invokestatic 52, 3)) (by decide +kernel) (by decide +kernel) (by decide +kernel) (by decide +kernel) (by decide +kernel) (by decide) (by decide) g0 g1 g2 g3 g4 (Nat.le_of_ble_eq_true rfl) ?_
  refine Fr.aldn (c := 11) (by decide +kernel : zi 1 99 = some (.aload_n 1, 1)) rfl ⟨by omega, by omega⟩ ?_
  refine Fr.gR (c := 10) (c2 := 17) (ci := 0) (k := 8) 8 (by decide +kernel : zi 1 100 = some (.getfield 27, 3)) (by decide +kernel) (by decide +kernel) (by decide +kernel) (by decide) rfl (fun q => q (10, 8, 17) (by decide +kernel)) ?_
  refine Fr.iconst (by decide +kernel : zi 1 103 = some (.iconst 0, 1)) (by decide) ?_
  refine Fr.aldn (c := 2) (by decide +kernel : zi 1 104 = some (.aload_n 0, 1)) rfl ⟨by omega, by omega⟩ ?_
  refine Fr.gR (c := 1) (c2 := 8) (ci := 0) (k := 8) 8 (by decide +kernel : zi 1 105 = some (.getfield 27, 3)) (by decide +kernel) (by decide +kernel) (by decide +kernel) (by decide) rfl (fun q => q (1, 8, 8) (by decide +kernel)) ?_
  refine Fr.iconst (by decide +kernel : zi 1 108 = some (.iconst 0, 1)) (by decide) ?_
  refine Fr.bipush (by decide +kernel : zi 1 109 = some (.bipush 6, 2)) (by decide) ?_
  obtain ⟨⟨g0, g1, g2, g3, g4⟩, h⟩ := h
  refine Fr.copy (c1 := 16) (c2 := 7) (N1 := 6) (N2 := 6) (by decide +kernel : zi 1 111 = some (.invokestatic 52, 3)) (by decide +kernel) (by decide +kernel) (by decide +kernel) (by decide +kernel) (by decide +kernel) (by decide) (by decide) g0 g1 g2 g3 g4 (Nat.le_of_ble_eq_true rfl) ?_
  refine Fr.aldn (c := 11) (by decide +kernel : zi 1 114 = some (.aload_n 1, 1)) rfl ⟨by omega, by omega⟩ ?_
  refine Fr.gR (c := 10) (c2 := 18) (ci := 0) (k := 9) 9 (by decide +kernel : zi 1 115 = some (.getfield 30, 3)) (by decide +kernel) (by decide +kernel) (by decide +kernel) (by decide) rfl (fun q => q (10, 9, 18) (by decide +kernel)) ?_
  refine Fr.iconst (by decide +kernel : zi 1 118 = some (.iconst 0, 1)) (by decide) ?_
  refine Fr.aldn (c := 2) (by decide +kernel : zi 1 119 = some (.aload_n 0, 1)) rfl ⟨by omega, by omega⟩ ?_
  refine Fr.gR (c := 1) (c2 := 9) (ci := 0) (k := 9) 9 (by decide +kernel : zi 1 120 = some (.getfield 30, 3)) (by decide +kernel) (by decide +kernel) (by decide +kernel) (by decide) rfl (fun q => q (1, 9, 9) (by decide +kernel)) ?_
  refine Fr.iconst (by decide +kernel : zi 1 123 = some (.iconst 0, 1)) (by decide) ?_
  refine Fr.bipush (by decide +kernel : zi 1 124 = some (.bipush 6, 2)) (by decide) ?_
  obtain ⟨⟨g0, g1, g2, g3, g4⟩, h⟩ := h
  refine Fr.copy (c1 := 17) (c2 := 8) (N1 := 6) (N2 := 6) (by decide +kernel : zi 1 126 = some (.invokestatic 52, 3)) (by decide +kernel) (by decide +kernel) (by decide +kernel) (by decide +kernel) (by decide +kernel) (by decide) (by decide) g0 g1 g2 g3 g4 (Nat.le_of_ble_eq_true rfl) ?_
  refine Fr.aldn (c := 11) (by decide +kernel : zi 1 129 = some (.aload_n 1, 1)) rfl ⟨by omega, by omega⟩ ?_
  refine Fr.gR (c := 10) (c2 := 19) (ci := 0) (k := 10) 10 (by decide +kernel : zi 1 130 = some (.getfield 33, 3)) (by decide +kernel) (by decide +kernel) (by decide +kernel) (by decide) rfl (fun q => q (10, 10, 19) (by decide +kernel)) ?_
  refine Fr.iconst (by decide +kernel : zi 1 133 = some (.iconst 0, 1)) (by decide) ?_
  refine Fr.aldn (c := 2) (by decide +kernel : zi 1 134 = some (.aload_n 0, 1)) rfl ⟨by omega, by omega⟩ ?_
  refine Fr.gR (c := 1) (c2 := 10) (ci := 0) (k := 10) 10 (by decide +kernel : zi 1 135 = some (.getfield 33, 3)) (by decide +kernel) (by decide +kernel) (by decide +kernel) (by decide) rfl (fun q => q (1, 10, 10) (by decide +kernel)) ?_
  refine Fr.iconst (by decide +kernel : zi 1 138 = some (.iconst 0, 1)) (by decide) ?_
  refine Fr.bipush (by decide +kernel : zi 1 139 = some (.bipush 16, 2)) (by decide) ?_
  obtain ⟨⟨g0, g1, g2, g3, g4⟩, h⟩ := h
  refine Fr.copy (c1 := 18) (c2 := 9) (N1 := 16) (N2 := 16) (by decide +kernel : zi 1 141 = some (.invokestatic 52, 3)) (by decide +kernel) (by decide +kernel) (by decide +kernel) (by decide +kernel) (by decide +kernel) (by decide) (by decide) g0 g1 g2 g3 g4 (Nat.le_of_ble_eq_true rfl) ?_
  exact Fr.retV (by decide +kernel : zi 1 144 = some (.return_, 1)) (by decide +kernel) h
theorem e1_lake {xs : Nat → Int} {L : Nat} {d : Nat}  {s : Pl} {Q : Option AV → Pl → Prop} (hd : 1 ≤ d) (k : Fr xs L T0 104 (d - 1) 1 0 [some (rf 2), some (rf 11)] [] s Q) : Ev xs L T0 104 d 1 [rf 2, rf 11] s Q := Ev.of (by decide) _ rfl hd k
-- 1 X0_become kept
theorem f1_kept_0 {xs : Nat → Int} {L : Nat} {d : Nat}  {s : Pl} {P : Pl → Prop} (h : (0 ≤ (0 : Int) ∧ 0 ≤ (0 : Int) ∧ 0 ≤ (6 : Int) ∧ (0 : Int) + 6 ≤ 6 ∧ (0 : Int) + 6 ≤ 6) ∧ (0 ≤ (0 : Int) ∧ 0 ≤ (0 : Int) ∧ 0 ≤ (6 : Int) ∧ (0 : Int) + 6 ≤ 6 ∧ (0 : Int) + 6 ≤ 6) ∧ (0 ≤ (0 : Int) ∧ 0 ≤ (0 : Int) ∧ 0 ≤ (6 : Int) ∧ (0 : Int) + 6 ≤ 6 ∧ (0 : Int) + 6 ≤ 6) ∧ (0 ≤ (0 : Int) ∧ 0 ≤ (0 : Int) ∧ 0 ≤ (6 : Int) ∧ (0 : Int) + 6 ≤ 6 ∧ (0 : Int) + 6 ≤ 6) ∧ (0 ≤ (0 : Int) ∧ 0 ≤ (0 : Int) ∧ 0 ≤ (6 : Int) ∧ (0 : Int) + 6 ≤ 6 ∧ (0 : Int) + 6 ≤ 6) ∧ (0 ≤ (0 : Int) ∧ 0 ≤ (0 : Int) ∧ 0 ≤ (6 : Int) ∧ (0 : Int) + 6 ≤ 6 ∧ (0 : Int) + 6 ≤ 6) ∧ (0 ≤ (0 : Int) ∧ 0 ≤ (0 : Int) ∧ 0 ≤ (6 : Int) ∧ (0 : Int) + 6 ≤ 6 ∧ (0 : Int) + 6 ≤ 6) ∧ (0 ≤ (0 : Int) ∧ 0 ≤ (0 : Int) ∧ 0 ≤ (16 : Int) ∧ (0 : Int) + 16 ≤ 16 ∧ (0 : Int) + 16 ≤ 16) ∧ P (zcopy (zcopy (zcopy (zcopy (zcopy (zcopy (zcopy (zcopy (zup (zup (zup s 10 0 (s 1 0)) 10 1 ((zup s 10 0 (s 1 0)) 1 1)) 10 2 ((zup (zup s 10 0 (s 1 0)) 10 1 ((zup s 10 0 (s 1 0)) 1 1)) 1 2)) 2 0 11 0 6) 3 0 12 0 6) 4 0 13 0 6) 5 0 14 0 6) 6 0 15 0 6) 7 0 16 0 6) 8 0 17 0 6) 9 0 18 0 16)) : Fr xs L T0 104 d 1 0 [some (rf 11), some (rf 2)] [] s (qv P) := by
  refine Fr.aldn (c := 11) (by decide +kernel : zi 1 0 = some (.aload_n 0, 1)) rfl ⟨by omega, by omega⟩ ?_
  refine Fr.aldn (c := 2) (by decide +kernel : zi 1 1 = some (.aload_n 1, 1)) rfl ⟨by omega, by omega⟩ ?_
  refine Fr.gI (c := 1) (ci := 0) (k := 0) (t := 0) 0 (by decide +kernel : zi 1 2 = some (.getfield 42, 3)) (by decide +kernel) (by decide +kernel) (by decide +kernel) (by decide) rfl ?_
  refine Fr.pI (c := 10) (ci := 0) (k := 0) 0 (by decide +kernel : zi 1 5 = some (.putfield 42, 3)) (by decide +kernel) (by decide +kernel) (by decide +kernel) (by decide) rfl ?_
  refine Fr.aldn (c := 11) (by decide +kernel : zi 1 8 = some (.aload_n 0, 1)) rfl ⟨by omega, by omega⟩ ?_
  refine Fr.aldn (c := 2) (by decide +kernel : zi 1 9 = some (.aload_n 1, 1)) rfl ⟨by omega, by omega⟩ ?_
  refine Fr.gI (c := 1) (ci := 0) (k := 1) (t := 0) 1 (by decide +kernel : zi 1 10 = some (.getfield 46, 3)) (by decide +kernel) (by decide +kernel) (by decide +kernel) (by decide) rfl ?_
  refine Fr.pI (c := 10) (ci := 0) (k := 1) 1 (by decide +kernel : zi 1 13 = some (.putfield 46, 3)) (by decide +kernel) (by decide +kernel) (by decide +kernel) (by decide) rfl ?_
  refine Fr.aldn (c := 11) (by decide +kernel : zi 1 16 = some (.aload_n 0, 1)) rfl ⟨by omega, by omega⟩ ?_
  refine Fr.aldn (c := 2) (by decide +kernel : zi 1 17 = some (.aload_n 1, 1)) rfl ⟨by omega, by omega⟩ ?_
  refine Fr.gI (c := 1) (ci := 0) (k := 2) (t := 0) 2 (by decide +kernel : zi 1 18 = some (.getfield 49, 3)) (by decide +kernel) (by decide +kernel) (by decide +kernel) (by decide) rfl ?_
  refine Fr.pI (c := 10) (ci := 0) (k := 2) 2 (by decide +kernel : zi 1 21 = some (.putfield 49, 3)) (by decide +kernel) (by decide +kernel) (by decide +kernel) (by decide) rfl ?_
  refine Fr.aldn (c := 2) (by decide +kernel : zi 1 24 = some (.aload_n 1, 1)) rfl ⟨by omega, by omega⟩ ?_
  refine Fr.gR (c := 1) (c2 := 3) (ci := 0) (k := 3) 3 (by decide +kernel : zi 1 25 = some (.getfield 9, 3)) (by decide +kernel) (by decide +kernel) (by decide +kernel) (by decide) rfl (fun q => q (1, 3, 3) (by decide +kernel)) ?_
  refine Fr.iconst (by decide +kernel : zi 1 28 = some (.iconst 0, 1)) (by decide) ?_
  refine Fr.aldn (c := 11) (by decide +kernel : zi 1 29 = some (.aload_n 0, 1)) rfl ⟨by omega, by omega⟩ ?_
  refine Fr.gR (c := 10) (c2 := 12) (ci := 0) (k := 3) 3 (by decide +kernel : zi 1 30 = some (.getfield 9, 3)) (by decide +kernel) (by decide +kernel) (by decide +kernel) (by decide) rfl (fun q => q (10, 3, 12) (by decide +kernel)) ?_
  refine Fr.iconst (by decide +kernel : zi 1 33 = some (.iconst 0, 1)) (by decide) ?_
  refine Fr.bipush (by decide +kernel : zi 1 34 = some (.bipush 6, 2)) (by decide) ?_
  obtain ⟨⟨g0, g1, g2, g3, g4⟩, h⟩ := h
  refine Fr.copy (c1 := 2) (c2 := 11) (N1 := 6) (N2 := 6) (by decide +kernel : zi 1 36 = some (.invokestatic 52, 3)) (by decide +kernel) (by decide +kernel) (by decide +kernel) (by decide +kernel) (by decide +kernel) (by decide) (by decide) g0 g1 g2 g3 g4 (Nat.le_of_ble_eq_true rfl) ?_
  refine Fr.aldn (c := 2) (by decide +kernel : zi 1 39 = some (.aload_n 1, 1)) rfl ⟨by omega, by omega⟩ ?_
  refine Fr.gR (c := 1) (c2 := 4) (ci := 0) (k := 4) 4 (by decide +kernel : zi 1 40 = some (.getfield 15, 3)) (by decide +kernel) (by decide +kernel) (by decide +kernel) (by decide) rfl (fun q => q (1, 4, 4) (by decide +kernel)) ?_
  refine Fr.iconst (by decide +kernel : zi 1 43 = some (.iconst 0, 1)) (by decide) ?_
  refine Fr.aldn (c := 11) (by decide +kernel : zi 1 44 = some (.aload_n 0, 1)) rfl ⟨by omega, by omega⟩ ?_
  refine Fr.gR (c := 10) (c2 := 13) (ci := 0) (k := 4) 4 (by decide +kernel : zi 1 45 = some (.getfield 15, 3)) (by decide +kernel) (by decide +kernel) (by decide +kernel) (by decide) rfl (fun q => q (10, 4, 13) (by decide +kernel)) ?_
  refine Fr.iconst (by decide +kernel : zi 1 48 = some (.iconst 0, 1)) (by decide) ?_
  refine Fr.bipush (by decide +kernel : zi 1 49 = some (.bipush 6, 2)) (by decide) ?_
  obtain ⟨⟨g0, g1, g2, g3, g4⟩, h⟩ := h
  refine Fr.copy (c1 := 3) (c2 := 12) (N1 := 6) (N2 := 6) (by decide +kernel : zi 1 51 = some (.invokestatic 52, 3)) (by decide +kernel) (by decide +kernel) (by decide +kernel) (by decide +kernel) (by decide +kernel) (by decide) (by decide) g0 g1 g2 g3 g4 (Nat.le_of_ble_eq_true rfl) ?_
  refine Fr.aldn (c := 2) (by decide +kernel : zi 1 54 = some (.aload_n 1, 1)) rfl ⟨by omega, by omega⟩ ?_
  refine Fr.gR (c := 1) (c2 := 5) (ci := 0) (k := 5) 5 (by decide +kernel : zi 1 55 = some (.getfield 18, 3)) (by decide +kernel) (by decide +kernel) (by decide +kernel) (by decide) rfl (fun q => q (1, 5, 5) (by decide +kernel)) ?_
  refine Fr.iconst (by decide +kernel : zi 1 58 = some (.iconst 0, 1)) (by decide) ?_
  refine Fr.aldn (c := 11) (by decide +kernel : zi 1 59 = some (.aload_n 0, 1)) rfl ⟨by omega, by omega⟩ ?_
  refine Fr.gR (c := 10) (c2 := 14) (ci := 0) (k := 5) 5 (by decide +kernel : zi 1 60 = some (.getfield 18, 3)) (by decide +kernel) (by decide +kernel) (by decide +kernel) (by decide) rfl (fun q => q (10, 5, 14) (by decide +kernel)) ?_
  refine Fr.iconst (by decide +kernel : zi 1 63 = some (.iconst 0, 1)) (by decide) ?_
  refine Fr.bipush (by decide +kernel : zi 1 64 = some (.bipush 6, 2)) (by decide) ?_
  obtain ⟨⟨g0, g1, g2, g3, g4⟩, h⟩ := h
  refine Fr.copy (c1 := 4) (c2 := 13) (N1 := 6) (N2 := 6) (by decide +kernel : zi 1 66 = some (.invokestatic 52, 3)) (by decide +kernel) (by decide +kernel) (by decide +kernel) (by decide +kernel) (by decide +kernel) (by decide) (by decide) g0 g1 g2 g3 g4 (Nat.le_of_ble_eq_true rfl) ?_
  refine Fr.aldn (c := 2) (by decide +kernel : zi 1 69 = some (.aload_n 1, 1)) rfl ⟨by omega, by omega⟩ ?_
  refine Fr.gR (c := 1) (c2 := 6) (ci := 0) (k := 6) 6 (by decide +kernel : zi 1 70 = some (.getfield 21, 3)) (by decide +kernel) (by decide +kernel) (by decide +kernel) (by decide) rfl (fun q => q (1, 6, 6) (by decide +kernel)) ?_
  refine Fr.iconst (by decide +kernel : zi 1 73 = some (.iconst 0, 1)) (by decide) ?_
  refine Fr.aldn (c := 11) (by decide +kernel : zi 1 74 = some (.aload_n 0, 1)) rfl ⟨by omega, by omega⟩ ?_
  refine Fr.gR (c := 10) (c2 := 15) (ci := 0) (k := 6) 6 (by decide +kernel : zi 1 75 = some (.getfield 21, 3)) (by decide +kernel) (by decide +kernel) (by decide +kernel) (by decide) rfl (fun q => q (10, 6, 15) (by decide +kernel)) ?_
  refine Fr.iconst (by decide +kernel : zi 1 78 = some (.iconst 0, 1)) (by decide) ?_
  refine Fr.bipush (by decide +kernel : zi 1 79 = some (.bipush 6, 2)) (by decide) ?_
  obtain ⟨⟨g0, g1, g2, g3, g4⟩, h⟩ := h
  refine Fr.copy (c1 := 5) (c2 := 14) (N1 := 6) (N2 := 6) (by decide +kernel : zi 1 81 = some (.invokestatic 52, 3)) (by decide +kernel) (by decide +kernel) (by decide +kernel) (by decide +kernel) (by decide +kernel) (by decide) (by decide) g0 g1 g2 g3 g4 (Nat.le_of_ble_eq_true rfl) ?_
  refine Fr.aldn (c := 2) (by decide +kernel : zi 1 84 = some (.aload_n 1, 1)) rfl ⟨by omega, by omega⟩ ?_
  refine Fr.gR (c := 1) (c2 := 7) (ci := 0) (k := 7) 7 (by decide +kernel : zi 1 85 = some (.getfield 24, 3)) (by decide +kernel) (by decide +kernel) (by decide +kernel) (by decide) rfl (fun q => q (1, 7, 7) (by decide +kernel)) ?_
  refine Fr.iconst (by decide +kernel : zi 1 88 = some (.iconst 0, 1)) (by decide) ?_
  refine Fr.aldn (c := 11) (by decide +kernel : zi 1 89 = some (.aload_n 0, 1)) rfl ⟨by omega, by omega⟩ ?_
  refine Fr.gR (c := 10) (c2 := 16) (ci := 0) (k := 7) 7 (by decide +kernel : zi 1 90 = some (.getfield 24, 3)) (by decide +kernel) (by decide +kernel) (by decide +kernel) (by decide) rfl (fun q => q (10, 7, 16) (by decide +kernel)) ?_
  refine Fr.iconst (by decide +kernel : zi 1 93 = some (.iconst 0, 1)) (by decide) ?_
  refine Fr.bipush (by decide +kernel : zi 1 94 = some (.bipush 6, 2)) (by decide) ?_
  obtain ⟨⟨g0, g1, g2, g3, g4⟩, h⟩ := h
  refine Fr.copy (c1 := 6) (c2 := 15) (N1 := 6) (N2 := 6) (by decide +kernel : zi 1 96 = some (.invokestatic 52, 3)) (by decide +kernel) (by decide +kernel) (by decide +kernel) (by decide +kernel) (by decide +kernel) (by decide) (by decide) g0 g1 g2 g3 g4 (Nat.le_of_ble_eq_true rfl) ?_
  refine Fr.aldn (c := 2) (by decide +kernel : zi 1 99 = some (.aload_n 1, 1)) rfl ⟨by omega, by omega⟩ ?_
  refine Fr.gR (c := 1) (c2 := 8) (ci := 0) (k := 8) 8 (by decide +kernel : zi 1 100 = some (.getfield 27, 3)) (by decide +kernel) (by decide +kernel) (by decide +kernel) (by decide) rfl (fun q => q (1, 8, 8) (by decide +kernel)) ?_
  refine Fr.iconst (by decide +kernel : zi 1 103 = some (.iconst 0, 1)) (by decide) ?_
  refine Fr.aldn (c := 11) (by decide +kernel : zi 1 104 = some (.aload_n 0, 1)) rfl ⟨by omega, by omega⟩ ?_
  refine Fr.gR (c := 10) (c2 := 17) (ci := 0) (k := 8) 8 (by decide +kernel : zi 1 105 = some (.getfield 27, 3)) (by decide +kernel) (by decide +kernel) (by decide +kernel) (by decide) rfl (fun q => q (10, 8, 17) (by decide +kernel)) ?_
  refine Fr.iconst (by decide +kernel : zi 1 108 = some (.iconst 0, 1)) (by decide) ?_
  refine Fr.bipush (by decide +kernel : zi 1 109 = some (.bipush 6, 2)) (by decide) ?_
  obtain ⟨⟨g0, g1, g2, g3, g4⟩, h⟩ := h
  refine Fr.copy (c1 := 7) (c2 := 16) (N1 := 6) (N2 := 6) (by decide +kernel : zi 1 111 = some (.invokestatic 52, 3)) (by decide +kernel) (by decide +kernel) (by decide +kernel) (by decide +kernel) (by decide +kernel) (by decide) (by decide) g0 g1 g2 g3 g4 (Nat.le_of_ble_eq_true rfl) ?_
  refine Fr.aldn (c := 2) (by decide +kernel : zi 1 114 = some (.aload_n 1, 1)) rfl ⟨by omega, by omega⟩ ?_
  refine Fr.gR (c := 1) (c2 := 9) (ci := 0) (k := 9) 9 (by decide +kernel : zi 1 115 = some (.getfield 30, 3)) (by decide +kernel) (by decide +kernel) (by decide +kernel) (by decide) rfl (fun q => q (1, 9, 9) (by decide +kernel)) ?_
  refine Fr.iconst (by decide +kernel : zi 1 118 = some (.iconst 0, 1)) (by decide) ?_
  refine Fr.aldn (c := 11) (by decide +kernel : zi 1 119 = some (.aload_n 0, 1)) rfl ⟨by omega, by omega⟩ ?_
  refine Fr.gR (c := 10) (c2 := 18) (ci := 0) (k := 9) 9 (by decide +kernel : zi 1 120 = some (.getfield 30, 3)) (by decide +kernel) (by decide +kernel) (by decide +kernel) (by decide) rfl (fun q => q (10, 9, 18) (by decide +kernel)) ?_
  refine Fr.iconst (by decide +kernel : zi 1 123 = some (.iconst 0, 1)) (by decide) ?_
  refine Fr.bipush (by decide +kernel : zi 1 124 = some (.bipush 6, 2)) (by decide) ?_
  obtain ⟨⟨g0, g1, g2, g3, g4⟩, h⟩ := h
  refine Fr.copy (c1 := 8) (c2 := 17) (N1 := 6) (N2 := 6) (by decide +kernel : zi 1 126 = some (.invokestatic 52, 3)) (by decide +kernel) (by decide +kernel) (by decide +kernel) (by decide +kernel) (by decide +kernel) (by decide) (by decide) g0 g1 g2 g3 g4 (Nat.le_of_ble_eq_true rfl) ?_
  refine Fr.aldn (c := 2) (by decide +kernel : zi 1 129 = some (.aload_n 1, 1)) rfl ⟨by omega, by omega⟩ ?_
  refine Fr.gR (c := 1) (c2 := 10) (ci := 0) (k := 10) 10 (by decide +kernel : zi 1 130 = some (.getfield 33, 3)) (by decide +kernel) (by decide +kernel) (by decide +kernel) (by decide) rfl (fun q => q (1, 10, 10) (by decide +kernel)) ?_
  refine Fr.iconst (by decide +kernel : zi 1 133 = some (.iconst 0, 1)) (by decide) ?_
  refine Fr.aldn (c := 11) (by decide +kernel : zi 1 134 = some (.aload_n 0, 1)) rfl ⟨by omega, by omega⟩ ?_
  refine Fr.gR (c := 10) (c2 := 19) (ci := 0) (k := 10) 10 (by decide +kernel : zi 1 135 = some (.getfield 33, 3)) (by decide +kernel) (by decide +kernel) (by decide +kernel) (by decide) rfl (fun q => q (10, 10, 19) (by decide +kernel)) ?_
  refine Fr.iconst (by decide +kernel : zi 1 138 = some (.iconst 0, 1)) (by decide) ?_
  refine Fr.bipush (by decide +kernel : zi 1 139 = some (.bipush 16, 2)) (by decide) ?_
  obtain ⟨⟨g0, g1, g2, g3, g4⟩, h⟩ := h
  refine Fr.copy (c1 := 9) (c2 := 18) (N1 := 16) (N2 := 16) (by decide +kernel : zi 1 141 = some (.invokestatic 52, 3)) (by decide +kernel) (by decide +kernel) (by decide +kernel) (by decide +kernel) (by decide +kernel) (by decide) (by decide) g0 g1 g2 g3 g4 (Nat.le_of_ble_eq_true rfl) ?_
  exact Fr.retV (by decide +kernel : zi 1 144 = some (.return_, 1)) (by decide +kernel) h
theorem e1_kept {xs : Nat → Int} {L : Nat} {d : Nat}  {s : Pl} {Q : Option AV → Pl → Prop} (hd : 1 ≤ d) (k : Fr xs L T0 104 (d - 1) 1 0 [some (rf 11), some (rf 2)] [] s Q) : Ev xs L T0 104 d 1 [rf 11, rf 2] s Q := Ev.of (by decide) _ rfl hd k
-- 2 X0_has
theorem f2_0 {xs : Nat → Int} {L : Nat} {d : Nat} {v1 : Int} {s : Pl} {P : Int → Pl → Prop} (h : ((v1 < 0 → P 0 s) ∧ (¬ (v1 < 0) → ((s 1 1 ≤ v1 → P 0 s) ∧ (¬ (s 1 1 ≤ v1) → ((6 ≤ v1 → P 0 s) ∧ (¬ (6 ≤ v1) → P 1 s))))))) : Fr xs L T0 104 d 2 0 [some (rf 2), some (it v1)] [] s (qi P) := by
  refine Fr.ildn (by decide +kernel : zi 2 0 = some (.iload_n 1, 1)) rfl ?_
  refine Fr.if0 (q := 22) (by decide +kernel : zi 2 1 = some (.ifCond .lt 21, 3)) (by decide +kernel) (fun g9 => ?_) (fun g9 => ?_)
  · have h := h.1 g9
    refine Fr.iconst (by decide +kernel : zi 2 22 = some (.iconst 0, 1)) (by decide) ?_
    exact Fr.retZ (by decide +kernel : zi 2 23 = some (.ireturn, 1)) (by decide +kernel) (by decide) h
  · have h := h.2 g9
    refine Fr.ildn (by decide +kernel : zi 2 4 = some (.iload_n 1, 1)) rfl ?_
    refine Fr.aldn (c := 2) (by decide +kernel : zi 2 5 = some (.aload_n 0, 1)) rfl ⟨by omega, by omega⟩ ?_
    refine Fr.gI (c := 1) (ci := 0) (k := 1) (t := 0) 1 (by decide +kernel : zi 2 6 = some (.getfield 46, 3)) (by decide +kernel) (by decide +kernel) (by decide +kernel) (by decide) rfl ?_
    refine Fr.if2 (q := 22) (by decide +kernel : zi 2 9 = some (.if_icmp .ge 13, 3)) (by decide +kernel) (fun g9 => ?_) (fun g9 => ?_)
    · have h := h.1 g9
      refine Fr.iconst (by decide +kernel : zi 2 22 = some (.iconst 0, 1)) (by decide) ?_
      exact Fr.retZ (by decide +kernel : zi 2 23 = some (.ireturn, 1)) (by decide +kernel) (by decide) h
    · have h := h.2 g9
      refine Fr.ildn (by decide +kernel : zi 2 12 = some (.iload_n 1, 1)) rfl ?_
      refine Fr.bipush (by decide +kernel : zi 2 13 = some (.bipush 6, 2)) (by decide) ?_
      refine Fr.if2 (q := 22) (by decide +kernel : zi 2 15 = some (.if_icmp .ge 7, 3)) (by decide +kernel) (fun g9 => ?_) (fun g9 => ?_)
      · have h := h.1 g9
        refine Fr.iconst (by decide +kernel : zi 2 22 = some (.iconst 0, 1)) (by decide) ?_
        exact Fr.retZ (by decide +kernel : zi 2 23 = some (.ireturn, 1)) (by decide +kernel) (by decide) h
      · have h := h.2 g9
        refine Fr.iconst (by decide +kernel : zi 2 18 = some (.iconst 1, 1)) (by decide) ?_
        refine Fr.goto (q := 23) (by decide +kernel : zi 2 19 = some (.goto 4, 3)) (by decide +kernel) ?_
        exact Fr.retZ (by decide +kernel : zi 2 23 = some (.ireturn, 1)) (by decide +kernel) (by decide) h
theorem e2 {xs : Nat → Int} {L : Nat} {d : Nat} {v1 : Int} {s : Pl} {Q : Option AV → Pl → Prop} (hd : 1 ≤ d) (k : Fr xs L T0 104 (d - 1) 2 0 [some (rf 2), some (it v1)] [] s Q) : Ev xs L T0 104 d 2 [rf 2, it v1] s Q := Ev.of (by decide) _ rfl hd k
-- 3 X0_add
theorem f3_0 {xs : Nat → Int} {L : Nat} {d : Nat} {v1 : Int} {v2 : Int} {v3 : Int} {v4 : Int} {s : Pl} {P : Pl → Prop} (h : ((s 1 1 < 0 → P s) ∧ (¬ (s 1 1 < 0) → ((s 1 1 < 6 → (0 ≤ s 1 1 ∧ s 1 1 < 6) ∧ (0 ≤ s 1 1 ∧ s 1 1 < 6) ∧ (0 ≤ s 1 1 ∧ s 1 1 < 6) ∧ (0 ≤ s 1 1 ∧ s 1 1 < 6) ∧ (0 ≤ s 1 1 ∧ s 1 1 < 6) ∧ (0 ≤ s 1 1 ∧ s 1 1 < 6) ∧ (0 ≤ s 1 1 ∧ s 1 1 < 6) ∧ P (zup (zup (zup (zup (zup (zup (zup (zup s 1 1 (zw ((s 1 1) + 1))) 3 (s 1 1) v1) 2 (s 1 1) (zdiv v2 10)) 4 (s 1 1) (zrem v2 10)) 5 (s 1 1) (zdiv v3 100)) 6 (s 1 1) (zrem v3 100)) 7 (s 1 1) v4) 8 (s 1 1) 0)) ∧ (¬ (s 1 1 < 6) → P s))))) : Fr xs L T0 104 d 3 0 [some (rf 2), some (it v1), some (it v2), some (it v3), some (it v4), none] [] s (qv P) := by
  refine Fr.aldn (c := 2) (by decide +kernel : zi 3 0 = some (.aload_n 0, 1)) rfl ⟨by omega, by omega⟩ ?_
  refine Fr.gI (c := 1) (ci := 0) (k := 1) (t := 0) 1 (by decide +kernel : zi 3 1 = some (.getfield 46, 3)) (by decide +kernel) (by decide +kernel) (by decide +kernel) (by decide) rfl ?_
  refine Fr.ist (lv2 := [some (rf 2), some (it v1), some (it v2), some (it v3), some (it v4), some (it (s 1 1))]) (by decide +kernel : zi 3 4 = some (.istore 5, 2)) (Nat.le_of_ble_eq_true rfl) rfl ?_
  refine Fr.ild (by decide +kernel : zi 3 6 = some (.iload 5, 2)) rfl ?_
  refine Fr.if0 (q := 18) (by decide +kernel : zi 3 8 = some (.ifCond .lt 10, 3)) (by decide +kernel) (fun g9 => ?_) (fun g9 => ?_)
  · have h := h.1 g9
    exact Fr.retV (by decide +kernel : zi 3 18 = some (.return_, 1)) (by decide +kernel) h
  · have h := h.2 g9
    refine Fr.ild (by decide +kernel : zi 3 11 = some (.iload 5, 2)) rfl ?_
    refine Fr.bipush (by decide +kernel : zi 3 13 = some (.bipush 6, 2)) (by decide) ?_
    refine Fr.if2 (q := 19) (by decide +kernel : zi 3 15 = some (.if_icmp .lt 4, 3)) (by decide +kernel) (fun g9 => ?_) (fun g9 => ?_)
    · have h := h.1 g9
      refine Fr.aldn (c := 2) (by decide +kernel : zi 3 19 = some (.aload_n 0, 1)) rfl ⟨by omega, by omega⟩ ?_
      refine Fr.dup (by decide +kernel : zi 3 20 = some (.dup, 1)) rfl ?_
      refine Fr.gI (c := 1) (ci := 0) (k := 1) (t := 0) 1 (by decide +kernel : zi 3 21 = some (.getfield 46, 3)) (by decide +kernel) (by decide +kernel) (by decide +kernel) (by decide) rfl ?_
      refine Fr.iconst (by decide +kernel : zi 3 24 = some (.iconst 1, 1)) (by decide) ?_
      refine Fr.iadd (by decide +kernel : zi 3 25 = some (.iadd, 1)) ?_
      refine Fr.pI (c := 1) (ci := 0) (k := 1) 1 (by decide +kernel : zi 3 26 = some (.putfield 46, 3)) (by decide +kernel) (by decide +kernel) (by decide +kernel) (by decide) rfl ?_
      refine Fr.aldn (c := 2) (by decide +kernel : zi 3 29 = some (.aload_n 0, 1)) rfl ⟨by omega, by omega⟩ ?_
      refine Fr.gR (c := 1) (c2 := 4) (ci := 0) (k := 4) 4 (by decide +kernel : zi 3 30 = some (.getfield 15, 3)) (by decide +kernel) (by decide +kernel) (by decide +kernel) (by decide) rfl (fun q => q (1, 4, 4) (by decide +kernel)) ?_
      refine Fr.ild (by decide +kernel : zi 3 33 = some (.iload 5, 2)) rfl ?_
      refine Fr.ildn (by decide +kernel : zi 3 35 = some (.iload_n 1, 1)) rfl ?_
      obtain ⟨⟨g0, g1⟩, h⟩ := h
      refine Fr.iast (c := 3) (N := 6) (by decide +kernel : zi 3 36 = some (.iastore, 1)) (by decide +kernel) (by decide) g0 g1 ?_
      refine Fr.aldn (c := 2) (by decide +kernel : zi 3 37 = some (.aload_n 0, 1)) rfl ⟨by omega, by omega⟩ ?_
      refine Fr.gR (c := 1) (c2 := 3) (ci := 0) (k := 3) 3 (by decide +kernel : zi 3 38 = some (.getfield 9, 3)) (by decide +kernel) (by decide +kernel) (by decide +kernel) (by decide) rfl (fun q => q (1, 3, 3) (by decide +kernel)) ?_
      refine Fr.ild (by decide +kernel : zi 3 41 = some (.iload 5, 2)) rfl ?_
      refine Fr.ildn (by decide +kernel : zi 3 43 = some (.iload_n 2, 1)) rfl ?_
      refine Fr.bipush (by decide +kernel : zi 3 44 = some (.bipush 10, 2)) (by decide) ?_
      refine Fr.idiv (by decide +kernel : zi 3 46 = some (.idiv, 1)) (by decide) ?_
      obtain ⟨⟨g0, g1⟩, h⟩ := h
      refine Fr.iast (c := 2) (N := 6) (by decide +kernel : zi 3 47 = some (.iastore, 1)) (by decide +kernel) (by decide) g0 g1 ?_
      refine Fr.aldn (c := 2) (by decide +kernel : zi 3 48 = some (.aload_n 0, 1)) rfl ⟨by omega, by omega⟩ ?_
      refine Fr.gR (c := 1) (c2 := 5) (ci := 0) (k := 5) 5 (by decide +kernel : zi 3 49 = some (.getfield 18, 3)) (by decide +kernel) (by decide +kernel) (by decide +kernel) (by decide) rfl (fun q => q (1, 5, 5) (by decide +kernel)) ?_
      refine Fr.ild (by decide +kernel : zi 3 52 = some (.iload 5, 2)) rfl ?_
      refine Fr.ildn (by decide +kernel : zi 3 54 = some (.iload_n 2, 1)) rfl ?_
      refine Fr.bipush (by decide +kernel : zi 3 55 = some (.bipush 10, 2)) (by decide) ?_
      refine Fr.irem (by decide +kernel : zi 3 57 = some (.irem, 1)) (by decide) ?_
      obtain ⟨⟨g0, g1⟩, h⟩ := h
      refine Fr.iast (c := 4) (N := 6) (by decide +kernel : zi 3 58 = some (.iastore, 1)) (by decide +kernel) (by decide) g0 g1 ?_
      refine Fr.aldn (c := 2) (by decide +kernel : zi 3 59 = some (.aload_n 0, 1)) rfl ⟨by omega, by omega⟩ ?_
      refine Fr.gR (c := 1) (c2 := 6) (ci := 0) (k := 6) 6 (by decide +kernel : zi 3 60 = some (.getfield 21, 3)) (by decide +kernel) (by decide +kernel) (by decide +kernel) (by decide) rfl (fun q => q (1, 6, 6) (by decide +kernel)) ?_
      refine Fr.ild (by decide +kernel : zi 3 63 = some (.iload 5, 2)) rfl ?_
      refine Fr.ildn (by decide +kernel : zi 3 65 = some (.iload_n 3, 1)) rfl ?_
      refine Fr.bipush (by decide +kernel : zi 3 66 = some (.bipush 100, 2)) (by decide) ?_
      refine Fr.idiv (by decide +kernel : zi 3 68 = some (.idiv, 1)) (by decide) ?_
      obtain ⟨⟨g0, g1⟩, h⟩ := h
      refine Fr.iast (c := 5) (N := 6) (by decide +kernel : zi 3 69 = some (.iastore, 1)) (by decide +kernel) (by decide) g0 g1 ?_
      refine Fr.aldn (c := 2) (by decide +kernel : zi 3 70 = some (.aload_n 0, 1)) rfl ⟨by omega, by omega⟩ ?_
      refine Fr.gR (c := 1) (c2 := 7) (ci := 0) (k := 7) 7 (by decide +kernel : zi 3 71 = some (.getfield 24, 3)) (by decide +kernel) (by decide +kernel) (by decide +kernel) (by decide) rfl (fun q => q (1, 7, 7) (by decide +kernel)) ?_
      refine Fr.ild (by decide +kernel : zi 3 74 = some (.iload 5, 2)) rfl ?_
      refine Fr.ildn (by decide +kernel : zi 3 76 = some (.iload_n 3, 1)) rfl ?_
      refine Fr.bipush (by decide +kernel : zi 3 77 = some (.bipush 100, 2)) (by decide) ?_
      refine Fr.irem (by decide +kernel : zi 3 79 = some (.irem, 1)) (by decide) ?_
      obtain ⟨⟨g0, g1⟩, h⟩ := h
      refine Fr.iast (c := 6) (N := 6) (by decide +kernel : zi 3 80 = some (.iastore, 1)) (by decide +kernel) (by decide) g0 g1 ?_
      refine Fr.aldn (c := 2) (by decide +kernel : zi 3 81 = some (.aload_n 0, 1)) rfl ⟨by omega, by omega⟩ ?_
      refine Fr.gR (c := 1) (c2 := 8) (ci := 0) (k := 8) 8 (by decide +kernel : zi 3 82 = some (.getfield 27, 3)) (by decide +kernel) (by decide +kernel) (by decide +kernel) (by decide) rfl (fun q => q (1, 8, 8) (by decide +kernel)) ?_
      refine Fr.ild (by decide +kernel : zi 3 85 = some (.iload 5, 2)) rfl ?_
      refine Fr.ild (by decide +kernel : zi 3 87 = some (.iload 4, 2)) rfl ?_
      obtain ⟨⟨g0, g1⟩, h⟩ := h
      refine Fr.iast (c := 7) (N := 6) (by decide +kernel : zi 3 89 = some (.iastore, 1)) (by decide +kernel) (by decide) g0 g1 ?_
      refine Fr.aldn (c := 2) (by decide +kernel : zi 3 90 = some (.aload_n 0, 1)) rfl ⟨by omega, by omega⟩ ?_
      refine Fr.gR (c := 1) (c2 := 9) (ci := 0) (k := 9) 9 (by decide +kernel : zi 3 91 = some (.getfield 30, 3)) (by decide +kernel) (by decide +kernel) (by decide +kernel) (by decide) rfl (fun q => q (1, 9, 9) (by decide +kernel)) ?_
      refine Fr.ild (by decide +kernel : zi 3 94 = some (.iload 5, 2)) rfl ?_
      refine Fr.iconst (by decide +kernel : zi 3 96 = some (.iconst 0, 1)) (by decide) ?_
      obtain ⟨⟨g0, g1⟩, h⟩ := h
      refine Fr.iast (c := 8) (N := 6) (by decide +kernel : zi 3 97 = some (.iastore, 1)) (by decide +kernel) (by decide) g0 g1 ?_
      exact Fr.retV (by decide +kernel : zi 3 98 = some (.return_, 1)) (by decide +kernel) h
    · have h := h.2 g9
      exact Fr.retV (by decide +kernel : zi 3 18 = some (.return_, 1)) (by decide +kernel) h
theorem e3 {xs : Nat → Int} {L : Nat} {d : Nat} {v1 : Int} {v2 : Int} {v3 : Int} {v4 : Int} {s : Pl} {Q : Option AV → Pl → Prop} (hd : 1 ≤ d) (k : Fr xs L T0 104 (d - 1) 3 0 [some (rf 2), some (it v1), some (it v2), some (it v3), some (it v4), none] [] s Q) : Ev xs L T0 104 d 3 [rf 2, it v1, it v2, it v3, it v4] s Q := Ev.of (by decide) _ rfl hd k
-- 4 X0_setHours
theorem f4_0 {xs : Nat → Int} {L : Nat} {d : Nat} {v1 : Int} {v2 : Int} {v3 : Int} {s : Pl} {P : Int → Pl → Prop} (h : Ev xs L T0 104 d 126 [it v1] s (qi fun r2 s1 => ((r2 = 0 → P 0 s1) ∧ (¬ (r2 = 0) → Ev xs L T0 104 d 126 [it v2] s1 (qi fun r4 s3 => ((¬ r4 = 0 → (0 ≤ zw ((zw (4 * v1)) + v2) ∧ zw ((zw (4 * v1)) + v2) < 16) ∧ (0 ≤ zw ((zw (4 * v1)) + v2) ∧ zw ((zw (4 * v1)) + v2) < 16) ∧ (0 ≤ zw ((zw (4 * v2)) + v1) ∧ zw ((zw (4 * v2)) + v1) < 16) ∧ P (s3 9 (zw ((zw (4 * v1)) + v2))) (zup (zup s3 9 (zw ((zw (4 * v1)) + v2)) v3) 9 (zw ((zw (4 * v2)) + v1)) v3)) ∧ (¬ (¬ r4 = 0) → P 0 s3))))))) : Fr xs L T0 104 d 4 0 [some (rf 2), some (it v1), some (it v2), some (it v3), none] [] s (qi P) := by
  refine Fr.ildn (by decide +kernel : zi 4 0 = some (.iload_n 1, 1)) rfl ?_
  refine Fr.callI (y2 := 126) (na := 1) (as := [it v1]) (rest := []) (by decide +kernel : zi 4 1 = some (.invokestatic 58, 3)) rfl (by decide +kernel) (by decide +kernel) rfl rfl (zok_S rfl (by decide) (by decide +kernel) rfl (Nat.le_of_ble_eq_true rfl)) h (fun r2 s1 h => ?_)
  refine Fr.if0 (q := 14) (by decide +kernel : zi 4 4 = some (.ifCond .eq 10, 3)) (by decide +kernel) (fun g9 => ?_) (fun g9 => ?_)
  · have h := h.1 g9
    refine Fr.iconst (by decide +kernel : zi 4 14 = some (.iconst 0, 1)) (by decide) ?_
    exact Fr.retI (by decide +kernel : zi 4 15 = some (.ireturn, 1)) (by decide +kernel) h
  · have h := h.2 g9
    refine Fr.ildn (by decide +kernel : zi 4 7 = some (.iload_n 2, 1)) rfl ?_
    refine Fr.callI (y2 := 126) (na := 1) (as := [it v2]) (rest := []) (by decide +kernel : zi 4 8 = some (.invokestatic 58, 3)) rfl (by decide +kernel) (by decide +kernel) rfl rfl (zok_S rfl (by decide) (by decide +kernel) rfl (Nat.le_of_ble_eq_true rfl)) h (fun r4 s3 h => ?_)
    refine Fr.if0 (q := 16) (by decide +kernel : zi 4 11 = some (.ifCond .ne 5, 3)) (by decide +kernel) (fun g9 => ?_) (fun g9 => ?_)
    · have h := h.1 g9
      refine Fr.aldn (c := 2) (by decide +kernel : zi 4 16 = some (.aload_n 0, 1)) rfl ⟨by omega, by omega⟩ ?_
      refine Fr.gR (c := 1) (c2 := 10) (ci := 0) (k := 10) 10 (by decide +kernel : zi 4 17 = some (.getfield 33, 3)) (by decide +kernel) (by decide +kernel) (by decide +kernel) (by decide) rfl (fun q => q (1, 10, 10) (by decide +kernel)) ?_
      refine Fr.iconst (by decide +kernel : zi 4 20 = some (.iconst 4, 1)) (by decide) ?_
      refine Fr.ildn (by decide +kernel : zi 4 21 = some (.iload_n 1, 1)) rfl ?_
      refine Fr.imul (by decide +kernel : zi 4 22 = some (.imul, 1)) ?_
      refine Fr.ildn (by decide +kernel : zi 4 23 = some (.iload_n 2, 1)) rfl ?_
      refine Fr.iadd (by decide +kernel : zi 4 24 = some (.iadd, 1)) ?_
      obtain ⟨⟨g0, g1⟩, h⟩ := h
      refine Fr.iald (c := 9) (N := 16) (by decide +kernel : zi 4 25 = some (.iaload, 1)) (by decide +kernel) (by decide) g0 g1 ?_
      refine Fr.ist (lv2 := [some (rf 2), some (it v1), some (it v2), some (it v3), some (it (s3 9 (zw ((zw (4 * v1)) + v2))))]) (by decide +kernel : zi 4 26 = some (.istore 4, 2)) (Nat.le_of_ble_eq_true rfl) rfl ?_
      refine Fr.aldn (c := 2) (by decide +kernel : zi 4 28 = some (.aload_n 0, 1)) rfl ⟨by omega, by omega⟩ ?_
      refine Fr.gR (c := 1) (c2 := 10) (ci := 0) (k := 10) 10 (by decide +kernel : zi 4 29 = some (.getfield 33, 3)) (by decide +kernel) (by decide +kernel) (by decide +kernel) (by decide) rfl (fun q => q (1, 10, 10) (by decide +kernel)) ?_
      refine Fr.iconst (by decide +kernel : zi 4 32 = some (.iconst 4, 1)) (by decide) ?_
      refine Fr.ildn (by decide +kernel : zi 4 33 = some (.iload_n 1, 1)) rfl ?_
      refine Fr.imul (by decide +kernel : zi 4 34 = some (.imul, 1)) ?_
      refine Fr.ildn (by decide +kernel : zi 4 35 = some (.iload_n 2, 1)) rfl ?_
      refine Fr.iadd (by decide +kernel : zi 4 36 = some (.iadd, 1)) ?_
      refine Fr.ildn (by decide +kernel : zi 4 37 = some (.iload_n 3, 1)) rfl ?_
      obtain ⟨⟨g0, g1⟩, h⟩ := h
      refine Fr.iast (c := 9) (N := 16) (by decide +kernel : zi 4 38 = some (.iastore, 1)) (by decide +kernel) (by decide) g0 g1 ?_
      refine Fr.aldn (c := 2) (by decide +kernel : zi 4 39 = some (.aload_n 0, 1)) rfl ⟨by omega, by omega⟩ ?_
      refine Fr.gR (c := 1) (c2 := 10) (ci := 0) (k := 10) 10 (by decide +kernel : zi 4 40 = some (.getfield 33, 3)) (by decide +kernel) (by decide +kernel) (by decide +kernel) (by decide) rfl (fun q => q (1, 10, 10) (by decide +kernel)) ?_
      refine Fr.iconst (by decide +kernel : zi 4 43 = some (.iconst 4, 1)) (by decide) ?_
      refine Fr.ildn (by decide +kernel : zi 4 44 = some (.iload_n 2, 1)) rfl ?_
      refine Fr.imul (by decide +kernel : zi 4 45 = some (.imul, 1)) ?_
      refine Fr.ildn (by decide +kernel : zi 4 46 = some (.iload_n 1, 1)) rfl ?_
      refine Fr.iadd (by decide +kernel : zi 4 47 = some (.iadd, 1)) ?_
      refine Fr.ildn (by decide +kernel : zi 4 48 = some (.iload_n 3, 1)) rfl ?_
      obtain ⟨⟨g0, g1⟩, h⟩ := h
      refine Fr.iast (c := 9) (N := 16) (by decide +kernel : zi 4 49 = some (.iastore, 1)) (by decide +kernel) (by decide) g0 g1 ?_
      refine Fr.ild (by decide +kernel : zi 4 50 = some (.iload 4, 2)) rfl ?_
      exact Fr.retI (by decide +kernel : zi 4 52 = some (.ireturn, 1)) (by decide +kernel) h
    · have h := h.2 g9
      refine Fr.iconst (by decide +kernel : zi 4 14 = some (.iconst 0, 1)) (by decide) ?_
      exact Fr.retI (by decide +kernel : zi 4 15 = some (.ireturn, 1)) (by decide +kernel) h
theorem e4 {xs : Nat → Int} {L : Nat} {d : Nat} {v1 : Int} {v2 : Int} {v3 : Int} {s : Pl} {Q : Option AV → Pl → Prop} (hd : 1 ≤ d) (k : Fr xs L T0 104 (d - 1) 4 0 [some (rf 2), some (it v1), some (it v2), some (it v3), none] [] s Q) : Ev xs L T0 104 d 4 [rf 2, it v1, it v2, it v3] s Q := Ev.of (by decide) _ rfl hd k
-- 5 X0_setFoes
theorem f5_0 {xs : Nat → Int} {L : Nat} {d : Nat} {v1 : Int} {v2 : Int} {v3 : Int} {s : Pl} {P : Int → Pl → Prop} (h : Ev xs L T0 104 d 2 [rf 2, it v1] s (qi fun r2 s1 => ((r2 = 0 → P 0 s1) ∧ (¬ (r2 = 0) → Ev xs L T0 104 d 2 [rf 2, it v2] s1 (qi fun r4 s3 => ((¬ r4 = 0 → (0 ≤ v1 ∧ v1 < 6) ∧ (0 ≤ v1 ∧ v1 < 6) ∧ (0 ≤ v1 ∧ v1 < 6) ∧ (0 ≤ v2 ∧ v2 < 6) ∧ (0 ≤ v2 ∧ v2 < 6) ∧ P (zand (zshr (s3 8 v1) v2) 1) (zup (zup s3 8 v1 (zor (zand (s3 8 v1) (zxor (zshl 1 v2) (-1))) (zshl v3 v2))) 8 v2 (zor (zand ((zup s3 8 v1 (zor (zand (s3 8 v1) (zxor (zshl 1 v2) (-1))) (zshl v3 v2))) 8 v2) (zxor (zshl 1 v1) (-1))) (zshl v3 v1)))) ∧ (¬ (¬ r4 = 0) → P 0 s3))))))) : Fr xs L T0 104 d 5 0 [some (rf 2), some (it v1), some (it v2), some (it v3), none] [] s (qi P) := by
  refine Fr.aldn (c := 2) (by decide +kernel : zi 5 0 = some (.aload_n 0, 1)) rfl ⟨by omega, by omega⟩ ?_
  refine Fr.ildn (by decide +kernel : zi 5 1 = some (.iload_n 1, 1)) rfl ?_
  refine Fr.callI (y2 := 2) (na := 2) (as := [rf 2, it v1]) (rest := []) (by decide +kernel : zi 5 2 = some (.invokevirtual 62, 3)) rfl (by decide +kernel) (by decide +kernel) rfl rfl (zok_V rfl (by decide) (by decide +kernel) (by decide +kernel) (zrecv_c (c := 1) (by decide) (by decide +kernel)) rfl (Nat.le_of_ble_eq_true rfl)) h (fun r2 s1 h => ?_)
  refine Fr.if0 (q := 16) (by decide +kernel : zi 5 5 = some (.ifCond .eq 11, 3)) (by decide +kernel) (fun g9 => ?_) (fun g9 => ?_)
  · have h := h.1 g9
    refine Fr.iconst (by decide +kernel : zi 5 16 = some (.iconst 0, 1)) (by decide) ?_
    exact Fr.retI (by decide +kernel : zi 5 17 = some (.ireturn, 1)) (by decide +kernel) h
  · have h := h.2 g9
    refine Fr.aldn (c := 2) (by decide +kernel : zi 5 8 = some (.aload_n 0, 1)) rfl ⟨by omega, by omega⟩ ?_
    refine Fr.ildn (by decide +kernel : zi 5 9 = some (.iload_n 2, 1)) rfl ?_
    refine Fr.callI (y2 := 2) (na := 2) (as := [rf 2, it v2]) (rest := []) (by decide +kernel : zi 5 10 = some (.invokevirtual 62, 3)) rfl (by decide +kernel) (by decide +kernel) rfl rfl (zok_V rfl (by decide) (by decide +kernel) (by decide +kernel) (zrecv_c (c := 1) (by decide) (by decide +kernel)) rfl (Nat.le_of_ble_eq_true rfl)) h (fun r4 s3 h => ?_)
    refine Fr.if0 (q := 18) (by decide +kernel : zi 5 13 = some (.ifCond .ne 5, 3)) (by decide +kernel) (fun g9 => ?_) (fun g9 => ?_)
    · have h := h.1 g9
      refine Fr.aldn (c := 2) (by decide +kernel : zi 5 18 = some (.aload_n 0, 1)) rfl ⟨by omega, by omega⟩ ?_
      refine Fr.gR (c := 1) (c2 := 9) (ci := 0) (k := 9) 9 (by decide +kernel : zi 5 19 = some (.getfield 30, 3)) (by decide +kernel) (by decide +kernel) (by decide +kernel) (by decide) rfl (fun q => q (1, 9, 9) (by decide +kernel)) ?_
      refine Fr.ildn (by decide +kernel : zi 5 22 = some (.iload_n 1, 1)) rfl ?_
      obtain ⟨⟨g0, g1⟩, h⟩ := h
      refine Fr.iald (c := 8) (N := 6) (by decide +kernel : zi 5 23 = some (.iaload, 1)) (by decide +kernel) (by decide) g0 g1 ?_
      refine Fr.ildn (by decide +kernel : zi 5 24 = some (.iload_n 2, 1)) rfl ?_
      refine Fr.ishr (by decide +kernel : zi 5 25 = some (.ishr, 1)) ?_
      refine Fr.iconst (by decide +kernel : zi 5 26 = some (.iconst 1, 1)) (by decide) ?_
      refine Fr.iand (by decide +kernel : zi 5 27 = some (.iand, 1)) ?_
      refine Fr.ist (lv2 := [some (rf 2), some (it v1), some (it v2), some (it v3), some (it (zand (zshr (s3 8 v1) v2) 1))]) (by decide +kernel : zi 5 28 = some (.istore 4, 2)) (Nat.le_of_ble_eq_true rfl) rfl ?_
      refine Fr.aldn (c := 2) (by decide +kernel : zi 5 30 = some (.aload_n 0, 1)) rfl ⟨by omega, by omega⟩ ?_
      refine Fr.gR (c := 1) (c2 := 9) (ci := 0) (k := 9) 9 (by decide +kernel : zi 5 31 = some (.getfield 30, 3)) (by decide +kernel) (by decide +kernel) (by decide +kernel) (by decide) rfl (fun q => q (1, 9, 9) (by decide +kernel)) ?_
      refine Fr.ildn (by decide +kernel : zi 5 34 = some (.iload_n 1, 1)) rfl ?_
      refine Fr.aldn (c := 2) (by decide +kernel : zi 5 35 = some (.aload_n 0, 1)) rfl ⟨by omega, by omega⟩ ?_
      refine Fr.gR (c := 1) (c2 := 9) (ci := 0) (k := 9) 9 (by decide +kernel : zi 5 36 = some (.getfield 30, 3)) (by decide +kernel) (by decide +kernel) (by decide +kernel) (by decide) rfl (fun q => q (1, 9, 9) (by decide +kernel)) ?_
      refine Fr.ildn (by decide +kernel : zi 5 39 = some (.iload_n 1, 1)) rfl ?_
      obtain ⟨⟨g0, g1⟩, h⟩ := h
      refine Fr.iald (c := 8) (N := 6) (by decide +kernel : zi 5 40 = some (.iaload, 1)) (by decide +kernel) (by decide) g0 g1 ?_
      refine Fr.iconst (by decide +kernel : zi 5 41 = some (.iconst 1, 1)) (by decide) ?_
      refine Fr.ildn (by decide +kernel : zi 5 42 = some (.iload_n 2, 1)) rfl ?_
      refine Fr.ishl (by decide +kernel : zi 5 43 = some (.ishl, 1)) ?_
      refine Fr.iconst (by decide +kernel : zi 5 44 = some (.iconst (-1), 1)) (by decide) ?_
      refine Fr.ixor (by decide +kernel : zi 5 45 = some (.ixor, 1)) ?_
      refine Fr.iand (by decide +kernel : zi 5 46 = some (.iand, 1)) ?_
      refine Fr.ildn (by decide +kernel : zi 5 47 = some (.iload_n 3, 1)) rfl ?_
      refine Fr.ildn (by decide +kernel : zi 5 48 = some (.iload_n 2, 1)) rfl ?_
      refine Fr.ishl (by decide +kernel : zi 5 49 = some (.ishl, 1)) ?_
      refine Fr.ior (by decide +kernel : zi 5 50 = some (.ior, 1)) ?_
      obtain ⟨⟨g0, g1⟩, h⟩ := h
      refine Fr.iast (c := 8) (N := 6) (by decide +kernel : zi 5 51 = some (.iastore, 1)) (by decide +kernel) (by decide) g0 g1 ?_
      refine Fr.aldn (c := 2) (by decide +kernel : zi 5 52 = some (.aload_n 0, 1)) rfl ⟨by omega, by omega⟩ ?_
      refine Fr.gR (c := 1) (c2 := 9) (ci := 0) (k := 9) 9 (by decide +kernel : zi 5 53 = some (.getfield 30, 3)) (by decide +kernel) (by decide +kernel) (by decide +kernel) (by decide) rfl (fun q => q (1, 9, 9) (by decide +kernel)) ?_
      refine Fr.ildn (by decide +kernel : zi 5 56 = some (.iload_n 2, 1)) rfl ?_
      refine Fr.aldn (c := 2) (by decide +kernel : zi 5 57 = some (.aload_n 0, 1)) rfl ⟨by omega, by omega⟩ ?_
      refine Fr.gR (c := 1) (c2 := 9) (ci := 0) (k := 9) 9 (by decide +kernel : zi 5 58 = some (.getfield 30, 3)) (by decide +kernel) (by decide +kernel) (by decide +kernel) (by decide) rfl (fun q => q (1, 9, 9) (by decide +kernel)) ?_
      refine Fr.ildn (by decide +kernel : zi 5 61 = some (.iload_n 2, 1)) rfl ?_
      obtain ⟨⟨g0, g1⟩, h⟩ := h
      refine Fr.iald (c := 8) (N := 6) (by decide +kernel : zi 5 62 = some (.iaload, 1)) (by decide +kernel) (by decide) g0 g1 ?_
      refine Fr.iconst (by decide +kernel : zi 5 63 = some (.iconst 1, 1)) (by decide) ?_
      refine Fr.ildn (by decide +kernel : zi 5 64 = some (.iload_n 1, 1)) rfl ?_
      refine Fr.ishl (by decide +kernel : zi 5 65 = some (.ishl, 1)) ?_
      refine Fr.iconst (by decide +kernel : zi 5 66 = some (.iconst (-1), 1)) (by decide) ?_
      refine Fr.ixor (by decide +kernel : zi 5 67 = some (.ixor, 1)) ?_
      refine Fr.iand (by decide +kernel : zi 5 68 = some (.iand, 1)) ?_
      refine Fr.ildn (by decide +kernel : zi 5 69 = some (.iload_n 3, 1)) rfl ?_
      refine Fr.ildn (by decide +kernel : zi 5 70 = some (.iload_n 1, 1)) rfl ?_
      refine Fr.ishl (by decide +kernel : zi 5 71 = some (.ishl, 1)) ?_
      refine Fr.ior (by decide +kernel : zi 5 72 = some (.ior, 1)) ?_
      obtain ⟨⟨g0, g1⟩, h⟩ := h
      refine Fr.iast (c := 8) (N := 6) (by decide +kernel : zi 5 73 = some (.iastore, 1)) (by decide +kernel) (by decide) g0 g1 ?_
      refine Fr.ild (by decide +kernel : zi 5 74 = some (.iload 4, 2)) rfl ?_
      exact Fr.retI (by decide +kernel : zi 5 76 = some (.ireturn, 1)) (by decide +kernel) h
    · have h := h.2 g9
      refine Fr.iconst (by decide +kernel : zi 5 16 = some (.iconst 0, 1)) (by decide) ?_
      exact Fr.retI (by decide +kernel : zi 5 17 = some (.ireturn, 1)) (by decide +kernel) h
theorem e5 {xs : Nat → Int} {L : Nat} {d : Nat} {v1 : Int} {v2 : Int} {v3 : Int} {s : Pl} {Q : Option AV → Pl → Prop} (hd : 1 ≤ d) (k : Fr xs L T0 104 (d - 1) 5 0 [some (rf 2), some (it v1), some (it v2), some (it v3), none] [] s Q) : Ev xs L T0 104 d 5 [rf 2, it v1, it v2, it v3] s Q := Ev.of (by decide) _ rfl hd k
-- 6 X0_whoIsAt
theorem f6_0 {xs : Nat → Int} {L : Nat} {d : Nat} {v1 : Int} {s : Pl} {P : Int → Pl → Prop} (h : Fr xs L T0 104 d 6 4 [some (rf 2), some (it v1), some (it 0), some (it 0)] [] s (qi P)) : Fr xs L T0 104 d 6 0 [some (rf 2), some (it v1), none, none] [] s (qi P) := by
  refine Fr.iconst (by decide +kernel : zi 6 0 = some (.iconst 0, 1)) (by decide) ?_
  refine Fr.istn (lv2 := [some (rf 2), some (it v1), some (it 0), none]) (by decide +kernel : zi 6 1 = some (.istore_n 2, 1)) (Nat.le_of_ble_eq_true rfl) rfl ?_
  refine Fr.iconst (by decide +kernel : zi 6 2 = some (.iconst 0, 1)) (by decide) ?_
  refine Fr.istn (lv2 := [some (rf 2), some (it v1), some (it 0), some (it 0)]) (by decide +kernel : zi 6 3 = some (.istore_n 3, 1)) (Nat.le_of_ble_eq_true rfl) rfl ?_
  exact h
theorem e6 {xs : Nat → Int} {L : Nat} {d : Nat} {v1 : Int} {s : Pl} {Q : Option AV → Pl → Prop} (hd : 1 ≤ d) (k : Fr xs L T0 104 (d - 1) 6 0 [some (rf 2), some (it v1), none, none] [] s Q) : Ev xs L T0 104 d 6 [rf 2, it v1] s Q := Ev.of (by decide) _ rfl hd k
theorem f6_4 {xs : Nat → Int} {L : Nat} {d : Nat} {v1 : Int} {v2 : Int} {v3 : Int} {s : Pl} {P : Int → Pl → Prop} (h : ((s 1 1 ≤ v3 → P v2 s) ∧ (¬ (s 1 1 ≤ v3) → ((6 ≤ v3 → P v2 s) ∧ (¬ (6 ≤ v3) → (0 ≤ v3 ∧ v3 < 6) ∧ ((¬ s 2 v3 = v1 → Fr xs L T0 104 d 6 34 [some (rf 2), some (it v1), some (it v2), some (it v3)] [] s (qi P)) ∧ (¬ (¬ s 2 v3 = v1) → Fr xs L T0 104 d 6 34 [some (rf 2), some (it v1), some (it (zor v2 (zshl 1 v3))), some (it v3)] [] s (qi P)))))))) : Fr xs L T0 104 d 6 4 [some (rf 2), some (it v1), some (it v2), some (it v3)] [] s (qi P) := by
  refine Fr.ildn (by decide +kernel : zi 6 4 = some (.iload_n 3, 1)) rfl ?_
  refine Fr.aldn (c := 2) (by decide +kernel : zi 6 5 = some (.aload_n 0, 1)) rfl ⟨by omega, by omega⟩ ?_
  refine Fr.gI (c := 1) (ci := 0) (k := 1) (t := 0) 1 (by decide +kernel : zi 6 6 = some (.getfield 46, 3)) (by decide +kernel) (by decide +kernel) (by decide +kernel) (by decide) rfl ?_
  refine Fr.if2 (q := 40) (by decide +kernel : zi 6 9 = some (.if_icmp .ge 31, 3)) (by decide +kernel) (fun g9 => ?_) (fun g9 => ?_)
  · have h := h.1 g9
    refine Fr.ildn (by decide +kernel : zi 6 40 = some (.iload_n 2, 1)) rfl ?_
    exact Fr.retI (by decide +kernel : zi 6 41 = some (.ireturn, 1)) (by decide +kernel) h
  · have h := h.2 g9
    refine Fr.ildn (by decide +kernel : zi 6 12 = some (.iload_n 3, 1)) rfl ?_
    refine Fr.bipush (by decide +kernel : zi 6 13 = some (.bipush 6, 2)) (by decide) ?_
    refine Fr.if2 (q := 40) (by decide +kernel : zi 6 15 = some (.if_icmp .ge 25, 3)) (by decide +kernel) (fun g9 => ?_) (fun g9 => ?_)
    · have h := h.1 g9
      refine Fr.ildn (by decide +kernel : zi 6 40 = some (.iload_n 2, 1)) rfl ?_
      exact Fr.retI (by decide +kernel : zi 6 41 = some (.ireturn, 1)) (by decide +kernel) h
    · have h := h.2 g9
      refine Fr.aldn (c := 2) (by decide +kernel : zi 6 18 = some (.aload_n 0, 1)) rfl ⟨by omega, by omega⟩ ?_
      refine Fr.gR (c := 1) (c2 := 3) (ci := 0) (k := 3) 3 (by decide +kernel : zi 6 19 = some (.getfield 9, 3)) (by decide +kernel) (by decide +kernel) (by decide +kernel) (by decide) rfl (fun q => q (1, 3, 3) (by decide +kernel)) ?_
      refine Fr.ildn (by decide +kernel : zi 6 22 = some (.iload_n 3, 1)) rfl ?_
      obtain ⟨⟨g0, g1⟩, h⟩ := h
      refine Fr.iald (c := 2) (N := 6) (by decide +kernel : zi 6 23 = some (.iaload, 1)) (by decide +kernel) (by decide) g0 g1 ?_
      refine Fr.ildn (by decide +kernel : zi 6 24 = some (.iload_n 1, 1)) rfl ?_
      refine Fr.if2 (q := 34) (by decide +kernel : zi 6 25 = some (.if_icmp .ne 9, 3)) (by decide +kernel) (fun g9 => ?_) (fun g9 => ?_)
      · have h := h.1 g9
        exact h
      · have h := h.2 g9
        refine Fr.ildn (by decide +kernel : zi 6 28 = some (.iload_n 2, 1)) rfl ?_
        refine Fr.iconst (by decide +kernel : zi 6 29 = some (.iconst 1, 1)) (by decide) ?_
        refine Fr.ildn (by decide +kernel : zi 6 30 = some (.iload_n 3, 1)) rfl ?_
        refine Fr.ishl (by decide +kernel : zi 6 31 = some (.ishl, 1)) ?_
        refine Fr.ior (by decide +kernel : zi 6 32 = some (.ior, 1)) ?_
        refine Fr.istn (lv2 := [some (rf 2), some (it v1), some (it (zor v2 (zshl 1 v3))), some (it v3)]) (by decide +kernel : zi 6 33 = some (.istore_n 2, 1)) (Nat.le_of_ble_eq_true rfl) rfl ?_
        exact h
theorem f6_34 {xs : Nat → Int} {L : Nat} {d : Nat} {v1 : Int} {v2 : Int} {v3 : Int} {s : Pl} {P : Int → Pl → Prop} (h : Fr xs L T0 104 d 6 4 [some (rf 2), some (it v1), some (it v2), some (it (zw (v3 + 1)))] [] s (qi P)) : Fr xs L T0 104 d 6 34 [some (rf 2), some (it v1), some (it v2), some (it v3)] [] s (qi P) := by
  refine Fr.iinc (lv2 := [some (rf 2), some (it v1), some (it v2), some (it (zw (v3 + 1)))]) (by decide +kernel : zi 6 34 = some (.iinc 3 1, 3)) (Nat.le_of_ble_eq_true rfl) rfl rfl ?_
  refine Fr.goto (q := 4) (by decide +kernel : zi 6 37 = some (.goto (-33), 3)) (by decide +kernel) ?_
  exact h
-- 7 X0_whoIsA
theorem f7_0 {xs : Nat → Int} {L : Nat} {d : Nat} {v1 : Int} {s : Pl} {P : Int → Pl → Prop} (h : Fr xs L T0 104 d 7 4 [some (rf 2), some (it v1), some (it 0), some (it 0)] [] s (qi P)) : Fr xs L T0 104 d 7 0 [some (rf 2), some (it v1), none, none] [] s (qi P) := by
  refine Fr.iconst (by decide +kernel : zi 7 0 = some (.iconst 0, 1)) (by decide) ?_
  refine Fr.istn (lv2 := [some (rf 2), some (it v1), some (it 0), none]) (by decide +kernel : zi 7 1 = some (.istore_n 2, 1)) (Nat.le_of_ble_eq_true rfl) rfl ?_
  refine Fr.iconst (by decide +kernel : zi 7 2 = some (.iconst 0, 1)) (by decide) ?_
  refine Fr.istn (lv2 := [some (rf 2), some (it v1), some (it 0), some (it 0)]) (by decide +kernel : zi 7 3 = some (.istore_n 3, 1)) (Nat.le_of_ble_eq_true rfl) rfl ?_
  exact h
theorem e7 {xs : Nat → Int} {L : Nat} {d : Nat} {v1 : Int} {s : Pl} {Q : Option AV → Pl → Prop} (hd : 1 ≤ d) (k : Fr xs L T0 104 (d - 1) 7 0 [some (rf 2), some (it v1), none, none] [] s Q) : Ev xs L T0 104 d 7 [rf 2, it v1] s Q := Ev.of (by decide) _ rfl hd k
theorem f7_4 {xs : Nat → Int} {L : Nat} {d : Nat} {v1 : Int} {v2 : Int} {v3 : Int} {s : Pl} {P : Int → Pl → Prop} (h : ((s 1 1 ≤ v3 → P v2 s) ∧ (¬ (s 1 1 ≤ v3) → ((6 ≤ v3 → P v2 s) ∧ (¬ (6 ≤ v3) → (0 ≤ v3 ∧ v3 < 6) ∧ Ev xs L T0 104 d 129 [it (s 3 v3), it v1] s (qi fun r2 s1 => ((r2 = 0 → Fr xs L T0 104 d 7 37 [some (rf 2), some (it v1), some (it v2), some (it v3)] [] s1 (qi P)) ∧ (¬ (r2 = 0) → Fr xs L T0 104 d 7 37 [some (rf 2), some (it v1), some (it (zor v2 (zshl 1 v3))), some (it v3)] [] s1 (qi P))))))))) : Fr xs L T0 104 d 7 4 [some (rf 2), some (it v1), some (it v2), some (it v3)] [] s (qi P) := by
  refine Fr.ildn (by decide +kernel : zi 7 4 = some (.iload_n 3, 1)) rfl ?_
  refine Fr.aldn (c := 2) (by decide +kernel : zi 7 5 = some (.aload_n 0, 1)) rfl ⟨by omega, by omega⟩ ?_
  refine Fr.gI (c := 1) (ci := 0) (k := 1) (t := 0) 1 (by decide +kernel : zi 7 6 = some (.getfield 46, 3)) (by decide +kernel) (by decide +kernel) (by decide +kernel) (by decide) rfl ?_
  refine Fr.if2 (q := 43) (by decide +kernel : zi 7 9 = some (.if_icmp .ge 34, 3)) (by decide +kernel) (fun g9 => ?_) (fun g9 => ?_)
  · have h := h.1 g9
    refine Fr.ildn (by decide +kernel : zi 7 43 = some (.iload_n 2, 1)) rfl ?_
    exact Fr.retI (by decide +kernel : zi 7 44 = some (.ireturn, 1)) (by decide +kernel) h
  · have h := h.2 g9
    refine Fr.ildn (by decide +kernel : zi 7 12 = some (.iload_n 3, 1)) rfl ?_
    refine Fr.bipush (by decide +kernel : zi 7 13 = some (.bipush 6, 2)) (by decide) ?_
    refine Fr.if2 (q := 43) (by decide +kernel : zi 7 15 = some (.if_icmp .ge 28, 3)) (by decide +kernel) (fun g9 => ?_) (fun g9 => ?_)
    · have h := h.1 g9
      refine Fr.ildn (by decide +kernel : zi 7 43 = some (.iload_n 2, 1)) rfl ?_
      exact Fr.retI (by decide +kernel : zi 7 44 = some (.ireturn, 1)) (by decide +kernel) h
    · have h := h.2 g9
      refine Fr.aldn (c := 2) (by decide +kernel : zi 7 18 = some (.aload_n 0, 1)) rfl ⟨by omega, by omega⟩ ?_
      refine Fr.gR (c := 1) (c2 := 4) (ci := 0) (k := 4) 4 (by decide +kernel : zi 7 19 = some (.getfield 15, 3)) (by decide +kernel) (by decide +kernel) (by decide +kernel) (by decide) rfl (fun q => q (1, 4, 4) (by decide +kernel)) ?_
      refine Fr.ildn (by decide +kernel : zi 7 22 = some (.iload_n 3, 1)) rfl ?_
      obtain ⟨⟨g0, g1⟩, h⟩ := h
      refine Fr.iald (c := 3) (N := 6) (by decide +kernel : zi 7 23 = some (.iaload, 1)) (by decide +kernel) (by decide) g0 g1 ?_
      refine Fr.ildn (by decide +kernel : zi 7 24 = some (.iload_n 1, 1)) rfl ?_
      refine Fr.callI (y2 := 129) (na := 2) (as := [it (s 3 v3), it v1]) (rest := []) (by decide +kernel : zi 7 25 = some (.invokestatic 65, 3)) rfl (by decide +kernel) (by decide +kernel) rfl rfl (zok_S rfl (by decide) (by decide +kernel) rfl (Nat.le_of_ble_eq_true rfl)) h (fun r2 s1 h => ?_)
      refine Fr.if0 (q := 37) (by decide +kernel : zi 7 28 = some (.ifCond .eq 9, 3)) (by decide +kernel) (fun g9 => ?_) (fun g9 => ?_)
      · have h := h.1 g9
        exact h
      · have h := h.2 g9
        refine Fr.ildn (by decide +kernel : zi 7 31 = some (.iload_n 2, 1)) rfl ?_
        refine Fr.iconst (by decide +kernel : zi 7 32 = some (.iconst 1, 1)) (by decide) ?_
        refine Fr.ildn (by decide +kernel : zi 7 33 = some (.iload_n 3, 1)) rfl ?_
        refine Fr.ishl (by decide +kernel : zi 7 34 = some (.ishl, 1)) ?_
        refine Fr.ior (by decide +kernel : zi 7 35 = some (.ior, 1)) ?_
        refine Fr.istn (lv2 := [some (rf 2), some (it v1), some (it (zor v2 (zshl 1 v3))), some (it v3)]) (by decide +kernel : zi 7 36 = some (.istore_n 2, 1)) (Nat.le_of_ble_eq_true rfl) rfl ?_
        exact h
theorem f7_37 {xs : Nat → Int} {L : Nat} {d : Nat} {v1 : Int} {v2 : Int} {v3 : Int} {s : Pl} {P : Int → Pl → Prop} (h : Fr xs L T0 104 d 7 4 [some (rf 2), some (it v1), some (it v2), some (it (zw (v3 + 1)))] [] s (qi P)) : Fr xs L T0 104 d 7 37 [some (rf 2), some (it v1), some (it v2), some (it v3)] [] s (qi P) := by
  refine Fr.iinc (lv2 := [some (rf 2), some (it v1), some (it v2), some (it (zw (v3 + 1)))]) (by decide +kernel : zi 7 37 = some (.iinc 3 1, 3)) (Nat.le_of_ble_eq_true rfl) rfl rfl ?_
  refine Fr.goto (q := 4) (by decide +kernel : zi 7 40 = some (.goto (-36), 3)) (by decide +kernel) ?_
  exact h
-- 8 X0_state
theorem f8_0 {xs : Nat → Int} {L : Nat} {d : Nat}  {s : Pl} {P : Int → Pl → Prop} (h : Fr xs L T0 104 d 8 7 [some (rf 2), some (it (s 1 0)), some (it 0)] [] s (qi P)) : Fr xs L T0 104 d 8 0 [some (rf 2), none, none] [] s (qi P) := by
  refine Fr.aldn (c := 2) (by decide +kernel : zi 8 0 = some (.aload_n 0, 1)) rfl ⟨by omega, by omega⟩ ?_
  refine Fr.gI (c := 1) (ci := 0) (k := 0) (t := 0) 0 (by decide +kernel : zi 8 1 = some (.getfield 42, 3)) (by decide +kernel) (by decide +kernel) (by decide +kernel) (by decide) rfl ?_
  refine Fr.istn (lv2 := [some (rf 2), some (it (s 1 0)), none]) (by decide +kernel : zi 8 4 = some (.istore_n 1, 1)) (Nat.le_of_ble_eq_true rfl) rfl ?_
  refine Fr.iconst (by decide +kernel : zi 8 5 = some (.iconst 0, 1)) (by decide) ?_
  refine Fr.istn (lv2 := [some (rf 2), some (it (s 1 0)), some (it 0)]) (by decide +kernel : zi 8 6 = some (.istore_n 2, 1)) (Nat.le_of_ble_eq_true rfl) rfl ?_
  exact h
theorem e8 {xs : Nat → Int} {L : Nat} {d : Nat}  {s : Pl} {Q : Option AV → Pl → Prop} (hd : 1 ≤ d) (k : Fr xs L T0 104 (d - 1) 8 0 [some (rf 2), none, none] [] s Q) : Ev xs L T0 104 d 8 [rf 2] s Q := Ev.of (by decide) _ rfl hd k
theorem f8_7 {xs : Nat → Int} {L : Nat} {d : Nat} {v1 : Int} {v2 : Int} {s : Pl} {P : Int → Pl → Prop} (h : ((s 1 1 ≤ v2 → P v1 s) ∧ (¬ (s 1 1 ≤ v2) → ((6 ≤ v2 → P v1 s) ∧ (¬ (6 ≤ v2) → (0 ≤ v2 ∧ v2 < 6) ∧ (0 ≤ v2 ∧ v2 < 6) ∧ Fr xs L T0 104 d 8 7 [some (rf 2), some (it (zw (v1 + (zw ((s 2 v2) * ((zgiv xs L 1).2 v2)))))), some (it (zw (v2 + 1)))] [] s (qi P)))))) : Fr xs L T0 104 d 8 7 [some (rf 2), some (it v1), some (it v2)] [] s (qi P) := by
  refine Fr.ildn (by decide +kernel : zi 8 7 = some (.iload_n 2, 1)) rfl ?_
  refine Fr.aldn (c := 2) (by decide +kernel : zi 8 8 = some (.aload_n 0, 1)) rfl ⟨by omega, by omega⟩ ?_
  refine Fr.gI (c := 1) (ci := 0) (k := 1) (t := 0) 1 (by decide +kernel : zi 8 9 = some (.getfield 46, 3)) (by decide +kernel) (by decide +kernel) (by decide +kernel) (by decide) rfl ?_
  refine Fr.if2 (q := 42) (by decide +kernel : zi 8 12 = some (.if_icmp .ge 30, 3)) (by decide +kernel) (fun g9 => ?_) (fun g9 => ?_)
  · have h := h.1 g9
    refine Fr.ildn (by decide +kernel : zi 8 42 = some (.iload_n 1, 1)) rfl ?_
    exact Fr.retI (by decide +kernel : zi 8 43 = some (.ireturn, 1)) (by decide +kernel) h
  · have h := h.2 g9
    refine Fr.ildn (by decide +kernel : zi 8 15 = some (.iload_n 2, 1)) rfl ?_
    refine Fr.bipush (by decide +kernel : zi 8 16 = some (.bipush 6, 2)) (by decide) ?_
    refine Fr.if2 (q := 42) (by decide +kernel : zi 8 18 = some (.if_icmp .ge 24, 3)) (by decide +kernel) (fun g9 => ?_) (fun g9 => ?_)
    · have h := h.1 g9
      refine Fr.ildn (by decide +kernel : zi 8 42 = some (.iload_n 1, 1)) rfl ?_
      exact Fr.retI (by decide +kernel : zi 8 43 = some (.ireturn, 1)) (by decide +kernel) h
    · have h := h.2 g9
      refine Fr.ildn (by decide +kernel : zi 8 21 = some (.iload_n 1, 1)) rfl ?_
      refine Fr.aldn (c := 2) (by decide +kernel : zi 8 22 = some (.aload_n 0, 1)) rfl ⟨by omega, by omega⟩ ?_
      refine Fr.gR (c := 1) (c2 := 3) (ci := 0) (k := 3) 3 (by decide +kernel : zi 8 23 = some (.getfield 9, 3)) (by decide +kernel) (by decide +kernel) (by decide +kernel) (by decide) rfl (fun q => q (1, 3, 3) (by decide +kernel)) ?_
      refine Fr.ildn (by decide +kernel : zi 8 26 = some (.iload_n 2, 1)) rfl ?_
      obtain ⟨⟨g0, g1⟩, h⟩ := h
      refine Fr.iald (c := 2) (N := 6) (by decide +kernel : zi 8 27 = some (.iaload, 1)) (by decide +kernel) (by decide) g0 g1 ?_
      refine Fr.gets (v := rf 100001) (by decide +kernel : zi 8 28 = some (.getstatic 69, 3)) (by decide +kernel) ?_
      refine Fr.ildn (by decide +kernel : zi 8 31 = some (.iload_n 2, 1)) rfl ?_
      obtain ⟨⟨g0, g1⟩, h⟩ := h
      refine Fr.giv (j := 1) (by decide +kernel : zi 8 32 = some (.iaload, 1)) (by decide) g0 (show _ < ((zgiv xs L 1).1 : Int) from g1) ?_
      refine Fr.imul (by decide +kernel : zi 8 33 = some (.imul, 1)) ?_
      refine Fr.iadd (by decide +kernel : zi 8 34 = some (.iadd, 1)) ?_
      refine Fr.istn (lv2 := [some (rf 2), some (it (zw (v1 + (zw ((s 2 v2) * ((zgiv xs L 1).2 v2)))))), some (it v2)]) (by decide +kernel : zi 8 35 = some (.istore_n 1, 1)) (Nat.le_of_ble_eq_true rfl) rfl ?_
      refine Fr.iinc (lv2 := [some (rf 2), some (it (zw (v1 + (zw ((s 2 v2) * ((zgiv xs L 1).2 v2)))))), some (it (zw (v2 + 1)))]) (by decide +kernel : zi 8 36 = some (.iinc 2 1, 3)) (Nat.le_of_ble_eq_true rfl) rfl rfl ?_
      refine Fr.goto (q := 7) (by decide +kernel : zi 8 39 = some (.goto (-32), 3)) (by decide +kernel) ?_
      exact h
end
section
/-! what is left: the walker's run of the law ends with 1 -/
theorem pure_law (xs : Nat → Int) (L : Nat) (hx : ∀ j, zR (xs j)) (hL : L ≤ 3584) : zPure xs L := by
  sorry
end
section
theorem whole_start {p : Program} {e : Env} {s : State} {m : MethodId} {below : List Frame} {meth : Method} {c : Code} (l : Launch) (hflags : l.flags = flags0) {b L : Nat} {xs : Nat → Int32} (hL : L ≤ 3584) (C0 : lw_At p s m meth c b L xs) : W p l e room_1 s m #[Value.ref b] below meth c s.heap [] 0 0 (lw_Z below #[Value.ref b] s) (entryFrame m ([Value.ref b] : List Value).toArray 4) :=
  zstart l hL C0 (pure_law _ L (fun j => zR_t _) hL)
-- ===== YOUR PART ENDS =====
set_option maxHeartbeats 4000000 in
theorem lw_walk (l : Launch) (hflags : l.flags = flags0) (b : Addr) (xs : List Int32) : MetFree l x (headSpec (Jvm.Cond.code x code maxLocals ret :: tables_1) room_1) (lw_P b xs) (fun _ _ _ _ _ => True) lw_Q := by
  refine MetFree.of_bodyS (code := code) (maxLocals := maxLocals) (ret := ret) (by decide) ?_ ?_
  · intro args s m h hn
    obtain ⟨meth, c, h1, h2, h3, h4, h5, h6, -, -⟩ := Cond.code_spec hn (atoms_spec (ws := Jvm.Cond.code x code maxLocals ret :: tables_1) h _ List.mem_cons_self)
    exact ⟨meth, c, h1, h2, h3, h4, h5, h6⟩
  · intro p e s m args below meth c s₁ B hml0 hP _
    obtain ⟨rfl, hx, hbd, hgv⟩ := hP
    obtain ⟨scr, harrAt, hlist, hof, hsmall⟩ := hx
    obtain ⟨hcb, hkn, -, -⟩ := State.arrayAt?_spec harrAt
    have hown : s.vm.findClass R_law = some m.cls := findClass_of_methodNamed B.named
    have hts0 : ∀ c ∈ (Jvm.Cond.code x code maxLocals ret :: tables_1), c.before #[Value.ref b] s = true := atoms_spec (ws := Jvm.Cond.code x code maxLocals ret :: tables_1) B.pre
    have hts : ∀ w ∈ lw_tbl, w.before #[Value.ref b] s = true := k2_hts_sels lw_privs (fun w hw => hts0 w (List.mem_cons_of_mem _ hw)) lw_privs_ok
    have hml : c.maxLocals = 4 := B.maxLocals_eq (hts0 _ List.mem_cons_self)
    have X₀ : Stand p l e room_1 s m #[Value.ref b] below meth c s₁ [] 0 0 := Stand.of_body B
    have hh0 : s₁.heap = s.heap := by rw [B.state]; rfl
    have hsz : scr.slots.size = xs.length := by rw [← Array.length_toList, hlist, List.length_map]
    have hval : ∀ j : Nat, j < xs.length → scr.slots[j]? = some (.int (xs.getD j 0)) := fun j hj => by
      rw [← Array.getElem?_toList, hlist]
      simp [hj]
    have hbl : b < s.heap.size := (Array.getElem?_eq_some_iff.mp hcb).1
    have hX : va_X b xs.length (fun j => xs.getD j 0) s s.heap := ⟨scr, hcb, hof, hkn, hsz, hval⟩
    have K : W p l e room_1 s m #[Value.ref b] below meth c s₁.heap [] 0 0 (lw_Z below #[Value.ref b] s) (entryFrame m ([Value.ref b] : List Value).toArray 4) := by
      rw [hh0]
      exact whole_start l hflags hbd ⟨B.exec, B.bytes, B.returns, hml, hown, hts, hX, hbl, B.notSynchronized, hgv⟩
    obtain ⟨t, a1, o, b1, b2, b3⟩ := K s₁ rfl X₀
    exact ⟨t, o, a1, b1, b2, b3⟩
theorem lw_pre_spec {args : Array Value} {s : State} (h : (Jvm.Cond.and given_1 narrow_1).before args s = true) (hr : rest_1_c.before args s = true) : ∃ (b : Addr) (xs : List Int32), lw_P b xs args s := by
  have hs := flat_of_before _ h
  have hq := flat_of_before _ hr
  have hc : (Cond.count 1).before args s = true := hs _ (by decide +kernel)
  have harr : (Cond.arrayOf (.arg 0) .int).before args s = true := hs _ (by decide +kernel)
  have hle : (Cond.le (.length (.arg 0)) (.int 3584)).before args s = true := hs _ (by decide +kernel)
  have hlen : (Cond.isInt (.length (.arg 0))).before args s = true := hq _ (by decide +kernel)
  have hall : (Cond.all (.arg 0) (.isInt (.elem (.arg 0) (.index 0)))).before args s = true := hq _ (by decide +kernel)
  obtain ⟨b, xs, hb, hx⟩ := State.ints_of_pre rfl harr hlen hall
  have hsm : xs.length < 2 ^ 31 := hx.choose_spec.2.2.2
  have hev : (Term.length (.arg 0)).eval args s none [] s = some (.int xs.length.toInt32) := hx.length_eval hb
  have hv := Cond.le_ints hev (show (Term.int 3584).eval args s none [] s = some (.int 3584) from rfl)
  have hd : xs.length.toInt32 ≤ 3584 := by
    simpa [Cond.before, Cond.holds, hv] using hle
  have hN : xs.length ≤ 3584 := (Int32.ofNat_le_ofNat hsm (by decide)).mp (show Int32.ofNat xs.length ≤ Int32.ofNat 3584 from hd)
  exact ⟨b, xs, Cond.one_arg hc (show args[0]? = some (.ref b) from hb), hx, hN, h⟩
theorem lw_comes (l : Launch) (hflags : l.flags = flags0) : Comes l x (Jvm.Cond.code x code maxLocals ret :: tables_1) room_1 (fun tb e args s => Calls_1 tb e args s ∧ rest_1 tb e args s ∧ Pre_1 tb e args s)
    (fun _ _ args s o t => lw_Q args s o t) := by
  intro p e ha hc hk s m args below hf hfit hheap happ hpre
  obtain ⟨b, xs, hP⟩ := lw_pre_spec hpre.2.2 hpre.2.1
  obtain ⟨k, o, h1, h2, h3, hQ⟩ := lw_walk l hflags b xs p e ha hc hk s m args below hf ((Spec.applies_iff_loose hf).mp happ).1 hP trivial
  exact ⟨k, o, h1, h2, h3, hQ⟩
theorem lw_frame {s t : State} {o : Outcome} {args : Array Value} (h : Framed s o t [] 600000 7302250) :
    Framed s o t (fieldLocs frame_1_writes args s ++ arrayLocs frame_1_arrays args s ++ staticLocs frame_1_statics s) 600000 7302250 := h
theorem lw_limb (L : Cond) (hL : ∀ (args : Array Value) (s t : State), L.after args s (.returned (some (.int 1))) t = true) :
    ArmFor flags0 classFile x code maxLocals ret World_1 tables_1 room_1 Calls_1 rest_1 Pre_1
      (fun tb e a s o t => postC L tb e a s o t ∧ Framed s o t (fieldLocs frame_1_writes a s ++ arrayLocs frame_1_arrays a s ++ staticLocs frame_1_statics s) 600000 7302250) := by
  intro l hflags _ _ p e ha hc hk s m args below hf hfit hheap happ hpre
  obtain ⟨k, o, h1, h2, h3, rfl, hF⟩ := lw_comes l hflags p e ha hc hk s m args below hf hfit hheap happ hpre
  exact ⟨k, _, h1, h2, h3, hL args s _, lw_frame hF⟩
theorem i_vc : Claimed_1_1 ∧ Claimed_1_2 := ⟨lw_limb limb_1_1 (fun args s t => by simp [limb_1_1, Cond.after, Cond.holds, Cond.value]), lw_limb limb_1_2 (fun args s t => Cond.after_iff.mpr (by
  first | (rw [show limb_1_2 = Cond.eq .result (.int 1) from rfl, Cond.eq_ints (x := 1) (y := 1) rfl rfl]; simp; done) | (simp [limb_1_2, Cond.value, Term.eval]; done)))⟩
end
