section
-- ===== PART A: goes FIRST, ahead of the names: the tables' words, and 'selects' of the private methods out of them =====
/-- a private method of a class that the tables say can be made, by its rows of tables_1 -/
def lw_okq (q : MethodName × Nat) : Prop := (q.1.cls ≠ "java/lang/invoke/MethodHandle" ∧ q.1.cls ≠ "java/lang/invoke/VarHandle") ∧ Cond.instantiable q.1.cls q.2 ∈ tables_1 ∧ Cond.privateMethod q.1 ∈ tables_1 ∧ Cond.instanceMethod q.1 ∈ tables_1
theorem lw_p0 : lw_okq (⟨"ChoiceBook$Parser", "pass", "(I)V"⟩, 10) := ⟨⟨by decide +kernel, by decide +kernel⟩, List.mem_of_getElem? (i := 25) (by decide +kernel), List.mem_of_getElem? (i := 292) (by decide +kernel), List.mem_of_getElem? (i := 293) (by decide +kernel)⟩
theorem lw_p1 : lw_okq (⟨"ChoiceBook$Parser", "isWord", "(Ljava/lang/String;)Z"⟩, 10) := ⟨⟨by decide +kernel, by decide +kernel⟩, List.mem_of_getElem? (i := 25) (by decide +kernel), List.mem_of_getElem? (i := 297) (by decide +kernel), List.mem_of_getElem? (i := 298) (by decide +kernel)⟩
theorem lw_p2 : lw_okq (⟨"ChoiceBook$Parser", "readHealth", "()V"⟩, 10) := ⟨⟨by decide +kernel, by decide +kernel⟩, List.mem_of_getElem? (i := 25) (by decide +kernel), List.mem_of_getElem? (i := 349) (by decide +kernel), List.mem_of_getElem? (i := 350) (by decide +kernel)⟩
theorem lw_p3 : lw_okq (⟨"ChoiceBook$Parser", "fail", "(II)V"⟩, 10) := ⟨⟨by decide +kernel, by decide +kernel⟩, List.mem_of_getElem? (i := 25) (by decide +kernel), List.mem_of_getElem? (i := 353) (by decide +kernel), List.mem_of_getElem? (i := 354) (by decide +kernel)⟩
theorem lw_p4 : lw_okq (⟨"ChoiceBook$Parser", "readNumber", "(II)I"⟩, 10) := ⟨⟨by decide +kernel, by decide +kernel⟩, List.mem_of_getElem? (i := 25) (by decide +kernel), List.mem_of_getElem? (i := 357) (by decide +kernel), List.mem_of_getElem? (i := 358) (by decide +kernel)⟩
theorem lw_p5 : lw_okq (⟨"ChoiceBook$Parser", "closeClause", "()V"⟩, 10) := ⟨⟨by decide +kernel, by decide +kernel⟩, List.mem_of_getElem? (i := 25) (by decide +kernel), List.mem_of_getElem? (i := 361) (by decide +kernel), List.mem_of_getElem? (i := 362) (by decide +kernel)⟩
theorem lw_p6 : lw_okq (⟨"ChoiceBook$Parser", "readPart", "()V"⟩, 10) := ⟨⟨by decide +kernel, by decide +kernel⟩, List.mem_of_getElem? (i := 25) (by decide +kernel), List.mem_of_getElem? (i := 366) (by decide +kernel), List.mem_of_getElem? (i := 367) (by decide +kernel)⟩
theorem lw_p7 : lw_okq (⟨"ChoiceBook$Parser", "readEffects", "(I)V"⟩, 10) := ⟨⟨by decide +kernel, by decide +kernel⟩, List.mem_of_getElem? (i := 25) (by decide +kernel), List.mem_of_getElem? (i := 374) (by decide +kernel), List.mem_of_getElem? (i := 375) (by decide +kernel)⟩
theorem lw_p8 : lw_okq (⟨"ChoiceBook$Parser", "effectHere", "()I"⟩, 10) := ⟨⟨by decide +kernel, by decide +kernel⟩, List.mem_of_getElem? (i := 25) (by decide +kernel), List.mem_of_getElem? (i := 378) (by decide +kernel), List.mem_of_getElem? (i := 379) (by decide +kernel)⟩
theorem lw_p9 : lw_okq (⟨"ChoiceBook$Parser", "readEnd", "(I)V"⟩, 10) := ⟨⟨by decide +kernel, by decide +kernel⟩, List.mem_of_getElem? (i := 25) (by decide +kernel), List.mem_of_getElem? (i := 394) (by decide +kernel), List.mem_of_getElem? (i := 395) (by decide +kernel)⟩
theorem lw_p10 : lw_okq (⟨"ChoiceBook$Parser", "readTarget", "()I"⟩, 10) := ⟨⟨by decide +kernel, by decide +kernel⟩, List.mem_of_getElem? (i := 25) (by decide +kernel), List.mem_of_getElem? (i := 401) (by decide +kernel), List.mem_of_getElem? (i := 402) (by decide +kernel)⟩
theorem lw_p11 : lw_okq (⟨"ChoiceBook$Parser", "readChoices", "(I)V"⟩, 10) := ⟨⟨by decide +kernel, by decide +kernel⟩, List.mem_of_getElem? (i := 25) (by decide +kernel), List.mem_of_getElem? (i := 409) (by decide +kernel), List.mem_of_getElem? (i := 410) (by decide +kernel)⟩
theorem lw_p12 : lw_okq (⟨"ChoiceBook$Parser", "readThingBehind", "(Ljava/lang/String;)I"⟩, 10) := ⟨⟨by decide +kernel, by decide +kernel⟩, List.mem_of_getElem? (i := 25) (by decide +kernel), List.mem_of_getElem? (i := 415) (by decide +kernel), List.mem_of_getElem? (i := 416) (by decide +kernel)⟩
theorem lw_p13 : lw_okq (⟨"ChoiceBook$Parser", "checkTargets", "()V"⟩, 10) := ⟨⟨by decide +kernel, by decide +kernel⟩, List.mem_of_getElem? (i := 25) (by decide +kernel), List.mem_of_getElem? (i := 424) (by decide +kernel), List.mem_of_getElem? (i := 425) (by decide +kernel)⟩
theorem lw_p14 : lw_okq (⟨"ChoiceBook", "freshComeTo", "()LChoiceBook$StateGraph;"⟩, 11) := ⟨⟨by decide +kernel, by decide +kernel⟩, List.mem_of_getElem? (i := 17) (by decide +kernel), List.mem_of_getElem? (i := 499) (by decide +kernel), List.mem_of_getElem? (i := 500) (by decide +kernel)⟩
theorem lw_p15 : lw_okq (⟨"ChoiceBook$StateGraph", "forget", "()V"⟩, 17) := ⟨⟨by decide +kernel, by decide +kernel⟩, List.mem_of_getElem? (i := 174) (by decide +kernel), List.mem_of_getElem? (i := 507) (by decide +kernel), List.mem_of_getElem? (i := 508) (by decide +kernel)⟩
def lw_privs_1 : List (MethodName × Nat) := [(⟨"ChoiceBook$Parser", "pass", "(I)V"⟩, 10), (⟨"ChoiceBook$Parser", "isWord", "(Ljava/lang/String;)Z"⟩, 10), (⟨"ChoiceBook$Parser", "readHealth", "()V"⟩, 10), (⟨"ChoiceBook$Parser", "fail", "(II)V"⟩, 10), (⟨"ChoiceBook$Parser", "readNumber", "(II)I"⟩, 10), (⟨"ChoiceBook$Parser", "closeClause", "()V"⟩, 10), (⟨"ChoiceBook$Parser", "readPart", "()V"⟩, 10), (⟨"ChoiceBook$Parser", "readEffects", "(I)V"⟩, 10), (⟨"ChoiceBook$Parser", "effectHere", "()I"⟩, 10), (⟨"ChoiceBook$Parser", "readEnd", "(I)V"⟩, 10), (⟨"ChoiceBook$Parser", "readTarget", "()I"⟩, 10), (⟨"ChoiceBook$Parser", "readChoices", "(I)V"⟩, 10), (⟨"ChoiceBook$Parser", "readThingBehind", "(Ljava/lang/String;)I"⟩, 10), (⟨"ChoiceBook$Parser", "checkTargets", "()V"⟩, 10), (⟨"ChoiceBook", "freshComeTo", "()LChoiceBook$StateGraph;"⟩, 11), (⟨"ChoiceBook$StateGraph", "forget", "()V"⟩, 17)]
theorem lw_r1 : ∀ q ∈ lw_privs_1, lw_okq q := List.forall_mem_cons.mpr ⟨lw_p0, List.forall_mem_cons.mpr ⟨lw_p1, List.forall_mem_cons.mpr ⟨lw_p2, List.forall_mem_cons.mpr ⟨lw_p3, List.forall_mem_cons.mpr ⟨lw_p4, List.forall_mem_cons.mpr ⟨lw_p5, List.forall_mem_cons.mpr ⟨lw_p6, List.forall_mem_cons.mpr ⟨lw_p7, List.forall_mem_cons.mpr ⟨lw_p8, List.forall_mem_cons.mpr ⟨lw_p9, List.forall_mem_cons.mpr ⟨lw_p10, List.forall_mem_cons.mpr ⟨lw_p11, List.forall_mem_cons.mpr ⟨lw_p12, List.forall_mem_cons.mpr ⟨lw_p13, List.forall_mem_cons.mpr ⟨lw_p14, List.forall_mem_cons.mpr ⟨lw_p15, fun _ h => absurd h List.not_mem_nil⟩⟩⟩⟩⟩⟩⟩⟩⟩⟩⟩⟩⟩⟩⟩⟩
theorem lw_p16 : lw_okq (⟨"ChoiceBook$StateGraph", "forgetResults", "()V"⟩, 17) := ⟨⟨by decide +kernel, by decide +kernel⟩, List.mem_of_getElem? (i := 174) (by decide +kernel), List.mem_of_getElem? (i := 514) (by decide +kernel), List.mem_of_getElem? (i := 515) (by decide +kernel)⟩
theorem lw_p17 : lw_okq (⟨"ChoiceBook$Book", "arrive", "(IIII)I"⟩, 13) := ⟨⟨by decide +kernel, by decide +kernel⟩, List.mem_of_getElem? (i := 31) (by decide +kernel), List.mem_of_getElem? (i := 523) (by decide +kernel), List.mem_of_getElem? (i := 524) (by decide +kernel)⟩
theorem lw_p18 : lw_okq (⟨"ChoiceBook$StateGraph", "meet", "(I)I"⟩, 17) := ⟨⟨by decide +kernel, by decide +kernel⟩, List.mem_of_getElem? (i := 174) (by decide +kernel), List.mem_of_getElem? (i := 533) (by decide +kernel), List.mem_of_getElem? (i := 534) (by decide +kernel)⟩
theorem lw_p19 : lw_okq (⟨"ChoiceBook$StateGraph", "spread", "(IIIZ)Z"⟩, 17) := ⟨⟨by decide +kernel, by decide +kernel⟩, List.mem_of_getElem? (i := 174) (by decide +kernel), List.mem_of_getElem? (i := 558) (by decide +kernel), List.mem_of_getElem? (i := 559) (by decide +kernel)⟩
theorem lw_p20 : lw_okq (⟨"ChoiceBook$StateGraph", "addWay", "(I)V"⟩, 17) := ⟨⟨by decide +kernel, by decide +kernel⟩, List.mem_of_getElem? (i := 174) (by decide +kernel), List.mem_of_getElem? (i := 595) (by decide +kernel), List.mem_of_getElem? (i := 596) (by decide +kernel)⟩
theorem lw_p21 : lw_okq (⟨"ChoiceBook$StateGraph", "startOdds", "()V"⟩, 17) := ⟨⟨by decide +kernel, by decide +kernel⟩, List.mem_of_getElem? (i := 174) (by decide +kernel), List.mem_of_getElem? (i := 675) (by decide +kernel), List.mem_of_getElem? (i := 676) (by decide +kernel)⟩
theorem lw_p22 : lw_okq (⟨"ChoiceBook$StateGraph", "roomForAll", "([I)[I"⟩, 17) := ⟨⟨by decide +kernel, by decide +kernel⟩, List.mem_of_getElem? (i := 174) (by decide +kernel), List.mem_of_getElem? (i := 679) (by decide +kernel), List.mem_of_getElem? (i := 680) (by decide +kernel)⟩
theorem lw_p23 : lw_okq (⟨"ChoiceBook$StateGraph", "hasWon", "(I)Z"⟩, 17) := ⟨⟨by decide +kernel, by decide +kernel⟩, List.mem_of_getElem? (i := 174) (by decide +kernel), List.mem_of_getElem? (i := 683) (by decide +kernel), List.mem_of_getElem? (i := 684) (by decide +kernel)⟩
theorem lw_p24 : lw_okq (⟨"ChoiceBook$StateGraph", "runOneTurn", "()V"⟩, 17) := ⟨⟨by decide +kernel, by decide +kernel⟩, List.mem_of_getElem? (i := 174) (by decide +kernel), List.mem_of_getElem? (i := 688) (by decide +kernel), List.mem_of_getElem? (i := 689) (by decide +kernel)⟩
theorem lw_p25 : lw_okq (⟨"ChoiceBook$StateGraph", "oddsBehindTurn", "(I)I"⟩, 17) := ⟨⟨by decide +kernel, by decide +kernel⟩, List.mem_of_getElem? (i := 174) (by decide +kernel), List.mem_of_getElem? (i := 692) (by decide +kernel), List.mem_of_getElem? (i := 693) (by decide +kernel)⟩
theorem lw_p26 : lw_okq (⟨"ChoiceBook", "bestChoice", "(LChoiceBook$StateGraph;)I"⟩, 11) := ⟨⟨by decide +kernel, by decide +kernel⟩, List.mem_of_getElem? (i := 17) (by decide +kernel), List.mem_of_getElem? (i := 709) (by decide +kernel), List.mem_of_getElem? (i := 710) (by decide +kernel)⟩
theorem lw_p27 : lw_okq (⟨"ChoiceBook$StateGraph", "leadsTo", "(II)Z"⟩, 17) := ⟨⟨by decide +kernel, by decide +kernel⟩, List.mem_of_getElem? (i := 174) (by decide +kernel), List.mem_of_getElem? (i := 723) (by decide +kernel), List.mem_of_getElem? (i := 724) (by decide +kernel)⟩
theorem lw_p28 : lw_okq (⟨"ChoiceBook", "mustParts", "(LChoiceBook$StateGraph;)I"⟩, 11) := ⟨⟨by decide +kernel, by decide +kernel⟩, List.mem_of_getElem? (i := 17) (by decide +kernel), List.mem_of_getElem? (i := 741) (by decide +kernel), List.mem_of_getElem? (i := 742) (by decide +kernel)⟩
theorem lw_p29 : lw_okq (⟨"ChoiceBook", "neededThings", "(LChoiceBook$StateGraph;)I"⟩, 11) := ⟨⟨by decide +kernel, by decide +kernel⟩, List.mem_of_getElem? (i := 17) (by decide +kernel), List.mem_of_getElem? (i := 763) (by decide +kernel), List.mem_of_getElem? (i := 764) (by decide +kernel)⟩
theorem lw_p30 : lw_okq (⟨"ChoiceBook", "mixTriedNumbers", "()V"⟩, 11) := ⟨⟨by decide +kernel, by decide +kernel⟩, List.mem_of_getElem? (i := 17) (by decide +kernel), List.mem_of_getElem? (i := 818) (by decide +kernel), List.mem_of_getElem? (i := 819) (by decide +kernel)⟩
theorem lw_p31 : lw_okq (⟨"ChoiceBook", "blindEnd", "()I"⟩, 11) := ⟨⟨by decide +kernel, by decide +kernel⟩, List.mem_of_getElem? (i := 17) (by decide +kernel), List.mem_of_getElem? (i := 848) (by decide +kernel), List.mem_of_getElem? (i := 849) (by decide +kernel)⟩
def lw_privs_2 : List (MethodName × Nat) := [(⟨"ChoiceBook$StateGraph", "forgetResults", "()V"⟩, 17), (⟨"ChoiceBook$Book", "arrive", "(IIII)I"⟩, 13), (⟨"ChoiceBook$StateGraph", "meet", "(I)I"⟩, 17), (⟨"ChoiceBook$StateGraph", "spread", "(IIIZ)Z"⟩, 17), (⟨"ChoiceBook$StateGraph", "addWay", "(I)V"⟩, 17), (⟨"ChoiceBook$StateGraph", "startOdds", "()V"⟩, 17), (⟨"ChoiceBook$StateGraph", "roomForAll", "([I)[I"⟩, 17), (⟨"ChoiceBook$StateGraph", "hasWon", "(I)Z"⟩, 17), (⟨"ChoiceBook$StateGraph", "runOneTurn", "()V"⟩, 17), (⟨"ChoiceBook$StateGraph", "oddsBehindTurn", "(I)I"⟩, 17), (⟨"ChoiceBook", "bestChoice", "(LChoiceBook$StateGraph;)I"⟩, 11), (⟨"ChoiceBook$StateGraph", "leadsTo", "(II)Z"⟩, 17), (⟨"ChoiceBook", "mustParts", "(LChoiceBook$StateGraph;)I"⟩, 11), (⟨"ChoiceBook", "neededThings", "(LChoiceBook$StateGraph;)I"⟩, 11), (⟨"ChoiceBook", "mixTriedNumbers", "()V"⟩, 11), (⟨"ChoiceBook", "blindEnd", "()I"⟩, 11)]
theorem lw_r2 : ∀ q ∈ lw_privs_2, lw_okq q := List.forall_mem_cons.mpr ⟨lw_p16, List.forall_mem_cons.mpr ⟨lw_p17, List.forall_mem_cons.mpr ⟨lw_p18, List.forall_mem_cons.mpr ⟨lw_p19, List.forall_mem_cons.mpr ⟨lw_p20, List.forall_mem_cons.mpr ⟨lw_p21, List.forall_mem_cons.mpr ⟨lw_p22, List.forall_mem_cons.mpr ⟨lw_p23, List.forall_mem_cons.mpr ⟨lw_p24, List.forall_mem_cons.mpr ⟨lw_p25, List.forall_mem_cons.mpr ⟨lw_p26, List.forall_mem_cons.mpr ⟨lw_p27, List.forall_mem_cons.mpr ⟨lw_p28, List.forall_mem_cons.mpr ⟨lw_p29, List.forall_mem_cons.mpr ⟨lw_p30, List.forall_mem_cons.mpr ⟨lw_p31, fun _ h => absurd h List.not_mem_nil⟩⟩⟩⟩⟩⟩⟩⟩⟩⟩⟩⟩⟩⟩⟩⟩
theorem lw_p32 : lw_okq (⟨"ChoiceBook", "blindWay", "(I)I"⟩, 11) := ⟨⟨by decide +kernel, by decide +kernel⟩, List.mem_of_getElem? (i := 17) (by decide +kernel), List.mem_of_getElem? (i := 852) (by decide +kernel), List.mem_of_getElem? (i := 853) (by decide +kernel)⟩
theorem lw_p33 : lw_okq (⟨"ChoiceBookModel", "here", "()I"⟩, 30) := ⟨⟨by decide +kernel, by decide +kernel⟩, List.mem_of_getElem? (i := 879) (by decide +kernel), List.mem_of_getElem? (i := 992) (by decide +kernel), List.mem_of_getElem? (i := 993) (by decide +kernel)⟩
theorem lw_p34 : lw_okq (⟨"ChoiceBookModel", "takeClause", "()V"⟩, 30) := ⟨⟨by decide +kernel, by decide +kernel⟩, List.mem_of_getElem? (i := 879) (by decide +kernel), List.mem_of_getElem? (i := 996) (by decide +kernel), List.mem_of_getElem? (i := 997) (by decide +kernel)⟩
theorem lw_p35 : lw_okq (⟨"ChoiceBookModel", "takeWord", "()V"⟩, 30) := ⟨⟨by decide +kernel, by decide +kernel⟩, List.mem_of_getElem? (i := 879) (by decide +kernel), List.mem_of_getElem? (i := 1000) (by decide +kernel), List.mem_of_getElem? (i := 1001) (by decide +kernel)⟩
theorem lw_p36 : lw_okq (⟨"ChoiceBookModel", "isWord", "(IIIIII)Z"⟩, 30) := ⟨⟨by decide +kernel, by decide +kernel⟩, List.mem_of_getElem? (i := 879) (by decide +kernel), List.mem_of_getElem? (i := 1006) (by decide +kernel), List.mem_of_getElem? (i := 1007) (by decide +kernel)⟩
theorem lw_p37 : lw_okq (⟨"ChoiceBookModel", "takePart", "()V"⟩, 30) := ⟨⟨by decide +kernel, by decide +kernel⟩, List.mem_of_getElem? (i := 879) (by decide +kernel), List.mem_of_getElem? (i := 1010) (by decide +kernel), List.mem_of_getElem? (i := 1011) (by decide +kernel)⟩
theorem lw_p38 : lw_okq (⟨"ChoiceBookModel", "want", "(ZII)Z"⟩, 30) := ⟨⟨by decide +kernel, by decide +kernel⟩, List.mem_of_getElem? (i := 879) (by decide +kernel), List.mem_of_getElem? (i := 1014) (by decide +kernel), List.mem_of_getElem? (i := 1015) (by decide +kernel)⟩
theorem lw_p39 : lw_okq (⟨"ChoiceBookModel", "takeEffects", "(I)V"⟩, 30) := ⟨⟨by decide +kernel, by decide +kernel⟩, List.mem_of_getElem? (i := 879) (by decide +kernel), List.mem_of_getElem? (i := 1018) (by decide +kernel), List.mem_of_getElem? (i := 1019) (by decide +kernel)⟩
theorem lw_p40 : lw_okq (⟨"ChoiceBookModel", "kindHere", "()I"⟩, 30) := ⟨⟨by decide +kernel, by decide +kernel⟩, List.mem_of_getElem? (i := 879) (by decide +kernel), List.mem_of_getElem? (i := 1022) (by decide +kernel), List.mem_of_getElem? (i := 1023) (by decide +kernel)⟩
theorem lw_p41 : lw_okq (⟨"ChoiceBookModel", "takeNumber", "(II)I"⟩, 30) := ⟨⟨by decide +kernel, by decide +kernel⟩, List.mem_of_getElem? (i := 879) (by decide +kernel), List.mem_of_getElem? (i := 1026) (by decide +kernel), List.mem_of_getElem? (i := 1027) (by decide +kernel)⟩
theorem lw_p42 : lw_okq (⟨"ChoiceBookModel", "takeGoal", "()I"⟩, 30) := ⟨⟨by decide +kernel, by decide +kernel⟩, List.mem_of_getElem? (i := 879) (by decide +kernel), List.mem_of_getElem? (i := 1032) (by decide +kernel), List.mem_of_getElem? (i := 1033) (by decide +kernel)⟩
theorem lw_p43 : lw_okq (⟨"ChoiceBookModel", "takeChoices", "(I)V"⟩, 30) := ⟨⟨by decide +kernel, by decide +kernel⟩, List.mem_of_getElem? (i := 879) (by decide +kernel), List.mem_of_getElem? (i := 1036) (by decide +kernel), List.mem_of_getElem? (i := 1037) (by decide +kernel)⟩
theorem lw_p44 : lw_okq (⟨"ChoiceBookModel", "isLong", "(IIII)Z"⟩, 30) := ⟨⟨by decide +kernel, by decide +kernel⟩, List.mem_of_getElem? (i := 879) (by decide +kernel), List.mem_of_getElem? (i := 1040) (by decide +kernel), List.mem_of_getElem? (i := 1041) (by decide +kernel)⟩
theorem lw_p45 : lw_okq (⟨"ChoiceBookModel", "isBegun", "(IIII)Z"⟩, 30) := ⟨⟨by decide +kernel, by decide +kernel⟩, List.mem_of_getElem? (i := 879) (by decide +kernel), List.mem_of_getElem? (i := 1044) (by decide +kernel), List.mem_of_getElem? (i := 1045) (by decide +kernel)⟩
theorem lw_p46 : lw_okq (⟨"ChoiceBookModel", "noPart", "(I)Z"⟩, 30) := ⟨⟨by decide +kernel, by decide +kernel⟩, List.mem_of_getElem? (i := 879) (by decide +kernel), List.mem_of_getElem? (i := 1056) (by decide +kernel), List.mem_of_getElem? (i := 1057) (by decide +kernel)⟩
theorem lw_p47 : lw_okq (⟨"ChoiceBookModel", "linesOf", "(I)I"⟩, 30) := ⟨⟨by decide +kernel, by decide +kernel⟩, List.mem_of_getElem? (i := 879) (by decide +kernel), List.mem_of_getElem? (i := 1061) (by decide +kernel), List.mem_of_getElem? (i := 1062) (by decide +kernel)⟩
def lw_privs_3 : List (MethodName × Nat) := [(⟨"ChoiceBook", "blindWay", "(I)I"⟩, 11), (⟨"ChoiceBookModel", "here", "()I"⟩, 30), (⟨"ChoiceBookModel", "takeClause", "()V"⟩, 30), (⟨"ChoiceBookModel", "takeWord", "()V"⟩, 30), (⟨"ChoiceBookModel", "isWord", "(IIIIII)Z"⟩, 30), (⟨"ChoiceBookModel", "takePart", "()V"⟩, 30), (⟨"ChoiceBookModel", "want", "(ZII)Z"⟩, 30), (⟨"ChoiceBookModel", "takeEffects", "(I)V"⟩, 30), (⟨"ChoiceBookModel", "kindHere", "()I"⟩, 30), (⟨"ChoiceBookModel", "takeNumber", "(II)I"⟩, 30), (⟨"ChoiceBookModel", "takeGoal", "()I"⟩, 30), (⟨"ChoiceBookModel", "takeChoices", "(I)V"⟩, 30), (⟨"ChoiceBookModel", "isLong", "(IIII)Z"⟩, 30), (⟨"ChoiceBookModel", "isBegun", "(IIII)Z"⟩, 30), (⟨"ChoiceBookModel", "noPart", "(I)Z"⟩, 30), (⟨"ChoiceBookModel", "linesOf", "(I)I"⟩, 30)]
theorem lw_r3 : ∀ q ∈ lw_privs_3, lw_okq q := List.forall_mem_cons.mpr ⟨lw_p32, List.forall_mem_cons.mpr ⟨lw_p33, List.forall_mem_cons.mpr ⟨lw_p34, List.forall_mem_cons.mpr ⟨lw_p35, List.forall_mem_cons.mpr ⟨lw_p36, List.forall_mem_cons.mpr ⟨lw_p37, List.forall_mem_cons.mpr ⟨lw_p38, List.forall_mem_cons.mpr ⟨lw_p39, List.forall_mem_cons.mpr ⟨lw_p40, List.forall_mem_cons.mpr ⟨lw_p41, List.forall_mem_cons.mpr ⟨lw_p42, List.forall_mem_cons.mpr ⟨lw_p43, List.forall_mem_cons.mpr ⟨lw_p44, List.forall_mem_cons.mpr ⟨lw_p45, List.forall_mem_cons.mpr ⟨lw_p46, List.forall_mem_cons.mpr ⟨lw_p47, fun _ h => absurd h List.not_mem_nil⟩⟩⟩⟩⟩⟩⟩⟩⟩⟩⟩⟩⟩⟩⟩⟩
theorem lw_p48 : lw_okq (⟨"ChoiceBookModel", "choices", "()I"⟩, 30) := ⟨⟨by decide +kernel, by decide +kernel⟩, List.mem_of_getElem? (i := 879) (by decide +kernel), List.mem_of_getElem? (i := 1090) (by decide +kernel), List.mem_of_getElem? (i := 1091) (by decide +kernel)⟩
theorem lw_p49 : lw_okq (⟨"ChoiceBookModel", "spreadFromBeginning", "()V"⟩, 30) := ⟨⟨by decide +kernel, by decide +kernel⟩, List.mem_of_getElem? (i := 879) (by decide +kernel), List.mem_of_getElem? (i := 1094) (by decide +kernel), List.mem_of_getElem? (i := 1095) (by decide +kernel)⟩
theorem lw_p50 : lw_okq (⟨"ChoiceBookModel", "beginSpread", "()V"⟩, 30) := ⟨⟨by decide +kernel, by decide +kernel⟩, List.mem_of_getElem? (i := 879) (by decide +kernel), List.mem_of_getElem? (i := 1098) (by decide +kernel), List.mem_of_getElem? (i := 1099) (by decide +kernel)⟩
theorem lw_p51 : lw_okq (⟨"ChoiceBookModel", "stateAt", "(III)I"⟩, 30) := ⟨⟨by decide +kernel, by decide +kernel⟩, List.mem_of_getElem? (i := 879) (by decide +kernel), List.mem_of_getElem? (i := 1102) (by decide +kernel), List.mem_of_getElem? (i := 1103) (by decide +kernel)⟩
theorem lw_p52 : lw_okq (⟨"ChoiceBookModel", "come", "(III)Z"⟩, 30) := ⟨⟨by decide +kernel, by decide +kernel⟩, List.mem_of_getElem? (i := 879) (by decide +kernel), List.mem_of_getElem? (i := 1106) (by decide +kernel), List.mem_of_getElem? (i := 1107) (by decide +kernel)⟩
theorem lw_p53 : lw_okq (⟨"ChoiceBookModel", "reach", "(II)V"⟩, 30) := ⟨⟨by decide +kernel, by decide +kernel⟩, List.mem_of_getElem? (i := 879) (by decide +kernel), List.mem_of_getElem? (i := 1113) (by decide +kernel), List.mem_of_getElem? (i := 1114) (by decide +kernel)⟩
theorem lw_p54 : lw_okq (⟨"ChoiceBookModel", "spreadAll", "()V"⟩, 30) := ⟨⟨by decide +kernel, by decide +kernel⟩, List.mem_of_getElem? (i := 879) (by decide +kernel), List.mem_of_getElem? (i := 1117) (by decide +kernel), List.mem_of_getElem? (i := 1118) (by decide +kernel)⟩
theorem lw_p55 : lw_okq (⟨"ChoiceBookModel", "waysOf", "(I)I"⟩, 30) := ⟨⟨by decide +kernel, by decide +kernel⟩, List.mem_of_getElem? (i := 879) (by decide +kernel), List.mem_of_getElem? (i := 1121) (by decide +kernel), List.mem_of_getElem? (i := 1122) (by decide +kernel)⟩
theorem lw_p56 : lw_okq (⟨"ChoiceBookModel", "standsAt", "(I)I"⟩, 30) := ⟨⟨by decide +kernel, by decide +kernel⟩, List.mem_of_getElem? (i := 879) (by decide +kernel), List.mem_of_getElem? (i := 1128) (by decide +kernel), List.mem_of_getElem? (i := 1129) (by decide +kernel)⟩
theorem lw_p57 : lw_okq (⟨"ChoiceBookModel", "openWays", "(I)I"⟩, 30) := ⟨⟨by decide +kernel, by decide +kernel⟩, List.mem_of_getElem? (i := 879) (by decide +kernel), List.mem_of_getElem? (i := 1132) (by decide +kernel), List.mem_of_getElem? (i := 1133) (by decide +kernel)⟩
theorem lw_p58 : lw_okq (⟨"ChoiceBookModel", "isWay", "(II)Z"⟩, 30) := ⟨⟨by decide +kernel, by decide +kernel⟩, List.mem_of_getElem? (i := 879) (by decide +kernel), List.mem_of_getElem? (i := 1136) (by decide +kernel), List.mem_of_getElem? (i := 1137) (by decide +kernel)⟩
theorem lw_p59 : lw_okq (⟨"ChoiceBookModel", "isOpenChoice", "(III)Z"⟩, 30) := ⟨⟨by decide +kernel, by decide +kernel⟩, List.mem_of_getElem? (i := 879) (by decide +kernel), List.mem_of_getElem? (i := 1143) (by decide +kernel), List.mem_of_getElem? (i := 1144) (by decide +kernel)⟩
theorem lw_p60 : lw_okq (⟨"ChoiceBookModel", "wayTo", "(II)I"⟩, 30) := ⟨⟨by decide +kernel, by decide +kernel⟩, List.mem_of_getElem? (i := 879) (by decide +kernel), List.mem_of_getElem? (i := 1153) (by decide +kernel), List.mem_of_getElem? (i := 1154) (by decide +kernel)⟩
theorem lw_p61 : lw_okq (⟨"ChoiceBookModel", "goalOf", "(II)I"⟩, 30) := ⟨⟨by decide +kernel, by decide +kernel⟩, List.mem_of_getElem? (i := 879) (by decide +kernel), List.mem_of_getElem? (i := 1157) (by decide +kernel), List.mem_of_getElem? (i := 1158) (by decide +kernel)⟩
theorem lw_p62 : lw_okq (⟨"ChoiceBookModel", "begins", "()V"⟩, 30) := ⟨⟨by decide +kernel, by decide +kernel⟩, List.mem_of_getElem? (i := 879) (by decide +kernel), List.mem_of_getElem? (i := 1168) (by decide +kernel), List.mem_of_getElem? (i := 1169) (by decide +kernel)⟩
theorem lw_p63 : lw_okq (⟨"ChoiceBookModel", "enter", "(I)V"⟩, 30) := ⟨⟨by decide +kernel, by decide +kernel⟩, List.mem_of_getElem? (i := 879) (by decide +kernel), List.mem_of_getElem? (i := 1172) (by decide +kernel), List.mem_of_getElem? (i := 1173) (by decide +kernel)⟩
def lw_privs_4 : List (MethodName × Nat) := [(⟨"ChoiceBookModel", "choices", "()I"⟩, 30), (⟨"ChoiceBookModel", "spreadFromBeginning", "()V"⟩, 30), (⟨"ChoiceBookModel", "beginSpread", "()V"⟩, 30), (⟨"ChoiceBookModel", "stateAt", "(III)I"⟩, 30), (⟨"ChoiceBookModel", "come", "(III)Z"⟩, 30), (⟨"ChoiceBookModel", "reach", "(II)V"⟩, 30), (⟨"ChoiceBookModel", "spreadAll", "()V"⟩, 30), (⟨"ChoiceBookModel", "waysOf", "(I)I"⟩, 30), (⟨"ChoiceBookModel", "standsAt", "(I)I"⟩, 30), (⟨"ChoiceBookModel", "openWays", "(I)I"⟩, 30), (⟨"ChoiceBookModel", "isWay", "(II)Z"⟩, 30), (⟨"ChoiceBookModel", "isOpenChoice", "(III)Z"⟩, 30), (⟨"ChoiceBookModel", "wayTo", "(II)I"⟩, 30), (⟨"ChoiceBookModel", "goalOf", "(II)I"⟩, 30), (⟨"ChoiceBookModel", "begins", "()V"⟩, 30), (⟨"ChoiceBookModel", "enter", "(I)V"⟩, 30)]
theorem lw_r4 : ∀ q ∈ lw_privs_4, lw_okq q := List.forall_mem_cons.mpr ⟨lw_p48, List.forall_mem_cons.mpr ⟨lw_p49, List.forall_mem_cons.mpr ⟨lw_p50, List.forall_mem_cons.mpr ⟨lw_p51, List.forall_mem_cons.mpr ⟨lw_p52, List.forall_mem_cons.mpr ⟨lw_p53, List.forall_mem_cons.mpr ⟨lw_p54, List.forall_mem_cons.mpr ⟨lw_p55, List.forall_mem_cons.mpr ⟨lw_p56, List.forall_mem_cons.mpr ⟨lw_p57, List.forall_mem_cons.mpr ⟨lw_p58, List.forall_mem_cons.mpr ⟨lw_p59, List.forall_mem_cons.mpr ⟨lw_p60, List.forall_mem_cons.mpr ⟨lw_p61, List.forall_mem_cons.mpr ⟨lw_p62, List.forall_mem_cons.mpr ⟨lw_p63, fun _ h => absurd h List.not_mem_nil⟩⟩⟩⟩⟩⟩⟩⟩⟩⟩⟩⟩⟩⟩⟩⟩
theorem lw_p64 : lw_okq (⟨"ChoiceBookModel", "stands", "()I"⟩, 30) := ⟨⟨by decide +kernel, by decide +kernel⟩, List.mem_of_getElem? (i := 879) (by decide +kernel), List.mem_of_getElem? (i := 1176) (by decide +kernel), List.mem_of_getElem? (i := 1177) (by decide +kernel)⟩
theorem lw_p65 : lw_okq (⟨"ChoiceBookModel", "goTo", "(I)V"⟩, 30) := ⟨⟨by decide +kernel, by decide +kernel⟩, List.mem_of_getElem? (i := 879) (by decide +kernel), List.mem_of_getElem? (i := 1184) (by decide +kernel), List.mem_of_getElem? (i := 1185) (by decide +kernel)⟩
theorem lw_p66 : lw_okq (⟨"ChoiceBookModel", "draw", "(I)I"⟩, 30) := ⟨⟨by decide +kernel, by decide +kernel⟩, List.mem_of_getElem? (i := 879) (by decide +kernel), List.mem_of_getElem? (i := 1193) (by decide +kernel), List.mem_of_getElem? (i := 1194) (by decide +kernel)⟩
theorem lw_p67 : lw_okq (⟨"ChoiceBookModel", "rollBy", "(I)V"⟩, 30) := ⟨⟨by decide +kernel, by decide +kernel⟩, List.mem_of_getElem? (i := 879) (by decide +kernel), List.mem_of_getElem? (i := 1201) (by decide +kernel), List.mem_of_getElem? (i := 1202) (by decide +kernel)⟩
theorem lw_p68 : lw_okq (⟨"ChoiceBookModel", "openNow", "()I"⟩, 30) := ⟨⟨by decide +kernel, by decide +kernel⟩, List.mem_of_getElem? (i := 879) (by decide +kernel), List.mem_of_getElem? (i := 1210) (by decide +kernel), List.mem_of_getElem? (i := 1211) (by decide +kernel)⟩
theorem lw_p69 : lw_okq (⟨"ChoiceBookModel", "nowState", "()I"⟩, 30) := ⟨⟨by decide +kernel, by decide +kernel⟩, List.mem_of_getElem? (i := 879) (by decide +kernel), List.mem_of_getElem? (i := 1219) (by decide +kernel), List.mem_of_getElem? (i := 1220) (by decide +kernel)⟩
theorem lw_p70 : lw_okq (⟨"ChoiceBookModel", "spreadFrom", "(I)V"⟩, 30) := ⟨⟨by decide +kernel, by decide +kernel⟩, List.mem_of_getElem? (i := 879) (by decide +kernel), List.mem_of_getElem? (i := 1223) (by decide +kernel), List.mem_of_getElem? (i := 1224) (by decide +kernel)⟩
theorem lw_p71 : lw_okq (⟨"ChoiceBookModel", "findOdds", "(I)V"⟩, 30) := ⟨⟨by decide +kernel, by decide +kernel⟩, List.mem_of_getElem? (i := 879) (by decide +kernel), List.mem_of_getElem? (i := 1227) (by decide +kernel), List.mem_of_getElem? (i := 1228) (by decide +kernel)⟩
theorem lw_p72 : lw_okq (⟨"ChoiceBookModel", "oddsOf", "(I)I"⟩, 30) := ⟨⟨by decide +kernel, by decide +kernel⟩, List.mem_of_getElem? (i := 879) (by decide +kernel), List.mem_of_getElem? (i := 1232) (by decide +kernel), List.mem_of_getElem? (i := 1233) (by decide +kernel)⟩
theorem lw_p73 : lw_okq (⟨"ChoiceBookModel", "oddsAt", "(I)I"⟩, 30) := ⟨⟨by decide +kernel, by decide +kernel⟩, List.mem_of_getElem? (i := 879) (by decide +kernel), List.mem_of_getElem? (i := 1236) (by decide +kernel), List.mem_of_getElem? (i := 1237) (by decide +kernel)⟩
theorem lw_p74 : lw_okq (⟨"ChoiceBookModel", "isSureAt", "(I)Z"⟩, 30) := ⟨⟨by decide +kernel, by decide +kernel⟩, List.mem_of_getElem? (i := 879) (by decide +kernel), List.mem_of_getElem? (i := 1252) (by decide +kernel), List.mem_of_getElem? (i := 1253) (by decide +kernel)⟩
theorem lw_p75 : lw_okq (⟨"ChoiceBookModel", "makesSure", "(I)Z"⟩, 30) := ⟨⟨by decide +kernel, by decide +kernel⟩, List.mem_of_getElem? (i := 879) (by decide +kernel), List.mem_of_getElem? (i := 1256) (by decide +kernel), List.mem_of_getElem? (i := 1257) (by decide +kernel)⟩
theorem lw_p76 : lw_okq (⟨"ChoiceBookModel", "partsFound", "()I"⟩, 30) := ⟨⟨by decide +kernel, by decide +kernel⟩, List.mem_of_getElem? (i := 879) (by decide +kernel), List.mem_of_getElem? (i := 1264) (by decide +kernel), List.mem_of_getElem? (i := 1265) (by decide +kernel)⟩
theorem lw_p77 : lw_okq (⟨"ChoiceBookModel", "must", "()I"⟩, 30) := ⟨⟨by decide +kernel, by decide +kernel⟩, List.mem_of_getElem? (i := 879) (by decide +kernel), List.mem_of_getElem? (i := 1268) (by decide +kernel), List.mem_of_getElem? (i := 1269) (by decide +kernel)⟩
theorem lw_p78 : lw_okq (⟨"ChoiceBookModel", "hasWon", "()Z"⟩, 30) := ⟨⟨by decide +kernel, by decide +kernel⟩, List.mem_of_getElem? (i := 879) (by decide +kernel), List.mem_of_getElem? (i := 1272) (by decide +kernel), List.mem_of_getElem? (i := 1273) (by decide +kernel)⟩
theorem lw_p79 : lw_okq (⟨"ChoiceBookModel", "traps", "()I"⟩, 30) := ⟨⟨by decide +kernel, by decide +kernel⟩, List.mem_of_getElem? (i := 879) (by decide +kernel), List.mem_of_getElem? (i := 1276) (by decide +kernel), List.mem_of_getElem? (i := 1277) (by decide +kernel)⟩
def lw_privs_5 : List (MethodName × Nat) := [(⟨"ChoiceBookModel", "stands", "()I"⟩, 30), (⟨"ChoiceBookModel", "goTo", "(I)V"⟩, 30), (⟨"ChoiceBookModel", "draw", "(I)I"⟩, 30), (⟨"ChoiceBookModel", "rollBy", "(I)V"⟩, 30), (⟨"ChoiceBookModel", "openNow", "()I"⟩, 30), (⟨"ChoiceBookModel", "nowState", "()I"⟩, 30), (⟨"ChoiceBookModel", "spreadFrom", "(I)V"⟩, 30), (⟨"ChoiceBookModel", "findOdds", "(I)V"⟩, 30), (⟨"ChoiceBookModel", "oddsOf", "(I)I"⟩, 30), (⟨"ChoiceBookModel", "oddsAt", "(I)I"⟩, 30), (⟨"ChoiceBookModel", "isSureAt", "(I)Z"⟩, 30), (⟨"ChoiceBookModel", "makesSure", "(I)Z"⟩, 30), (⟨"ChoiceBookModel", "partsFound", "()I"⟩, 30), (⟨"ChoiceBookModel", "must", "()I"⟩, 30), (⟨"ChoiceBookModel", "hasWon", "()Z"⟩, 30), (⟨"ChoiceBookModel", "traps", "()I"⟩, 30)]
theorem lw_r5 : ∀ q ∈ lw_privs_5, lw_okq q := List.forall_mem_cons.mpr ⟨lw_p64, List.forall_mem_cons.mpr ⟨lw_p65, List.forall_mem_cons.mpr ⟨lw_p66, List.forall_mem_cons.mpr ⟨lw_p67, List.forall_mem_cons.mpr ⟨lw_p68, List.forall_mem_cons.mpr ⟨lw_p69, List.forall_mem_cons.mpr ⟨lw_p70, List.forall_mem_cons.mpr ⟨lw_p71, List.forall_mem_cons.mpr ⟨lw_p72, List.forall_mem_cons.mpr ⟨lw_p73, List.forall_mem_cons.mpr ⟨lw_p74, List.forall_mem_cons.mpr ⟨lw_p75, List.forall_mem_cons.mpr ⟨lw_p76, List.forall_mem_cons.mpr ⟨lw_p77, List.forall_mem_cons.mpr ⟨lw_p78, List.forall_mem_cons.mpr ⟨lw_p79, fun _ h => absurd h List.not_mem_nil⟩⟩⟩⟩⟩⟩⟩⟩⟩⟩⟩⟩⟩⟩⟩⟩
theorem lw_p80 : lw_okq (⟨"ChoiceBookModel", "holes", "()I"⟩, 30) := ⟨⟨by decide +kernel, by decide +kernel⟩, List.mem_of_getElem? (i := 879) (by decide +kernel), List.mem_of_getElem? (i := 1280) (by decide +kernel), List.mem_of_getElem? (i := 1281) (by decide +kernel)⟩
theorem lw_p81 : lw_okq (⟨"ChoiceBookModel", "leadsTo", "(II)Z"⟩, 30) := ⟨⟨by decide +kernel, by decide +kernel⟩, List.mem_of_getElem? (i := 879) (by decide +kernel), List.mem_of_getElem? (i := 1304) (by decide +kernel), List.mem_of_getElem? (i := 1305) (by decide +kernel)⟩
theorem lw_p82 : lw_okq (⟨"ChoiceBookModel", "nearBy", "(I)I"⟩, 30) := ⟨⟨by decide +kernel, by decide +kernel⟩, List.mem_of_getElem? (i := 879) (by decide +kernel), List.mem_of_getElem? (i := 1317) (by decide +kernel), List.mem_of_getElem? (i := 1318) (by decide +kernel)⟩
theorem lw_p83 : lw_okq (⟨"ChoiceBookModel", "leads", "(II)Z"⟩, 30) := ⟨⟨by decide +kernel, by decide +kernel⟩, List.mem_of_getElem? (i := 879) (by decide +kernel), List.mem_of_getElem? (i := 1321) (by decide +kernel), List.mem_of_getElem? (i := 1322) (by decide +kernel)⟩
theorem lw_p84 : lw_okq (⟨"ChoiceBookModel", "pageOf", "(II)I"⟩, 30) := ⟨⟨by decide +kernel, by decide +kernel⟩, List.mem_of_getElem? (i := 879) (by decide +kernel), List.mem_of_getElem? (i := 1338) (by decide +kernel), List.mem_of_getElem? (i := 1339) (by decide +kernel)⟩
theorem lw_p85 : lw_okq (⟨"ChoiceBookModel", "readsBlindly", "()Z"⟩, 30) := ⟨⟨by decide +kernel, by decide +kernel⟩, List.mem_of_getElem? (i := 879) (by decide +kernel), List.mem_of_getElem? (i := 1354) (by decide +kernel), List.mem_of_getElem? (i := 1355) (by decide +kernel)⟩
theorem lw_p86 : lw_okq (⟨"ChoiceBookModel", "manyOpen", "(I)I"⟩, 30) := ⟨⟨by decide +kernel, by decide +kernel⟩, List.mem_of_getElem? (i := 879) (by decide +kernel), List.mem_of_getElem? (i := 1358) (by decide +kernel), List.mem_of_getElem? (i := 1359) (by decide +kernel)⟩
theorem lw_p87 : lw_okq (⟨"ChoiceBookModel", "nthOpen", "(II)I"⟩, 30) := ⟨⟨by decide +kernel, by decide +kernel⟩, List.mem_of_getElem? (i := 879) (by decide +kernel), List.mem_of_getElem? (i := 1362) (by decide +kernel), List.mem_of_getElem? (i := 1363) (by decide +kernel)⟩
theorem lw_p88 : lw_okq (⟨"ChoiceBookModel", "copy", "(II)V"⟩, 30) := ⟨⟨by decide +kernel, by decide +kernel⟩, List.mem_of_getElem? (i := 879) (by decide +kernel), List.mem_of_getElem? (i := 1370) (by decide +kernel), List.mem_of_getElem? (i := 1371) (by decide +kernel)⟩
def lw_privs_6 : List (MethodName × Nat) := [(⟨"ChoiceBookModel", "holes", "()I"⟩, 30), (⟨"ChoiceBookModel", "leadsTo", "(II)Z"⟩, 30), (⟨"ChoiceBookModel", "nearBy", "(I)I"⟩, 30), (⟨"ChoiceBookModel", "leads", "(II)Z"⟩, 30), (⟨"ChoiceBookModel", "pageOf", "(II)I"⟩, 30), (⟨"ChoiceBookModel", "readsBlindly", "()Z"⟩, 30), (⟨"ChoiceBookModel", "manyOpen", "(I)I"⟩, 30), (⟨"ChoiceBookModel", "nthOpen", "(II)I"⟩, 30), (⟨"ChoiceBookModel", "copy", "(II)V"⟩, 30)]
theorem lw_r6 : ∀ q ∈ lw_privs_6, lw_okq q := List.forall_mem_cons.mpr ⟨lw_p80, List.forall_mem_cons.mpr ⟨lw_p81, List.forall_mem_cons.mpr ⟨lw_p82, List.forall_mem_cons.mpr ⟨lw_p83, List.forall_mem_cons.mpr ⟨lw_p84, List.forall_mem_cons.mpr ⟨lw_p85, List.forall_mem_cons.mpr ⟨lw_p86, List.forall_mem_cons.mpr ⟨lw_p87, List.forall_mem_cons.mpr ⟨lw_p88, fun _ h => absurd h List.not_mem_nil⟩⟩⟩⟩⟩⟩⟩⟩⟩
def lw_privs : List (MethodName × Nat) := lw_privs_1 ++ (lw_privs_2 ++ (lw_privs_3 ++ (lw_privs_4 ++ (lw_privs_5 ++ (lw_privs_6)))))
def lw_tbl : List Cond := k2_sels lw_privs ++ tables_1
theorem lw_privs_ok : ∀ q ∈ lw_privs, lw_okq q := by
  show ∀ q ∈ lw_privs_1 ++ (lw_privs_2 ++ (lw_privs_3 ++ (lw_privs_4 ++ (lw_privs_5 ++ (lw_privs_6))))), lw_okq q
  exact List.forall_mem_append.mpr ⟨lw_r1, List.forall_mem_append.mpr ⟨lw_r2, List.forall_mem_append.mpr ⟨lw_r3, List.forall_mem_append.mpr ⟨lw_r4, List.forall_mem_append.mpr ⟨lw_r5, lw_r6⟩⟩⟩⟩⟩
/-- the words that stay good behind a call -/
def gt : List Cond := lw_tbl.filter goodWord
theorem gt_good {w : Cond} (h : w ∈ gt) : goodWord w = true := (List.mem_filter.mp h).2
theorem gt_l {w : Cond} (h : w ∈ gt) : w ∈ lw_tbl := (List.mem_filter.mp h).1
theorem gt_t {w : Cond} (i : Nat) (h : tables_1[i]? = some w) (hg : goodWord w = true) : w ∈ gt := List.mem_filter.mpr ⟨List.mem_append_right _ (List.mem_of_getElem? h), hg⟩
theorem gt_s {q : MethodName × Nat} (i : Nat) (h : lw_privs[i]? = some q) : Cond.selects q.1.cls q.1 q.1 ∈ gt := List.mem_filter.mpr ⟨List.mem_append_left _ (List.mem_map.mpr ⟨q, List.mem_of_getElem? h, rfl⟩), rfl⟩
/-- each method's words: its own code, and all the tables' -/
def mw (y : MethodName) (cc : ByteArray) (n : Nat) (r : Option FieldType) : List Cond := Cond.code y cc n r :: gt
theorem mw_good {y' : MethodName} {cc' : ByteArray} {n' : Nat} {r' : Option FieldType} (h : Cond.code y' cc' n' r' ∈ gt) : GoodIn gt (mw y' cc' n' r') := by
  intro w hw
  rcases List.mem_cons.mp hw with rfl | hw
  · exact ⟨h, good_of_word (gt_good h)⟩
  · exact ⟨hw, good_of_word (gt_good hw)⟩
end
section
def RX0 : String := "ChoiceBook$Book"
def TX0 : u_T := fun k => match k with
  | 0 => ("ChoiceBook$Book", "partCount", "I", false)
  | 1 => ("ChoiceBook$Book", "health", "I", false)
  | 2 => ("ChoiceBook$Book", "end", "[I", true)
  | 3 => ("ChoiceBook$Book", "rollNeed", "[I", true)
  | 4 => ("ChoiceBook$Book", "rollHigh", "[I", true)
  | 5 => ("ChoiceBook$Book", "rollLow", "[I", true)
  | 6 => ("ChoiceBook$Book", "effectCount", "[I", true)
  | 7 => ("ChoiceBook$Book", "effectKind", "[I", true)
  | 8 => ("ChoiceBook$Book", "effectValue", "[I", true)
  | 9 => ("ChoiceBook$Book", "choiceCount", "[I", true)
  | 10 => ("ChoiceBook$Book", "choiceTo", "[I", true)
  | 11 => ("ChoiceBook$Book", "choiceWith", "[I", true)
  | _ => ("ChoiceBook$Book", "choiceWithout", "[I", true)
def tyX0 : Nat → FieldType := fun k => match k with
  | 0 => .int
  | 1 => .int
  | 2 => .array .int
  | 3 => .array .int
  | 4 => .array .int
  | 5 => .array .int
  | 6 => .array .int
  | 7 => .array .int
  | 8 => .array .int
  | 9 => .array .int
  | 10 => .array .int
  | 11 => .array .int
  | _ => .array .int
theorem nmX0 : ∀ a, a < 13 → ∀ b, b < 13 → a ≠ b → (TX0 a).2.1 ≠ (TX0 b).2.1 := by decide +kernel
theorem tyX0_ok : ∀ k, k < 13 → parseFieldDescriptor (TX0 k).2.2.1 = some (tyX0 k) := by decide +kernel
abbrev cX0_init : ByteArray := prog_2_method_1_code
def yX0_init : MethodName := ⟨RX0, "<init>", "()V"⟩
abbrev cX0_empty : ByteArray := prog_2_method_2_code
def yX0_empty : MethodName := ⟨RX0, "empty", "()V"⟩
abbrev cX0_copyFrom : ByteArray := prog_2_method_3_code
def yX0_copyFrom : MethodName := ⟨RX0, "copyFrom", "(LChoiceBook$Book;)V"⟩
abbrev cX0_hasPart : ByteArray := prog_2_method_4_code
def yX0_hasPart : MethodName := ⟨RX0, "hasPart", "(I)Z"⟩
abbrev cX0_hasEffect : ByteArray := prog_2_method_5_code
def yX0_hasEffect : MethodName := ⟨RX0, "hasEffect", "(II)Z"⟩
abbrev cX0_hasChoice : ByteArray := prog_2_method_6_code
def yX0_hasChoice : MethodName := ⟨RX0, "hasChoice", "(II)Z"⟩
abbrev cX0_isRoll : ByteArray := prog_2_method_7_code
def yX0_isRoll : MethodName := ⟨RX0, "isRoll", "(I)Z"⟩
abbrev cX0_lines : ByteArray := prog_2_method_8_code
def yX0_lines : MethodName := ⟨RX0, "lines", "(I)I"⟩
abbrev cX0_allChoices : ByteArray := prog_2_method_9_code
def yX0_allChoices : MethodName := ⟨RX0, "allChoices", "()I"⟩
abbrev cX0_addPart : ByteArray := prog_2_method_10_code
def yX0_addPart : MethodName := ⟨RX0, "addPart", "()I"⟩
abbrev cX0_addEffect : ByteArray := prog_2_method_11_code
def yX0_addEffect : MethodName := ⟨RX0, "addEffect", "(III)V"⟩
abbrev cX0_addChoice : ByteArray := prog_2_method_12_code
def yX0_addChoice : MethodName := ⟨RX0, "addChoice", "(IIII)V"⟩
abbrev cX0_strikeChoice : ByteArray := prog_2_method_13_code
def yX0_strikeChoice : MethodName := ⟨RX0, "strikeChoice", "(II)V"⟩
abbrev cX0_endByRoll : ByteArray := prog_2_method_14_code
def yX0_endByRoll : MethodName := ⟨RX0, "endByRoll", "(IIII)V"⟩
abbrev cX0_isOpen : ByteArray := prog_2_method_15_code
def yX0_isOpen : MethodName := ⟨RX0, "isOpen", "(II)Z"⟩
abbrev cX0_openChoices : ByteArray := prog_2_method_16_code
def yX0_openChoices : MethodName := ⟨RX0, "openChoices", "(I)I"⟩
abbrev cX0_rollTarget : ByteArray := prog_2_method_17_code
def yX0_rollTarget : MethodName := ⟨RX0, "rollTarget", "(II)I"⟩
abbrev cX0_waysFrom : ByteArray := prog_2_method_18_code
def yX0_waysFrom : MethodName := ⟨RX0, "waysFrom", "(I)I"⟩
abbrev cX0_wayOut : ByteArray := prog_2_method_19_code
def yX0_wayOut : MethodName := ⟨RX0, "wayOut", "(II)I"⟩
abbrev cX0_canGo : ByteArray := prog_2_method_20_code
def yX0_canGo : MethodName := ⟨RX0, "canGo", "(II)Z"⟩
abbrev cX0_standing : ByteArray := prog_2_method_21_code
def yX0_standing : MethodName := ⟨RX0, "standing", "(I)I"⟩
abbrev cX0_beginning : ByteArray := prog_2_method_22_code
def yX0_beginning : MethodName := ⟨RX0, "beginning", "(I)I"⟩
abbrev cX0_goOn : ByteArray := prog_2_method_23_code
def yX0_goOn : MethodName := ⟨RX0, "goOn", "(III)I"⟩
abbrev cX0_arrive : ByteArray := prog_2_method_24_code
def yX0_arrive : MethodName := ⟨RX0, "arrive", "(IIII)I"⟩
abbrev cX0_findLinks : ByteArray := prog_2_method_25_code
def yX0_findLinks : MethodName := ⟨RX0, "findLinks", "([I)V"⟩
abbrev cX0_addPair : ByteArray := prog_2_method_26_code
def yX0_addPair : MethodName := ⟨RX0, "addPair", "([III)V"⟩
def RX1 : String := "ChoiceBook$Parser"
def TX1 : u_T := fun k => match k with
  | 0 => ("ChoiceBook$Parser", "draft", "LChoiceBook$Book;", true)
  | 1 => ("ChoiceBook$Parser", "textLength", "I", false)
  | 2 => ("ChoiceBook$Parser", "faultPlace", "I", false)
  | 3 => ("ChoiceBook$Parser", "text", "[B", true)
  | 4 => ("ChoiceBook$Parser", "at", "I", false)
  | 5 => ("ChoiceBook$Parser", "faultKind", "I", false)
  | 6 => ("ChoiceBook$Parser", "healthIsTold", "Z", false)
  | 7 => ("ChoiceBook$Parser", "targets", "[I", true)
  | 8 => ("ChoiceBook$Parser", "targetPlaces", "[I", true)
  | _ => ("ChoiceBook$Parser", "targetCount", "I", false)
def tyX1 : Nat → FieldType := fun k => match k with
  | 0 => .object "ChoiceBook$Book"
  | 1 => .int
  | 2 => .int
  | 3 => .array .byte
  | 4 => .int
  | 5 => .int
  | 6 => .boolean
  | 7 => .array .int
  | 8 => .array .int
  | _ => .int
theorem nmX1 : ∀ a, a < 10 → ∀ b, b < 10 → a ≠ b → (TX1 a).2.1 ≠ (TX1 b).2.1 := by decide +kernel
theorem tyX1_ok : ∀ k, k < 10 → parseFieldDescriptor (TX1 k).2.2.1 = some (tyX1 k) := by decide +kernel
abbrev cX1_init : ByteArray := prog_3_method_1_code
def yX1_init : MethodName := ⟨RX1, "<init>", "()V"⟩
abbrev cX1_append : ByteArray := prog_3_method_2_code
def yX1_append : MethodName := ⟨RX1, "append", "(B)V"⟩
abbrev cX1_parse : ByteArray := prog_3_method_3_code
def yX1_parse : MethodName := ⟨RX1, "parse", "()I"⟩
abbrev cX1_readHealth : ByteArray := prog_3_method_4_code
def yX1_readHealth : MethodName := ⟨RX1, "readHealth", "()V"⟩
abbrev cX1_readPart : ByteArray := prog_3_method_5_code
def yX1_readPart : MethodName := ⟨RX1, "readPart", "()V"⟩
abbrev cX1_readEffects : ByteArray := prog_3_method_6_code
def yX1_readEffects : MethodName := ⟨RX1, "readEffects", "(I)V"⟩
abbrev cX1_effectHere : ByteArray := prog_3_method_7_code
def yX1_effectHere : MethodName := ⟨RX1, "effectHere", "()I"⟩
abbrev cX1_readEnd : ByteArray := prog_3_method_8_code
def yX1_readEnd : MethodName := ⟨RX1, "readEnd", "(I)V"⟩
abbrev cX1_readChoices : ByteArray := prog_3_method_9_code
def yX1_readChoices : MethodName := ⟨RX1, "readChoices", "(I)V"⟩
abbrev cX1_readThingBehind : ByteArray := prog_3_method_10_code
def yX1_readThingBehind : MethodName := ⟨RX1, "readThingBehind", "(Ljava/lang/String;)I"⟩
abbrev cX1_readTarget : ByteArray := prog_3_method_11_code
def yX1_readTarget : MethodName := ⟨RX1, "readTarget", "()I"⟩
abbrev cX1_readNumber : ByteArray := prog_3_method_12_code
def yX1_readNumber : MethodName := ⟨RX1, "readNumber", "(II)I"⟩
abbrev cX1_closeClause : ByteArray := prog_3_method_13_code
def yX1_closeClause : MethodName := ⟨RX1, "closeClause", "()V"⟩
abbrev cX1_checkTargets : ByteArray := prog_3_method_14_code
def yX1_checkTargets : MethodName := ⟨RX1, "checkTargets", "()V"⟩
abbrev cX1_isWord : ByteArray := prog_3_method_15_code
def yX1_isWord : MethodName := ⟨RX1, "isWord", "(Ljava/lang/String;)Z"⟩
abbrev cX1_pass : ByteArray := prog_3_method_16_code
def yX1_pass : MethodName := ⟨RX1, "pass", "(I)V"⟩
abbrev cX1_fail : ByteArray := prog_3_method_17_code
def yX1_fail : MethodName := ⟨RX1, "fail", "(II)V"⟩
def RX2 : String := "ChoiceBook$Situation"
def TX2 : u_T := fun k => match k with
  | 0 => ("ChoiceBook$Situation", "book", "LChoiceBook$Book;", true)
  | 1 => ("ChoiceBook$Situation", "numbers", "[I", true)
  | 2 => ("ChoiceBook$Situation", "seed", "I", false)
  | 3 => ("ChoiceBook$Situation", "begun", "Z", false)
  | 4 => ("ChoiceBook$Situation", "state", "I", false)
  | 5 => ("ChoiceBook$Situation", "turns", "I", false)
  | 6 => ("ChoiceBook$Situation", "kept", "Z", false)
  | 7 => ("ChoiceBook$Situation", "moves", "[I", true)
  | _ => ("ChoiceBook$Situation", "partByNumber", "[I", true)
def tyX2 : Nat → FieldType := fun k => match k with
  | 0 => .object "ChoiceBook$Book"
  | 1 => .array .int
  | 2 => .int
  | 3 => .boolean
  | 4 => .int
  | 5 => .int
  | 6 => .boolean
  | 7 => .array .int
  | _ => .array .int
theorem nmX2 : ∀ a, a < 9 → ∀ b, b < 9 → a ≠ b → (TX2 a).2.1 ≠ (TX2 b).2.1 := by decide +kernel
theorem tyX2_ok : ∀ k, k < 9 → parseFieldDescriptor (TX2 k).2.2.1 = some (tyX2 k) := by decide +kernel
abbrev cX2_init : ByteArray := prog_4_method_1_code
def yX2_init : MethodName := ⟨RX2, "<init>", "(LChoiceBook$Book;)V"⟩
abbrev cX2_copyFrom : ByteArray := prog_4_method_2_code
def yX2_copyFrom : MethodName := ⟨RX2, "copyFrom", "(LChoiceBook$Situation;)V"⟩
abbrev cX2_openBook : ByteArray := prog_4_method_3_code
def yX2_openBook : MethodName := ⟨RX2, "openBook", "(LChoiceBook$Book;)V"⟩
abbrev cX2_beginReading : ByteArray := prog_4_method_4_code
def yX2_beginReading : MethodName := ⟨RX2, "beginReading", "()V"⟩
abbrev cX2_turnTo : ByteArray := prog_4_method_5_code
def yX2_turnTo : MethodName := ⟨RX2, "turnTo", "(I)V"⟩
abbrev cX2_standing : ByteArray := prog_4_method_6_code
def yX2_standing : MethodName := ⟨RX2, "standing", "()I"⟩
abbrev cX2_draw : ByteArray := prog_4_method_7_code
def yX2_draw : MethodName := ⟨RX2, "draw", "(I)I"⟩
abbrev cX2_layPages : ByteArray := prog_4_method_8_code
def yX2_layPages : MethodName := ⟨RX2, "layPages", "(I[I)V"⟩
abbrev cX2_flipsOver : ByteArray := prog_4_method_9_code
def yX2_flipsOver : MethodName := ⟨RX2, "flipsOver", "([I)I"⟩
def RX3 : String := "ChoiceBook$State"
def TX3 : u_T := fun k => match k with
  | _ => ("", "", "", false)
def tyX3 : Nat → FieldType := fun k => match k with
  | _ => .int
theorem nmX3 : ∀ a, a < 0 → ∀ b, b < 0 → a ≠ b → (TX3 a).2.1 ≠ (TX3 b).2.1 := by decide +kernel
theorem tyX3_ok : ∀ k, k < 0 → parseFieldDescriptor (TX3 k).2.2.1 = some (tyX3 k) := by decide +kernel
abbrev cX3_pack : ByteArray := prog_5_method_2_code
def yX3_pack : MethodName := ⟨RX3, "pack", "(IIII)I"⟩
abbrev cX3_partOf : ByteArray := prog_5_method_3_code
def yX3_partOf : MethodName := ⟨RX3, "partOf", "(I)I"⟩
abbrev cX3_thingsOf : ByteArray := prog_5_method_4_code
def yX3_thingsOf : MethodName := ⟨RX3, "thingsOf", "(I)I"⟩
abbrev cX3_healthOf : ByteArray := prog_5_method_5_code
def yX3_healthOf : MethodName := ⟨RX3, "healthOf", "(I)I"⟩
abbrev cX3_fateOf : ByteArray := prog_5_method_6_code
def yX3_fateOf : MethodName := ⟨RX3, "fateOf", "(I)I"⟩
abbrev cX3_isOver : ByteArray := prog_5_method_7_code
def yX3_isOver : MethodName := ⟨RX3, "isOver", "(I)Z"⟩
def RX4 : String := "ChoiceBook$StateGraph"
def TX4 : u_T := fun k => match k with
  | 0 => ("ChoiceBook$StateGraph", "begunSize", "I", false)
  | 1 => ("ChoiceBook$StateGraph", "begunParts", "I", false)
  | 2 => ("ChoiceBook$StateGraph", "begunWon", "Z", false)
  | 3 => ("ChoiceBook$StateGraph", "book", "LChoiceBook$Book;", true)
  | 4 => ("ChoiceBook$StateGraph", "size", "I", false)
  | 5 => ("ChoiceBook$StateGraph", "wayCount", "I", false)
  | 6 => ("ChoiceBook$StateGraph", "arrivedParts", "I", false)
  | 7 => ("ChoiceBook$StateGraph", "states", "[I", false)
  | 8 => ("ChoiceBook$StateGraph", "firstWay", "[I", false)
  | 9 => ("ChoiceBook$StateGraph", "ways", "[I", false)
  | 10 => ("ChoiceBook$StateGraph", "placeBySlot", "[I", false)
  | 11 => ("ChoiceBook$StateGraph", "odds", "[I", false)
  | 12 => ("ChoiceBook$StateGraph", "nextOdds", "[I", false)
  | 13 => ("ChoiceBook$StateGraph", "oddsTurns", "I", false)
  | 14 => ("ChoiceBook$StateGraph", "oddsSettled", "Z", false)
  | 15 => ("ChoiceBook$StateGraph", "turnsToWin", "[I", false)
  | _ => ("ChoiceBook$StateGraph", "winsMeasured", "Z", false)
def tyX4 : Nat → FieldType := fun k => match k with
  | 0 => .int
  | 1 => .int
  | 2 => .boolean
  | 3 => .object "ChoiceBook$Book"
  | 4 => .int
  | 5 => .int
  | 6 => .int
  | 7 => .array .int
  | 8 => .array .int
  | 9 => .array .int
  | 10 => .array .int
  | 11 => .array .int
  | 12 => .array .int
  | 13 => .int
  | 14 => .boolean
  | 15 => .array .int
  | _ => .boolean
theorem nmX4 : ∀ a, a < 17 → ∀ b, b < 17 → a ≠ b → (TX4 a).2.1 ≠ (TX4 b).2.1 := by decide +kernel
theorem tyX4_ok : ∀ k, k < 17 → parseFieldDescriptor (TX4 k).2.2.1 = some (tyX4 k) := by decide +kernel
abbrev cX4_init : ByteArray := prog_6_method_1_code
def yX4_init : MethodName := ⟨RX4, "<init>", "(LChoiceBook$Book;)V"⟩
abbrev cX4_build : ByteArray := prog_6_method_2_code
def yX4_build : MethodName := ⟨RX4, "build", "(IIZ)V"⟩
abbrev cX4_include : ByteArray := prog_6_method_3_code
def yX4_include : MethodName := ⟨RX4, "include", "(I)I"⟩
abbrev cX4_find : ByteArray := prog_6_method_4_code
def yX4_find : MethodName := ⟨RX4, "find", "(I)I"⟩
abbrev cX4_runTurns : ByteArray := prog_6_method_5_code
def yX4_runTurns : MethodName := ⟨RX4, "runTurns", "(I)V"⟩
abbrev cX4_oddsOf : ByteArray := prog_6_method_6_code
def yX4_oddsOf : MethodName := ⟨RX4, "oddsOf", "(I)I"⟩
abbrev cX4_measureWins : ByteArray := prog_6_method_7_code
def yX4_measureWins : MethodName := ⟨RX4, "measureWins", "()V"⟩
abbrev cX4_turnsToWinOf : ByteArray := prog_6_method_8_code
def yX4_turnsToWinOf : MethodName := ⟨RX4, "turnsToWinOf", "(I)I"⟩
abbrev cX4_trapParts : ByteArray := prog_6_method_9_code
def yX4_trapParts : MethodName := ⟨RX4, "trapParts", "()I"⟩
abbrev cX4_holeParts : ByteArray := prog_6_method_10_code
def yX4_holeParts : MethodName := ⟨RX4, "holeParts", "()I"⟩
abbrev cX4_hadThings : ByteArray := prog_6_method_11_code
def yX4_hadThings : MethodName := ⟨RX4, "hadThings", "()I"⟩
abbrev cX4_slotOf : ByteArray := prog_6_method_12_code
def yX4_slotOf : MethodName := ⟨RX4, "slotOf", "(I)I"⟩
abbrev cX4_hasWon : ByteArray := prog_6_method_13_code
def yX4_hasWon : MethodName := ⟨RX4, "hasWon", "(I)Z"⟩
abbrev cX4_forget : ByteArray := prog_6_method_14_code
def yX4_forget : MethodName := ⟨RX4, "forget", "()V"⟩
abbrev cX4_forgetResults : ByteArray := prog_6_method_15_code
def yX4_forgetResults : MethodName := ⟨RX4, "forgetResults", "()V"⟩
abbrev cX4_spread : ByteArray := prog_6_method_16_code
def yX4_spread : MethodName := ⟨RX4, "spread", "(IIIZ)Z"⟩
abbrev cX4_meet : ByteArray := prog_6_method_17_code
def yX4_meet : MethodName := ⟨RX4, "meet", "(I)I"⟩
abbrev cX4_addWay : ByteArray := prog_6_method_18_code
def yX4_addWay : MethodName := ⟨RX4, "addWay", "(I)V"⟩
abbrev cX4_roomForAll : ByteArray := prog_6_method_19_code
def yX4_roomForAll : MethodName := ⟨RX4, "roomForAll", "([I)[I"⟩
abbrev cX4_startOdds : ByteArray := prog_6_method_20_code
def yX4_startOdds : MethodName := ⟨RX4, "startOdds", "()V"⟩
abbrev cX4_runOneTurn : ByteArray := prog_6_method_21_code
def yX4_runOneTurn : MethodName := ⟨RX4, "runOneTurn", "()V"⟩
abbrev cX4_oddsBehindTurn : ByteArray := prog_6_method_22_code
def yX4_oddsBehindTurn : MethodName := ⟨RX4, "oddsBehindTurn", "(I)I"⟩
abbrev cX4_leadsTo : ByteArray := prog_6_method_23_code
def yX4_leadsTo : MethodName := ⟨RX4, "leadsTo", "(II)Z"⟩
def RX5 : String := "ChoiceBook"
def TX5 : u_T := fun k => match k with
  | 0 => ("ChoiceBook", "parser", "LChoiceBook$Parser;", true)
  | 1 => ("ChoiceBook", "here", "LChoiceBook$Situation;", true)
  | 2 => ("ChoiceBook", "images", "[LChoiceBook$Situation;", true)
  | 3 => ("ChoiceBook", "logged", "[I", true)
  | 4 => ("ChoiceBook", "loggedCount", "I", false)
  | 5 => ("ChoiceBook", "comeTo", "LChoiceBook$StateGraph;", true)
  | 6 => ("ChoiceBook", "supposed", "LChoiceBook$StateGraph;", true)
  | 7 => ("ChoiceBook", "comeToIsFresh", "Z", false)
  | 8 => ("ChoiceBook", "linkRows", "[I", true)
  | 9 => ("ChoiceBook", "triedNumbers", "[I", true)
  | _ => ("ChoiceBook", "pages", "[I", true)
def tyX5 : Nat → FieldType := fun k => match k with
  | 0 => .object "ChoiceBook$Parser"
  | 1 => .object "ChoiceBook$Situation"
  | 2 => .array (.object "ChoiceBook$Situation")
  | 3 => .array .int
  | 4 => .int
  | 5 => .object "ChoiceBook$StateGraph"
  | 6 => .object "ChoiceBook$StateGraph"
  | 7 => .boolean
  | 8 => .array .int
  | 9 => .array .int
  | _ => .array .int
theorem nmX5 : ∀ a, a < 11 → ∀ b, b < 11 → a ≠ b → (TX5 a).2.1 ≠ (TX5 b).2.1 := by decide +kernel
theorem tyX5_ok : ∀ k, k < 11 → parseFieldDescriptor (TX5 k).2.2.1 = some (tyX5 k) := by decide +kernel
abbrev cX5_init : ByteArray := prog_1_method_1_code
def yX5_init : MethodName := ⟨RX5, "<init>", "()V"⟩
abbrev cX5_feed : ByteArray := prog_1_method_2_code
def yX5_feed : MethodName := ⟨RX5, "feed", "(IJ)I"⟩
abbrev cX5_book : ByteArray := prog_1_method_3_code
def yX5_book : MethodName := ⟨RX5, "book", "()I"⟩
abbrev cX5_fault : ByteArray := prog_1_method_4_code
def yX5_fault : MethodName := ⟨RX5, "fault", "()I"⟩
abbrev cX5_part : ByteArray := prog_1_method_5_code
def yX5_part : MethodName := ⟨RX5, "part", "(II)I"⟩
abbrev cX5_effect : ByteArray := prog_1_method_6_code
def yX5_effect : MethodName := ⟨RX5, "effect", "(III)I"⟩
abbrev cX5_choice : ByteArray := prog_1_method_7_code
def yX5_choice : MethodName := ⟨RX5, "choice", "(III)I"⟩
abbrev cX5_link : ByteArray := prog_1_method_8_code
def yX5_link : MethodName := ⟨RX5, "link", "(IIII)I"⟩
abbrev cX5_unlink : ByteArray := prog_1_method_9_code
def yX5_unlink : MethodName := ⟨RX5, "unlink", "(II)I"⟩
abbrev cX5_count : ByteArray := prog_1_method_10_code
def yX5_count : MethodName := ⟨RX5, "count", "(I)I"⟩
abbrev cX5_begin : ByteArray := prog_1_method_11_code
def yX5_begin : MethodName := ⟨RX5, "begin", "()I"⟩
abbrev cX5_choose : ByteArray := prog_1_method_12_code
def yX5_choose : MethodName := ⟨RX5, "choose", "(I)I"⟩
abbrev cX5_roll : ByteArray := prog_1_method_13_code
def yX5_roll : MethodName := ⟨RX5, "roll", "(I)I"⟩
abbrev cX5_now : ByteArray := prog_1_method_14_code
def yX5_now : MethodName := ⟨RX5, "now", "(I)I"⟩
abbrev cX5_odds : ByteArray := prog_1_method_15_code
def yX5_odds : MethodName := ⟨RX5, "odds", "(I)I"⟩
abbrev cX5_advice : ByteArray := prog_1_method_16_code
def yX5_advice : MethodName := ⟨RX5, "advice", "(I)I"⟩
abbrev cX5_fewest : ByteArray := prog_1_method_17_code
def yX5_fewest : MethodName := ⟨RX5, "fewest", "()I"⟩
abbrev cX5_surely : ByteArray := prog_1_method_18_code
def yX5_surely : MethodName := ⟨RX5, "surely", "()I"⟩
abbrev cX5_parts : ByteArray := prog_1_method_19_code
def yX5_parts : MethodName := ⟨RX5, "parts", "(I)I"⟩
abbrev cX5_things : ByteArray := prog_1_method_20_code
def yX5_things : MethodName := ⟨RX5, "things", "(I)I"⟩
abbrev cX5_without : ByteArray := prog_1_method_21_code
def yX5_without : MethodName := ⟨RX5, "without", "(II)I"⟩
abbrev cX5_log : ByteArray := prog_1_method_22_code
def yX5_log : MethodName := ⟨RX5, "log", "(I)I"⟩
abbrev cX5_clear : ByteArray := prog_1_method_23_code
def yX5_clear : MethodName := ⟨RX5, "clear", "()I"⟩
abbrev cX5_judge : ByteArray := prog_1_method_24_code
def yX5_judge : MethodName := ⟨RX5, "judge", "()I"⟩
abbrev cX5_number : ByteArray := prog_1_method_25_code
def yX5_number : MethodName := ⟨RX5, "number", "(I)I"⟩
abbrev cX5_near : ByteArray := prog_1_method_26_code
def yX5_near : MethodName := ⟨RX5, "near", "(I)I"⟩
abbrev cX5_shuffle : ByteArray := prog_1_method_27_code
def yX5_shuffle : MethodName := ⟨RX5, "shuffle", "(II)I"⟩
abbrev cX5_page : ByteArray := prog_1_method_28_code
def yX5_page : MethodName := ⟨RX5, "page", "(II)I"⟩
abbrev cX5_flips : ByteArray := prog_1_method_29_code
def yX5_flips : MethodName := ⟨RX5, "flips", "(I)I"⟩
abbrev cX5_seed : ByteArray := prog_1_method_30_code
def yX5_seed : MethodName := ⟨RX5, "seed", "(I)I"⟩
abbrev cX5_blind : ByteArray := prog_1_method_31_code
def yX5_blind : MethodName := ⟨RX5, "blind", "(I)I"⟩
abbrev cX5_keep : ByteArray := prog_1_method_32_code
def yX5_keep : MethodName := ⟨RX5, "keep", "(I)I"⟩
abbrev cX5_goBack : ByteArray := prog_1_method_33_code
def yX5_goBack : MethodName := ⟨RX5, "goBack", "(I)I"⟩
abbrev cX5_isThing : ByteArray := prog_1_method_34_code
def yX5_isThing : MethodName := ⟨RX5, "isThing", "(I)Z"⟩
abbrev cX5_isThingOrNone : ByteArray := prog_1_method_35_code
def yX5_isThingOrNone : MethodName := ⟨RX5, "isThingOrNone", "(I)Z"⟩
abbrev cX5_freshComeTo : ByteArray := prog_1_method_36_code
def yX5_freshComeTo : MethodName := ⟨RX5, "freshComeTo", "()LChoiceBook$StateGraph;"⟩
abbrev cX5_bestChoice : ByteArray := prog_1_method_37_code
def yX5_bestChoice : MethodName := ⟨RX5, "bestChoice", "(LChoiceBook$StateGraph;)I"⟩
abbrev cX5_mustParts : ByteArray := prog_1_method_38_code
def yX5_mustParts : MethodName := ⟨RX5, "mustParts", "(LChoiceBook$StateGraph;)I"⟩
abbrev cX5_neededThings : ByteArray := prog_1_method_39_code
def yX5_neededThings : MethodName := ⟨RX5, "neededThings", "(LChoiceBook$StateGraph;)I"⟩
abbrev cX5_nearPairs : ByteArray := prog_1_method_40_code
def yX5_nearPairs : MethodName := ⟨RX5, "nearPairs", "([I[II)I"⟩
abbrev cX5_mixTriedNumbers : ByteArray := prog_1_method_41_code
def yX5_mixTriedNumbers : MethodName := ⟨RX5, "mixTriedNumbers", "()V"⟩
abbrev cX5_blindEnd : ByteArray := prog_1_method_42_code
def yX5_blindEnd : MethodName := ⟨RX5, "blindEnd", "()I"⟩
abbrev cX5_blindWay : ByteArray := prog_1_method_43_code
def yX5_blindWay : MethodName := ⟨RX5, "blindWay", "(I)I"⟩
abbrev cX5_nthOf : ByteArray := prog_1_method_44_code
def yX5_nthOf : MethodName := ⟨RX5, "nthOf", "(II)I"⟩
def RX6 : String := "ChoiceBookModel"
def TX6 : u_T := fun k => match k with
  | 0 => ("ChoiceBookModel", "w", "[I", true)
  | 1 => ("ChoiceBookModel", "isKept", "[Z", true)
  | 2 => ("ChoiceBookModel", "read", "[I", true)
  | 3 => ("ChoiceBookModel", "text", "[I", true)
  | 4 => ("ChoiceBookModel", "textSize", "I", false)
  | 5 => ("ChoiceBookModel", "at", "I", false)
  | 6 => ("ChoiceBookModel", "first", "I", false)
  | 7 => ("ChoiceBookModel", "length", "I", false)
  | 8 => ("ChoiceBookModel", "faultOf", "I", false)
  | 9 => ("ChoiceBookModel", "fault", "I", false)
  | 10 => ("ChoiceBookModel", "isHealthTold", "Z", false)
  | 11 => ("ChoiceBookModel", "lateAt", "I", false)
  | 12 => ("ChoiceBookModel", "goals", "[I", true)
  | 13 => ("ChoiceBookModel", "goalAt", "[I", true)
  | 14 => ("ChoiceBookModel", "goalMany", "I", false)
  | 15 => ("ChoiceBookModel", "barredPart", "I", false)
  | 16 => ("ChoiceBookModel", "barredThing", "I", false)
  | 17 => ("ChoiceBookModel", "newThings", "I", false)
  | 18 => ("ChoiceBookModel", "newHealth", "I", false)
  | 19 => ("ChoiceBookModel", "list", "[I", true)
  | 20 => ("ChoiceBookModel", "far", "[I", true)
  | 21 => ("ChoiceBookModel", "found", "I", false)
  | 22 => ("ChoiceBookModel", "lostParts", "I", false)
  | 23 => ("ChoiceBookModel", "logged", "I", false)
  | 24 => ("ChoiceBookModel", "log", "[I", true)
  | 25 => ("ChoiceBookModel", "oddsNow", "[I", true)
  | 26 => ("ChoiceBookModel", "oddsThen", "[I", true)
  | 27 => ("ChoiceBookModel", "isSure", "[Z", true)
  | 28 => ("ChoiceBookModel", "wasSure", "[Z", true)
  | _ => ("ChoiceBookModel", "bestNumbers", "[I", true)
def tyX6 : Nat → FieldType := fun k => match k with
  | 0 => .array .int
  | 1 => .array .boolean
  | 2 => .array .int
  | 3 => .array .int
  | 4 => .int
  | 5 => .int
  | 6 => .int
  | 7 => .int
  | 8 => .int
  | 9 => .int
  | 10 => .boolean
  | 11 => .int
  | 12 => .array .int
  | 13 => .array .int
  | 14 => .int
  | 15 => .int
  | 16 => .int
  | 17 => .int
  | 18 => .int
  | 19 => .array .int
  | 20 => .array .int
  | 21 => .int
  | 22 => .int
  | 23 => .int
  | 24 => .array .int
  | 25 => .array .int
  | 26 => .array .int
  | 27 => .array .boolean
  | 28 => .array .boolean
  | _ => .array .int
theorem nmX6 : ∀ a, a < 30 → ∀ b, b < 30 → a ≠ b → (TX6 a).2.1 ≠ (TX6 b).2.1 := by decide +kernel
theorem tyX6_ok : ∀ k, k < 30 → parseFieldDescriptor (TX6 k).2.2.1 = some (tyX6 k) := by decide +kernel
abbrev cX6_init : ByteArray := prog_8_method_1_code
def yX6_init : MethodName := ⟨RX6, "<init>", "()V"⟩
abbrev cX6_in : ByteArray := prog_8_method_3_code
def yX6_in : MethodName := ⟨RX6, "in", "(JJJ)Z"⟩
abbrev cX6_one : ByteArray := prog_8_method_4_code
def yX6_one : MethodName := ⟨RX6, "one", "(Z)I"⟩
abbrev cX6_has : ByteArray := prog_8_method_5_code
def yX6_has : MethodName := ⟨RX6, "has", "(II)Z"⟩
abbrev cX6_feed : ByteArray := prog_8_method_6_code
def yX6_feed : MethodName := ⟨RX6, "feed", "(IJ)I"⟩
abbrev cX6_here : ByteArray := prog_8_method_7_code
def yX6_here : MethodName := ⟨RX6, "here", "()I"⟩
abbrev cX6_want : ByteArray := prog_8_method_8_code
def yX6_want : MethodName := ⟨RX6, "want", "(ZII)Z"⟩
abbrev cX6_takeWord : ByteArray := prog_8_method_9_code
def yX6_takeWord : MethodName := ⟨RX6, "takeWord", "()V"⟩
abbrev cX6_isWord : ByteArray := prog_8_method_10_code
def yX6_isWord : MethodName := ⟨RX6, "isWord", "(IIIIII)Z"⟩
abbrev cX6_isLong : ByteArray := prog_8_method_11_code
def yX6_isLong : MethodName := ⟨RX6, "isLong", "(IIII)Z"⟩
abbrev cX6_isBegun : ByteArray := prog_8_method_12_code
def yX6_isBegun : MethodName := ⟨RX6, "isBegun", "(IIII)Z"⟩
abbrev cX6_takeNumber : ByteArray := prog_8_method_13_code
def yX6_takeNumber : MethodName := ⟨RX6, "takeNumber", "(II)I"⟩
abbrev cX6_takeGoal : ByteArray := prog_8_method_14_code
def yX6_takeGoal : MethodName := ⟨RX6, "takeGoal", "()I"⟩
abbrev cX6_kindHere : ByteArray := prog_8_method_15_code
def yX6_kindHere : MethodName := ⟨RX6, "kindHere", "()I"⟩
abbrev cX6_takeEffects : ByteArray := prog_8_method_16_code
def yX6_takeEffects : MethodName := ⟨RX6, "takeEffects", "(I)V"⟩
abbrev cX6_takeChoices : ByteArray := prog_8_method_17_code
def yX6_takeChoices : MethodName := ⟨RX6, "takeChoices", "(I)V"⟩
abbrev cX6_takePart : ByteArray := prog_8_method_18_code
def yX6_takePart : MethodName := ⟨RX6, "takePart", "()V"⟩
abbrev cX6_takeClause : ByteArray := prog_8_method_19_code
def yX6_takeClause : MethodName := ⟨RX6, "takeClause", "()V"⟩
abbrev cX6_book : ByteArray := prog_8_method_20_code
def yX6_book : MethodName := ⟨RX6, "book", "()I"⟩
abbrev cX6_fault : ByteArray := prog_8_method_21_code
def yX6_fault : MethodName := ⟨RX6, "fault", "()I"⟩
abbrev cX6_noPart : ByteArray := prog_8_method_22_code
def yX6_noPart : MethodName := ⟨RX6, "noPart", "(I)Z"⟩
abbrev cX6_linesOf : ByteArray := prog_8_method_23_code
def yX6_linesOf : MethodName := ⟨RX6, "linesOf", "(I)I"⟩
abbrev cX6_part : ByteArray := prog_8_method_24_code
def yX6_part : MethodName := ⟨RX6, "part", "(II)I"⟩
abbrev cX6_effect : ByteArray := prog_8_method_25_code
def yX6_effect : MethodName := ⟨RX6, "effect", "(III)I"⟩
abbrev cX6_choice : ByteArray := prog_8_method_26_code
def yX6_choice : MethodName := ⟨RX6, "choice", "(III)I"⟩
abbrev cX6_noThing : ByteArray := prog_8_method_27_code
def yX6_noThing : MethodName := ⟨RX6, "noThing", "(I)Z"⟩
abbrev cX6_link : ByteArray := prog_8_method_28_code
def yX6_link : MethodName := ⟨RX6, "link", "(IIII)I"⟩
abbrev cX6_unlink : ByteArray := prog_8_method_29_code
def yX6_unlink : MethodName := ⟨RX6, "unlink", "(II)I"⟩
abbrev cX6_choices : ByteArray := prog_8_method_30_code
def yX6_choices : MethodName := ⟨RX6, "choices", "()I"⟩
abbrev cX6_count : ByteArray := prog_8_method_31_code
def yX6_count : MethodName := ⟨RX6, "count", "(I)I"⟩
abbrev cX6_come : ByteArray := prog_8_method_32_code
def yX6_come : MethodName := ⟨RX6, "come", "(III)Z"⟩
abbrev cX6_stateOf : ByteArray := prog_8_method_33_code
def yX6_stateOf : MethodName := ⟨RX6, "stateOf", "(III)I"⟩
abbrev cX6_partOf : ByteArray := prog_8_method_34_code
def yX6_partOf : MethodName := ⟨RX6, "partOf", "(I)I"⟩
abbrev cX6_thingsOf : ByteArray := prog_8_method_35_code
def yX6_thingsOf : MethodName := ⟨RX6, "thingsOf", "(I)I"⟩
abbrev cX6_healthOf : ByteArray := prog_8_method_36_code
def yX6_healthOf : MethodName := ⟨RX6, "healthOf", "(I)I"⟩
abbrev cX6_stateAt : ByteArray := prog_8_method_37_code
def yX6_stateAt : MethodName := ⟨RX6, "stateAt", "(III)I"⟩
abbrev cX6_isOpenChoice : ByteArray := prog_8_method_38_code
def yX6_isOpenChoice : MethodName := ⟨RX6, "isOpenChoice", "(III)Z"⟩
abbrev cX6_waysOf : ByteArray := prog_8_method_39_code
def yX6_waysOf : MethodName := ⟨RX6, "waysOf", "(I)I"⟩
abbrev cX6_isWay : ByteArray := prog_8_method_40_code
def yX6_isWay : MethodName := ⟨RX6, "isWay", "(II)Z"⟩
abbrev cX6_goalOf : ByteArray := prog_8_method_41_code
def yX6_goalOf : MethodName := ⟨RX6, "goalOf", "(II)I"⟩
abbrev cX6_wayTo : ByteArray := prog_8_method_42_code
def yX6_wayTo : MethodName := ⟨RX6, "wayTo", "(II)I"⟩
abbrev cX6_openWays : ByteArray := prog_8_method_43_code
def yX6_openWays : MethodName := ⟨RX6, "openWays", "(I)I"⟩
abbrev cX6_standsAt : ByteArray := prog_8_method_44_code
def yX6_standsAt : MethodName := ⟨RX6, "standsAt", "(I)I"⟩
abbrev cX6_beginSpread : ByteArray := prog_8_method_45_code
def yX6_beginSpread : MethodName := ⟨RX6, "beginSpread", "()V"⟩
abbrev cX6_reach : ByteArray := prog_8_method_46_code
def yX6_reach : MethodName := ⟨RX6, "reach", "(II)V"⟩
abbrev cX6_spreadAll : ByteArray := prog_8_method_47_code
def yX6_spreadAll : MethodName := ⟨RX6, "spreadAll", "()V"⟩
abbrev cX6_spreadFrom : ByteArray := prog_8_method_48_code
def yX6_spreadFrom : MethodName := ⟨RX6, "spreadFrom", "(I)V"⟩
abbrev cX6_spreadFromBeginning : ByteArray := prog_8_method_49_code
def yX6_spreadFromBeginning : MethodName := ⟨RX6, "spreadFromBeginning", "()V"⟩
abbrev cX6_hasWon : ByteArray := prog_8_method_50_code
def yX6_hasWon : MethodName := ⟨RX6, "hasWon", "()Z"⟩
abbrev cX6_stands : ByteArray := prog_8_method_51_code
def yX6_stands : MethodName := ⟨RX6, "stands", "()I"⟩
abbrev cX6_enter : ByteArray := prog_8_method_52_code
def yX6_enter : MethodName := ⟨RX6, "enter", "(I)V"⟩
abbrev cX6_begins : ByteArray := prog_8_method_53_code
def yX6_begins : MethodName := ⟨RX6, "begins", "()V"⟩
abbrev cX6_begin : ByteArray := prog_8_method_54_code
def yX6_begin : MethodName := ⟨RX6, "begin", "()I"⟩
abbrev cX6_goTo : ByteArray := prog_8_method_55_code
def yX6_goTo : MethodName := ⟨RX6, "goTo", "(I)V"⟩
abbrev cX6_choose : ByteArray := prog_8_method_56_code
def yX6_choose : MethodName := ⟨RX6, "choose", "(I)I"⟩
abbrev cX6_draw : ByteArray := prog_8_method_57_code
def yX6_draw : MethodName := ⟨RX6, "draw", "(I)I"⟩
abbrev cX6_rollBy : ByteArray := prog_8_method_58_code
def yX6_rollBy : MethodName := ⟨RX6, "rollBy", "(I)V"⟩
abbrev cX6_roll : ByteArray := prog_8_method_59_code
def yX6_roll : MethodName := ⟨RX6, "roll", "(I)I"⟩
abbrev cX6_openNow : ByteArray := prog_8_method_60_code
def yX6_openNow : MethodName := ⟨RX6, "openNow", "()I"⟩
abbrev cX6_now : ByteArray := prog_8_method_61_code
def yX6_now : MethodName := ⟨RX6, "now", "(I)I"⟩
abbrev cX6_oddsAt : ByteArray := prog_8_method_62_code
def yX6_oddsAt : MethodName := ⟨RX6, "oddsAt", "(I)I"⟩
abbrev cX6_oddsOf : ByteArray := prog_8_method_63_code
def yX6_oddsOf : MethodName := ⟨RX6, "oddsOf", "(I)I"⟩
abbrev cX6_findOdds : ByteArray := prog_8_method_64_code
def yX6_findOdds : MethodName := ⟨RX6, "findOdds", "(I)V"⟩
abbrev cX6_nowState : ByteArray := prog_8_method_65_code
def yX6_nowState : MethodName := ⟨RX6, "nowState", "()I"⟩
abbrev cX6_odds : ByteArray := prog_8_method_66_code
def yX6_odds : MethodName := ⟨RX6, "odds", "(I)I"⟩
abbrev cX6_advice : ByteArray := prog_8_method_67_code
def yX6_advice : MethodName := ⟨RX6, "advice", "(I)I"⟩
abbrev cX6_fewest : ByteArray := prog_8_method_68_code
def yX6_fewest : MethodName := ⟨RX6, "fewest", "()I"⟩
abbrev cX6_isSureAt : ByteArray := prog_8_method_69_code
def yX6_isSureAt : MethodName := ⟨RX6, "isSureAt", "(I)Z"⟩
abbrev cX6_makesSure : ByteArray := prog_8_method_70_code
def yX6_makesSure : MethodName := ⟨RX6, "makesSure", "(I)Z"⟩
abbrev cX6_surely : ByteArray := prog_8_method_71_code
def yX6_surely : MethodName := ⟨RX6, "surely", "()I"⟩
abbrev cX6_partsFound : ByteArray := prog_8_method_72_code
def yX6_partsFound : MethodName := ⟨RX6, "partsFound", "()I"⟩
abbrev cX6_must : ByteArray := prog_8_method_73_code
def yX6_must : MethodName := ⟨RX6, "must", "()I"⟩
abbrev cX6_traps : ByteArray := prog_8_method_74_code
def yX6_traps : MethodName := ⟨RX6, "traps", "()I"⟩
abbrev cX6_holes : ByteArray := prog_8_method_75_code
def yX6_holes : MethodName := ⟨RX6, "holes", "()I"⟩
abbrev cX6_parts : ByteArray := prog_8_method_76_code
def yX6_parts : MethodName := ⟨RX6, "parts", "(I)I"⟩
abbrev cX6_things : ByteArray := prog_8_method_77_code
def yX6_things : MethodName := ⟨RX6, "things", "(I)I"⟩
abbrev cX6_without : ByteArray := prog_8_method_78_code
def yX6_without : MethodName := ⟨RX6, "without", "(II)I"⟩
abbrev cX6_log : ByteArray := prog_8_method_79_code
def yX6_log : MethodName := ⟨RX6, "log", "(I)I"⟩
abbrev cX6_clear : ByteArray := prog_8_method_80_code
def yX6_clear : MethodName := ⟨RX6, "clear", "()I"⟩
abbrev cX6_leadsTo : ByteArray := prog_8_method_81_code
def yX6_leadsTo : MethodName := ⟨RX6, "leadsTo", "(II)Z"⟩
abbrev cX6_judge : ByteArray := prog_8_method_82_code
def yX6_judge : MethodName := ⟨RX6, "judge", "()I"⟩
abbrev cX6_number : ByteArray := prog_8_method_83_code
def yX6_number : MethodName := ⟨RX6, "number", "(I)I"⟩
abbrev cX6_leads : ByteArray := prog_8_method_84_code
def yX6_leads : MethodName := ⟨RX6, "leads", "(II)Z"⟩
abbrev cX6_nearBy : ByteArray := prog_8_method_85_code
def yX6_nearBy : MethodName := ⟨RX6, "nearBy", "(I)I"⟩
abbrev cX6_near : ByteArray := prog_8_method_86_code
def yX6_near : MethodName := ⟨RX6, "near", "(I)I"⟩
abbrev cX6_shuffle : ByteArray := prog_8_method_87_code
def yX6_shuffle : MethodName := ⟨RX6, "shuffle", "(II)I"⟩
abbrev cX6_pageOf : ByteArray := prog_8_method_88_code
def yX6_pageOf : MethodName := ⟨RX6, "pageOf", "(II)I"⟩
abbrev cX6_isPage : ByteArray := prog_8_method_89_code
def yX6_isPage : MethodName := ⟨RX6, "isPage", "(I)Z"⟩
abbrev cX6_page : ByteArray := prog_8_method_90_code
def yX6_page : MethodName := ⟨RX6, "page", "(II)I"⟩
abbrev cX6_flips : ByteArray := prog_8_method_91_code
def yX6_flips : MethodName := ⟨RX6, "flips", "(I)I"⟩
abbrev cX6_seed : ByteArray := prog_8_method_92_code
def yX6_seed : MethodName := ⟨RX6, "seed", "(I)I"⟩
abbrev cX6_nthOpen : ByteArray := prog_8_method_93_code
def yX6_nthOpen : MethodName := ⟨RX6, "nthOpen", "(II)I"⟩
abbrev cX6_manyOpen : ByteArray := prog_8_method_94_code
def yX6_manyOpen : MethodName := ⟨RX6, "manyOpen", "(I)I"⟩
abbrev cX6_readsBlindly : ByteArray := prog_8_method_95_code
def yX6_readsBlindly : MethodName := ⟨RX6, "readsBlindly", "()Z"⟩
abbrev cX6_blind : ByteArray := prog_8_method_96_code
def yX6_blind : MethodName := ⟨RX6, "blind", "(I)I"⟩
abbrev cX6_copy : ByteArray := prog_8_method_97_code
def yX6_copy : MethodName := ⟨RX6, "copy", "(II)V"⟩
abbrev cX6_keep : ByteArray := prog_8_method_98_code
def yX6_keep : MethodName := ⟨RX6, "keep", "(I)I"⟩
abbrev cX6_goBack : ByteArray := prog_8_method_99_code
def yX6_goBack : MethodName := ⟨RX6, "goBack", "(I)I"⟩
def RJx145de : String := "java/io/Serializable"
def TJx145de : u_T := fun k => match k with
  | _ => ("", "", "", false)
def tyJx145de : Nat → FieldType := fun k => match k with
  | _ => .int
theorem nmJx145de : ∀ a, a < 0 → ∀ b, b < 0 → a ≠ b → (TJx145de a).2.1 ≠ (TJx145de b).2.1 := by decide +kernel
theorem tyJx145de_ok : ∀ k, k < 0 → parseFieldDescriptor (TJx145de k).2.2.1 = some (tyJx145de k) := by decide +kernel
def RJx9f9b0 : String := "java/lang/CharSequence"
def TJx9f9b0 : u_T := fun k => match k with
  | _ => ("", "", "", false)
def tyJx9f9b0 : Nat → FieldType := fun k => match k with
  | _ => .int
theorem nmJx9f9b0 : ∀ a, a < 0 → ∀ b, b < 0 → a ≠ b → (TJx9f9b0 a).2.1 ≠ (TJx9f9b0 b).2.1 := by decide +kernel
theorem tyJx9f9b0_ok : ∀ k, k < 0 → parseFieldDescriptor (TJx9f9b0 k).2.2.1 = some (tyJx9f9b0 k) := by decide +kernel
def RJx8e188 : String := "java/lang/Cloneable"
def TJx8e188 : u_T := fun k => match k with
  | _ => ("", "", "", false)
def tyJx8e188 : Nat → FieldType := fun k => match k with
  | _ => .int
theorem nmJx8e188 : ∀ a, a < 0 → ∀ b, b < 0 → a ≠ b → (TJx8e188 a).2.1 ≠ (TJx8e188 b).2.1 := by decide +kernel
theorem tyJx8e188_ok : ∀ k, k < 0 → parseFieldDescriptor (TJx8e188 k).2.2.1 = some (tyJx8e188 k) := by decide +kernel
def RJxb160c : String := "java/lang/Comparable"
def TJxb160c : u_T := fun k => match k with
  | _ => ("", "", "", false)
def tyJxb160c : Nat → FieldType := fun k => match k with
  | _ => .int
theorem nmJxb160c : ∀ a, a < 0 → ∀ b, b < 0 → a ≠ b → (TJxb160c a).2.1 ≠ (TJxb160c b).2.1 := by decide +kernel
theorem tyJxb160c_ok : ∀ k, k < 0 → parseFieldDescriptor (TJxb160c k).2.2.1 = some (tyJxb160c k) := by decide +kernel
def RJ6 : String := "java/lang/Integer"
def TJ6 : u_T := fun k => match k with
  | _ => ("", "", "", false)
def tyJ6 : Nat → FieldType := fun k => match k with
  | _ => .int
theorem nmJ6 : ∀ a, a < 0 → ∀ b, b < 0 → a ≠ b → (TJ6 a).2.1 ≠ (TJ6 b).2.1 := by decide +kernel
theorem tyJ6_ok : ∀ k, k < 0 → parseFieldDescriptor (TJ6 k).2.2.1 = some (tyJ6 k) := by decide +kernel
abbrev cJ6_bitCount_0f7a4 : ByteArray := prog_10_method_49_code
def yJ6_bitCount_0f7a4 : MethodName := ⟨RJ6, "bitCount", "(I)I"⟩
def RJ9 : String := "java/lang/Math"
def TJ9 : u_T := fun k => match k with
  | _ => ("", "", "", false)
def tyJ9 : Nat → FieldType := fun k => match k with
  | _ => .int
theorem nmJ9 : ∀ a, a < 0 → ∀ b, b < 0 → a ≠ b → (TJ9 a).2.1 ≠ (TJ9 b).2.1 := by decide +kernel
theorem tyJ9_ok : ∀ k, k < 0 → parseFieldDescriptor (TJ9 k).2.2.1 = some (tyJ9 k) := by decide +kernel
abbrev cJ9_abs_0f7a4 : ByteArray := prog_11_method_59_code
def yJ9_abs_0f7a4 : MethodName := ⟨RJ9, "abs", "(I)I"⟩
abbrev cJ9_max_7cf53 : ByteArray := prog_11_method_65_code
def yJ9_max_7cf53 : MethodName := ⟨RJ9, "max", "(II)I"⟩
abbrev cJ9_min_7cf53 : ByteArray := prog_11_method_69_code
def yJ9_min_7cf53 : MethodName := ⟨RJ9, "min", "(II)I"⟩
def RJ0 : String := "java/lang/String"
def TJ0 : u_T := fun k => match k with
  | _ => ("", "", "", false)
def tyJ0 : Nat → FieldType := fun k => match k with
  | _ => .int
theorem nmJ0 : ∀ a, a < 0 → ∀ b, b < 0 → a ≠ b → (TJ0 a).2.1 ≠ (TJ0 b).2.1 := by decide +kernel
theorem tyJ0_ok : ∀ k, k < 0 → parseFieldDescriptor (TJ0 k).2.2.1 = some (tyJ0 k) := by decide +kernel
abbrev cJ0_length_8abf5 : ByteArray := prog_12_method_54_code
def yJ0_length_8abf5 : MethodName := ⟨RJ0, "length", "()I"⟩
abbrev cJ0_charAt_5068e : ByteArray := prog_12_method_56_code
def yJ0_charAt_5068e : MethodName := ⟨RJ0, "charAt", "(I)C"⟩
abbrev cJ0_coder_7d493 : ByteArray := prog_12_method_152_code
def yJ0_coder_7d493 : MethodName := ⟨RJ0, "coder", "()B"⟩
abbrev cJ0_isLatin1_aae02 : ByteArray := prog_12_method_154_code
def yJ0_isLatin1_aae02 : MethodName := ⟨RJ0, "isLatin1", "()Z"⟩
abbrev cJ0_checkIndex_df160 : ByteArray := prog_12_method_155_code
def yJ0_checkIndex_df160 : MethodName := ⟨RJ0, "checkIndex", "(II)V"⟩
def RJ1 : String := "java/lang/StringLatin1"
def TJ1 : u_T := fun k => match k with
  | _ => ("", "", "", false)
def tyJ1 : Nat → FieldType := fun k => match k with
  | _ => .int
theorem nmJ1 : ∀ a, a < 0 → ∀ b, b < 0 → a ≠ b → (TJ1 a).2.1 ≠ (TJ1 b).2.1 := by decide +kernel
theorem tyJ1_ok : ∀ k, k < 0 → parseFieldDescriptor (TJ1 k).2.2.1 = some (tyJ1 k) := by decide +kernel
abbrev cJ1_charAt_3b067 : ByteArray := prog_13_method_2_code
def yJ1_charAt_3b067 : MethodName := ⟨RJ1, "charAt", "([BI)C"⟩
def RJ2 : String := "java/lang/StringUTF16"
def TJ2 : u_T := fun k => match k with
  | _ => ("", "", "", false)
def tyJ2 : Nat → FieldType := fun k => match k with
  | _ => .int
theorem nmJ2 : ∀ a, a < 0 → ∀ b, b < 0 → a ≠ b → (TJ2 a).2.1 ≠ (TJ2 b).2.1 := by decide +kernel
theorem tyJ2_ok : ∀ k, k < 0 → parseFieldDescriptor (TJ2 k).2.2.1 = some (tyJ2 k) := by decide +kernel
abbrev cJ2_getChar_3b067 : ByteArray := prog_14_method_5_code
def yJ2_getChar_3b067 : MethodName := ⟨RJ2, "getChar", "([BI)C"⟩
abbrev cJ2_length_9d52b : ByteArray := prog_14_method_6_code
def yJ2_length_9d52b : MethodName := ⟨RJ2, "length", "([B)I"⟩
abbrev cJ2_charAt_3b067 : ByteArray := prog_14_method_83_code
def yJ2_charAt_3b067 : MethodName := ⟨RJ2, "charAt", "([BI)C"⟩
abbrev cJ2_checkIndex_2214a : ByteArray := prog_14_method_91_code
def yJ2_checkIndex_2214a : MethodName := ⟨RJ2, "checkIndex", "(I[B)V"⟩
def RJ10 : String := "java/lang/System"
def TJ10 : u_T := fun k => match k with
  | _ => ("", "", "", false)
def tyJ10 : Nat → FieldType := fun k => match k with
  | _ => .int
theorem nmJ10 : ∀ a, a < 0 → ∀ b, b < 0 → a ≠ b → (TJ10 a).2.1 ≠ (TJ10 b).2.1 := by decide +kernel
theorem tyJ10_ok : ∀ k, k < 0 → parseFieldDescriptor (TJ10 k).2.2.1 = some (tyJ10 k) := by decide +kernel
def RJxfd54e : String := "java/lang/constant/Constable"
def TJxfd54e : u_T := fun k => match k with
  | _ => ("", "", "", false)
def tyJxfd54e : Nat → FieldType := fun k => match k with
  | _ => .int
theorem nmJxfd54e : ∀ a, a < 0 → ∀ b, b < 0 → a ≠ b → (TJxfd54e a).2.1 ≠ (TJxfd54e b).2.1 := by decide +kernel
theorem tyJxfd54e_ok : ∀ k, k < 0 → parseFieldDescriptor (TJxfd54e k).2.2.1 = some (tyJxfd54e k) := by decide +kernel
def RJx3cf43 : String := "java/lang/constant/ConstantDesc"
def TJx3cf43 : u_T := fun k => match k with
  | _ => ("", "", "", false)
def tyJx3cf43 : Nat → FieldType := fun k => match k with
  | _ => .int
theorem nmJx3cf43 : ∀ a, a < 0 → ∀ b, b < 0 → a ≠ b → (TJx3cf43 a).2.1 ≠ (TJx3cf43 b).2.1 := by decide +kernel
theorem tyJx3cf43_ok : ∀ k, k < 0 → parseFieldDescriptor (TJx3cf43 k).2.2.1 = some (tyJx3cf43 k) := by decide +kernel
def RJ7 : String := "java/util/Arrays"
def TJ7 : u_T := fun k => match k with
  | _ => ("", "", "", false)
def tyJ7 : Nat → FieldType := fun k => match k with
  | _ => .int
theorem nmJ7 : ∀ a, a < 0 → ∀ b, b < 0 → a ≠ b → (TJ7 a).2.1 ≠ (TJ7 b).2.1 := by decide +kernel
theorem tyJ7_ok : ∀ k, k < 0 → parseFieldDescriptor (TJ7 k).2.2.1 = some (tyJ7 k) := by decide +kernel
abbrev cJ7_fill_53178 : ByteArray := prog_16_method_103_code
def yJ7_fill_53178 : MethodName := ⟨RJ7, "fill", "([II)V"⟩
abbrev cJ7_copyOf_59c91 : ByteArray := prog_16_method_123_code
def yJ7_copyOf_59c91 : MethodName := ⟨RJ7, "copyOf", "([II)[I"⟩
def RJ3 : String := "jdk/internal/util/Preconditions"
def TJ3 : u_T := fun k => match k with
  | _ => ("", "", "", false)
def tyJ3 : Nat → FieldType := fun k => match k with
  | _ => .int
theorem nmJ3 : ∀ a, a < 0 → ∀ b, b < 0 → a ≠ b → (TJ3 a).2.1 ≠ (TJ3 b).2.1 := by decide +kernel
theorem tyJ3_ok : ∀ k, k < 0 → parseFieldDescriptor (TJ3 k).2.2.1 = some (tyJ3 k) := by decide +kernel
abbrev cJ3_checkIndex_8e157 : ByteArray := prog_17_method_11_code
def yJ3_checkIndex_8e157 : MethodName := ⟨RJ3, "checkIndex", "(IILjava/util/function/BiFunction;)I"⟩
def RL : String := "ChoiceBookLaw"
abbrev cL_law : ByteArray := code
def yL_law : MethodName := ⟨RL, "law", "([I)Z"⟩
abbrev vwCl : List vw_C := [(RX0, TX0, 13), (RX1, TX1, 10), (RX2, TX2, 9), (RX4, TX4, 17), (RX5, TX5, 11), (RX6, TX6, 30)]
end
section
theorem dX0_init_0 : decode cX0_init 0 = .ok (.aload_n 0, 1) := by decide +kernel
theorem dX0_init_1 : decode cX0_init 1 = .ok (.invokespecial 3, 3) := by decide +kernel
theorem dX0_init_4 : decode cX0_init 4 = .ok (.aload_n 0, 1) := by decide +kernel
theorem dX0_init_5 : decode cX0_init 5 = .ok (.iconst 0, 1) := by decide +kernel
theorem dX0_init_6 : decode cX0_init 6 = .ok (.putfield 9, 3) := by decide +kernel
theorem dX0_init_9 : decode cX0_init 9 = .ok (.aload_n 0, 1) := by decide +kernel
theorem dX0_init_10 : decode cX0_init 10 = .ok (.iconst 5, 1) := by decide +kernel
theorem dX0_init_11 : decode cX0_init 11 = .ok (.putfield 15, 3) := by decide +kernel
theorem dX0_init_14 : decode cX0_init 14 = .ok (.aload_n 0, 1) := by decide +kernel
theorem dX0_init_15 : decode cX0_init 15 = .ok (.bipush 24, 2) := by decide +kernel
theorem dX0_init_17 : decode cX0_init 17 = .ok (.newarray .int, 2) := by decide +kernel
theorem dX0_init_19 : decode cX0_init 19 = .ok (.putfield 18, 3) := by decide +kernel
theorem dX0_init_22 : decode cX0_init 22 = .ok (.aload_n 0, 1) := by decide +kernel
theorem dX0_init_23 : decode cX0_init 23 = .ok (.bipush 24, 2) := by decide +kernel
theorem dX0_init_25 : decode cX0_init 25 = .ok (.newarray .int, 2) := by decide +kernel
theorem dX0_init_27 : decode cX0_init 27 = .ok (.putfield 22, 3) := by decide +kernel
theorem dX0_init_30 : decode cX0_init 30 = .ok (.aload_n 0, 1) := by decide +kernel
theorem dX0_init_31 : decode cX0_init 31 = .ok (.bipush 24, 2) := by decide +kernel
theorem dX0_init_33 : decode cX0_init 33 = .ok (.newarray .int, 2) := by decide +kernel
theorem dX0_init_35 : decode cX0_init 35 = .ok (.putfield 25, 3) := by decide +kernel
theorem dX0_init_38 : decode cX0_init 38 = .ok (.aload_n 0, 1) := by decide +kernel
theorem dX0_init_39 : decode cX0_init 39 = .ok (.bipush 24, 2) := by decide +kernel
theorem dX0_init_41 : decode cX0_init 41 = .ok (.newarray .int, 2) := by decide +kernel
theorem dX0_init_43 : decode cX0_init 43 = .ok (.putfield 28, 3) := by decide +kernel
theorem dX0_init_46 : decode cX0_init 46 = .ok (.aload_n 0, 1) := by decide +kernel
theorem dX0_init_47 : decode cX0_init 47 = .ok (.bipush 24, 2) := by decide +kernel
theorem dX0_init_49 : decode cX0_init 49 = .ok (.newarray .int, 2) := by decide +kernel
theorem dX0_init_51 : decode cX0_init 51 = .ok (.putfield 31, 3) := by decide +kernel
theorem dX0_init_54 : decode cX0_init 54 = .ok (.aload_n 0, 1) := by decide +kernel
theorem dX0_init_55 : decode cX0_init 55 = .ok (.bipush 96, 2) := by decide +kernel
theorem dX0_init_57 : decode cX0_init 57 = .ok (.newarray .int, 2) := by decide +kernel
theorem dX0_init_59 : decode cX0_init 59 = .ok (.putfield 34, 3) := by decide +kernel
theorem dX0_init_62 : decode cX0_init 62 = .ok (.aload_n 0, 1) := by decide +kernel
theorem dX0_init_63 : decode cX0_init 63 = .ok (.bipush 96, 2) := by decide +kernel
theorem dX0_init_65 : decode cX0_init 65 = .ok (.newarray .int, 2) := by decide +kernel
theorem dX0_init_67 : decode cX0_init 67 = .ok (.putfield 37, 3) := by decide +kernel
theorem dX0_init_70 : decode cX0_init 70 = .ok (.aload_n 0, 1) := by decide +kernel
theorem dX0_init_71 : decode cX0_init 71 = .ok (.bipush 24, 2) := by decide +kernel
theorem dX0_init_73 : decode cX0_init 73 = .ok (.newarray .int, 2) := by decide +kernel
theorem dX0_init_75 : decode cX0_init 75 = .ok (.putfield 40, 3) := by decide +kernel
theorem dX0_init_78 : decode cX0_init 78 = .ok (.aload_n 0, 1) := by decide +kernel
theorem dX0_init_79 : decode cX0_init 79 = .ok (.sipush 144, 3) := by decide +kernel
theorem dX0_init_82 : decode cX0_init 82 = .ok (.newarray .int, 2) := by decide +kernel
theorem dX0_init_84 : decode cX0_init 84 = .ok (.putfield 43, 3) := by decide +kernel
theorem dX0_init_87 : decode cX0_init 87 = .ok (.aload_n 0, 1) := by decide +kernel
theorem dX0_init_88 : decode cX0_init 88 = .ok (.sipush 144, 3) := by decide +kernel
theorem dX0_init_91 : decode cX0_init 91 = .ok (.newarray .int, 2) := by decide +kernel
theorem dX0_init_93 : decode cX0_init 93 = .ok (.putfield 46, 3) := by decide +kernel
theorem dX0_init_96 : decode cX0_init 96 = .ok (.aload_n 0, 1) := by decide +kernel
theorem dX0_init_97 : decode cX0_init 97 = .ok (.sipush 144, 3) := by decide +kernel
theorem dX0_init_100 : decode cX0_init 100 = .ok (.newarray .int, 2) := by decide +kernel
theorem dX0_init_102 : decode cX0_init 102 = .ok (.putfield 49, 3) := by decide +kernel
theorem dX0_init_105 : decode cX0_init 105 = .ok (.return_, 1) := by decide +kernel
theorem dX0_empty_0 : decode cX0_empty 0 = .ok (.aload_n 0, 1) := by decide +kernel
theorem dX0_empty_1 : decode cX0_empty 1 = .ok (.iconst 0, 1) := by decide +kernel
theorem dX0_empty_2 : decode cX0_empty 2 = .ok (.putfield 9, 3) := by decide +kernel
theorem dX0_empty_5 : decode cX0_empty 5 = .ok (.aload_n 0, 1) := by decide +kernel
theorem dX0_empty_6 : decode cX0_empty 6 = .ok (.iconst 5, 1) := by decide +kernel
theorem dX0_empty_7 : decode cX0_empty 7 = .ok (.putfield 15, 3) := by decide +kernel
theorem dX0_empty_10 : decode cX0_empty 10 = .ok (.return_, 1) := by decide +kernel
theorem dX0_copyFrom_0 : decode cX0_copyFrom 0 = .ok (.aload_n 0, 1) := by decide +kernel
theorem dX0_copyFrom_1 : decode cX0_copyFrom 1 = .ok (.aload_n 1, 1) := by decide +kernel
theorem dX0_copyFrom_2 : decode cX0_copyFrom 2 = .ok (.getfield 9, 3) := by decide +kernel
theorem dX0_copyFrom_5 : decode cX0_copyFrom 5 = .ok (.putfield 9, 3) := by decide +kernel
theorem dX0_copyFrom_8 : decode cX0_copyFrom 8 = .ok (.aload_n 0, 1) := by decide +kernel
theorem dX0_copyFrom_9 : decode cX0_copyFrom 9 = .ok (.aload_n 1, 1) := by decide +kernel
theorem dX0_copyFrom_10 : decode cX0_copyFrom 10 = .ok (.getfield 15, 3) := by decide +kernel
theorem dX0_copyFrom_13 : decode cX0_copyFrom 13 = .ok (.putfield 15, 3) := by decide +kernel
theorem dX0_copyFrom_16 : decode cX0_copyFrom 16 = .ok (.aload_n 1, 1) := by decide +kernel
theorem dX0_copyFrom_17 : decode cX0_copyFrom 17 = .ok (.getfield 18, 3) := by decide +kernel
theorem dX0_copyFrom_20 : decode cX0_copyFrom 20 = .ok (.iconst 0, 1) := by decide +kernel
theorem dX0_copyFrom_21 : decode cX0_copyFrom 21 = .ok (.aload_n 0, 1) := by decide +kernel
theorem dX0_copyFrom_22 : decode cX0_copyFrom 22 = .ok (.getfield 18, 3) := by decide +kernel
theorem dX0_copyFrom_25 : decode cX0_copyFrom 25 = .ok (.iconst 0, 1) := by decide +kernel
theorem dX0_copyFrom_26 : decode cX0_copyFrom 26 = .ok (.bipush 24, 2) := by decide +kernel
theorem dX0_copyFrom_28 : decode cX0_copyFrom 28 = .ok (.invokestatic 52, 3) := by decide +kernel
theorem dX0_copyFrom_31 : decode cX0_copyFrom 31 = .ok (.aload_n 1, 1) := by decide +kernel
theorem dX0_copyFrom_32 : decode cX0_copyFrom 32 = .ok (.getfield 22, 3) := by decide +kernel
theorem dX0_copyFrom_35 : decode cX0_copyFrom 35 = .ok (.iconst 0, 1) := by decide +kernel
theorem dX0_copyFrom_36 : decode cX0_copyFrom 36 = .ok (.aload_n 0, 1) := by decide +kernel
theorem dX0_copyFrom_37 : decode cX0_copyFrom 37 = .ok (.getfield 22, 3) := by decide +kernel
theorem dX0_copyFrom_40 : decode cX0_copyFrom 40 = .ok (.iconst 0, 1) := by decide +kernel
theorem dX0_copyFrom_41 : decode cX0_copyFrom 41 = .ok (.bipush 24, 2) := by decide +kernel
theorem dX0_copyFrom_43 : decode cX0_copyFrom 43 = .ok (.invokestatic 52, 3) := by decide +kernel
theorem dX0_copyFrom_46 : decode cX0_copyFrom 46 = .ok (.aload_n 1, 1) := by decide +kernel
theorem dX0_copyFrom_47 : decode cX0_copyFrom 47 = .ok (.getfield 25, 3) := by decide +kernel
theorem dX0_copyFrom_50 : decode cX0_copyFrom 50 = .ok (.iconst 0, 1) := by decide +kernel
theorem dX0_copyFrom_51 : decode cX0_copyFrom 51 = .ok (.aload_n 0, 1) := by decide +kernel
theorem dX0_copyFrom_52 : decode cX0_copyFrom 52 = .ok (.getfield 25, 3) := by decide +kernel
theorem dX0_copyFrom_55 : decode cX0_copyFrom 55 = .ok (.iconst 0, 1) := by decide +kernel
theorem dX0_copyFrom_56 : decode cX0_copyFrom 56 = .ok (.bipush 24, 2) := by decide +kernel
theorem dX0_copyFrom_58 : decode cX0_copyFrom 58 = .ok (.invokestatic 52, 3) := by decide +kernel
theorem dX0_copyFrom_61 : decode cX0_copyFrom 61 = .ok (.aload_n 1, 1) := by decide +kernel
theorem dX0_copyFrom_62 : decode cX0_copyFrom 62 = .ok (.getfield 28, 3) := by decide +kernel
theorem dX0_copyFrom_65 : decode cX0_copyFrom 65 = .ok (.iconst 0, 1) := by decide +kernel
theorem dX0_copyFrom_66 : decode cX0_copyFrom 66 = .ok (.aload_n 0, 1) := by decide +kernel
theorem dX0_copyFrom_67 : decode cX0_copyFrom 67 = .ok (.getfield 28, 3) := by decide +kernel
theorem dX0_copyFrom_70 : decode cX0_copyFrom 70 = .ok (.iconst 0, 1) := by decide +kernel
theorem dX0_copyFrom_71 : decode cX0_copyFrom 71 = .ok (.bipush 24, 2) := by decide +kernel
theorem dX0_copyFrom_73 : decode cX0_copyFrom 73 = .ok (.invokestatic 52, 3) := by decide +kernel
theorem dX0_copyFrom_76 : decode cX0_copyFrom 76 = .ok (.aload_n 1, 1) := by decide +kernel
theorem dX0_copyFrom_77 : decode cX0_copyFrom 77 = .ok (.getfield 31, 3) := by decide +kernel
theorem dX0_copyFrom_80 : decode cX0_copyFrom 80 = .ok (.iconst 0, 1) := by decide +kernel
theorem dX0_copyFrom_81 : decode cX0_copyFrom 81 = .ok (.aload_n 0, 1) := by decide +kernel
theorem dX0_copyFrom_82 : decode cX0_copyFrom 82 = .ok (.getfield 31, 3) := by decide +kernel
theorem dX0_copyFrom_85 : decode cX0_copyFrom 85 = .ok (.iconst 0, 1) := by decide +kernel
theorem dX0_copyFrom_86 : decode cX0_copyFrom 86 = .ok (.bipush 24, 2) := by decide +kernel
theorem dX0_copyFrom_88 : decode cX0_copyFrom 88 = .ok (.invokestatic 52, 3) := by decide +kernel
theorem dX0_copyFrom_91 : decode cX0_copyFrom 91 = .ok (.aload_n 1, 1) := by decide +kernel
theorem dX0_copyFrom_92 : decode cX0_copyFrom 92 = .ok (.getfield 34, 3) := by decide +kernel
theorem dX0_copyFrom_95 : decode cX0_copyFrom 95 = .ok (.iconst 0, 1) := by decide +kernel
theorem dX0_copyFrom_96 : decode cX0_copyFrom 96 = .ok (.aload_n 0, 1) := by decide +kernel
theorem dX0_copyFrom_97 : decode cX0_copyFrom 97 = .ok (.getfield 34, 3) := by decide +kernel
theorem dX0_copyFrom_100 : decode cX0_copyFrom 100 = .ok (.iconst 0, 1) := by decide +kernel
theorem dX0_copyFrom_101 : decode cX0_copyFrom 101 = .ok (.bipush 96, 2) := by decide +kernel
theorem dX0_copyFrom_103 : decode cX0_copyFrom 103 = .ok (.invokestatic 52, 3) := by decide +kernel
theorem dX0_copyFrom_106 : decode cX0_copyFrom 106 = .ok (.aload_n 1, 1) := by decide +kernel
theorem dX0_copyFrom_107 : decode cX0_copyFrom 107 = .ok (.getfield 37, 3) := by decide +kernel
theorem dX0_copyFrom_110 : decode cX0_copyFrom 110 = .ok (.iconst 0, 1) := by decide +kernel
theorem dX0_copyFrom_111 : decode cX0_copyFrom 111 = .ok (.aload_n 0, 1) := by decide +kernel
theorem dX0_copyFrom_112 : decode cX0_copyFrom 112 = .ok (.getfield 37, 3) := by decide +kernel
theorem dX0_copyFrom_115 : decode cX0_copyFrom 115 = .ok (.iconst 0, 1) := by decide +kernel
theorem dX0_copyFrom_116 : decode cX0_copyFrom 116 = .ok (.bipush 96, 2) := by decide +kernel
theorem dX0_copyFrom_118 : decode cX0_copyFrom 118 = .ok (.invokestatic 52, 3) := by decide +kernel
theorem dX0_copyFrom_121 : decode cX0_copyFrom 121 = .ok (.aload_n 1, 1) := by decide +kernel
theorem dX0_copyFrom_122 : decode cX0_copyFrom 122 = .ok (.getfield 40, 3) := by decide +kernel
theorem dX0_copyFrom_125 : decode cX0_copyFrom 125 = .ok (.iconst 0, 1) := by decide +kernel
theorem dX0_copyFrom_126 : decode cX0_copyFrom 126 = .ok (.aload_n 0, 1) := by decide +kernel
theorem dX0_copyFrom_127 : decode cX0_copyFrom 127 = .ok (.getfield 40, 3) := by decide +kernel
theorem dX0_copyFrom_130 : decode cX0_copyFrom 130 = .ok (.iconst 0, 1) := by decide +kernel
theorem dX0_copyFrom_131 : decode cX0_copyFrom 131 = .ok (.bipush 24, 2) := by decide +kernel
theorem dX0_copyFrom_133 : decode cX0_copyFrom 133 = .ok (.invokestatic 52, 3) := by decide +kernel
theorem dX0_copyFrom_136 : decode cX0_copyFrom 136 = .ok (.aload_n 1, 1) := by decide +kernel
theorem dX0_copyFrom_137 : decode cX0_copyFrom 137 = .ok (.getfield 43, 3) := by decide +kernel
theorem dX0_copyFrom_140 : decode cX0_copyFrom 140 = .ok (.iconst 0, 1) := by decide +kernel
theorem dX0_copyFrom_141 : decode cX0_copyFrom 141 = .ok (.aload_n 0, 1) := by decide +kernel
theorem dX0_copyFrom_142 : decode cX0_copyFrom 142 = .ok (.getfield 43, 3) := by decide +kernel
theorem dX0_copyFrom_145 : decode cX0_copyFrom 145 = .ok (.iconst 0, 1) := by decide +kernel
theorem dX0_copyFrom_146 : decode cX0_copyFrom 146 = .ok (.sipush 144, 3) := by decide +kernel
theorem dX0_copyFrom_149 : decode cX0_copyFrom 149 = .ok (.invokestatic 52, 3) := by decide +kernel
theorem dX0_copyFrom_152 : decode cX0_copyFrom 152 = .ok (.aload_n 1, 1) := by decide +kernel
theorem dX0_copyFrom_153 : decode cX0_copyFrom 153 = .ok (.getfield 46, 3) := by decide +kernel
theorem dX0_copyFrom_156 : decode cX0_copyFrom 156 = .ok (.iconst 0, 1) := by decide +kernel
theorem dX0_copyFrom_157 : decode cX0_copyFrom 157 = .ok (.aload_n 0, 1) := by decide +kernel
theorem dX0_copyFrom_158 : decode cX0_copyFrom 158 = .ok (.getfield 46, 3) := by decide +kernel
theorem dX0_copyFrom_161 : decode cX0_copyFrom 161 = .ok (.iconst 0, 1) := by decide +kernel
theorem dX0_copyFrom_162 : decode cX0_copyFrom 162 = .ok (.sipush 144, 3) := by decide +kernel
theorem dX0_copyFrom_165 : decode cX0_copyFrom 165 = .ok (.invokestatic 52, 3) := by decide +kernel
theorem dX0_copyFrom_168 : decode cX0_copyFrom 168 = .ok (.aload_n 1, 1) := by decide +kernel
theorem dX0_copyFrom_169 : decode cX0_copyFrom 169 = .ok (.getfield 49, 3) := by decide +kernel
theorem dX0_copyFrom_172 : decode cX0_copyFrom 172 = .ok (.iconst 0, 1) := by decide +kernel
theorem dX0_copyFrom_173 : decode cX0_copyFrom 173 = .ok (.aload_n 0, 1) := by decide +kernel
theorem dX0_copyFrom_174 : decode cX0_copyFrom 174 = .ok (.getfield 49, 3) := by decide +kernel
theorem dX0_copyFrom_177 : decode cX0_copyFrom 177 = .ok (.iconst 0, 1) := by decide +kernel
theorem dX0_copyFrom_178 : decode cX0_copyFrom 178 = .ok (.sipush 144, 3) := by decide +kernel
theorem dX0_copyFrom_181 : decode cX0_copyFrom 181 = .ok (.invokestatic 52, 3) := by decide +kernel
theorem dX0_copyFrom_184 : decode cX0_copyFrom 184 = .ok (.return_, 1) := by decide +kernel
theorem dX0_hasPart_0 : decode cX0_hasPart 0 = .ok (.iload_n 1, 1) := by decide +kernel
theorem dX0_hasPart_1 : decode cX0_hasPart 1 = .ok (.ifCond .lt 21, 3) := by decide +kernel
theorem dX0_hasPart_4 : decode cX0_hasPart 4 = .ok (.iload_n 1, 1) := by decide +kernel
theorem dX0_hasPart_5 : decode cX0_hasPart 5 = .ok (.aload_n 0, 1) := by decide +kernel
theorem dX0_hasPart_6 : decode cX0_hasPart 6 = .ok (.getfield 9, 3) := by decide +kernel
theorem dX0_hasPart_9 : decode cX0_hasPart 9 = .ok (.if_icmp .ge 13, 3) := by decide +kernel
theorem dX0_hasPart_12 : decode cX0_hasPart 12 = .ok (.iload_n 1, 1) := by decide +kernel
theorem dX0_hasPart_13 : decode cX0_hasPart 13 = .ok (.bipush 24, 2) := by decide +kernel
theorem dX0_hasPart_15 : decode cX0_hasPart 15 = .ok (.if_icmp .ge 7, 3) := by decide +kernel
theorem dX0_hasPart_18 : decode cX0_hasPart 18 = .ok (.iconst 1, 1) := by decide +kernel
theorem dX0_hasPart_19 : decode cX0_hasPart 19 = .ok (.goto 4, 3) := by decide +kernel
theorem dX0_hasPart_22 : decode cX0_hasPart 22 = .ok (.iconst 0, 1) := by decide +kernel
theorem dX0_hasPart_23 : decode cX0_hasPart 23 = .ok (.ireturn, 1) := by decide +kernel
theorem dX0_hasEffect_0 : decode cX0_hasEffect 0 = .ok (.aload_n 0, 1) := by decide +kernel
theorem dX0_hasEffect_1 : decode cX0_hasEffect 1 = .ok (.iload_n 1, 1) := by decide +kernel
theorem dX0_hasEffect_2 : decode cX0_hasEffect 2 = .ok (.invokevirtual 58, 3) := by decide +kernel
theorem dX0_hasEffect_5 : decode cX0_hasEffect 5 = .ok (.ifCond .eq 26, 3) := by decide +kernel
theorem dX0_hasEffect_8 : decode cX0_hasEffect 8 = .ok (.iload_n 2, 1) := by decide +kernel
theorem dX0_hasEffect_9 : decode cX0_hasEffect 9 = .ok (.ifCond .lt 22, 3) := by decide +kernel
theorem dX0_hasEffect_12 : decode cX0_hasEffect 12 = .ok (.iload_n 2, 1) := by decide +kernel
theorem dX0_hasEffect_13 : decode cX0_hasEffect 13 = .ok (.aload_n 0, 1) := by decide +kernel
theorem dX0_hasEffect_14 : decode cX0_hasEffect 14 = .ok (.getfield 31, 3) := by decide +kernel
theorem dX0_hasEffect_17 : decode cX0_hasEffect 17 = .ok (.iload_n 1, 1) := by decide +kernel
theorem dX0_hasEffect_18 : decode cX0_hasEffect 18 = .ok (.iaload, 1) := by decide +kernel
theorem dX0_hasEffect_19 : decode cX0_hasEffect 19 = .ok (.if_icmp .ge 12, 3) := by decide +kernel
theorem dX0_hasEffect_22 : decode cX0_hasEffect 22 = .ok (.iload_n 2, 1) := by decide +kernel
theorem dX0_hasEffect_23 : decode cX0_hasEffect 23 = .ok (.iconst 4, 1) := by decide +kernel
theorem dX0_hasEffect_24 : decode cX0_hasEffect 24 = .ok (.if_icmp .ge 7, 3) := by decide +kernel
theorem dX0_hasEffect_27 : decode cX0_hasEffect 27 = .ok (.iconst 1, 1) := by decide +kernel
theorem dX0_hasEffect_28 : decode cX0_hasEffect 28 = .ok (.goto 4, 3) := by decide +kernel
theorem dX0_hasEffect_31 : decode cX0_hasEffect 31 = .ok (.iconst 0, 1) := by decide +kernel
theorem dX0_hasEffect_32 : decode cX0_hasEffect 32 = .ok (.ireturn, 1) := by decide +kernel
theorem dX0_hasChoice_0 : decode cX0_hasChoice 0 = .ok (.aload_n 0, 1) := by decide +kernel
theorem dX0_hasChoice_1 : decode cX0_hasChoice 1 = .ok (.iload_n 1, 1) := by decide +kernel
theorem dX0_hasChoice_2 : decode cX0_hasChoice 2 = .ok (.invokevirtual 58, 3) := by decide +kernel
theorem dX0_hasChoice_5 : decode cX0_hasChoice 5 = .ok (.ifCond .eq 27, 3) := by decide +kernel
theorem dX0_hasChoice_8 : decode cX0_hasChoice 8 = .ok (.iload_n 2, 1) := by decide +kernel
theorem dX0_hasChoice_9 : decode cX0_hasChoice 9 = .ok (.ifCond .lt 23, 3) := by decide +kernel
theorem dX0_hasChoice_12 : decode cX0_hasChoice 12 = .ok (.iload_n 2, 1) := by decide +kernel
theorem dX0_hasChoice_13 : decode cX0_hasChoice 13 = .ok (.aload_n 0, 1) := by decide +kernel
theorem dX0_hasChoice_14 : decode cX0_hasChoice 14 = .ok (.getfield 40, 3) := by decide +kernel
theorem dX0_hasChoice_17 : decode cX0_hasChoice 17 = .ok (.iload_n 1, 1) := by decide +kernel
theorem dX0_hasChoice_18 : decode cX0_hasChoice 18 = .ok (.iaload, 1) := by decide +kernel
theorem dX0_hasChoice_19 : decode cX0_hasChoice 19 = .ok (.if_icmp .ge 13, 3) := by decide +kernel
theorem dX0_hasChoice_22 : decode cX0_hasChoice 22 = .ok (.iload_n 2, 1) := by decide +kernel
theorem dX0_hasChoice_23 : decode cX0_hasChoice 23 = .ok (.bipush 6, 2) := by decide +kernel
theorem dX0_hasChoice_25 : decode cX0_hasChoice 25 = .ok (.if_icmp .ge 7, 3) := by decide +kernel
theorem dX0_hasChoice_28 : decode cX0_hasChoice 28 = .ok (.iconst 1, 1) := by decide +kernel
theorem dX0_hasChoice_29 : decode cX0_hasChoice 29 = .ok (.goto 4, 3) := by decide +kernel
theorem dX0_hasChoice_32 : decode cX0_hasChoice 32 = .ok (.iconst 0, 1) := by decide +kernel
theorem dX0_hasChoice_33 : decode cX0_hasChoice 33 = .ok (.ireturn, 1) := by decide +kernel
theorem dX0_isRoll_0 : decode cX0_isRoll 0 = .ok (.aload_n 0, 1) := by decide +kernel
theorem dX0_isRoll_1 : decode cX0_isRoll 1 = .ok (.iload_n 1, 1) := by decide +kernel
theorem dX0_isRoll_2 : decode cX0_isRoll 2 = .ok (.invokevirtual 58, 3) := by decide +kernel
theorem dX0_isRoll_5 : decode cX0_isRoll 5 = .ok (.ifCond .eq 17, 3) := by decide +kernel
theorem dX0_isRoll_8 : decode cX0_isRoll 8 = .ok (.aload_n 0, 1) := by decide +kernel
theorem dX0_isRoll_9 : decode cX0_isRoll 9 = .ok (.getfield 18, 3) := by decide +kernel
theorem dX0_isRoll_12 : decode cX0_isRoll 12 = .ok (.iload_n 1, 1) := by decide +kernel
theorem dX0_isRoll_13 : decode cX0_isRoll 13 = .ok (.iaload, 1) := by decide +kernel
theorem dX0_isRoll_14 : decode cX0_isRoll 14 = .ok (.iconst 3, 1) := by decide +kernel
theorem dX0_isRoll_15 : decode cX0_isRoll 15 = .ok (.if_icmp .ne 7, 3) := by decide +kernel
theorem dX0_isRoll_18 : decode cX0_isRoll 18 = .ok (.iconst 1, 1) := by decide +kernel
theorem dX0_isRoll_19 : decode cX0_isRoll 19 = .ok (.goto 4, 3) := by decide +kernel
theorem dX0_isRoll_22 : decode cX0_isRoll 22 = .ok (.iconst 0, 1) := by decide +kernel
theorem dX0_isRoll_23 : decode cX0_isRoll 23 = .ok (.ireturn, 1) := by decide +kernel
theorem dX0_lines_0 : decode cX0_lines 0 = .ok (.aload_n 0, 1) := by decide +kernel
theorem dX0_lines_1 : decode cX0_lines 1 = .ok (.iload_n 1, 1) := by decide +kernel
theorem dX0_lines_2 : decode cX0_lines 2 = .ok (.invokevirtual 58, 3) := by decide +kernel
theorem dX0_lines_5 : decode cX0_lines 5 = .ok (.ifCond .ne 5, 3) := by decide +kernel
theorem dX0_lines_8 : decode cX0_lines 8 = .ok (.iconst 0, 1) := by decide +kernel
theorem dX0_lines_9 : decode cX0_lines 9 = .ok (.ireturn, 1) := by decide +kernel
theorem dX0_lines_10 : decode cX0_lines 10 = .ok (.iconst 2, 1) := by decide +kernel
theorem dX0_lines_11 : decode cX0_lines 11 = .ok (.aload_n 0, 1) := by decide +kernel
theorem dX0_lines_12 : decode cX0_lines 12 = .ok (.getfield 31, 3) := by decide +kernel
theorem dX0_lines_15 : decode cX0_lines 15 = .ok (.iload_n 1, 1) := by decide +kernel
theorem dX0_lines_16 : decode cX0_lines 16 = .ok (.iaload, 1) := by decide +kernel
theorem dX0_lines_17 : decode cX0_lines 17 = .ok (.iadd, 1) := by decide +kernel
theorem dX0_lines_18 : decode cX0_lines 18 = .ok (.iconst 2, 1) := by decide +kernel
theorem dX0_lines_19 : decode cX0_lines 19 = .ok (.aload_n 0, 1) := by decide +kernel
theorem dX0_lines_20 : decode cX0_lines 20 = .ok (.getfield 40, 3) := by decide +kernel
theorem dX0_lines_23 : decode cX0_lines 23 = .ok (.iload_n 1, 1) := by decide +kernel
theorem dX0_lines_24 : decode cX0_lines 24 = .ok (.iaload, 1) := by decide +kernel
theorem dX0_lines_25 : decode cX0_lines 25 = .ok (.imul, 1) := by decide +kernel
theorem dX0_lines_26 : decode cX0_lines 26 = .ok (.iadd, 1) := by decide +kernel
theorem dX0_lines_27 : decode cX0_lines 27 = .ok (.aload_n 0, 1) := by decide +kernel
theorem dX0_lines_28 : decode cX0_lines 28 = .ok (.getfield 18, 3) := by decide +kernel
theorem dX0_lines_31 : decode cX0_lines 31 = .ok (.iload_n 1, 1) := by decide +kernel
theorem dX0_lines_32 : decode cX0_lines 32 = .ok (.iaload, 1) := by decide +kernel
theorem dX0_lines_33 : decode cX0_lines 33 = .ok (.iconst 3, 1) := by decide +kernel
theorem dX0_lines_34 : decode cX0_lines 34 = .ok (.if_icmp .ne 7, 3) := by decide +kernel
theorem dX0_lines_37 : decode cX0_lines 37 = .ok (.iconst 2, 1) := by decide +kernel
theorem dX0_lines_38 : decode cX0_lines 38 = .ok (.goto 4, 3) := by decide +kernel
theorem dX0_lines_41 : decode cX0_lines 41 = .ok (.iconst 0, 1) := by decide +kernel
theorem dX0_lines_42 : decode cX0_lines 42 = .ok (.iadd, 1) := by decide +kernel
theorem dX0_lines_43 : decode cX0_lines 43 = .ok (.ireturn, 1) := by decide +kernel
theorem dX0_allChoices_0 : decode cX0_allChoices 0 = .ok (.iconst 0, 1) := by decide +kernel
theorem dX0_allChoices_1 : decode cX0_allChoices 1 = .ok (.istore_n 1, 1) := by decide +kernel
theorem dX0_allChoices_2 : decode cX0_allChoices 2 = .ok (.iconst 0, 1) := by decide +kernel
theorem dX0_allChoices_3 : decode cX0_allChoices 3 = .ok (.istore_n 2, 1) := by decide +kernel
theorem dX0_allChoices_4 : decode cX0_allChoices 4 = .ok (.iload_n 2, 1) := by decide +kernel
theorem dX0_allChoices_5 : decode cX0_allChoices 5 = .ok (.aload_n 0, 1) := by decide +kernel
theorem dX0_allChoices_6 : decode cX0_allChoices 6 = .ok (.getfield 9, 3) := by decide +kernel
theorem dX0_allChoices_9 : decode cX0_allChoices 9 = .ok (.if_icmp .ge 24, 3) := by decide +kernel
theorem dX0_allChoices_12 : decode cX0_allChoices 12 = .ok (.iload_n 2, 1) := by decide +kernel
theorem dX0_allChoices_13 : decode cX0_allChoices 13 = .ok (.bipush 24, 2) := by decide +kernel
theorem dX0_allChoices_15 : decode cX0_allChoices 15 = .ok (.if_icmp .ge 18, 3) := by decide +kernel
theorem dX0_allChoices_18 : decode cX0_allChoices 18 = .ok (.iload_n 1, 1) := by decide +kernel
theorem dX0_allChoices_19 : decode cX0_allChoices 19 = .ok (.aload_n 0, 1) := by decide +kernel
theorem dX0_allChoices_20 : decode cX0_allChoices 20 = .ok (.getfield 40, 3) := by decide +kernel
theorem dX0_allChoices_23 : decode cX0_allChoices 23 = .ok (.iload_n 2, 1) := by decide +kernel
theorem dX0_allChoices_24 : decode cX0_allChoices 24 = .ok (.iaload, 1) := by decide +kernel
theorem dX0_allChoices_25 : decode cX0_allChoices 25 = .ok (.iadd, 1) := by decide +kernel
theorem dX0_allChoices_26 : decode cX0_allChoices 26 = .ok (.istore_n 1, 1) := by decide +kernel
theorem dX0_allChoices_27 : decode cX0_allChoices 27 = .ok (.iinc 2 1, 3) := by decide +kernel
theorem dX0_allChoices_30 : decode cX0_allChoices 30 = .ok (.goto (-26), 3) := by decide +kernel
theorem dX0_allChoices_33 : decode cX0_allChoices 33 = .ok (.iload_n 1, 1) := by decide +kernel
theorem dX0_allChoices_34 : decode cX0_allChoices 34 = .ok (.ireturn, 1) := by decide +kernel
theorem dX0_addPart_0 : decode cX0_addPart 0 = .ok (.aload_n 0, 1) := by decide +kernel
theorem dX0_addPart_1 : decode cX0_addPart 1 = .ok (.getfield 9, 3) := by decide +kernel
theorem dX0_addPart_4 : decode cX0_addPart 4 = .ok (.bipush 24, 2) := by decide +kernel
theorem dX0_addPart_6 : decode cX0_addPart 6 = .ok (.if_icmp .lt 5, 3) := by decide +kernel
theorem dX0_addPart_9 : decode cX0_addPart 9 = .ok (.iconst (-1), 1) := by decide +kernel
theorem dX0_addPart_10 : decode cX0_addPart 10 = .ok (.ireturn, 1) := by decide +kernel
theorem dX0_addPart_11 : decode cX0_addPart 11 = .ok (.aload_n 0, 1) := by decide +kernel
theorem dX0_addPart_12 : decode cX0_addPart 12 = .ok (.getfield 9, 3) := by decide +kernel
theorem dX0_addPart_15 : decode cX0_addPart 15 = .ok (.istore_n 1, 1) := by decide +kernel
theorem dX0_addPart_16 : decode cX0_addPart 16 = .ok (.aload_n 0, 1) := by decide +kernel
theorem dX0_addPart_17 : decode cX0_addPart 17 = .ok (.dup, 1) := by decide +kernel
theorem dX0_addPart_18 : decode cX0_addPart 18 = .ok (.getfield 9, 3) := by decide +kernel
theorem dX0_addPart_21 : decode cX0_addPart 21 = .ok (.iconst 1, 1) := by decide +kernel
theorem dX0_addPart_22 : decode cX0_addPart 22 = .ok (.iadd, 1) := by decide +kernel
theorem dX0_addPart_23 : decode cX0_addPart 23 = .ok (.putfield 9, 3) := by decide +kernel
theorem dX0_addPart_26 : decode cX0_addPart 26 = .ok (.aload_n 0, 1) := by decide +kernel
theorem dX0_addPart_27 : decode cX0_addPart 27 = .ok (.getfield 18, 3) := by decide +kernel
theorem dX0_addPart_30 : decode cX0_addPart 30 = .ok (.iload_n 1, 1) := by decide +kernel
theorem dX0_addPart_31 : decode cX0_addPart 31 = .ok (.iconst 0, 1) := by decide +kernel
theorem dX0_addPart_32 : decode cX0_addPart 32 = .ok (.iastore, 1) := by decide +kernel
theorem dX0_addPart_33 : decode cX0_addPart 33 = .ok (.aload_n 0, 1) := by decide +kernel
theorem dX0_addPart_34 : decode cX0_addPart 34 = .ok (.getfield 31, 3) := by decide +kernel
theorem dX0_addPart_37 : decode cX0_addPart 37 = .ok (.iload_n 1, 1) := by decide +kernel
theorem dX0_addPart_38 : decode cX0_addPart 38 = .ok (.iconst 0, 1) := by decide +kernel
theorem dX0_addPart_39 : decode cX0_addPart 39 = .ok (.iastore, 1) := by decide +kernel
theorem dX0_addPart_40 : decode cX0_addPart 40 = .ok (.aload_n 0, 1) := by decide +kernel
theorem dX0_addPart_41 : decode cX0_addPart 41 = .ok (.getfield 40, 3) := by decide +kernel
theorem dX0_addPart_44 : decode cX0_addPart 44 = .ok (.iload_n 1, 1) := by decide +kernel
theorem dX0_addPart_45 : decode cX0_addPart 45 = .ok (.iconst 0, 1) := by decide +kernel
theorem dX0_addPart_46 : decode cX0_addPart 46 = .ok (.iastore, 1) := by decide +kernel
theorem dX0_addPart_47 : decode cX0_addPart 47 = .ok (.iload_n 1, 1) := by decide +kernel
theorem dX0_addPart_48 : decode cX0_addPart 48 = .ok (.ireturn, 1) := by decide +kernel
theorem dX0_addEffect_0 : decode cX0_addEffect 0 = .ok (.aload_n 0, 1) := by decide +kernel
theorem dX0_addEffect_1 : decode cX0_addEffect 1 = .ok (.iload_n 1, 1) := by decide +kernel
theorem dX0_addEffect_2 : decode cX0_addEffect 2 = .ok (.invokevirtual 58, 3) := by decide +kernel
theorem dX0_addEffect_5 : decode cX0_addEffect 5 = .ok (.ifCond .eq 51, 3) := by decide +kernel
theorem dX0_addEffect_8 : decode cX0_addEffect 8 = .ok (.aload_n 0, 1) := by decide +kernel
theorem dX0_addEffect_9 : decode cX0_addEffect 9 = .ok (.getfield 31, 3) := by decide +kernel
theorem dX0_addEffect_12 : decode cX0_addEffect 12 = .ok (.iload_n 1, 1) := by decide +kernel
theorem dX0_addEffect_13 : decode cX0_addEffect 13 = .ok (.iaload, 1) := by decide +kernel
theorem dX0_addEffect_14 : decode cX0_addEffect 14 = .ok (.iconst 4, 1) := by decide +kernel
theorem dX0_addEffect_15 : decode cX0_addEffect 15 = .ok (.if_icmp .ge 41, 3) := by decide +kernel
theorem dX0_addEffect_18 : decode cX0_addEffect 18 = .ok (.iload_n 1, 1) := by decide +kernel
theorem dX0_addEffect_19 : decode cX0_addEffect 19 = .ok (.iconst 4, 1) := by decide +kernel
theorem dX0_addEffect_20 : decode cX0_addEffect 20 = .ok (.imul, 1) := by decide +kernel
theorem dX0_addEffect_21 : decode cX0_addEffect 21 = .ok (.aload_n 0, 1) := by decide +kernel
theorem dX0_addEffect_22 : decode cX0_addEffect 22 = .ok (.getfield 31, 3) := by decide +kernel
theorem dX0_addEffect_25 : decode cX0_addEffect 25 = .ok (.iload_n 1, 1) := by decide +kernel
theorem dX0_addEffect_26 : decode cX0_addEffect 26 = .ok (.iaload, 1) := by decide +kernel
theorem dX0_addEffect_27 : decode cX0_addEffect 27 = .ok (.iadd, 1) := by decide +kernel
theorem dX0_addEffect_28 : decode cX0_addEffect 28 = .ok (.istore 4, 2) := by decide +kernel
theorem dX0_addEffect_30 : decode cX0_addEffect 30 = .ok (.aload_n 0, 1) := by decide +kernel
theorem dX0_addEffect_31 : decode cX0_addEffect 31 = .ok (.getfield 34, 3) := by decide +kernel
theorem dX0_addEffect_34 : decode cX0_addEffect 34 = .ok (.iload 4, 2) := by decide +kernel
theorem dX0_addEffect_36 : decode cX0_addEffect 36 = .ok (.iload_n 2, 1) := by decide +kernel
theorem dX0_addEffect_37 : decode cX0_addEffect 37 = .ok (.iastore, 1) := by decide +kernel
theorem dX0_addEffect_38 : decode cX0_addEffect 38 = .ok (.aload_n 0, 1) := by decide +kernel
theorem dX0_addEffect_39 : decode cX0_addEffect 39 = .ok (.getfield 37, 3) := by decide +kernel
theorem dX0_addEffect_42 : decode cX0_addEffect 42 = .ok (.iload 4, 2) := by decide +kernel
theorem dX0_addEffect_44 : decode cX0_addEffect 44 = .ok (.iload_n 3, 1) := by decide +kernel
theorem dX0_addEffect_45 : decode cX0_addEffect 45 = .ok (.iastore, 1) := by decide +kernel
theorem dX0_addEffect_46 : decode cX0_addEffect 46 = .ok (.aload_n 0, 1) := by decide +kernel
theorem dX0_addEffect_47 : decode cX0_addEffect 47 = .ok (.getfield 31, 3) := by decide +kernel
theorem dX0_addEffect_50 : decode cX0_addEffect 50 = .ok (.iload_n 1, 1) := by decide +kernel
theorem dX0_addEffect_51 : decode cX0_addEffect 51 = .ok (.dup2, 1) := by decide +kernel
theorem dX0_addEffect_52 : decode cX0_addEffect 52 = .ok (.iaload, 1) := by decide +kernel
theorem dX0_addEffect_53 : decode cX0_addEffect 53 = .ok (.iconst 1, 1) := by decide +kernel
theorem dX0_addEffect_54 : decode cX0_addEffect 54 = .ok (.iadd, 1) := by decide +kernel
theorem dX0_addEffect_55 : decode cX0_addEffect 55 = .ok (.iastore, 1) := by decide +kernel
theorem dX0_addEffect_56 : decode cX0_addEffect 56 = .ok (.return_, 1) := by decide +kernel
theorem dX0_addChoice_0 : decode cX0_addChoice 0 = .ok (.aload_n 0, 1) := by decide +kernel
theorem dX0_addChoice_1 : decode cX0_addChoice 1 = .ok (.iload_n 1, 1) := by decide +kernel
theorem dX0_addChoice_2 : decode cX0_addChoice 2 = .ok (.invokevirtual 58, 3) := by decide +kernel
theorem dX0_addChoice_5 : decode cX0_addChoice 5 = .ok (.ifCond .eq 62, 3) := by decide +kernel
theorem dX0_addChoice_8 : decode cX0_addChoice 8 = .ok (.aload_n 0, 1) := by decide +kernel
theorem dX0_addChoice_9 : decode cX0_addChoice 9 = .ok (.getfield 40, 3) := by decide +kernel
theorem dX0_addChoice_12 : decode cX0_addChoice 12 = .ok (.iload_n 1, 1) := by decide +kernel
theorem dX0_addChoice_13 : decode cX0_addChoice 13 = .ok (.iaload, 1) := by decide +kernel
theorem dX0_addChoice_14 : decode cX0_addChoice 14 = .ok (.bipush 6, 2) := by decide +kernel
theorem dX0_addChoice_16 : decode cX0_addChoice 16 = .ok (.if_icmp .ge 51, 3) := by decide +kernel
theorem dX0_addChoice_19 : decode cX0_addChoice 19 = .ok (.iload_n 1, 1) := by decide +kernel
theorem dX0_addChoice_20 : decode cX0_addChoice 20 = .ok (.bipush 6, 2) := by decide +kernel
theorem dX0_addChoice_22 : decode cX0_addChoice 22 = .ok (.imul, 1) := by decide +kernel
theorem dX0_addChoice_23 : decode cX0_addChoice 23 = .ok (.aload_n 0, 1) := by decide +kernel
theorem dX0_addChoice_24 : decode cX0_addChoice 24 = .ok (.getfield 40, 3) := by decide +kernel
theorem dX0_addChoice_27 : decode cX0_addChoice 27 = .ok (.iload_n 1, 1) := by decide +kernel
theorem dX0_addChoice_28 : decode cX0_addChoice 28 = .ok (.iaload, 1) := by decide +kernel
theorem dX0_addChoice_29 : decode cX0_addChoice 29 = .ok (.iadd, 1) := by decide +kernel
theorem dX0_addChoice_30 : decode cX0_addChoice 30 = .ok (.istore 5, 2) := by decide +kernel
theorem dX0_addChoice_32 : decode cX0_addChoice 32 = .ok (.aload_n 0, 1) := by decide +kernel
theorem dX0_addChoice_33 : decode cX0_addChoice 33 = .ok (.getfield 43, 3) := by decide +kernel
theorem dX0_addChoice_36 : decode cX0_addChoice 36 = .ok (.iload 5, 2) := by decide +kernel
theorem dX0_addChoice_38 : decode cX0_addChoice 38 = .ok (.iload_n 2, 1) := by decide +kernel
theorem dX0_addChoice_39 : decode cX0_addChoice 39 = .ok (.iastore, 1) := by decide +kernel
theorem dX0_addChoice_40 : decode cX0_addChoice 40 = .ok (.aload_n 0, 1) := by decide +kernel
theorem dX0_addChoice_41 : decode cX0_addChoice 41 = .ok (.getfield 46, 3) := by decide +kernel
theorem dX0_addChoice_44 : decode cX0_addChoice 44 = .ok (.iload 5, 2) := by decide +kernel
theorem dX0_addChoice_46 : decode cX0_addChoice 46 = .ok (.iload_n 3, 1) := by decide +kernel
theorem dX0_addChoice_47 : decode cX0_addChoice 47 = .ok (.iastore, 1) := by decide +kernel
theorem dX0_addChoice_48 : decode cX0_addChoice 48 = .ok (.aload_n 0, 1) := by decide +kernel
theorem dX0_addChoice_49 : decode cX0_addChoice 49 = .ok (.getfield 49, 3) := by decide +kernel
theorem dX0_addChoice_52 : decode cX0_addChoice 52 = .ok (.iload 5, 2) := by decide +kernel
theorem dX0_addChoice_54 : decode cX0_addChoice 54 = .ok (.iload 4, 2) := by decide +kernel
theorem dX0_addChoice_56 : decode cX0_addChoice 56 = .ok (.iastore, 1) := by decide +kernel
theorem dX0_addChoice_57 : decode cX0_addChoice 57 = .ok (.aload_n 0, 1) := by decide +kernel
theorem dX0_addChoice_58 : decode cX0_addChoice 58 = .ok (.getfield 40, 3) := by decide +kernel
theorem dX0_addChoice_61 : decode cX0_addChoice 61 = .ok (.iload_n 1, 1) := by decide +kernel
theorem dX0_addChoice_62 : decode cX0_addChoice 62 = .ok (.dup2, 1) := by decide +kernel
theorem dX0_addChoice_63 : decode cX0_addChoice 63 = .ok (.iaload, 1) := by decide +kernel
theorem dX0_addChoice_64 : decode cX0_addChoice 64 = .ok (.iconst 1, 1) := by decide +kernel
theorem dX0_addChoice_65 : decode cX0_addChoice 65 = .ok (.iadd, 1) := by decide +kernel
theorem dX0_addChoice_66 : decode cX0_addChoice 66 = .ok (.iastore, 1) := by decide +kernel
theorem dX0_addChoice_67 : decode cX0_addChoice 67 = .ok (.return_, 1) := by decide +kernel
theorem dX0_strikeChoice_0 : decode cX0_strikeChoice 0 = .ok (.aload_n 0, 1) := by decide +kernel
theorem dX0_strikeChoice_1 : decode cX0_strikeChoice 1 = .ok (.iload_n 1, 1) := by decide +kernel
theorem dX0_strikeChoice_2 : decode cX0_strikeChoice 2 = .ok (.iload_n 2, 1) := by decide +kernel
theorem dX0_strikeChoice_3 : decode cX0_strikeChoice 3 = .ok (.invokevirtual 62, 3) := by decide +kernel
theorem dX0_strikeChoice_6 : decode cX0_strikeChoice 6 = .ok (.ifCond .ne 4, 3) := by decide +kernel
theorem dX0_strikeChoice_9 : decode cX0_strikeChoice 9 = .ok (.return_, 1) := by decide +kernel
theorem dX0_strikeChoice_10 : decode cX0_strikeChoice 10 = .ok (.iload_n 1, 1) := by decide +kernel
theorem dX0_strikeChoice_11 : decode cX0_strikeChoice 11 = .ok (.bipush 6, 2) := by decide +kernel
theorem dX0_strikeChoice_13 : decode cX0_strikeChoice 13 = .ok (.imul, 1) := by decide +kernel
theorem dX0_strikeChoice_14 : decode cX0_strikeChoice 14 = .ok (.istore_n 3, 1) := by decide +kernel
theorem dX0_strikeChoice_15 : decode cX0_strikeChoice 15 = .ok (.iload_n 3, 1) := by decide +kernel
theorem dX0_strikeChoice_16 : decode cX0_strikeChoice 16 = .ok (.iload_n 2, 1) := by decide +kernel
theorem dX0_strikeChoice_17 : decode cX0_strikeChoice 17 = .ok (.iadd, 1) := by decide +kernel
theorem dX0_strikeChoice_18 : decode cX0_strikeChoice 18 = .ok (.istore 4, 2) := by decide +kernel
theorem dX0_strikeChoice_20 : decode cX0_strikeChoice 20 = .ok (.iload 4, 2) := by decide +kernel
theorem dX0_strikeChoice_22 : decode cX0_strikeChoice 22 = .ok (.iconst 1, 1) := by decide +kernel
theorem dX0_strikeChoice_23 : decode cX0_strikeChoice 23 = .ok (.iadd, 1) := by decide +kernel
theorem dX0_strikeChoice_24 : decode cX0_strikeChoice 24 = .ok (.iload_n 3, 1) := by decide +kernel
theorem dX0_strikeChoice_25 : decode cX0_strikeChoice 25 = .ok (.aload_n 0, 1) := by decide +kernel
theorem dX0_strikeChoice_26 : decode cX0_strikeChoice 26 = .ok (.getfield 40, 3) := by decide +kernel
theorem dX0_strikeChoice_29 : decode cX0_strikeChoice 29 = .ok (.iload_n 1, 1) := by decide +kernel
theorem dX0_strikeChoice_30 : decode cX0_strikeChoice 30 = .ok (.iaload, 1) := by decide +kernel
theorem dX0_strikeChoice_31 : decode cX0_strikeChoice 31 = .ok (.iadd, 1) := by decide +kernel
theorem dX0_strikeChoice_32 : decode cX0_strikeChoice 32 = .ok (.if_icmp .ge 57, 3) := by decide +kernel
theorem dX0_strikeChoice_35 : decode cX0_strikeChoice 35 = .ok (.aload_n 0, 1) := by decide +kernel
theorem dX0_strikeChoice_36 : decode cX0_strikeChoice 36 = .ok (.getfield 43, 3) := by decide +kernel
theorem dX0_strikeChoice_39 : decode cX0_strikeChoice 39 = .ok (.iload 4, 2) := by decide +kernel
theorem dX0_strikeChoice_41 : decode cX0_strikeChoice 41 = .ok (.aload_n 0, 1) := by decide +kernel
theorem dX0_strikeChoice_42 : decode cX0_strikeChoice 42 = .ok (.getfield 43, 3) := by decide +kernel
theorem dX0_strikeChoice_45 : decode cX0_strikeChoice 45 = .ok (.iload 4, 2) := by decide +kernel
theorem dX0_strikeChoice_47 : decode cX0_strikeChoice 47 = .ok (.iconst 1, 1) := by decide +kernel
theorem dX0_strikeChoice_48 : decode cX0_strikeChoice 48 = .ok (.iadd, 1) := by decide +kernel
theorem dX0_strikeChoice_49 : decode cX0_strikeChoice 49 = .ok (.iaload, 1) := by decide +kernel
theorem dX0_strikeChoice_50 : decode cX0_strikeChoice 50 = .ok (.iastore, 1) := by decide +kernel
theorem dX0_strikeChoice_51 : decode cX0_strikeChoice 51 = .ok (.aload_n 0, 1) := by decide +kernel
theorem dX0_strikeChoice_52 : decode cX0_strikeChoice 52 = .ok (.getfield 46, 3) := by decide +kernel
theorem dX0_strikeChoice_55 : decode cX0_strikeChoice 55 = .ok (.iload 4, 2) := by decide +kernel
theorem dX0_strikeChoice_57 : decode cX0_strikeChoice 57 = .ok (.aload_n 0, 1) := by decide +kernel
theorem dX0_strikeChoice_58 : decode cX0_strikeChoice 58 = .ok (.getfield 46, 3) := by decide +kernel
theorem dX0_strikeChoice_61 : decode cX0_strikeChoice 61 = .ok (.iload 4, 2) := by decide +kernel
theorem dX0_strikeChoice_63 : decode cX0_strikeChoice 63 = .ok (.iconst 1, 1) := by decide +kernel
theorem dX0_strikeChoice_64 : decode cX0_strikeChoice 64 = .ok (.iadd, 1) := by decide +kernel
theorem dX0_strikeChoice_65 : decode cX0_strikeChoice 65 = .ok (.iaload, 1) := by decide +kernel
theorem dX0_strikeChoice_66 : decode cX0_strikeChoice 66 = .ok (.iastore, 1) := by decide +kernel
theorem dX0_strikeChoice_67 : decode cX0_strikeChoice 67 = .ok (.aload_n 0, 1) := by decide +kernel
theorem dX0_strikeChoice_68 : decode cX0_strikeChoice 68 = .ok (.getfield 49, 3) := by decide +kernel
theorem dX0_strikeChoice_71 : decode cX0_strikeChoice 71 = .ok (.iload 4, 2) := by decide +kernel
theorem dX0_strikeChoice_73 : decode cX0_strikeChoice 73 = .ok (.aload_n 0, 1) := by decide +kernel
theorem dX0_strikeChoice_74 : decode cX0_strikeChoice 74 = .ok (.getfield 49, 3) := by decide +kernel
theorem dX0_strikeChoice_77 : decode cX0_strikeChoice 77 = .ok (.iload 4, 2) := by decide +kernel
theorem dX0_strikeChoice_79 : decode cX0_strikeChoice 79 = .ok (.iconst 1, 1) := by decide +kernel
theorem dX0_strikeChoice_80 : decode cX0_strikeChoice 80 = .ok (.iadd, 1) := by decide +kernel
theorem dX0_strikeChoice_81 : decode cX0_strikeChoice 81 = .ok (.iaload, 1) := by decide +kernel
theorem dX0_strikeChoice_82 : decode cX0_strikeChoice 82 = .ok (.iastore, 1) := by decide +kernel
theorem dX0_strikeChoice_83 : decode cX0_strikeChoice 83 = .ok (.iinc 4 1, 3) := by decide +kernel
theorem dX0_strikeChoice_86 : decode cX0_strikeChoice 86 = .ok (.goto (-66), 3) := by decide +kernel
theorem dX0_strikeChoice_89 : decode cX0_strikeChoice 89 = .ok (.aload_n 0, 1) := by decide +kernel
theorem dX0_strikeChoice_90 : decode cX0_strikeChoice 90 = .ok (.getfield 40, 3) := by decide +kernel
theorem dX0_strikeChoice_93 : decode cX0_strikeChoice 93 = .ok (.iload_n 1, 1) := by decide +kernel
theorem dX0_strikeChoice_94 : decode cX0_strikeChoice 94 = .ok (.dup2, 1) := by decide +kernel
theorem dX0_strikeChoice_95 : decode cX0_strikeChoice 95 = .ok (.iaload, 1) := by decide +kernel
theorem dX0_strikeChoice_96 : decode cX0_strikeChoice 96 = .ok (.iconst 1, 1) := by decide +kernel
theorem dX0_strikeChoice_97 : decode cX0_strikeChoice 97 = .ok (.isub, 1) := by decide +kernel
theorem dX0_strikeChoice_98 : decode cX0_strikeChoice 98 = .ok (.iastore, 1) := by decide +kernel
theorem dX0_strikeChoice_99 : decode cX0_strikeChoice 99 = .ok (.return_, 1) := by decide +kernel
theorem dX0_endByRoll_0 : decode cX0_endByRoll 0 = .ok (.aload_n 0, 1) := by decide +kernel
theorem dX0_endByRoll_1 : decode cX0_endByRoll 1 = .ok (.iload_n 1, 1) := by decide +kernel
theorem dX0_endByRoll_2 : decode cX0_endByRoll 2 = .ok (.invokevirtual 58, 3) := by decide +kernel
theorem dX0_endByRoll_5 : decode cX0_endByRoll 5 = .ok (.ifCond .eq 32, 3) := by decide +kernel
theorem dX0_endByRoll_8 : decode cX0_endByRoll 8 = .ok (.aload_n 0, 1) := by decide +kernel
theorem dX0_endByRoll_9 : decode cX0_endByRoll 9 = .ok (.getfield 18, 3) := by decide +kernel
theorem dX0_endByRoll_12 : decode cX0_endByRoll 12 = .ok (.iload_n 1, 1) := by decide +kernel
theorem dX0_endByRoll_13 : decode cX0_endByRoll 13 = .ok (.iconst 3, 1) := by decide +kernel
theorem dX0_endByRoll_14 : decode cX0_endByRoll 14 = .ok (.iastore, 1) := by decide +kernel
theorem dX0_endByRoll_15 : decode cX0_endByRoll 15 = .ok (.aload_n 0, 1) := by decide +kernel
theorem dX0_endByRoll_16 : decode cX0_endByRoll 16 = .ok (.getfield 22, 3) := by decide +kernel
theorem dX0_endByRoll_19 : decode cX0_endByRoll 19 = .ok (.iload_n 1, 1) := by decide +kernel
theorem dX0_endByRoll_20 : decode cX0_endByRoll 20 = .ok (.iload_n 2, 1) := by decide +kernel
theorem dX0_endByRoll_21 : decode cX0_endByRoll 21 = .ok (.iastore, 1) := by decide +kernel
theorem dX0_endByRoll_22 : decode cX0_endByRoll 22 = .ok (.aload_n 0, 1) := by decide +kernel
theorem dX0_endByRoll_23 : decode cX0_endByRoll 23 = .ok (.getfield 25, 3) := by decide +kernel
theorem dX0_endByRoll_26 : decode cX0_endByRoll 26 = .ok (.iload_n 1, 1) := by decide +kernel
theorem dX0_endByRoll_27 : decode cX0_endByRoll 27 = .ok (.iload_n 3, 1) := by decide +kernel
theorem dX0_endByRoll_28 : decode cX0_endByRoll 28 = .ok (.iastore, 1) := by decide +kernel
theorem dX0_endByRoll_29 : decode cX0_endByRoll 29 = .ok (.aload_n 0, 1) := by decide +kernel
theorem dX0_endByRoll_30 : decode cX0_endByRoll 30 = .ok (.getfield 28, 3) := by decide +kernel
theorem dX0_endByRoll_33 : decode cX0_endByRoll 33 = .ok (.iload_n 1, 1) := by decide +kernel
theorem dX0_endByRoll_34 : decode cX0_endByRoll 34 = .ok (.iload 4, 2) := by decide +kernel
theorem dX0_endByRoll_36 : decode cX0_endByRoll 36 = .ok (.iastore, 1) := by decide +kernel
theorem dX0_endByRoll_37 : decode cX0_endByRoll 37 = .ok (.return_, 1) := by decide +kernel
theorem dX0_isOpen_0 : decode cX0_isOpen 0 = .ok (.iload_n 1, 1) := by decide +kernel
theorem dX0_isOpen_1 : decode cX0_isOpen 1 = .ok (.invokestatic 66, 3) := by decide +kernel
theorem dX0_isOpen_4 : decode cX0_isOpen 4 = .ok (.istore_n 3, 1) := by decide +kernel
theorem dX0_isOpen_5 : decode cX0_isOpen 5 = .ok (.iload_n 1, 1) := by decide +kernel
theorem dX0_isOpen_6 : decode cX0_isOpen 6 = .ok (.invokestatic 72, 3) := by decide +kernel
theorem dX0_isOpen_9 : decode cX0_isOpen 9 = .ok (.ifCond .ne 12, 3) := by decide +kernel
theorem dX0_isOpen_12 : decode cX0_isOpen 12 = .ok (.aload_n 0, 1) := by decide +kernel
theorem dX0_isOpen_13 : decode cX0_isOpen 13 = .ok (.iload_n 3, 1) := by decide +kernel
theorem dX0_isOpen_14 : decode cX0_isOpen 14 = .ok (.iload_n 2, 1) := by decide +kernel
theorem dX0_isOpen_15 : decode cX0_isOpen 15 = .ok (.invokevirtual 62, 3) := by decide +kernel
theorem dX0_isOpen_18 : decode cX0_isOpen 18 = .ok (.ifCond .ne 5, 3) := by decide +kernel
theorem dX0_isOpen_21 : decode cX0_isOpen 21 = .ok (.iconst 0, 1) := by decide +kernel
theorem dX0_isOpen_22 : decode cX0_isOpen 22 = .ok (.ireturn, 1) := by decide +kernel
theorem dX0_isOpen_23 : decode cX0_isOpen 23 = .ok (.iload_n 1, 1) := by decide +kernel
theorem dX0_isOpen_24 : decode cX0_isOpen 24 = .ok (.invokestatic 75, 3) := by decide +kernel
theorem dX0_isOpen_27 : decode cX0_isOpen 27 = .ok (.istore 4, 2) := by decide +kernel
theorem dX0_isOpen_29 : decode cX0_isOpen 29 = .ok (.aload_n 0, 1) := by decide +kernel
theorem dX0_isOpen_30 : decode cX0_isOpen 30 = .ok (.getfield 46, 3) := by decide +kernel
theorem dX0_isOpen_33 : decode cX0_isOpen 33 = .ok (.iload_n 3, 1) := by decide +kernel
theorem dX0_isOpen_34 : decode cX0_isOpen 34 = .ok (.bipush 6, 2) := by decide +kernel
theorem dX0_isOpen_36 : decode cX0_isOpen 36 = .ok (.imul, 1) := by decide +kernel
theorem dX0_isOpen_37 : decode cX0_isOpen 37 = .ok (.iload_n 2, 1) := by decide +kernel
theorem dX0_isOpen_38 : decode cX0_isOpen 38 = .ok (.iadd, 1) := by decide +kernel
theorem dX0_isOpen_39 : decode cX0_isOpen 39 = .ok (.iaload, 1) := by decide +kernel
theorem dX0_isOpen_40 : decode cX0_isOpen 40 = .ok (.istore 5, 2) := by decide +kernel
theorem dX0_isOpen_42 : decode cX0_isOpen 42 = .ok (.aload_n 0, 1) := by decide +kernel
theorem dX0_isOpen_43 : decode cX0_isOpen 43 = .ok (.getfield 49, 3) := by decide +kernel
theorem dX0_isOpen_46 : decode cX0_isOpen 46 = .ok (.iload_n 3, 1) := by decide +kernel
theorem dX0_isOpen_47 : decode cX0_isOpen 47 = .ok (.bipush 6, 2) := by decide +kernel
theorem dX0_isOpen_49 : decode cX0_isOpen 49 = .ok (.imul, 1) := by decide +kernel
theorem dX0_isOpen_50 : decode cX0_isOpen 50 = .ok (.iload_n 2, 1) := by decide +kernel
theorem dX0_isOpen_51 : decode cX0_isOpen 51 = .ok (.iadd, 1) := by decide +kernel
theorem dX0_isOpen_52 : decode cX0_isOpen 52 = .ok (.iaload, 1) := by decide +kernel
theorem dX0_isOpen_53 : decode cX0_isOpen 53 = .ok (.istore 6, 2) := by decide +kernel
theorem dX0_isOpen_55 : decode cX0_isOpen 55 = .ok (.iload 5, 2) := by decide +kernel
theorem dX0_isOpen_57 : decode cX0_isOpen 57 = .ok (.iconst (-1), 1) := by decide +kernel
theorem dX0_isOpen_58 : decode cX0_isOpen 58 = .ok (.if_icmp .eq 14, 3) := by decide +kernel
theorem dX0_isOpen_61 : decode cX0_isOpen 61 = .ok (.iload 4, 2) := by decide +kernel
theorem dX0_isOpen_63 : decode cX0_isOpen 63 = .ok (.iload 5, 2) := by decide +kernel
theorem dX0_isOpen_65 : decode cX0_isOpen 65 = .ok (.ishr, 1) := by decide +kernel
theorem dX0_isOpen_66 : decode cX0_isOpen 66 = .ok (.iconst 1, 1) := by decide +kernel
theorem dX0_isOpen_67 : decode cX0_isOpen 67 = .ok (.iand, 1) := by decide +kernel
theorem dX0_isOpen_68 : decode cX0_isOpen 68 = .ok (.iconst 1, 1) := by decide +kernel
theorem dX0_isOpen_69 : decode cX0_isOpen 69 = .ok (.if_icmp .ne 23, 3) := by decide +kernel
theorem dX0_isOpen_72 : decode cX0_isOpen 72 = .ok (.iload 6, 2) := by decide +kernel
theorem dX0_isOpen_74 : decode cX0_isOpen 74 = .ok (.iconst (-1), 1) := by decide +kernel
theorem dX0_isOpen_75 : decode cX0_isOpen 75 = .ok (.if_icmp .eq 13, 3) := by decide +kernel
theorem dX0_isOpen_78 : decode cX0_isOpen 78 = .ok (.iload 4, 2) := by decide +kernel
theorem dX0_isOpen_80 : decode cX0_isOpen 80 = .ok (.iload 6, 2) := by decide +kernel
theorem dX0_isOpen_82 : decode cX0_isOpen 82 = .ok (.ishr, 1) := by decide +kernel
theorem dX0_isOpen_83 : decode cX0_isOpen 83 = .ok (.iconst 1, 1) := by decide +kernel
theorem dX0_isOpen_84 : decode cX0_isOpen 84 = .ok (.iand, 1) := by decide +kernel
theorem dX0_isOpen_85 : decode cX0_isOpen 85 = .ok (.ifCond .ne 7, 3) := by decide +kernel
theorem dX0_isOpen_88 : decode cX0_isOpen 88 = .ok (.iconst 1, 1) := by decide +kernel
theorem dX0_isOpen_89 : decode cX0_isOpen 89 = .ok (.goto 4, 3) := by decide +kernel
theorem dX0_isOpen_92 : decode cX0_isOpen 92 = .ok (.iconst 0, 1) := by decide +kernel
theorem dX0_isOpen_93 : decode cX0_isOpen 93 = .ok (.ireturn, 1) := by decide +kernel
theorem dX0_openChoices_0 : decode cX0_openChoices 0 = .ok (.iconst 0, 1) := by decide +kernel
theorem dX0_openChoices_1 : decode cX0_openChoices 1 = .ok (.istore_n 2, 1) := by decide +kernel
theorem dX0_openChoices_2 : decode cX0_openChoices 2 = .ok (.iload_n 1, 1) := by decide +kernel
theorem dX0_openChoices_3 : decode cX0_openChoices 3 = .ok (.invokestatic 66, 3) := by decide +kernel
theorem dX0_openChoices_6 : decode cX0_openChoices 6 = .ok (.istore_n 3, 1) := by decide +kernel
theorem dX0_openChoices_7 : decode cX0_openChoices 7 = .ok (.iconst 0, 1) := by decide +kernel
theorem dX0_openChoices_8 : decode cX0_openChoices 8 = .ok (.istore 4, 2) := by decide +kernel
theorem dX0_openChoices_10 : decode cX0_openChoices 10 = .ok (.aload_n 0, 1) := by decide +kernel
theorem dX0_openChoices_11 : decode cX0_openChoices 11 = .ok (.iload_n 3, 1) := by decide +kernel
theorem dX0_openChoices_12 : decode cX0_openChoices 12 = .ok (.iload 4, 2) := by decide +kernel
theorem dX0_openChoices_14 : decode cX0_openChoices 14 = .ok (.invokevirtual 62, 3) := by decide +kernel
theorem dX0_openChoices_17 : decode cX0_openChoices 17 = .ok (.ifCond .eq 33, 3) := by decide +kernel
theorem dX0_openChoices_20 : decode cX0_openChoices 20 = .ok (.iload 4, 2) := by decide +kernel
theorem dX0_openChoices_22 : decode cX0_openChoices 22 = .ok (.bipush 6, 2) := by decide +kernel
theorem dX0_openChoices_24 : decode cX0_openChoices 24 = .ok (.if_icmp .ge 26, 3) := by decide +kernel
theorem dX0_openChoices_27 : decode cX0_openChoices 27 = .ok (.aload_n 0, 1) := by decide +kernel
theorem dX0_openChoices_28 : decode cX0_openChoices 28 = .ok (.iload_n 1, 1) := by decide +kernel
theorem dX0_openChoices_29 : decode cX0_openChoices 29 = .ok (.iload 4, 2) := by decide +kernel
theorem dX0_openChoices_31 : decode cX0_openChoices 31 = .ok (.invokevirtual 78, 3) := by decide +kernel
theorem dX0_openChoices_34 : decode cX0_openChoices 34 = .ok (.ifCond .eq 10, 3) := by decide +kernel
theorem dX0_openChoices_37 : decode cX0_openChoices 37 = .ok (.iload_n 2, 1) := by decide +kernel
theorem dX0_openChoices_38 : decode cX0_openChoices 38 = .ok (.iconst 1, 1) := by decide +kernel
theorem dX0_openChoices_39 : decode cX0_openChoices 39 = .ok (.iload 4, 2) := by decide +kernel
theorem dX0_openChoices_41 : decode cX0_openChoices 41 = .ok (.ishl, 1) := by decide +kernel
theorem dX0_openChoices_42 : decode cX0_openChoices 42 = .ok (.ior, 1) := by decide +kernel
theorem dX0_openChoices_43 : decode cX0_openChoices 43 = .ok (.istore_n 2, 1) := by decide +kernel
theorem dX0_openChoices_44 : decode cX0_openChoices 44 = .ok (.iinc 4 1, 3) := by decide +kernel
theorem dX0_openChoices_47 : decode cX0_openChoices 47 = .ok (.goto (-37), 3) := by decide +kernel
theorem dX0_openChoices_50 : decode cX0_openChoices 50 = .ok (.iload_n 2, 1) := by decide +kernel
theorem dX0_openChoices_51 : decode cX0_openChoices 51 = .ok (.ireturn, 1) := by decide +kernel
theorem dX0_rollTarget_0 : decode cX0_rollTarget 0 = .ok (.aload_n 0, 1) := by decide +kernel
theorem dX0_rollTarget_1 : decode cX0_rollTarget 1 = .ok (.iload_n 1, 1) := by decide +kernel
theorem dX0_rollTarget_2 : decode cX0_rollTarget 2 = .ok (.invokevirtual 81, 3) := by decide +kernel
theorem dX0_rollTarget_5 : decode cX0_rollTarget 5 = .ok (.ifCond .ne 5, 3) := by decide +kernel
theorem dX0_rollTarget_8 : decode cX0_rollTarget 8 = .ok (.iconst (-1), 1) := by decide +kernel
theorem dX0_rollTarget_9 : decode cX0_rollTarget 9 = .ok (.ireturn, 1) := by decide +kernel
theorem dX0_rollTarget_10 : decode cX0_rollTarget 10 = .ok (.iload_n 2, 1) := by decide +kernel
theorem dX0_rollTarget_11 : decode cX0_rollTarget 11 = .ok (.aload_n 0, 1) := by decide +kernel
theorem dX0_rollTarget_12 : decode cX0_rollTarget 12 = .ok (.getfield 22, 3) := by decide +kernel
theorem dX0_rollTarget_15 : decode cX0_rollTarget 15 = .ok (.iload_n 1, 1) := by decide +kernel
theorem dX0_rollTarget_16 : decode cX0_rollTarget 16 = .ok (.iaload, 1) := by decide +kernel
theorem dX0_rollTarget_17 : decode cX0_rollTarget 17 = .ok (.if_icmp .lt 12, 3) := by decide +kernel
theorem dX0_rollTarget_20 : decode cX0_rollTarget 20 = .ok (.aload_n 0, 1) := by decide +kernel
theorem dX0_rollTarget_21 : decode cX0_rollTarget 21 = .ok (.getfield 25, 3) := by decide +kernel
theorem dX0_rollTarget_24 : decode cX0_rollTarget 24 = .ok (.iload_n 1, 1) := by decide +kernel
theorem dX0_rollTarget_25 : decode cX0_rollTarget 25 = .ok (.iaload, 1) := by decide +kernel
theorem dX0_rollTarget_26 : decode cX0_rollTarget 26 = .ok (.goto 9, 3) := by decide +kernel
theorem dX0_rollTarget_29 : decode cX0_rollTarget 29 = .ok (.aload_n 0, 1) := by decide +kernel
theorem dX0_rollTarget_30 : decode cX0_rollTarget 30 = .ok (.getfield 28, 3) := by decide +kernel
theorem dX0_rollTarget_33 : decode cX0_rollTarget 33 = .ok (.iload_n 1, 1) := by decide +kernel
theorem dX0_rollTarget_34 : decode cX0_rollTarget 34 = .ok (.iaload, 1) := by decide +kernel
theorem dX0_rollTarget_35 : decode cX0_rollTarget 35 = .ok (.ireturn, 1) := by decide +kernel
theorem dX0_waysFrom_0 : decode cX0_waysFrom 0 = .ok (.aload_n 0, 1) := by decide +kernel
theorem dX0_waysFrom_1 : decode cX0_waysFrom 1 = .ok (.iload_n 1, 1) := by decide +kernel
theorem dX0_waysFrom_2 : decode cX0_waysFrom 2 = .ok (.invokevirtual 58, 3) := by decide +kernel
theorem dX0_waysFrom_5 : decode cX0_waysFrom 5 = .ok (.ifCond .ne 5, 3) := by decide +kernel
theorem dX0_waysFrom_8 : decode cX0_waysFrom 8 = .ok (.iconst 0, 1) := by decide +kernel
theorem dX0_waysFrom_9 : decode cX0_waysFrom 9 = .ok (.ireturn, 1) := by decide +kernel
theorem dX0_waysFrom_10 : decode cX0_waysFrom 10 = .ok (.aload_n 0, 1) := by decide +kernel
theorem dX0_waysFrom_11 : decode cX0_waysFrom 11 = .ok (.getfield 18, 3) := by decide +kernel
theorem dX0_waysFrom_14 : decode cX0_waysFrom 14 = .ok (.iload_n 1, 1) := by decide +kernel
theorem dX0_waysFrom_15 : decode cX0_waysFrom 15 = .ok (.iaload, 1) := by decide +kernel
theorem dX0_waysFrom_16 : decode cX0_waysFrom 16 = .ok (.iconst 3, 1) := by decide +kernel
theorem dX0_waysFrom_17 : decode cX0_waysFrom 17 = .ok (.if_icmp .ne 7, 3) := by decide +kernel
theorem dX0_waysFrom_20 : decode cX0_waysFrom 20 = .ok (.iconst 2, 1) := by decide +kernel
theorem dX0_waysFrom_21 : decode cX0_waysFrom 21 = .ok (.goto 14, 3) := by decide +kernel
theorem dX0_waysFrom_24 : decode cX0_waysFrom 24 = .ok (.bipush 6, 2) := by decide +kernel
theorem dX0_waysFrom_26 : decode cX0_waysFrom 26 = .ok (.aload_n 0, 1) := by decide +kernel
theorem dX0_waysFrom_27 : decode cX0_waysFrom 27 = .ok (.getfield 40, 3) := by decide +kernel
theorem dX0_waysFrom_30 : decode cX0_waysFrom 30 = .ok (.iload_n 1, 1) := by decide +kernel
theorem dX0_waysFrom_31 : decode cX0_waysFrom 31 = .ok (.iaload, 1) := by decide +kernel
theorem dX0_waysFrom_32 : decode cX0_waysFrom 32 = .ok (.invokestatic 84, 3) := by decide +kernel
theorem dX0_waysFrom_35 : decode cX0_waysFrom 35 = .ok (.ireturn, 1) := by decide +kernel
theorem dX0_wayOut_0 : decode cX0_wayOut 0 = .ok (.iload_n 1, 1) := by decide +kernel
theorem dX0_wayOut_1 : decode cX0_wayOut 1 = .ok (.invokestatic 66, 3) := by decide +kernel
theorem dX0_wayOut_4 : decode cX0_wayOut 4 = .ok (.istore_n 3, 1) := by decide +kernel
theorem dX0_wayOut_5 : decode cX0_wayOut 5 = .ok (.aload_n 0, 1) := by decide +kernel
theorem dX0_wayOut_6 : decode cX0_wayOut 6 = .ok (.iload_n 1, 1) := by decide +kernel
theorem dX0_wayOut_7 : decode cX0_wayOut 7 = .ok (.iload_n 2, 1) := by decide +kernel
theorem dX0_wayOut_8 : decode cX0_wayOut 8 = .ok (.invokevirtual 78, 3) := by decide +kernel
theorem dX0_wayOut_11 : decode cX0_wayOut 11 = .ok (.ifCond .eq 15, 3) := by decide +kernel
theorem dX0_wayOut_14 : decode cX0_wayOut 14 = .ok (.aload_n 0, 1) := by decide +kernel
theorem dX0_wayOut_15 : decode cX0_wayOut 15 = .ok (.getfield 43, 3) := by decide +kernel
theorem dX0_wayOut_18 : decode cX0_wayOut 18 = .ok (.iload_n 3, 1) := by decide +kernel
theorem dX0_wayOut_19 : decode cX0_wayOut 19 = .ok (.bipush 6, 2) := by decide +kernel
theorem dX0_wayOut_21 : decode cX0_wayOut 21 = .ok (.imul, 1) := by decide +kernel
theorem dX0_wayOut_22 : decode cX0_wayOut 22 = .ok (.iload_n 2, 1) := by decide +kernel
theorem dX0_wayOut_23 : decode cX0_wayOut 23 = .ok (.iadd, 1) := by decide +kernel
theorem dX0_wayOut_24 : decode cX0_wayOut 24 = .ok (.iaload, 1) := by decide +kernel
theorem dX0_wayOut_25 : decode cX0_wayOut 25 = .ok (.ireturn, 1) := by decide +kernel
theorem dX0_wayOut_26 : decode cX0_wayOut 26 = .ok (.iload_n 1, 1) := by decide +kernel
theorem dX0_wayOut_27 : decode cX0_wayOut 27 = .ok (.invokestatic 72, 3) := by decide +kernel
theorem dX0_wayOut_30 : decode cX0_wayOut 30 = .ok (.ifCond .ne 20, 3) := by decide +kernel
theorem dX0_wayOut_33 : decode cX0_wayOut 33 = .ok (.aload_n 0, 1) := by decide +kernel
theorem dX0_wayOut_34 : decode cX0_wayOut 34 = .ok (.iload_n 3, 1) := by decide +kernel
theorem dX0_wayOut_35 : decode cX0_wayOut 35 = .ok (.invokevirtual 81, 3) := by decide +kernel
theorem dX0_wayOut_38 : decode cX0_wayOut 38 = .ok (.ifCond .eq 12, 3) := by decide +kernel
theorem dX0_wayOut_41 : decode cX0_wayOut 41 = .ok (.iload_n 2, 1) := by decide +kernel
theorem dX0_wayOut_42 : decode cX0_wayOut 42 = .ok (.ifCond .lt 8, 3) := by decide +kernel
theorem dX0_wayOut_45 : decode cX0_wayOut 45 = .ok (.iload_n 2, 1) := by decide +kernel
theorem dX0_wayOut_46 : decode cX0_wayOut 46 = .ok (.iconst 1, 1) := by decide +kernel
theorem dX0_wayOut_47 : decode cX0_wayOut 47 = .ok (.if_icmp .le 5, 3) := by decide +kernel
theorem dX0_wayOut_50 : decode cX0_wayOut 50 = .ok (.iconst (-1), 1) := by decide +kernel
theorem dX0_wayOut_51 : decode cX0_wayOut 51 = .ok (.ireturn, 1) := by decide +kernel
theorem dX0_wayOut_52 : decode cX0_wayOut 52 = .ok (.iload_n 2, 1) := by decide +kernel
theorem dX0_wayOut_53 : decode cX0_wayOut 53 = .ok (.ifCond .ne 12, 3) := by decide +kernel
theorem dX0_wayOut_56 : decode cX0_wayOut 56 = .ok (.aload_n 0, 1) := by decide +kernel
theorem dX0_wayOut_57 : decode cX0_wayOut 57 = .ok (.getfield 25, 3) := by decide +kernel
theorem dX0_wayOut_60 : decode cX0_wayOut 60 = .ok (.iload_n 3, 1) := by decide +kernel
theorem dX0_wayOut_61 : decode cX0_wayOut 61 = .ok (.iaload, 1) := by decide +kernel
theorem dX0_wayOut_62 : decode cX0_wayOut 62 = .ok (.goto 9, 3) := by decide +kernel
theorem dX0_wayOut_65 : decode cX0_wayOut 65 = .ok (.aload_n 0, 1) := by decide +kernel
theorem dX0_wayOut_66 : decode cX0_wayOut 66 = .ok (.getfield 28, 3) := by decide +kernel
theorem dX0_wayOut_69 : decode cX0_wayOut 69 = .ok (.iload_n 3, 1) := by decide +kernel
theorem dX0_wayOut_70 : decode cX0_wayOut 70 = .ok (.iaload, 1) := by decide +kernel
theorem dX0_wayOut_71 : decode cX0_wayOut 71 = .ok (.ireturn, 1) := by decide +kernel
theorem dX0_canGo_0 : decode cX0_canGo 0 = .ok (.aload_n 0, 1) := by decide +kernel
theorem dX0_canGo_1 : decode cX0_canGo 1 = .ok (.iload_n 2, 1) := by decide +kernel
theorem dX0_canGo_2 : decode cX0_canGo 2 = .ok (.invokevirtual 58, 3) := by decide +kernel
theorem dX0_canGo_5 : decode cX0_canGo 5 = .ok (.ifCond .ne 5, 3) := by decide +kernel
theorem dX0_canGo_8 : decode cX0_canGo 8 = .ok (.iconst 0, 1) := by decide +kernel
theorem dX0_canGo_9 : decode cX0_canGo 9 = .ok (.ireturn, 1) := by decide +kernel
theorem dX0_canGo_10 : decode cX0_canGo 10 = .ok (.aload_n 0, 1) := by decide +kernel
theorem dX0_canGo_11 : decode cX0_canGo 11 = .ok (.iload_n 1, 1) := by decide +kernel
theorem dX0_canGo_12 : decode cX0_canGo 12 = .ok (.invokestatic 66, 3) := by decide +kernel
theorem dX0_canGo_15 : decode cX0_canGo 15 = .ok (.invokevirtual 90, 3) := by decide +kernel
theorem dX0_canGo_18 : decode cX0_canGo 18 = .ok (.istore_n 3, 1) := by decide +kernel
theorem dX0_canGo_19 : decode cX0_canGo 19 = .ok (.iconst 0, 1) := by decide +kernel
theorem dX0_canGo_20 : decode cX0_canGo 20 = .ok (.istore 4, 2) := by decide +kernel
theorem dX0_canGo_22 : decode cX0_canGo 22 = .ok (.iload 4, 2) := by decide +kernel
theorem dX0_canGo_24 : decode cX0_canGo 24 = .ok (.iload_n 3, 1) := by decide +kernel
theorem dX0_canGo_25 : decode cX0_canGo 25 = .ok (.if_icmp .ge 22, 3) := by decide +kernel
theorem dX0_canGo_28 : decode cX0_canGo 28 = .ok (.aload_n 0, 1) := by decide +kernel
theorem dX0_canGo_29 : decode cX0_canGo 29 = .ok (.iload_n 1, 1) := by decide +kernel
theorem dX0_canGo_30 : decode cX0_canGo 30 = .ok (.iload 4, 2) := by decide +kernel
theorem dX0_canGo_32 : decode cX0_canGo 32 = .ok (.invokevirtual 93, 3) := by decide +kernel
theorem dX0_canGo_35 : decode cX0_canGo 35 = .ok (.iload_n 2, 1) := by decide +kernel
theorem dX0_canGo_36 : decode cX0_canGo 36 = .ok (.if_icmp .ne 5, 3) := by decide +kernel
theorem dX0_canGo_39 : decode cX0_canGo 39 = .ok (.iconst 1, 1) := by decide +kernel
theorem dX0_canGo_40 : decode cX0_canGo 40 = .ok (.ireturn, 1) := by decide +kernel
theorem dX0_canGo_41 : decode cX0_canGo 41 = .ok (.iinc 4 1, 3) := by decide +kernel
theorem dX0_canGo_44 : decode cX0_canGo 44 = .ok (.goto (-22), 3) := by decide +kernel
theorem dX0_canGo_47 : decode cX0_canGo 47 = .ok (.iconst 0, 1) := by decide +kernel
theorem dX0_canGo_48 : decode cX0_canGo 48 = .ok (.ireturn, 1) := by decide +kernel
theorem dX0_standing_0 : decode cX0_standing 0 = .ok (.iload_n 1, 1) := by decide +kernel
theorem dX0_standing_1 : decode cX0_standing 1 = .ok (.invokestatic 72, 3) := by decide +kernel
theorem dX0_standing_4 : decode cX0_standing 4 = .ok (.ifCond .eq 8, 3) := by decide +kernel
theorem dX0_standing_7 : decode cX0_standing 7 = .ok (.iload_n 1, 1) := by decide +kernel
theorem dX0_standing_8 : decode cX0_standing 8 = .ok (.invokestatic 96, 3) := by decide +kernel
theorem dX0_standing_11 : decode cX0_standing 11 = .ok (.ireturn, 1) := by decide +kernel
theorem dX0_standing_12 : decode cX0_standing 12 = .ok (.aload_n 0, 1) := by decide +kernel
theorem dX0_standing_13 : decode cX0_standing 13 = .ok (.iload_n 1, 1) := by decide +kernel
theorem dX0_standing_14 : decode cX0_standing 14 = .ok (.invokestatic 66, 3) := by decide +kernel
theorem dX0_standing_17 : decode cX0_standing 17 = .ok (.invokevirtual 81, 3) := by decide +kernel
theorem dX0_standing_20 : decode cX0_standing 20 = .ok (.ifCond .ne 11, 3) := by decide +kernel
theorem dX0_standing_23 : decode cX0_standing 23 = .ok (.aload_n 0, 1) := by decide +kernel
theorem dX0_standing_24 : decode cX0_standing 24 = .ok (.iload_n 1, 1) := by decide +kernel
theorem dX0_standing_25 : decode cX0_standing 25 = .ok (.invokevirtual 99, 3) := by decide +kernel
theorem dX0_standing_28 : decode cX0_standing 28 = .ok (.ifCond .eq 7, 3) := by decide +kernel
theorem dX0_standing_31 : decode cX0_standing 31 = .ok (.iconst 0, 1) := by decide +kernel
theorem dX0_standing_32 : decode cX0_standing 32 = .ok (.goto 4, 3) := by decide +kernel
theorem dX0_standing_35 : decode cX0_standing 35 = .ok (.iconst 3, 1) := by decide +kernel
theorem dX0_standing_36 : decode cX0_standing 36 = .ok (.ireturn, 1) := by decide +kernel
theorem dX0_beginning_0 : decode cX0_beginning 0 = .ok (.aload_n 0, 1) := by decide +kernel
theorem dX0_beginning_1 : decode cX0_beginning 1 = .ok (.iconst 0, 1) := by decide +kernel
theorem dX0_beginning_2 : decode cX0_beginning 2 = .ok (.iconst 0, 1) := by decide +kernel
theorem dX0_beginning_3 : decode cX0_beginning 3 = .ok (.aload_n 0, 1) := by decide +kernel
theorem dX0_beginning_4 : decode cX0_beginning 4 = .ok (.getfield 15, 3) := by decide +kernel
theorem dX0_beginning_7 : decode cX0_beginning 7 = .ok (.iload_n 1, 1) := by decide +kernel
theorem dX0_beginning_8 : decode cX0_beginning 8 = .ok (.invokevirtual 102, 3) := by decide +kernel
theorem dX0_beginning_11 : decode cX0_beginning 11 = .ok (.ireturn, 1) := by decide +kernel
theorem dX0_goOn_0 : decode cX0_goOn 0 = .ok (.aload_n 0, 1) := by decide +kernel
theorem dX0_goOn_1 : decode cX0_goOn 1 = .ok (.iload_n 2, 1) := by decide +kernel
theorem dX0_goOn_2 : decode cX0_goOn 2 = .ok (.iload_n 1, 1) := by decide +kernel
theorem dX0_goOn_3 : decode cX0_goOn 3 = .ok (.invokestatic 75, 3) := by decide +kernel
theorem dX0_goOn_6 : decode cX0_goOn 6 = .ok (.iload_n 1, 1) := by decide +kernel
theorem dX0_goOn_7 : decode cX0_goOn 7 = .ok (.invokestatic 106, 3) := by decide +kernel
theorem dX0_goOn_10 : decode cX0_goOn 10 = .ok (.iload_n 3, 1) := by decide +kernel
theorem dX0_goOn_11 : decode cX0_goOn 11 = .ok (.invokevirtual 102, 3) := by decide +kernel
theorem dX0_goOn_14 : decode cX0_goOn 14 = .ok (.ireturn, 1) := by decide +kernel
theorem dX0_arrive_0 : decode cX0_arrive 0 = .ok (.aload_n 0, 1) := by decide +kernel
theorem dX0_arrive_1 : decode cX0_arrive 1 = .ok (.iload_n 1, 1) := by decide +kernel
theorem dX0_arrive_2 : decode cX0_arrive 2 = .ok (.invokevirtual 58, 3) := by decide +kernel
theorem dX0_arrive_5 : decode cX0_arrive 5 = .ok (.ifCond .ne 11, 3) := by decide +kernel
theorem dX0_arrive_8 : decode cX0_arrive 8 = .ok (.iconst 0, 1) := by decide +kernel
theorem dX0_arrive_9 : decode cX0_arrive 9 = .ok (.iconst 0, 1) := by decide +kernel
theorem dX0_arrive_10 : decode cX0_arrive 10 = .ok (.iconst 0, 1) := by decide +kernel
theorem dX0_arrive_11 : decode cX0_arrive 11 = .ok (.iconst 2, 1) := by decide +kernel
theorem dX0_arrive_12 : decode cX0_arrive 12 = .ok (.invokestatic 109, 3) := by decide +kernel
theorem dX0_arrive_15 : decode cX0_arrive 15 = .ok (.ireturn, 1) := by decide +kernel
theorem dX0_arrive_16 : decode cX0_arrive 16 = .ok (.iload_n 2, 1) := by decide +kernel
theorem dX0_arrive_17 : decode cX0_arrive 17 = .ok (.istore 5, 2) := by decide +kernel
theorem dX0_arrive_19 : decode cX0_arrive 19 = .ok (.iload_n 3, 1) := by decide +kernel
theorem dX0_arrive_20 : decode cX0_arrive 20 = .ok (.istore 6, 2) := by decide +kernel
theorem dX0_arrive_22 : decode cX0_arrive 22 = .ok (.iconst 0, 1) := by decide +kernel
theorem dX0_arrive_23 : decode cX0_arrive 23 = .ok (.istore 7, 2) := by decide +kernel
theorem dX0_arrive_25 : decode cX0_arrive 25 = .ok (.iload 7, 2) := by decide +kernel
theorem dX0_arrive_27 : decode cX0_arrive 27 = .ok (.aload_n 0, 1) := by decide +kernel
theorem dX0_arrive_28 : decode cX0_arrive 28 = .ok (.getfield 31, 3) := by decide +kernel
theorem dX0_arrive_31 : decode cX0_arrive 31 = .ok (.iload_n 1, 1) := by decide +kernel
theorem dX0_arrive_32 : decode cX0_arrive 32 = .ok (.iaload, 1) := by decide +kernel
theorem dX0_arrive_33 : decode cX0_arrive 33 = .ok (.if_icmp .ge 138, 3) := by decide +kernel
theorem dX0_arrive_36 : decode cX0_arrive 36 = .ok (.iload 7, 2) := by decide +kernel
theorem dX0_arrive_38 : decode cX0_arrive 38 = .ok (.iconst 4, 1) := by decide +kernel
theorem dX0_arrive_39 : decode cX0_arrive 39 = .ok (.if_icmp .ge 132, 3) := by decide +kernel
theorem dX0_arrive_42 : decode cX0_arrive 42 = .ok (.aload_n 0, 1) := by decide +kernel
theorem dX0_arrive_43 : decode cX0_arrive 43 = .ok (.getfield 37, 3) := by decide +kernel
theorem dX0_arrive_46 : decode cX0_arrive 46 = .ok (.iload_n 1, 1) := by decide +kernel
theorem dX0_arrive_47 : decode cX0_arrive 47 = .ok (.iconst 4, 1) := by decide +kernel
theorem dX0_arrive_48 : decode cX0_arrive 48 = .ok (.imul, 1) := by decide +kernel
theorem dX0_arrive_49 : decode cX0_arrive 49 = .ok (.iload 7, 2) := by decide +kernel
theorem dX0_arrive_51 : decode cX0_arrive 51 = .ok (.iadd, 1) := by decide +kernel
theorem dX0_arrive_52 : decode cX0_arrive 52 = .ok (.iaload, 1) := by decide +kernel
theorem dX0_arrive_53 : decode cX0_arrive 53 = .ok (.istore 8, 2) := by decide +kernel
theorem dX0_arrive_55 : decode cX0_arrive 55 = .ok (.aload_n 0, 1) := by decide +kernel
theorem dX0_arrive_56 : decode cX0_arrive 56 = .ok (.getfield 34, 3) := by decide +kernel
theorem dX0_arrive_59 : decode cX0_arrive 59 = .ok (.iload_n 1, 1) := by decide +kernel
theorem dX0_arrive_60 : decode cX0_arrive 60 = .ok (.iconst 4, 1) := by decide +kernel
theorem dX0_arrive_61 : decode cX0_arrive 61 = .ok (.imul, 1) := by decide +kernel
theorem dX0_arrive_62 : decode cX0_arrive 62 = .ok (.iload 7, 2) := by decide +kernel
theorem dX0_arrive_64 : decode cX0_arrive 64 = .ok (.iadd, 1) := by decide +kernel
theorem dX0_arrive_65 : decode cX0_arrive 65 = .ok (.iaload, 1) := by decide +kernel
theorem dX0_arrive_66 : decode cX0_arrive 66 = .ok (.tableswitch 73 0 2 #[26, 49, 63], 26) := by decide +kernel
theorem dX0_arrive_92 : decode cX0_arrive 92 = .ok (.iload 5, 2) := by decide +kernel
theorem dX0_arrive_94 : decode cX0_arrive 94 = .ok (.iload 8, 2) := by decide +kernel
theorem dX0_arrive_96 : decode cX0_arrive 96 = .ok (.iload 4, 2) := by decide +kernel
theorem dX0_arrive_98 : decode cX0_arrive 98 = .ok (.if_icmp .ne 7, 3) := by decide +kernel
theorem dX0_arrive_101 : decode cX0_arrive 101 = .ok (.iconst 0, 1) := by decide +kernel
theorem dX0_arrive_102 : decode cX0_arrive 102 = .ok (.goto 7, 3) := by decide +kernel
theorem dX0_arrive_105 : decode cX0_arrive 105 = .ok (.iconst 1, 1) := by decide +kernel
theorem dX0_arrive_106 : decode cX0_arrive 106 = .ok (.iload 8, 2) := by decide +kernel
theorem dX0_arrive_108 : decode cX0_arrive 108 = .ok (.ishl, 1) := by decide +kernel
theorem dX0_arrive_109 : decode cX0_arrive 109 = .ok (.ior, 1) := by decide +kernel
theorem dX0_arrive_110 : decode cX0_arrive 110 = .ok (.istore 5, 2) := by decide +kernel
theorem dX0_arrive_112 : decode cX0_arrive 112 = .ok (.goto 39, 3) := by decide +kernel
theorem dX0_arrive_115 : decode cX0_arrive 115 = .ok (.iload 5, 2) := by decide +kernel
theorem dX0_arrive_117 : decode cX0_arrive 117 = .ok (.iconst 1, 1) := by decide +kernel
theorem dX0_arrive_118 : decode cX0_arrive 118 = .ok (.iload 8, 2) := by decide +kernel
theorem dX0_arrive_120 : decode cX0_arrive 120 = .ok (.ishl, 1) := by decide +kernel
theorem dX0_arrive_121 : decode cX0_arrive 121 = .ok (.iconst (-1), 1) := by decide +kernel
theorem dX0_arrive_122 : decode cX0_arrive 122 = .ok (.ixor, 1) := by decide +kernel
theorem dX0_arrive_123 : decode cX0_arrive 123 = .ok (.iand, 1) := by decide +kernel
theorem dX0_arrive_124 : decode cX0_arrive 124 = .ok (.istore 5, 2) := by decide +kernel
theorem dX0_arrive_126 : decode cX0_arrive 126 = .ok (.goto 25, 3) := by decide +kernel
theorem dX0_arrive_129 : decode cX0_arrive 129 = .ok (.iload 6, 2) := by decide +kernel
theorem dX0_arrive_131 : decode cX0_arrive 131 = .ok (.iload 8, 2) := by decide +kernel
theorem dX0_arrive_133 : decode cX0_arrive 133 = .ok (.isub, 1) := by decide +kernel
theorem dX0_arrive_134 : decode cX0_arrive 134 = .ok (.istore 6, 2) := by decide +kernel
theorem dX0_arrive_136 : decode cX0_arrive 136 = .ok (.goto 15, 3) := by decide +kernel
theorem dX0_arrive_139 : decode cX0_arrive 139 = .ok (.bipush 9, 2) := by decide +kernel
theorem dX0_arrive_141 : decode cX0_arrive 141 = .ok (.iload 6, 2) := by decide +kernel
theorem dX0_arrive_143 : decode cX0_arrive 143 = .ok (.iload 8, 2) := by decide +kernel
theorem dX0_arrive_145 : decode cX0_arrive 145 = .ok (.iadd, 1) := by decide +kernel
theorem dX0_arrive_146 : decode cX0_arrive 146 = .ok (.invokestatic 84, 3) := by decide +kernel
theorem dX0_arrive_149 : decode cX0_arrive 149 = .ok (.istore 6, 2) := by decide +kernel
theorem dX0_arrive_151 : decode cX0_arrive 151 = .ok (.iload 6, 2) := by decide +kernel
theorem dX0_arrive_153 : decode cX0_arrive 153 = .ok (.ifCond .gt 12, 3) := by decide +kernel
theorem dX0_arrive_156 : decode cX0_arrive 156 = .ok (.iload_n 1, 1) := by decide +kernel
theorem dX0_arrive_157 : decode cX0_arrive 157 = .ok (.iload 5, 2) := by decide +kernel
theorem dX0_arrive_159 : decode cX0_arrive 159 = .ok (.iconst 0, 1) := by decide +kernel
theorem dX0_arrive_160 : decode cX0_arrive 160 = .ok (.iconst 2, 1) := by decide +kernel
theorem dX0_arrive_161 : decode cX0_arrive 161 = .ok (.invokestatic 109, 3) := by decide +kernel
theorem dX0_arrive_164 : decode cX0_arrive 164 = .ok (.ireturn, 1) := by decide +kernel
theorem dX0_arrive_165 : decode cX0_arrive 165 = .ok (.iinc 7 1, 3) := by decide +kernel
theorem dX0_arrive_168 : decode cX0_arrive 168 = .ok (.goto (-143), 3) := by decide +kernel
theorem dX0_arrive_171 : decode cX0_arrive 171 = .ok (.aload_n 0, 1) := by decide +kernel
theorem dX0_arrive_172 : decode cX0_arrive 172 = .ok (.getfield 18, 3) := by decide +kernel
theorem dX0_arrive_175 : decode cX0_arrive 175 = .ok (.iload_n 1, 1) := by decide +kernel
theorem dX0_arrive_176 : decode cX0_arrive 176 = .ok (.iaload, 1) := by decide +kernel
theorem dX0_arrive_177 : decode cX0_arrive 177 = .ok (.iconst 1, 1) := by decide +kernel
theorem dX0_arrive_178 : decode cX0_arrive 178 = .ok (.if_icmp .ne 7, 3) := by decide +kernel
theorem dX0_arrive_181 : decode cX0_arrive 181 = .ok (.iconst 1, 1) := by decide +kernel
theorem dX0_arrive_182 : decode cX0_arrive 182 = .ok (.goto 18, 3) := by decide +kernel
theorem dX0_arrive_185 : decode cX0_arrive 185 = .ok (.aload_n 0, 1) := by decide +kernel
theorem dX0_arrive_186 : decode cX0_arrive 186 = .ok (.getfield 18, 3) := by decide +kernel
theorem dX0_arrive_189 : decode cX0_arrive 189 = .ok (.iload_n 1, 1) := by decide +kernel
theorem dX0_arrive_190 : decode cX0_arrive 190 = .ok (.iaload, 1) := by decide +kernel
theorem dX0_arrive_191 : decode cX0_arrive 191 = .ok (.iconst 2, 1) := by decide +kernel
theorem dX0_arrive_192 : decode cX0_arrive 192 = .ok (.if_icmp .ne 7, 3) := by decide +kernel
theorem dX0_arrive_195 : decode cX0_arrive 195 = .ok (.iconst 2, 1) := by decide +kernel
theorem dX0_arrive_196 : decode cX0_arrive 196 = .ok (.goto 4, 3) := by decide +kernel
theorem dX0_arrive_199 : decode cX0_arrive 199 = .ok (.iconst 0, 1) := by decide +kernel
theorem dX0_arrive_200 : decode cX0_arrive 200 = .ok (.istore 7, 2) := by decide +kernel
theorem dX0_arrive_202 : decode cX0_arrive 202 = .ok (.iload_n 1, 1) := by decide +kernel
theorem dX0_arrive_203 : decode cX0_arrive 203 = .ok (.iload 5, 2) := by decide +kernel
theorem dX0_arrive_205 : decode cX0_arrive 205 = .ok (.iload 6, 2) := by decide +kernel
theorem dX0_arrive_207 : decode cX0_arrive 207 = .ok (.iload 7, 2) := by decide +kernel
theorem dX0_arrive_209 : decode cX0_arrive 209 = .ok (.invokestatic 109, 3) := by decide +kernel
theorem dX0_arrive_212 : decode cX0_arrive 212 = .ok (.ireturn, 1) := by decide +kernel
theorem dX0_findLinks_0 : decode cX0_findLinks 0 = .ok (.aload_n 1, 1) := by decide +kernel
theorem dX0_findLinks_1 : decode cX0_findLinks 1 = .ok (.iconst 0, 1) := by decide +kernel
theorem dX0_findLinks_2 : decode cX0_findLinks 2 = .ok (.invokestatic 112, 3) := by decide +kernel
theorem dX0_findLinks_5 : decode cX0_findLinks 5 = .ok (.iconst 0, 1) := by decide +kernel
theorem dX0_findLinks_6 : decode cX0_findLinks 6 = .ok (.istore_n 2, 1) := by decide +kernel
theorem dX0_findLinks_7 : decode cX0_findLinks 7 = .ok (.iload_n 2, 1) := by decide +kernel
theorem dX0_findLinks_8 : decode cX0_findLinks 8 = .ok (.aload_n 0, 1) := by decide +kernel
theorem dX0_findLinks_9 : decode cX0_findLinks 9 = .ok (.getfield 9, 3) := by decide +kernel
theorem dX0_findLinks_12 : decode cX0_findLinks 12 = .ok (.if_icmp .ge 87, 3) := by decide +kernel
theorem dX0_findLinks_15 : decode cX0_findLinks 15 = .ok (.iload_n 2, 1) := by decide +kernel
theorem dX0_findLinks_16 : decode cX0_findLinks 16 = .ok (.bipush 24, 2) := by decide +kernel
theorem dX0_findLinks_18 : decode cX0_findLinks 18 = .ok (.if_icmp .ge 81, 3) := by decide +kernel
theorem dX0_findLinks_21 : decode cX0_findLinks 21 = .ok (.aload_n 0, 1) := by decide +kernel
theorem dX0_findLinks_22 : decode cX0_findLinks 22 = .ok (.getfield 18, 3) := by decide +kernel
theorem dX0_findLinks_25 : decode cX0_findLinks 25 = .ok (.iload_n 2, 1) := by decide +kernel
theorem dX0_findLinks_26 : decode cX0_findLinks 26 = .ok (.iaload, 1) := by decide +kernel
theorem dX0_findLinks_27 : decode cX0_findLinks 27 = .ok (.iconst 3, 1) := by decide +kernel
theorem dX0_findLinks_28 : decode cX0_findLinks 28 = .ok (.if_icmp .ne 25, 3) := by decide +kernel
theorem dX0_findLinks_31 : decode cX0_findLinks 31 = .ok (.aload_n 1, 1) := by decide +kernel
theorem dX0_findLinks_32 : decode cX0_findLinks 32 = .ok (.iload_n 2, 1) := by decide +kernel
theorem dX0_findLinks_33 : decode cX0_findLinks 33 = .ok (.aload_n 0, 1) := by decide +kernel
theorem dX0_findLinks_34 : decode cX0_findLinks 34 = .ok (.getfield 25, 3) := by decide +kernel
theorem dX0_findLinks_37 : decode cX0_findLinks 37 = .ok (.iload_n 2, 1) := by decide +kernel
theorem dX0_findLinks_38 : decode cX0_findLinks 38 = .ok (.iaload, 1) := by decide +kernel
theorem dX0_findLinks_39 : decode cX0_findLinks 39 = .ok (.invokestatic 118, 3) := by decide +kernel
theorem dX0_findLinks_42 : decode cX0_findLinks 42 = .ok (.aload_n 1, 1) := by decide +kernel
theorem dX0_findLinks_43 : decode cX0_findLinks 43 = .ok (.iload_n 2, 1) := by decide +kernel
theorem dX0_findLinks_44 : decode cX0_findLinks 44 = .ok (.aload_n 0, 1) := by decide +kernel
theorem dX0_findLinks_45 : decode cX0_findLinks 45 = .ok (.getfield 28, 3) := by decide +kernel
theorem dX0_findLinks_48 : decode cX0_findLinks 48 = .ok (.iload_n 2, 1) := by decide +kernel
theorem dX0_findLinks_49 : decode cX0_findLinks 49 = .ok (.iaload, 1) := by decide +kernel
theorem dX0_findLinks_50 : decode cX0_findLinks 50 = .ok (.invokestatic 118, 3) := by decide +kernel
theorem dX0_findLinks_53 : decode cX0_findLinks 53 = .ok (.iconst 0, 1) := by decide +kernel
theorem dX0_findLinks_54 : decode cX0_findLinks 54 = .ok (.istore_n 3, 1) := by decide +kernel
theorem dX0_findLinks_55 : decode cX0_findLinks 55 = .ok (.iload_n 3, 1) := by decide +kernel
theorem dX0_findLinks_56 : decode cX0_findLinks 56 = .ok (.aload_n 0, 1) := by decide +kernel
theorem dX0_findLinks_57 : decode cX0_findLinks 57 = .ok (.getfield 40, 3) := by decide +kernel
theorem dX0_findLinks_60 : decode cX0_findLinks 60 = .ok (.iload_n 2, 1) := by decide +kernel
theorem dX0_findLinks_61 : decode cX0_findLinks 61 = .ok (.iaload, 1) := by decide +kernel
theorem dX0_findLinks_62 : decode cX0_findLinks 62 = .ok (.if_icmp .ge 31, 3) := by decide +kernel
theorem dX0_findLinks_65 : decode cX0_findLinks 65 = .ok (.iload_n 3, 1) := by decide +kernel
theorem dX0_findLinks_66 : decode cX0_findLinks 66 = .ok (.bipush 6, 2) := by decide +kernel
theorem dX0_findLinks_68 : decode cX0_findLinks 68 = .ok (.if_icmp .ge 25, 3) := by decide +kernel
theorem dX0_findLinks_71 : decode cX0_findLinks 71 = .ok (.aload_n 1, 1) := by decide +kernel
theorem dX0_findLinks_72 : decode cX0_findLinks 72 = .ok (.iload_n 2, 1) := by decide +kernel
theorem dX0_findLinks_73 : decode cX0_findLinks 73 = .ok (.aload_n 0, 1) := by decide +kernel
theorem dX0_findLinks_74 : decode cX0_findLinks 74 = .ok (.getfield 43, 3) := by decide +kernel
theorem dX0_findLinks_77 : decode cX0_findLinks 77 = .ok (.iload_n 2, 1) := by decide +kernel
theorem dX0_findLinks_78 : decode cX0_findLinks 78 = .ok (.bipush 6, 2) := by decide +kernel
theorem dX0_findLinks_80 : decode cX0_findLinks 80 = .ok (.imul, 1) := by decide +kernel
theorem dX0_findLinks_81 : decode cX0_findLinks 81 = .ok (.iload_n 3, 1) := by decide +kernel
theorem dX0_findLinks_82 : decode cX0_findLinks 82 = .ok (.iadd, 1) := by decide +kernel
theorem dX0_findLinks_83 : decode cX0_findLinks 83 = .ok (.iaload, 1) := by decide +kernel
theorem dX0_findLinks_84 : decode cX0_findLinks 84 = .ok (.invokestatic 118, 3) := by decide +kernel
theorem dX0_findLinks_87 : decode cX0_findLinks 87 = .ok (.iinc 3 1, 3) := by decide +kernel
theorem dX0_findLinks_90 : decode cX0_findLinks 90 = .ok (.goto (-35), 3) := by decide +kernel
theorem dX0_findLinks_93 : decode cX0_findLinks 93 = .ok (.iinc 2 1, 3) := by decide +kernel
theorem dX0_findLinks_96 : decode cX0_findLinks 96 = .ok (.goto (-89), 3) := by decide +kernel
theorem dX0_findLinks_99 : decode cX0_findLinks 99 = .ok (.return_, 1) := by decide +kernel
theorem dX0_addPair_0 : decode cX0_addPair 0 = .ok (.iload_n 1, 1) := by decide +kernel
theorem dX0_addPair_1 : decode cX0_addPair 1 = .ok (.iload_n 2, 1) := by decide +kernel
theorem dX0_addPair_2 : decode cX0_addPair 2 = .ok (.invokestatic 84, 3) := by decide +kernel
theorem dX0_addPair_5 : decode cX0_addPair 5 = .ok (.istore_n 3, 1) := by decide +kernel
theorem dX0_addPair_6 : decode cX0_addPair 6 = .ok (.iload_n 1, 1) := by decide +kernel
theorem dX0_addPair_7 : decode cX0_addPair 7 = .ok (.iload_n 2, 1) := by decide +kernel
theorem dX0_addPair_8 : decode cX0_addPair 8 = .ok (.invokestatic 122, 3) := by decide +kernel
theorem dX0_addPair_11 : decode cX0_addPair 11 = .ok (.istore 4, 2) := by decide +kernel
theorem dX0_addPair_13 : decode cX0_addPair 13 = .ok (.iload_n 3, 1) := by decide +kernel
theorem dX0_addPair_14 : decode cX0_addPair 14 = .ok (.ifCond .lt 25, 3) := by decide +kernel
theorem dX0_addPair_17 : decode cX0_addPair 17 = .ok (.iload_n 3, 1) := by decide +kernel
theorem dX0_addPair_18 : decode cX0_addPair 18 = .ok (.iload 4, 2) := by decide +kernel
theorem dX0_addPair_20 : decode cX0_addPair 20 = .ok (.if_icmp .ge 19, 3) := by decide +kernel
theorem dX0_addPair_23 : decode cX0_addPair 23 = .ok (.iload_n 3, 1) := by decide +kernel
theorem dX0_addPair_24 : decode cX0_addPair 24 = .ok (.aload_n 0, 1) := by decide +kernel
theorem dX0_addPair_25 : decode cX0_addPair 25 = .ok (.arraylength, 1) := by decide +kernel
theorem dX0_addPair_26 : decode cX0_addPair 26 = .ok (.if_icmp .ge 13, 3) := by decide +kernel
theorem dX0_addPair_29 : decode cX0_addPair 29 = .ok (.aload_n 0, 1) := by decide +kernel
theorem dX0_addPair_30 : decode cX0_addPair 30 = .ok (.iload_n 3, 1) := by decide +kernel
theorem dX0_addPair_31 : decode cX0_addPair 31 = .ok (.dup2, 1) := by decide +kernel
theorem dX0_addPair_32 : decode cX0_addPair 32 = .ok (.iaload, 1) := by decide +kernel
theorem dX0_addPair_33 : decode cX0_addPair 33 = .ok (.iconst 1, 1) := by decide +kernel
theorem dX0_addPair_34 : decode cX0_addPair 34 = .ok (.iload 4, 2) := by decide +kernel
theorem dX0_addPair_36 : decode cX0_addPair 36 = .ok (.ishl, 1) := by decide +kernel
theorem dX0_addPair_37 : decode cX0_addPair 37 = .ok (.ior, 1) := by decide +kernel
theorem dX0_addPair_38 : decode cX0_addPair 38 = .ok (.iastore, 1) := by decide +kernel
theorem dX0_addPair_39 : decode cX0_addPair 39 = .ok (.return_, 1) := by decide +kernel
theorem dX1_init_0 : decode cX1_init 0 = .ok (.aload_n 0, 1) := by decide +kernel
theorem dX1_init_1 : decode cX1_init 1 = .ok (.invokespecial 3, 3) := by decide +kernel
theorem dX1_init_4 : decode cX1_init 4 = .ok (.aload_n 0, 1) := by decide +kernel
theorem dX1_init_5 : decode cX1_init 5 = .ok (.new 9, 3) := by decide +kernel
theorem dX1_init_8 : decode cX1_init 8 = .ok (.dup, 1) := by decide +kernel
theorem dX1_init_9 : decode cX1_init 9 = .ok (.invokespecial 11, 3) := by decide +kernel
theorem dX1_init_12 : decode cX1_init 12 = .ok (.putfield 12, 3) := by decide +kernel
theorem dX1_init_15 : decode cX1_init 15 = .ok (.aload_n 0, 1) := by decide +kernel
theorem dX1_init_16 : decode cX1_init 16 = .ok (.iconst 0, 1) := by decide +kernel
theorem dX1_init_17 : decode cX1_init 17 = .ok (.putfield 18, 3) := by decide +kernel
theorem dX1_init_20 : decode cX1_init 20 = .ok (.aload_n 0, 1) := by decide +kernel
theorem dX1_init_21 : decode cX1_init 21 = .ok (.iconst (-1), 1) := by decide +kernel
theorem dX1_init_22 : decode cX1_init 22 = .ok (.putfield 22, 3) := by decide +kernel
theorem dX1_init_25 : decode cX1_init 25 = .ok (.aload_n 0, 1) := by decide +kernel
theorem dX1_init_26 : decode cX1_init 26 = .ok (.sipush 600, 3) := by decide +kernel
theorem dX1_init_29 : decode cX1_init 29 = .ok (.newarray .byte, 2) := by decide +kernel
theorem dX1_init_31 : decode cX1_init 31 = .ok (.putfield 25, 3) := by decide +kernel
theorem dX1_init_34 : decode cX1_init 34 = .ok (.aload_n 0, 1) := by decide +kernel
theorem dX1_init_35 : decode cX1_init 35 = .ok (.iconst 0, 1) := by decide +kernel
theorem dX1_init_36 : decode cX1_init 36 = .ok (.putfield 29, 3) := by decide +kernel
theorem dX1_init_39 : decode cX1_init 39 = .ok (.aload_n 0, 1) := by decide +kernel
theorem dX1_init_40 : decode cX1_init 40 = .ok (.iconst 0, 1) := by decide +kernel
theorem dX1_init_41 : decode cX1_init 41 = .ok (.putfield 32, 3) := by decide +kernel
theorem dX1_init_44 : decode cX1_init 44 = .ok (.aload_n 0, 1) := by decide +kernel
theorem dX1_init_45 : decode cX1_init 45 = .ok (.iconst 0, 1) := by decide +kernel
theorem dX1_init_46 : decode cX1_init 46 = .ok (.putfield 35, 3) := by decide +kernel
theorem dX1_init_49 : decode cX1_init 49 = .ok (.aload_n 0, 1) := by decide +kernel
theorem dX1_init_50 : decode cX1_init 50 = .ok (.sipush 144, 3) := by decide +kernel
theorem dX1_init_53 : decode cX1_init 53 = .ok (.newarray .int, 2) := by decide +kernel
theorem dX1_init_55 : decode cX1_init 55 = .ok (.putfield 39, 3) := by decide +kernel
theorem dX1_init_58 : decode cX1_init 58 = .ok (.aload_n 0, 1) := by decide +kernel
theorem dX1_init_59 : decode cX1_init 59 = .ok (.sipush 144, 3) := by decide +kernel
theorem dX1_init_62 : decode cX1_init 62 = .ok (.newarray .int, 2) := by decide +kernel
theorem dX1_init_64 : decode cX1_init 64 = .ok (.putfield 43, 3) := by decide +kernel
theorem dX1_init_67 : decode cX1_init 67 = .ok (.aload_n 0, 1) := by decide +kernel
theorem dX1_init_68 : decode cX1_init 68 = .ok (.iconst 0, 1) := by decide +kernel
theorem dX1_init_69 : decode cX1_init 69 = .ok (.putfield 46, 3) := by decide +kernel
theorem dX1_init_72 : decode cX1_init 72 = .ok (.return_, 1) := by decide +kernel
theorem dX1_append_0 : decode cX1_append 0 = .ok (.aload_n 0, 1) := by decide +kernel
theorem dX1_append_1 : decode cX1_append 1 = .ok (.getfield 18, 3) := by decide +kernel
theorem dX1_append_4 : decode cX1_append 4 = .ok (.sipush 600, 3) := by decide +kernel
theorem dX1_append_7 : decode cX1_append 7 = .ok (.if_icmp .ge 23, 3) := by decide +kernel
theorem dX1_append_10 : decode cX1_append 10 = .ok (.aload_n 0, 1) := by decide +kernel
theorem dX1_append_11 : decode cX1_append 11 = .ok (.getfield 25, 3) := by decide +kernel
theorem dX1_append_14 : decode cX1_append 14 = .ok (.aload_n 0, 1) := by decide +kernel
theorem dX1_append_15 : decode cX1_append 15 = .ok (.getfield 18, 3) := by decide +kernel
theorem dX1_append_18 : decode cX1_append 18 = .ok (.iload_n 1, 1) := by decide +kernel
theorem dX1_append_19 : decode cX1_append 19 = .ok (.bastore, 1) := by decide +kernel
theorem dX1_append_20 : decode cX1_append 20 = .ok (.aload_n 0, 1) := by decide +kernel
theorem dX1_append_21 : decode cX1_append 21 = .ok (.dup, 1) := by decide +kernel
theorem dX1_append_22 : decode cX1_append 22 = .ok (.getfield 18, 3) := by decide +kernel
theorem dX1_append_25 : decode cX1_append 25 = .ok (.iconst 1, 1) := by decide +kernel
theorem dX1_append_26 : decode cX1_append 26 = .ok (.iadd, 1) := by decide +kernel
theorem dX1_append_27 : decode cX1_append 27 = .ok (.putfield 18, 3) := by decide +kernel
theorem dX1_append_30 : decode cX1_append 30 = .ok (.return_, 1) := by decide +kernel
theorem dX1_parse_0 : decode cX1_parse 0 = .ok (.aload_n 0, 1) := by decide +kernel
theorem dX1_parse_1 : decode cX1_parse 1 = .ok (.iconst 0, 1) := by decide +kernel
theorem dX1_parse_2 : decode cX1_parse 2 = .ok (.putfield 29, 3) := by decide +kernel
theorem dX1_parse_5 : decode cX1_parse 5 = .ok (.aload_n 0, 1) := by decide +kernel
theorem dX1_parse_6 : decode cX1_parse 6 = .ok (.iconst 0, 1) := by decide +kernel
theorem dX1_parse_7 : decode cX1_parse 7 = .ok (.putfield 32, 3) := by decide +kernel
theorem dX1_parse_10 : decode cX1_parse 10 = .ok (.aload_n 0, 1) := by decide +kernel
theorem dX1_parse_11 : decode cX1_parse 11 = .ok (.iconst (-1), 1) := by decide +kernel
theorem dX1_parse_12 : decode cX1_parse 12 = .ok (.putfield 22, 3) := by decide +kernel
theorem dX1_parse_15 : decode cX1_parse 15 = .ok (.aload_n 0, 1) := by decide +kernel
theorem dX1_parse_16 : decode cX1_parse 16 = .ok (.iconst 0, 1) := by decide +kernel
theorem dX1_parse_17 : decode cX1_parse 17 = .ok (.putfield 35, 3) := by decide +kernel
theorem dX1_parse_20 : decode cX1_parse 20 = .ok (.aload_n 0, 1) := by decide +kernel
theorem dX1_parse_21 : decode cX1_parse 21 = .ok (.iconst 0, 1) := by decide +kernel
theorem dX1_parse_22 : decode cX1_parse 22 = .ok (.putfield 46, 3) := by decide +kernel
theorem dX1_parse_25 : decode cX1_parse 25 = .ok (.aload_n 0, 1) := by decide +kernel
theorem dX1_parse_26 : decode cX1_parse 26 = .ok (.getfield 12, 3) := by decide +kernel
theorem dX1_parse_29 : decode cX1_parse 29 = .ok (.invokevirtual 49, 3) := by decide +kernel
theorem dX1_parse_32 : decode cX1_parse 32 = .ok (.aload_n 0, 1) := by decide +kernel
theorem dX1_parse_33 : decode cX1_parse 33 = .ok (.iconst 0, 1) := by decide +kernel
theorem dX1_parse_34 : decode cX1_parse 34 = .ok (.invokevirtual 52, 3) := by decide +kernel
theorem dX1_parse_37 : decode cX1_parse 37 = .ok (.iconst 0, 1) := by decide +kernel
theorem dX1_parse_38 : decode cX1_parse 38 = .ok (.istore_n 1, 1) := by decide +kernel
theorem dX1_parse_39 : decode cX1_parse 39 = .ok (.iload_n 1, 1) := by decide +kernel
theorem dX1_parse_40 : decode cX1_parse 40 = .ok (.sipush 600, 3) := by decide +kernel
theorem dX1_parse_43 : decode cX1_parse 43 = .ok (.if_icmp .ge 68, 3) := by decide +kernel
theorem dX1_parse_46 : decode cX1_parse 46 = .ok (.aload_n 0, 1) := by decide +kernel
theorem dX1_parse_47 : decode cX1_parse 47 = .ok (.getfield 29, 3) := by decide +kernel
theorem dX1_parse_50 : decode cX1_parse 50 = .ok (.aload_n 0, 1) := by decide +kernel
theorem dX1_parse_51 : decode cX1_parse 51 = .ok (.getfield 18, 3) := by decide +kernel
theorem dX1_parse_54 : decode cX1_parse 54 = .ok (.if_icmp .ge 57, 3) := by decide +kernel
theorem dX1_parse_57 : decode cX1_parse 57 = .ok (.aload_n 0, 1) := by decide +kernel
theorem dX1_parse_58 : decode cX1_parse 58 = .ok (.getfield 32, 3) := by decide +kernel
theorem dX1_parse_61 : decode cX1_parse 61 = .ok (.ifCond .ne 50, 3) := by decide +kernel
theorem dX1_parse_64 : decode cX1_parse 64 = .ok (.aload_n 0, 1) := by decide +kernel
theorem dX1_parse_65 : decode cX1_parse 65 = .ok (.ldc 56, 2) := by decide +kernel
theorem dX1_parse_67 : decode cX1_parse 67 = .ok (.invokevirtual 58, 3) := by decide +kernel
theorem dX1_parse_70 : decode cX1_parse 70 = .ok (.ifCond .eq 10, 3) := by decide +kernel
theorem dX1_parse_73 : decode cX1_parse 73 = .ok (.aload_n 0, 1) := by decide +kernel
theorem dX1_parse_74 : decode cX1_parse 74 = .ok (.invokevirtual 62, 3) := by decide +kernel
theorem dX1_parse_77 : decode cX1_parse 77 = .ok (.goto 28, 3) := by decide +kernel
theorem dX1_parse_80 : decode cX1_parse 80 = .ok (.aload_n 0, 1) := by decide +kernel
theorem dX1_parse_81 : decode cX1_parse 81 = .ok (.ldc 65, 2) := by decide +kernel
theorem dX1_parse_83 : decode cX1_parse 83 = .ok (.invokevirtual 58, 3) := by decide +kernel
theorem dX1_parse_86 : decode cX1_parse 86 = .ok (.ifCond .eq 10, 3) := by decide +kernel
theorem dX1_parse_89 : decode cX1_parse 89 = .ok (.aload_n 0, 1) := by decide +kernel
theorem dX1_parse_90 : decode cX1_parse 90 = .ok (.invokevirtual 67, 3) := by decide +kernel
theorem dX1_parse_93 : decode cX1_parse 93 = .ok (.goto 12, 3) := by decide +kernel
theorem dX1_parse_96 : decode cX1_parse 96 = .ok (.aload_n 0, 1) := by decide +kernel
theorem dX1_parse_97 : decode cX1_parse 97 = .ok (.iconst 1, 1) := by decide +kernel
theorem dX1_parse_98 : decode cX1_parse 98 = .ok (.aload_n 0, 1) := by decide +kernel
theorem dX1_parse_99 : decode cX1_parse 99 = .ok (.getfield 29, 3) := by decide +kernel
theorem dX1_parse_102 : decode cX1_parse 102 = .ok (.invokevirtual 70, 3) := by decide +kernel
theorem dX1_parse_105 : decode cX1_parse 105 = .ok (.iinc 1 1, 3) := by decide +kernel
theorem dX1_parse_108 : decode cX1_parse 108 = .ok (.goto (-69), 3) := by decide +kernel
theorem dX1_parse_111 : decode cX1_parse 111 = .ok (.aload_n 0, 1) := by decide +kernel
theorem dX1_parse_112 : decode cX1_parse 112 = .ok (.invokevirtual 74, 3) := by decide +kernel
theorem dX1_parse_115 : decode cX1_parse 115 = .ok (.aload_n 0, 1) := by decide +kernel
theorem dX1_parse_116 : decode cX1_parse 116 = .ok (.getfield 32, 3) := by decide +kernel
theorem dX1_parse_119 : decode cX1_parse 119 = .ok (.ireturn, 1) := by decide +kernel
theorem dX1_readHealth_0 : decode cX1_readHealth 0 = .ok (.aload_n 0, 1) := by decide +kernel
theorem dX1_readHealth_1 : decode cX1_readHealth 1 = .ok (.getfield 35, 3) := by decide +kernel
theorem dX1_readHealth_4 : decode cX1_readHealth 4 = .ok (.ifCond .eq 13, 3) := by decide +kernel
theorem dX1_readHealth_7 : decode cX1_readHealth 7 = .ok (.aload_n 0, 1) := by decide +kernel
theorem dX1_readHealth_8 : decode cX1_readHealth 8 = .ok (.iconst 3, 1) := by decide +kernel
theorem dX1_readHealth_9 : decode cX1_readHealth 9 = .ok (.aload_n 0, 1) := by decide +kernel
theorem dX1_readHealth_10 : decode cX1_readHealth 10 = .ok (.getfield 29, 3) := by decide +kernel
theorem dX1_readHealth_13 : decode cX1_readHealth 13 = .ok (.invokevirtual 70, 3) := by decide +kernel
theorem dX1_readHealth_16 : decode cX1_readHealth 16 = .ok (.return_, 1) := by decide +kernel
theorem dX1_readHealth_17 : decode cX1_readHealth 17 = .ok (.aload_n 0, 1) := by decide +kernel
theorem dX1_readHealth_18 : decode cX1_readHealth 18 = .ok (.iconst 1, 1) := by decide +kernel
theorem dX1_readHealth_19 : decode cX1_readHealth 19 = .ok (.putfield 35, 3) := by decide +kernel
theorem dX1_readHealth_22 : decode cX1_readHealth 22 = .ok (.aload_n 0, 1) := by decide +kernel
theorem dX1_readHealth_23 : decode cX1_readHealth 23 = .ok (.ldc 56, 2) := by decide +kernel
theorem dX1_readHealth_25 : decode cX1_readHealth 25 = .ok (.invokevirtual 77, 3) := by decide +kernel
theorem dX1_readHealth_28 : decode cX1_readHealth 28 = .ok (.invokevirtual 52, 3) := by decide +kernel
theorem dX1_readHealth_31 : decode cX1_readHealth 31 = .ok (.aload_n 0, 1) := by decide +kernel
theorem dX1_readHealth_32 : decode cX1_readHealth 32 = .ok (.getfield 12, 3) := by decide +kernel
theorem dX1_readHealth_35 : decode cX1_readHealth 35 = .ok (.aload_n 0, 1) := by decide +kernel
theorem dX1_readHealth_36 : decode cX1_readHealth 36 = .ok (.iconst 1, 1) := by decide +kernel
theorem dX1_readHealth_37 : decode cX1_readHealth 37 = .ok (.bipush 9, 2) := by decide +kernel
theorem dX1_readHealth_39 : decode cX1_readHealth 39 = .ok (.invokevirtual 83, 3) := by decide +kernel
theorem dX1_readHealth_42 : decode cX1_readHealth 42 = .ok (.putfield 87, 3) := by decide +kernel
theorem dX1_readHealth_45 : decode cX1_readHealth 45 = .ok (.aload_n 0, 1) := by decide +kernel
theorem dX1_readHealth_46 : decode cX1_readHealth 46 = .ok (.invokevirtual 89, 3) := by decide +kernel
theorem dX1_readHealth_49 : decode cX1_readHealth 49 = .ok (.return_, 1) := by decide +kernel
theorem dX1_readPart_0 : decode cX1_readPart 0 = .ok (.aload_n 0, 1) := by decide +kernel
theorem dX1_readPart_1 : decode cX1_readPart 1 = .ok (.getfield 12, 3) := by decide +kernel
theorem dX1_readPart_4 : decode cX1_readPart 4 = .ok (.invokevirtual 92, 3) := by decide +kernel
theorem dX1_readPart_7 : decode cX1_readPart 7 = .ok (.istore_n 1, 1) := by decide +kernel
theorem dX1_readPart_8 : decode cX1_readPart 8 = .ok (.iload_n 1, 1) := by decide +kernel
theorem dX1_readPart_9 : decode cX1_readPart 9 = .ok (.iconst (-1), 1) := by decide +kernel
theorem dX1_readPart_10 : decode cX1_readPart 10 = .ok (.if_icmp .ne 13, 3) := by decide +kernel
theorem dX1_readPart_13 : decode cX1_readPart 13 = .ok (.aload_n 0, 1) := by decide +kernel
theorem dX1_readPart_14 : decode cX1_readPart 14 = .ok (.iconst 3, 1) := by decide +kernel
theorem dX1_readPart_15 : decode cX1_readPart 15 = .ok (.aload_n 0, 1) := by decide +kernel
theorem dX1_readPart_16 : decode cX1_readPart 16 = .ok (.getfield 29, 3) := by decide +kernel
theorem dX1_readPart_19 : decode cX1_readPart 19 = .ok (.invokevirtual 70, 3) := by decide +kernel
theorem dX1_readPart_22 : decode cX1_readPart 22 = .ok (.return_, 1) := by decide +kernel
theorem dX1_readPart_23 : decode cX1_readPart 23 = .ok (.aload_n 0, 1) := by decide +kernel
theorem dX1_readPart_24 : decode cX1_readPart 24 = .ok (.ldc 65, 2) := by decide +kernel
theorem dX1_readPart_26 : decode cX1_readPart 26 = .ok (.invokevirtual 77, 3) := by decide +kernel
theorem dX1_readPart_29 : decode cX1_readPart 29 = .ok (.invokevirtual 52, 3) := by decide +kernel
theorem dX1_readPart_32 : decode cX1_readPart 32 = .ok (.aload_n 0, 1) := by decide +kernel
theorem dX1_readPart_33 : decode cX1_readPart 33 = .ok (.iload_n 1, 1) := by decide +kernel
theorem dX1_readPart_34 : decode cX1_readPart 34 = .ok (.invokevirtual 95, 3) := by decide +kernel
theorem dX1_readPart_37 : decode cX1_readPart 37 = .ok (.aload_n 0, 1) := by decide +kernel
theorem dX1_readPart_38 : decode cX1_readPart 38 = .ok (.iload_n 1, 1) := by decide +kernel
theorem dX1_readPart_39 : decode cX1_readPart 39 = .ok (.invokevirtual 98, 3) := by decide +kernel
theorem dX1_readPart_42 : decode cX1_readPart 42 = .ok (.aload_n 0, 1) := by decide +kernel
theorem dX1_readPart_43 : decode cX1_readPart 43 = .ok (.iload_n 1, 1) := by decide +kernel
theorem dX1_readPart_44 : decode cX1_readPart 44 = .ok (.invokevirtual 101, 3) := by decide +kernel
theorem dX1_readPart_47 : decode cX1_readPart 47 = .ok (.aload_n 0, 1) := by decide +kernel
theorem dX1_readPart_48 : decode cX1_readPart 48 = .ok (.invokevirtual 89, 3) := by decide +kernel
theorem dX1_readPart_51 : decode cX1_readPart 51 = .ok (.return_, 1) := by decide +kernel
theorem dX1_readEffects_0 : decode cX1_readEffects 0 = .ok (.iconst 0, 1) := by decide +kernel
theorem dX1_readEffects_1 : decode cX1_readEffects 1 = .ok (.istore_n 2, 1) := by decide +kernel
theorem dX1_readEffects_2 : decode cX1_readEffects 2 = .ok (.iload_n 2, 1) := by decide +kernel
theorem dX1_readEffects_3 : decode cX1_readEffects 3 = .ok (.iconst 4, 1) := by decide +kernel
theorem dX1_readEffects_4 : decode cX1_readEffects 4 = .ok (.if_icmp .gt 102, 3) := by decide +kernel
theorem dX1_readEffects_7 : decode cX1_readEffects 7 = .ok (.aload_n 0, 1) := by decide +kernel
theorem dX1_readEffects_8 : decode cX1_readEffects 8 = .ok (.getfield 32, 3) := by decide +kernel
theorem dX1_readEffects_11 : decode cX1_readEffects 11 = .ok (.ifCond .ne 95, 3) := by decide +kernel
theorem dX1_readEffects_14 : decode cX1_readEffects 14 = .ok (.aload_n 0, 1) := by decide +kernel
theorem dX1_readEffects_15 : decode cX1_readEffects 15 = .ok (.invokevirtual 104, 3) := by decide +kernel
theorem dX1_readEffects_18 : decode cX1_readEffects 18 = .ok (.istore_n 3, 1) := by decide +kernel
theorem dX1_readEffects_19 : decode cX1_readEffects 19 = .ok (.iload_n 3, 1) := by decide +kernel
theorem dX1_readEffects_20 : decode cX1_readEffects 20 = .ok (.iconst (-1), 1) := by decide +kernel
theorem dX1_readEffects_21 : decode cX1_readEffects 21 = .ok (.if_icmp .ne 4, 3) := by decide +kernel
theorem dX1_readEffects_24 : decode cX1_readEffects 24 = .ok (.return_, 1) := by decide +kernel
theorem dX1_readEffects_25 : decode cX1_readEffects 25 = .ok (.iload_n 2, 1) := by decide +kernel
theorem dX1_readEffects_26 : decode cX1_readEffects 26 = .ok (.iconst 4, 1) := by decide +kernel
theorem dX1_readEffects_27 : decode cX1_readEffects 27 = .ok (.if_icmp .ne 13, 3) := by decide +kernel
theorem dX1_readEffects_30 : decode cX1_readEffects 30 = .ok (.aload_n 0, 1) := by decide +kernel
theorem dX1_readEffects_31 : decode cX1_readEffects 31 = .ok (.iconst 3, 1) := by decide +kernel
theorem dX1_readEffects_32 : decode cX1_readEffects 32 = .ok (.aload_n 0, 1) := by decide +kernel
theorem dX1_readEffects_33 : decode cX1_readEffects 33 = .ok (.getfield 29, 3) := by decide +kernel
theorem dX1_readEffects_36 : decode cX1_readEffects 36 = .ok (.invokevirtual 70, 3) := by decide +kernel
theorem dX1_readEffects_39 : decode cX1_readEffects 39 = .ok (.return_, 1) := by decide +kernel
theorem dX1_readEffects_40 : decode cX1_readEffects 40 = .ok (.aload_n 0, 1) := by decide +kernel
theorem dX1_readEffects_41 : decode cX1_readEffects 41 = .ok (.ldc 107, 2) := by decide +kernel
theorem dX1_readEffects_43 : decode cX1_readEffects 43 = .ok (.invokevirtual 77, 3) := by decide +kernel
theorem dX1_readEffects_46 : decode cX1_readEffects 46 = .ok (.invokevirtual 52, 3) := by decide +kernel
theorem dX1_readEffects_49 : decode cX1_readEffects 49 = .ok (.iload_n 3, 1) := by decide +kernel
theorem dX1_readEffects_50 : decode cX1_readEffects 50 = .ok (.ifCond .eq 8, 3) := by decide +kernel
theorem dX1_readEffects_53 : decode cX1_readEffects 53 = .ok (.iload_n 3, 1) := by decide +kernel
theorem dX1_readEffects_54 : decode cX1_readEffects 54 = .ok (.iconst 1, 1) := by decide +kernel
theorem dX1_readEffects_55 : decode cX1_readEffects 55 = .ok (.if_icmp .ne 7, 3) := by decide +kernel
theorem dX1_readEffects_58 : decode cX1_readEffects 58 = .ok (.iconst 1, 1) := by decide +kernel
theorem dX1_readEffects_59 : decode cX1_readEffects 59 = .ok (.goto 4, 3) := by decide +kernel
theorem dX1_readEffects_62 : decode cX1_readEffects 62 = .ok (.iconst 0, 1) := by decide +kernel
theorem dX1_readEffects_63 : decode cX1_readEffects 63 = .ok (.istore 4, 2) := by decide +kernel
theorem dX1_readEffects_65 : decode cX1_readEffects 65 = .ok (.iload 4, 2) := by decide +kernel
theorem dX1_readEffects_67 : decode cX1_readEffects 67 = .ok (.ifCond .eq 13, 3) := by decide +kernel
theorem dX1_readEffects_70 : decode cX1_readEffects 70 = .ok (.aload_n 0, 1) := by decide +kernel
theorem dX1_readEffects_71 : decode cX1_readEffects 71 = .ok (.iconst 0, 1) := by decide +kernel
theorem dX1_readEffects_72 : decode cX1_readEffects 72 = .ok (.bipush 7, 2) := by decide +kernel
theorem dX1_readEffects_74 : decode cX1_readEffects 74 = .ok (.invokevirtual 83, 3) := by decide +kernel
theorem dX1_readEffects_77 : decode cX1_readEffects 77 = .ok (.goto 10, 3) := by decide +kernel
theorem dX1_readEffects_80 : decode cX1_readEffects 80 = .ok (.aload_n 0, 1) := by decide +kernel
theorem dX1_readEffects_81 : decode cX1_readEffects 81 = .ok (.iconst 1, 1) := by decide +kernel
theorem dX1_readEffects_82 : decode cX1_readEffects 82 = .ok (.bipush 9, 2) := by decide +kernel
theorem dX1_readEffects_84 : decode cX1_readEffects 84 = .ok (.invokevirtual 83, 3) := by decide +kernel
theorem dX1_readEffects_87 : decode cX1_readEffects 87 = .ok (.istore 5, 2) := by decide +kernel
theorem dX1_readEffects_89 : decode cX1_readEffects 89 = .ok (.aload_n 0, 1) := by decide +kernel
theorem dX1_readEffects_90 : decode cX1_readEffects 90 = .ok (.getfield 12, 3) := by decide +kernel
theorem dX1_readEffects_93 : decode cX1_readEffects 93 = .ok (.iload_n 1, 1) := by decide +kernel
theorem dX1_readEffects_94 : decode cX1_readEffects 94 = .ok (.iload_n 3, 1) := by decide +kernel
theorem dX1_readEffects_95 : decode cX1_readEffects 95 = .ok (.iload 5, 2) := by decide +kernel
theorem dX1_readEffects_97 : decode cX1_readEffects 97 = .ok (.invokevirtual 109, 3) := by decide +kernel
theorem dX1_readEffects_100 : decode cX1_readEffects 100 = .ok (.iinc 2 1, 3) := by decide +kernel
theorem dX1_readEffects_103 : decode cX1_readEffects 103 = .ok (.goto (-101), 3) := by decide +kernel
theorem dX1_readEffects_106 : decode cX1_readEffects 106 = .ok (.return_, 1) := by decide +kernel
theorem dX1_effectHere_0 : decode cX1_effectHere 0 = .ok (.aload_n 0, 1) := by decide +kernel
theorem dX1_effectHere_1 : decode cX1_effectHere 1 = .ok (.ldc 107, 2) := by decide +kernel
theorem dX1_effectHere_3 : decode cX1_effectHere 3 = .ok (.invokevirtual 58, 3) := by decide +kernel
theorem dX1_effectHere_6 : decode cX1_effectHere 6 = .ok (.ifCond .eq 5, 3) := by decide +kernel
theorem dX1_effectHere_9 : decode cX1_effectHere 9 = .ok (.iconst 0, 1) := by decide +kernel
theorem dX1_effectHere_10 : decode cX1_effectHere 10 = .ok (.ireturn, 1) := by decide +kernel
theorem dX1_effectHere_11 : decode cX1_effectHere 11 = .ok (.aload_n 0, 1) := by decide +kernel
theorem dX1_effectHere_12 : decode cX1_effectHere 12 = .ok (.ldc 113, 2) := by decide +kernel
theorem dX1_effectHere_14 : decode cX1_effectHere 14 = .ok (.invokevirtual 58, 3) := by decide +kernel
theorem dX1_effectHere_17 : decode cX1_effectHere 17 = .ok (.ifCond .eq 5, 3) := by decide +kernel
theorem dX1_effectHere_20 : decode cX1_effectHere 20 = .ok (.iconst 1, 1) := by decide +kernel
theorem dX1_effectHere_21 : decode cX1_effectHere 21 = .ok (.ireturn, 1) := by decide +kernel
theorem dX1_effectHere_22 : decode cX1_effectHere 22 = .ok (.aload_n 0, 1) := by decide +kernel
theorem dX1_effectHere_23 : decode cX1_effectHere 23 = .ok (.ldc 115, 2) := by decide +kernel
theorem dX1_effectHere_25 : decode cX1_effectHere 25 = .ok (.invokevirtual 58, 3) := by decide +kernel
theorem dX1_effectHere_28 : decode cX1_effectHere 28 = .ok (.ifCond .eq 5, 3) := by decide +kernel
theorem dX1_effectHere_31 : decode cX1_effectHere 31 = .ok (.iconst 2, 1) := by decide +kernel
theorem dX1_effectHere_32 : decode cX1_effectHere 32 = .ok (.ireturn, 1) := by decide +kernel
theorem dX1_effectHere_33 : decode cX1_effectHere 33 = .ok (.aload_n 0, 1) := by decide +kernel
theorem dX1_effectHere_34 : decode cX1_effectHere 34 = .ok (.ldc 117, 2) := by decide +kernel
theorem dX1_effectHere_36 : decode cX1_effectHere 36 = .ok (.invokevirtual 58, 3) := by decide +kernel
theorem dX1_effectHere_39 : decode cX1_effectHere 39 = .ok (.ifCond .eq 7, 3) := by decide +kernel
theorem dX1_effectHere_42 : decode cX1_effectHere 42 = .ok (.iconst 3, 1) := by decide +kernel
theorem dX1_effectHere_43 : decode cX1_effectHere 43 = .ok (.goto 4, 3) := by decide +kernel
theorem dX1_effectHere_46 : decode cX1_effectHere 46 = .ok (.iconst (-1), 1) := by decide +kernel
theorem dX1_effectHere_47 : decode cX1_effectHere 47 = .ok (.ireturn, 1) := by decide +kernel
theorem dX1_readEnd_0 : decode cX1_readEnd 0 = .ok (.aload_n 0, 1) := by decide +kernel
theorem dX1_readEnd_1 : decode cX1_readEnd 1 = .ok (.getfield 32, 3) := by decide +kernel
theorem dX1_readEnd_4 : decode cX1_readEnd 4 = .ok (.ifCond .eq 4, 3) := by decide +kernel
theorem dX1_readEnd_7 : decode cX1_readEnd 7 = .ok (.return_, 1) := by decide +kernel
theorem dX1_readEnd_8 : decode cX1_readEnd 8 = .ok (.aload_n 0, 1) := by decide +kernel
theorem dX1_readEnd_9 : decode cX1_readEnd 9 = .ok (.ldc 119, 2) := by decide +kernel
theorem dX1_readEnd_11 : decode cX1_readEnd 11 = .ok (.invokevirtual 58, 3) := by decide +kernel
theorem dX1_readEnd_14 : decode cX1_readEnd 14 = .ok (.ifCond .eq 25, 3) := by decide +kernel
theorem dX1_readEnd_17 : decode cX1_readEnd 17 = .ok (.aload_n 0, 1) := by decide +kernel
theorem dX1_readEnd_18 : decode cX1_readEnd 18 = .ok (.ldc 119, 2) := by decide +kernel
theorem dX1_readEnd_20 : decode cX1_readEnd 20 = .ok (.invokevirtual 77, 3) := by decide +kernel
theorem dX1_readEnd_23 : decode cX1_readEnd 23 = .ok (.invokevirtual 52, 3) := by decide +kernel
theorem dX1_readEnd_26 : decode cX1_readEnd 26 = .ok (.aload_n 0, 1) := by decide +kernel
theorem dX1_readEnd_27 : decode cX1_readEnd 27 = .ok (.getfield 12, 3) := by decide +kernel
theorem dX1_readEnd_30 : decode cX1_readEnd 30 = .ok (.getfield 121, 3) := by decide +kernel
theorem dX1_readEnd_33 : decode cX1_readEnd 33 = .ok (.iload_n 1, 1) := by decide +kernel
theorem dX1_readEnd_34 : decode cX1_readEnd 34 = .ok (.iconst 1, 1) := by decide +kernel
theorem dX1_readEnd_35 : decode cX1_readEnd 35 = .ok (.iastore, 1) := by decide +kernel
theorem dX1_readEnd_36 : decode cX1_readEnd 36 = .ok (.goto 83, 3) := by decide +kernel
theorem dX1_readEnd_39 : decode cX1_readEnd 39 = .ok (.aload_n 0, 1) := by decide +kernel
theorem dX1_readEnd_40 : decode cX1_readEnd 40 = .ok (.ldc 124, 2) := by decide +kernel
theorem dX1_readEnd_42 : decode cX1_readEnd 42 = .ok (.invokevirtual 58, 3) := by decide +kernel
theorem dX1_readEnd_45 : decode cX1_readEnd 45 = .ok (.ifCond .eq 25, 3) := by decide +kernel
theorem dX1_readEnd_48 : decode cX1_readEnd 48 = .ok (.aload_n 0, 1) := by decide +kernel
theorem dX1_readEnd_49 : decode cX1_readEnd 49 = .ok (.ldc 124, 2) := by decide +kernel
theorem dX1_readEnd_51 : decode cX1_readEnd 51 = .ok (.invokevirtual 77, 3) := by decide +kernel
theorem dX1_readEnd_54 : decode cX1_readEnd 54 = .ok (.invokevirtual 52, 3) := by decide +kernel
theorem dX1_readEnd_57 : decode cX1_readEnd 57 = .ok (.aload_n 0, 1) := by decide +kernel
theorem dX1_readEnd_58 : decode cX1_readEnd 58 = .ok (.getfield 12, 3) := by decide +kernel
theorem dX1_readEnd_61 : decode cX1_readEnd 61 = .ok (.getfield 121, 3) := by decide +kernel
theorem dX1_readEnd_64 : decode cX1_readEnd 64 = .ok (.iload_n 1, 1) := by decide +kernel
theorem dX1_readEnd_65 : decode cX1_readEnd 65 = .ok (.iconst 2, 1) := by decide +kernel
theorem dX1_readEnd_66 : decode cX1_readEnd 66 = .ok (.iastore, 1) := by decide +kernel
theorem dX1_readEnd_67 : decode cX1_readEnd 67 = .ok (.goto 52, 3) := by decide +kernel
theorem dX1_readEnd_70 : decode cX1_readEnd 70 = .ok (.aload_n 0, 1) := by decide +kernel
theorem dX1_readEnd_71 : decode cX1_readEnd 71 = .ok (.ldc 126, 2) := by decide +kernel
theorem dX1_readEnd_73 : decode cX1_readEnd 73 = .ok (.invokevirtual 58, 3) := by decide +kernel
theorem dX1_readEnd_76 : decode cX1_readEnd 76 = .ok (.ifCond .eq 43, 3) := by decide +kernel
theorem dX1_readEnd_79 : decode cX1_readEnd 79 = .ok (.aload_n 0, 1) := by decide +kernel
theorem dX1_readEnd_80 : decode cX1_readEnd 80 = .ok (.ldc 126, 2) := by decide +kernel
theorem dX1_readEnd_82 : decode cX1_readEnd 82 = .ok (.invokevirtual 77, 3) := by decide +kernel
theorem dX1_readEnd_85 : decode cX1_readEnd 85 = .ok (.invokevirtual 52, 3) := by decide +kernel
theorem dX1_readEnd_88 : decode cX1_readEnd 88 = .ok (.aload_n 0, 1) := by decide +kernel
theorem dX1_readEnd_89 : decode cX1_readEnd 89 = .ok (.iconst 2, 1) := by decide +kernel
theorem dX1_readEnd_90 : decode cX1_readEnd 90 = .ok (.bipush 6, 2) := by decide +kernel
theorem dX1_readEnd_92 : decode cX1_readEnd 92 = .ok (.invokevirtual 83, 3) := by decide +kernel
theorem dX1_readEnd_95 : decode cX1_readEnd 95 = .ok (.istore_n 2, 1) := by decide +kernel
theorem dX1_readEnd_96 : decode cX1_readEnd 96 = .ok (.aload_n 0, 1) := by decide +kernel
theorem dX1_readEnd_97 : decode cX1_readEnd 97 = .ok (.invokevirtual 128, 3) := by decide +kernel
theorem dX1_readEnd_100 : decode cX1_readEnd 100 = .ok (.istore_n 3, 1) := by decide +kernel
theorem dX1_readEnd_101 : decode cX1_readEnd 101 = .ok (.aload_n 0, 1) := by decide +kernel
theorem dX1_readEnd_102 : decode cX1_readEnd 102 = .ok (.invokevirtual 128, 3) := by decide +kernel
theorem dX1_readEnd_105 : decode cX1_readEnd 105 = .ok (.istore 4, 2) := by decide +kernel
theorem dX1_readEnd_107 : decode cX1_readEnd 107 = .ok (.aload_n 0, 1) := by decide +kernel
theorem dX1_readEnd_108 : decode cX1_readEnd 108 = .ok (.getfield 12, 3) := by decide +kernel
theorem dX1_readEnd_111 : decode cX1_readEnd 111 = .ok (.iload_n 1, 1) := by decide +kernel
theorem dX1_readEnd_112 : decode cX1_readEnd 112 = .ok (.iload_n 2, 1) := by decide +kernel
theorem dX1_readEnd_113 : decode cX1_readEnd 113 = .ok (.iload_n 3, 1) := by decide +kernel
theorem dX1_readEnd_114 : decode cX1_readEnd 114 = .ok (.iload 4, 2) := by decide +kernel
theorem dX1_readEnd_116 : decode cX1_readEnd 116 = .ok (.invokevirtual 131, 3) := by decide +kernel
theorem dX1_readEnd_119 : decode cX1_readEnd 119 = .ok (.return_, 1) := by decide +kernel
theorem dX1_readChoices_0 : decode cX1_readChoices 0 = .ok (.iconst 0, 1) := by decide +kernel
theorem dX1_readChoices_1 : decode cX1_readChoices 1 = .ok (.istore_n 2, 1) := by decide +kernel
theorem dX1_readChoices_2 : decode cX1_readChoices 2 = .ok (.iload_n 2, 1) := by decide +kernel
theorem dX1_readChoices_3 : decode cX1_readChoices 3 = .ok (.bipush 6, 2) := by decide +kernel
theorem dX1_readChoices_5 : decode cX1_readChoices 5 = .ok (.if_icmp .gt 97, 3) := by decide +kernel
theorem dX1_readChoices_8 : decode cX1_readChoices 8 = .ok (.aload_n 0, 1) := by decide +kernel
theorem dX1_readChoices_9 : decode cX1_readChoices 9 = .ok (.getfield 32, 3) := by decide +kernel
theorem dX1_readChoices_12 : decode cX1_readChoices 12 = .ok (.ifCond .ne 90, 3) := by decide +kernel
theorem dX1_readChoices_15 : decode cX1_readChoices 15 = .ok (.aload_n 0, 1) := by decide +kernel
theorem dX1_readChoices_16 : decode cX1_readChoices 16 = .ok (.getfield 12, 3) := by decide +kernel
theorem dX1_readChoices_19 : decode cX1_readChoices 19 = .ok (.getfield 121, 3) := by decide +kernel
theorem dX1_readChoices_22 : decode cX1_readChoices 22 = .ok (.iload_n 1, 1) := by decide +kernel
theorem dX1_readChoices_23 : decode cX1_readChoices 23 = .ok (.iaload, 1) := by decide +kernel
theorem dX1_readChoices_24 : decode cX1_readChoices 24 = .ok (.ifCond .ne 12, 3) := by decide +kernel
theorem dX1_readChoices_27 : decode cX1_readChoices 27 = .ok (.aload_n 0, 1) := by decide +kernel
theorem dX1_readChoices_28 : decode cX1_readChoices 28 = .ok (.ldc 135, 2) := by decide +kernel
theorem dX1_readChoices_30 : decode cX1_readChoices 30 = .ok (.invokevirtual 58, 3) := by decide +kernel
theorem dX1_readChoices_33 : decode cX1_readChoices 33 = .ok (.ifCond .ne 4, 3) := by decide +kernel
theorem dX1_readChoices_36 : decode cX1_readChoices 36 = .ok (.return_, 1) := by decide +kernel
theorem dX1_readChoices_37 : decode cX1_readChoices 37 = .ok (.iload_n 2, 1) := by decide +kernel
theorem dX1_readChoices_38 : decode cX1_readChoices 38 = .ok (.bipush 6, 2) := by decide +kernel
theorem dX1_readChoices_40 : decode cX1_readChoices 40 = .ok (.if_icmp .ne 13, 3) := by decide +kernel
theorem dX1_readChoices_43 : decode cX1_readChoices 43 = .ok (.aload_n 0, 1) := by decide +kernel
theorem dX1_readChoices_44 : decode cX1_readChoices 44 = .ok (.iconst 3, 1) := by decide +kernel
theorem dX1_readChoices_45 : decode cX1_readChoices 45 = .ok (.aload_n 0, 1) := by decide +kernel
theorem dX1_readChoices_46 : decode cX1_readChoices 46 = .ok (.getfield 29, 3) := by decide +kernel
theorem dX1_readChoices_49 : decode cX1_readChoices 49 = .ok (.invokevirtual 70, 3) := by decide +kernel
theorem dX1_readChoices_52 : decode cX1_readChoices 52 = .ok (.return_, 1) := by decide +kernel
theorem dX1_readChoices_53 : decode cX1_readChoices 53 = .ok (.aload_n 0, 1) := by decide +kernel
theorem dX1_readChoices_54 : decode cX1_readChoices 54 = .ok (.ldc 135, 2) := by decide +kernel
theorem dX1_readChoices_56 : decode cX1_readChoices 56 = .ok (.invokevirtual 77, 3) := by decide +kernel
theorem dX1_readChoices_59 : decode cX1_readChoices 59 = .ok (.invokevirtual 52, 3) := by decide +kernel
theorem dX1_readChoices_62 : decode cX1_readChoices 62 = .ok (.aload_n 0, 1) := by decide +kernel
theorem dX1_readChoices_63 : decode cX1_readChoices 63 = .ok (.invokevirtual 128, 3) := by decide +kernel
theorem dX1_readChoices_66 : decode cX1_readChoices 66 = .ok (.istore_n 3, 1) := by decide +kernel
theorem dX1_readChoices_67 : decode cX1_readChoices 67 = .ok (.aload_n 0, 1) := by decide +kernel
theorem dX1_readChoices_68 : decode cX1_readChoices 68 = .ok (.ldc 137, 2) := by decide +kernel
theorem dX1_readChoices_70 : decode cX1_readChoices 70 = .ok (.invokevirtual 139, 3) := by decide +kernel
theorem dX1_readChoices_73 : decode cX1_readChoices 73 = .ok (.istore 4, 2) := by decide +kernel
theorem dX1_readChoices_75 : decode cX1_readChoices 75 = .ok (.aload_n 0, 1) := by decide +kernel
theorem dX1_readChoices_76 : decode cX1_readChoices 76 = .ok (.ldc 143, 2) := by decide +kernel
theorem dX1_readChoices_78 : decode cX1_readChoices 78 = .ok (.invokevirtual 139, 3) := by decide +kernel
theorem dX1_readChoices_81 : decode cX1_readChoices 81 = .ok (.istore 5, 2) := by decide +kernel
theorem dX1_readChoices_83 : decode cX1_readChoices 83 = .ok (.aload_n 0, 1) := by decide +kernel
theorem dX1_readChoices_84 : decode cX1_readChoices 84 = .ok (.getfield 12, 3) := by decide +kernel
theorem dX1_readChoices_87 : decode cX1_readChoices 87 = .ok (.iload_n 1, 1) := by decide +kernel
theorem dX1_readChoices_88 : decode cX1_readChoices 88 = .ok (.iload_n 3, 1) := by decide +kernel
theorem dX1_readChoices_89 : decode cX1_readChoices 89 = .ok (.iload 4, 2) := by decide +kernel
theorem dX1_readChoices_91 : decode cX1_readChoices 91 = .ok (.iload 5, 2) := by decide +kernel
theorem dX1_readChoices_93 : decode cX1_readChoices 93 = .ok (.invokevirtual 145, 3) := by decide +kernel
theorem dX1_readChoices_96 : decode cX1_readChoices 96 = .ok (.iinc 2 1, 3) := by decide +kernel
theorem dX1_readChoices_99 : decode cX1_readChoices 99 = .ok (.goto (-97), 3) := by decide +kernel
theorem dX1_readChoices_102 : decode cX1_readChoices 102 = .ok (.return_, 1) := by decide +kernel
theorem dX1_readThingBehind_0 : decode cX1_readThingBehind 0 = .ok (.aload_n 0, 1) := by decide +kernel
theorem dX1_readThingBehind_1 : decode cX1_readThingBehind 1 = .ok (.getfield 32, 3) := by decide +kernel
theorem dX1_readThingBehind_4 : decode cX1_readThingBehind 4 = .ok (.ifCond .ne 11, 3) := by decide +kernel
theorem dX1_readThingBehind_7 : decode cX1_readThingBehind 7 = .ok (.aload_n 0, 1) := by decide +kernel
theorem dX1_readThingBehind_8 : decode cX1_readThingBehind 8 = .ok (.aload_n 1, 1) := by decide +kernel
theorem dX1_readThingBehind_9 : decode cX1_readThingBehind 9 = .ok (.invokevirtual 58, 3) := by decide +kernel
theorem dX1_readThingBehind_12 : decode cX1_readThingBehind 12 = .ok (.ifCond .ne 5, 3) := by decide +kernel
theorem dX1_readThingBehind_15 : decode cX1_readThingBehind 15 = .ok (.iconst (-1), 1) := by decide +kernel
theorem dX1_readThingBehind_16 : decode cX1_readThingBehind 16 = .ok (.ireturn, 1) := by decide +kernel
theorem dX1_readThingBehind_17 : decode cX1_readThingBehind 17 = .ok (.aload_n 0, 1) := by decide +kernel
theorem dX1_readThingBehind_18 : decode cX1_readThingBehind 18 = .ok (.aload_n 1, 1) := by decide +kernel
theorem dX1_readThingBehind_19 : decode cX1_readThingBehind 19 = .ok (.invokevirtual 77, 3) := by decide +kernel
theorem dX1_readThingBehind_22 : decode cX1_readThingBehind 22 = .ok (.invokevirtual 52, 3) := by decide +kernel
theorem dX1_readThingBehind_25 : decode cX1_readThingBehind 25 = .ok (.aload_n 0, 1) := by decide +kernel
theorem dX1_readThingBehind_26 : decode cX1_readThingBehind 26 = .ok (.iconst 0, 1) := by decide +kernel
theorem dX1_readThingBehind_27 : decode cX1_readThingBehind 27 = .ok (.bipush 7, 2) := by decide +kernel
theorem dX1_readThingBehind_29 : decode cX1_readThingBehind 29 = .ok (.invokevirtual 83, 3) := by decide +kernel
theorem dX1_readThingBehind_32 : decode cX1_readThingBehind 32 = .ok (.ireturn, 1) := by decide +kernel
theorem dX1_readTarget_0 : decode cX1_readTarget 0 = .ok (.aload_n 0, 1) := by decide +kernel
theorem dX1_readTarget_1 : decode cX1_readTarget 1 = .ok (.getfield 29, 3) := by decide +kernel
theorem dX1_readTarget_4 : decode cX1_readTarget 4 = .ok (.istore_n 1, 1) := by decide +kernel
theorem dX1_readTarget_5 : decode cX1_readTarget 5 = .ok (.aload_n 0, 1) := by decide +kernel
theorem dX1_readTarget_6 : decode cX1_readTarget 6 = .ok (.iconst 0, 1) := by decide +kernel
theorem dX1_readTarget_7 : decode cX1_readTarget 7 = .ok (.bipush 23, 2) := by decide +kernel
theorem dX1_readTarget_9 : decode cX1_readTarget 9 = .ok (.invokevirtual 83, 3) := by decide +kernel
theorem dX1_readTarget_12 : decode cX1_readTarget 12 = .ok (.istore_n 2, 1) := by decide +kernel
theorem dX1_readTarget_13 : decode cX1_readTarget 13 = .ok (.aload_n 0, 1) := by decide +kernel
theorem dX1_readTarget_14 : decode cX1_readTarget 14 = .ok (.getfield 32, 3) := by decide +kernel
theorem dX1_readTarget_17 : decode cX1_readTarget 17 = .ok (.ifCond .ne 45, 3) := by decide +kernel
theorem dX1_readTarget_20 : decode cX1_readTarget 20 = .ok (.aload_n 0, 1) := by decide +kernel
theorem dX1_readTarget_21 : decode cX1_readTarget 21 = .ok (.getfield 46, 3) := by decide +kernel
theorem dX1_readTarget_24 : decode cX1_readTarget 24 = .ok (.aload_n 0, 1) := by decide +kernel
theorem dX1_readTarget_25 : decode cX1_readTarget 25 = .ok (.getfield 39, 3) := by decide +kernel
theorem dX1_readTarget_28 : decode cX1_readTarget 28 = .ok (.arraylength, 1) := by decide +kernel
theorem dX1_readTarget_29 : decode cX1_readTarget 29 = .ok (.if_icmp .ge 33, 3) := by decide +kernel
theorem dX1_readTarget_32 : decode cX1_readTarget 32 = .ok (.aload_n 0, 1) := by decide +kernel
theorem dX1_readTarget_33 : decode cX1_readTarget 33 = .ok (.getfield 39, 3) := by decide +kernel
theorem dX1_readTarget_36 : decode cX1_readTarget 36 = .ok (.aload_n 0, 1) := by decide +kernel
theorem dX1_readTarget_37 : decode cX1_readTarget 37 = .ok (.getfield 46, 3) := by decide +kernel
theorem dX1_readTarget_40 : decode cX1_readTarget 40 = .ok (.iload_n 2, 1) := by decide +kernel
theorem dX1_readTarget_41 : decode cX1_readTarget 41 = .ok (.iastore, 1) := by decide +kernel
theorem dX1_readTarget_42 : decode cX1_readTarget 42 = .ok (.aload_n 0, 1) := by decide +kernel
theorem dX1_readTarget_43 : decode cX1_readTarget 43 = .ok (.getfield 43, 3) := by decide +kernel
theorem dX1_readTarget_46 : decode cX1_readTarget 46 = .ok (.aload_n 0, 1) := by decide +kernel
theorem dX1_readTarget_47 : decode cX1_readTarget 47 = .ok (.getfield 46, 3) := by decide +kernel
theorem dX1_readTarget_50 : decode cX1_readTarget 50 = .ok (.iload_n 1, 1) := by decide +kernel
theorem dX1_readTarget_51 : decode cX1_readTarget 51 = .ok (.iastore, 1) := by decide +kernel
theorem dX1_readTarget_52 : decode cX1_readTarget 52 = .ok (.aload_n 0, 1) := by decide +kernel
theorem dX1_readTarget_53 : decode cX1_readTarget 53 = .ok (.dup, 1) := by decide +kernel
theorem dX1_readTarget_54 : decode cX1_readTarget 54 = .ok (.getfield 46, 3) := by decide +kernel
theorem dX1_readTarget_57 : decode cX1_readTarget 57 = .ok (.iconst 1, 1) := by decide +kernel
theorem dX1_readTarget_58 : decode cX1_readTarget 58 = .ok (.iadd, 1) := by decide +kernel
theorem dX1_readTarget_59 : decode cX1_readTarget 59 = .ok (.putfield 46, 3) := by decide +kernel
theorem dX1_readTarget_62 : decode cX1_readTarget 62 = .ok (.iload_n 2, 1) := by decide +kernel
theorem dX1_readTarget_63 : decode cX1_readTarget 63 = .ok (.ireturn, 1) := by decide +kernel
theorem dX1_readNumber_0 : decode cX1_readNumber 0 = .ok (.aload_n 0, 1) := by decide +kernel
theorem dX1_readNumber_1 : decode cX1_readNumber 1 = .ok (.getfield 32, 3) := by decide +kernel
theorem dX1_readNumber_4 : decode cX1_readNumber 4 = .ok (.ifCond .eq 5, 3) := by decide +kernel
theorem dX1_readNumber_7 : decode cX1_readNumber 7 = .ok (.iload_n 1, 1) := by decide +kernel
theorem dX1_readNumber_8 : decode cX1_readNumber 8 = .ok (.ireturn, 1) := by decide +kernel
theorem dX1_readNumber_9 : decode cX1_readNumber 9 = .ok (.iconst 0, 1) := by decide +kernel
theorem dX1_readNumber_10 : decode cX1_readNumber 10 = .ok (.istore_n 3, 1) := by decide +kernel
theorem dX1_readNumber_11 : decode cX1_readNumber 11 = .ok (.iconst 0, 1) := by decide +kernel
theorem dX1_readNumber_12 : decode cX1_readNumber 12 = .ok (.istore 4, 2) := by decide +kernel
theorem dX1_readNumber_14 : decode cX1_readNumber 14 = .ok (.aload_n 0, 1) := by decide +kernel
theorem dX1_readNumber_15 : decode cX1_readNumber 15 = .ok (.getfield 29, 3) := by decide +kernel
theorem dX1_readNumber_18 : decode cX1_readNumber 18 = .ok (.istore 5, 2) := by decide +kernel
theorem dX1_readNumber_20 : decode cX1_readNumber 20 = .ok (.iload 5, 2) := by decide +kernel
theorem dX1_readNumber_22 : decode cX1_readNumber 22 = .ok (.aload_n 0, 1) := by decide +kernel
theorem dX1_readNumber_23 : decode cX1_readNumber 23 = .ok (.getfield 18, 3) := by decide +kernel
theorem dX1_readNumber_26 : decode cX1_readNumber 26 = .ok (.if_icmp .ge 59, 3) := by decide +kernel
theorem dX1_readNumber_29 : decode cX1_readNumber 29 = .ok (.aload_n 0, 1) := by decide +kernel
theorem dX1_readNumber_30 : decode cX1_readNumber 30 = .ok (.getfield 25, 3) := by decide +kernel
theorem dX1_readNumber_33 : decode cX1_readNumber 33 = .ok (.iload 5, 2) := by decide +kernel
theorem dX1_readNumber_35 : decode cX1_readNumber 35 = .ok (.baload, 1) := by decide +kernel
theorem dX1_readNumber_36 : decode cX1_readNumber 36 = .ok (.bipush 48, 2) := by decide +kernel
theorem dX1_readNumber_38 : decode cX1_readNumber 38 = .ok (.if_icmp .lt 47, 3) := by decide +kernel
theorem dX1_readNumber_41 : decode cX1_readNumber 41 = .ok (.aload_n 0, 1) := by decide +kernel
theorem dX1_readNumber_42 : decode cX1_readNumber 42 = .ok (.getfield 25, 3) := by decide +kernel
theorem dX1_readNumber_45 : decode cX1_readNumber 45 = .ok (.iload 5, 2) := by decide +kernel
theorem dX1_readNumber_47 : decode cX1_readNumber 47 = .ok (.baload, 1) := by decide +kernel
theorem dX1_readNumber_48 : decode cX1_readNumber 48 = .ok (.bipush 57, 2) := by decide +kernel
theorem dX1_readNumber_50 : decode cX1_readNumber 50 = .ok (.if_icmp .gt 35, 3) := by decide +kernel
theorem dX1_readNumber_53 : decode cX1_readNumber 53 = .ok (.iinc 3 1, 3) := by decide +kernel
theorem dX1_readNumber_56 : decode cX1_readNumber 56 = .ok (.iload_n 3, 1) := by decide +kernel
theorem dX1_readNumber_57 : decode cX1_readNumber 57 = .ok (.iconst 2, 1) := by decide +kernel
theorem dX1_readNumber_58 : decode cX1_readNumber 58 = .ok (.if_icmp .gt 21, 3) := by decide +kernel
theorem dX1_readNumber_61 : decode cX1_readNumber 61 = .ok (.iload 4, 2) := by decide +kernel
theorem dX1_readNumber_63 : decode cX1_readNumber 63 = .ok (.bipush 10, 2) := by decide +kernel
theorem dX1_readNumber_65 : decode cX1_readNumber 65 = .ok (.imul, 1) := by decide +kernel
theorem dX1_readNumber_66 : decode cX1_readNumber 66 = .ok (.aload_n 0, 1) := by decide +kernel
theorem dX1_readNumber_67 : decode cX1_readNumber 67 = .ok (.getfield 25, 3) := by decide +kernel
theorem dX1_readNumber_70 : decode cX1_readNumber 70 = .ok (.iload 5, 2) := by decide +kernel
theorem dX1_readNumber_72 : decode cX1_readNumber 72 = .ok (.baload, 1) := by decide +kernel
theorem dX1_readNumber_73 : decode cX1_readNumber 73 = .ok (.bipush 48, 2) := by decide +kernel
theorem dX1_readNumber_75 : decode cX1_readNumber 75 = .ok (.isub, 1) := by decide +kernel
theorem dX1_readNumber_76 : decode cX1_readNumber 76 = .ok (.iadd, 1) := by decide +kernel
theorem dX1_readNumber_77 : decode cX1_readNumber 77 = .ok (.istore 4, 2) := by decide +kernel
theorem dX1_readNumber_79 : decode cX1_readNumber 79 = .ok (.iinc 5 1, 3) := by decide +kernel
theorem dX1_readNumber_82 : decode cX1_readNumber 82 = .ok (.goto (-62), 3) := by decide +kernel
theorem dX1_readNumber_85 : decode cX1_readNumber 85 = .ok (.iload_n 3, 1) := by decide +kernel
theorem dX1_readNumber_86 : decode cX1_readNumber 86 = .ok (.ifCond .ne 14, 3) := by decide +kernel
theorem dX1_readNumber_89 : decode cX1_readNumber 89 = .ok (.aload_n 0, 1) := by decide +kernel
theorem dX1_readNumber_90 : decode cX1_readNumber 90 = .ok (.iconst 1, 1) := by decide +kernel
theorem dX1_readNumber_91 : decode cX1_readNumber 91 = .ok (.aload_n 0, 1) := by decide +kernel
theorem dX1_readNumber_92 : decode cX1_readNumber 92 = .ok (.getfield 29, 3) := by decide +kernel
theorem dX1_readNumber_95 : decode cX1_readNumber 95 = .ok (.invokevirtual 70, 3) := by decide +kernel
theorem dX1_readNumber_98 : decode cX1_readNumber 98 = .ok (.iload_n 1, 1) := by decide +kernel
theorem dX1_readNumber_99 : decode cX1_readNumber 99 = .ok (.ireturn, 1) := by decide +kernel
theorem dX1_readNumber_100 : decode cX1_readNumber 100 = .ok (.iload_n 3, 1) := by decide +kernel
theorem dX1_readNumber_101 : decode cX1_readNumber 101 = .ok (.iconst 2, 1) := by decide +kernel
theorem dX1_readNumber_102 : decode cX1_readNumber 102 = .ok (.if_icmp .gt 15, 3) := by decide +kernel
theorem dX1_readNumber_105 : decode cX1_readNumber 105 = .ok (.iload 4, 2) := by decide +kernel
theorem dX1_readNumber_107 : decode cX1_readNumber 107 = .ok (.iload_n 1, 1) := by decide +kernel
theorem dX1_readNumber_108 : decode cX1_readNumber 108 = .ok (.if_icmp .lt 9, 3) := by decide +kernel
theorem dX1_readNumber_111 : decode cX1_readNumber 111 = .ok (.iload 4, 2) := by decide +kernel
theorem dX1_readNumber_113 : decode cX1_readNumber 113 = .ok (.iload_n 2, 1) := by decide +kernel
theorem dX1_readNumber_114 : decode cX1_readNumber 114 = .ok (.if_icmp .le 14, 3) := by decide +kernel
theorem dX1_readNumber_117 : decode cX1_readNumber 117 = .ok (.aload_n 0, 1) := by decide +kernel
theorem dX1_readNumber_118 : decode cX1_readNumber 118 = .ok (.iconst 2, 1) := by decide +kernel
theorem dX1_readNumber_119 : decode cX1_readNumber 119 = .ok (.aload_n 0, 1) := by decide +kernel
theorem dX1_readNumber_120 : decode cX1_readNumber 120 = .ok (.getfield 29, 3) := by decide +kernel
theorem dX1_readNumber_123 : decode cX1_readNumber 123 = .ok (.invokevirtual 70, 3) := by decide +kernel
theorem dX1_readNumber_126 : decode cX1_readNumber 126 = .ok (.iload_n 1, 1) := by decide +kernel
theorem dX1_readNumber_127 : decode cX1_readNumber 127 = .ok (.ireturn, 1) := by decide +kernel
theorem dX1_readNumber_128 : decode cX1_readNumber 128 = .ok (.aload_n 0, 1) := by decide +kernel
theorem dX1_readNumber_129 : decode cX1_readNumber 129 = .ok (.iload_n 3, 1) := by decide +kernel
theorem dX1_readNumber_130 : decode cX1_readNumber 130 = .ok (.invokevirtual 52, 3) := by decide +kernel
theorem dX1_readNumber_133 : decode cX1_readNumber 133 = .ok (.iload 4, 2) := by decide +kernel
theorem dX1_readNumber_135 : decode cX1_readNumber 135 = .ok (.ireturn, 1) := by decide +kernel
theorem dX1_closeClause_0 : decode cX1_closeClause 0 = .ok (.aload_n 0, 1) := by decide +kernel
theorem dX1_closeClause_1 : decode cX1_closeClause 1 = .ok (.getfield 32, 3) := by decide +kernel
theorem dX1_closeClause_4 : decode cX1_closeClause 4 = .ok (.ifCond .eq 4, 3) := by decide +kernel
theorem dX1_closeClause_7 : decode cX1_closeClause 7 = .ok (.return_, 1) := by decide +kernel
theorem dX1_closeClause_8 : decode cX1_closeClause 8 = .ok (.aload_n 0, 1) := by decide +kernel
theorem dX1_closeClause_9 : decode cX1_closeClause 9 = .ok (.getfield 29, 3) := by decide +kernel
theorem dX1_closeClause_12 : decode cX1_closeClause 12 = .ok (.aload_n 0, 1) := by decide +kernel
theorem dX1_closeClause_13 : decode cX1_closeClause 13 = .ok (.getfield 18, 3) := by decide +kernel
theorem dX1_closeClause_16 : decode cX1_closeClause 16 = .ok (.if_icmp .ge 25, 3) := by decide +kernel
theorem dX1_closeClause_19 : decode cX1_closeClause 19 = .ok (.aload_n 0, 1) := by decide +kernel
theorem dX1_closeClause_20 : decode cX1_closeClause 20 = .ok (.getfield 25, 3) := by decide +kernel
theorem dX1_closeClause_23 : decode cX1_closeClause 23 = .ok (.aload_n 0, 1) := by decide +kernel
theorem dX1_closeClause_24 : decode cX1_closeClause 24 = .ok (.getfield 29, 3) := by decide +kernel
theorem dX1_closeClause_27 : decode cX1_closeClause 27 = .ok (.baload, 1) := by decide +kernel
theorem dX1_closeClause_28 : decode cX1_closeClause 28 = .ok (.bipush 59, 2) := by decide +kernel
theorem dX1_closeClause_30 : decode cX1_closeClause 30 = .ok (.if_icmp .ne 11, 3) := by decide +kernel
theorem dX1_closeClause_33 : decode cX1_closeClause 33 = .ok (.aload_n 0, 1) := by decide +kernel
theorem dX1_closeClause_34 : decode cX1_closeClause 34 = .ok (.iconst 1, 1) := by decide +kernel
theorem dX1_closeClause_35 : decode cX1_closeClause 35 = .ok (.invokevirtual 52, 3) := by decide +kernel
theorem dX1_closeClause_38 : decode cX1_closeClause 38 = .ok (.goto 12, 3) := by decide +kernel
theorem dX1_closeClause_41 : decode cX1_closeClause 41 = .ok (.aload_n 0, 1) := by decide +kernel
theorem dX1_closeClause_42 : decode cX1_closeClause 42 = .ok (.iconst 1, 1) := by decide +kernel
theorem dX1_closeClause_43 : decode cX1_closeClause 43 = .ok (.aload_n 0, 1) := by decide +kernel
theorem dX1_closeClause_44 : decode cX1_closeClause 44 = .ok (.getfield 29, 3) := by decide +kernel
theorem dX1_closeClause_47 : decode cX1_closeClause 47 = .ok (.invokevirtual 70, 3) := by decide +kernel
theorem dX1_closeClause_50 : decode cX1_closeClause 50 = .ok (.return_, 1) := by decide +kernel
theorem dX1_checkTargets_0 : decode cX1_checkTargets 0 = .ok (.iconst 0, 1) := by decide +kernel
theorem dX1_checkTargets_1 : decode cX1_checkTargets 1 = .ok (.istore_n 1, 1) := by decide +kernel
theorem dX1_checkTargets_2 : decode cX1_checkTargets 2 = .ok (.iload_n 1, 1) := by decide +kernel
theorem dX1_checkTargets_3 : decode cX1_checkTargets 3 = .ok (.aload_n 0, 1) := by decide +kernel
theorem dX1_checkTargets_4 : decode cX1_checkTargets 4 = .ok (.getfield 46, 3) := by decide +kernel
theorem dX1_checkTargets_7 : decode cX1_checkTargets 7 = .ok (.if_icmp .ge 43, 3) := by decide +kernel
theorem dX1_checkTargets_10 : decode cX1_checkTargets 10 = .ok (.aload_n 0, 1) := by decide +kernel
theorem dX1_checkTargets_11 : decode cX1_checkTargets 11 = .ok (.getfield 32, 3) := by decide +kernel
theorem dX1_checkTargets_14 : decode cX1_checkTargets 14 = .ok (.ifCond .ne 36, 3) := by decide +kernel
theorem dX1_checkTargets_17 : decode cX1_checkTargets 17 = .ok (.aload_n 0, 1) := by decide +kernel
theorem dX1_checkTargets_18 : decode cX1_checkTargets 18 = .ok (.getfield 12, 3) := by decide +kernel
theorem dX1_checkTargets_21 : decode cX1_checkTargets 21 = .ok (.aload_n 0, 1) := by decide +kernel
theorem dX1_checkTargets_22 : decode cX1_checkTargets 22 = .ok (.getfield 39, 3) := by decide +kernel
theorem dX1_checkTargets_25 : decode cX1_checkTargets 25 = .ok (.iload_n 1, 1) := by decide +kernel
theorem dX1_checkTargets_26 : decode cX1_checkTargets 26 = .ok (.iaload, 1) := by decide +kernel
theorem dX1_checkTargets_27 : decode cX1_checkTargets 27 = .ok (.invokevirtual 148, 3) := by decide +kernel
theorem dX1_checkTargets_30 : decode cX1_checkTargets 30 = .ok (.ifCond .ne 14, 3) := by decide +kernel
theorem dX1_checkTargets_33 : decode cX1_checkTargets 33 = .ok (.aload_n 0, 1) := by decide +kernel
theorem dX1_checkTargets_34 : decode cX1_checkTargets 34 = .ok (.iconst 4, 1) := by decide +kernel
theorem dX1_checkTargets_35 : decode cX1_checkTargets 35 = .ok (.aload_n 0, 1) := by decide +kernel
theorem dX1_checkTargets_36 : decode cX1_checkTargets 36 = .ok (.getfield 43, 3) := by decide +kernel
theorem dX1_checkTargets_39 : decode cX1_checkTargets 39 = .ok (.iload_n 1, 1) := by decide +kernel
theorem dX1_checkTargets_40 : decode cX1_checkTargets 40 = .ok (.iaload, 1) := by decide +kernel
theorem dX1_checkTargets_41 : decode cX1_checkTargets 41 = .ok (.invokevirtual 70, 3) := by decide +kernel
theorem dX1_checkTargets_44 : decode cX1_checkTargets 44 = .ok (.iinc 1 1, 3) := by decide +kernel
theorem dX1_checkTargets_47 : decode cX1_checkTargets 47 = .ok (.goto (-45), 3) := by decide +kernel
theorem dX1_checkTargets_50 : decode cX1_checkTargets 50 = .ok (.return_, 1) := by decide +kernel
theorem dX1_isWord_0 : decode cX1_isWord 0 = .ok (.iconst 0, 1) := by decide +kernel
theorem dX1_isWord_1 : decode cX1_isWord 1 = .ok (.istore_n 2, 1) := by decide +kernel
theorem dX1_isWord_2 : decode cX1_isWord 2 = .ok (.aload_n 0, 1) := by decide +kernel
theorem dX1_isWord_3 : decode cX1_isWord 3 = .ok (.getfield 29, 3) := by decide +kernel
theorem dX1_isWord_6 : decode cX1_isWord 6 = .ok (.istore_n 3, 1) := by decide +kernel
theorem dX1_isWord_7 : decode cX1_isWord 7 = .ok (.iload_n 3, 1) := by decide +kernel
theorem dX1_isWord_8 : decode cX1_isWord 8 = .ok (.aload_n 0, 1) := by decide +kernel
theorem dX1_isWord_9 : decode cX1_isWord 9 = .ok (.getfield 18, 3) := by decide +kernel
theorem dX1_isWord_12 : decode cX1_isWord 12 = .ok (.if_icmp .ge 34, 3) := by decide +kernel
theorem dX1_isWord_15 : decode cX1_isWord 15 = .ok (.aload_n 0, 1) := by decide +kernel
theorem dX1_isWord_16 : decode cX1_isWord 16 = .ok (.getfield 25, 3) := by decide +kernel
theorem dX1_isWord_19 : decode cX1_isWord 19 = .ok (.iload_n 3, 1) := by decide +kernel
theorem dX1_isWord_20 : decode cX1_isWord 20 = .ok (.baload, 1) := by decide +kernel
theorem dX1_isWord_21 : decode cX1_isWord 21 = .ok (.bipush 97, 2) := by decide +kernel
theorem dX1_isWord_23 : decode cX1_isWord 23 = .ok (.if_icmp .lt 23, 3) := by decide +kernel
theorem dX1_isWord_26 : decode cX1_isWord 26 = .ok (.aload_n 0, 1) := by decide +kernel
theorem dX1_isWord_27 : decode cX1_isWord 27 = .ok (.getfield 25, 3) := by decide +kernel
theorem dX1_isWord_30 : decode cX1_isWord 30 = .ok (.iload_n 3, 1) := by decide +kernel
theorem dX1_isWord_31 : decode cX1_isWord 31 = .ok (.baload, 1) := by decide +kernel
theorem dX1_isWord_32 : decode cX1_isWord 32 = .ok (.bipush 122, 2) := by decide +kernel
theorem dX1_isWord_34 : decode cX1_isWord 34 = .ok (.if_icmp .gt 12, 3) := by decide +kernel
theorem dX1_isWord_37 : decode cX1_isWord 37 = .ok (.iinc 2 1, 3) := by decide +kernel
theorem dX1_isWord_40 : decode cX1_isWord 40 = .ok (.iinc 3 1, 3) := by decide +kernel
theorem dX1_isWord_43 : decode cX1_isWord 43 = .ok (.goto (-36), 3) := by decide +kernel
theorem dX1_isWord_46 : decode cX1_isWord 46 = .ok (.iload_n 2, 1) := by decide +kernel
theorem dX1_isWord_47 : decode cX1_isWord 47 = .ok (.aload_n 1, 1) := by decide +kernel
theorem dX1_isWord_48 : decode cX1_isWord 48 = .ok (.invokevirtual 77, 3) := by decide +kernel
theorem dX1_isWord_51 : decode cX1_isWord 51 = .ok (.if_icmp .eq 5, 3) := by decide +kernel
theorem dX1_isWord_54 : decode cX1_isWord 54 = .ok (.iconst 0, 1) := by decide +kernel
theorem dX1_isWord_55 : decode cX1_isWord 55 = .ok (.ireturn, 1) := by decide +kernel
theorem dX1_isWord_56 : decode cX1_isWord 56 = .ok (.iconst 0, 1) := by decide +kernel
theorem dX1_isWord_57 : decode cX1_isWord 57 = .ok (.istore_n 3, 1) := by decide +kernel
theorem dX1_isWord_58 : decode cX1_isWord 58 = .ok (.iload_n 3, 1) := by decide +kernel
theorem dX1_isWord_59 : decode cX1_isWord 59 = .ok (.iload_n 2, 1) := by decide +kernel
theorem dX1_isWord_60 : decode cX1_isWord 60 = .ok (.if_icmp .ge 30, 3) := by decide +kernel
theorem dX1_isWord_63 : decode cX1_isWord 63 = .ok (.aload_n 0, 1) := by decide +kernel
theorem dX1_isWord_64 : decode cX1_isWord 64 = .ok (.getfield 25, 3) := by decide +kernel
theorem dX1_isWord_67 : decode cX1_isWord 67 = .ok (.aload_n 0, 1) := by decide +kernel
theorem dX1_isWord_68 : decode cX1_isWord 68 = .ok (.getfield 29, 3) := by decide +kernel
theorem dX1_isWord_71 : decode cX1_isWord 71 = .ok (.iload_n 3, 1) := by decide +kernel
theorem dX1_isWord_72 : decode cX1_isWord 72 = .ok (.iadd, 1) := by decide +kernel
theorem dX1_isWord_73 : decode cX1_isWord 73 = .ok (.baload, 1) := by decide +kernel
theorem dX1_isWord_74 : decode cX1_isWord 74 = .ok (.aload_n 1, 1) := by decide +kernel
theorem dX1_isWord_75 : decode cX1_isWord 75 = .ok (.iload_n 3, 1) := by decide +kernel
theorem dX1_isWord_76 : decode cX1_isWord 76 = .ok (.invokevirtual 152, 3) := by decide +kernel
theorem dX1_isWord_79 : decode cX1_isWord 79 = .ok (.if_icmp .eq 5, 3) := by decide +kernel
theorem dX1_isWord_82 : decode cX1_isWord 82 = .ok (.iconst 0, 1) := by decide +kernel
theorem dX1_isWord_83 : decode cX1_isWord 83 = .ok (.ireturn, 1) := by decide +kernel
theorem dX1_isWord_84 : decode cX1_isWord 84 = .ok (.iinc 3 1, 3) := by decide +kernel
theorem dX1_isWord_87 : decode cX1_isWord 87 = .ok (.goto (-29), 3) := by decide +kernel
theorem dX1_isWord_90 : decode cX1_isWord 90 = .ok (.iconst 1, 1) := by decide +kernel
theorem dX1_isWord_91 : decode cX1_isWord 91 = .ok (.ireturn, 1) := by decide +kernel
theorem dX1_pass_0 : decode cX1_pass 0 = .ok (.aload_n 0, 1) := by decide +kernel
theorem dX1_pass_1 : decode cX1_pass 1 = .ok (.dup, 1) := by decide +kernel
theorem dX1_pass_2 : decode cX1_pass 2 = .ok (.getfield 29, 3) := by decide +kernel
theorem dX1_pass_5 : decode cX1_pass 5 = .ok (.iload_n 1, 1) := by decide +kernel
theorem dX1_pass_6 : decode cX1_pass 6 = .ok (.iadd, 1) := by decide +kernel
theorem dX1_pass_7 : decode cX1_pass 7 = .ok (.putfield 29, 3) := by decide +kernel
theorem dX1_pass_10 : decode cX1_pass 10 = .ok (.aload_n 0, 1) := by decide +kernel
theorem dX1_pass_11 : decode cX1_pass 11 = .ok (.getfield 29, 3) := by decide +kernel
theorem dX1_pass_14 : decode cX1_pass 14 = .ok (.istore_n 2, 1) := by decide +kernel
theorem dX1_pass_15 : decode cX1_pass 15 = .ok (.iload_n 2, 1) := by decide +kernel
theorem dX1_pass_16 : decode cX1_pass 16 = .ok (.aload_n 0, 1) := by decide +kernel
theorem dX1_pass_17 : decode cX1_pass 17 = .ok (.getfield 18, 3) := by decide +kernel
theorem dX1_pass_20 : decode cX1_pass 20 = .ok (.if_icmp .ge 30, 3) := by decide +kernel
theorem dX1_pass_23 : decode cX1_pass 23 = .ok (.aload_n 0, 1) := by decide +kernel
theorem dX1_pass_24 : decode cX1_pass 24 = .ok (.getfield 25, 3) := by decide +kernel
theorem dX1_pass_27 : decode cX1_pass 27 = .ok (.iload_n 2, 1) := by decide +kernel
theorem dX1_pass_28 : decode cX1_pass 28 = .ok (.baload, 1) := by decide +kernel
theorem dX1_pass_29 : decode cX1_pass 29 = .ok (.bipush 32, 2) := by decide +kernel
theorem dX1_pass_31 : decode cX1_pass 31 = .ok (.if_icmp .ne 19, 3) := by decide +kernel
theorem dX1_pass_34 : decode cX1_pass 34 = .ok (.aload_n 0, 1) := by decide +kernel
theorem dX1_pass_35 : decode cX1_pass 35 = .ok (.dup, 1) := by decide +kernel
theorem dX1_pass_36 : decode cX1_pass 36 = .ok (.getfield 29, 3) := by decide +kernel
theorem dX1_pass_39 : decode cX1_pass 39 = .ok (.iconst 1, 1) := by decide +kernel
theorem dX1_pass_40 : decode cX1_pass 40 = .ok (.iadd, 1) := by decide +kernel
theorem dX1_pass_41 : decode cX1_pass 41 = .ok (.putfield 29, 3) := by decide +kernel
theorem dX1_pass_44 : decode cX1_pass 44 = .ok (.iinc 2 1, 3) := by decide +kernel
theorem dX1_pass_47 : decode cX1_pass 47 = .ok (.goto (-32), 3) := by decide +kernel
theorem dX1_pass_50 : decode cX1_pass 50 = .ok (.return_, 1) := by decide +kernel
theorem dX1_fail_0 : decode cX1_fail 0 = .ok (.aload_n 0, 1) := by decide +kernel
theorem dX1_fail_1 : decode cX1_fail 1 = .ok (.getfield 32, 3) := by decide +kernel
theorem dX1_fail_4 : decode cX1_fail 4 = .ok (.ifCond .ne 13, 3) := by decide +kernel
theorem dX1_fail_7 : decode cX1_fail 7 = .ok (.aload_n 0, 1) := by decide +kernel
theorem dX1_fail_8 : decode cX1_fail 8 = .ok (.iload_n 1, 1) := by decide +kernel
theorem dX1_fail_9 : decode cX1_fail 9 = .ok (.putfield 32, 3) := by decide +kernel
theorem dX1_fail_12 : decode cX1_fail 12 = .ok (.aload_n 0, 1) := by decide +kernel
theorem dX1_fail_13 : decode cX1_fail 13 = .ok (.iload_n 2, 1) := by decide +kernel
theorem dX1_fail_14 : decode cX1_fail 14 = .ok (.putfield 22, 3) := by decide +kernel
theorem dX1_fail_17 : decode cX1_fail 17 = .ok (.return_, 1) := by decide +kernel
theorem dX2_init_0 : decode cX2_init 0 = .ok (.aload_n 0, 1) := by decide +kernel
theorem dX2_init_1 : decode cX2_init 1 = .ok (.invokespecial 3, 3) := by decide +kernel
theorem dX2_init_4 : decode cX2_init 4 = .ok (.aload_n 0, 1) := by decide +kernel
theorem dX2_init_5 : decode cX2_init 5 = .ok (.bipush 24, 2) := by decide +kernel
theorem dX2_init_7 : decode cX2_init 7 = .ok (.newarray .int, 2) := by decide +kernel
theorem dX2_init_9 : decode cX2_init 9 = .ok (.putfield 9, 3) := by decide +kernel
theorem dX2_init_12 : decode cX2_init 12 = .ok (.aload_n 0, 1) := by decide +kernel
theorem dX2_init_13 : decode cX2_init 13 = .ok (.iconst 0, 1) := by decide +kernel
theorem dX2_init_14 : decode cX2_init 14 = .ok (.putfield 15, 3) := by decide +kernel
theorem dX2_init_17 : decode cX2_init 17 = .ok (.aload_n 0, 1) := by decide +kernel
theorem dX2_init_18 : decode cX2_init 18 = .ok (.iconst 0, 1) := by decide +kernel
theorem dX2_init_19 : decode cX2_init 19 = .ok (.putfield 19, 3) := by decide +kernel
theorem dX2_init_22 : decode cX2_init 22 = .ok (.aload_n 0, 1) := by decide +kernel
theorem dX2_init_23 : decode cX2_init 23 = .ok (.iconst 0, 1) := by decide +kernel
theorem dX2_init_24 : decode cX2_init 24 = .ok (.putfield 23, 3) := by decide +kernel
theorem dX2_init_27 : decode cX2_init 27 = .ok (.aload_n 0, 1) := by decide +kernel
theorem dX2_init_28 : decode cX2_init 28 = .ok (.iconst 0, 1) := by decide +kernel
theorem dX2_init_29 : decode cX2_init 29 = .ok (.putfield 26, 3) := by decide +kernel
theorem dX2_init_32 : decode cX2_init 32 = .ok (.aload_n 0, 1) := by decide +kernel
theorem dX2_init_33 : decode cX2_init 33 = .ok (.iconst 0, 1) := by decide +kernel
theorem dX2_init_34 : decode cX2_init 34 = .ok (.putfield 29, 3) := by decide +kernel
theorem dX2_init_37 : decode cX2_init 37 = .ok (.aload_n 0, 1) := by decide +kernel
theorem dX2_init_38 : decode cX2_init 38 = .ok (.sipush 576, 3) := by decide +kernel
theorem dX2_init_41 : decode cX2_init 41 = .ok (.newarray .int, 2) := by decide +kernel
theorem dX2_init_43 : decode cX2_init 43 = .ok (.putfield 32, 3) := by decide +kernel
theorem dX2_init_46 : decode cX2_init 46 = .ok (.aload_n 0, 1) := by decide +kernel
theorem dX2_init_47 : decode cX2_init 47 = .ok (.bipush 24, 2) := by decide +kernel
theorem dX2_init_49 : decode cX2_init 49 = .ok (.newarray .int, 2) := by decide +kernel
theorem dX2_init_51 : decode cX2_init 51 = .ok (.putfield 35, 3) := by decide +kernel
theorem dX2_init_54 : decode cX2_init 54 = .ok (.aload_n 0, 1) := by decide +kernel
theorem dX2_init_55 : decode cX2_init 55 = .ok (.aload_n 1, 1) := by decide +kernel
theorem dX2_init_56 : decode cX2_init 56 = .ok (.putfield 38, 3) := by decide +kernel
theorem dX2_init_59 : decode cX2_init 59 = .ok (.iconst 0, 1) := by decide +kernel
theorem dX2_init_60 : decode cX2_init 60 = .ok (.istore_n 2, 1) := by decide +kernel
theorem dX2_init_61 : decode cX2_init 61 = .ok (.iload_n 2, 1) := by decide +kernel
theorem dX2_init_62 : decode cX2_init 62 = .ok (.bipush 24, 2) := by decide +kernel
theorem dX2_init_64 : decode cX2_init 64 = .ok (.if_icmp .ge 18, 3) := by decide +kernel
theorem dX2_init_67 : decode cX2_init 67 = .ok (.aload_n 0, 1) := by decide +kernel
theorem dX2_init_68 : decode cX2_init 68 = .ok (.getfield 9, 3) := by decide +kernel
theorem dX2_init_71 : decode cX2_init 71 = .ok (.iload_n 2, 1) := by decide +kernel
theorem dX2_init_72 : decode cX2_init 72 = .ok (.iload_n 2, 1) := by decide +kernel
theorem dX2_init_73 : decode cX2_init 73 = .ok (.iconst 1, 1) := by decide +kernel
theorem dX2_init_74 : decode cX2_init 74 = .ok (.iadd, 1) := by decide +kernel
theorem dX2_init_75 : decode cX2_init 75 = .ok (.iastore, 1) := by decide +kernel
theorem dX2_init_76 : decode cX2_init 76 = .ok (.iinc 2 1, 3) := by decide +kernel
theorem dX2_init_79 : decode cX2_init 79 = .ok (.goto (-18), 3) := by decide +kernel
theorem dX2_init_82 : decode cX2_init 82 = .ok (.return_, 1) := by decide +kernel
theorem dX2_copyFrom_0 : decode cX2_copyFrom 0 = .ok (.aload_n 0, 1) := by decide +kernel
theorem dX2_copyFrom_1 : decode cX2_copyFrom 1 = .ok (.getfield 38, 3) := by decide +kernel
theorem dX2_copyFrom_4 : decode cX2_copyFrom 4 = .ok (.aload_n 1, 1) := by decide +kernel
theorem dX2_copyFrom_5 : decode cX2_copyFrom 5 = .ok (.getfield 38, 3) := by decide +kernel
theorem dX2_copyFrom_8 : decode cX2_copyFrom 8 = .ok (.invokevirtual 42, 3) := by decide +kernel
theorem dX2_copyFrom_11 : decode cX2_copyFrom 11 = .ok (.aload_n 1, 1) := by decide +kernel
theorem dX2_copyFrom_12 : decode cX2_copyFrom 12 = .ok (.getfield 9, 3) := by decide +kernel
theorem dX2_copyFrom_15 : decode cX2_copyFrom 15 = .ok (.iconst 0, 1) := by decide +kernel
theorem dX2_copyFrom_16 : decode cX2_copyFrom 16 = .ok (.aload_n 0, 1) := by decide +kernel
theorem dX2_copyFrom_17 : decode cX2_copyFrom 17 = .ok (.getfield 9, 3) := by decide +kernel
theorem dX2_copyFrom_20 : decode cX2_copyFrom 20 = .ok (.iconst 0, 1) := by decide +kernel
theorem dX2_copyFrom_21 : decode cX2_copyFrom 21 = .ok (.bipush 24, 2) := by decide +kernel
theorem dX2_copyFrom_23 : decode cX2_copyFrom 23 = .ok (.invokestatic 48, 3) := by decide +kernel
theorem dX2_copyFrom_26 : decode cX2_copyFrom 26 = .ok (.aload_n 0, 1) := by decide +kernel
theorem dX2_copyFrom_27 : decode cX2_copyFrom 27 = .ok (.aload_n 1, 1) := by decide +kernel
theorem dX2_copyFrom_28 : decode cX2_copyFrom 28 = .ok (.getfield 15, 3) := by decide +kernel
theorem dX2_copyFrom_31 : decode cX2_copyFrom 31 = .ok (.putfield 15, 3) := by decide +kernel
theorem dX2_copyFrom_34 : decode cX2_copyFrom 34 = .ok (.aload_n 0, 1) := by decide +kernel
theorem dX2_copyFrom_35 : decode cX2_copyFrom 35 = .ok (.aload_n 1, 1) := by decide +kernel
theorem dX2_copyFrom_36 : decode cX2_copyFrom 36 = .ok (.getfield 19, 3) := by decide +kernel
theorem dX2_copyFrom_39 : decode cX2_copyFrom 39 = .ok (.putfield 19, 3) := by decide +kernel
theorem dX2_copyFrom_42 : decode cX2_copyFrom 42 = .ok (.aload_n 0, 1) := by decide +kernel
theorem dX2_copyFrom_43 : decode cX2_copyFrom 43 = .ok (.aload_n 1, 1) := by decide +kernel
theorem dX2_copyFrom_44 : decode cX2_copyFrom 44 = .ok (.getfield 23, 3) := by decide +kernel
theorem dX2_copyFrom_47 : decode cX2_copyFrom 47 = .ok (.putfield 23, 3) := by decide +kernel
theorem dX2_copyFrom_50 : decode cX2_copyFrom 50 = .ok (.aload_n 0, 1) := by decide +kernel
theorem dX2_copyFrom_51 : decode cX2_copyFrom 51 = .ok (.aload_n 1, 1) := by decide +kernel
theorem dX2_copyFrom_52 : decode cX2_copyFrom 52 = .ok (.getfield 26, 3) := by decide +kernel
theorem dX2_copyFrom_55 : decode cX2_copyFrom 55 = .ok (.putfield 26, 3) := by decide +kernel
theorem dX2_copyFrom_58 : decode cX2_copyFrom 58 = .ok (.aload_n 1, 1) := by decide +kernel
theorem dX2_copyFrom_59 : decode cX2_copyFrom 59 = .ok (.getfield 32, 3) := by decide +kernel
theorem dX2_copyFrom_62 : decode cX2_copyFrom 62 = .ok (.iconst 0, 1) := by decide +kernel
theorem dX2_copyFrom_63 : decode cX2_copyFrom 63 = .ok (.aload_n 0, 1) := by decide +kernel
theorem dX2_copyFrom_64 : decode cX2_copyFrom 64 = .ok (.getfield 32, 3) := by decide +kernel
theorem dX2_copyFrom_67 : decode cX2_copyFrom 67 = .ok (.iconst 0, 1) := by decide +kernel
theorem dX2_copyFrom_68 : decode cX2_copyFrom 68 = .ok (.sipush 576, 3) := by decide +kernel
theorem dX2_copyFrom_71 : decode cX2_copyFrom 71 = .ok (.invokestatic 48, 3) := by decide +kernel
theorem dX2_copyFrom_74 : decode cX2_copyFrom 74 = .ok (.return_, 1) := by decide +kernel
theorem dX2_openBook_0 : decode cX2_openBook 0 = .ok (.aload_n 0, 1) := by decide +kernel
theorem dX2_openBook_1 : decode cX2_openBook 1 = .ok (.getfield 38, 3) := by decide +kernel
theorem dX2_openBook_4 : decode cX2_openBook 4 = .ok (.aload_n 1, 1) := by decide +kernel
theorem dX2_openBook_5 : decode cX2_openBook 5 = .ok (.invokevirtual 42, 3) := by decide +kernel
theorem dX2_openBook_8 : decode cX2_openBook 8 = .ok (.aload_n 0, 1) := by decide +kernel
theorem dX2_openBook_9 : decode cX2_openBook 9 = .ok (.iconst 0, 1) := by decide +kernel
theorem dX2_openBook_10 : decode cX2_openBook 10 = .ok (.putfield 19, 3) := by decide +kernel
theorem dX2_openBook_13 : decode cX2_openBook 13 = .ok (.iconst 0, 1) := by decide +kernel
theorem dX2_openBook_14 : decode cX2_openBook 14 = .ok (.istore_n 2, 1) := by decide +kernel
theorem dX2_openBook_15 : decode cX2_openBook 15 = .ok (.iload_n 2, 1) := by decide +kernel
theorem dX2_openBook_16 : decode cX2_openBook 16 = .ok (.bipush 24, 2) := by decide +kernel
theorem dX2_openBook_18 : decode cX2_openBook 18 = .ok (.if_icmp .ge 18, 3) := by decide +kernel
theorem dX2_openBook_21 : decode cX2_openBook 21 = .ok (.aload_n 0, 1) := by decide +kernel
theorem dX2_openBook_22 : decode cX2_openBook 22 = .ok (.getfield 9, 3) := by decide +kernel
theorem dX2_openBook_25 : decode cX2_openBook 25 = .ok (.iload_n 2, 1) := by decide +kernel
theorem dX2_openBook_26 : decode cX2_openBook 26 = .ok (.iload_n 2, 1) := by decide +kernel
theorem dX2_openBook_27 : decode cX2_openBook 27 = .ok (.iconst 1, 1) := by decide +kernel
theorem dX2_openBook_28 : decode cX2_openBook 28 = .ok (.iadd, 1) := by decide +kernel
theorem dX2_openBook_29 : decode cX2_openBook 29 = .ok (.iastore, 1) := by decide +kernel
theorem dX2_openBook_30 : decode cX2_openBook 30 = .ok (.iinc 2 1, 3) := by decide +kernel
theorem dX2_openBook_33 : decode cX2_openBook 33 = .ok (.goto (-18), 3) := by decide +kernel
theorem dX2_openBook_36 : decode cX2_openBook 36 = .ok (.return_, 1) := by decide +kernel
theorem dX2_beginReading_0 : decode cX2_beginReading 0 = .ok (.aload_n 0, 1) := by decide +kernel
theorem dX2_beginReading_1 : decode cX2_beginReading 1 = .ok (.iconst 1, 1) := by decide +kernel
theorem dX2_beginReading_2 : decode cX2_beginReading 2 = .ok (.putfield 19, 3) := by decide +kernel
theorem dX2_beginReading_5 : decode cX2_beginReading 5 = .ok (.aload_n 0, 1) := by decide +kernel
theorem dX2_beginReading_6 : decode cX2_beginReading 6 = .ok (.iconst 0, 1) := by decide +kernel
theorem dX2_beginReading_7 : decode cX2_beginReading 7 = .ok (.putfield 26, 3) := by decide +kernel
theorem dX2_beginReading_10 : decode cX2_beginReading 10 = .ok (.aload_n 0, 1) := by decide +kernel
theorem dX2_beginReading_11 : decode cX2_beginReading 11 = .ok (.getfield 32, 3) := by decide +kernel
theorem dX2_beginReading_14 : decode cX2_beginReading 14 = .ok (.iconst 0, 1) := by decide +kernel
theorem dX2_beginReading_15 : decode cX2_beginReading 15 = .ok (.invokestatic 54, 3) := by decide +kernel
theorem dX2_beginReading_18 : decode cX2_beginReading 18 = .ok (.aload_n 0, 1) := by decide +kernel
theorem dX2_beginReading_19 : decode cX2_beginReading 19 = .ok (.aload_n 0, 1) := by decide +kernel
theorem dX2_beginReading_20 : decode cX2_beginReading 20 = .ok (.getfield 38, 3) := by decide +kernel
theorem dX2_beginReading_23 : decode cX2_beginReading 23 = .ok (.iconst (-1), 1) := by decide +kernel
theorem dX2_beginReading_24 : decode cX2_beginReading 24 = .ok (.invokevirtual 60, 3) := by decide +kernel
theorem dX2_beginReading_27 : decode cX2_beginReading 27 = .ok (.putfield 23, 3) := by decide +kernel
theorem dX2_beginReading_30 : decode cX2_beginReading 30 = .ok (.return_, 1) := by decide +kernel
theorem dX2_turnTo_0 : decode cX2_turnTo 0 = .ok (.aload_n 0, 1) := by decide +kernel
theorem dX2_turnTo_1 : decode cX2_turnTo 1 = .ok (.getfield 23, 3) := by decide +kernel
theorem dX2_turnTo_4 : decode cX2_turnTo 4 = .ok (.invokestatic 64, 3) := by decide +kernel
theorem dX2_turnTo_7 : decode cX2_turnTo 7 = .ok (.istore_n 2, 1) := by decide +kernel
theorem dX2_turnTo_8 : decode cX2_turnTo 8 = .ok (.aload_n 0, 1) := by decide +kernel
theorem dX2_turnTo_9 : decode cX2_turnTo 9 = .ok (.getfield 38, 3) := by decide +kernel
theorem dX2_turnTo_12 : decode cX2_turnTo 12 = .ok (.iload_n 2, 1) := by decide +kernel
theorem dX2_turnTo_13 : decode cX2_turnTo 13 = .ok (.invokevirtual 69, 3) := by decide +kernel
theorem dX2_turnTo_16 : decode cX2_turnTo 16 = .ok (.ifCond .eq 14, 3) := by decide +kernel
theorem dX2_turnTo_19 : decode cX2_turnTo 19 = .ok (.aload_n 0, 1) := by decide +kernel
theorem dX2_turnTo_20 : decode cX2_turnTo 20 = .ok (.getfield 38, 3) := by decide +kernel
theorem dX2_turnTo_23 : decode cX2_turnTo 23 = .ok (.iload_n 1, 1) := by decide +kernel
theorem dX2_turnTo_24 : decode cX2_turnTo 24 = .ok (.invokevirtual 69, 3) := by decide +kernel
theorem dX2_turnTo_27 : decode cX2_turnTo 27 = .ok (.ifCond .ne 4, 3) := by decide +kernel
theorem dX2_turnTo_30 : decode cX2_turnTo 30 = .ok (.return_, 1) := by decide +kernel
theorem dX2_turnTo_31 : decode cX2_turnTo 31 = .ok (.aload_n 0, 1) := by decide +kernel
theorem dX2_turnTo_32 : decode cX2_turnTo 32 = .ok (.getfield 32, 3) := by decide +kernel
theorem dX2_turnTo_35 : decode cX2_turnTo 35 = .ok (.iload_n 2, 1) := by decide +kernel
theorem dX2_turnTo_36 : decode cX2_turnTo 36 = .ok (.bipush 24, 2) := by decide +kernel
theorem dX2_turnTo_38 : decode cX2_turnTo 38 = .ok (.imul, 1) := by decide +kernel
theorem dX2_turnTo_39 : decode cX2_turnTo 39 = .ok (.iload_n 1, 1) := by decide +kernel
theorem dX2_turnTo_40 : decode cX2_turnTo 40 = .ok (.iadd, 1) := by decide +kernel
theorem dX2_turnTo_41 : decode cX2_turnTo 41 = .ok (.dup2, 1) := by decide +kernel
theorem dX2_turnTo_42 : decode cX2_turnTo 42 = .ok (.iaload, 1) := by decide +kernel
theorem dX2_turnTo_43 : decode cX2_turnTo 43 = .ok (.iconst 1, 1) := by decide +kernel
theorem dX2_turnTo_44 : decode cX2_turnTo 44 = .ok (.iadd, 1) := by decide +kernel
theorem dX2_turnTo_45 : decode cX2_turnTo 45 = .ok (.iastore, 1) := by decide +kernel
theorem dX2_turnTo_46 : decode cX2_turnTo 46 = .ok (.aload_n 0, 1) := by decide +kernel
theorem dX2_turnTo_47 : decode cX2_turnTo 47 = .ok (.dup, 1) := by decide +kernel
theorem dX2_turnTo_48 : decode cX2_turnTo 48 = .ok (.getfield 26, 3) := by decide +kernel
theorem dX2_turnTo_51 : decode cX2_turnTo 51 = .ok (.iconst 1, 1) := by decide +kernel
theorem dX2_turnTo_52 : decode cX2_turnTo 52 = .ok (.iadd, 1) := by decide +kernel
theorem dX2_turnTo_53 : decode cX2_turnTo 53 = .ok (.putfield 26, 3) := by decide +kernel
theorem dX2_turnTo_56 : decode cX2_turnTo 56 = .ok (.aload_n 0, 1) := by decide +kernel
theorem dX2_turnTo_57 : decode cX2_turnTo 57 = .ok (.aload_n 0, 1) := by decide +kernel
theorem dX2_turnTo_58 : decode cX2_turnTo 58 = .ok (.getfield 38, 3) := by decide +kernel
theorem dX2_turnTo_61 : decode cX2_turnTo 61 = .ok (.aload_n 0, 1) := by decide +kernel
theorem dX2_turnTo_62 : decode cX2_turnTo 62 = .ok (.getfield 23, 3) := by decide +kernel
theorem dX2_turnTo_65 : decode cX2_turnTo 65 = .ok (.iload_n 1, 1) := by decide +kernel
theorem dX2_turnTo_66 : decode cX2_turnTo 66 = .ok (.iconst (-1), 1) := by decide +kernel
theorem dX2_turnTo_67 : decode cX2_turnTo 67 = .ok (.invokevirtual 73, 3) := by decide +kernel
theorem dX2_turnTo_70 : decode cX2_turnTo 70 = .ok (.putfield 23, 3) := by decide +kernel
theorem dX2_turnTo_73 : decode cX2_turnTo 73 = .ok (.return_, 1) := by decide +kernel
theorem dX2_standing_0 : decode cX2_standing 0 = .ok (.aload_n 0, 1) := by decide +kernel
theorem dX2_standing_1 : decode cX2_standing 1 = .ok (.getfield 38, 3) := by decide +kernel
theorem dX2_standing_4 : decode cX2_standing 4 = .ok (.aload_n 0, 1) := by decide +kernel
theorem dX2_standing_5 : decode cX2_standing 5 = .ok (.getfield 23, 3) := by decide +kernel
theorem dX2_standing_8 : decode cX2_standing 8 = .ok (.invokevirtual 77, 3) := by decide +kernel
theorem dX2_standing_11 : decode cX2_standing 11 = .ok (.ireturn, 1) := by decide +kernel
theorem dX2_draw_0 : decode cX2_draw 0 = .ok (.aload_n 0, 1) := by decide +kernel
theorem dX2_draw_1 : decode cX2_draw 1 = .ok (.aload_n 0, 1) := by decide +kernel
theorem dX2_draw_2 : decode cX2_draw 2 = .ok (.getfield 15, 3) := by decide +kernel
theorem dX2_draw_5 : decode cX2_draw 5 = .ok (.i2l, 1) := by decide +kernel
theorem dX2_draw_6 : decode cX2_draw 6 = .ok (.ldc2_w 80, 3) := by decide +kernel
theorem dX2_draw_9 : decode cX2_draw 9 = .ok (.lmul, 1) := by decide +kernel
theorem dX2_draw_10 : decode cX2_draw 10 = .ok (.ldc2_w 82, 3) := by decide +kernel
theorem dX2_draw_13 : decode cX2_draw 13 = .ok (.ladd, 1) := by decide +kernel
theorem dX2_draw_14 : decode cX2_draw 14 = .ok (.ldc2_w 84, 3) := by decide +kernel
theorem dX2_draw_17 : decode cX2_draw 17 = .ok (.land, 1) := by decide +kernel
theorem dX2_draw_18 : decode cX2_draw 18 = .ok (.l2i, 1) := by decide +kernel
theorem dX2_draw_19 : decode cX2_draw 19 = .ok (.putfield 15, 3) := by decide +kernel
theorem dX2_draw_22 : decode cX2_draw 22 = .ok (.iload_n 1, 1) := by decide +kernel
theorem dX2_draw_23 : decode cX2_draw 23 = .ok (.ifCond .le 15, 3) := by decide +kernel
theorem dX2_draw_26 : decode cX2_draw 26 = .ok (.aload_n 0, 1) := by decide +kernel
theorem dX2_draw_27 : decode cX2_draw 27 = .ok (.getfield 15, 3) := by decide +kernel
theorem dX2_draw_30 : decode cX2_draw 30 = .ok (.ldc 86, 2) := by decide +kernel
theorem dX2_draw_32 : decode cX2_draw 32 = .ok (.idiv, 1) := by decide +kernel
theorem dX2_draw_33 : decode cX2_draw 33 = .ok (.iload_n 1, 1) := by decide +kernel
theorem dX2_draw_34 : decode cX2_draw 34 = .ok (.irem, 1) := by decide +kernel
theorem dX2_draw_35 : decode cX2_draw 35 = .ok (.goto 4, 3) := by decide +kernel
theorem dX2_draw_38 : decode cX2_draw 38 = .ok (.iconst 0, 1) := by decide +kernel
theorem dX2_draw_39 : decode cX2_draw 39 = .ok (.ireturn, 1) := by decide +kernel
theorem dX2_layPages_0 : decode cX2_layPages 0 = .ok (.iconst 0, 1) := by decide +kernel
theorem dX2_layPages_1 : decode cX2_layPages 1 = .ok (.istore_n 3, 1) := by decide +kernel
theorem dX2_layPages_2 : decode cX2_layPages 2 = .ok (.iload_n 3, 1) := by decide +kernel
theorem dX2_layPages_3 : decode cX2_layPages 3 = .ok (.aload_n 0, 1) := by decide +kernel
theorem dX2_layPages_4 : decode cX2_layPages 4 = .ok (.getfield 38, 3) := by decide +kernel
theorem dX2_layPages_7 : decode cX2_layPages 7 = .ok (.getfield 87, 3) := by decide +kernel
theorem dX2_layPages_10 : decode cX2_layPages 10 = .ok (.if_icmp .ge 45, 3) := by decide +kernel
theorem dX2_layPages_13 : decode cX2_layPages 13 = .ok (.iload_n 3, 1) := by decide +kernel
theorem dX2_layPages_14 : decode cX2_layPages 14 = .ok (.bipush 24, 2) := by decide +kernel
theorem dX2_layPages_16 : decode cX2_layPages 16 = .ok (.if_icmp .ge 39, 3) := by decide +kernel
theorem dX2_layPages_19 : decode cX2_layPages 19 = .ok (.aload_n 0, 1) := by decide +kernel
theorem dX2_layPages_20 : decode cX2_layPages 20 = .ok (.getfield 9, 3) := by decide +kernel
theorem dX2_layPages_23 : decode cX2_layPages 23 = .ok (.iload_n 3, 1) := by decide +kernel
theorem dX2_layPages_24 : decode cX2_layPages 24 = .ok (.iaload, 1) := by decide +kernel
theorem dX2_layPages_25 : decode cX2_layPages 25 = .ok (.iconst 1, 1) := by decide +kernel
theorem dX2_layPages_26 : decode cX2_layPages 26 = .ok (.isub, 1) := by decide +kernel
theorem dX2_layPages_27 : decode cX2_layPages 27 = .ok (.istore 4, 2) := by decide +kernel
theorem dX2_layPages_29 : decode cX2_layPages 29 = .ok (.iload 4, 2) := by decide +kernel
theorem dX2_layPages_31 : decode cX2_layPages 31 = .ok (.ifCond .lt 18, 3) := by decide +kernel
theorem dX2_layPages_34 : decode cX2_layPages 34 = .ok (.iload 4, 2) := by decide +kernel
theorem dX2_layPages_36 : decode cX2_layPages 36 = .ok (.bipush 24, 2) := by decide +kernel
theorem dX2_layPages_38 : decode cX2_layPages 38 = .ok (.if_icmp .ge 11, 3) := by decide +kernel
theorem dX2_layPages_41 : decode cX2_layPages 41 = .ok (.aload_n 0, 1) := by decide +kernel
theorem dX2_layPages_42 : decode cX2_layPages 42 = .ok (.getfield 35, 3) := by decide +kernel
theorem dX2_layPages_45 : decode cX2_layPages 45 = .ok (.iload 4, 2) := by decide +kernel
theorem dX2_layPages_47 : decode cX2_layPages 47 = .ok (.iload_n 3, 1) := by decide +kernel
theorem dX2_layPages_48 : decode cX2_layPages 48 = .ok (.iastore, 1) := by decide +kernel
theorem dX2_layPages_49 : decode cX2_layPages 49 = .ok (.iinc 3 1, 3) := by decide +kernel
theorem dX2_layPages_52 : decode cX2_layPages 52 = .ok (.goto (-50), 3) := by decide +kernel
theorem dX2_layPages_55 : decode cX2_layPages 55 = .ok (.iconst 0, 1) := by decide +kernel
theorem dX2_layPages_56 : decode cX2_layPages 56 = .ok (.istore_n 3, 1) := by decide +kernel
theorem dX2_layPages_57 : decode cX2_layPages 57 = .ok (.iconst 0, 1) := by decide +kernel
theorem dX2_layPages_58 : decode cX2_layPages 58 = .ok (.istore 4, 2) := by decide +kernel
theorem dX2_layPages_60 : decode cX2_layPages 60 = .ok (.iconst 0, 1) := by decide +kernel
theorem dX2_layPages_61 : decode cX2_layPages 61 = .ok (.istore 5, 2) := by decide +kernel
theorem dX2_layPages_63 : decode cX2_layPages 63 = .ok (.iload 5, 2) := by decide +kernel
theorem dX2_layPages_65 : decode cX2_layPages 65 = .ok (.aload_n 0, 1) := by decide +kernel
theorem dX2_layPages_66 : decode cX2_layPages 66 = .ok (.getfield 38, 3) := by decide +kernel
theorem dX2_layPages_69 : decode cX2_layPages 69 = .ok (.getfield 87, 3) := by decide +kernel
theorem dX2_layPages_72 : decode cX2_layPages 72 = .ok (.if_icmp .ge 68, 3) := by decide +kernel
theorem dX2_layPages_75 : decode cX2_layPages 75 = .ok (.iload 5, 2) := by decide +kernel
theorem dX2_layPages_77 : decode cX2_layPages 77 = .ok (.bipush 24, 2) := by decide +kernel
theorem dX2_layPages_79 : decode cX2_layPages 79 = .ok (.if_icmp .ge 61, 3) := by decide +kernel
theorem dX2_layPages_82 : decode cX2_layPages 82 = .ok (.aload_n 0, 1) := by decide +kernel
theorem dX2_layPages_83 : decode cX2_layPages 83 = .ok (.getfield 35, 3) := by decide +kernel
theorem dX2_layPages_86 : decode cX2_layPages 86 = .ok (.iload 5, 2) := by decide +kernel
theorem dX2_layPages_88 : decode cX2_layPages 88 = .ok (.iaload, 1) := by decide +kernel
theorem dX2_layPages_89 : decode cX2_layPages 89 = .ok (.istore 6, 2) := by decide +kernel
theorem dX2_layPages_91 : decode cX2_layPages 91 = .ok (.aload_n 0, 1) := by decide +kernel
theorem dX2_layPages_92 : decode cX2_layPages 92 = .ok (.getfield 38, 3) := by decide +kernel
theorem dX2_layPages_95 : decode cX2_layPages 95 = .ok (.iload 6, 2) := by decide +kernel
theorem dX2_layPages_97 : decode cX2_layPages 97 = .ok (.invokevirtual 90, 3) := by decide +kernel
theorem dX2_layPages_100 : decode cX2_layPages 100 = .ok (.istore 7, 2) := by decide +kernel
theorem dX2_layPages_102 : decode cX2_layPages 102 = .ok (.iload 4, 2) := by decide +kernel
theorem dX2_layPages_104 : decode cX2_layPages 104 = .ok (.ifCond .le 18, 3) := by decide +kernel
theorem dX2_layPages_107 : decode cX2_layPages 107 = .ok (.iload 4, 2) := by decide +kernel
theorem dX2_layPages_109 : decode cX2_layPages 109 = .ok (.iload 7, 2) := by decide +kernel
theorem dX2_layPages_111 : decode cX2_layPages 111 = .ok (.iadd, 1) := by decide +kernel
theorem dX2_layPages_112 : decode cX2_layPages 112 = .ok (.iload_n 1, 1) := by decide +kernel
theorem dX2_layPages_113 : decode cX2_layPages 113 = .ok (.if_icmp .le 9, 3) := by decide +kernel
theorem dX2_layPages_116 : decode cX2_layPages 116 = .ok (.iinc 3 1, 3) := by decide +kernel
theorem dX2_layPages_119 : decode cX2_layPages 119 = .ok (.iconst 0, 1) := by decide +kernel
theorem dX2_layPages_120 : decode cX2_layPages 120 = .ok (.istore 4, 2) := by decide +kernel
theorem dX2_layPages_122 : decode cX2_layPages 122 = .ok (.iload 4, 2) := by decide +kernel
theorem dX2_layPages_124 : decode cX2_layPages 124 = .ok (.iload 7, 2) := by decide +kernel
theorem dX2_layPages_126 : decode cX2_layPages 126 = .ok (.iadd, 1) := by decide +kernel
theorem dX2_layPages_127 : decode cX2_layPages 127 = .ok (.istore 4, 2) := by decide +kernel
theorem dX2_layPages_129 : decode cX2_layPages 129 = .ok (.aload_n 2, 1) := by decide +kernel
theorem dX2_layPages_130 : decode cX2_layPages 130 = .ok (.iload 6, 2) := by decide +kernel
theorem dX2_layPages_132 : decode cX2_layPages 132 = .ok (.iload_n 3, 1) := by decide +kernel
theorem dX2_layPages_133 : decode cX2_layPages 133 = .ok (.iastore, 1) := by decide +kernel
theorem dX2_layPages_134 : decode cX2_layPages 134 = .ok (.iinc 5 1, 3) := by decide +kernel
theorem dX2_layPages_137 : decode cX2_layPages 137 = .ok (.goto (-74), 3) := by decide +kernel
theorem dX2_layPages_140 : decode cX2_layPages 140 = .ok (.return_, 1) := by decide +kernel
theorem dX2_flipsOver_0 : decode cX2_flipsOver 0 = .ok (.iconst 0, 1) := by decide +kernel
theorem dX2_flipsOver_1 : decode cX2_flipsOver 1 = .ok (.istore_n 2, 1) := by decide +kernel
theorem dX2_flipsOver_2 : decode cX2_flipsOver 2 = .ok (.iconst 0, 1) := by decide +kernel
theorem dX2_flipsOver_3 : decode cX2_flipsOver 3 = .ok (.istore_n 3, 1) := by decide +kernel
theorem dX2_flipsOver_4 : decode cX2_flipsOver 4 = .ok (.iload_n 3, 1) := by decide +kernel
theorem dX2_flipsOver_5 : decode cX2_flipsOver 5 = .ok (.aload_n 0, 1) := by decide +kernel
theorem dX2_flipsOver_6 : decode cX2_flipsOver 6 = .ok (.getfield 38, 3) := by decide +kernel
theorem dX2_flipsOver_9 : decode cX2_flipsOver 9 = .ok (.getfield 87, 3) := by decide +kernel
theorem dX2_flipsOver_12 : decode cX2_flipsOver 12 = .ok (.if_icmp .ge 70, 3) := by decide +kernel
theorem dX2_flipsOver_15 : decode cX2_flipsOver 15 = .ok (.iload_n 3, 1) := by decide +kernel
theorem dX2_flipsOver_16 : decode cX2_flipsOver 16 = .ok (.bipush 24, 2) := by decide +kernel
theorem dX2_flipsOver_18 : decode cX2_flipsOver 18 = .ok (.if_icmp .ge 64, 3) := by decide +kernel
theorem dX2_flipsOver_21 : decode cX2_flipsOver 21 = .ok (.iconst 0, 1) := by decide +kernel
theorem dX2_flipsOver_22 : decode cX2_flipsOver 22 = .ok (.istore 4, 2) := by decide +kernel
theorem dX2_flipsOver_24 : decode cX2_flipsOver 24 = .ok (.iload 4, 2) := by decide +kernel
theorem dX2_flipsOver_26 : decode cX2_flipsOver 26 = .ok (.aload_n 0, 1) := by decide +kernel
theorem dX2_flipsOver_27 : decode cX2_flipsOver 27 = .ok (.getfield 38, 3) := by decide +kernel
theorem dX2_flipsOver_30 : decode cX2_flipsOver 30 = .ok (.getfield 87, 3) := by decide +kernel
theorem dX2_flipsOver_33 : decode cX2_flipsOver 33 = .ok (.if_icmp .ge 43, 3) := by decide +kernel
theorem dX2_flipsOver_36 : decode cX2_flipsOver 36 = .ok (.iload 4, 2) := by decide +kernel
theorem dX2_flipsOver_38 : decode cX2_flipsOver 38 = .ok (.bipush 24, 2) := by decide +kernel
theorem dX2_flipsOver_40 : decode cX2_flipsOver 40 = .ok (.if_icmp .ge 36, 3) := by decide +kernel
theorem dX2_flipsOver_43 : decode cX2_flipsOver 43 = .ok (.iload_n 2, 1) := by decide +kernel
theorem dX2_flipsOver_44 : decode cX2_flipsOver 44 = .ok (.aload_n 0, 1) := by decide +kernel
theorem dX2_flipsOver_45 : decode cX2_flipsOver 45 = .ok (.getfield 32, 3) := by decide +kernel
theorem dX2_flipsOver_48 : decode cX2_flipsOver 48 = .ok (.iload_n 3, 1) := by decide +kernel
theorem dX2_flipsOver_49 : decode cX2_flipsOver 49 = .ok (.bipush 24, 2) := by decide +kernel
theorem dX2_flipsOver_51 : decode cX2_flipsOver 51 = .ok (.imul, 1) := by decide +kernel
theorem dX2_flipsOver_52 : decode cX2_flipsOver 52 = .ok (.iload 4, 2) := by decide +kernel
theorem dX2_flipsOver_54 : decode cX2_flipsOver 54 = .ok (.iadd, 1) := by decide +kernel
theorem dX2_flipsOver_55 : decode cX2_flipsOver 55 = .ok (.iaload, 1) := by decide +kernel
theorem dX2_flipsOver_56 : decode cX2_flipsOver 56 = .ok (.aload_n 1, 1) := by decide +kernel
theorem dX2_flipsOver_57 : decode cX2_flipsOver 57 = .ok (.iload_n 3, 1) := by decide +kernel
theorem dX2_flipsOver_58 : decode cX2_flipsOver 58 = .ok (.iaload, 1) := by decide +kernel
theorem dX2_flipsOver_59 : decode cX2_flipsOver 59 = .ok (.aload_n 1, 1) := by decide +kernel
theorem dX2_flipsOver_60 : decode cX2_flipsOver 60 = .ok (.iload 4, 2) := by decide +kernel
theorem dX2_flipsOver_62 : decode cX2_flipsOver 62 = .ok (.iaload, 1) := by decide +kernel
theorem dX2_flipsOver_63 : decode cX2_flipsOver 63 = .ok (.isub, 1) := by decide +kernel
theorem dX2_flipsOver_64 : decode cX2_flipsOver 64 = .ok (.invokestatic 93, 3) := by decide +kernel
theorem dX2_flipsOver_67 : decode cX2_flipsOver 67 = .ok (.imul, 1) := by decide +kernel
theorem dX2_flipsOver_68 : decode cX2_flipsOver 68 = .ok (.iadd, 1) := by decide +kernel
theorem dX2_flipsOver_69 : decode cX2_flipsOver 69 = .ok (.istore_n 2, 1) := by decide +kernel
theorem dX2_flipsOver_70 : decode cX2_flipsOver 70 = .ok (.iinc 4 1, 3) := by decide +kernel
theorem dX2_flipsOver_73 : decode cX2_flipsOver 73 = .ok (.goto (-49), 3) := by decide +kernel
theorem dX2_flipsOver_76 : decode cX2_flipsOver 76 = .ok (.iinc 3 1, 3) := by decide +kernel
theorem dX2_flipsOver_79 : decode cX2_flipsOver 79 = .ok (.goto (-75), 3) := by decide +kernel
theorem dX2_flipsOver_82 : decode cX2_flipsOver 82 = .ok (.iload_n 2, 1) := by decide +kernel
theorem dX2_flipsOver_83 : decode cX2_flipsOver 83 = .ok (.ireturn, 1) := by decide +kernel
theorem dX3_pack_0 : decode cX3_pack 0 = .ok (.iload_n 0, 1) := by decide +kernel
theorem dX3_pack_1 : decode cX3_pack 1 = .ok (.bipush 14, 2) := by decide +kernel
theorem dX3_pack_3 : decode cX3_pack 3 = .ok (.ishl, 1) := by decide +kernel
theorem dX3_pack_4 : decode cX3_pack 4 = .ok (.iload_n 1, 1) := by decide +kernel
theorem dX3_pack_5 : decode cX3_pack 5 = .ok (.bipush 6, 2) := by decide +kernel
theorem dX3_pack_7 : decode cX3_pack 7 = .ok (.ishl, 1) := by decide +kernel
theorem dX3_pack_8 : decode cX3_pack 8 = .ok (.ior, 1) := by decide +kernel
theorem dX3_pack_9 : decode cX3_pack 9 = .ok (.iload_n 2, 1) := by decide +kernel
theorem dX3_pack_10 : decode cX3_pack 10 = .ok (.iconst 2, 1) := by decide +kernel
theorem dX3_pack_11 : decode cX3_pack 11 = .ok (.ishl, 1) := by decide +kernel
theorem dX3_pack_12 : decode cX3_pack 12 = .ok (.ior, 1) := by decide +kernel
theorem dX3_pack_13 : decode cX3_pack 13 = .ok (.iload_n 3, 1) := by decide +kernel
theorem dX3_pack_14 : decode cX3_pack 14 = .ok (.ior, 1) := by decide +kernel
theorem dX3_pack_15 : decode cX3_pack 15 = .ok (.ireturn, 1) := by decide +kernel
theorem dX3_partOf_0 : decode cX3_partOf 0 = .ok (.iload_n 0, 1) := by decide +kernel
theorem dX3_partOf_1 : decode cX3_partOf 1 = .ok (.bipush 14, 2) := by decide +kernel
theorem dX3_partOf_3 : decode cX3_partOf 3 = .ok (.ishr, 1) := by decide +kernel
theorem dX3_partOf_4 : decode cX3_partOf 4 = .ok (.bipush 31, 2) := by decide +kernel
theorem dX3_partOf_6 : decode cX3_partOf 6 = .ok (.iand, 1) := by decide +kernel
theorem dX3_partOf_7 : decode cX3_partOf 7 = .ok (.ireturn, 1) := by decide +kernel
theorem dX3_thingsOf_0 : decode cX3_thingsOf 0 = .ok (.iload_n 0, 1) := by decide +kernel
theorem dX3_thingsOf_1 : decode cX3_thingsOf 1 = .ok (.bipush 6, 2) := by decide +kernel
theorem dX3_thingsOf_3 : decode cX3_thingsOf 3 = .ok (.ishr, 1) := by decide +kernel
theorem dX3_thingsOf_4 : decode cX3_thingsOf 4 = .ok (.sipush 255, 3) := by decide +kernel
theorem dX3_thingsOf_7 : decode cX3_thingsOf 7 = .ok (.iand, 1) := by decide +kernel
theorem dX3_thingsOf_8 : decode cX3_thingsOf 8 = .ok (.ireturn, 1) := by decide +kernel
theorem dX3_healthOf_0 : decode cX3_healthOf 0 = .ok (.iload_n 0, 1) := by decide +kernel
theorem dX3_healthOf_1 : decode cX3_healthOf 1 = .ok (.iconst 2, 1) := by decide +kernel
theorem dX3_healthOf_2 : decode cX3_healthOf 2 = .ok (.ishr, 1) := by decide +kernel
theorem dX3_healthOf_3 : decode cX3_healthOf 3 = .ok (.bipush 15, 2) := by decide +kernel
theorem dX3_healthOf_5 : decode cX3_healthOf 5 = .ok (.iand, 1) := by decide +kernel
theorem dX3_healthOf_6 : decode cX3_healthOf 6 = .ok (.ireturn, 1) := by decide +kernel
theorem dX3_fateOf_0 : decode cX3_fateOf 0 = .ok (.iload_n 0, 1) := by decide +kernel
theorem dX3_fateOf_1 : decode cX3_fateOf 1 = .ok (.iconst 3, 1) := by decide +kernel
theorem dX3_fateOf_2 : decode cX3_fateOf 2 = .ok (.iand, 1) := by decide +kernel
theorem dX3_fateOf_3 : decode cX3_fateOf 3 = .ok (.ireturn, 1) := by decide +kernel
theorem dX3_isOver_0 : decode cX3_isOver 0 = .ok (.iload_n 0, 1) := by decide +kernel
theorem dX3_isOver_1 : decode cX3_isOver 1 = .ok (.iconst 3, 1) := by decide +kernel
theorem dX3_isOver_2 : decode cX3_isOver 2 = .ok (.iand, 1) := by decide +kernel
theorem dX3_isOver_3 : decode cX3_isOver 3 = .ok (.ifCond .eq 7, 3) := by decide +kernel
theorem dX3_isOver_6 : decode cX3_isOver 6 = .ok (.iconst 1, 1) := by decide +kernel
theorem dX3_isOver_7 : decode cX3_isOver 7 = .ok (.goto 4, 3) := by decide +kernel
theorem dX3_isOver_10 : decode cX3_isOver 10 = .ok (.iconst 0, 1) := by decide +kernel
theorem dX3_isOver_11 : decode cX3_isOver 11 = .ok (.ireturn, 1) := by decide +kernel
theorem dX4_init_0 : decode cX4_init 0 = .ok (.aload_n 0, 1) := by decide +kernel
theorem dX4_init_1 : decode cX4_init 1 = .ok (.invokespecial 5, 3) := by decide +kernel
theorem dX4_init_4 : decode cX4_init 4 = .ok (.aload_n 0, 1) := by decide +kernel
theorem dX4_init_5 : decode cX4_init 5 = .ok (.iconst 0, 1) := by decide +kernel
theorem dX4_init_6 : decode cX4_init 6 = .ok (.putfield 11, 3) := by decide +kernel
theorem dX4_init_9 : decode cX4_init 9 = .ok (.aload_n 0, 1) := by decide +kernel
theorem dX4_init_10 : decode cX4_init 10 = .ok (.iconst 0, 1) := by decide +kernel
theorem dX4_init_11 : decode cX4_init 11 = .ok (.putfield 15, 3) := by decide +kernel
theorem dX4_init_14 : decode cX4_init 14 = .ok (.aload_n 0, 1) := by decide +kernel
theorem dX4_init_15 : decode cX4_init 15 = .ok (.iconst 0, 1) := by decide +kernel
theorem dX4_init_16 : decode cX4_init 16 = .ok (.putfield 18, 3) := by decide +kernel
theorem dX4_init_19 : decode cX4_init 19 = .ok (.aload_n 0, 1) := by decide +kernel
theorem dX4_init_20 : decode cX4_init 20 = .ok (.iconst 0, 1) := by decide +kernel
theorem dX4_init_21 : decode cX4_init 21 = .ok (.putfield 22, 3) := by decide +kernel
theorem dX4_init_24 : decode cX4_init 24 = .ok (.aload_n 0, 1) := by decide +kernel
theorem dX4_init_25 : decode cX4_init 25 = .ok (.iconst 0, 1) := by decide +kernel
theorem dX4_init_26 : decode cX4_init 26 = .ok (.putfield 25, 3) := by decide +kernel
theorem dX4_init_29 : decode cX4_init 29 = .ok (.aload_n 0, 1) := by decide +kernel
theorem dX4_init_30 : decode cX4_init 30 = .ok (.iconst 0, 1) := by decide +kernel
theorem dX4_init_31 : decode cX4_init 31 = .ok (.putfield 28, 3) := by decide +kernel
theorem dX4_init_34 : decode cX4_init 34 = .ok (.aload_n 0, 1) := by decide +kernel
theorem dX4_init_35 : decode cX4_init 35 = .ok (.bipush 64, 2) := by decide +kernel
theorem dX4_init_37 : decode cX4_init 37 = .ok (.newarray .int, 2) := by decide +kernel
theorem dX4_init_39 : decode cX4_init 39 = .ok (.putfield 31, 3) := by decide +kernel
theorem dX4_init_42 : decode cX4_init 42 = .ok (.aload_n 0, 1) := by decide +kernel
theorem dX4_init_43 : decode cX4_init 43 = .ok (.bipush 65, 2) := by decide +kernel
theorem dX4_init_45 : decode cX4_init 45 = .ok (.newarray .int, 2) := by decide +kernel
theorem dX4_init_47 : decode cX4_init 47 = .ok (.putfield 35, 3) := by decide +kernel
theorem dX4_init_50 : decode cX4_init 50 = .ok (.aload_n 0, 1) := by decide +kernel
theorem dX4_init_51 : decode cX4_init 51 = .ok (.sipush 256, 3) := by decide +kernel
theorem dX4_init_54 : decode cX4_init 54 = .ok (.newarray .int, 2) := by decide +kernel
theorem dX4_init_56 : decode cX4_init 56 = .ok (.putfield 38, 3) := by decide +kernel
theorem dX4_init_59 : decode cX4_init 59 = .ok (.aload_n 0, 1) := by decide +kernel
theorem dX4_init_60 : decode cX4_init 60 = .ok (.iconst 0, 1) := by decide +kernel
theorem dX4_init_61 : decode cX4_init 61 = .ok (.newarray .int, 2) := by decide +kernel
theorem dX4_init_63 : decode cX4_init 63 = .ok (.putfield 41, 3) := by decide +kernel
theorem dX4_init_66 : decode cX4_init 66 = .ok (.aload_n 0, 1) := by decide +kernel
theorem dX4_init_67 : decode cX4_init 67 = .ok (.bipush 64, 2) := by decide +kernel
theorem dX4_init_69 : decode cX4_init 69 = .ok (.newarray .int, 2) := by decide +kernel
theorem dX4_init_71 : decode cX4_init 71 = .ok (.putfield 44, 3) := by decide +kernel
theorem dX4_init_74 : decode cX4_init 74 = .ok (.aload_n 0, 1) := by decide +kernel
theorem dX4_init_75 : decode cX4_init 75 = .ok (.bipush 64, 2) := by decide +kernel
theorem dX4_init_77 : decode cX4_init 77 = .ok (.newarray .int, 2) := by decide +kernel
theorem dX4_init_79 : decode cX4_init 79 = .ok (.putfield 47, 3) := by decide +kernel
theorem dX4_init_82 : decode cX4_init 82 = .ok (.aload_n 0, 1) := by decide +kernel
theorem dX4_init_83 : decode cX4_init 83 = .ok (.iconst (-1), 1) := by decide +kernel
theorem dX4_init_84 : decode cX4_init 84 = .ok (.putfield 50, 3) := by decide +kernel
theorem dX4_init_87 : decode cX4_init 87 = .ok (.aload_n 0, 1) := by decide +kernel
theorem dX4_init_88 : decode cX4_init 88 = .ok (.iconst 0, 1) := by decide +kernel
theorem dX4_init_89 : decode cX4_init 89 = .ok (.putfield 53, 3) := by decide +kernel
theorem dX4_init_92 : decode cX4_init 92 = .ok (.aload_n 0, 1) := by decide +kernel
theorem dX4_init_93 : decode cX4_init 93 = .ok (.bipush 64, 2) := by decide +kernel
theorem dX4_init_95 : decode cX4_init 95 = .ok (.newarray .int, 2) := by decide +kernel
theorem dX4_init_97 : decode cX4_init 97 = .ok (.putfield 56, 3) := by decide +kernel
theorem dX4_init_100 : decode cX4_init 100 = .ok (.aload_n 0, 1) := by decide +kernel
theorem dX4_init_101 : decode cX4_init 101 = .ok (.iconst 0, 1) := by decide +kernel
theorem dX4_init_102 : decode cX4_init 102 = .ok (.putfield 59, 3) := by decide +kernel
theorem dX4_init_105 : decode cX4_init 105 = .ok (.aload_n 0, 1) := by decide +kernel
theorem dX4_init_106 : decode cX4_init 106 = .ok (.aload_n 1, 1) := by decide +kernel
theorem dX4_init_107 : decode cX4_init 107 = .ok (.putfield 62, 3) := by decide +kernel
theorem dX4_init_110 : decode cX4_init 110 = .ok (.return_, 1) := by decide +kernel
theorem dX4_build_0 : decode cX4_build 0 = .ok (.aload_n 0, 1) := by decide +kernel
theorem dX4_build_1 : decode cX4_build 1 = .ok (.invokevirtual 66, 3) := by decide +kernel
theorem dX4_build_4 : decode cX4_build 4 = .ok (.aload_n 0, 1) := by decide +kernel
theorem dX4_build_5 : decode cX4_build 5 = .ok (.iconst 0, 1) := by decide +kernel
theorem dX4_build_6 : decode cX4_build 6 = .ok (.putfield 18, 3) := by decide +kernel
theorem dX4_build_9 : decode cX4_build 9 = .ok (.aload_n 0, 1) := by decide +kernel
theorem dX4_build_10 : decode cX4_build 10 = .ok (.getfield 62, 3) := by decide +kernel
theorem dX4_build_13 : decode cX4_build 13 = .ok (.iconst 0, 1) := by decide +kernel
theorem dX4_build_14 : decode cX4_build 14 = .ok (.invokevirtual 69, 3) := by decide +kernel
theorem dX4_build_17 : decode cX4_build 17 = .ok (.ifCond .eq 37, 3) := by decide +kernel
theorem dX4_build_20 : decode cX4_build 20 = .ok (.iload_n 2, 1) := by decide +kernel
theorem dX4_build_21 : decode cX4_build 21 = .ok (.ifCond .eq 33, 3) := by decide +kernel
theorem dX4_build_24 : decode cX4_build 24 = .ok (.aload_n 0, 1) := by decide +kernel
theorem dX4_build_25 : decode cX4_build 25 = .ok (.iconst 1, 1) := by decide +kernel
theorem dX4_build_26 : decode cX4_build 26 = .ok (.putfield 28, 3) := by decide +kernel
theorem dX4_build_29 : decode cX4_build 29 = .ok (.aload_n 0, 1) := by decide +kernel
theorem dX4_build_30 : decode cX4_build 30 = .ok (.aload_n 0, 1) := by decide +kernel
theorem dX4_build_31 : decode cX4_build 31 = .ok (.getfield 62, 3) := by decide +kernel
theorem dX4_build_34 : decode cX4_build 34 = .ok (.iload_n 1, 1) := by decide +kernel
theorem dX4_build_35 : decode cX4_build 35 = .ok (.invokevirtual 75, 3) := by decide +kernel
theorem dX4_build_38 : decode cX4_build 38 = .ok (.invokevirtual 79, 3) := by decide +kernel
theorem dX4_build_41 : decode cX4_build 41 = .ok (.pop, 1) := by decide +kernel
theorem dX4_build_42 : decode cX4_build 42 = .ok (.aload_n 0, 1) := by decide +kernel
theorem dX4_build_43 : decode cX4_build 43 = .ok (.aload_n 0, 1) := by decide +kernel
theorem dX4_build_44 : decode cX4_build 44 = .ok (.iconst 0, 1) := by decide +kernel
theorem dX4_build_45 : decode cX4_build 45 = .ok (.iload_n 1, 1) := by decide +kernel
theorem dX4_build_46 : decode cX4_build 46 = .ok (.iload_n 2, 1) := by decide +kernel
theorem dX4_build_47 : decode cX4_build 47 = .ok (.iload_n 3, 1) := by decide +kernel
theorem dX4_build_48 : decode cX4_build 48 = .ok (.invokevirtual 82, 3) := by decide +kernel
theorem dX4_build_51 : decode cX4_build 51 = .ok (.putfield 18, 3) := by decide +kernel
theorem dX4_build_54 : decode cX4_build 54 = .ok (.aload_n 0, 1) := by decide +kernel
theorem dX4_build_55 : decode cX4_build 55 = .ok (.aload_n 0, 1) := by decide +kernel
theorem dX4_build_56 : decode cX4_build 56 = .ok (.getfield 22, 3) := by decide +kernel
theorem dX4_build_59 : decode cX4_build 59 = .ok (.putfield 11, 3) := by decide +kernel
theorem dX4_build_62 : decode cX4_build 62 = .ok (.aload_n 0, 1) := by decide +kernel
theorem dX4_build_63 : decode cX4_build 63 = .ok (.aload_n 0, 1) := by decide +kernel
theorem dX4_build_64 : decode cX4_build 64 = .ok (.getfield 28, 3) := by decide +kernel
theorem dX4_build_67 : decode cX4_build 67 = .ok (.putfield 15, 3) := by decide +kernel
theorem dX4_build_70 : decode cX4_build 70 = .ok (.return_, 1) := by decide +kernel
theorem dX4_include_0 : decode cX4_include 0 = .ok (.aload_n 0, 1) := by decide +kernel
theorem dX4_include_1 : decode cX4_include 1 = .ok (.getfield 22, 3) := by decide +kernel
theorem dX4_include_4 : decode cX4_include 4 = .ok (.istore_n 2, 1) := by decide +kernel
theorem dX4_include_5 : decode cX4_include 5 = .ok (.aload_n 0, 1) := by decide +kernel
theorem dX4_include_6 : decode cX4_include 6 = .ok (.iload_n 1, 1) := by decide +kernel
theorem dX4_include_7 : decode cX4_include 7 = .ok (.invokevirtual 79, 3) := by decide +kernel
theorem dX4_include_10 : decode cX4_include 10 = .ok (.istore_n 3, 1) := by decide +kernel
theorem dX4_include_11 : decode cX4_include 11 = .ok (.aload_n 0, 1) := by decide +kernel
theorem dX4_include_12 : decode cX4_include 12 = .ok (.getfield 22, 3) := by decide +kernel
theorem dX4_include_15 : decode cX4_include 15 = .ok (.iload_n 2, 1) := by decide +kernel
theorem dX4_include_16 : decode cX4_include 16 = .ok (.if_icmp .le 16, 3) := by decide +kernel
theorem dX4_include_19 : decode cX4_include 19 = .ok (.aload_n 0, 1) := by decide +kernel
theorem dX4_include_20 : decode cX4_include 20 = .ok (.iload_n 2, 1) := by decide +kernel
theorem dX4_include_21 : decode cX4_include 21 = .ok (.iconst (-1), 1) := by decide +kernel
theorem dX4_include_22 : decode cX4_include 22 = .ok (.iconst (-1), 1) := by decide +kernel
theorem dX4_include_23 : decode cX4_include 23 = .ok (.iconst 0, 1) := by decide +kernel
theorem dX4_include_24 : decode cX4_include 24 = .ok (.invokevirtual 82, 3) := by decide +kernel
theorem dX4_include_27 : decode cX4_include 27 = .ok (.pop, 1) := by decide +kernel
theorem dX4_include_28 : decode cX4_include 28 = .ok (.aload_n 0, 1) := by decide +kernel
theorem dX4_include_29 : decode cX4_include 29 = .ok (.invokevirtual 86, 3) := by decide +kernel
theorem dX4_include_32 : decode cX4_include 32 = .ok (.iload_n 3, 1) := by decide +kernel
theorem dX4_include_33 : decode cX4_include 33 = .ok (.ireturn, 1) := by decide +kernel
theorem dX4_find_0 : decode cX4_find 0 = .ok (.iload_n 1, 1) := by decide +kernel
theorem dX4_find_1 : decode cX4_find 1 = .ok (.invokestatic 89, 3) := by decide +kernel
theorem dX4_find_4 : decode cX4_find 4 = .ok (.istore_n 2, 1) := by decide +kernel
theorem dX4_find_5 : decode cX4_find 5 = .ok (.iload_n 1, 1) := by decide +kernel
theorem dX4_find_6 : decode cX4_find 6 = .ok (.invokestatic 92, 3) := by decide +kernel
theorem dX4_find_9 : decode cX4_find 9 = .ok (.iconst 2, 1) := by decide +kernel
theorem dX4_find_10 : decode cX4_find 10 = .ok (.if_icmp .eq 16, 3) := by decide +kernel
theorem dX4_find_13 : decode cX4_find 13 = .ok (.iload_n 2, 1) := by decide +kernel
theorem dX4_find_14 : decode cX4_find 14 = .ok (.ifCond .lt 12, 3) := by decide +kernel
theorem dX4_find_17 : decode cX4_find 17 = .ok (.iload_n 2, 1) := by decide +kernel
theorem dX4_find_18 : decode cX4_find 18 = .ok (.aload_n 0, 1) := by decide +kernel
theorem dX4_find_19 : decode cX4_find 19 = .ok (.getfield 41, 3) := by decide +kernel
theorem dX4_find_22 : decode cX4_find 22 = .ok (.arraylength, 1) := by decide +kernel
theorem dX4_find_23 : decode cX4_find 23 = .ok (.if_icmp .lt 5, 3) := by decide +kernel
theorem dX4_find_26 : decode cX4_find 26 = .ok (.iconst (-1), 1) := by decide +kernel
theorem dX4_find_27 : decode cX4_find 27 = .ok (.ireturn, 1) := by decide +kernel
theorem dX4_find_28 : decode cX4_find 28 = .ok (.aload_n 0, 1) := by decide +kernel
theorem dX4_find_29 : decode cX4_find 29 = .ok (.getfield 41, 3) := by decide +kernel
theorem dX4_find_32 : decode cX4_find 32 = .ok (.iload_n 2, 1) := by decide +kernel
theorem dX4_find_33 : decode cX4_find 33 = .ok (.iaload, 1) := by decide +kernel
theorem dX4_find_34 : decode cX4_find 34 = .ok (.iconst 1, 1) := by decide +kernel
theorem dX4_find_35 : decode cX4_find 35 = .ok (.isub, 1) := by decide +kernel
theorem dX4_find_36 : decode cX4_find 36 = .ok (.ireturn, 1) := by decide +kernel
theorem dX4_runTurns_0 : decode cX4_runTurns 0 = .ok (.aload_n 0, 1) := by decide +kernel
theorem dX4_runTurns_1 : decode cX4_runTurns 1 = .ok (.getfield 50, 3) := by decide +kernel
theorem dX4_runTurns_4 : decode cX4_runTurns 4 = .ok (.iconst (-1), 1) := by decide +kernel
theorem dX4_runTurns_5 : decode cX4_runTurns 5 = .ok (.if_icmp .eq 11, 3) := by decide +kernel
theorem dX4_runTurns_8 : decode cX4_runTurns 8 = .ok (.aload_n 0, 1) := by decide +kernel
theorem dX4_runTurns_9 : decode cX4_runTurns 9 = .ok (.getfield 50, 3) := by decide +kernel
theorem dX4_runTurns_12 : decode cX4_runTurns 12 = .ok (.iload_n 1, 1) := by decide +kernel
theorem dX4_runTurns_13 : decode cX4_runTurns 13 = .ok (.if_icmp .le 7, 3) := by decide +kernel
theorem dX4_runTurns_16 : decode cX4_runTurns 16 = .ok (.aload_n 0, 1) := by decide +kernel
theorem dX4_runTurns_17 : decode cX4_runTurns 17 = .ok (.invokevirtual 97, 3) := by decide +kernel
theorem dX4_runTurns_20 : decode cX4_runTurns 20 = .ok (.aload_n 0, 1) := by decide +kernel
theorem dX4_runTurns_21 : decode cX4_runTurns 21 = .ok (.getfield 50, 3) := by decide +kernel
theorem dX4_runTurns_24 : decode cX4_runTurns 24 = .ok (.istore_n 2, 1) := by decide +kernel
theorem dX4_runTurns_25 : decode cX4_runTurns 25 = .ok (.iload_n 2, 1) := by decide +kernel
theorem dX4_runTurns_26 : decode cX4_runTurns 26 = .ok (.iload_n 1, 1) := by decide +kernel
theorem dX4_runTurns_27 : decode cX4_runTurns 27 = .ok (.if_icmp .ge 20, 3) := by decide +kernel
theorem dX4_runTurns_30 : decode cX4_runTurns 30 = .ok (.aload_n 0, 1) := by decide +kernel
theorem dX4_runTurns_31 : decode cX4_runTurns 31 = .ok (.getfield 53, 3) := by decide +kernel
theorem dX4_runTurns_34 : decode cX4_runTurns 34 = .ok (.ifCond .ne 13, 3) := by decide +kernel
theorem dX4_runTurns_37 : decode cX4_runTurns 37 = .ok (.aload_n 0, 1) := by decide +kernel
theorem dX4_runTurns_38 : decode cX4_runTurns 38 = .ok (.invokevirtual 100, 3) := by decide +kernel
theorem dX4_runTurns_41 : decode cX4_runTurns 41 = .ok (.iinc 2 1, 3) := by decide +kernel
theorem dX4_runTurns_44 : decode cX4_runTurns 44 = .ok (.goto (-19), 3) := by decide +kernel
theorem dX4_runTurns_47 : decode cX4_runTurns 47 = .ok (.return_, 1) := by decide +kernel
theorem dX4_oddsOf_0 : decode cX4_oddsOf 0 = .ok (.iload_n 1, 1) := by decide +kernel
theorem dX4_oddsOf_1 : decode cX4_oddsOf 1 = .ok (.ifCond .lt 20, 3) := by decide +kernel
theorem dX4_oddsOf_4 : decode cX4_oddsOf 4 = .ok (.iload_n 1, 1) := by decide +kernel
theorem dX4_oddsOf_5 : decode cX4_oddsOf 5 = .ok (.aload_n 0, 1) := by decide +kernel
theorem dX4_oddsOf_6 : decode cX4_oddsOf 6 = .ok (.getfield 22, 3) := by decide +kernel
theorem dX4_oddsOf_9 : decode cX4_oddsOf 9 = .ok (.if_icmp .ge 12, 3) := by decide +kernel
theorem dX4_oddsOf_12 : decode cX4_oddsOf 12 = .ok (.aload_n 0, 1) := by decide +kernel
theorem dX4_oddsOf_13 : decode cX4_oddsOf 13 = .ok (.getfield 44, 3) := by decide +kernel
theorem dX4_oddsOf_16 : decode cX4_oddsOf 16 = .ok (.iload_n 1, 1) := by decide +kernel
theorem dX4_oddsOf_17 : decode cX4_oddsOf 17 = .ok (.iaload, 1) := by decide +kernel
theorem dX4_oddsOf_18 : decode cX4_oddsOf 18 = .ok (.goto 4, 3) := by decide +kernel
theorem dX4_oddsOf_21 : decode cX4_oddsOf 21 = .ok (.iconst 0, 1) := by decide +kernel
theorem dX4_oddsOf_22 : decode cX4_oddsOf 22 = .ok (.ireturn, 1) := by decide +kernel
theorem dX4_measureWins_0 : decode cX4_measureWins 0 = .ok (.aload_n 0, 1) := by decide +kernel
theorem dX4_measureWins_1 : decode cX4_measureWins 1 = .ok (.getfield 59, 3) := by decide +kernel
theorem dX4_measureWins_4 : decode cX4_measureWins 4 = .ok (.ifCond .eq 4, 3) := by decide +kernel
theorem dX4_measureWins_7 : decode cX4_measureWins 7 = .ok (.return_, 1) := by decide +kernel
theorem dX4_measureWins_8 : decode cX4_measureWins 8 = .ok (.aload_n 0, 1) := by decide +kernel
theorem dX4_measureWins_9 : decode cX4_measureWins 9 = .ok (.aload_n 0, 1) := by decide +kernel
theorem dX4_measureWins_10 : decode cX4_measureWins 10 = .ok (.aload_n 0, 1) := by decide +kernel
theorem dX4_measureWins_11 : decode cX4_measureWins 11 = .ok (.getfield 56, 3) := by decide +kernel
theorem dX4_measureWins_14 : decode cX4_measureWins 14 = .ok (.invokevirtual 103, 3) := by decide +kernel
theorem dX4_measureWins_17 : decode cX4_measureWins 17 = .ok (.putfield 56, 3) := by decide +kernel
theorem dX4_measureWins_20 : decode cX4_measureWins 20 = .ok (.iconst 0, 1) := by decide +kernel
theorem dX4_measureWins_21 : decode cX4_measureWins 21 = .ok (.istore_n 1, 1) := by decide +kernel
theorem dX4_measureWins_22 : decode cX4_measureWins 22 = .ok (.iload_n 1, 1) := by decide +kernel
theorem dX4_measureWins_23 : decode cX4_measureWins 23 = .ok (.aload_n 0, 1) := by decide +kernel
theorem dX4_measureWins_24 : decode cX4_measureWins 24 = .ok (.getfield 22, 3) := by decide +kernel
theorem dX4_measureWins_27 : decode cX4_measureWins 27 = .ok (.if_icmp .ge 28, 3) := by decide +kernel
theorem dX4_measureWins_30 : decode cX4_measureWins 30 = .ok (.aload_n 0, 1) := by decide +kernel
theorem dX4_measureWins_31 : decode cX4_measureWins 31 = .ok (.getfield 56, 3) := by decide +kernel
theorem dX4_measureWins_34 : decode cX4_measureWins 34 = .ok (.iload_n 1, 1) := by decide +kernel
theorem dX4_measureWins_35 : decode cX4_measureWins 35 = .ok (.aload_n 0, 1) := by decide +kernel
theorem dX4_measureWins_36 : decode cX4_measureWins 36 = .ok (.iload_n 1, 1) := by decide +kernel
theorem dX4_measureWins_37 : decode cX4_measureWins 37 = .ok (.invokevirtual 107, 3) := by decide +kernel
theorem dX4_measureWins_40 : decode cX4_measureWins 40 = .ok (.ifCond .eq 7, 3) := by decide +kernel
theorem dX4_measureWins_43 : decode cX4_measureWins 43 = .ok (.iconst 0, 1) := by decide +kernel
theorem dX4_measureWins_44 : decode cX4_measureWins 44 = .ok (.goto 4, 3) := by decide +kernel
theorem dX4_measureWins_47 : decode cX4_measureWins 47 = .ok (.iconst (-1), 1) := by decide +kernel
theorem dX4_measureWins_48 : decode cX4_measureWins 48 = .ok (.iastore, 1) := by decide +kernel
theorem dX4_measureWins_49 : decode cX4_measureWins 49 = .ok (.iinc 1 1, 3) := by decide +kernel
theorem dX4_measureWins_52 : decode cX4_measureWins 52 = .ok (.goto (-30), 3) := by decide +kernel
theorem dX4_measureWins_55 : decode cX4_measureWins 55 = .ok (.iconst 1, 1) := by decide +kernel
theorem dX4_measureWins_56 : decode cX4_measureWins 56 = .ok (.istore_n 1, 1) := by decide +kernel
theorem dX4_measureWins_57 : decode cX4_measureWins 57 = .ok (.iconst 1, 1) := by decide +kernel
theorem dX4_measureWins_58 : decode cX4_measureWins 58 = .ok (.istore_n 2, 1) := by decide +kernel
theorem dX4_measureWins_59 : decode cX4_measureWins 59 = .ok (.iload_n 2, 1) := by decide +kernel
theorem dX4_measureWins_60 : decode cX4_measureWins 60 = .ok (.aload_n 0, 1) := by decide +kernel
theorem dX4_measureWins_61 : decode cX4_measureWins 61 = .ok (.getfield 22, 3) := by decide +kernel
theorem dX4_measureWins_64 : decode cX4_measureWins 64 = .ok (.if_icmp .gt 61, 3) := by decide +kernel
theorem dX4_measureWins_67 : decode cX4_measureWins 67 = .ok (.iload_n 1, 1) := by decide +kernel
theorem dX4_measureWins_68 : decode cX4_measureWins 68 = .ok (.ifCond .eq 57, 3) := by decide +kernel
theorem dX4_measureWins_71 : decode cX4_measureWins 71 = .ok (.iconst 0, 1) := by decide +kernel
theorem dX4_measureWins_72 : decode cX4_measureWins 72 = .ok (.istore_n 1, 1) := by decide +kernel
theorem dX4_measureWins_73 : decode cX4_measureWins 73 = .ok (.iconst 0, 1) := by decide +kernel
theorem dX4_measureWins_74 : decode cX4_measureWins 74 = .ok (.istore_n 3, 1) := by decide +kernel
theorem dX4_measureWins_75 : decode cX4_measureWins 75 = .ok (.iload_n 3, 1) := by decide +kernel
theorem dX4_measureWins_76 : decode cX4_measureWins 76 = .ok (.aload_n 0, 1) := by decide +kernel
theorem dX4_measureWins_77 : decode cX4_measureWins 77 = .ok (.getfield 22, 3) := by decide +kernel
theorem dX4_measureWins_80 : decode cX4_measureWins 80 = .ok (.if_icmp .ge 39, 3) := by decide +kernel
theorem dX4_measureWins_83 : decode cX4_measureWins 83 = .ok (.aload_n 0, 1) := by decide +kernel
theorem dX4_measureWins_84 : decode cX4_measureWins 84 = .ok (.getfield 56, 3) := by decide +kernel
theorem dX4_measureWins_87 : decode cX4_measureWins 87 = .ok (.iload_n 3, 1) := by decide +kernel
theorem dX4_measureWins_88 : decode cX4_measureWins 88 = .ok (.iaload, 1) := by decide +kernel
theorem dX4_measureWins_89 : decode cX4_measureWins 89 = .ok (.iconst (-1), 1) := by decide +kernel
theorem dX4_measureWins_90 : decode cX4_measureWins 90 = .ok (.if_icmp .ne 23, 3) := by decide +kernel
theorem dX4_measureWins_93 : decode cX4_measureWins 93 = .ok (.aload_n 0, 1) := by decide +kernel
theorem dX4_measureWins_94 : decode cX4_measureWins 94 = .ok (.iload_n 3, 1) := by decide +kernel
theorem dX4_measureWins_95 : decode cX4_measureWins 95 = .ok (.iload_n 2, 1) := by decide +kernel
theorem dX4_measureWins_96 : decode cX4_measureWins 96 = .ok (.iconst 1, 1) := by decide +kernel
theorem dX4_measureWins_97 : decode cX4_measureWins 97 = .ok (.isub, 1) := by decide +kernel
theorem dX4_measureWins_98 : decode cX4_measureWins 98 = .ok (.invokevirtual 110, 3) := by decide +kernel
theorem dX4_measureWins_101 : decode cX4_measureWins 101 = .ok (.ifCond .eq 12, 3) := by decide +kernel
theorem dX4_measureWins_104 : decode cX4_measureWins 104 = .ok (.aload_n 0, 1) := by decide +kernel
theorem dX4_measureWins_105 : decode cX4_measureWins 105 = .ok (.getfield 56, 3) := by decide +kernel
theorem dX4_measureWins_108 : decode cX4_measureWins 108 = .ok (.iload_n 3, 1) := by decide +kernel
theorem dX4_measureWins_109 : decode cX4_measureWins 109 = .ok (.iload_n 2, 1) := by decide +kernel
theorem dX4_measureWins_110 : decode cX4_measureWins 110 = .ok (.iastore, 1) := by decide +kernel
theorem dX4_measureWins_111 : decode cX4_measureWins 111 = .ok (.iconst 1, 1) := by decide +kernel
theorem dX4_measureWins_112 : decode cX4_measureWins 112 = .ok (.istore_n 1, 1) := by decide +kernel
theorem dX4_measureWins_113 : decode cX4_measureWins 113 = .ok (.iinc 3 1, 3) := by decide +kernel
theorem dX4_measureWins_116 : decode cX4_measureWins 116 = .ok (.goto (-41), 3) := by decide +kernel
theorem dX4_measureWins_119 : decode cX4_measureWins 119 = .ok (.iinc 2 1, 3) := by decide +kernel
theorem dX4_measureWins_122 : decode cX4_measureWins 122 = .ok (.goto (-63), 3) := by decide +kernel
theorem dX4_measureWins_125 : decode cX4_measureWins 125 = .ok (.aload_n 0, 1) := by decide +kernel
theorem dX4_measureWins_126 : decode cX4_measureWins 126 = .ok (.iconst 1, 1) := by decide +kernel
theorem dX4_measureWins_127 : decode cX4_measureWins 127 = .ok (.putfield 59, 3) := by decide +kernel
theorem dX4_measureWins_130 : decode cX4_measureWins 130 = .ok (.return_, 1) := by decide +kernel
theorem dX4_turnsToWinOf_0 : decode cX4_turnsToWinOf 0 = .ok (.iload_n 1, 1) := by decide +kernel
theorem dX4_turnsToWinOf_1 : decode cX4_turnsToWinOf 1 = .ok (.ifCond .lt 20, 3) := by decide +kernel
theorem dX4_turnsToWinOf_4 : decode cX4_turnsToWinOf 4 = .ok (.iload_n 1, 1) := by decide +kernel
theorem dX4_turnsToWinOf_5 : decode cX4_turnsToWinOf 5 = .ok (.aload_n 0, 1) := by decide +kernel
theorem dX4_turnsToWinOf_6 : decode cX4_turnsToWinOf 6 = .ok (.getfield 22, 3) := by decide +kernel
theorem dX4_turnsToWinOf_9 : decode cX4_turnsToWinOf 9 = .ok (.if_icmp .ge 12, 3) := by decide +kernel
theorem dX4_turnsToWinOf_12 : decode cX4_turnsToWinOf 12 = .ok (.aload_n 0, 1) := by decide +kernel
theorem dX4_turnsToWinOf_13 : decode cX4_turnsToWinOf 13 = .ok (.getfield 56, 3) := by decide +kernel
theorem dX4_turnsToWinOf_16 : decode cX4_turnsToWinOf 16 = .ok (.iload_n 1, 1) := by decide +kernel
theorem dX4_turnsToWinOf_17 : decode cX4_turnsToWinOf 17 = .ok (.iaload, 1) := by decide +kernel
theorem dX4_turnsToWinOf_18 : decode cX4_turnsToWinOf 18 = .ok (.goto 4, 3) := by decide +kernel
theorem dX4_turnsToWinOf_21 : decode cX4_turnsToWinOf 21 = .ok (.iconst (-1), 1) := by decide +kernel
theorem dX4_turnsToWinOf_22 : decode cX4_turnsToWinOf 22 = .ok (.ireturn, 1) := by decide +kernel
theorem dX4_trapParts_0 : decode cX4_trapParts 0 = .ok (.aload_n 0, 1) := by decide +kernel
theorem dX4_trapParts_1 : decode cX4_trapParts 1 = .ok (.invokevirtual 114, 3) := by decide +kernel
theorem dX4_trapParts_4 : decode cX4_trapParts 4 = .ok (.iconst 0, 1) := by decide +kernel
theorem dX4_trapParts_5 : decode cX4_trapParts 5 = .ok (.istore_n 1, 1) := by decide +kernel
theorem dX4_trapParts_6 : decode cX4_trapParts 6 = .ok (.iconst 0, 1) := by decide +kernel
theorem dX4_trapParts_7 : decode cX4_trapParts 7 = .ok (.istore_n 2, 1) := by decide +kernel
theorem dX4_trapParts_8 : decode cX4_trapParts 8 = .ok (.iload_n 2, 1) := by decide +kernel
theorem dX4_trapParts_9 : decode cX4_trapParts 9 = .ok (.aload_n 0, 1) := by decide +kernel
theorem dX4_trapParts_10 : decode cX4_trapParts 10 = .ok (.getfield 11, 3) := by decide +kernel
theorem dX4_trapParts_13 : decode cX4_trapParts 13 = .ok (.if_icmp .ge 33, 3) := by decide +kernel
theorem dX4_trapParts_16 : decode cX4_trapParts 16 = .ok (.aload_n 0, 1) := by decide +kernel
theorem dX4_trapParts_17 : decode cX4_trapParts 17 = .ok (.getfield 56, 3) := by decide +kernel
theorem dX4_trapParts_20 : decode cX4_trapParts 20 = .ok (.iload_n 2, 1) := by decide +kernel
theorem dX4_trapParts_21 : decode cX4_trapParts 21 = .ok (.iaload, 1) := by decide +kernel
theorem dX4_trapParts_22 : decode cX4_trapParts 22 = .ok (.iconst (-1), 1) := by decide +kernel
theorem dX4_trapParts_23 : decode cX4_trapParts 23 = .ok (.if_icmp .ne 17, 3) := by decide +kernel
theorem dX4_trapParts_26 : decode cX4_trapParts 26 = .ok (.iload_n 1, 1) := by decide +kernel
theorem dX4_trapParts_27 : decode cX4_trapParts 27 = .ok (.iconst 1, 1) := by decide +kernel
theorem dX4_trapParts_28 : decode cX4_trapParts 28 = .ok (.aload_n 0, 1) := by decide +kernel
theorem dX4_trapParts_29 : decode cX4_trapParts 29 = .ok (.getfield 31, 3) := by decide +kernel
theorem dX4_trapParts_32 : decode cX4_trapParts 32 = .ok (.iload_n 2, 1) := by decide +kernel
theorem dX4_trapParts_33 : decode cX4_trapParts 33 = .ok (.iaload, 1) := by decide +kernel
theorem dX4_trapParts_34 : decode cX4_trapParts 34 = .ok (.invokestatic 117, 3) := by decide +kernel
theorem dX4_trapParts_37 : decode cX4_trapParts 37 = .ok (.ishl, 1) := by decide +kernel
theorem dX4_trapParts_38 : decode cX4_trapParts 38 = .ok (.ior, 1) := by decide +kernel
theorem dX4_trapParts_39 : decode cX4_trapParts 39 = .ok (.istore_n 1, 1) := by decide +kernel
theorem dX4_trapParts_40 : decode cX4_trapParts 40 = .ok (.iinc 2 1, 3) := by decide +kernel
theorem dX4_trapParts_43 : decode cX4_trapParts 43 = .ok (.goto (-35), 3) := by decide +kernel
theorem dX4_trapParts_46 : decode cX4_trapParts 46 = .ok (.iload_n 1, 1) := by decide +kernel
theorem dX4_trapParts_47 : decode cX4_trapParts 47 = .ok (.ireturn, 1) := by decide +kernel
theorem dX4_holeParts_0 : decode cX4_holeParts 0 = .ok (.iconst 0, 1) := by decide +kernel
theorem dX4_holeParts_1 : decode cX4_holeParts 1 = .ok (.istore_n 1, 1) := by decide +kernel
theorem dX4_holeParts_2 : decode cX4_holeParts 2 = .ok (.iconst 0, 1) := by decide +kernel
theorem dX4_holeParts_3 : decode cX4_holeParts 3 = .ok (.istore_n 2, 1) := by decide +kernel
theorem dX4_holeParts_4 : decode cX4_holeParts 4 = .ok (.iload_n 2, 1) := by decide +kernel
theorem dX4_holeParts_5 : decode cX4_holeParts 5 = .ok (.aload_n 0, 1) := by decide +kernel
theorem dX4_holeParts_6 : decode cX4_holeParts 6 = .ok (.getfield 11, 3) := by decide +kernel
theorem dX4_holeParts_9 : decode cX4_holeParts 9 = .ok (.if_icmp .ge 48, 3) := by decide +kernel
theorem dX4_holeParts_12 : decode cX4_holeParts 12 = .ok (.aload_n 0, 1) := by decide +kernel
theorem dX4_holeParts_13 : decode cX4_holeParts 13 = .ok (.getfield 35, 3) := by decide +kernel
theorem dX4_holeParts_16 : decode cX4_holeParts 16 = .ok (.iload_n 2, 1) := by decide +kernel
theorem dX4_holeParts_17 : decode cX4_holeParts 17 = .ok (.iaload, 1) := by decide +kernel
theorem dX4_holeParts_18 : decode cX4_holeParts 18 = .ok (.aload_n 0, 1) := by decide +kernel
theorem dX4_holeParts_19 : decode cX4_holeParts 19 = .ok (.getfield 35, 3) := by decide +kernel
theorem dX4_holeParts_22 : decode cX4_holeParts 22 = .ok (.iload_n 2, 1) := by decide +kernel
theorem dX4_holeParts_23 : decode cX4_holeParts 23 = .ok (.iconst 1, 1) := by decide +kernel
theorem dX4_holeParts_24 : decode cX4_holeParts 24 = .ok (.iadd, 1) := by decide +kernel
theorem dX4_holeParts_25 : decode cX4_holeParts 25 = .ok (.iaload, 1) := by decide +kernel
theorem dX4_holeParts_26 : decode cX4_holeParts 26 = .ok (.if_icmp .ne 25, 3) := by decide +kernel
theorem dX4_holeParts_29 : decode cX4_holeParts 29 = .ok (.aload_n 0, 1) := by decide +kernel
theorem dX4_holeParts_30 : decode cX4_holeParts 30 = .ok (.iload_n 2, 1) := by decide +kernel
theorem dX4_holeParts_31 : decode cX4_holeParts 31 = .ok (.invokevirtual 107, 3) := by decide +kernel
theorem dX4_holeParts_34 : decode cX4_holeParts 34 = .ok (.ifCond .ne 17, 3) := by decide +kernel
theorem dX4_holeParts_37 : decode cX4_holeParts 37 = .ok (.iload_n 1, 1) := by decide +kernel
theorem dX4_holeParts_38 : decode cX4_holeParts 38 = .ok (.iconst 1, 1) := by decide +kernel
theorem dX4_holeParts_39 : decode cX4_holeParts 39 = .ok (.aload_n 0, 1) := by decide +kernel
theorem dX4_holeParts_40 : decode cX4_holeParts 40 = .ok (.getfield 31, 3) := by decide +kernel
theorem dX4_holeParts_43 : decode cX4_holeParts 43 = .ok (.iload_n 2, 1) := by decide +kernel
theorem dX4_holeParts_44 : decode cX4_holeParts 44 = .ok (.iaload, 1) := by decide +kernel
theorem dX4_holeParts_45 : decode cX4_holeParts 45 = .ok (.invokestatic 117, 3) := by decide +kernel
theorem dX4_holeParts_48 : decode cX4_holeParts 48 = .ok (.ishl, 1) := by decide +kernel
theorem dX4_holeParts_49 : decode cX4_holeParts 49 = .ok (.ior, 1) := by decide +kernel
theorem dX4_holeParts_50 : decode cX4_holeParts 50 = .ok (.istore_n 1, 1) := by decide +kernel
theorem dX4_holeParts_51 : decode cX4_holeParts 51 = .ok (.iinc 2 1, 3) := by decide +kernel
theorem dX4_holeParts_54 : decode cX4_holeParts 54 = .ok (.goto (-50), 3) := by decide +kernel
theorem dX4_holeParts_57 : decode cX4_holeParts 57 = .ok (.iload_n 1, 1) := by decide +kernel
theorem dX4_holeParts_58 : decode cX4_holeParts 58 = .ok (.ireturn, 1) := by decide +kernel
theorem dX4_hadThings_0 : decode cX4_hadThings 0 = .ok (.iconst 0, 1) := by decide +kernel
theorem dX4_hadThings_1 : decode cX4_hadThings 1 = .ok (.istore_n 1, 1) := by decide +kernel
theorem dX4_hadThings_2 : decode cX4_hadThings 2 = .ok (.iconst 0, 1) := by decide +kernel
theorem dX4_hadThings_3 : decode cX4_hadThings 3 = .ok (.istore_n 2, 1) := by decide +kernel
theorem dX4_hadThings_4 : decode cX4_hadThings 4 = .ok (.iload_n 2, 1) := by decide +kernel
theorem dX4_hadThings_5 : decode cX4_hadThings 5 = .ok (.aload_n 0, 1) := by decide +kernel
theorem dX4_hadThings_6 : decode cX4_hadThings 6 = .ok (.getfield 11, 3) := by decide +kernel
theorem dX4_hadThings_9 : decode cX4_hadThings 9 = .ok (.if_icmp .ge 21, 3) := by decide +kernel
theorem dX4_hadThings_12 : decode cX4_hadThings 12 = .ok (.iload_n 1, 1) := by decide +kernel
theorem dX4_hadThings_13 : decode cX4_hadThings 13 = .ok (.aload_n 0, 1) := by decide +kernel
theorem dX4_hadThings_14 : decode cX4_hadThings 14 = .ok (.getfield 31, 3) := by decide +kernel
theorem dX4_hadThings_17 : decode cX4_hadThings 17 = .ok (.iload_n 2, 1) := by decide +kernel
theorem dX4_hadThings_18 : decode cX4_hadThings 18 = .ok (.iaload, 1) := by decide +kernel
theorem dX4_hadThings_19 : decode cX4_hadThings 19 = .ok (.invokestatic 120, 3) := by decide +kernel
theorem dX4_hadThings_22 : decode cX4_hadThings 22 = .ok (.ior, 1) := by decide +kernel
theorem dX4_hadThings_23 : decode cX4_hadThings 23 = .ok (.istore_n 1, 1) := by decide +kernel
theorem dX4_hadThings_24 : decode cX4_hadThings 24 = .ok (.iinc 2 1, 3) := by decide +kernel
theorem dX4_hadThings_27 : decode cX4_hadThings 27 = .ok (.goto (-23), 3) := by decide +kernel
theorem dX4_hadThings_30 : decode cX4_hadThings 30 = .ok (.iload_n 1, 1) := by decide +kernel
theorem dX4_hadThings_31 : decode cX4_hadThings 31 = .ok (.ireturn, 1) := by decide +kernel
theorem dX4_slotOf_0 : decode cX4_slotOf 0 = .ok (.iload_n 0, 1) := by decide +kernel
theorem dX4_slotOf_1 : decode cX4_slotOf 1 = .ok (.bipush 6, 2) := by decide +kernel
theorem dX4_slotOf_3 : decode cX4_slotOf 3 = .ok (.ishr, 1) := by decide +kernel
theorem dX4_slotOf_4 : decode cX4_slotOf 4 = .ok (.bipush 9, 2) := by decide +kernel
theorem dX4_slotOf_6 : decode cX4_slotOf 6 = .ok (.imul, 1) := by decide +kernel
theorem dX4_slotOf_7 : decode cX4_slotOf 7 = .ok (.iload_n 0, 1) := by decide +kernel
theorem dX4_slotOf_8 : decode cX4_slotOf 8 = .ok (.iconst 2, 1) := by decide +kernel
theorem dX4_slotOf_9 : decode cX4_slotOf 9 = .ok (.ishr, 1) := by decide +kernel
theorem dX4_slotOf_10 : decode cX4_slotOf 10 = .ok (.bipush 15, 2) := by decide +kernel
theorem dX4_slotOf_12 : decode cX4_slotOf 12 = .ok (.iand, 1) := by decide +kernel
theorem dX4_slotOf_13 : decode cX4_slotOf 13 = .ok (.iadd, 1) := by decide +kernel
theorem dX4_slotOf_14 : decode cX4_slotOf 14 = .ok (.iconst 1, 1) := by decide +kernel
theorem dX4_slotOf_15 : decode cX4_slotOf 15 = .ok (.isub, 1) := by decide +kernel
theorem dX4_slotOf_16 : decode cX4_slotOf 16 = .ok (.ireturn, 1) := by decide +kernel
theorem dX4_hasWon_0 : decode cX4_hasWon 0 = .ok (.aload_n 0, 1) := by decide +kernel
theorem dX4_hasWon_1 : decode cX4_hasWon 1 = .ok (.getfield 31, 3) := by decide +kernel
theorem dX4_hasWon_4 : decode cX4_hasWon 4 = .ok (.iload_n 1, 1) := by decide +kernel
theorem dX4_hasWon_5 : decode cX4_hasWon 5 = .ok (.iaload, 1) := by decide +kernel
theorem dX4_hasWon_6 : decode cX4_hasWon 6 = .ok (.invokestatic 92, 3) := by decide +kernel
theorem dX4_hasWon_9 : decode cX4_hasWon 9 = .ok (.iconst 1, 1) := by decide +kernel
theorem dX4_hasWon_10 : decode cX4_hasWon 10 = .ok (.if_icmp .ne 7, 3) := by decide +kernel
theorem dX4_hasWon_13 : decode cX4_hasWon 13 = .ok (.iconst 1, 1) := by decide +kernel
theorem dX4_hasWon_14 : decode cX4_hasWon 14 = .ok (.goto 4, 3) := by decide +kernel
theorem dX4_hasWon_17 : decode cX4_hasWon 17 = .ok (.iconst 0, 1) := by decide +kernel
theorem dX4_hasWon_18 : decode cX4_hasWon 18 = .ok (.ireturn, 1) := by decide +kernel
theorem dX4_forget_0 : decode cX4_forget 0 = .ok (.iconst 0, 1) := by decide +kernel
theorem dX4_forget_1 : decode cX4_forget 1 = .ok (.istore_n 1, 1) := by decide +kernel
theorem dX4_forget_2 : decode cX4_forget 2 = .ok (.iload_n 1, 1) := by decide +kernel
theorem dX4_forget_3 : decode cX4_forget 3 = .ok (.aload_n 0, 1) := by decide +kernel
theorem dX4_forget_4 : decode cX4_forget 4 = .ok (.getfield 22, 3) := by decide +kernel
theorem dX4_forget_7 : decode cX4_forget 7 = .ok (.if_icmp .ge 39, 3) := by decide +kernel
theorem dX4_forget_10 : decode cX4_forget 10 = .ok (.aload_n 0, 1) := by decide +kernel
theorem dX4_forget_11 : decode cX4_forget 11 = .ok (.getfield 31, 3) := by decide +kernel
theorem dX4_forget_14 : decode cX4_forget 14 = .ok (.iload_n 1, 1) := by decide +kernel
theorem dX4_forget_15 : decode cX4_forget 15 = .ok (.iaload, 1) := by decide +kernel
theorem dX4_forget_16 : decode cX4_forget 16 = .ok (.invokestatic 89, 3) := by decide +kernel
theorem dX4_forget_19 : decode cX4_forget 19 = .ok (.istore_n 2, 1) := by decide +kernel
theorem dX4_forget_20 : decode cX4_forget 20 = .ok (.iload_n 2, 1) := by decide +kernel
theorem dX4_forget_21 : decode cX4_forget 21 = .ok (.ifCond .lt 19, 3) := by decide +kernel
theorem dX4_forget_24 : decode cX4_forget 24 = .ok (.iload_n 2, 1) := by decide +kernel
theorem dX4_forget_25 : decode cX4_forget 25 = .ok (.aload_n 0, 1) := by decide +kernel
theorem dX4_forget_26 : decode cX4_forget 26 = .ok (.getfield 41, 3) := by decide +kernel
theorem dX4_forget_29 : decode cX4_forget 29 = .ok (.arraylength, 1) := by decide +kernel
theorem dX4_forget_30 : decode cX4_forget 30 = .ok (.if_icmp .ge 10, 3) := by decide +kernel
theorem dX4_forget_33 : decode cX4_forget 33 = .ok (.aload_n 0, 1) := by decide +kernel
theorem dX4_forget_34 : decode cX4_forget 34 = .ok (.getfield 41, 3) := by decide +kernel
theorem dX4_forget_37 : decode cX4_forget 37 = .ok (.iload_n 2, 1) := by decide +kernel
theorem dX4_forget_38 : decode cX4_forget 38 = .ok (.iconst 0, 1) := by decide +kernel
theorem dX4_forget_39 : decode cX4_forget 39 = .ok (.iastore, 1) := by decide +kernel
theorem dX4_forget_40 : decode cX4_forget 40 = .ok (.iinc 1 1, 3) := by decide +kernel
theorem dX4_forget_43 : decode cX4_forget 43 = .ok (.goto (-41), 3) := by decide +kernel
theorem dX4_forget_46 : decode cX4_forget 46 = .ok (.aload_n 0, 1) := by decide +kernel
theorem dX4_forget_47 : decode cX4_forget 47 = .ok (.getfield 62, 3) := by decide +kernel
theorem dX4_forget_50 : decode cX4_forget 50 = .ok (.getfield 123, 3) := by decide +kernel
theorem dX4_forget_53 : decode cX4_forget 53 = .ok (.sipush 2304, 3) := by decide +kernel
theorem dX4_forget_56 : decode cX4_forget 56 = .ok (.imul, 1) := by decide +kernel
theorem dX4_forget_57 : decode cX4_forget 57 = .ok (.istore_n 1, 1) := by decide +kernel
theorem dX4_forget_58 : decode cX4_forget 58 = .ok (.aload_n 0, 1) := by decide +kernel
theorem dX4_forget_59 : decode cX4_forget 59 = .ok (.getfield 41, 3) := by decide +kernel
theorem dX4_forget_62 : decode cX4_forget 62 = .ok (.arraylength, 1) := by decide +kernel
theorem dX4_forget_63 : decode cX4_forget 63 = .ok (.iload_n 1, 1) := by decide +kernel
theorem dX4_forget_64 : decode cX4_forget 64 = .ok (.if_icmp .ge 10, 3) := by decide +kernel
theorem dX4_forget_67 : decode cX4_forget 67 = .ok (.aload_n 0, 1) := by decide +kernel
theorem dX4_forget_68 : decode cX4_forget 68 = .ok (.iload_n 1, 1) := by decide +kernel
theorem dX4_forget_69 : decode cX4_forget 69 = .ok (.newarray .int, 2) := by decide +kernel
theorem dX4_forget_71 : decode cX4_forget 71 = .ok (.putfield 41, 3) := by decide +kernel
theorem dX4_forget_74 : decode cX4_forget 74 = .ok (.aload_n 0, 1) := by decide +kernel
theorem dX4_forget_75 : decode cX4_forget 75 = .ok (.iconst 0, 1) := by decide +kernel
theorem dX4_forget_76 : decode cX4_forget 76 = .ok (.putfield 22, 3) := by decide +kernel
theorem dX4_forget_79 : decode cX4_forget 79 = .ok (.aload_n 0, 1) := by decide +kernel
theorem dX4_forget_80 : decode cX4_forget 80 = .ok (.iconst 0, 1) := by decide +kernel
theorem dX4_forget_81 : decode cX4_forget 81 = .ok (.putfield 25, 3) := by decide +kernel
theorem dX4_forget_84 : decode cX4_forget 84 = .ok (.aload_n 0, 1) := by decide +kernel
theorem dX4_forget_85 : decode cX4_forget 85 = .ok (.iconst 0, 1) := by decide +kernel
theorem dX4_forget_86 : decode cX4_forget 86 = .ok (.putfield 28, 3) := by decide +kernel
theorem dX4_forget_89 : decode cX4_forget 89 = .ok (.aload_n 0, 1) := by decide +kernel
theorem dX4_forget_90 : decode cX4_forget 90 = .ok (.invokevirtual 86, 3) := by decide +kernel
theorem dX4_forget_93 : decode cX4_forget 93 = .ok (.return_, 1) := by decide +kernel
theorem dX4_forgetResults_0 : decode cX4_forgetResults 0 = .ok (.aload_n 0, 1) := by decide +kernel
theorem dX4_forgetResults_1 : decode cX4_forgetResults 1 = .ok (.iconst (-1), 1) := by decide +kernel
theorem dX4_forgetResults_2 : decode cX4_forgetResults 2 = .ok (.putfield 50, 3) := by decide +kernel
theorem dX4_forgetResults_5 : decode cX4_forgetResults 5 = .ok (.aload_n 0, 1) := by decide +kernel
theorem dX4_forgetResults_6 : decode cX4_forgetResults 6 = .ok (.iconst 0, 1) := by decide +kernel
theorem dX4_forgetResults_7 : decode cX4_forgetResults 7 = .ok (.putfield 59, 3) := by decide +kernel
theorem dX4_forgetResults_10 : decode cX4_forgetResults 10 = .ok (.return_, 1) := by decide +kernel
theorem dX4_spread_0 : decode cX4_spread 0 = .ok (.iconst 0, 1) := by decide +kernel
theorem dX4_spread_1 : decode cX4_spread 1 = .ok (.istore 5, 2) := by decide +kernel
theorem dX4_spread_3 : decode cX4_spread 3 = .ok (.iload_n 1, 1) := by decide +kernel
theorem dX4_spread_4 : decode cX4_spread 4 = .ok (.istore 6, 2) := by decide +kernel
theorem dX4_spread_6 : decode cX4_spread 6 = .ok (.iload 6, 2) := by decide +kernel
theorem dX4_spread_8 : decode cX4_spread 8 = .ok (.aload_n 0, 1) := by decide +kernel
theorem dX4_spread_9 : decode cX4_spread 9 = .ok (.getfield 22, 3) := by decide +kernel
theorem dX4_spread_12 : decode cX4_spread 12 = .ok (.if_icmp .ge 170, 3) := by decide +kernel
theorem dX4_spread_15 : decode cX4_spread 15 = .ok (.iload 6, 2) := by decide +kernel
theorem dX4_spread_17 : decode cX4_spread 17 = .ok (.ldc 126, 2) := by decide +kernel
theorem dX4_spread_19 : decode cX4_spread 19 = .ok (.if_icmp .ge 163, 3) := by decide +kernel
theorem dX4_spread_22 : decode cX4_spread 22 = .ok (.aload_n 0, 1) := by decide +kernel
theorem dX4_spread_23 : decode cX4_spread 23 = .ok (.getfield 31, 3) := by decide +kernel
theorem dX4_spread_26 : decode cX4_spread 26 = .ok (.iload 6, 2) := by decide +kernel
theorem dX4_spread_28 : decode cX4_spread 28 = .ok (.iaload, 1) := by decide +kernel
theorem dX4_spread_29 : decode cX4_spread 29 = .ok (.istore 7, 2) := by decide +kernel
theorem dX4_spread_31 : decode cX4_spread 31 = .ok (.iload 5, 2) := by decide +kernel
theorem dX4_spread_33 : decode cX4_spread 33 = .ok (.ifCond .ne 12, 3) := by decide +kernel
theorem dX4_spread_36 : decode cX4_spread 36 = .ok (.iload 7, 2) := by decide +kernel
theorem dX4_spread_38 : decode cX4_spread 38 = .ok (.invokestatic 92, 3) := by decide +kernel
theorem dX4_spread_41 : decode cX4_spread 41 = .ok (.iconst 1, 1) := by decide +kernel
theorem dX4_spread_42 : decode cX4_spread 42 = .ok (.if_icmp .ne 7, 3) := by decide +kernel
theorem dX4_spread_45 : decode cX4_spread 45 = .ok (.iconst 1, 1) := by decide +kernel
theorem dX4_spread_46 : decode cX4_spread 46 = .ok (.goto 4, 3) := by decide +kernel
theorem dX4_spread_49 : decode cX4_spread 49 = .ok (.iconst 0, 1) := by decide +kernel
theorem dX4_spread_50 : decode cX4_spread 50 = .ok (.istore 5, 2) := by decide +kernel
theorem dX4_spread_52 : decode cX4_spread 52 = .ok (.iload 5, 2) := by decide +kernel
theorem dX4_spread_54 : decode cX4_spread 54 = .ok (.ifCond .eq 10, 3) := by decide +kernel
theorem dX4_spread_57 : decode cX4_spread 57 = .ok (.iload 4, 2) := by decide +kernel
theorem dX4_spread_59 : decode cX4_spread 59 = .ok (.ifCond .eq 5, 3) := by decide +kernel
theorem dX4_spread_62 : decode cX4_spread 62 = .ok (.iconst 1, 1) := by decide +kernel
theorem dX4_spread_63 : decode cX4_spread 63 = .ok (.ireturn, 1) := by decide +kernel
theorem dX4_spread_64 : decode cX4_spread 64 = .ok (.aload_n 0, 1) := by decide +kernel
theorem dX4_spread_65 : decode cX4_spread 65 = .ok (.getfield 35, 3) := by decide +kernel
theorem dX4_spread_68 : decode cX4_spread 68 = .ok (.iload 6, 2) := by decide +kernel
theorem dX4_spread_70 : decode cX4_spread 70 = .ok (.aload_n 0, 1) := by decide +kernel
theorem dX4_spread_71 : decode cX4_spread 71 = .ok (.getfield 25, 3) := by decide +kernel
theorem dX4_spread_74 : decode cX4_spread 74 = .ok (.iastore, 1) := by decide +kernel
theorem dX4_spread_75 : decode cX4_spread 75 = .ok (.aload_n 0, 1) := by decide +kernel
theorem dX4_spread_76 : decode cX4_spread 76 = .ok (.getfield 62, 3) := by decide +kernel
theorem dX4_spread_79 : decode cX4_spread 79 = .ok (.iload 7, 2) := by decide +kernel
theorem dX4_spread_81 : decode cX4_spread 81 = .ok (.invokestatic 117, 3) := by decide +kernel
theorem dX4_spread_84 : decode cX4_spread 84 = .ok (.invokevirtual 127, 3) := by decide +kernel
theorem dX4_spread_87 : decode cX4_spread 87 = .ok (.istore 8, 2) := by decide +kernel
theorem dX4_spread_89 : decode cX4_spread 89 = .ok (.iconst 0, 1) := by decide +kernel
theorem dX4_spread_90 : decode cX4_spread 90 = .ok (.istore 9, 2) := by decide +kernel
theorem dX4_spread_92 : decode cX4_spread 92 = .ok (.iload 9, 2) := by decide +kernel
theorem dX4_spread_94 : decode cX4_spread 94 = .ok (.iload 8, 2) := by decide +kernel
theorem dX4_spread_96 : decode cX4_spread 96 = .ok (.if_icmp .ge 67, 3) := by decide +kernel
theorem dX4_spread_99 : decode cX4_spread 99 = .ok (.aload_n 0, 1) := by decide +kernel
theorem dX4_spread_100 : decode cX4_spread 100 = .ok (.getfield 62, 3) := by decide +kernel
theorem dX4_spread_103 : decode cX4_spread 103 = .ok (.iload 7, 2) := by decide +kernel
theorem dX4_spread_105 : decode cX4_spread 105 = .ok (.iload 9, 2) := by decide +kernel
theorem dX4_spread_107 : decode cX4_spread 107 = .ok (.invokevirtual 130, 3) := by decide +kernel
theorem dX4_spread_110 : decode cX4_spread 110 = .ok (.istore 10, 2) := by decide +kernel
theorem dX4_spread_112 : decode cX4_spread 112 = .ok (.iload 10, 2) := by decide +kernel
theorem dX4_spread_114 : decode cX4_spread 114 = .ok (.iconst (-1), 1) := by decide +kernel
theorem dX4_spread_115 : decode cX4_spread 115 = .ok (.if_icmp .eq 42, 3) := by decide +kernel
theorem dX4_spread_118 : decode cX4_spread 118 = .ok (.iload 10, 2) := by decide +kernel
theorem dX4_spread_120 : decode cX4_spread 120 = .ok (.iload_n 3, 1) := by decide +kernel
theorem dX4_spread_121 : decode cX4_spread 121 = .ok (.if_icmp .eq 36, 3) := by decide +kernel
theorem dX4_spread_124 : decode cX4_spread 124 = .ok (.aload_n 0, 1) := by decide +kernel
theorem dX4_spread_125 : decode cX4_spread 125 = .ok (.dup, 1) := by decide +kernel
theorem dX4_spread_126 : decode cX4_spread 126 = .ok (.getfield 28, 3) := by decide +kernel
theorem dX4_spread_129 : decode cX4_spread 129 = .ok (.iconst 1, 1) := by decide +kernel
theorem dX4_spread_130 : decode cX4_spread 130 = .ok (.iload 10, 2) := by decide +kernel
theorem dX4_spread_132 : decode cX4_spread 132 = .ok (.ishl, 1) := by decide +kernel
theorem dX4_spread_133 : decode cX4_spread 133 = .ok (.ior, 1) := by decide +kernel
theorem dX4_spread_134 : decode cX4_spread 134 = .ok (.putfield 28, 3) := by decide +kernel
theorem dX4_spread_137 : decode cX4_spread 137 = .ok (.aload_n 0, 1) := by decide +kernel
theorem dX4_spread_138 : decode cX4_spread 138 = .ok (.aload_n 0, 1) := by decide +kernel
theorem dX4_spread_139 : decode cX4_spread 139 = .ok (.aload_n 0, 1) := by decide +kernel
theorem dX4_spread_140 : decode cX4_spread 140 = .ok (.getfield 62, 3) := by decide +kernel
theorem dX4_spread_143 : decode cX4_spread 143 = .ok (.iload 7, 2) := by decide +kernel
theorem dX4_spread_145 : decode cX4_spread 145 = .ok (.iload 10, 2) := by decide +kernel
theorem dX4_spread_147 : decode cX4_spread 147 = .ok (.iload_n 2, 1) := by decide +kernel
theorem dX4_spread_148 : decode cX4_spread 148 = .ok (.invokevirtual 134, 3) := by decide +kernel
theorem dX4_spread_151 : decode cX4_spread 151 = .ok (.invokevirtual 79, 3) := by decide +kernel
theorem dX4_spread_154 : decode cX4_spread 154 = .ok (.invokevirtual 138, 3) := by decide +kernel
theorem dX4_spread_157 : decode cX4_spread 157 = .ok (.iinc 9 1, 3) := by decide +kernel
theorem dX4_spread_160 : decode cX4_spread 160 = .ok (.goto (-68), 3) := by decide +kernel
theorem dX4_spread_163 : decode cX4_spread 163 = .ok (.aload_n 0, 1) := by decide +kernel
theorem dX4_spread_164 : decode cX4_spread 164 = .ok (.getfield 35, 3) := by decide +kernel
theorem dX4_spread_167 : decode cX4_spread 167 = .ok (.iload 6, 2) := by decide +kernel
theorem dX4_spread_169 : decode cX4_spread 169 = .ok (.iconst 1, 1) := by decide +kernel
theorem dX4_spread_170 : decode cX4_spread 170 = .ok (.iadd, 1) := by decide +kernel
theorem dX4_spread_171 : decode cX4_spread 171 = .ok (.aload_n 0, 1) := by decide +kernel
theorem dX4_spread_172 : decode cX4_spread 172 = .ok (.getfield 25, 3) := by decide +kernel
theorem dX4_spread_175 : decode cX4_spread 175 = .ok (.iastore, 1) := by decide +kernel
theorem dX4_spread_176 : decode cX4_spread 176 = .ok (.iinc 6 1, 3) := by decide +kernel
theorem dX4_spread_179 : decode cX4_spread 179 = .ok (.goto (-173), 3) := by decide +kernel
theorem dX4_spread_182 : decode cX4_spread 182 = .ok (.iload 5, 2) := by decide +kernel
theorem dX4_spread_184 : decode cX4_spread 184 = .ok (.ireturn, 1) := by decide +kernel
theorem dX4_meet_0 : decode cX4_meet 0 = .ok (.aload_n 0, 1) := by decide +kernel
theorem dX4_meet_1 : decode cX4_meet 1 = .ok (.iload_n 1, 1) := by decide +kernel
theorem dX4_meet_2 : decode cX4_meet 2 = .ok (.invokevirtual 142, 3) := by decide +kernel
theorem dX4_meet_5 : decode cX4_meet 5 = .ok (.istore_n 2, 1) := by decide +kernel
theorem dX4_meet_6 : decode cX4_meet 6 = .ok (.iload_n 1, 1) := by decide +kernel
theorem dX4_meet_7 : decode cX4_meet 7 = .ok (.invokestatic 89, 3) := by decide +kernel
theorem dX4_meet_10 : decode cX4_meet 10 = .ok (.istore_n 3, 1) := by decide +kernel
theorem dX4_meet_11 : decode cX4_meet 11 = .ok (.iload_n 2, 1) := by decide +kernel
theorem dX4_meet_12 : decode cX4_meet 12 = .ok (.iconst (-1), 1) := by decide +kernel
theorem dX4_meet_13 : decode cX4_meet 13 = .ok (.if_icmp .ne 11, 3) := by decide +kernel
theorem dX4_meet_16 : decode cX4_meet 16 = .ok (.iload_n 1, 1) := by decide +kernel
theorem dX4_meet_17 : decode cX4_meet 17 = .ok (.invokestatic 92, 3) := by decide +kernel
theorem dX4_meet_20 : decode cX4_meet 20 = .ok (.iconst 2, 1) := by decide +kernel
theorem dX4_meet_21 : decode cX4_meet 21 = .ok (.if_icmp .ne 5, 3) := by decide +kernel
theorem dX4_meet_24 : decode cX4_meet 24 = .ok (.iload_n 2, 1) := by decide +kernel
theorem dX4_meet_25 : decode cX4_meet 25 = .ok (.ireturn, 1) := by decide +kernel
theorem dX4_meet_26 : decode cX4_meet 26 = .ok (.aload_n 0, 1) := by decide +kernel
theorem dX4_meet_27 : decode cX4_meet 27 = .ok (.getfield 22, 3) := by decide +kernel
theorem dX4_meet_30 : decode cX4_meet 30 = .ok (.ldc 126, 2) := by decide +kernel
theorem dX4_meet_32 : decode cX4_meet 32 = .ok (.if_icmp .ge 16, 3) := by decide +kernel
theorem dX4_meet_35 : decode cX4_meet 35 = .ok (.iload_n 3, 1) := by decide +kernel
theorem dX4_meet_36 : decode cX4_meet 36 = .ok (.ifCond .lt 12, 3) := by decide +kernel
theorem dX4_meet_39 : decode cX4_meet 39 = .ok (.iload_n 3, 1) := by decide +kernel
theorem dX4_meet_40 : decode cX4_meet 40 = .ok (.aload_n 0, 1) := by decide +kernel
theorem dX4_meet_41 : decode cX4_meet 41 = .ok (.getfield 41, 3) := by decide +kernel
theorem dX4_meet_44 : decode cX4_meet 44 = .ok (.arraylength, 1) := by decide +kernel
theorem dX4_meet_45 : decode cX4_meet 45 = .ok (.if_icmp .lt 5, 3) := by decide +kernel
theorem dX4_meet_48 : decode cX4_meet 48 = .ok (.iconst (-1), 1) := by decide +kernel
theorem dX4_meet_49 : decode cX4_meet 49 = .ok (.ireturn, 1) := by decide +kernel
theorem dX4_meet_50 : decode cX4_meet 50 = .ok (.aload_n 0, 1) := by decide +kernel
theorem dX4_meet_51 : decode cX4_meet 51 = .ok (.getfield 22, 3) := by decide +kernel
theorem dX4_meet_54 : decode cX4_meet 54 = .ok (.aload_n 0, 1) := by decide +kernel
theorem dX4_meet_55 : decode cX4_meet 55 = .ok (.getfield 31, 3) := by decide +kernel
theorem dX4_meet_58 : decode cX4_meet 58 = .ok (.arraylength, 1) := by decide +kernel
theorem dX4_meet_59 : decode cX4_meet 59 = .ok (.if_icmp .lt 45, 3) := by decide +kernel
theorem dX4_meet_62 : decode cX4_meet 62 = .ok (.ldc 126, 2) := by decide +kernel
theorem dX4_meet_64 : decode cX4_meet 64 = .ok (.iconst 2, 1) := by decide +kernel
theorem dX4_meet_65 : decode cX4_meet 65 = .ok (.aload_n 0, 1) := by decide +kernel
theorem dX4_meet_66 : decode cX4_meet 66 = .ok (.getfield 31, 3) := by decide +kernel
theorem dX4_meet_69 : decode cX4_meet 69 = .ok (.arraylength, 1) := by decide +kernel
theorem dX4_meet_70 : decode cX4_meet 70 = .ok (.imul, 1) := by decide +kernel
theorem dX4_meet_71 : decode cX4_meet 71 = .ok (.invokestatic 145, 3) := by decide +kernel
theorem dX4_meet_74 : decode cX4_meet 74 = .ok (.istore 4, 2) := by decide +kernel
theorem dX4_meet_76 : decode cX4_meet 76 = .ok (.aload_n 0, 1) := by decide +kernel
theorem dX4_meet_77 : decode cX4_meet 77 = .ok (.aload_n 0, 1) := by decide +kernel
theorem dX4_meet_78 : decode cX4_meet 78 = .ok (.getfield 31, 3) := by decide +kernel
theorem dX4_meet_81 : decode cX4_meet 81 = .ok (.iload 4, 2) := by decide +kernel
theorem dX4_meet_83 : decode cX4_meet 83 = .ok (.invokestatic 150, 3) := by decide +kernel
theorem dX4_meet_86 : decode cX4_meet 86 = .ok (.putfield 31, 3) := by decide +kernel
theorem dX4_meet_89 : decode cX4_meet 89 = .ok (.aload_n 0, 1) := by decide +kernel
theorem dX4_meet_90 : decode cX4_meet 90 = .ok (.aload_n 0, 1) := by decide +kernel
theorem dX4_meet_91 : decode cX4_meet 91 = .ok (.getfield 35, 3) := by decide +kernel
theorem dX4_meet_94 : decode cX4_meet 94 = .ok (.iload 4, 2) := by decide +kernel
theorem dX4_meet_96 : decode cX4_meet 96 = .ok (.iconst 1, 1) := by decide +kernel
theorem dX4_meet_97 : decode cX4_meet 97 = .ok (.iadd, 1) := by decide +kernel
theorem dX4_meet_98 : decode cX4_meet 98 = .ok (.invokestatic 150, 3) := by decide +kernel
theorem dX4_meet_101 : decode cX4_meet 101 = .ok (.putfield 35, 3) := by decide +kernel
theorem dX4_meet_104 : decode cX4_meet 104 = .ok (.aload_n 0, 1) := by decide +kernel
theorem dX4_meet_105 : decode cX4_meet 105 = .ok (.getfield 31, 3) := by decide +kernel
theorem dX4_meet_108 : decode cX4_meet 108 = .ok (.aload_n 0, 1) := by decide +kernel
theorem dX4_meet_109 : decode cX4_meet 109 = .ok (.getfield 22, 3) := by decide +kernel
theorem dX4_meet_112 : decode cX4_meet 112 = .ok (.iload_n 1, 1) := by decide +kernel
theorem dX4_meet_113 : decode cX4_meet 113 = .ok (.iastore, 1) := by decide +kernel
theorem dX4_meet_114 : decode cX4_meet 114 = .ok (.aload_n 0, 1) := by decide +kernel
theorem dX4_meet_115 : decode cX4_meet 115 = .ok (.dup, 1) := by decide +kernel
theorem dX4_meet_116 : decode cX4_meet 116 = .ok (.getfield 22, 3) := by decide +kernel
theorem dX4_meet_119 : decode cX4_meet 119 = .ok (.iconst 1, 1) := by decide +kernel
theorem dX4_meet_120 : decode cX4_meet 120 = .ok (.iadd, 1) := by decide +kernel
theorem dX4_meet_121 : decode cX4_meet 121 = .ok (.putfield 22, 3) := by decide +kernel
theorem dX4_meet_124 : decode cX4_meet 124 = .ok (.aload_n 0, 1) := by decide +kernel
theorem dX4_meet_125 : decode cX4_meet 125 = .ok (.getfield 41, 3) := by decide +kernel
theorem dX4_meet_128 : decode cX4_meet 128 = .ok (.iload_n 3, 1) := by decide +kernel
theorem dX4_meet_129 : decode cX4_meet 129 = .ok (.aload_n 0, 1) := by decide +kernel
theorem dX4_meet_130 : decode cX4_meet 130 = .ok (.getfield 22, 3) := by decide +kernel
theorem dX4_meet_133 : decode cX4_meet 133 = .ok (.iastore, 1) := by decide +kernel
theorem dX4_meet_134 : decode cX4_meet 134 = .ok (.aload_n 0, 1) := by decide +kernel
theorem dX4_meet_135 : decode cX4_meet 135 = .ok (.getfield 22, 3) := by decide +kernel
theorem dX4_meet_138 : decode cX4_meet 138 = .ok (.iconst 1, 1) := by decide +kernel
theorem dX4_meet_139 : decode cX4_meet 139 = .ok (.isub, 1) := by decide +kernel
theorem dX4_meet_140 : decode cX4_meet 140 = .ok (.ireturn, 1) := by decide +kernel
theorem dX4_addWay_0 : decode cX4_addWay 0 = .ok (.aload_n 0, 1) := by decide +kernel
theorem dX4_addWay_1 : decode cX4_addWay 1 = .ok (.getfield 25, 3) := by decide +kernel
theorem dX4_addWay_4 : decode cX4_addWay 4 = .ok (.aload_n 0, 1) := by decide +kernel
theorem dX4_addWay_5 : decode cX4_addWay 5 = .ok (.getfield 38, 3) := by decide +kernel
theorem dX4_addWay_8 : decode cX4_addWay 8 = .ok (.arraylength, 1) := by decide +kernel
theorem dX4_addWay_9 : decode cX4_addWay 9 = .ok (.if_icmp .lt 21, 3) := by decide +kernel
theorem dX4_addWay_12 : decode cX4_addWay 12 = .ok (.aload_n 0, 1) := by decide +kernel
theorem dX4_addWay_13 : decode cX4_addWay 13 = .ok (.aload_n 0, 1) := by decide +kernel
theorem dX4_addWay_14 : decode cX4_addWay 14 = .ok (.getfield 38, 3) := by decide +kernel
theorem dX4_addWay_17 : decode cX4_addWay 17 = .ok (.iconst 2, 1) := by decide +kernel
theorem dX4_addWay_18 : decode cX4_addWay 18 = .ok (.aload_n 0, 1) := by decide +kernel
theorem dX4_addWay_19 : decode cX4_addWay 19 = .ok (.getfield 38, 3) := by decide +kernel
theorem dX4_addWay_22 : decode cX4_addWay 22 = .ok (.arraylength, 1) := by decide +kernel
theorem dX4_addWay_23 : decode cX4_addWay 23 = .ok (.imul, 1) := by decide +kernel
theorem dX4_addWay_24 : decode cX4_addWay 24 = .ok (.invokestatic 150, 3) := by decide +kernel
theorem dX4_addWay_27 : decode cX4_addWay 27 = .ok (.putfield 38, 3) := by decide +kernel
theorem dX4_addWay_30 : decode cX4_addWay 30 = .ok (.aload_n 0, 1) := by decide +kernel
theorem dX4_addWay_31 : decode cX4_addWay 31 = .ok (.getfield 38, 3) := by decide +kernel
theorem dX4_addWay_34 : decode cX4_addWay 34 = .ok (.aload_n 0, 1) := by decide +kernel
theorem dX4_addWay_35 : decode cX4_addWay 35 = .ok (.getfield 25, 3) := by decide +kernel
theorem dX4_addWay_38 : decode cX4_addWay 38 = .ok (.iload_n 1, 1) := by decide +kernel
theorem dX4_addWay_39 : decode cX4_addWay 39 = .ok (.iastore, 1) := by decide +kernel
theorem dX4_addWay_40 : decode cX4_addWay 40 = .ok (.aload_n 0, 1) := by decide +kernel
theorem dX4_addWay_41 : decode cX4_addWay 41 = .ok (.dup, 1) := by decide +kernel
theorem dX4_addWay_42 : decode cX4_addWay 42 = .ok (.getfield 25, 3) := by decide +kernel
theorem dX4_addWay_45 : decode cX4_addWay 45 = .ok (.iconst 1, 1) := by decide +kernel
theorem dX4_addWay_46 : decode cX4_addWay 46 = .ok (.iadd, 1) := by decide +kernel
theorem dX4_addWay_47 : decode cX4_addWay 47 = .ok (.putfield 25, 3) := by decide +kernel
theorem dX4_addWay_50 : decode cX4_addWay 50 = .ok (.return_, 1) := by decide +kernel
theorem dX4_roomForAll_0 : decode cX4_roomForAll 0 = .ok (.aload_n 1, 1) := by decide +kernel
theorem dX4_roomForAll_1 : decode cX4_roomForAll 1 = .ok (.arraylength, 1) := by decide +kernel
theorem dX4_roomForAll_2 : decode cX4_roomForAll 2 = .ok (.aload_n 0, 1) := by decide +kernel
theorem dX4_roomForAll_3 : decode cX4_roomForAll 3 = .ok (.getfield 22, 3) := by decide +kernel
theorem dX4_roomForAll_6 : decode cX4_roomForAll 6 = .ok (.if_icmp .lt 7, 3) := by decide +kernel
theorem dX4_roomForAll_9 : decode cX4_roomForAll 9 = .ok (.aload_n 1, 1) := by decide +kernel
theorem dX4_roomForAll_10 : decode cX4_roomForAll 10 = .ok (.goto 10, 3) := by decide +kernel
theorem dX4_roomForAll_13 : decode cX4_roomForAll 13 = .ok (.aload_n 0, 1) := by decide +kernel
theorem dX4_roomForAll_14 : decode cX4_roomForAll 14 = .ok (.getfield 31, 3) := by decide +kernel
theorem dX4_roomForAll_17 : decode cX4_roomForAll 17 = .ok (.arraylength, 1) := by decide +kernel
theorem dX4_roomForAll_18 : decode cX4_roomForAll 18 = .ok (.newarray .int, 2) := by decide +kernel
theorem dX4_roomForAll_20 : decode cX4_roomForAll 20 = .ok (.areturn, 1) := by decide +kernel
theorem dX4_startOdds_0 : decode cX4_startOdds 0 = .ok (.aload_n 0, 1) := by decide +kernel
theorem dX4_startOdds_1 : decode cX4_startOdds 1 = .ok (.aload_n 0, 1) := by decide +kernel
theorem dX4_startOdds_2 : decode cX4_startOdds 2 = .ok (.aload_n 0, 1) := by decide +kernel
theorem dX4_startOdds_3 : decode cX4_startOdds 3 = .ok (.getfield 44, 3) := by decide +kernel
theorem dX4_startOdds_6 : decode cX4_startOdds 6 = .ok (.invokevirtual 103, 3) := by decide +kernel
theorem dX4_startOdds_9 : decode cX4_startOdds 9 = .ok (.putfield 44, 3) := by decide +kernel
theorem dX4_startOdds_12 : decode cX4_startOdds 12 = .ok (.aload_n 0, 1) := by decide +kernel
theorem dX4_startOdds_13 : decode cX4_startOdds 13 = .ok (.aload_n 0, 1) := by decide +kernel
theorem dX4_startOdds_14 : decode cX4_startOdds 14 = .ok (.aload_n 0, 1) := by decide +kernel
theorem dX4_startOdds_15 : decode cX4_startOdds 15 = .ok (.getfield 47, 3) := by decide +kernel
theorem dX4_startOdds_18 : decode cX4_startOdds 18 = .ok (.invokevirtual 103, 3) := by decide +kernel
theorem dX4_startOdds_21 : decode cX4_startOdds 21 = .ok (.putfield 47, 3) := by decide +kernel
theorem dX4_startOdds_24 : decode cX4_startOdds 24 = .ok (.iconst 0, 1) := by decide +kernel
theorem dX4_startOdds_25 : decode cX4_startOdds 25 = .ok (.istore_n 1, 1) := by decide +kernel
theorem dX4_startOdds_26 : decode cX4_startOdds 26 = .ok (.iload_n 1, 1) := by decide +kernel
theorem dX4_startOdds_27 : decode cX4_startOdds 27 = .ok (.aload_n 0, 1) := by decide +kernel
theorem dX4_startOdds_28 : decode cX4_startOdds 28 = .ok (.getfield 22, 3) := by decide +kernel
theorem dX4_startOdds_31 : decode cX4_startOdds 31 = .ok (.if_icmp .ge 29, 3) := by decide +kernel
theorem dX4_startOdds_34 : decode cX4_startOdds 34 = .ok (.aload_n 0, 1) := by decide +kernel
theorem dX4_startOdds_35 : decode cX4_startOdds 35 = .ok (.getfield 44, 3) := by decide +kernel
theorem dX4_startOdds_38 : decode cX4_startOdds 38 = .ok (.iload_n 1, 1) := by decide +kernel
theorem dX4_startOdds_39 : decode cX4_startOdds 39 = .ok (.aload_n 0, 1) := by decide +kernel
theorem dX4_startOdds_40 : decode cX4_startOdds 40 = .ok (.iload_n 1, 1) := by decide +kernel
theorem dX4_startOdds_41 : decode cX4_startOdds 41 = .ok (.invokevirtual 107, 3) := by decide +kernel
theorem dX4_startOdds_44 : decode cX4_startOdds 44 = .ok (.ifCond .eq 8, 3) := by decide +kernel
theorem dX4_startOdds_47 : decode cX4_startOdds 47 = .ok (.ldc 156, 2) := by decide +kernel
theorem dX4_startOdds_49 : decode cX4_startOdds 49 = .ok (.goto 4, 3) := by decide +kernel
theorem dX4_startOdds_52 : decode cX4_startOdds 52 = .ok (.iconst 0, 1) := by decide +kernel
theorem dX4_startOdds_53 : decode cX4_startOdds 53 = .ok (.iastore, 1) := by decide +kernel
theorem dX4_startOdds_54 : decode cX4_startOdds 54 = .ok (.iinc 1 1, 3) := by decide +kernel
theorem dX4_startOdds_57 : decode cX4_startOdds 57 = .ok (.goto (-31), 3) := by decide +kernel
theorem dX4_startOdds_60 : decode cX4_startOdds 60 = .ok (.aload_n 0, 1) := by decide +kernel
theorem dX4_startOdds_61 : decode cX4_startOdds 61 = .ok (.iconst 0, 1) := by decide +kernel
theorem dX4_startOdds_62 : decode cX4_startOdds 62 = .ok (.putfield 50, 3) := by decide +kernel
theorem dX4_startOdds_65 : decode cX4_startOdds 65 = .ok (.aload_n 0, 1) := by decide +kernel
theorem dX4_startOdds_66 : decode cX4_startOdds 66 = .ok (.iconst 0, 1) := by decide +kernel
theorem dX4_startOdds_67 : decode cX4_startOdds 67 = .ok (.putfield 53, 3) := by decide +kernel
theorem dX4_startOdds_70 : decode cX4_startOdds 70 = .ok (.return_, 1) := by decide +kernel
theorem dX4_runOneTurn_0 : decode cX4_runOneTurn 0 = .ok (.iconst 0, 1) := by decide +kernel
theorem dX4_runOneTurn_1 : decode cX4_runOneTurn 1 = .ok (.istore_n 1, 1) := by decide +kernel
theorem dX4_runOneTurn_2 : decode cX4_runOneTurn 2 = .ok (.iconst 0, 1) := by decide +kernel
theorem dX4_runOneTurn_3 : decode cX4_runOneTurn 3 = .ok (.istore_n 2, 1) := by decide +kernel
theorem dX4_runOneTurn_4 : decode cX4_runOneTurn 4 = .ok (.iload_n 2, 1) := by decide +kernel
theorem dX4_runOneTurn_5 : decode cX4_runOneTurn 5 = .ok (.aload_n 0, 1) := by decide +kernel
theorem dX4_runOneTurn_6 : decode cX4_runOneTurn 6 = .ok (.getfield 22, 3) := by decide +kernel
theorem dX4_runOneTurn_9 : decode cX4_runOneTurn 9 = .ok (.if_icmp .ge 42, 3) := by decide +kernel
theorem dX4_runOneTurn_12 : decode cX4_runOneTurn 12 = .ok (.aload_n 0, 1) := by decide +kernel
theorem dX4_runOneTurn_13 : decode cX4_runOneTurn 13 = .ok (.iload_n 2, 1) := by decide +kernel
theorem dX4_runOneTurn_14 : decode cX4_runOneTurn 14 = .ok (.invokevirtual 157, 3) := by decide +kernel
theorem dX4_runOneTurn_17 : decode cX4_runOneTurn 17 = .ok (.istore_n 3, 1) := by decide +kernel
theorem dX4_runOneTurn_18 : decode cX4_runOneTurn 18 = .ok (.iload_n 1, 1) := by decide +kernel
theorem dX4_runOneTurn_19 : decode cX4_runOneTurn 19 = .ok (.ifCond .ne 13, 3) := by decide +kernel
theorem dX4_runOneTurn_22 : decode cX4_runOneTurn 22 = .ok (.iload_n 3, 1) := by decide +kernel
theorem dX4_runOneTurn_23 : decode cX4_runOneTurn 23 = .ok (.aload_n 0, 1) := by decide +kernel
theorem dX4_runOneTurn_24 : decode cX4_runOneTurn 24 = .ok (.getfield 44, 3) := by decide +kernel
theorem dX4_runOneTurn_27 : decode cX4_runOneTurn 27 = .ok (.iload_n 2, 1) := by decide +kernel
theorem dX4_runOneTurn_28 : decode cX4_runOneTurn 28 = .ok (.iaload, 1) := by decide +kernel
theorem dX4_runOneTurn_29 : decode cX4_runOneTurn 29 = .ok (.if_icmp .eq 7, 3) := by decide +kernel
theorem dX4_runOneTurn_32 : decode cX4_runOneTurn 32 = .ok (.iconst 1, 1) := by decide +kernel
theorem dX4_runOneTurn_33 : decode cX4_runOneTurn 33 = .ok (.goto 4, 3) := by decide +kernel
theorem dX4_runOneTurn_36 : decode cX4_runOneTurn 36 = .ok (.iconst 0, 1) := by decide +kernel
theorem dX4_runOneTurn_37 : decode cX4_runOneTurn 37 = .ok (.istore_n 1, 1) := by decide +kernel
theorem dX4_runOneTurn_38 : decode cX4_runOneTurn 38 = .ok (.aload_n 0, 1) := by decide +kernel
theorem dX4_runOneTurn_39 : decode cX4_runOneTurn 39 = .ok (.getfield 47, 3) := by decide +kernel
theorem dX4_runOneTurn_42 : decode cX4_runOneTurn 42 = .ok (.iload_n 2, 1) := by decide +kernel
theorem dX4_runOneTurn_43 : decode cX4_runOneTurn 43 = .ok (.iload_n 3, 1) := by decide +kernel
theorem dX4_runOneTurn_44 : decode cX4_runOneTurn 44 = .ok (.iastore, 1) := by decide +kernel
theorem dX4_runOneTurn_45 : decode cX4_runOneTurn 45 = .ok (.iinc 2 1, 3) := by decide +kernel
theorem dX4_runOneTurn_48 : decode cX4_runOneTurn 48 = .ok (.goto (-44), 3) := by decide +kernel
theorem dX4_runOneTurn_51 : decode cX4_runOneTurn 51 = .ok (.aload_n 0, 1) := by decide +kernel
theorem dX4_runOneTurn_52 : decode cX4_runOneTurn 52 = .ok (.getfield 44, 3) := by decide +kernel
theorem dX4_runOneTurn_55 : decode cX4_runOneTurn 55 = .ok (.astore_n 2, 1) := by decide +kernel
theorem dX4_runOneTurn_56 : decode cX4_runOneTurn 56 = .ok (.aload_n 0, 1) := by decide +kernel
theorem dX4_runOneTurn_57 : decode cX4_runOneTurn 57 = .ok (.aload_n 0, 1) := by decide +kernel
theorem dX4_runOneTurn_58 : decode cX4_runOneTurn 58 = .ok (.getfield 47, 3) := by decide +kernel
theorem dX4_runOneTurn_61 : decode cX4_runOneTurn 61 = .ok (.putfield 44, 3) := by decide +kernel
theorem dX4_runOneTurn_64 : decode cX4_runOneTurn 64 = .ok (.aload_n 0, 1) := by decide +kernel
theorem dX4_runOneTurn_65 : decode cX4_runOneTurn 65 = .ok (.aload_n 2, 1) := by decide +kernel
theorem dX4_runOneTurn_66 : decode cX4_runOneTurn 66 = .ok (.putfield 47, 3) := by decide +kernel
theorem dX4_runOneTurn_69 : decode cX4_runOneTurn 69 = .ok (.aload_n 0, 1) := by decide +kernel
theorem dX4_runOneTurn_70 : decode cX4_runOneTurn 70 = .ok (.dup, 1) := by decide +kernel
theorem dX4_runOneTurn_71 : decode cX4_runOneTurn 71 = .ok (.getfield 50, 3) := by decide +kernel
theorem dX4_runOneTurn_74 : decode cX4_runOneTurn 74 = .ok (.iconst 1, 1) := by decide +kernel
theorem dX4_runOneTurn_75 : decode cX4_runOneTurn 75 = .ok (.iadd, 1) := by decide +kernel
theorem dX4_runOneTurn_76 : decode cX4_runOneTurn 76 = .ok (.putfield 50, 3) := by decide +kernel
theorem dX4_runOneTurn_79 : decode cX4_runOneTurn 79 = .ok (.aload_n 0, 1) := by decide +kernel
theorem dX4_runOneTurn_80 : decode cX4_runOneTurn 80 = .ok (.iload_n 1, 1) := by decide +kernel
theorem dX4_runOneTurn_81 : decode cX4_runOneTurn 81 = .ok (.ifCond .ne 7, 3) := by decide +kernel
theorem dX4_runOneTurn_84 : decode cX4_runOneTurn 84 = .ok (.iconst 1, 1) := by decide +kernel
theorem dX4_runOneTurn_85 : decode cX4_runOneTurn 85 = .ok (.goto 4, 3) := by decide +kernel
theorem dX4_runOneTurn_88 : decode cX4_runOneTurn 88 = .ok (.iconst 0, 1) := by decide +kernel
theorem dX4_runOneTurn_89 : decode cX4_runOneTurn 89 = .ok (.putfield 53, 3) := by decide +kernel
theorem dX4_runOneTurn_92 : decode cX4_runOneTurn 92 = .ok (.return_, 1) := by decide +kernel
theorem dX4_oddsBehindTurn_0 : decode cX4_oddsBehindTurn 0 = .ok (.aload_n 0, 1) := by decide +kernel
theorem dX4_oddsBehindTurn_1 : decode cX4_oddsBehindTurn 1 = .ok (.iload_n 1, 1) := by decide +kernel
theorem dX4_oddsBehindTurn_2 : decode cX4_oddsBehindTurn 2 = .ok (.invokevirtual 107, 3) := by decide +kernel
theorem dX4_oddsBehindTurn_5 : decode cX4_oddsBehindTurn 5 = .ok (.ifCond .eq 6, 3) := by decide +kernel
theorem dX4_oddsBehindTurn_8 : decode cX4_oddsBehindTurn 8 = .ok (.ldc 156, 2) := by decide +kernel
theorem dX4_oddsBehindTurn_10 : decode cX4_oddsBehindTurn 10 = .ok (.ireturn, 1) := by decide +kernel
theorem dX4_oddsBehindTurn_11 : decode cX4_oddsBehindTurn 11 = .ok (.aload_n 0, 1) := by decide +kernel
theorem dX4_oddsBehindTurn_12 : decode cX4_oddsBehindTurn 12 = .ok (.getfield 35, 3) := by decide +kernel
theorem dX4_oddsBehindTurn_15 : decode cX4_oddsBehindTurn 15 = .ok (.iload_n 1, 1) := by decide +kernel
theorem dX4_oddsBehindTurn_16 : decode cX4_oddsBehindTurn 16 = .ok (.iaload, 1) := by decide +kernel
theorem dX4_oddsBehindTurn_17 : decode cX4_oddsBehindTurn 17 = .ok (.istore_n 2, 1) := by decide +kernel
theorem dX4_oddsBehindTurn_18 : decode cX4_oddsBehindTurn 18 = .ok (.aload_n 0, 1) := by decide +kernel
theorem dX4_oddsBehindTurn_19 : decode cX4_oddsBehindTurn 19 = .ok (.getfield 31, 3) := by decide +kernel
theorem dX4_oddsBehindTurn_22 : decode cX4_oddsBehindTurn 22 = .ok (.iload_n 1, 1) := by decide +kernel
theorem dX4_oddsBehindTurn_23 : decode cX4_oddsBehindTurn 23 = .ok (.iaload, 1) := by decide +kernel
theorem dX4_oddsBehindTurn_24 : decode cX4_oddsBehindTurn 24 = .ok (.invokestatic 117, 3) := by decide +kernel
theorem dX4_oddsBehindTurn_27 : decode cX4_oddsBehindTurn 27 = .ok (.istore_n 3, 1) := by decide +kernel
theorem dX4_oddsBehindTurn_28 : decode cX4_oddsBehindTurn 28 = .ok (.aload_n 0, 1) := by decide +kernel
theorem dX4_oddsBehindTurn_29 : decode cX4_oddsBehindTurn 29 = .ok (.getfield 62, 3) := by decide +kernel
theorem dX4_oddsBehindTurn_32 : decode cX4_oddsBehindTurn 32 = .ok (.iload_n 3, 1) := by decide +kernel
theorem dX4_oddsBehindTurn_33 : decode cX4_oddsBehindTurn 33 = .ok (.invokevirtual 160, 3) := by decide +kernel
theorem dX4_oddsBehindTurn_36 : decode cX4_oddsBehindTurn 36 = .ok (.ifCond .eq 74, 3) := by decide +kernel
theorem dX4_oddsBehindTurn_39 : decode cX4_oddsBehindTurn 39 = .ok (.aload_n 0, 1) := by decide +kernel
theorem dX4_oddsBehindTurn_40 : decode cX4_oddsBehindTurn 40 = .ok (.getfield 35, 3) := by decide +kernel
theorem dX4_oddsBehindTurn_43 : decode cX4_oddsBehindTurn 43 = .ok (.iload_n 1, 1) := by decide +kernel
theorem dX4_oddsBehindTurn_44 : decode cX4_oddsBehindTurn 44 = .ok (.iconst 1, 1) := by decide +kernel
theorem dX4_oddsBehindTurn_45 : decode cX4_oddsBehindTurn 45 = .ok (.iadd, 1) := by decide +kernel
theorem dX4_oddsBehindTurn_46 : decode cX4_oddsBehindTurn 46 = .ok (.iaload, 1) := by decide +kernel
theorem dX4_oddsBehindTurn_47 : decode cX4_oddsBehindTurn 47 = .ok (.iload_n 2, 1) := by decide +kernel
theorem dX4_oddsBehindTurn_48 : decode cX4_oddsBehindTurn 48 = .ok (.isub, 1) := by decide +kernel
theorem dX4_oddsBehindTurn_49 : decode cX4_oddsBehindTurn 49 = .ok (.iconst 2, 1) := by decide +kernel
theorem dX4_oddsBehindTurn_50 : decode cX4_oddsBehindTurn 50 = .ok (.if_icmp .ne 60, 3) := by decide +kernel
theorem dX4_oddsBehindTurn_53 : decode cX4_oddsBehindTurn 53 = .ok (.aload_n 0, 1) := by decide +kernel
theorem dX4_oddsBehindTurn_54 : decode cX4_oddsBehindTurn 54 = .ok (.getfield 62, 3) := by decide +kernel
theorem dX4_oddsBehindTurn_57 : decode cX4_oddsBehindTurn 57 = .ok (.getfield 163, 3) := by decide +kernel
theorem dX4_oddsBehindTurn_60 : decode cX4_oddsBehindTurn 60 = .ok (.iload_n 3, 1) := by decide +kernel
theorem dX4_oddsBehindTurn_61 : decode cX4_oddsBehindTurn 61 = .ok (.iaload, 1) := by decide +kernel
theorem dX4_oddsBehindTurn_62 : decode cX4_oddsBehindTurn 62 = .ok (.istore 4, 2) := by decide +kernel
theorem dX4_oddsBehindTurn_64 : decode cX4_oddsBehindTurn 64 = .ok (.bipush 7, 2) := by decide +kernel
theorem dX4_oddsBehindTurn_66 : decode cX4_oddsBehindTurn 66 = .ok (.iload 4, 2) := by decide +kernel
theorem dX4_oddsBehindTurn_68 : decode cX4_oddsBehindTurn 68 = .ok (.isub, 1) := by decide +kernel
theorem dX4_oddsBehindTurn_69 : decode cX4_oddsBehindTurn 69 = .ok (.aload_n 0, 1) := by decide +kernel
theorem dX4_oddsBehindTurn_70 : decode cX4_oddsBehindTurn 70 = .ok (.aload_n 0, 1) := by decide +kernel
theorem dX4_oddsBehindTurn_71 : decode cX4_oddsBehindTurn 71 = .ok (.getfield 38, 3) := by decide +kernel
theorem dX4_oddsBehindTurn_74 : decode cX4_oddsBehindTurn 74 = .ok (.iload_n 2, 1) := by decide +kernel
theorem dX4_oddsBehindTurn_75 : decode cX4_oddsBehindTurn 75 = .ok (.iaload, 1) := by decide +kernel
theorem dX4_oddsBehindTurn_76 : decode cX4_oddsBehindTurn 76 = .ok (.invokevirtual 166, 3) := by decide +kernel
theorem dX4_oddsBehindTurn_79 : decode cX4_oddsBehindTurn 79 = .ok (.imul, 1) := by decide +kernel
theorem dX4_oddsBehindTurn_80 : decode cX4_oddsBehindTurn 80 = .ok (.istore 5, 2) := by decide +kernel
theorem dX4_oddsBehindTurn_82 : decode cX4_oddsBehindTurn 82 = .ok (.iload 4, 2) := by decide +kernel
theorem dX4_oddsBehindTurn_84 : decode cX4_oddsBehindTurn 84 = .ok (.iconst 1, 1) := by decide +kernel
theorem dX4_oddsBehindTurn_85 : decode cX4_oddsBehindTurn 85 = .ok (.isub, 1) := by decide +kernel
theorem dX4_oddsBehindTurn_86 : decode cX4_oddsBehindTurn 86 = .ok (.aload_n 0, 1) := by decide +kernel
theorem dX4_oddsBehindTurn_87 : decode cX4_oddsBehindTurn 87 = .ok (.aload_n 0, 1) := by decide +kernel
theorem dX4_oddsBehindTurn_88 : decode cX4_oddsBehindTurn 88 = .ok (.getfield 38, 3) := by decide +kernel
theorem dX4_oddsBehindTurn_91 : decode cX4_oddsBehindTurn 91 = .ok (.iload_n 2, 1) := by decide +kernel
theorem dX4_oddsBehindTurn_92 : decode cX4_oddsBehindTurn 92 = .ok (.iconst 1, 1) := by decide +kernel
theorem dX4_oddsBehindTurn_93 : decode cX4_oddsBehindTurn 93 = .ok (.iadd, 1) := by decide +kernel
theorem dX4_oddsBehindTurn_94 : decode cX4_oddsBehindTurn 94 = .ok (.iaload, 1) := by decide +kernel
theorem dX4_oddsBehindTurn_95 : decode cX4_oddsBehindTurn 95 = .ok (.invokevirtual 166, 3) := by decide +kernel
theorem dX4_oddsBehindTurn_98 : decode cX4_oddsBehindTurn 98 = .ok (.imul, 1) := by decide +kernel
theorem dX4_oddsBehindTurn_99 : decode cX4_oddsBehindTurn 99 = .ok (.istore 6, 2) := by decide +kernel
theorem dX4_oddsBehindTurn_101 : decode cX4_oddsBehindTurn 101 = .ok (.iload 5, 2) := by decide +kernel
theorem dX4_oddsBehindTurn_103 : decode cX4_oddsBehindTurn 103 = .ok (.iload 6, 2) := by decide +kernel
theorem dX4_oddsBehindTurn_105 : decode cX4_oddsBehindTurn 105 = .ok (.iadd, 1) := by decide +kernel
theorem dX4_oddsBehindTurn_106 : decode cX4_oddsBehindTurn 106 = .ok (.bipush 6, 2) := by decide +kernel
theorem dX4_oddsBehindTurn_108 : decode cX4_oddsBehindTurn 108 = .ok (.idiv, 1) := by decide +kernel
theorem dX4_oddsBehindTurn_109 : decode cX4_oddsBehindTurn 109 = .ok (.ireturn, 1) := by decide +kernel
theorem dX4_oddsBehindTurn_110 : decode cX4_oddsBehindTurn 110 = .ok (.iconst 0, 1) := by decide +kernel
theorem dX4_oddsBehindTurn_111 : decode cX4_oddsBehindTurn 111 = .ok (.istore 4, 2) := by decide +kernel
theorem dX4_oddsBehindTurn_113 : decode cX4_oddsBehindTurn 113 = .ok (.iload_n 2, 1) := by decide +kernel
theorem dX4_oddsBehindTurn_114 : decode cX4_oddsBehindTurn 114 = .ok (.istore 5, 2) := by decide +kernel
theorem dX4_oddsBehindTurn_116 : decode cX4_oddsBehindTurn 116 = .ok (.iload 5, 2) := by decide +kernel
theorem dX4_oddsBehindTurn_118 : decode cX4_oddsBehindTurn 118 = .ok (.aload_n 0, 1) := by decide +kernel
theorem dX4_oddsBehindTurn_119 : decode cX4_oddsBehindTurn 119 = .ok (.getfield 35, 3) := by decide +kernel
theorem dX4_oddsBehindTurn_122 : decode cX4_oddsBehindTurn 122 = .ok (.iload_n 1, 1) := by decide +kernel
theorem dX4_oddsBehindTurn_123 : decode cX4_oddsBehindTurn 123 = .ok (.iconst 1, 1) := by decide +kernel
theorem dX4_oddsBehindTurn_124 : decode cX4_oddsBehindTurn 124 = .ok (.iadd, 1) := by decide +kernel
theorem dX4_oddsBehindTurn_125 : decode cX4_oddsBehindTurn 125 = .ok (.iaload, 1) := by decide +kernel
theorem dX4_oddsBehindTurn_126 : decode cX4_oddsBehindTurn 126 = .ok (.if_icmp .ge 27, 3) := by decide +kernel
theorem dX4_oddsBehindTurn_129 : decode cX4_oddsBehindTurn 129 = .ok (.iload 4, 2) := by decide +kernel
theorem dX4_oddsBehindTurn_131 : decode cX4_oddsBehindTurn 131 = .ok (.aload_n 0, 1) := by decide +kernel
theorem dX4_oddsBehindTurn_132 : decode cX4_oddsBehindTurn 132 = .ok (.aload_n 0, 1) := by decide +kernel
theorem dX4_oddsBehindTurn_133 : decode cX4_oddsBehindTurn 133 = .ok (.getfield 38, 3) := by decide +kernel
theorem dX4_oddsBehindTurn_136 : decode cX4_oddsBehindTurn 136 = .ok (.iload 5, 2) := by decide +kernel
theorem dX4_oddsBehindTurn_138 : decode cX4_oddsBehindTurn 138 = .ok (.iaload, 1) := by decide +kernel
theorem dX4_oddsBehindTurn_139 : decode cX4_oddsBehindTurn 139 = .ok (.invokevirtual 166, 3) := by decide +kernel
theorem dX4_oddsBehindTurn_142 : decode cX4_oddsBehindTurn 142 = .ok (.invokestatic 169, 3) := by decide +kernel
theorem dX4_oddsBehindTurn_145 : decode cX4_oddsBehindTurn 145 = .ok (.istore 4, 2) := by decide +kernel
theorem dX4_oddsBehindTurn_147 : decode cX4_oddsBehindTurn 147 = .ok (.iinc 5 1, 3) := by decide +kernel
theorem dX4_oddsBehindTurn_150 : decode cX4_oddsBehindTurn 150 = .ok (.goto (-34), 3) := by decide +kernel
theorem dX4_oddsBehindTurn_153 : decode cX4_oddsBehindTurn 153 = .ok (.iload 4, 2) := by decide +kernel
theorem dX4_oddsBehindTurn_155 : decode cX4_oddsBehindTurn 155 = .ok (.ireturn, 1) := by decide +kernel
theorem dX4_leadsTo_0 : decode cX4_leadsTo 0 = .ok (.aload_n 0, 1) := by decide +kernel
theorem dX4_leadsTo_1 : decode cX4_leadsTo 1 = .ok (.getfield 35, 3) := by decide +kernel
theorem dX4_leadsTo_4 : decode cX4_leadsTo 4 = .ok (.iload_n 1, 1) := by decide +kernel
theorem dX4_leadsTo_5 : decode cX4_leadsTo 5 = .ok (.iaload, 1) := by decide +kernel
theorem dX4_leadsTo_6 : decode cX4_leadsTo 6 = .ok (.istore_n 3, 1) := by decide +kernel
theorem dX4_leadsTo_7 : decode cX4_leadsTo 7 = .ok (.iload_n 3, 1) := by decide +kernel
theorem dX4_leadsTo_8 : decode cX4_leadsTo 8 = .ok (.aload_n 0, 1) := by decide +kernel
theorem dX4_leadsTo_9 : decode cX4_leadsTo 9 = .ok (.getfield 35, 3) := by decide +kernel
theorem dX4_leadsTo_12 : decode cX4_leadsTo 12 = .ok (.iload_n 1, 1) := by decide +kernel
theorem dX4_leadsTo_13 : decode cX4_leadsTo 13 = .ok (.iconst 1, 1) := by decide +kernel
theorem dX4_leadsTo_14 : decode cX4_leadsTo 14 = .ok (.iadd, 1) := by decide +kernel
theorem dX4_leadsTo_15 : decode cX4_leadsTo 15 = .ok (.iaload, 1) := by decide +kernel
theorem dX4_leadsTo_16 : decode cX4_leadsTo 16 = .ok (.if_icmp .ge 25, 3) := by decide +kernel
theorem dX4_leadsTo_19 : decode cX4_leadsTo 19 = .ok (.aload_n 0, 1) := by decide +kernel
theorem dX4_leadsTo_20 : decode cX4_leadsTo 20 = .ok (.aload_n 0, 1) := by decide +kernel
theorem dX4_leadsTo_21 : decode cX4_leadsTo 21 = .ok (.getfield 38, 3) := by decide +kernel
theorem dX4_leadsTo_24 : decode cX4_leadsTo 24 = .ok (.iload_n 3, 1) := by decide +kernel
theorem dX4_leadsTo_25 : decode cX4_leadsTo 25 = .ok (.iaload, 1) := by decide +kernel
theorem dX4_leadsTo_26 : decode cX4_leadsTo 26 = .ok (.invokevirtual 172, 3) := by decide +kernel
theorem dX4_leadsTo_29 : decode cX4_leadsTo 29 = .ok (.iload_n 2, 1) := by decide +kernel
theorem dX4_leadsTo_30 : decode cX4_leadsTo 30 = .ok (.if_icmp .ne 5, 3) := by decide +kernel
theorem dX4_leadsTo_33 : decode cX4_leadsTo 33 = .ok (.iconst 1, 1) := by decide +kernel
theorem dX4_leadsTo_34 : decode cX4_leadsTo 34 = .ok (.ireturn, 1) := by decide +kernel
theorem dX4_leadsTo_35 : decode cX4_leadsTo 35 = .ok (.iinc 3 1, 3) := by decide +kernel
theorem dX4_leadsTo_38 : decode cX4_leadsTo 38 = .ok (.goto (-31), 3) := by decide +kernel
theorem dX4_leadsTo_41 : decode cX4_leadsTo 41 = .ok (.iconst 0, 1) := by decide +kernel
theorem dX4_leadsTo_42 : decode cX4_leadsTo 42 = .ok (.ireturn, 1) := by decide +kernel
theorem dX5_init_0 : decode cX5_init 0 = .ok (.aload_n 0, 1) := by decide +kernel
theorem dX5_init_1 : decode cX5_init 1 = .ok (.invokespecial 1, 3) := by decide +kernel
theorem dX5_init_4 : decode cX5_init 4 = .ok (.aload_n 0, 1) := by decide +kernel
theorem dX5_init_5 : decode cX5_init 5 = .ok (.new 7, 3) := by decide +kernel
theorem dX5_init_8 : decode cX5_init 8 = .ok (.dup, 1) := by decide +kernel
theorem dX5_init_9 : decode cX5_init 9 = .ok (.invokespecial 9, 3) := by decide +kernel
theorem dX5_init_12 : decode cX5_init 12 = .ok (.putfield 10, 3) := by decide +kernel
theorem dX5_init_15 : decode cX5_init 15 = .ok (.aload_n 0, 1) := by decide +kernel
theorem dX5_init_16 : decode cX5_init 16 = .ok (.bipush 60, 2) := by decide +kernel
theorem dX5_init_18 : decode cX5_init 18 = .ok (.newarray .int, 2) := by decide +kernel
theorem dX5_init_20 : decode cX5_init 20 = .ok (.putfield 16, 3) := by decide +kernel
theorem dX5_init_23 : decode cX5_init 23 = .ok (.aload_n 0, 1) := by decide +kernel
theorem dX5_init_24 : decode cX5_init 24 = .ok (.iconst 0, 1) := by decide +kernel
theorem dX5_init_25 : decode cX5_init 25 = .ok (.putfield 20, 3) := by decide +kernel
theorem dX5_init_28 : decode cX5_init 28 = .ok (.aload_n 0, 1) := by decide +kernel
theorem dX5_init_29 : decode cX5_init 29 = .ok (.iconst 0, 1) := by decide +kernel
theorem dX5_init_30 : decode cX5_init 30 = .ok (.putfield 24, 3) := by decide +kernel
theorem dX5_init_33 : decode cX5_init 33 = .ok (.aload_n 0, 1) := by decide +kernel
theorem dX5_init_34 : decode cX5_init 34 = .ok (.bipush 24, 2) := by decide +kernel
theorem dX5_init_36 : decode cX5_init 36 = .ok (.newarray .int, 2) := by decide +kernel
theorem dX5_init_38 : decode cX5_init 38 = .ok (.putfield 28, 3) := by decide +kernel
theorem dX5_init_41 : decode cX5_init 41 = .ok (.aload_n 0, 1) := by decide +kernel
theorem dX5_init_42 : decode cX5_init 42 = .ok (.bipush 24, 2) := by decide +kernel
theorem dX5_init_44 : decode cX5_init 44 = .ok (.newarray .int, 2) := by decide +kernel
theorem dX5_init_46 : decode cX5_init 46 = .ok (.putfield 31, 3) := by decide +kernel
theorem dX5_init_49 : decode cX5_init 49 = .ok (.aload_n 0, 1) := by decide +kernel
theorem dX5_init_50 : decode cX5_init 50 = .ok (.bipush 24, 2) := by decide +kernel
theorem dX5_init_52 : decode cX5_init 52 = .ok (.newarray .int, 2) := by decide +kernel
theorem dX5_init_54 : decode cX5_init 54 = .ok (.putfield 34, 3) := by decide +kernel
theorem dX5_init_57 : decode cX5_init 57 = .ok (.new 37, 3) := by decide +kernel
theorem dX5_init_60 : decode cX5_init 60 = .ok (.dup, 1) := by decide +kernel
theorem dX5_init_61 : decode cX5_init 61 = .ok (.invokespecial 39, 3) := by decide +kernel
theorem dX5_init_64 : decode cX5_init 64 = .ok (.astore_n 1, 1) := by decide +kernel
theorem dX5_init_65 : decode cX5_init 65 = .ok (.aload_n 0, 1) := by decide +kernel
theorem dX5_init_66 : decode cX5_init 66 = .ok (.new 40, 3) := by decide +kernel
theorem dX5_init_69 : decode cX5_init 69 = .ok (.dup, 1) := by decide +kernel
theorem dX5_init_70 : decode cX5_init 70 = .ok (.aload_n 1, 1) := by decide +kernel
theorem dX5_init_71 : decode cX5_init 71 = .ok (.invokespecial 42, 3) := by decide +kernel
theorem dX5_init_74 : decode cX5_init 74 = .ok (.putfield 45, 3) := by decide +kernel
theorem dX5_init_77 : decode cX5_init 77 = .ok (.aload_n 0, 1) := by decide +kernel
theorem dX5_init_78 : decode cX5_init 78 = .ok (.new 49, 3) := by decide +kernel
theorem dX5_init_81 : decode cX5_init 81 = .ok (.dup, 1) := by decide +kernel
theorem dX5_init_82 : decode cX5_init 82 = .ok (.aload_n 1, 1) := by decide +kernel
theorem dX5_init_83 : decode cX5_init 83 = .ok (.invokespecial 51, 3) := by decide +kernel
theorem dX5_init_86 : decode cX5_init 86 = .ok (.putfield 52, 3) := by decide +kernel
theorem dX5_init_89 : decode cX5_init 89 = .ok (.aload_n 0, 1) := by decide +kernel
theorem dX5_init_90 : decode cX5_init 90 = .ok (.new 49, 3) := by decide +kernel
theorem dX5_init_93 : decode cX5_init 93 = .ok (.dup, 1) := by decide +kernel
theorem dX5_init_94 : decode cX5_init 94 = .ok (.aload_n 1, 1) := by decide +kernel
theorem dX5_init_95 : decode cX5_init 95 = .ok (.invokespecial 51, 3) := by decide +kernel
theorem dX5_init_98 : decode cX5_init 98 = .ok (.putfield 56, 3) := by decide +kernel
theorem dX5_init_101 : decode cX5_init 101 = .ok (.aload_n 0, 1) := by decide +kernel
theorem dX5_init_102 : decode cX5_init 102 = .ok (.iconst 2, 1) := by decide +kernel
theorem dX5_init_103 : decode cX5_init 103 = .ok (.anewarray 40, 3) := by decide +kernel
theorem dX5_init_106 : decode cX5_init 106 = .ok (.putfield 59, 3) := by decide +kernel
theorem dX5_init_109 : decode cX5_init 109 = .ok (.iconst 0, 1) := by decide +kernel
theorem dX5_init_110 : decode cX5_init 110 = .ok (.istore_n 2, 1) := by decide +kernel
theorem dX5_init_111 : decode cX5_init 111 = .ok (.iload_n 2, 1) := by decide +kernel
theorem dX5_init_112 : decode cX5_init 112 = .ok (.iconst 2, 1) := by decide +kernel
theorem dX5_init_113 : decode cX5_init 113 = .ok (.if_icmp .ge 29, 3) := by decide +kernel
theorem dX5_init_116 : decode cX5_init 116 = .ok (.aload_n 0, 1) := by decide +kernel
theorem dX5_init_117 : decode cX5_init 117 = .ok (.getfield 59, 3) := by decide +kernel
theorem dX5_init_120 : decode cX5_init 120 = .ok (.iload_n 2, 1) := by decide +kernel
theorem dX5_init_121 : decode cX5_init 121 = .ok (.new 40, 3) := by decide +kernel
theorem dX5_init_124 : decode cX5_init 124 = .ok (.dup, 1) := by decide +kernel
theorem dX5_init_125 : decode cX5_init 125 = .ok (.new 37, 3) := by decide +kernel
theorem dX5_init_128 : decode cX5_init 128 = .ok (.dup, 1) := by decide +kernel
theorem dX5_init_129 : decode cX5_init 129 = .ok (.invokespecial 39, 3) := by decide +kernel
theorem dX5_init_132 : decode cX5_init 132 = .ok (.invokespecial 42, 3) := by decide +kernel
theorem dX5_init_135 : decode cX5_init 135 = .ok (.aastore, 1) := by decide +kernel
theorem dX5_init_136 : decode cX5_init 136 = .ok (.iinc 2 1, 3) := by decide +kernel
theorem dX5_init_139 : decode cX5_init 139 = .ok (.goto (-28), 3) := by decide +kernel
theorem dX5_init_142 : decode cX5_init 142 = .ok (.return_, 1) := by decide +kernel
theorem dX5_feed_0 : decode cX5_feed 0 = .ok (.iload_n 1, 1) := by decide +kernel
theorem dX5_feed_1 : decode cX5_feed 1 = .ok (.iconst 1, 1) := by decide +kernel
theorem dX5_feed_2 : decode cX5_feed 2 = .ok (.if_icmp .lt 9, 3) := by decide +kernel
theorem dX5_feed_5 : decode cX5_feed 5 = .ok (.iload_n 1, 1) := by decide +kernel
theorem dX5_feed_6 : decode cX5_feed 6 = .ok (.bipush 8, 2) := by decide +kernel
theorem dX5_feed_8 : decode cX5_feed 8 = .ok (.if_icmp .le 6, 3) := by decide +kernel
theorem dX5_feed_11 : decode cX5_feed 11 = .ok (.ldc 63, 2) := by decide +kernel
theorem dX5_feed_13 : decode cX5_feed 13 = .ok (.ireturn, 1) := by decide +kernel
theorem dX5_feed_14 : decode cX5_feed 14 = .ok (.iload_n 1, 1) := by decide +kernel
theorem dX5_feed_15 : decode cX5_feed 15 = .ok (.sipush 600, 3) := by decide +kernel
theorem dX5_feed_18 : decode cX5_feed 18 = .ok (.aload_n 0, 1) := by decide +kernel
theorem dX5_feed_19 : decode cX5_feed 19 = .ok (.getfield 10, 3) := by decide +kernel
theorem dX5_feed_22 : decode cX5_feed 22 = .ok (.getfield 64, 3) := by decide +kernel
theorem dX5_feed_25 : decode cX5_feed 25 = .ok (.isub, 1) := by decide +kernel
theorem dX5_feed_26 : decode cX5_feed 26 = .ok (.if_icmp .le 6, 3) := by decide +kernel
theorem dX5_feed_29 : decode cX5_feed 29 = .ok (.ldc 67, 2) := by decide +kernel
theorem dX5_feed_31 : decode cX5_feed 31 = .ok (.ireturn, 1) := by decide +kernel
theorem dX5_feed_32 : decode cX5_feed 32 = .ok (.iload_n 1, 1) := by decide +kernel
theorem dX5_feed_33 : decode cX5_feed 33 = .ok (.iconst 1, 1) := by decide +kernel
theorem dX5_feed_34 : decode cX5_feed 34 = .ok (.isub, 1) := by decide +kernel
theorem dX5_feed_35 : decode cX5_feed 35 = .ok (.istore 4, 2) := by decide +kernel
theorem dX5_feed_37 : decode cX5_feed 37 = .ok (.iload 4, 2) := by decide +kernel
theorem dX5_feed_39 : decode cX5_feed 39 = .ok (.ifCond .lt 25, 3) := by decide +kernel
theorem dX5_feed_42 : decode cX5_feed 42 = .ok (.aload_n 0, 1) := by decide +kernel
theorem dX5_feed_43 : decode cX5_feed 43 = .ok (.getfield 10, 3) := by decide +kernel
theorem dX5_feed_46 : decode cX5_feed 46 = .ok (.lload_n 2, 1) := by decide +kernel
theorem dX5_feed_47 : decode cX5_feed 47 = .ok (.bipush 8, 2) := by decide +kernel
theorem dX5_feed_49 : decode cX5_feed 49 = .ok (.iload 4, 2) := by decide +kernel
theorem dX5_feed_51 : decode cX5_feed 51 = .ok (.imul, 1) := by decide +kernel
theorem dX5_feed_52 : decode cX5_feed 52 = .ok (.lushr, 1) := by decide +kernel
theorem dX5_feed_53 : decode cX5_feed 53 = .ok (.l2i, 1) := by decide +kernel
theorem dX5_feed_54 : decode cX5_feed 54 = .ok (.i2b, 1) := by decide +kernel
theorem dX5_feed_55 : decode cX5_feed 55 = .ok (.invokevirtual 68, 3) := by decide +kernel
theorem dX5_feed_58 : decode cX5_feed 58 = .ok (.iinc 4 (-1), 3) := by decide +kernel
theorem dX5_feed_61 : decode cX5_feed 61 = .ok (.goto (-24), 3) := by decide +kernel
theorem dX5_feed_64 : decode cX5_feed 64 = .ok (.aload_n 0, 1) := by decide +kernel
theorem dX5_feed_65 : decode cX5_feed 65 = .ok (.getfield 10, 3) := by decide +kernel
theorem dX5_feed_68 : decode cX5_feed 68 = .ok (.getfield 64, 3) := by decide +kernel
theorem dX5_feed_71 : decode cX5_feed 71 = .ok (.ireturn, 1) := by decide +kernel
theorem dX5_book_0 : decode cX5_book 0 = .ok (.aload_n 0, 1) := by decide +kernel
theorem dX5_book_1 : decode cX5_book 1 = .ok (.getfield 10, 3) := by decide +kernel
theorem dX5_book_4 : decode cX5_book 4 = .ok (.invokevirtual 72, 3) := by decide +kernel
theorem dX5_book_7 : decode cX5_book 7 = .ok (.istore_n 1, 1) := by decide +kernel
theorem dX5_book_8 : decode cX5_book 8 = .ok (.aload_n 0, 1) := by decide +kernel
theorem dX5_book_9 : decode cX5_book 9 = .ok (.getfield 10, 3) := by decide +kernel
theorem dX5_book_12 : decode cX5_book 12 = .ok (.iconst 0, 1) := by decide +kernel
theorem dX5_book_13 : decode cX5_book 13 = .ok (.putfield 64, 3) := by decide +kernel
theorem dX5_book_16 : decode cX5_book 16 = .ok (.iload_n 1, 1) := by decide +kernel
theorem dX5_book_17 : decode cX5_book 17 = .ok (.ifCond .eq 8, 3) := by decide +kernel
theorem dX5_book_20 : decode cX5_book 20 = .ok (.bipush (-10), 2) := by decide +kernel
theorem dX5_book_22 : decode cX5_book 22 = .ok (.iload_n 1, 1) := by decide +kernel
theorem dX5_book_23 : decode cX5_book 23 = .ok (.isub, 1) := by decide +kernel
theorem dX5_book_24 : decode cX5_book 24 = .ok (.ireturn, 1) := by decide +kernel
theorem dX5_book_25 : decode cX5_book 25 = .ok (.aload_n 0, 1) := by decide +kernel
theorem dX5_book_26 : decode cX5_book 26 = .ok (.getfield 45, 3) := by decide +kernel
theorem dX5_book_29 : decode cX5_book 29 = .ok (.aload_n 0, 1) := by decide +kernel
theorem dX5_book_30 : decode cX5_book 30 = .ok (.getfield 10, 3) := by decide +kernel
theorem dX5_book_33 : decode cX5_book 33 = .ok (.getfield 76, 3) := by decide +kernel
theorem dX5_book_36 : decode cX5_book 36 = .ok (.invokevirtual 80, 3) := by decide +kernel
theorem dX5_book_39 : decode cX5_book 39 = .ok (.aload_n 0, 1) := by decide +kernel
theorem dX5_book_40 : decode cX5_book 40 = .ok (.iconst 0, 1) := by decide +kernel
theorem dX5_book_41 : decode cX5_book 41 = .ok (.putfield 20, 3) := by decide +kernel
theorem dX5_book_44 : decode cX5_book 44 = .ok (.aload_n 0, 1) := by decide +kernel
theorem dX5_book_45 : decode cX5_book 45 = .ok (.iconst 0, 1) := by decide +kernel
theorem dX5_book_46 : decode cX5_book 46 = .ok (.putfield 24, 3) := by decide +kernel
theorem dX5_book_49 : decode cX5_book 49 = .ok (.aload_n 0, 1) := by decide +kernel
theorem dX5_book_50 : decode cX5_book 50 = .ok (.getfield 45, 3) := by decide +kernel
theorem dX5_book_53 : decode cX5_book 53 = .ok (.getfield 83, 3) := by decide +kernel
theorem dX5_book_56 : decode cX5_book 56 = .ok (.getfield 86, 3) := by decide +kernel
theorem dX5_book_59 : decode cX5_book 59 = .ok (.ireturn, 1) := by decide +kernel
theorem dX5_fault_0 : decode cX5_fault 0 = .ok (.aload_n 0, 1) := by decide +kernel
theorem dX5_fault_1 : decode cX5_fault 1 = .ok (.getfield 10, 3) := by decide +kernel
theorem dX5_fault_4 : decode cX5_fault 4 = .ok (.getfield 89, 3) := by decide +kernel
theorem dX5_fault_7 : decode cX5_fault 7 = .ok (.ireturn, 1) := by decide +kernel
theorem dX5_part_0 : decode cX5_part 0 = .ok (.aload_n 0, 1) := by decide +kernel
theorem dX5_part_1 : decode cX5_part 1 = .ok (.getfield 45, 3) := by decide +kernel
theorem dX5_part_4 : decode cX5_part 4 = .ok (.getfield 83, 3) := by decide +kernel
theorem dX5_part_7 : decode cX5_part 7 = .ok (.astore_n 3, 1) := by decide +kernel
theorem dX5_part_8 : decode cX5_part 8 = .ok (.aload_n 3, 1) := by decide +kernel
theorem dX5_part_9 : decode cX5_part 9 = .ok (.iload_n 1, 1) := by decide +kernel
theorem dX5_part_10 : decode cX5_part 10 = .ok (.invokevirtual 92, 3) := by decide +kernel
theorem dX5_part_13 : decode cX5_part 13 = .ok (.ifCond .ne 6, 3) := by decide +kernel
theorem dX5_part_16 : decode cX5_part 16 = .ok (.ldc 96, 2) := by decide +kernel
theorem dX5_part_18 : decode cX5_part 18 = .ok (.ireturn, 1) := by decide +kernel
theorem dX5_part_19 : decode cX5_part 19 = .ok (.iload_n 2, 1) := by decide +kernel
theorem dX5_part_20 : decode cX5_part 20 = .ok (.ifCond .lt 9, 3) := by decide +kernel
theorem dX5_part_23 : decode cX5_part 23 = .ok (.iload_n 2, 1) := by decide +kernel
theorem dX5_part_24 : decode cX5_part 24 = .ok (.bipush 6, 2) := by decide +kernel
theorem dX5_part_26 : decode cX5_part 26 = .ok (.if_icmp .le 6, 3) := by decide +kernel
theorem dX5_part_29 : decode cX5_part 29 = .ok (.ldc 63, 2) := by decide +kernel
theorem dX5_part_31 : decode cX5_part 31 = .ok (.ireturn, 1) := by decide +kernel
theorem dX5_part_32 : decode cX5_part 32 = .ok (.aload_n 3, 1) := by decide +kernel
theorem dX5_part_33 : decode cX5_part 33 = .ok (.getfield 97, 3) := by decide +kernel
theorem dX5_part_36 : decode cX5_part 36 = .ok (.iload_n 1, 1) := by decide +kernel
theorem dX5_part_37 : decode cX5_part 37 = .ok (.iaload, 1) := by decide +kernel
theorem dX5_part_38 : decode cX5_part 38 = .ok (.iconst 3, 1) := by decide +kernel
theorem dX5_part_39 : decode cX5_part 39 = .ok (.if_icmp .ne 7, 3) := by decide +kernel
theorem dX5_part_42 : decode cX5_part 42 = .ok (.iconst 1, 1) := by decide +kernel
theorem dX5_part_43 : decode cX5_part 43 = .ok (.goto 4, 3) := by decide +kernel
theorem dX5_part_46 : decode cX5_part 46 = .ok (.iconst 0, 1) := by decide +kernel
theorem dX5_part_47 : decode cX5_part 47 = .ok (.istore 4, 2) := by decide +kernel
theorem dX5_part_49 : decode cX5_part 49 = .ok (.iload_n 2, 1) := by decide +kernel
theorem dX5_part_50 : decode cX5_part 50 = .ok (.tableswitch 97 0 5 #[38, 45, 52, 59, 65, 81], 38) := by decide +kernel
theorem dX5_part_88 : decode cX5_part 88 = .ok (.aload_n 3, 1) := by decide +kernel
theorem dX5_part_89 : decode cX5_part 89 = .ok (.getfield 97, 3) := by decide +kernel
theorem dX5_part_92 : decode cX5_part 92 = .ok (.iload_n 1, 1) := by decide +kernel
theorem dX5_part_93 : decode cX5_part 93 = .ok (.iaload, 1) := by decide +kernel
theorem dX5_part_94 : decode cX5_part 94 = .ok (.ireturn, 1) := by decide +kernel
theorem dX5_part_95 : decode cX5_part 95 = .ok (.aload_n 3, 1) := by decide +kernel
theorem dX5_part_96 : decode cX5_part 96 = .ok (.getfield 100, 3) := by decide +kernel
theorem dX5_part_99 : decode cX5_part 99 = .ok (.iload_n 1, 1) := by decide +kernel
theorem dX5_part_100 : decode cX5_part 100 = .ok (.iaload, 1) := by decide +kernel
theorem dX5_part_101 : decode cX5_part 101 = .ok (.ireturn, 1) := by decide +kernel
theorem dX5_part_102 : decode cX5_part 102 = .ok (.aload_n 3, 1) := by decide +kernel
theorem dX5_part_103 : decode cX5_part 103 = .ok (.getfield 103, 3) := by decide +kernel
theorem dX5_part_106 : decode cX5_part 106 = .ok (.iload_n 1, 1) := by decide +kernel
theorem dX5_part_107 : decode cX5_part 107 = .ok (.iaload, 1) := by decide +kernel
theorem dX5_part_108 : decode cX5_part 108 = .ok (.ireturn, 1) := by decide +kernel
theorem dX5_part_109 : decode cX5_part 109 = .ok (.aload_n 3, 1) := by decide +kernel
theorem dX5_part_110 : decode cX5_part 110 = .ok (.iload_n 1, 1) := by decide +kernel
theorem dX5_part_111 : decode cX5_part 111 = .ok (.invokevirtual 106, 3) := by decide +kernel
theorem dX5_part_114 : decode cX5_part 114 = .ok (.ireturn, 1) := by decide +kernel
theorem dX5_part_115 : decode cX5_part 115 = .ok (.iload 4, 2) := by decide +kernel
theorem dX5_part_117 : decode cX5_part 117 = .ok (.ifCond .eq 12, 3) := by decide +kernel
theorem dX5_part_120 : decode cX5_part 120 = .ok (.aload_n 3, 1) := by decide +kernel
theorem dX5_part_121 : decode cX5_part 121 = .ok (.getfield 110, 3) := by decide +kernel
theorem dX5_part_124 : decode cX5_part 124 = .ok (.iload_n 1, 1) := by decide +kernel
theorem dX5_part_125 : decode cX5_part 125 = .ok (.iaload, 1) := by decide +kernel
theorem dX5_part_126 : decode cX5_part 126 = .ok (.goto 4, 3) := by decide +kernel
theorem dX5_part_129 : decode cX5_part 129 = .ok (.iconst (-1), 1) := by decide +kernel
theorem dX5_part_130 : decode cX5_part 130 = .ok (.ireturn, 1) := by decide +kernel
theorem dX5_part_131 : decode cX5_part 131 = .ok (.iload 4, 2) := by decide +kernel
theorem dX5_part_133 : decode cX5_part 133 = .ok (.ifCond .eq 12, 3) := by decide +kernel
theorem dX5_part_136 : decode cX5_part 136 = .ok (.aload_n 3, 1) := by decide +kernel
theorem dX5_part_137 : decode cX5_part 137 = .ok (.getfield 113, 3) := by decide +kernel
theorem dX5_part_140 : decode cX5_part 140 = .ok (.iload_n 1, 1) := by decide +kernel
theorem dX5_part_141 : decode cX5_part 141 = .ok (.iaload, 1) := by decide +kernel
theorem dX5_part_142 : decode cX5_part 142 = .ok (.goto 4, 3) := by decide +kernel
theorem dX5_part_145 : decode cX5_part 145 = .ok (.iconst (-1), 1) := by decide +kernel
theorem dX5_part_146 : decode cX5_part 146 = .ok (.ireturn, 1) := by decide +kernel
theorem dX5_part_147 : decode cX5_part 147 = .ok (.iload 4, 2) := by decide +kernel
theorem dX5_part_149 : decode cX5_part 149 = .ok (.ifCond .eq 12, 3) := by decide +kernel
theorem dX5_part_152 : decode cX5_part 152 = .ok (.aload_n 3, 1) := by decide +kernel
theorem dX5_part_153 : decode cX5_part 153 = .ok (.getfield 116, 3) := by decide +kernel
theorem dX5_part_156 : decode cX5_part 156 = .ok (.iload_n 1, 1) := by decide +kernel
theorem dX5_part_157 : decode cX5_part 157 = .ok (.iaload, 1) := by decide +kernel
theorem dX5_part_158 : decode cX5_part 158 = .ok (.goto 4, 3) := by decide +kernel
theorem dX5_part_161 : decode cX5_part 161 = .ok (.iconst (-1), 1) := by decide +kernel
theorem dX5_part_162 : decode cX5_part 162 = .ok (.ireturn, 1) := by decide +kernel
theorem dX5_effect_0 : decode cX5_effect 0 = .ok (.aload_n 0, 1) := by decide +kernel
theorem dX5_effect_1 : decode cX5_effect 1 = .ok (.getfield 45, 3) := by decide +kernel
theorem dX5_effect_4 : decode cX5_effect 4 = .ok (.getfield 83, 3) := by decide +kernel
theorem dX5_effect_7 : decode cX5_effect 7 = .ok (.astore 4, 2) := by decide +kernel
theorem dX5_effect_9 : decode cX5_effect 9 = .ok (.aload 4, 2) := by decide +kernel
theorem dX5_effect_11 : decode cX5_effect 11 = .ok (.iload_n 1, 1) := by decide +kernel
theorem dX5_effect_12 : decode cX5_effect 12 = .ok (.iload_n 2, 1) := by decide +kernel
theorem dX5_effect_13 : decode cX5_effect 13 = .ok (.invokevirtual 119, 3) := by decide +kernel
theorem dX5_effect_16 : decode cX5_effect 16 = .ok (.ifCond .ne 6, 3) := by decide +kernel
theorem dX5_effect_19 : decode cX5_effect 19 = .ok (.ldc 96, 2) := by decide +kernel
theorem dX5_effect_21 : decode cX5_effect 21 = .ok (.ireturn, 1) := by decide +kernel
theorem dX5_effect_22 : decode cX5_effect 22 = .ok (.iload_n 3, 1) := by decide +kernel
theorem dX5_effect_23 : decode cX5_effect 23 = .ok (.ifCond .lt 8, 3) := by decide +kernel
theorem dX5_effect_26 : decode cX5_effect 26 = .ok (.iload_n 3, 1) := by decide +kernel
theorem dX5_effect_27 : decode cX5_effect 27 = .ok (.iconst 1, 1) := by decide +kernel
theorem dX5_effect_28 : decode cX5_effect 28 = .ok (.if_icmp .le 6, 3) := by decide +kernel
theorem dX5_effect_31 : decode cX5_effect 31 = .ok (.ldc 63, 2) := by decide +kernel
theorem dX5_effect_33 : decode cX5_effect 33 = .ok (.ireturn, 1) := by decide +kernel
theorem dX5_effect_34 : decode cX5_effect 34 = .ok (.iload_n 1, 1) := by decide +kernel
theorem dX5_effect_35 : decode cX5_effect 35 = .ok (.iconst 4, 1) := by decide +kernel
theorem dX5_effect_36 : decode cX5_effect 36 = .ok (.imul, 1) := by decide +kernel
theorem dX5_effect_37 : decode cX5_effect 37 = .ok (.iload_n 2, 1) := by decide +kernel
theorem dX5_effect_38 : decode cX5_effect 38 = .ok (.iadd, 1) := by decide +kernel
theorem dX5_effect_39 : decode cX5_effect 39 = .ok (.istore 5, 2) := by decide +kernel
theorem dX5_effect_41 : decode cX5_effect 41 = .ok (.iload_n 3, 1) := by decide +kernel
theorem dX5_effect_42 : decode cX5_effect 42 = .ok (.ifCond .ne 14, 3) := by decide +kernel
theorem dX5_effect_45 : decode cX5_effect 45 = .ok (.aload 4, 2) := by decide +kernel
theorem dX5_effect_47 : decode cX5_effect 47 = .ok (.getfield 123, 3) := by decide +kernel
theorem dX5_effect_50 : decode cX5_effect 50 = .ok (.iload 5, 2) := by decide +kernel
theorem dX5_effect_52 : decode cX5_effect 52 = .ok (.iaload, 1) := by decide +kernel
theorem dX5_effect_53 : decode cX5_effect 53 = .ok (.goto 11, 3) := by decide +kernel
theorem dX5_effect_56 : decode cX5_effect 56 = .ok (.aload 4, 2) := by decide +kernel
theorem dX5_effect_58 : decode cX5_effect 58 = .ok (.getfield 126, 3) := by decide +kernel
theorem dX5_effect_61 : decode cX5_effect 61 = .ok (.iload 5, 2) := by decide +kernel
theorem dX5_effect_63 : decode cX5_effect 63 = .ok (.iaload, 1) := by decide +kernel
theorem dX5_effect_64 : decode cX5_effect 64 = .ok (.ireturn, 1) := by decide +kernel
theorem dX5_choice_0 : decode cX5_choice 0 = .ok (.aload_n 0, 1) := by decide +kernel
theorem dX5_choice_1 : decode cX5_choice 1 = .ok (.getfield 45, 3) := by decide +kernel
theorem dX5_choice_4 : decode cX5_choice 4 = .ok (.getfield 83, 3) := by decide +kernel
theorem dX5_choice_7 : decode cX5_choice 7 = .ok (.astore 4, 2) := by decide +kernel
theorem dX5_choice_9 : decode cX5_choice 9 = .ok (.aload 4, 2) := by decide +kernel
theorem dX5_choice_11 : decode cX5_choice 11 = .ok (.iload_n 1, 1) := by decide +kernel
theorem dX5_choice_12 : decode cX5_choice 12 = .ok (.iload_n 2, 1) := by decide +kernel
theorem dX5_choice_13 : decode cX5_choice 13 = .ok (.invokevirtual 129, 3) := by decide +kernel
theorem dX5_choice_16 : decode cX5_choice 16 = .ok (.ifCond .ne 6, 3) := by decide +kernel
theorem dX5_choice_19 : decode cX5_choice 19 = .ok (.ldc 96, 2) := by decide +kernel
theorem dX5_choice_21 : decode cX5_choice 21 = .ok (.ireturn, 1) := by decide +kernel
theorem dX5_choice_22 : decode cX5_choice 22 = .ok (.iload_n 3, 1) := by decide +kernel
theorem dX5_choice_23 : decode cX5_choice 23 = .ok (.ifCond .lt 8, 3) := by decide +kernel
theorem dX5_choice_26 : decode cX5_choice 26 = .ok (.iload_n 3, 1) := by decide +kernel
theorem dX5_choice_27 : decode cX5_choice 27 = .ok (.iconst 2, 1) := by decide +kernel
theorem dX5_choice_28 : decode cX5_choice 28 = .ok (.if_icmp .le 6, 3) := by decide +kernel
theorem dX5_choice_31 : decode cX5_choice 31 = .ok (.ldc 63, 2) := by decide +kernel
theorem dX5_choice_33 : decode cX5_choice 33 = .ok (.ireturn, 1) := by decide +kernel
theorem dX5_choice_34 : decode cX5_choice 34 = .ok (.iload_n 1, 1) := by decide +kernel
theorem dX5_choice_35 : decode cX5_choice 35 = .ok (.bipush 6, 2) := by decide +kernel
theorem dX5_choice_37 : decode cX5_choice 37 = .ok (.imul, 1) := by decide +kernel
theorem dX5_choice_38 : decode cX5_choice 38 = .ok (.iload_n 2, 1) := by decide +kernel
theorem dX5_choice_39 : decode cX5_choice 39 = .ok (.iadd, 1) := by decide +kernel
theorem dX5_choice_40 : decode cX5_choice 40 = .ok (.istore 5, 2) := by decide +kernel
theorem dX5_choice_42 : decode cX5_choice 42 = .ok (.iload_n 3, 1) := by decide +kernel
theorem dX5_choice_43 : decode cX5_choice 43 = .ok (.ifCond .ne 12, 3) := by decide +kernel
theorem dX5_choice_46 : decode cX5_choice 46 = .ok (.aload 4, 2) := by decide +kernel
theorem dX5_choice_48 : decode cX5_choice 48 = .ok (.getfield 132, 3) := by decide +kernel
theorem dX5_choice_51 : decode cX5_choice 51 = .ok (.iload 5, 2) := by decide +kernel
theorem dX5_choice_53 : decode cX5_choice 53 = .ok (.iaload, 1) := by decide +kernel
theorem dX5_choice_54 : decode cX5_choice 54 = .ok (.ireturn, 1) := by decide +kernel
theorem dX5_choice_55 : decode cX5_choice 55 = .ok (.iload_n 3, 1) := by decide +kernel
theorem dX5_choice_56 : decode cX5_choice 56 = .ok (.iconst 1, 1) := by decide +kernel
theorem dX5_choice_57 : decode cX5_choice 57 = .ok (.if_icmp .ne 14, 3) := by decide +kernel
theorem dX5_choice_60 : decode cX5_choice 60 = .ok (.aload 4, 2) := by decide +kernel
theorem dX5_choice_62 : decode cX5_choice 62 = .ok (.getfield 135, 3) := by decide +kernel
theorem dX5_choice_65 : decode cX5_choice 65 = .ok (.iload 5, 2) := by decide +kernel
theorem dX5_choice_67 : decode cX5_choice 67 = .ok (.iaload, 1) := by decide +kernel
theorem dX5_choice_68 : decode cX5_choice 68 = .ok (.goto 11, 3) := by decide +kernel
theorem dX5_choice_71 : decode cX5_choice 71 = .ok (.aload 4, 2) := by decide +kernel
theorem dX5_choice_73 : decode cX5_choice 73 = .ok (.getfield 138, 3) := by decide +kernel
theorem dX5_choice_76 : decode cX5_choice 76 = .ok (.iload 5, 2) := by decide +kernel
theorem dX5_choice_78 : decode cX5_choice 78 = .ok (.iaload, 1) := by decide +kernel
theorem dX5_choice_79 : decode cX5_choice 79 = .ok (.ireturn, 1) := by decide +kernel
theorem dX5_link_0 : decode cX5_link 0 = .ok (.aload_n 0, 1) := by decide +kernel
theorem dX5_link_1 : decode cX5_link 1 = .ok (.getfield 45, 3) := by decide +kernel
theorem dX5_link_4 : decode cX5_link 4 = .ok (.getfield 83, 3) := by decide +kernel
theorem dX5_link_7 : decode cX5_link 7 = .ok (.astore 5, 2) := by decide +kernel
theorem dX5_link_9 : decode cX5_link 9 = .ok (.aload 5, 2) := by decide +kernel
theorem dX5_link_11 : decode cX5_link 11 = .ok (.iload_n 1, 1) := by decide +kernel
theorem dX5_link_12 : decode cX5_link 12 = .ok (.invokevirtual 92, 3) := by decide +kernel
theorem dX5_link_15 : decode cX5_link 15 = .ok (.ifCond .eq 27, 3) := by decide +kernel
theorem dX5_link_18 : decode cX5_link 18 = .ok (.aload 5, 2) := by decide +kernel
theorem dX5_link_20 : decode cX5_link 20 = .ok (.iload_n 2, 1) := by decide +kernel
theorem dX5_link_21 : decode cX5_link 21 = .ok (.invokevirtual 92, 3) := by decide +kernel
theorem dX5_link_24 : decode cX5_link 24 = .ok (.ifCond .eq 18, 3) := by decide +kernel
theorem dX5_link_27 : decode cX5_link 27 = .ok (.iload_n 3, 1) := by decide +kernel
theorem dX5_link_28 : decode cX5_link 28 = .ok (.invokestatic 141, 3) := by decide +kernel
theorem dX5_link_31 : decode cX5_link 31 = .ok (.ifCond .eq 11, 3) := by decide +kernel
theorem dX5_link_34 : decode cX5_link 34 = .ok (.iload 4, 2) := by decide +kernel
theorem dX5_link_36 : decode cX5_link 36 = .ok (.invokestatic 141, 3) := by decide +kernel
theorem dX5_link_39 : decode cX5_link 39 = .ok (.ifCond .ne 6, 3) := by decide +kernel
theorem dX5_link_42 : decode cX5_link 42 = .ok (.ldc 96, 2) := by decide +kernel
theorem dX5_link_44 : decode cX5_link 44 = .ok (.ireturn, 1) := by decide +kernel
theorem dX5_link_45 : decode cX5_link 45 = .ok (.aload 5, 2) := by decide +kernel
theorem dX5_link_47 : decode cX5_link 47 = .ok (.getfield 97, 3) := by decide +kernel
theorem dX5_link_50 : decode cX5_link 50 = .ok (.iload_n 1, 1) := by decide +kernel
theorem dX5_link_51 : decode cX5_link 51 = .ok (.iaload, 1) := by decide +kernel
theorem dX5_link_52 : decode cX5_link 52 = .ok (.ifCond .eq 6, 3) := by decide +kernel
theorem dX5_link_55 : decode cX5_link 55 = .ok (.ldc 144, 2) := by decide +kernel
theorem dX5_link_57 : decode cX5_link 57 = .ok (.ireturn, 1) := by decide +kernel
theorem dX5_link_58 : decode cX5_link 58 = .ok (.aload 5, 2) := by decide +kernel
theorem dX5_link_60 : decode cX5_link 60 = .ok (.getfield 103, 3) := by decide +kernel
theorem dX5_link_63 : decode cX5_link 63 = .ok (.iload_n 1, 1) := by decide +kernel
theorem dX5_link_64 : decode cX5_link 64 = .ok (.iaload, 1) := by decide +kernel
theorem dX5_link_65 : decode cX5_link 65 = .ok (.bipush 6, 2) := by decide +kernel
theorem dX5_link_67 : decode cX5_link 67 = .ok (.if_icmp .lt 6, 3) := by decide +kernel
theorem dX5_link_70 : decode cX5_link 70 = .ok (.ldc 67, 2) := by decide +kernel
theorem dX5_link_72 : decode cX5_link 72 = .ok (.ireturn, 1) := by decide +kernel
theorem dX5_link_73 : decode cX5_link 73 = .ok (.aload 5, 2) := by decide +kernel
theorem dX5_link_75 : decode cX5_link 75 = .ok (.iload_n 1, 1) := by decide +kernel
theorem dX5_link_76 : decode cX5_link 76 = .ok (.iload_n 2, 1) := by decide +kernel
theorem dX5_link_77 : decode cX5_link 77 = .ok (.iload_n 3, 1) := by decide +kernel
theorem dX5_link_78 : decode cX5_link 78 = .ok (.iload 4, 2) := by decide +kernel
theorem dX5_link_80 : decode cX5_link 80 = .ok (.invokevirtual 145, 3) := by decide +kernel
theorem dX5_link_83 : decode cX5_link 83 = .ok (.aload_n 0, 1) := by decide +kernel
theorem dX5_link_84 : decode cX5_link 84 = .ok (.iconst 0, 1) := by decide +kernel
theorem dX5_link_85 : decode cX5_link 85 = .ok (.putfield 24, 3) := by decide +kernel
theorem dX5_link_88 : decode cX5_link 88 = .ok (.aload 5, 2) := by decide +kernel
theorem dX5_link_90 : decode cX5_link 90 = .ok (.getfield 103, 3) := by decide +kernel
theorem dX5_link_93 : decode cX5_link 93 = .ok (.iload_n 1, 1) := by decide +kernel
theorem dX5_link_94 : decode cX5_link 94 = .ok (.iaload, 1) := by decide +kernel
theorem dX5_link_95 : decode cX5_link 95 = .ok (.ireturn, 1) := by decide +kernel
theorem dX5_unlink_0 : decode cX5_unlink 0 = .ok (.aload_n 0, 1) := by decide +kernel
theorem dX5_unlink_1 : decode cX5_unlink 1 = .ok (.getfield 45, 3) := by decide +kernel
theorem dX5_unlink_4 : decode cX5_unlink 4 = .ok (.getfield 83, 3) := by decide +kernel
theorem dX5_unlink_7 : decode cX5_unlink 7 = .ok (.astore_n 3, 1) := by decide +kernel
theorem dX5_unlink_8 : decode cX5_unlink 8 = .ok (.aload_n 3, 1) := by decide +kernel
theorem dX5_unlink_9 : decode cX5_unlink 9 = .ok (.iload_n 1, 1) := by decide +kernel
theorem dX5_unlink_10 : decode cX5_unlink 10 = .ok (.iload_n 2, 1) := by decide +kernel
theorem dX5_unlink_11 : decode cX5_unlink 11 = .ok (.invokevirtual 129, 3) := by decide +kernel
theorem dX5_unlink_14 : decode cX5_unlink 14 = .ok (.ifCond .ne 6, 3) := by decide +kernel
theorem dX5_unlink_17 : decode cX5_unlink 17 = .ok (.ldc 96, 2) := by decide +kernel
theorem dX5_unlink_19 : decode cX5_unlink 19 = .ok (.ireturn, 1) := by decide +kernel
theorem dX5_unlink_20 : decode cX5_unlink 20 = .ok (.aload_n 3, 1) := by decide +kernel
theorem dX5_unlink_21 : decode cX5_unlink 21 = .ok (.iload_n 1, 1) := by decide +kernel
theorem dX5_unlink_22 : decode cX5_unlink 22 = .ok (.iload_n 2, 1) := by decide +kernel
theorem dX5_unlink_23 : decode cX5_unlink 23 = .ok (.invokevirtual 149, 3) := by decide +kernel
theorem dX5_unlink_26 : decode cX5_unlink 26 = .ok (.aload_n 0, 1) := by decide +kernel
theorem dX5_unlink_27 : decode cX5_unlink 27 = .ok (.iconst 0, 1) := by decide +kernel
theorem dX5_unlink_28 : decode cX5_unlink 28 = .ok (.putfield 24, 3) := by decide +kernel
theorem dX5_unlink_31 : decode cX5_unlink 31 = .ok (.aload_n 3, 1) := by decide +kernel
theorem dX5_unlink_32 : decode cX5_unlink 32 = .ok (.getfield 103, 3) := by decide +kernel
theorem dX5_unlink_35 : decode cX5_unlink 35 = .ok (.iload_n 1, 1) := by decide +kernel
theorem dX5_unlink_36 : decode cX5_unlink 36 = .ok (.iaload, 1) := by decide +kernel
theorem dX5_unlink_37 : decode cX5_unlink 37 = .ok (.ireturn, 1) := by decide +kernel
theorem dX5_count_0 : decode cX5_count 0 = .ok (.iload_n 1, 1) := by decide +kernel
theorem dX5_count_1 : decode cX5_count 1 = .ok (.tableswitch 93 0 5 #[39, 50, 61, 72, 77, 85], 39) := by decide +kernel
theorem dX5_count_40 : decode cX5_count 40 = .ok (.aload_n 0, 1) := by decide +kernel
theorem dX5_count_41 : decode cX5_count 41 = .ok (.getfield 45, 3) := by decide +kernel
theorem dX5_count_44 : decode cX5_count 44 = .ok (.getfield 83, 3) := by decide +kernel
theorem dX5_count_47 : decode cX5_count 47 = .ok (.getfield 86, 3) := by decide +kernel
theorem dX5_count_50 : decode cX5_count 50 = .ok (.ireturn, 1) := by decide +kernel
theorem dX5_count_51 : decode cX5_count 51 = .ok (.aload_n 0, 1) := by decide +kernel
theorem dX5_count_52 : decode cX5_count 52 = .ok (.getfield 45, 3) := by decide +kernel
theorem dX5_count_55 : decode cX5_count 55 = .ok (.getfield 83, 3) := by decide +kernel
theorem dX5_count_58 : decode cX5_count 58 = .ok (.invokevirtual 153, 3) := by decide +kernel
theorem dX5_count_61 : decode cX5_count 61 = .ok (.ireturn, 1) := by decide +kernel
theorem dX5_count_62 : decode cX5_count 62 = .ok (.aload_n 0, 1) := by decide +kernel
theorem dX5_count_63 : decode cX5_count 63 = .ok (.getfield 45, 3) := by decide +kernel
theorem dX5_count_66 : decode cX5_count 66 = .ok (.getfield 83, 3) := by decide +kernel
theorem dX5_count_69 : decode cX5_count 69 = .ok (.getfield 156, 3) := by decide +kernel
theorem dX5_count_72 : decode cX5_count 72 = .ok (.ireturn, 1) := by decide +kernel
theorem dX5_count_73 : decode cX5_count 73 = .ok (.aload_n 0, 1) := by decide +kernel
theorem dX5_count_74 : decode cX5_count 74 = .ok (.getfield 20, 3) := by decide +kernel
theorem dX5_count_77 : decode cX5_count 77 = .ok (.ireturn, 1) := by decide +kernel
theorem dX5_count_78 : decode cX5_count 78 = .ok (.aload_n 0, 1) := by decide +kernel
theorem dX5_count_79 : decode cX5_count 79 = .ok (.getfield 10, 3) := by decide +kernel
theorem dX5_count_82 : decode cX5_count 82 = .ok (.getfield 64, 3) := by decide +kernel
theorem dX5_count_85 : decode cX5_count 85 = .ok (.ireturn, 1) := by decide +kernel
theorem dX5_count_86 : decode cX5_count 86 = .ok (.aload_n 0, 1) := by decide +kernel
theorem dX5_count_87 : decode cX5_count 87 = .ok (.invokevirtual 159, 3) := by decide +kernel
theorem dX5_count_90 : decode cX5_count 90 = .ok (.getfield 163, 3) := by decide +kernel
theorem dX5_count_93 : decode cX5_count 93 = .ok (.ireturn, 1) := by decide +kernel
theorem dX5_count_94 : decode cX5_count 94 = .ok (.ldc 63, 2) := by decide +kernel
theorem dX5_count_96 : decode cX5_count 96 = .ok (.ireturn, 1) := by decide +kernel
theorem dX5_begin_0 : decode cX5_begin 0 = .ok (.aload_n 0, 1) := by decide +kernel
theorem dX5_begin_1 : decode cX5_begin 1 = .ok (.getfield 45, 3) := by decide +kernel
theorem dX5_begin_4 : decode cX5_begin 4 = .ok (.getfield 83, 3) := by decide +kernel
theorem dX5_begin_7 : decode cX5_begin 7 = .ok (.getfield 86, 3) := by decide +kernel
theorem dX5_begin_10 : decode cX5_begin 10 = .ok (.ifCond .ne 6, 3) := by decide +kernel
theorem dX5_begin_13 : decode cX5_begin 13 = .ok (.ldc 144, 2) := by decide +kernel
theorem dX5_begin_15 : decode cX5_begin 15 = .ok (.ireturn, 1) := by decide +kernel
theorem dX5_begin_16 : decode cX5_begin 16 = .ok (.aload_n 0, 1) := by decide +kernel
theorem dX5_begin_17 : decode cX5_begin 17 = .ok (.getfield 45, 3) := by decide +kernel
theorem dX5_begin_20 : decode cX5_begin 20 = .ok (.invokevirtual 166, 3) := by decide +kernel
theorem dX5_begin_23 : decode cX5_begin 23 = .ok (.aload_n 0, 1) := by decide +kernel
theorem dX5_begin_24 : decode cX5_begin 24 = .ok (.getfield 45, 3) := by decide +kernel
theorem dX5_begin_27 : decode cX5_begin 27 = .ok (.invokevirtual 169, 3) := by decide +kernel
theorem dX5_begin_30 : decode cX5_begin 30 = .ok (.ireturn, 1) := by decide +kernel
theorem dX5_choose_0 : decode cX5_choose 0 = .ok (.aload_n 0, 1) := by decide +kernel
theorem dX5_choose_1 : decode cX5_choose 1 = .ok (.getfield 45, 3) := by decide +kernel
theorem dX5_choose_4 : decode cX5_choose 4 = .ok (.getfield 172, 3) := by decide +kernel
theorem dX5_choose_7 : decode cX5_choose 7 = .ok (.ifCond .ne 6, 3) := by decide +kernel
theorem dX5_choose_10 : decode cX5_choose 10 = .ok (.ldc 144, 2) := by decide +kernel
theorem dX5_choose_12 : decode cX5_choose 12 = .ok (.ireturn, 1) := by decide +kernel
theorem dX5_choose_13 : decode cX5_choose 13 = .ok (.aload_n 0, 1) := by decide +kernel
theorem dX5_choose_14 : decode cX5_choose 14 = .ok (.getfield 45, 3) := by decide +kernel
theorem dX5_choose_17 : decode cX5_choose 17 = .ok (.getfield 83, 3) := by decide +kernel
theorem dX5_choose_20 : decode cX5_choose 20 = .ok (.aload_n 0, 1) := by decide +kernel
theorem dX5_choose_21 : decode cX5_choose 21 = .ok (.getfield 45, 3) := by decide +kernel
theorem dX5_choose_24 : decode cX5_choose 24 = .ok (.getfield 175, 3) := by decide +kernel
theorem dX5_choose_27 : decode cX5_choose 27 = .ok (.invokestatic 178, 3) := by decide +kernel
theorem dX5_choose_30 : decode cX5_choose 30 = .ok (.iload_n 1, 1) := by decide +kernel
theorem dX5_choose_31 : decode cX5_choose 31 = .ok (.invokevirtual 129, 3) := by decide +kernel
theorem dX5_choose_34 : decode cX5_choose 34 = .ok (.ifCond .ne 6, 3) := by decide +kernel
theorem dX5_choose_37 : decode cX5_choose 37 = .ok (.ldc 96, 2) := by decide +kernel
theorem dX5_choose_39 : decode cX5_choose 39 = .ok (.ireturn, 1) := by decide +kernel
theorem dX5_choose_40 : decode cX5_choose 40 = .ok (.aload_n 0, 1) := by decide +kernel
theorem dX5_choose_41 : decode cX5_choose 41 = .ok (.getfield 45, 3) := by decide +kernel
theorem dX5_choose_44 : decode cX5_choose 44 = .ok (.getfield 83, 3) := by decide +kernel
theorem dX5_choose_47 : decode cX5_choose 47 = .ok (.aload_n 0, 1) := by decide +kernel
theorem dX5_choose_48 : decode cX5_choose 48 = .ok (.getfield 45, 3) := by decide +kernel
theorem dX5_choose_51 : decode cX5_choose 51 = .ok (.getfield 175, 3) := by decide +kernel
theorem dX5_choose_54 : decode cX5_choose 54 = .ok (.iload_n 1, 1) := by decide +kernel
theorem dX5_choose_55 : decode cX5_choose 55 = .ok (.invokevirtual 183, 3) := by decide +kernel
theorem dX5_choose_58 : decode cX5_choose 58 = .ok (.ifCond .ne 6, 3) := by decide +kernel
theorem dX5_choose_61 : decode cX5_choose 61 = .ok (.ldc 144, 2) := by decide +kernel
theorem dX5_choose_63 : decode cX5_choose 63 = .ok (.ireturn, 1) := by decide +kernel
theorem dX5_choose_64 : decode cX5_choose 64 = .ok (.aload_n 0, 1) := by decide +kernel
theorem dX5_choose_65 : decode cX5_choose 65 = .ok (.getfield 45, 3) := by decide +kernel
theorem dX5_choose_68 : decode cX5_choose 68 = .ok (.aload_n 0, 1) := by decide +kernel
theorem dX5_choose_69 : decode cX5_choose 69 = .ok (.getfield 45, 3) := by decide +kernel
theorem dX5_choose_72 : decode cX5_choose 72 = .ok (.getfield 83, 3) := by decide +kernel
theorem dX5_choose_75 : decode cX5_choose 75 = .ok (.aload_n 0, 1) := by decide +kernel
theorem dX5_choose_76 : decode cX5_choose 76 = .ok (.getfield 45, 3) := by decide +kernel
theorem dX5_choose_79 : decode cX5_choose 79 = .ok (.getfield 175, 3) := by decide +kernel
theorem dX5_choose_82 : decode cX5_choose 82 = .ok (.iload_n 1, 1) := by decide +kernel
theorem dX5_choose_83 : decode cX5_choose 83 = .ok (.invokevirtual 186, 3) := by decide +kernel
theorem dX5_choose_86 : decode cX5_choose 86 = .ok (.invokevirtual 190, 3) := by decide +kernel
theorem dX5_choose_89 : decode cX5_choose 89 = .ok (.aload_n 0, 1) := by decide +kernel
theorem dX5_choose_90 : decode cX5_choose 90 = .ok (.getfield 45, 3) := by decide +kernel
theorem dX5_choose_93 : decode cX5_choose 93 = .ok (.invokevirtual 169, 3) := by decide +kernel
theorem dX5_choose_96 : decode cX5_choose 96 = .ok (.ireturn, 1) := by decide +kernel
theorem dX5_roll_0 : decode cX5_roll 0 = .ok (.iload_n 1, 1) := by decide +kernel
theorem dX5_roll_1 : decode cX5_roll 1 = .ok (.iconst (-1), 1) := by decide +kernel
theorem dX5_roll_2 : decode cX5_roll 2 = .ok (.if_icmp .eq 17, 3) := by decide +kernel
theorem dX5_roll_5 : decode cX5_roll 5 = .ok (.iload_n 1, 1) := by decide +kernel
theorem dX5_roll_6 : decode cX5_roll 6 = .ok (.iconst 1, 1) := by decide +kernel
theorem dX5_roll_7 : decode cX5_roll 7 = .ok (.if_icmp .lt 9, 3) := by decide +kernel
theorem dX5_roll_10 : decode cX5_roll 10 = .ok (.iload_n 1, 1) := by decide +kernel
theorem dX5_roll_11 : decode cX5_roll 11 = .ok (.bipush 6, 2) := by decide +kernel
theorem dX5_roll_13 : decode cX5_roll 13 = .ok (.if_icmp .le 6, 3) := by decide +kernel
theorem dX5_roll_16 : decode cX5_roll 16 = .ok (.ldc 63, 2) := by decide +kernel
theorem dX5_roll_18 : decode cX5_roll 18 = .ok (.ireturn, 1) := by decide +kernel
theorem dX5_roll_19 : decode cX5_roll 19 = .ok (.aload_n 0, 1) := by decide +kernel
theorem dX5_roll_20 : decode cX5_roll 20 = .ok (.getfield 45, 3) := by decide +kernel
theorem dX5_roll_23 : decode cX5_roll 23 = .ok (.getfield 172, 3) := by decide +kernel
theorem dX5_roll_26 : decode cX5_roll 26 = .ok (.ifCond .eq 16, 3) := by decide +kernel
theorem dX5_roll_29 : decode cX5_roll 29 = .ok (.aload_n 0, 1) := by decide +kernel
theorem dX5_roll_30 : decode cX5_roll 30 = .ok (.getfield 45, 3) := by decide +kernel
theorem dX5_roll_33 : decode cX5_roll 33 = .ok (.getfield 175, 3) := by decide +kernel
theorem dX5_roll_36 : decode cX5_roll 36 = .ok (.invokestatic 194, 3) := by decide +kernel
theorem dX5_roll_39 : decode cX5_roll 39 = .ok (.ifCond .eq 6, 3) := by decide +kernel
theorem dX5_roll_42 : decode cX5_roll 42 = .ok (.ldc 144, 2) := by decide +kernel
theorem dX5_roll_44 : decode cX5_roll 44 = .ok (.ireturn, 1) := by decide +kernel
theorem dX5_roll_45 : decode cX5_roll 45 = .ok (.aload_n 0, 1) := by decide +kernel
theorem dX5_roll_46 : decode cX5_roll 46 = .ok (.getfield 45, 3) := by decide +kernel
theorem dX5_roll_49 : decode cX5_roll 49 = .ok (.getfield 175, 3) := by decide +kernel
theorem dX5_roll_52 : decode cX5_roll 52 = .ok (.invokestatic 178, 3) := by decide +kernel
theorem dX5_roll_55 : decode cX5_roll 55 = .ok (.istore_n 2, 1) := by decide +kernel
theorem dX5_roll_56 : decode cX5_roll 56 = .ok (.aload_n 0, 1) := by decide +kernel
theorem dX5_roll_57 : decode cX5_roll 57 = .ok (.getfield 45, 3) := by decide +kernel
theorem dX5_roll_60 : decode cX5_roll 60 = .ok (.getfield 83, 3) := by decide +kernel
theorem dX5_roll_63 : decode cX5_roll 63 = .ok (.iload_n 2, 1) := by decide +kernel
theorem dX5_roll_64 : decode cX5_roll 64 = .ok (.invokevirtual 197, 3) := by decide +kernel
theorem dX5_roll_67 : decode cX5_roll 67 = .ok (.ifCond .ne 6, 3) := by decide +kernel
theorem dX5_roll_70 : decode cX5_roll 70 = .ok (.ldc 144, 2) := by decide +kernel
theorem dX5_roll_72 : decode cX5_roll 72 = .ok (.ireturn, 1) := by decide +kernel
theorem dX5_roll_73 : decode cX5_roll 73 = .ok (.iload_n 1, 1) := by decide +kernel
theorem dX5_roll_74 : decode cX5_roll 74 = .ok (.iconst (-1), 1) := by decide +kernel
theorem dX5_roll_75 : decode cX5_roll 75 = .ok (.if_icmp .ne 17, 3) := by decide +kernel
theorem dX5_roll_78 : decode cX5_roll 78 = .ok (.aload_n 0, 1) := by decide +kernel
theorem dX5_roll_79 : decode cX5_roll 79 = .ok (.getfield 45, 3) := by decide +kernel
theorem dX5_roll_82 : decode cX5_roll 82 = .ok (.bipush 6, 2) := by decide +kernel
theorem dX5_roll_84 : decode cX5_roll 84 = .ok (.invokevirtual 200, 3) := by decide +kernel
theorem dX5_roll_87 : decode cX5_roll 87 = .ok (.iconst 1, 1) := by decide +kernel
theorem dX5_roll_88 : decode cX5_roll 88 = .ok (.iadd, 1) := by decide +kernel
theorem dX5_roll_89 : decode cX5_roll 89 = .ok (.goto 4, 3) := by decide +kernel
theorem dX5_roll_92 : decode cX5_roll 92 = .ok (.iload_n 1, 1) := by decide +kernel
theorem dX5_roll_93 : decode cX5_roll 93 = .ok (.istore_n 3, 1) := by decide +kernel
theorem dX5_roll_94 : decode cX5_roll 94 = .ok (.aload_n 0, 1) := by decide +kernel
theorem dX5_roll_95 : decode cX5_roll 95 = .ok (.getfield 45, 3) := by decide +kernel
theorem dX5_roll_98 : decode cX5_roll 98 = .ok (.aload_n 0, 1) := by decide +kernel
theorem dX5_roll_99 : decode cX5_roll 99 = .ok (.getfield 45, 3) := by decide +kernel
theorem dX5_roll_102 : decode cX5_roll 102 = .ok (.getfield 83, 3) := by decide +kernel
theorem dX5_roll_105 : decode cX5_roll 105 = .ok (.iload_n 2, 1) := by decide +kernel
theorem dX5_roll_106 : decode cX5_roll 106 = .ok (.iload_n 3, 1) := by decide +kernel
theorem dX5_roll_107 : decode cX5_roll 107 = .ok (.invokevirtual 203, 3) := by decide +kernel
theorem dX5_roll_110 : decode cX5_roll 110 = .ok (.invokevirtual 190, 3) := by decide +kernel
theorem dX5_roll_113 : decode cX5_roll 113 = .ok (.aload_n 0, 1) := by decide +kernel
theorem dX5_roll_114 : decode cX5_roll 114 = .ok (.getfield 45, 3) := by decide +kernel
theorem dX5_roll_117 : decode cX5_roll 117 = .ok (.invokevirtual 169, 3) := by decide +kernel
theorem dX5_roll_120 : decode cX5_roll 120 = .ok (.ireturn, 1) := by decide +kernel
theorem dX5_now_0 : decode cX5_now 0 = .ok (.iload_n 1, 1) := by decide +kernel
theorem dX5_now_1 : decode cX5_now 1 = .ok (.ifCond .lt 8, 3) := by decide +kernel
theorem dX5_now_4 : decode cX5_now 4 = .ok (.iload_n 1, 1) := by decide +kernel
theorem dX5_now_5 : decode cX5_now 5 = .ok (.iconst 5, 1) := by decide +kernel
theorem dX5_now_6 : decode cX5_now 6 = .ok (.if_icmp .le 6, 3) := by decide +kernel
theorem dX5_now_9 : decode cX5_now 9 = .ok (.ldc 63, 2) := by decide +kernel
theorem dX5_now_11 : decode cX5_now 11 = .ok (.ireturn, 1) := by decide +kernel
theorem dX5_now_12 : decode cX5_now 12 = .ok (.aload_n 0, 1) := by decide +kernel
theorem dX5_now_13 : decode cX5_now 13 = .ok (.getfield 45, 3) := by decide +kernel
theorem dX5_now_16 : decode cX5_now 16 = .ok (.getfield 172, 3) := by decide +kernel
theorem dX5_now_19 : decode cX5_now 19 = .ok (.ifCond .ne 6, 3) := by decide +kernel
theorem dX5_now_22 : decode cX5_now 22 = .ok (.ldc 144, 2) := by decide +kernel
theorem dX5_now_24 : decode cX5_now 24 = .ok (.ireturn, 1) := by decide +kernel
theorem dX5_now_25 : decode cX5_now 25 = .ok (.iload_n 1, 1) := by decide +kernel
theorem dX5_now_26 : decode cX5_now 26 = .ok (.tableswitch 83 0 4 #[34, 45, 56, 67, 75], 34) := by decide +kernel
theorem dX5_now_60 : decode cX5_now 60 = .ok (.aload_n 0, 1) := by decide +kernel
theorem dX5_now_61 : decode cX5_now 61 = .ok (.getfield 45, 3) := by decide +kernel
theorem dX5_now_64 : decode cX5_now 64 = .ok (.getfield 175, 3) := by decide +kernel
theorem dX5_now_67 : decode cX5_now 67 = .ok (.invokestatic 178, 3) := by decide +kernel
theorem dX5_now_70 : decode cX5_now 70 = .ok (.ireturn, 1) := by decide +kernel
theorem dX5_now_71 : decode cX5_now 71 = .ok (.aload_n 0, 1) := by decide +kernel
theorem dX5_now_72 : decode cX5_now 72 = .ok (.getfield 45, 3) := by decide +kernel
theorem dX5_now_75 : decode cX5_now 75 = .ok (.getfield 175, 3) := by decide +kernel
theorem dX5_now_78 : decode cX5_now 78 = .ok (.invokestatic 206, 3) := by decide +kernel
theorem dX5_now_81 : decode cX5_now 81 = .ok (.ireturn, 1) := by decide +kernel
theorem dX5_now_82 : decode cX5_now 82 = .ok (.aload_n 0, 1) := by decide +kernel
theorem dX5_now_83 : decode cX5_now 83 = .ok (.getfield 45, 3) := by decide +kernel
theorem dX5_now_86 : decode cX5_now 86 = .ok (.getfield 175, 3) := by decide +kernel
theorem dX5_now_89 : decode cX5_now 89 = .ok (.invokestatic 209, 3) := by decide +kernel
theorem dX5_now_92 : decode cX5_now 92 = .ok (.ireturn, 1) := by decide +kernel
theorem dX5_now_93 : decode cX5_now 93 = .ok (.aload_n 0, 1) := by decide +kernel
theorem dX5_now_94 : decode cX5_now 94 = .ok (.getfield 45, 3) := by decide +kernel
theorem dX5_now_97 : decode cX5_now 97 = .ok (.getfield 212, 3) := by decide +kernel
theorem dX5_now_100 : decode cX5_now 100 = .ok (.ireturn, 1) := by decide +kernel
theorem dX5_now_101 : decode cX5_now 101 = .ok (.aload_n 0, 1) := by decide +kernel
theorem dX5_now_102 : decode cX5_now 102 = .ok (.getfield 45, 3) := by decide +kernel
theorem dX5_now_105 : decode cX5_now 105 = .ok (.invokevirtual 169, 3) := by decide +kernel
theorem dX5_now_108 : decode cX5_now 108 = .ok (.ireturn, 1) := by decide +kernel
theorem dX5_now_109 : decode cX5_now 109 = .ok (.aload_n 0, 1) := by decide +kernel
theorem dX5_now_110 : decode cX5_now 110 = .ok (.getfield 45, 3) := by decide +kernel
theorem dX5_now_113 : decode cX5_now 113 = .ok (.getfield 83, 3) := by decide +kernel
theorem dX5_now_116 : decode cX5_now 116 = .ok (.aload_n 0, 1) := by decide +kernel
theorem dX5_now_117 : decode cX5_now 117 = .ok (.getfield 45, 3) := by decide +kernel
theorem dX5_now_120 : decode cX5_now 120 = .ok (.getfield 175, 3) := by decide +kernel
theorem dX5_now_123 : decode cX5_now 123 = .ok (.invokevirtual 215, 3) := by decide +kernel
theorem dX5_now_126 : decode cX5_now 126 = .ok (.ireturn, 1) := by decide +kernel
theorem dX5_odds_0 : decode cX5_odds 0 = .ok (.iload_n 1, 1) := by decide +kernel
theorem dX5_odds_1 : decode cX5_odds 1 = .ok (.ifCond .lt 9, 3) := by decide +kernel
theorem dX5_odds_4 : decode cX5_odds 4 = .ok (.iload_n 1, 1) := by decide +kernel
theorem dX5_odds_5 : decode cX5_odds 5 = .ok (.bipush 60, 2) := by decide +kernel
theorem dX5_odds_7 : decode cX5_odds 7 = .ok (.if_icmp .le 6, 3) := by decide +kernel
theorem dX5_odds_10 : decode cX5_odds 10 = .ok (.ldc 63, 2) := by decide +kernel
theorem dX5_odds_12 : decode cX5_odds 12 = .ok (.ireturn, 1) := by decide +kernel
theorem dX5_odds_13 : decode cX5_odds 13 = .ok (.aload_n 0, 1) := by decide +kernel
theorem dX5_odds_14 : decode cX5_odds 14 = .ok (.getfield 45, 3) := by decide +kernel
theorem dX5_odds_17 : decode cX5_odds 17 = .ok (.getfield 172, 3) := by decide +kernel
theorem dX5_odds_20 : decode cX5_odds 20 = .ok (.ifCond .ne 6, 3) := by decide +kernel
theorem dX5_odds_23 : decode cX5_odds 23 = .ok (.ldc 144, 2) := by decide +kernel
theorem dX5_odds_25 : decode cX5_odds 25 = .ok (.ireturn, 1) := by decide +kernel
theorem dX5_odds_26 : decode cX5_odds 26 = .ok (.aload_n 0, 1) := by decide +kernel
theorem dX5_odds_27 : decode cX5_odds 27 = .ok (.invokevirtual 159, 3) := by decide +kernel
theorem dX5_odds_30 : decode cX5_odds 30 = .ok (.astore_n 2, 1) := by decide +kernel
theorem dX5_odds_31 : decode cX5_odds 31 = .ok (.aload_n 2, 1) := by decide +kernel
theorem dX5_odds_32 : decode cX5_odds 32 = .ok (.aload_n 0, 1) := by decide +kernel
theorem dX5_odds_33 : decode cX5_odds 33 = .ok (.getfield 45, 3) := by decide +kernel
theorem dX5_odds_36 : decode cX5_odds 36 = .ok (.getfield 175, 3) := by decide +kernel
theorem dX5_odds_39 : decode cX5_odds 39 = .ok (.invokevirtual 218, 3) := by decide +kernel
theorem dX5_odds_42 : decode cX5_odds 42 = .ok (.istore_n 3, 1) := by decide +kernel
theorem dX5_odds_43 : decode cX5_odds 43 = .ok (.aload_n 2, 1) := by decide +kernel
theorem dX5_odds_44 : decode cX5_odds 44 = .ok (.iload_n 1, 1) := by decide +kernel
theorem dX5_odds_45 : decode cX5_odds 45 = .ok (.invokevirtual 221, 3) := by decide +kernel
theorem dX5_odds_48 : decode cX5_odds 48 = .ok (.aload_n 2, 1) := by decide +kernel
theorem dX5_odds_49 : decode cX5_odds 49 = .ok (.iload_n 3, 1) := by decide +kernel
theorem dX5_odds_50 : decode cX5_odds 50 = .ok (.invokevirtual 224, 3) := by decide +kernel
theorem dX5_odds_53 : decode cX5_odds 53 = .ok (.ireturn, 1) := by decide +kernel
theorem dX5_advice_0 : decode cX5_advice 0 = .ok (.iload_n 1, 1) := by decide +kernel
theorem dX5_advice_1 : decode cX5_advice 1 = .ok (.iconst 1, 1) := by decide +kernel
theorem dX5_advice_2 : decode cX5_advice 2 = .ok (.if_icmp .lt 9, 3) := by decide +kernel
theorem dX5_advice_5 : decode cX5_advice 5 = .ok (.iload_n 1, 1) := by decide +kernel
theorem dX5_advice_6 : decode cX5_advice 6 = .ok (.bipush 60, 2) := by decide +kernel
theorem dX5_advice_8 : decode cX5_advice 8 = .ok (.if_icmp .le 6, 3) := by decide +kernel
theorem dX5_advice_11 : decode cX5_advice 11 = .ok (.ldc 63, 2) := by decide +kernel
theorem dX5_advice_13 : decode cX5_advice 13 = .ok (.ireturn, 1) := by decide +kernel
theorem dX5_advice_14 : decode cX5_advice 14 = .ok (.aload_n 0, 1) := by decide +kernel
theorem dX5_advice_15 : decode cX5_advice 15 = .ok (.getfield 45, 3) := by decide +kernel
theorem dX5_advice_18 : decode cX5_advice 18 = .ok (.getfield 172, 3) := by decide +kernel
theorem dX5_advice_21 : decode cX5_advice 21 = .ok (.ifCond .ne 6, 3) := by decide +kernel
theorem dX5_advice_24 : decode cX5_advice 24 = .ok (.ldc 144, 2) := by decide +kernel
theorem dX5_advice_26 : decode cX5_advice 26 = .ok (.ireturn, 1) := by decide +kernel
theorem dX5_advice_27 : decode cX5_advice 27 = .ok (.aload_n 0, 1) := by decide +kernel
theorem dX5_advice_28 : decode cX5_advice 28 = .ok (.invokevirtual 159, 3) := by decide +kernel
theorem dX5_advice_31 : decode cX5_advice 31 = .ok (.astore_n 2, 1) := by decide +kernel
theorem dX5_advice_32 : decode cX5_advice 32 = .ok (.aload_n 2, 1) := by decide +kernel
theorem dX5_advice_33 : decode cX5_advice 33 = .ok (.aload_n 0, 1) := by decide +kernel
theorem dX5_advice_34 : decode cX5_advice 34 = .ok (.getfield 45, 3) := by decide +kernel
theorem dX5_advice_37 : decode cX5_advice 37 = .ok (.getfield 175, 3) := by decide +kernel
theorem dX5_advice_40 : decode cX5_advice 40 = .ok (.invokevirtual 218, 3) := by decide +kernel
theorem dX5_advice_43 : decode cX5_advice 43 = .ok (.pop, 1) := by decide +kernel
theorem dX5_advice_44 : decode cX5_advice 44 = .ok (.aload_n 2, 1) := by decide +kernel
theorem dX5_advice_45 : decode cX5_advice 45 = .ok (.iload_n 1, 1) := by decide +kernel
theorem dX5_advice_46 : decode cX5_advice 46 = .ok (.iconst 1, 1) := by decide +kernel
theorem dX5_advice_47 : decode cX5_advice 47 = .ok (.isub, 1) := by decide +kernel
theorem dX5_advice_48 : decode cX5_advice 48 = .ok (.invokevirtual 221, 3) := by decide +kernel
theorem dX5_advice_51 : decode cX5_advice 51 = .ok (.aload_n 0, 1) := by decide +kernel
theorem dX5_advice_52 : decode cX5_advice 52 = .ok (.aload_n 2, 1) := by decide +kernel
theorem dX5_advice_53 : decode cX5_advice 53 = .ok (.invokevirtual 227, 3) := by decide +kernel
theorem dX5_advice_56 : decode cX5_advice 56 = .ok (.ireturn, 1) := by decide +kernel
theorem dX5_fewest_0 : decode cX5_fewest 0 = .ok (.aload_n 0, 1) := by decide +kernel
theorem dX5_fewest_1 : decode cX5_fewest 1 = .ok (.getfield 45, 3) := by decide +kernel
theorem dX5_fewest_4 : decode cX5_fewest 4 = .ok (.getfield 172, 3) := by decide +kernel
theorem dX5_fewest_7 : decode cX5_fewest 7 = .ok (.ifCond .ne 6, 3) := by decide +kernel
theorem dX5_fewest_10 : decode cX5_fewest 10 = .ok (.ldc 144, 2) := by decide +kernel
theorem dX5_fewest_12 : decode cX5_fewest 12 = .ok (.ireturn, 1) := by decide +kernel
theorem dX5_fewest_13 : decode cX5_fewest 13 = .ok (.aload_n 0, 1) := by decide +kernel
theorem dX5_fewest_14 : decode cX5_fewest 14 = .ok (.invokevirtual 159, 3) := by decide +kernel
theorem dX5_fewest_17 : decode cX5_fewest 17 = .ok (.astore_n 1, 1) := by decide +kernel
theorem dX5_fewest_18 : decode cX5_fewest 18 = .ok (.aload_n 1, 1) := by decide +kernel
theorem dX5_fewest_19 : decode cX5_fewest 19 = .ok (.aload_n 0, 1) := by decide +kernel
theorem dX5_fewest_20 : decode cX5_fewest 20 = .ok (.getfield 45, 3) := by decide +kernel
theorem dX5_fewest_23 : decode cX5_fewest 23 = .ok (.getfield 175, 3) := by decide +kernel
theorem dX5_fewest_26 : decode cX5_fewest 26 = .ok (.invokevirtual 218, 3) := by decide +kernel
theorem dX5_fewest_29 : decode cX5_fewest 29 = .ok (.istore_n 2, 1) := by decide +kernel
theorem dX5_fewest_30 : decode cX5_fewest 30 = .ok (.aload_n 1, 1) := by decide +kernel
theorem dX5_fewest_31 : decode cX5_fewest 31 = .ok (.invokevirtual 231, 3) := by decide +kernel
theorem dX5_fewest_34 : decode cX5_fewest 34 = .ok (.aload_n 1, 1) := by decide +kernel
theorem dX5_fewest_35 : decode cX5_fewest 35 = .ok (.iload_n 2, 1) := by decide +kernel
theorem dX5_fewest_36 : decode cX5_fewest 36 = .ok (.invokevirtual 234, 3) := by decide +kernel
theorem dX5_fewest_39 : decode cX5_fewest 39 = .ok (.ireturn, 1) := by decide +kernel
theorem dX5_surely_0 : decode cX5_surely 0 = .ok (.aload_n 0, 1) := by decide +kernel
theorem dX5_surely_1 : decode cX5_surely 1 = .ok (.getfield 45, 3) := by decide +kernel
theorem dX5_surely_4 : decode cX5_surely 4 = .ok (.getfield 172, 3) := by decide +kernel
theorem dX5_surely_7 : decode cX5_surely 7 = .ok (.ifCond .ne 6, 3) := by decide +kernel
theorem dX5_surely_10 : decode cX5_surely 10 = .ok (.ldc 144, 2) := by decide +kernel
theorem dX5_surely_12 : decode cX5_surely 12 = .ok (.ireturn, 1) := by decide +kernel
theorem dX5_surely_13 : decode cX5_surely 13 = .ok (.aload_n 0, 1) := by decide +kernel
theorem dX5_surely_14 : decode cX5_surely 14 = .ok (.invokevirtual 159, 3) := by decide +kernel
theorem dX5_surely_17 : decode cX5_surely 17 = .ok (.astore_n 1, 1) := by decide +kernel
theorem dX5_surely_18 : decode cX5_surely 18 = .ok (.aload_n 1, 1) := by decide +kernel
theorem dX5_surely_19 : decode cX5_surely 19 = .ok (.aload_n 0, 1) := by decide +kernel
theorem dX5_surely_20 : decode cX5_surely 20 = .ok (.getfield 45, 3) := by decide +kernel
theorem dX5_surely_23 : decode cX5_surely 23 = .ok (.getfield 175, 3) := by decide +kernel
theorem dX5_surely_26 : decode cX5_surely 26 = .ok (.invokevirtual 218, 3) := by decide +kernel
theorem dX5_surely_29 : decode cX5_surely 29 = .ok (.istore_n 2, 1) := by decide +kernel
theorem dX5_surely_30 : decode cX5_surely 30 = .ok (.iconst 0, 1) := by decide +kernel
theorem dX5_surely_31 : decode cX5_surely 31 = .ok (.istore_n 3, 1) := by decide +kernel
theorem dX5_surely_32 : decode cX5_surely 32 = .ok (.iload_n 3, 1) := by decide +kernel
theorem dX5_surely_33 : decode cX5_surely 33 = .ok (.bipush 60, 2) := by decide +kernel
theorem dX5_surely_35 : decode cX5_surely 35 = .ok (.if_icmp .gt 26, 3) := by decide +kernel
theorem dX5_surely_38 : decode cX5_surely 38 = .ok (.aload_n 1, 1) := by decide +kernel
theorem dX5_surely_39 : decode cX5_surely 39 = .ok (.iload_n 3, 1) := by decide +kernel
theorem dX5_surely_40 : decode cX5_surely 40 = .ok (.invokevirtual 221, 3) := by decide +kernel
theorem dX5_surely_43 : decode cX5_surely 43 = .ok (.aload_n 1, 1) := by decide +kernel
theorem dX5_surely_44 : decode cX5_surely 44 = .ok (.iload_n 2, 1) := by decide +kernel
theorem dX5_surely_45 : decode cX5_surely 45 = .ok (.invokevirtual 224, 3) := by decide +kernel
theorem dX5_surely_48 : decode cX5_surely 48 = .ok (.ldc 237, 2) := by decide +kernel
theorem dX5_surely_50 : decode cX5_surely 50 = .ok (.if_icmp .ne 5, 3) := by decide +kernel
theorem dX5_surely_53 : decode cX5_surely 53 = .ok (.iload_n 3, 1) := by decide +kernel
theorem dX5_surely_54 : decode cX5_surely 54 = .ok (.ireturn, 1) := by decide +kernel
theorem dX5_surely_55 : decode cX5_surely 55 = .ok (.iinc 3 1, 3) := by decide +kernel
theorem dX5_surely_58 : decode cX5_surely 58 = .ok (.goto (-26), 3) := by decide +kernel
theorem dX5_surely_61 : decode cX5_surely 61 = .ok (.iconst (-1), 1) := by decide +kernel
theorem dX5_surely_62 : decode cX5_surely 62 = .ok (.ireturn, 1) := by decide +kernel
theorem dX5_parts_0 : decode cX5_parts 0 = .ok (.iload_n 1, 1) := by decide +kernel
theorem dX5_parts_1 : decode cX5_parts 1 = .ok (.tableswitch 64 0 3 #[31, 39, 48, 56], 31) := by decide +kernel
theorem dX5_parts_32 : decode cX5_parts 32 = .ok (.aload_n 0, 1) := by decide +kernel
theorem dX5_parts_33 : decode cX5_parts 33 = .ok (.invokevirtual 159, 3) := by decide +kernel
theorem dX5_parts_36 : decode cX5_parts 36 = .ok (.getfield 238, 3) := by decide +kernel
theorem dX5_parts_39 : decode cX5_parts 39 = .ok (.ireturn, 1) := by decide +kernel
theorem dX5_parts_40 : decode cX5_parts 40 = .ok (.aload_n 0, 1) := by decide +kernel
theorem dX5_parts_41 : decode cX5_parts 41 = .ok (.aload_n 0, 1) := by decide +kernel
theorem dX5_parts_42 : decode cX5_parts 42 = .ok (.invokevirtual 159, 3) := by decide +kernel
theorem dX5_parts_45 : decode cX5_parts 45 = .ok (.invokevirtual 241, 3) := by decide +kernel
theorem dX5_parts_48 : decode cX5_parts 48 = .ok (.ireturn, 1) := by decide +kernel
theorem dX5_parts_49 : decode cX5_parts 49 = .ok (.aload_n 0, 1) := by decide +kernel
theorem dX5_parts_50 : decode cX5_parts 50 = .ok (.invokevirtual 159, 3) := by decide +kernel
theorem dX5_parts_53 : decode cX5_parts 53 = .ok (.invokevirtual 244, 3) := by decide +kernel
theorem dX5_parts_56 : decode cX5_parts 56 = .ok (.ireturn, 1) := by decide +kernel
theorem dX5_parts_57 : decode cX5_parts 57 = .ok (.aload_n 0, 1) := by decide +kernel
theorem dX5_parts_58 : decode cX5_parts 58 = .ok (.invokevirtual 159, 3) := by decide +kernel
theorem dX5_parts_61 : decode cX5_parts 61 = .ok (.invokevirtual 247, 3) := by decide +kernel
theorem dX5_parts_64 : decode cX5_parts 64 = .ok (.ireturn, 1) := by decide +kernel
theorem dX5_parts_65 : decode cX5_parts 65 = .ok (.ldc 63, 2) := by decide +kernel
theorem dX5_parts_67 : decode cX5_parts 67 = .ok (.ireturn, 1) := by decide +kernel
theorem dX5_things_0 : decode cX5_things 0 = .ok (.iload_n 1, 1) := by decide +kernel
theorem dX5_things_1 : decode cX5_things 1 = .ok (.lookupswitch 44 #[(0, 27), (1, 35)], 27) := by decide +kernel
theorem dX5_things_28 : decode cX5_things 28 = .ok (.aload_n 0, 1) := by decide +kernel
theorem dX5_things_29 : decode cX5_things 29 = .ok (.invokevirtual 159, 3) := by decide +kernel
theorem dX5_things_32 : decode cX5_things 32 = .ok (.invokevirtual 250, 3) := by decide +kernel
theorem dX5_things_35 : decode cX5_things 35 = .ok (.ireturn, 1) := by decide +kernel
theorem dX5_things_36 : decode cX5_things 36 = .ok (.aload_n 0, 1) := by decide +kernel
theorem dX5_things_37 : decode cX5_things 37 = .ok (.aload_n 0, 1) := by decide +kernel
theorem dX5_things_38 : decode cX5_things 38 = .ok (.invokevirtual 159, 3) := by decide +kernel
theorem dX5_things_41 : decode cX5_things 41 = .ok (.invokevirtual 253, 3) := by decide +kernel
theorem dX5_things_44 : decode cX5_things 44 = .ok (.ireturn, 1) := by decide +kernel
theorem dX5_things_45 : decode cX5_things 45 = .ok (.ldc 63, 2) := by decide +kernel
theorem dX5_things_47 : decode cX5_things 47 = .ok (.ireturn, 1) := by decide +kernel
theorem dX5_without_0 : decode cX5_without 0 = .ok (.iload_n 1, 1) := by decide +kernel
theorem dX5_without_1 : decode cX5_without 1 = .ok (.invokestatic 256, 3) := by decide +kernel
theorem dX5_without_4 : decode cX5_without 4 = .ok (.ifCond .ne 6, 3) := by decide +kernel
theorem dX5_without_7 : decode cX5_without 7 = .ok (.ldc 96, 2) := by decide +kernel
theorem dX5_without_9 : decode cX5_without 9 = .ok (.ireturn, 1) := by decide +kernel
theorem dX5_without_10 : decode cX5_without 10 = .ok (.iload_n 2, 1) := by decide +kernel
theorem dX5_without_11 : decode cX5_without 11 = .ok (.ifCond .lt 9, 3) := by decide +kernel
theorem dX5_without_14 : decode cX5_without 14 = .ok (.iload_n 2, 1) := by decide +kernel
theorem dX5_without_15 : decode cX5_without 15 = .ok (.bipush 60, 2) := by decide +kernel
theorem dX5_without_17 : decode cX5_without 17 = .ok (.if_icmp .le 6, 3) := by decide +kernel
theorem dX5_without_20 : decode cX5_without 20 = .ok (.ldc 63, 2) := by decide +kernel
theorem dX5_without_22 : decode cX5_without 22 = .ok (.ireturn, 1) := by decide +kernel
theorem dX5_without_23 : decode cX5_without 23 = .ok (.aload_n 0, 1) := by decide +kernel
theorem dX5_without_24 : decode cX5_without 24 = .ok (.getfield 45, 3) := by decide +kernel
theorem dX5_without_27 : decode cX5_without 27 = .ok (.getfield 83, 3) := by decide +kernel
theorem dX5_without_30 : decode cX5_without 30 = .ok (.getfield 86, 3) := by decide +kernel
theorem dX5_without_33 : decode cX5_without 33 = .ok (.ifCond .ne 6, 3) := by decide +kernel
theorem dX5_without_36 : decode cX5_without 36 = .ok (.ldc 144, 2) := by decide +kernel
theorem dX5_without_38 : decode cX5_without 38 = .ok (.ireturn, 1) := by decide +kernel
theorem dX5_without_39 : decode cX5_without 39 = .ok (.aload_n 0, 1) := by decide +kernel
theorem dX5_without_40 : decode cX5_without 40 = .ok (.getfield 56, 3) := by decide +kernel
theorem dX5_without_43 : decode cX5_without 43 = .ok (.iload_n 1, 1) := by decide +kernel
theorem dX5_without_44 : decode cX5_without 44 = .ok (.iconst (-1), 1) := by decide +kernel
theorem dX5_without_45 : decode cX5_without 45 = .ok (.iconst 0, 1) := by decide +kernel
theorem dX5_without_46 : decode cX5_without 46 = .ok (.invokevirtual 259, 3) := by decide +kernel
theorem dX5_without_49 : decode cX5_without 49 = .ok (.aload_n 0, 1) := by decide +kernel
theorem dX5_without_50 : decode cX5_without 50 = .ok (.getfield 56, 3) := by decide +kernel
theorem dX5_without_53 : decode cX5_without 53 = .ok (.aload_n 0, 1) := by decide +kernel
theorem dX5_without_54 : decode cX5_without 54 = .ok (.getfield 45, 3) := by decide +kernel
theorem dX5_without_57 : decode cX5_without 57 = .ok (.getfield 83, 3) := by decide +kernel
theorem dX5_without_60 : decode cX5_without 60 = .ok (.iload_n 1, 1) := by decide +kernel
theorem dX5_without_61 : decode cX5_without 61 = .ok (.invokevirtual 263, 3) := by decide +kernel
theorem dX5_without_64 : decode cX5_without 64 = .ok (.invokevirtual 266, 3) := by decide +kernel
theorem dX5_without_67 : decode cX5_without 67 = .ok (.istore_n 3, 1) := by decide +kernel
theorem dX5_without_68 : decode cX5_without 68 = .ok (.aload_n 0, 1) := by decide +kernel
theorem dX5_without_69 : decode cX5_without 69 = .ok (.getfield 56, 3) := by decide +kernel
theorem dX5_without_72 : decode cX5_without 72 = .ok (.iload_n 2, 1) := by decide +kernel
theorem dX5_without_73 : decode cX5_without 73 = .ok (.invokevirtual 221, 3) := by decide +kernel
theorem dX5_without_76 : decode cX5_without 76 = .ok (.aload_n 0, 1) := by decide +kernel
theorem dX5_without_77 : decode cX5_without 77 = .ok (.getfield 56, 3) := by decide +kernel
theorem dX5_without_80 : decode cX5_without 80 = .ok (.iload_n 3, 1) := by decide +kernel
theorem dX5_without_81 : decode cX5_without 81 = .ok (.invokevirtual 224, 3) := by decide +kernel
theorem dX5_without_84 : decode cX5_without 84 = .ok (.ireturn, 1) := by decide +kernel
theorem dX5_log_0 : decode cX5_log 0 = .ok (.aload_n 0, 1) := by decide +kernel
theorem dX5_log_1 : decode cX5_log 1 = .ok (.getfield 45, 3) := by decide +kernel
theorem dX5_log_4 : decode cX5_log 4 = .ok (.getfield 83, 3) := by decide +kernel
theorem dX5_log_7 : decode cX5_log 7 = .ok (.iload_n 1, 1) := by decide +kernel
theorem dX5_log_8 : decode cX5_log 8 = .ok (.invokevirtual 92, 3) := by decide +kernel
theorem dX5_log_11 : decode cX5_log 11 = .ok (.ifCond .ne 6, 3) := by decide +kernel
theorem dX5_log_14 : decode cX5_log 14 = .ok (.ldc 96, 2) := by decide +kernel
theorem dX5_log_16 : decode cX5_log 16 = .ok (.ireturn, 1) := by decide +kernel
theorem dX5_log_17 : decode cX5_log 17 = .ok (.aload_n 0, 1) := by decide +kernel
theorem dX5_log_18 : decode cX5_log 18 = .ok (.getfield 20, 3) := by decide +kernel
theorem dX5_log_21 : decode cX5_log 21 = .ok (.bipush 60, 2) := by decide +kernel
theorem dX5_log_23 : decode cX5_log 23 = .ok (.if_icmp .lt 6, 3) := by decide +kernel
theorem dX5_log_26 : decode cX5_log 26 = .ok (.ldc 67, 2) := by decide +kernel
theorem dX5_log_28 : decode cX5_log 28 = .ok (.ireturn, 1) := by decide +kernel
theorem dX5_log_29 : decode cX5_log 29 = .ok (.aload_n 0, 1) := by decide +kernel
theorem dX5_log_30 : decode cX5_log 30 = .ok (.getfield 16, 3) := by decide +kernel
theorem dX5_log_33 : decode cX5_log 33 = .ok (.aload_n 0, 1) := by decide +kernel
theorem dX5_log_34 : decode cX5_log 34 = .ok (.getfield 20, 3) := by decide +kernel
theorem dX5_log_37 : decode cX5_log 37 = .ok (.iload_n 1, 1) := by decide +kernel
theorem dX5_log_38 : decode cX5_log 38 = .ok (.iastore, 1) := by decide +kernel
theorem dX5_log_39 : decode cX5_log 39 = .ok (.aload_n 0, 1) := by decide +kernel
theorem dX5_log_40 : decode cX5_log 40 = .ok (.dup, 1) := by decide +kernel
theorem dX5_log_41 : decode cX5_log 41 = .ok (.getfield 20, 3) := by decide +kernel
theorem dX5_log_44 : decode cX5_log 44 = .ok (.iconst 1, 1) := by decide +kernel
theorem dX5_log_45 : decode cX5_log 45 = .ok (.iadd, 1) := by decide +kernel
theorem dX5_log_46 : decode cX5_log 46 = .ok (.putfield 20, 3) := by decide +kernel
theorem dX5_log_49 : decode cX5_log 49 = .ok (.aload_n 0, 1) := by decide +kernel
theorem dX5_log_50 : decode cX5_log 50 = .ok (.getfield 20, 3) := by decide +kernel
theorem dX5_log_53 : decode cX5_log 53 = .ok (.ireturn, 1) := by decide +kernel
theorem dX5_clear_0 : decode cX5_clear 0 = .ok (.aload_n 0, 1) := by decide +kernel
theorem dX5_clear_1 : decode cX5_clear 1 = .ok (.getfield 20, 3) := by decide +kernel
theorem dX5_clear_4 : decode cX5_clear 4 = .ok (.istore_n 1, 1) := by decide +kernel
theorem dX5_clear_5 : decode cX5_clear 5 = .ok (.aload_n 0, 1) := by decide +kernel
theorem dX5_clear_6 : decode cX5_clear 6 = .ok (.iconst 0, 1) := by decide +kernel
theorem dX5_clear_7 : decode cX5_clear 7 = .ok (.putfield 20, 3) := by decide +kernel
theorem dX5_clear_10 : decode cX5_clear 10 = .ok (.iload_n 1, 1) := by decide +kernel
theorem dX5_clear_11 : decode cX5_clear 11 = .ok (.ireturn, 1) := by decide +kernel
theorem dX5_judge_0 : decode cX5_judge 0 = .ok (.aload_n 0, 1) := by decide +kernel
theorem dX5_judge_1 : decode cX5_judge 1 = .ok (.getfield 20, 3) := by decide +kernel
theorem dX5_judge_4 : decode cX5_judge 4 = .ok (.ifCond .ne 5, 3) := by decide +kernel
theorem dX5_judge_7 : decode cX5_judge 7 = .ok (.iconst (-1), 1) := by decide +kernel
theorem dX5_judge_8 : decode cX5_judge 8 = .ok (.ireturn, 1) := by decide +kernel
theorem dX5_judge_9 : decode cX5_judge 9 = .ok (.aload_n 0, 1) := by decide +kernel
theorem dX5_judge_10 : decode cX5_judge 10 = .ok (.getfield 45, 3) := by decide +kernel
theorem dX5_judge_13 : decode cX5_judge 13 = .ok (.getfield 83, 3) := by decide +kernel
theorem dX5_judge_16 : decode cX5_judge 16 = .ok (.astore_n 1, 1) := by decide +kernel
theorem dX5_judge_17 : decode cX5_judge 17 = .ok (.aload_n 1, 1) := by decide +kernel
theorem dX5_judge_18 : decode cX5_judge 18 = .ok (.getfield 86, 3) := by decide +kernel
theorem dX5_judge_21 : decode cX5_judge 21 = .ok (.ifCond .eq 12, 3) := by decide +kernel
theorem dX5_judge_24 : decode cX5_judge 24 = .ok (.aload_n 0, 1) := by decide +kernel
theorem dX5_judge_25 : decode cX5_judge 25 = .ok (.getfield 16, 3) := by decide +kernel
theorem dX5_judge_28 : decode cX5_judge 28 = .ok (.iconst 0, 1) := by decide +kernel
theorem dX5_judge_29 : decode cX5_judge 29 = .ok (.iaload, 1) := by decide +kernel
theorem dX5_judge_30 : decode cX5_judge 30 = .ok (.ifCond .eq 5, 3) := by decide +kernel
theorem dX5_judge_33 : decode cX5_judge 33 = .ok (.iconst 0, 1) := by decide +kernel
theorem dX5_judge_34 : decode cX5_judge 34 = .ok (.ireturn, 1) := by decide +kernel
theorem dX5_judge_35 : decode cX5_judge 35 = .ok (.aload_n 1, 1) := by decide +kernel
theorem dX5_judge_36 : decode cX5_judge 36 = .ok (.iconst (-1), 1) := by decide +kernel
theorem dX5_judge_37 : decode cX5_judge 37 = .ok (.invokevirtual 263, 3) := by decide +kernel
theorem dX5_judge_40 : decode cX5_judge 40 = .ok (.istore_n 2, 1) := by decide +kernel
theorem dX5_judge_41 : decode cX5_judge 41 = .ok (.iconst 1, 1) := by decide +kernel
theorem dX5_judge_42 : decode cX5_judge 42 = .ok (.istore_n 3, 1) := by decide +kernel
theorem dX5_judge_43 : decode cX5_judge 43 = .ok (.iload_n 3, 1) := by decide +kernel
theorem dX5_judge_44 : decode cX5_judge 44 = .ok (.aload_n 0, 1) := by decide +kernel
theorem dX5_judge_45 : decode cX5_judge 45 = .ok (.getfield 20, 3) := by decide +kernel
theorem dX5_judge_48 : decode cX5_judge 48 = .ok (.if_icmp .ge 44, 3) := by decide +kernel
theorem dX5_judge_51 : decode cX5_judge 51 = .ok (.iload_n 3, 1) := by decide +kernel
theorem dX5_judge_52 : decode cX5_judge 52 = .ok (.bipush 60, 2) := by decide +kernel
theorem dX5_judge_54 : decode cX5_judge 54 = .ok (.if_icmp .ge 38, 3) := by decide +kernel
theorem dX5_judge_57 : decode cX5_judge 57 = .ok (.aload_n 1, 1) := by decide +kernel
theorem dX5_judge_58 : decode cX5_judge 58 = .ok (.iload_n 2, 1) := by decide +kernel
theorem dX5_judge_59 : decode cX5_judge 59 = .ok (.aload_n 0, 1) := by decide +kernel
theorem dX5_judge_60 : decode cX5_judge 60 = .ok (.getfield 16, 3) := by decide +kernel
theorem dX5_judge_63 : decode cX5_judge 63 = .ok (.iload_n 3, 1) := by decide +kernel
theorem dX5_judge_64 : decode cX5_judge 64 = .ok (.iaload, 1) := by decide +kernel
theorem dX5_judge_65 : decode cX5_judge 65 = .ok (.invokevirtual 269, 3) := by decide +kernel
theorem dX5_judge_68 : decode cX5_judge 68 = .ok (.ifCond .ne 5, 3) := by decide +kernel
theorem dX5_judge_71 : decode cX5_judge 71 = .ok (.iload_n 3, 1) := by decide +kernel
theorem dX5_judge_72 : decode cX5_judge 72 = .ok (.ireturn, 1) := by decide +kernel
theorem dX5_judge_73 : decode cX5_judge 73 = .ok (.aload_n 1, 1) := by decide +kernel
theorem dX5_judge_74 : decode cX5_judge 74 = .ok (.iload_n 2, 1) := by decide +kernel
theorem dX5_judge_75 : decode cX5_judge 75 = .ok (.aload_n 0, 1) := by decide +kernel
theorem dX5_judge_76 : decode cX5_judge 76 = .ok (.getfield 16, 3) := by decide +kernel
theorem dX5_judge_79 : decode cX5_judge 79 = .ok (.iload_n 3, 1) := by decide +kernel
theorem dX5_judge_80 : decode cX5_judge 80 = .ok (.iaload, 1) := by decide +kernel
theorem dX5_judge_81 : decode cX5_judge 81 = .ok (.iconst (-1), 1) := by decide +kernel
theorem dX5_judge_82 : decode cX5_judge 82 = .ok (.invokevirtual 272, 3) := by decide +kernel
theorem dX5_judge_85 : decode cX5_judge 85 = .ok (.istore_n 2, 1) := by decide +kernel
theorem dX5_judge_86 : decode cX5_judge 86 = .ok (.iinc 3 1, 3) := by decide +kernel
theorem dX5_judge_89 : decode cX5_judge 89 = .ok (.goto (-46), 3) := by decide +kernel
theorem dX5_judge_92 : decode cX5_judge 92 = .ok (.iconst (-1), 1) := by decide +kernel
theorem dX5_judge_93 : decode cX5_judge 93 = .ok (.ireturn, 1) := by decide +kernel
theorem dX5_number_0 : decode cX5_number 0 = .ok (.aload_n 0, 1) := by decide +kernel
theorem dX5_number_1 : decode cX5_number 1 = .ok (.getfield 45, 3) := by decide +kernel
theorem dX5_number_4 : decode cX5_number 4 = .ok (.getfield 83, 3) := by decide +kernel
theorem dX5_number_7 : decode cX5_number 7 = .ok (.iload_n 1, 1) := by decide +kernel
theorem dX5_number_8 : decode cX5_number 8 = .ok (.invokevirtual 92, 3) := by decide +kernel
theorem dX5_number_11 : decode cX5_number 11 = .ok (.ifCond .ne 6, 3) := by decide +kernel
theorem dX5_number_14 : decode cX5_number 14 = .ok (.ldc 96, 2) := by decide +kernel
theorem dX5_number_16 : decode cX5_number 16 = .ok (.ireturn, 1) := by decide +kernel
theorem dX5_number_17 : decode cX5_number 17 = .ok (.aload_n 0, 1) := by decide +kernel
theorem dX5_number_18 : decode cX5_number 18 = .ok (.getfield 45, 3) := by decide +kernel
theorem dX5_number_21 : decode cX5_number 21 = .ok (.getfield 276, 3) := by decide +kernel
theorem dX5_number_24 : decode cX5_number 24 = .ok (.iload_n 1, 1) := by decide +kernel
theorem dX5_number_25 : decode cX5_number 25 = .ok (.iaload, 1) := by decide +kernel
theorem dX5_number_26 : decode cX5_number 26 = .ok (.ireturn, 1) := by decide +kernel
theorem dX5_near_0 : decode cX5_near 0 = .ok (.iload_n 1, 1) := by decide +kernel
theorem dX5_near_1 : decode cX5_near 1 = .ok (.iconst 1, 1) := by decide +kernel
theorem dX5_near_2 : decode cX5_near 2 = .ok (.if_icmp .lt 9, 3) := by decide +kernel
theorem dX5_near_5 : decode cX5_near 5 = .ok (.iload_n 1, 1) := by decide +kernel
theorem dX5_near_6 : decode cX5_near 6 = .ok (.bipush 24, 2) := by decide +kernel
theorem dX5_near_8 : decode cX5_near 8 = .ok (.if_icmp .le 6, 3) := by decide +kernel
theorem dX5_near_11 : decode cX5_near 11 = .ok (.ldc 63, 2) := by decide +kernel
theorem dX5_near_13 : decode cX5_near 13 = .ok (.ireturn, 1) := by decide +kernel
theorem dX5_near_14 : decode cX5_near 14 = .ok (.aload_n 0, 1) := by decide +kernel
theorem dX5_near_15 : decode cX5_near 15 = .ok (.getfield 45, 3) := by decide +kernel
theorem dX5_near_18 : decode cX5_near 18 = .ok (.getfield 83, 3) := by decide +kernel
theorem dX5_near_21 : decode cX5_near 21 = .ok (.aload_n 0, 1) := by decide +kernel
theorem dX5_near_22 : decode cX5_near 22 = .ok (.getfield 28, 3) := by decide +kernel
theorem dX5_near_25 : decode cX5_near 25 = .ok (.invokevirtual 279, 3) := by decide +kernel
theorem dX5_near_28 : decode cX5_near 28 = .ok (.aload_n 0, 1) := by decide +kernel
theorem dX5_near_29 : decode cX5_near 29 = .ok (.getfield 28, 3) := by decide +kernel
theorem dX5_near_32 : decode cX5_near 32 = .ok (.aload_n 0, 1) := by decide +kernel
theorem dX5_near_33 : decode cX5_near 33 = .ok (.getfield 45, 3) := by decide +kernel
theorem dX5_near_36 : decode cX5_near 36 = .ok (.getfield 276, 3) := by decide +kernel
theorem dX5_near_39 : decode cX5_near 39 = .ok (.iload_n 1, 1) := by decide +kernel
theorem dX5_near_40 : decode cX5_near 40 = .ok (.invokestatic 283, 3) := by decide +kernel
theorem dX5_near_43 : decode cX5_near 43 = .ok (.ireturn, 1) := by decide +kernel
theorem dX5_shuffle_0 : decode cX5_shuffle 0 = .ok (.iload_n 1, 1) := by decide +kernel
theorem dX5_shuffle_1 : decode cX5_shuffle 1 = .ok (.iconst 1, 1) := by decide +kernel
theorem dX5_shuffle_2 : decode cX5_shuffle 2 = .ok (.if_icmp .lt 20, 3) := by decide +kernel
theorem dX5_shuffle_5 : decode cX5_shuffle 5 = .ok (.iload_n 1, 1) := by decide +kernel
theorem dX5_shuffle_6 : decode cX5_shuffle 6 = .ok (.bipush 24, 2) := by decide +kernel
theorem dX5_shuffle_8 : decode cX5_shuffle 8 = .ok (.if_icmp .gt 14, 3) := by decide +kernel
theorem dX5_shuffle_11 : decode cX5_shuffle 11 = .ok (.iload_n 2, 1) := by decide +kernel
theorem dX5_shuffle_12 : decode cX5_shuffle 12 = .ok (.iconst 1, 1) := by decide +kernel
theorem dX5_shuffle_13 : decode cX5_shuffle 13 = .ok (.if_icmp .lt 9, 3) := by decide +kernel
theorem dX5_shuffle_16 : decode cX5_shuffle 16 = .ok (.iload_n 2, 1) := by decide +kernel
theorem dX5_shuffle_17 : decode cX5_shuffle 17 = .ok (.bipush 99, 2) := by decide +kernel
theorem dX5_shuffle_19 : decode cX5_shuffle 19 = .ok (.if_icmp .le 6, 3) := by decide +kernel
theorem dX5_shuffle_22 : decode cX5_shuffle 22 = .ok (.ldc 63, 2) := by decide +kernel
theorem dX5_shuffle_24 : decode cX5_shuffle 24 = .ok (.ireturn, 1) := by decide +kernel
theorem dX5_shuffle_25 : decode cX5_shuffle 25 = .ok (.aload_n 0, 1) := by decide +kernel
theorem dX5_shuffle_26 : decode cX5_shuffle 26 = .ok (.getfield 45, 3) := by decide +kernel
theorem dX5_shuffle_29 : decode cX5_shuffle 29 = .ok (.getfield 83, 3) := by decide +kernel
theorem dX5_shuffle_32 : decode cX5_shuffle 32 = .ok (.aload_n 0, 1) := by decide +kernel
theorem dX5_shuffle_33 : decode cX5_shuffle 33 = .ok (.getfield 28, 3) := by decide +kernel
theorem dX5_shuffle_36 : decode cX5_shuffle 36 = .ok (.invokevirtual 279, 3) := by decide +kernel
theorem dX5_shuffle_39 : decode cX5_shuffle 39 = .ok (.aload_n 0, 1) := by decide +kernel
theorem dX5_shuffle_40 : decode cX5_shuffle 40 = .ok (.getfield 28, 3) := by decide +kernel
theorem dX5_shuffle_43 : decode cX5_shuffle 43 = .ok (.aload_n 0, 1) := by decide +kernel
theorem dX5_shuffle_44 : decode cX5_shuffle 44 = .ok (.getfield 45, 3) := by decide +kernel
theorem dX5_shuffle_47 : decode cX5_shuffle 47 = .ok (.getfield 276, 3) := by decide +kernel
theorem dX5_shuffle_50 : decode cX5_shuffle 50 = .ok (.iload_n 1, 1) := by decide +kernel
theorem dX5_shuffle_51 : decode cX5_shuffle 51 = .ok (.invokestatic 283, 3) := by decide +kernel
theorem dX5_shuffle_54 : decode cX5_shuffle 54 = .ok (.istore_n 3, 1) := by decide +kernel
theorem dX5_shuffle_55 : decode cX5_shuffle 55 = .ok (.aload_n 0, 1) := by decide +kernel
theorem dX5_shuffle_56 : decode cX5_shuffle 56 = .ok (.getfield 45, 3) := by decide +kernel
theorem dX5_shuffle_59 : decode cX5_shuffle 59 = .ok (.getfield 276, 3) := by decide +kernel
theorem dX5_shuffle_62 : decode cX5_shuffle 62 = .ok (.iconst 0, 1) := by decide +kernel
theorem dX5_shuffle_63 : decode cX5_shuffle 63 = .ok (.aload_n 0, 1) := by decide +kernel
theorem dX5_shuffle_64 : decode cX5_shuffle 64 = .ok (.getfield 31, 3) := by decide +kernel
theorem dX5_shuffle_67 : decode cX5_shuffle 67 = .ok (.iconst 0, 1) := by decide +kernel
theorem dX5_shuffle_68 : decode cX5_shuffle 68 = .ok (.bipush 24, 2) := by decide +kernel
theorem dX5_shuffle_70 : decode cX5_shuffle 70 = .ok (.invokestatic 287, 3) := by decide +kernel
theorem dX5_shuffle_73 : decode cX5_shuffle 73 = .ok (.iconst 0, 1) := by decide +kernel
theorem dX5_shuffle_74 : decode cX5_shuffle 74 = .ok (.istore 4, 2) := by decide +kernel
theorem dX5_shuffle_76 : decode cX5_shuffle 76 = .ok (.iload 4, 2) := by decide +kernel
theorem dX5_shuffle_78 : decode cX5_shuffle 78 = .ok (.iload_n 2, 1) := by decide +kernel
theorem dX5_shuffle_79 : decode cX5_shuffle 79 = .ok (.if_icmp .ge 54, 3) := by decide +kernel
theorem dX5_shuffle_82 : decode cX5_shuffle 82 = .ok (.aload_n 0, 1) := by decide +kernel
theorem dX5_shuffle_83 : decode cX5_shuffle 83 = .ok (.invokevirtual 293, 3) := by decide +kernel
theorem dX5_shuffle_86 : decode cX5_shuffle 86 = .ok (.aload_n 0, 1) := by decide +kernel
theorem dX5_shuffle_87 : decode cX5_shuffle 87 = .ok (.getfield 28, 3) := by decide +kernel
theorem dX5_shuffle_90 : decode cX5_shuffle 90 = .ok (.aload_n 0, 1) := by decide +kernel
theorem dX5_shuffle_91 : decode cX5_shuffle 91 = .ok (.getfield 31, 3) := by decide +kernel
theorem dX5_shuffle_94 : decode cX5_shuffle 94 = .ok (.iload_n 1, 1) := by decide +kernel
theorem dX5_shuffle_95 : decode cX5_shuffle 95 = .ok (.invokestatic 283, 3) := by decide +kernel
theorem dX5_shuffle_98 : decode cX5_shuffle 98 = .ok (.istore 5, 2) := by decide +kernel
theorem dX5_shuffle_100 : decode cX5_shuffle 100 = .ok (.iload 5, 2) := by decide +kernel
theorem dX5_shuffle_102 : decode cX5_shuffle 102 = .ok (.iload_n 3, 1) := by decide +kernel
theorem dX5_shuffle_103 : decode cX5_shuffle 103 = .ok (.if_icmp .ge 24, 3) := by decide +kernel
theorem dX5_shuffle_106 : decode cX5_shuffle 106 = .ok (.iload 5, 2) := by decide +kernel
theorem dX5_shuffle_108 : decode cX5_shuffle 108 = .ok (.istore_n 3, 1) := by decide +kernel
theorem dX5_shuffle_109 : decode cX5_shuffle 109 = .ok (.aload_n 0, 1) := by decide +kernel
theorem dX5_shuffle_110 : decode cX5_shuffle 110 = .ok (.getfield 31, 3) := by decide +kernel
theorem dX5_shuffle_113 : decode cX5_shuffle 113 = .ok (.iconst 0, 1) := by decide +kernel
theorem dX5_shuffle_114 : decode cX5_shuffle 114 = .ok (.aload_n 0, 1) := by decide +kernel
theorem dX5_shuffle_115 : decode cX5_shuffle 115 = .ok (.getfield 45, 3) := by decide +kernel
theorem dX5_shuffle_118 : decode cX5_shuffle 118 = .ok (.getfield 276, 3) := by decide +kernel
theorem dX5_shuffle_121 : decode cX5_shuffle 121 = .ok (.iconst 0, 1) := by decide +kernel
theorem dX5_shuffle_122 : decode cX5_shuffle 122 = .ok (.bipush 24, 2) := by decide +kernel
theorem dX5_shuffle_124 : decode cX5_shuffle 124 = .ok (.invokestatic 287, 3) := by decide +kernel
theorem dX5_shuffle_127 : decode cX5_shuffle 127 = .ok (.iinc 4 1, 3) := by decide +kernel
theorem dX5_shuffle_130 : decode cX5_shuffle 130 = .ok (.goto (-54), 3) := by decide +kernel
theorem dX5_shuffle_133 : decode cX5_shuffle 133 = .ok (.iload_n 3, 1) := by decide +kernel
theorem dX5_shuffle_134 : decode cX5_shuffle 134 = .ok (.ireturn, 1) := by decide +kernel
theorem dX5_page_0 : decode cX5_page 0 = .ok (.aload_n 0, 1) := by decide +kernel
theorem dX5_page_1 : decode cX5_page 1 = .ok (.getfield 45, 3) := by decide +kernel
theorem dX5_page_4 : decode cX5_page 4 = .ok (.getfield 83, 3) := by decide +kernel
theorem dX5_page_7 : decode cX5_page 7 = .ok (.iload_n 1, 1) := by decide +kernel
theorem dX5_page_8 : decode cX5_page 8 = .ok (.invokevirtual 92, 3) := by decide +kernel
theorem dX5_page_11 : decode cX5_page 11 = .ok (.ifCond .ne 6, 3) := by decide +kernel
theorem dX5_page_14 : decode cX5_page 14 = .ok (.ldc 96, 2) := by decide +kernel
theorem dX5_page_16 : decode cX5_page 16 = .ok (.ireturn, 1) := by decide +kernel
theorem dX5_page_17 : decode cX5_page 17 = .ok (.iload_n 2, 1) := by decide +kernel
theorem dX5_page_18 : decode cX5_page 18 = .ok (.bipush 10, 2) := by decide +kernel
theorem dX5_page_20 : decode cX5_page 20 = .ok (.if_icmp .lt 9, 3) := by decide +kernel
theorem dX5_page_23 : decode cX5_page 23 = .ok (.iload_n 2, 1) := by decide +kernel
theorem dX5_page_24 : decode cX5_page 24 = .ok (.bipush 60, 2) := by decide +kernel
theorem dX5_page_26 : decode cX5_page 26 = .ok (.if_icmp .le 6, 3) := by decide +kernel
theorem dX5_page_29 : decode cX5_page 29 = .ok (.ldc 63, 2) := by decide +kernel
theorem dX5_page_31 : decode cX5_page 31 = .ok (.ireturn, 1) := by decide +kernel
theorem dX5_page_32 : decode cX5_page 32 = .ok (.aload_n 0, 1) := by decide +kernel
theorem dX5_page_33 : decode cX5_page 33 = .ok (.getfield 45, 3) := by decide +kernel
theorem dX5_page_36 : decode cX5_page 36 = .ok (.iload_n 2, 1) := by decide +kernel
theorem dX5_page_37 : decode cX5_page 37 = .ok (.aload_n 0, 1) := by decide +kernel
theorem dX5_page_38 : decode cX5_page 38 = .ok (.getfield 34, 3) := by decide +kernel
theorem dX5_page_41 : decode cX5_page 41 = .ok (.invokevirtual 296, 3) := by decide +kernel
theorem dX5_page_44 : decode cX5_page 44 = .ok (.aload_n 0, 1) := by decide +kernel
theorem dX5_page_45 : decode cX5_page 45 = .ok (.getfield 34, 3) := by decide +kernel
theorem dX5_page_48 : decode cX5_page 48 = .ok (.iload_n 1, 1) := by decide +kernel
theorem dX5_page_49 : decode cX5_page 49 = .ok (.iaload, 1) := by decide +kernel
theorem dX5_page_50 : decode cX5_page 50 = .ok (.ireturn, 1) := by decide +kernel
theorem dX5_flips_0 : decode cX5_flips 0 = .ok (.iload_n 1, 1) := by decide +kernel
theorem dX5_flips_1 : decode cX5_flips 1 = .ok (.bipush 10, 2) := by decide +kernel
theorem dX5_flips_3 : decode cX5_flips 3 = .ok (.if_icmp .lt 9, 3) := by decide +kernel
theorem dX5_flips_6 : decode cX5_flips 6 = .ok (.iload_n 1, 1) := by decide +kernel
theorem dX5_flips_7 : decode cX5_flips 7 = .ok (.bipush 60, 2) := by decide +kernel
theorem dX5_flips_9 : decode cX5_flips 9 = .ok (.if_icmp .le 6, 3) := by decide +kernel
theorem dX5_flips_12 : decode cX5_flips 12 = .ok (.ldc 63, 2) := by decide +kernel
theorem dX5_flips_14 : decode cX5_flips 14 = .ok (.ireturn, 1) := by decide +kernel
theorem dX5_flips_15 : decode cX5_flips 15 = .ok (.aload_n 0, 1) := by decide +kernel
theorem dX5_flips_16 : decode cX5_flips 16 = .ok (.getfield 45, 3) := by decide +kernel
theorem dX5_flips_19 : decode cX5_flips 19 = .ok (.getfield 172, 3) := by decide +kernel
theorem dX5_flips_22 : decode cX5_flips 22 = .ok (.ifCond .ne 6, 3) := by decide +kernel
theorem dX5_flips_25 : decode cX5_flips 25 = .ok (.ldc 144, 2) := by decide +kernel
theorem dX5_flips_27 : decode cX5_flips 27 = .ok (.ireturn, 1) := by decide +kernel
theorem dX5_flips_28 : decode cX5_flips 28 = .ok (.aload_n 0, 1) := by decide +kernel
theorem dX5_flips_29 : decode cX5_flips 29 = .ok (.getfield 45, 3) := by decide +kernel
theorem dX5_flips_32 : decode cX5_flips 32 = .ok (.iload_n 1, 1) := by decide +kernel
theorem dX5_flips_33 : decode cX5_flips 33 = .ok (.aload_n 0, 1) := by decide +kernel
theorem dX5_flips_34 : decode cX5_flips 34 = .ok (.getfield 34, 3) := by decide +kernel
theorem dX5_flips_37 : decode cX5_flips 37 = .ok (.invokevirtual 296, 3) := by decide +kernel
theorem dX5_flips_40 : decode cX5_flips 40 = .ok (.aload_n 0, 1) := by decide +kernel
theorem dX5_flips_41 : decode cX5_flips 41 = .ok (.getfield 45, 3) := by decide +kernel
theorem dX5_flips_44 : decode cX5_flips 44 = .ok (.aload_n 0, 1) := by decide +kernel
theorem dX5_flips_45 : decode cX5_flips 45 = .ok (.getfield 34, 3) := by decide +kernel
theorem dX5_flips_48 : decode cX5_flips 48 = .ok (.invokevirtual 300, 3) := by decide +kernel
theorem dX5_flips_51 : decode cX5_flips 51 = .ok (.ireturn, 1) := by decide +kernel
theorem dX5_seed_0 : decode cX5_seed 0 = .ok (.iload_n 1, 1) := by decide +kernel
theorem dX5_seed_1 : decode cX5_seed 1 = .ok (.ifCond .ge 6, 3) := by decide +kernel
theorem dX5_seed_4 : decode cX5_seed 4 = .ok (.ldc 63, 2) := by decide +kernel
theorem dX5_seed_6 : decode cX5_seed 6 = .ok (.ireturn, 1) := by decide +kernel
theorem dX5_seed_7 : decode cX5_seed 7 = .ok (.aload_n 0, 1) := by decide +kernel
theorem dX5_seed_8 : decode cX5_seed 8 = .ok (.getfield 45, 3) := by decide +kernel
theorem dX5_seed_11 : decode cX5_seed 11 = .ok (.getfield 304, 3) := by decide +kernel
theorem dX5_seed_14 : decode cX5_seed 14 = .ok (.istore_n 2, 1) := by decide +kernel
theorem dX5_seed_15 : decode cX5_seed 15 = .ok (.aload_n 0, 1) := by decide +kernel
theorem dX5_seed_16 : decode cX5_seed 16 = .ok (.getfield 45, 3) := by decide +kernel
theorem dX5_seed_19 : decode cX5_seed 19 = .ok (.iload_n 1, 1) := by decide +kernel
theorem dX5_seed_20 : decode cX5_seed 20 = .ok (.putfield 304, 3) := by decide +kernel
theorem dX5_seed_23 : decode cX5_seed 23 = .ok (.iload_n 2, 1) := by decide +kernel
theorem dX5_seed_24 : decode cX5_seed 24 = .ok (.ireturn, 1) := by decide +kernel
theorem dX5_blind_0 : decode cX5_blind 0 = .ok (.iload_n 1, 1) := by decide +kernel
theorem dX5_blind_1 : decode cX5_blind 1 = .ok (.iconst 1, 1) := by decide +kernel
theorem dX5_blind_2 : decode cX5_blind 2 = .ok (.if_icmp .lt 9, 3) := by decide +kernel
theorem dX5_blind_5 : decode cX5_blind 5 = .ok (.iload_n 1, 1) := by decide +kernel
theorem dX5_blind_6 : decode cX5_blind 6 = .ok (.bipush 99, 2) := by decide +kernel
theorem dX5_blind_8 : decode cX5_blind 8 = .ok (.if_icmp .le 6, 3) := by decide +kernel
theorem dX5_blind_11 : decode cX5_blind 11 = .ok (.ldc 63, 2) := by decide +kernel
theorem dX5_blind_13 : decode cX5_blind 13 = .ok (.ireturn, 1) := by decide +kernel
theorem dX5_blind_14 : decode cX5_blind 14 = .ok (.aload_n 0, 1) := by decide +kernel
theorem dX5_blind_15 : decode cX5_blind 15 = .ok (.getfield 45, 3) := by decide +kernel
theorem dX5_blind_18 : decode cX5_blind 18 = .ok (.getfield 83, 3) := by decide +kernel
theorem dX5_blind_21 : decode cX5_blind 21 = .ok (.getfield 86, 3) := by decide +kernel
theorem dX5_blind_24 : decode cX5_blind 24 = .ok (.ifCond .ne 6, 3) := by decide +kernel
theorem dX5_blind_27 : decode cX5_blind 27 = .ok (.ldc 144, 2) := by decide +kernel
theorem dX5_blind_29 : decode cX5_blind 29 = .ok (.ireturn, 1) := by decide +kernel
theorem dX5_blind_30 : decode cX5_blind 30 = .ok (.iconst 0, 1) := by decide +kernel
theorem dX5_blind_31 : decode cX5_blind 31 = .ok (.istore_n 2, 1) := by decide +kernel
theorem dX5_blind_32 : decode cX5_blind 32 = .ok (.iconst 0, 1) := by decide +kernel
theorem dX5_blind_33 : decode cX5_blind 33 = .ok (.istore_n 3, 1) := by decide +kernel
theorem dX5_blind_34 : decode cX5_blind 34 = .ok (.iload_n 3, 1) := by decide +kernel
theorem dX5_blind_35 : decode cX5_blind 35 = .ok (.iload_n 1, 1) := by decide +kernel
theorem dX5_blind_36 : decode cX5_blind 36 = .ok (.if_icmp .ge 23, 3) := by decide +kernel
theorem dX5_blind_39 : decode cX5_blind 39 = .ok (.aload_n 0, 1) := by decide +kernel
theorem dX5_blind_40 : decode cX5_blind 40 = .ok (.invokevirtual 307, 3) := by decide +kernel
theorem dX5_blind_43 : decode cX5_blind 43 = .ok (.invokestatic 310, 3) := by decide +kernel
theorem dX5_blind_46 : decode cX5_blind 46 = .ok (.iconst 1, 1) := by decide +kernel
theorem dX5_blind_47 : decode cX5_blind 47 = .ok (.if_icmp .ne 6, 3) := by decide +kernel
theorem dX5_blind_50 : decode cX5_blind 50 = .ok (.iinc 2 1, 3) := by decide +kernel
theorem dX5_blind_53 : decode cX5_blind 53 = .ok (.iinc 3 1, 3) := by decide +kernel
theorem dX5_blind_56 : decode cX5_blind 56 = .ok (.goto (-22), 3) := by decide +kernel
theorem dX5_blind_59 : decode cX5_blind 59 = .ok (.iload_n 2, 1) := by decide +kernel
theorem dX5_blind_60 : decode cX5_blind 60 = .ok (.ireturn, 1) := by decide +kernel
theorem dX5_keep_0 : decode cX5_keep 0 = .ok (.iload_n 1, 1) := by decide +kernel
theorem dX5_keep_1 : decode cX5_keep 1 = .ok (.ifCond .lt 8, 3) := by decide +kernel
theorem dX5_keep_4 : decode cX5_keep 4 = .ok (.iload_n 1, 1) := by decide +kernel
theorem dX5_keep_5 : decode cX5_keep 5 = .ok (.iconst 2, 1) := by decide +kernel
theorem dX5_keep_6 : decode cX5_keep 6 = .ok (.if_icmp .lt 6, 3) := by decide +kernel
theorem dX5_keep_9 : decode cX5_keep 9 = .ok (.ldc 96, 2) := by decide +kernel
theorem dX5_keep_11 : decode cX5_keep 11 = .ok (.ireturn, 1) := by decide +kernel
theorem dX5_keep_12 : decode cX5_keep 12 = .ok (.aload_n 0, 1) := by decide +kernel
theorem dX5_keep_13 : decode cX5_keep 13 = .ok (.getfield 59, 3) := by decide +kernel
theorem dX5_keep_16 : decode cX5_keep 16 = .ok (.iload_n 1, 1) := by decide +kernel
theorem dX5_keep_17 : decode cX5_keep 17 = .ok (.aaload, 1) := by decide +kernel
theorem dX5_keep_18 : decode cX5_keep 18 = .ok (.aload_n 0, 1) := by decide +kernel
theorem dX5_keep_19 : decode cX5_keep 19 = .ok (.getfield 45, 3) := by decide +kernel
theorem dX5_keep_22 : decode cX5_keep 22 = .ok (.invokevirtual 313, 3) := by decide +kernel
theorem dX5_keep_25 : decode cX5_keep 25 = .ok (.aload_n 0, 1) := by decide +kernel
theorem dX5_keep_26 : decode cX5_keep 26 = .ok (.getfield 59, 3) := by decide +kernel
theorem dX5_keep_29 : decode cX5_keep 29 = .ok (.iload_n 1, 1) := by decide +kernel
theorem dX5_keep_30 : decode cX5_keep 30 = .ok (.aaload, 1) := by decide +kernel
theorem dX5_keep_31 : decode cX5_keep 31 = .ok (.iconst 1, 1) := by decide +kernel
theorem dX5_keep_32 : decode cX5_keep 32 = .ok (.putfield 317, 3) := by decide +kernel
theorem dX5_keep_35 : decode cX5_keep 35 = .ok (.iconst 1, 1) := by decide +kernel
theorem dX5_keep_36 : decode cX5_keep 36 = .ok (.ireturn, 1) := by decide +kernel
theorem dX5_goBack_0 : decode cX5_goBack 0 = .ok (.iload_n 1, 1) := by decide +kernel
theorem dX5_goBack_1 : decode cX5_goBack 1 = .ok (.ifCond .lt 8, 3) := by decide +kernel
theorem dX5_goBack_4 : decode cX5_goBack 4 = .ok (.iload_n 1, 1) := by decide +kernel
theorem dX5_goBack_5 : decode cX5_goBack 5 = .ok (.iconst 2, 1) := by decide +kernel
theorem dX5_goBack_6 : decode cX5_goBack 6 = .ok (.if_icmp .lt 6, 3) := by decide +kernel
theorem dX5_goBack_9 : decode cX5_goBack 9 = .ok (.ldc 96, 2) := by decide +kernel
theorem dX5_goBack_11 : decode cX5_goBack 11 = .ok (.ireturn, 1) := by decide +kernel
theorem dX5_goBack_12 : decode cX5_goBack 12 = .ok (.aload_n 0, 1) := by decide +kernel
theorem dX5_goBack_13 : decode cX5_goBack 13 = .ok (.getfield 59, 3) := by decide +kernel
theorem dX5_goBack_16 : decode cX5_goBack 16 = .ok (.iload_n 1, 1) := by decide +kernel
theorem dX5_goBack_17 : decode cX5_goBack 17 = .ok (.aaload, 1) := by decide +kernel
theorem dX5_goBack_18 : decode cX5_goBack 18 = .ok (.getfield 317, 3) := by decide +kernel
theorem dX5_goBack_21 : decode cX5_goBack 21 = .ok (.ifCond .ne 6, 3) := by decide +kernel
theorem dX5_goBack_24 : decode cX5_goBack 24 = .ok (.ldc 144, 2) := by decide +kernel
theorem dX5_goBack_26 : decode cX5_goBack 26 = .ok (.ireturn, 1) := by decide +kernel
theorem dX5_goBack_27 : decode cX5_goBack 27 = .ok (.aload_n 0, 1) := by decide +kernel
theorem dX5_goBack_28 : decode cX5_goBack 28 = .ok (.getfield 45, 3) := by decide +kernel
theorem dX5_goBack_31 : decode cX5_goBack 31 = .ok (.aload_n 0, 1) := by decide +kernel
theorem dX5_goBack_32 : decode cX5_goBack 32 = .ok (.getfield 59, 3) := by decide +kernel
theorem dX5_goBack_35 : decode cX5_goBack 35 = .ok (.iload_n 1, 1) := by decide +kernel
theorem dX5_goBack_36 : decode cX5_goBack 36 = .ok (.aaload, 1) := by decide +kernel
theorem dX5_goBack_37 : decode cX5_goBack 37 = .ok (.invokevirtual 313, 3) := by decide +kernel
theorem dX5_goBack_40 : decode cX5_goBack 40 = .ok (.aload_n 0, 1) := by decide +kernel
theorem dX5_goBack_41 : decode cX5_goBack 41 = .ok (.iconst 0, 1) := by decide +kernel
theorem dX5_goBack_42 : decode cX5_goBack 42 = .ok (.putfield 24, 3) := by decide +kernel
theorem dX5_goBack_45 : decode cX5_goBack 45 = .ok (.iconst 1, 1) := by decide +kernel
theorem dX5_goBack_46 : decode cX5_goBack 46 = .ok (.ireturn, 1) := by decide +kernel
theorem dX5_isThing_0 : decode cX5_isThing 0 = .ok (.iload_n 0, 1) := by decide +kernel
theorem dX5_isThing_1 : decode cX5_isThing 1 = .ok (.ifCond .lt 13, 3) := by decide +kernel
theorem dX5_isThing_4 : decode cX5_isThing 4 = .ok (.iload_n 0, 1) := by decide +kernel
theorem dX5_isThing_5 : decode cX5_isThing 5 = .ok (.bipush 8, 2) := by decide +kernel
theorem dX5_isThing_7 : decode cX5_isThing 7 = .ok (.if_icmp .ge 7, 3) := by decide +kernel
theorem dX5_isThing_10 : decode cX5_isThing 10 = .ok (.iconst 1, 1) := by decide +kernel
theorem dX5_isThing_11 : decode cX5_isThing 11 = .ok (.goto 4, 3) := by decide +kernel
theorem dX5_isThing_14 : decode cX5_isThing 14 = .ok (.iconst 0, 1) := by decide +kernel
theorem dX5_isThing_15 : decode cX5_isThing 15 = .ok (.ireturn, 1) := by decide +kernel
theorem dX5_isThingOrNone_0 : decode cX5_isThingOrNone 0 = .ok (.iload_n 0, 1) := by decide +kernel
theorem dX5_isThingOrNone_1 : decode cX5_isThingOrNone 1 = .ok (.iconst (-1), 1) := by decide +kernel
theorem dX5_isThingOrNone_2 : decode cX5_isThingOrNone 2 = .ok (.if_icmp .eq 10, 3) := by decide +kernel
theorem dX5_isThingOrNone_5 : decode cX5_isThingOrNone 5 = .ok (.iload_n 0, 1) := by decide +kernel
theorem dX5_isThingOrNone_6 : decode cX5_isThingOrNone 6 = .ok (.invokestatic 256, 3) := by decide +kernel
theorem dX5_isThingOrNone_9 : decode cX5_isThingOrNone 9 = .ok (.ifCond .eq 7, 3) := by decide +kernel
theorem dX5_isThingOrNone_12 : decode cX5_isThingOrNone 12 = .ok (.iconst 1, 1) := by decide +kernel
theorem dX5_isThingOrNone_13 : decode cX5_isThingOrNone 13 = .ok (.goto 4, 3) := by decide +kernel
theorem dX5_isThingOrNone_16 : decode cX5_isThingOrNone 16 = .ok (.iconst 0, 1) := by decide +kernel
theorem dX5_isThingOrNone_17 : decode cX5_isThingOrNone 17 = .ok (.ireturn, 1) := by decide +kernel
theorem dX5_freshComeTo_0 : decode cX5_freshComeTo 0 = .ok (.aload_n 0, 1) := by decide +kernel
theorem dX5_freshComeTo_1 : decode cX5_freshComeTo 1 = .ok (.getfield 24, 3) := by decide +kernel
theorem dX5_freshComeTo_4 : decode cX5_freshComeTo 4 = .ok (.ifCond .ne 18, 3) := by decide +kernel
theorem dX5_freshComeTo_7 : decode cX5_freshComeTo 7 = .ok (.aload_n 0, 1) := by decide +kernel
theorem dX5_freshComeTo_8 : decode cX5_freshComeTo 8 = .ok (.getfield 52, 3) := by decide +kernel
theorem dX5_freshComeTo_11 : decode cX5_freshComeTo 11 = .ok (.iconst (-1), 1) := by decide +kernel
theorem dX5_freshComeTo_12 : decode cX5_freshComeTo 12 = .ok (.iconst (-1), 1) := by decide +kernel
theorem dX5_freshComeTo_13 : decode cX5_freshComeTo 13 = .ok (.iconst 0, 1) := by decide +kernel
theorem dX5_freshComeTo_14 : decode cX5_freshComeTo 14 = .ok (.invokevirtual 259, 3) := by decide +kernel
theorem dX5_freshComeTo_17 : decode cX5_freshComeTo 17 = .ok (.aload_n 0, 1) := by decide +kernel
theorem dX5_freshComeTo_18 : decode cX5_freshComeTo 18 = .ok (.iconst 1, 1) := by decide +kernel
theorem dX5_freshComeTo_19 : decode cX5_freshComeTo 19 = .ok (.putfield 24, 3) := by decide +kernel
theorem dX5_freshComeTo_22 : decode cX5_freshComeTo 22 = .ok (.aload_n 0, 1) := by decide +kernel
theorem dX5_freshComeTo_23 : decode cX5_freshComeTo 23 = .ok (.getfield 52, 3) := by decide +kernel
theorem dX5_freshComeTo_26 : decode cX5_freshComeTo 26 = .ok (.areturn, 1) := by decide +kernel
theorem dX5_bestChoice_0 : decode cX5_bestChoice 0 = .ok (.iconst (-1), 1) := by decide +kernel
theorem dX5_bestChoice_1 : decode cX5_bestChoice 1 = .ok (.istore_n 2, 1) := by decide +kernel
theorem dX5_bestChoice_2 : decode cX5_bestChoice 2 = .ok (.iconst (-1), 1) := by decide +kernel
theorem dX5_bestChoice_3 : decode cX5_bestChoice 3 = .ok (.istore_n 3, 1) := by decide +kernel
theorem dX5_bestChoice_4 : decode cX5_bestChoice 4 = .ok (.iconst 0, 1) := by decide +kernel
theorem dX5_bestChoice_5 : decode cX5_bestChoice 5 = .ok (.istore 4, 2) := by decide +kernel
theorem dX5_bestChoice_7 : decode cX5_bestChoice 7 = .ok (.iload 4, 2) := by decide +kernel
theorem dX5_bestChoice_9 : decode cX5_bestChoice 9 = .ok (.bipush 6, 2) := by decide +kernel
theorem dX5_bestChoice_11 : decode cX5_bestChoice 11 = .ok (.if_icmp .ge 94, 3) := by decide +kernel
theorem dX5_bestChoice_14 : decode cX5_bestChoice 14 = .ok (.aload_n 0, 1) := by decide +kernel
theorem dX5_bestChoice_15 : decode cX5_bestChoice 15 = .ok (.getfield 45, 3) := by decide +kernel
theorem dX5_bestChoice_18 : decode cX5_bestChoice 18 = .ok (.getfield 83, 3) := by decide +kernel
theorem dX5_bestChoice_21 : decode cX5_bestChoice 21 = .ok (.aload_n 0, 1) := by decide +kernel
theorem dX5_bestChoice_22 : decode cX5_bestChoice 22 = .ok (.getfield 45, 3) := by decide +kernel
theorem dX5_bestChoice_25 : decode cX5_bestChoice 25 = .ok (.getfield 175, 3) := by decide +kernel
theorem dX5_bestChoice_28 : decode cX5_bestChoice 28 = .ok (.iload 4, 2) := by decide +kernel
theorem dX5_bestChoice_30 : decode cX5_bestChoice 30 = .ok (.invokevirtual 183, 3) := by decide +kernel
theorem dX5_bestChoice_33 : decode cX5_bestChoice 33 = .ok (.ifCond .eq 66, 3) := by decide +kernel
theorem dX5_bestChoice_36 : decode cX5_bestChoice 36 = .ok (.aload_n 0, 1) := by decide +kernel
theorem dX5_bestChoice_37 : decode cX5_bestChoice 37 = .ok (.getfield 45, 3) := by decide +kernel
theorem dX5_bestChoice_40 : decode cX5_bestChoice 40 = .ok (.getfield 83, 3) := by decide +kernel
theorem dX5_bestChoice_43 : decode cX5_bestChoice 43 = .ok (.aload_n 0, 1) := by decide +kernel
theorem dX5_bestChoice_44 : decode cX5_bestChoice 44 = .ok (.getfield 45, 3) := by decide +kernel
theorem dX5_bestChoice_47 : decode cX5_bestChoice 47 = .ok (.getfield 175, 3) := by decide +kernel
theorem dX5_bestChoice_50 : decode cX5_bestChoice 50 = .ok (.aload_n 0, 1) := by decide +kernel
theorem dX5_bestChoice_51 : decode cX5_bestChoice 51 = .ok (.getfield 45, 3) := by decide +kernel
theorem dX5_bestChoice_54 : decode cX5_bestChoice 54 = .ok (.getfield 83, 3) := by decide +kernel
theorem dX5_bestChoice_57 : decode cX5_bestChoice 57 = .ok (.aload_n 0, 1) := by decide +kernel
theorem dX5_bestChoice_58 : decode cX5_bestChoice 58 = .ok (.getfield 45, 3) := by decide +kernel
theorem dX5_bestChoice_61 : decode cX5_bestChoice 61 = .ok (.getfield 175, 3) := by decide +kernel
theorem dX5_bestChoice_64 : decode cX5_bestChoice 64 = .ok (.iload 4, 2) := by decide +kernel
theorem dX5_bestChoice_66 : decode cX5_bestChoice 66 = .ok (.invokevirtual 186, 3) := by decide +kernel
theorem dX5_bestChoice_69 : decode cX5_bestChoice 69 = .ok (.iconst (-1), 1) := by decide +kernel
theorem dX5_bestChoice_70 : decode cX5_bestChoice 70 = .ok (.invokevirtual 272, 3) := by decide +kernel
theorem dX5_bestChoice_73 : decode cX5_bestChoice 73 = .ok (.istore 5, 2) := by decide +kernel
theorem dX5_bestChoice_75 : decode cX5_bestChoice 75 = .ok (.aload_n 1, 1) := by decide +kernel
theorem dX5_bestChoice_76 : decode cX5_bestChoice 76 = .ok (.aload_n 1, 1) := by decide +kernel
theorem dX5_bestChoice_77 : decode cX5_bestChoice 77 = .ok (.iload 5, 2) := by decide +kernel
theorem dX5_bestChoice_79 : decode cX5_bestChoice 79 = .ok (.invokevirtual 266, 3) := by decide +kernel
theorem dX5_bestChoice_82 : decode cX5_bestChoice 82 = .ok (.invokevirtual 224, 3) := by decide +kernel
theorem dX5_bestChoice_85 : decode cX5_bestChoice 85 = .ok (.istore 6, 2) := by decide +kernel
theorem dX5_bestChoice_87 : decode cX5_bestChoice 87 = .ok (.iload 6, 2) := by decide +kernel
theorem dX5_bestChoice_89 : decode cX5_bestChoice 89 = .ok (.iload_n 3, 1) := by decide +kernel
theorem dX5_bestChoice_90 : decode cX5_bestChoice 90 = .ok (.if_icmp .le 9, 3) := by decide +kernel
theorem dX5_bestChoice_93 : decode cX5_bestChoice 93 = .ok (.iload 6, 2) := by decide +kernel
theorem dX5_bestChoice_95 : decode cX5_bestChoice 95 = .ok (.istore_n 3, 1) := by decide +kernel
theorem dX5_bestChoice_96 : decode cX5_bestChoice 96 = .ok (.iload 4, 2) := by decide +kernel
theorem dX5_bestChoice_98 : decode cX5_bestChoice 98 = .ok (.istore_n 2, 1) := by decide +kernel
theorem dX5_bestChoice_99 : decode cX5_bestChoice 99 = .ok (.iinc 4 1, 3) := by decide +kernel
theorem dX5_bestChoice_102 : decode cX5_bestChoice 102 = .ok (.goto (-95), 3) := by decide +kernel
theorem dX5_bestChoice_105 : decode cX5_bestChoice 105 = .ok (.iload_n 2, 1) := by decide +kernel
theorem dX5_bestChoice_106 : decode cX5_bestChoice 106 = .ok (.ireturn, 1) := by decide +kernel
theorem dX5_mustParts_0 : decode cX5_mustParts 0 = .ok (.aload_n 1, 1) := by decide +kernel
theorem dX5_mustParts_1 : decode cX5_mustParts 1 = .ok (.getfield 320, 3) := by decide +kernel
theorem dX5_mustParts_4 : decode cX5_mustParts 4 = .ok (.ifCond .ne 5, 3) := by decide +kernel
theorem dX5_mustParts_7 : decode cX5_mustParts 7 = .ok (.iconst 0, 1) := by decide +kernel
theorem dX5_mustParts_8 : decode cX5_mustParts 8 = .ok (.ireturn, 1) := by decide +kernel
theorem dX5_mustParts_9 : decode cX5_mustParts 9 = .ok (.iconst 0, 1) := by decide +kernel
theorem dX5_mustParts_10 : decode cX5_mustParts 10 = .ok (.istore_n 2, 1) := by decide +kernel
theorem dX5_mustParts_11 : decode cX5_mustParts 11 = .ok (.iconst 0, 1) := by decide +kernel
theorem dX5_mustParts_12 : decode cX5_mustParts 12 = .ok (.istore_n 3, 1) := by decide +kernel
theorem dX5_mustParts_13 : decode cX5_mustParts 13 = .ok (.iload_n 3, 1) := by decide +kernel
theorem dX5_mustParts_14 : decode cX5_mustParts 14 = .ok (.bipush 24, 2) := by decide +kernel
theorem dX5_mustParts_16 : decode cX5_mustParts 16 = .ok (.if_icmp .ge 47, 3) := by decide +kernel
theorem dX5_mustParts_19 : decode cX5_mustParts 19 = .ok (.aload_n 1, 1) := by decide +kernel
theorem dX5_mustParts_20 : decode cX5_mustParts 20 = .ok (.getfield 238, 3) := by decide +kernel
theorem dX5_mustParts_23 : decode cX5_mustParts 23 = .ok (.iload_n 3, 1) := by decide +kernel
theorem dX5_mustParts_24 : decode cX5_mustParts 24 = .ok (.ishr, 1) := by decide +kernel
theorem dX5_mustParts_25 : decode cX5_mustParts 25 = .ok (.iconst 1, 1) := by decide +kernel
theorem dX5_mustParts_26 : decode cX5_mustParts 26 = .ok (.iand, 1) := by decide +kernel
theorem dX5_mustParts_27 : decode cX5_mustParts 27 = .ok (.iconst 1, 1) := by decide +kernel
theorem dX5_mustParts_28 : decode cX5_mustParts 28 = .ok (.if_icmp .ne 29, 3) := by decide +kernel
theorem dX5_mustParts_31 : decode cX5_mustParts 31 = .ok (.aload_n 0, 1) := by decide +kernel
theorem dX5_mustParts_32 : decode cX5_mustParts 32 = .ok (.getfield 56, 3) := by decide +kernel
theorem dX5_mustParts_35 : decode cX5_mustParts 35 = .ok (.iconst (-1), 1) := by decide +kernel
theorem dX5_mustParts_36 : decode cX5_mustParts 36 = .ok (.iload_n 3, 1) := by decide +kernel
theorem dX5_mustParts_37 : decode cX5_mustParts 37 = .ok (.iconst 1, 1) := by decide +kernel
theorem dX5_mustParts_38 : decode cX5_mustParts 38 = .ok (.invokevirtual 259, 3) := by decide +kernel
theorem dX5_mustParts_41 : decode cX5_mustParts 41 = .ok (.aload_n 0, 1) := by decide +kernel
theorem dX5_mustParts_42 : decode cX5_mustParts 42 = .ok (.getfield 56, 3) := by decide +kernel
theorem dX5_mustParts_45 : decode cX5_mustParts 45 = .ok (.getfield 320, 3) := by decide +kernel
theorem dX5_mustParts_48 : decode cX5_mustParts 48 = .ok (.ifCond .ne 9, 3) := by decide +kernel
theorem dX5_mustParts_51 : decode cX5_mustParts 51 = .ok (.iload_n 2, 1) := by decide +kernel
theorem dX5_mustParts_52 : decode cX5_mustParts 52 = .ok (.iconst 1, 1) := by decide +kernel
theorem dX5_mustParts_53 : decode cX5_mustParts 53 = .ok (.iload_n 3, 1) := by decide +kernel
theorem dX5_mustParts_54 : decode cX5_mustParts 54 = .ok (.ishl, 1) := by decide +kernel
theorem dX5_mustParts_55 : decode cX5_mustParts 55 = .ok (.ior, 1) := by decide +kernel
theorem dX5_mustParts_56 : decode cX5_mustParts 56 = .ok (.istore_n 2, 1) := by decide +kernel
theorem dX5_mustParts_57 : decode cX5_mustParts 57 = .ok (.iinc 3 1, 3) := by decide +kernel
theorem dX5_mustParts_60 : decode cX5_mustParts 60 = .ok (.goto (-47), 3) := by decide +kernel
theorem dX5_mustParts_63 : decode cX5_mustParts 63 = .ok (.iload_n 2, 1) := by decide +kernel
theorem dX5_mustParts_64 : decode cX5_mustParts 64 = .ok (.ireturn, 1) := by decide +kernel
theorem dX5_neededThings_0 : decode cX5_neededThings 0 = .ok (.aload_n 1, 1) := by decide +kernel
theorem dX5_neededThings_1 : decode cX5_neededThings 1 = .ok (.getfield 320, 3) := by decide +kernel
theorem dX5_neededThings_4 : decode cX5_neededThings 4 = .ok (.ifCond .ne 5, 3) := by decide +kernel
theorem dX5_neededThings_7 : decode cX5_neededThings 7 = .ok (.iconst 0, 1) := by decide +kernel
theorem dX5_neededThings_8 : decode cX5_neededThings 8 = .ok (.ireturn, 1) := by decide +kernel
theorem dX5_neededThings_9 : decode cX5_neededThings 9 = .ok (.aload_n 1, 1) := by decide +kernel
theorem dX5_neededThings_10 : decode cX5_neededThings 10 = .ok (.invokevirtual 250, 3) := by decide +kernel
theorem dX5_neededThings_13 : decode cX5_neededThings 13 = .ok (.istore_n 2, 1) := by decide +kernel
theorem dX5_neededThings_14 : decode cX5_neededThings 14 = .ok (.iconst 0, 1) := by decide +kernel
theorem dX5_neededThings_15 : decode cX5_neededThings 15 = .ok (.istore_n 3, 1) := by decide +kernel
theorem dX5_neededThings_16 : decode cX5_neededThings 16 = .ok (.iconst 0, 1) := by decide +kernel
theorem dX5_neededThings_17 : decode cX5_neededThings 17 = .ok (.istore 4, 2) := by decide +kernel
theorem dX5_neededThings_19 : decode cX5_neededThings 19 = .ok (.iload 4, 2) := by decide +kernel
theorem dX5_neededThings_21 : decode cX5_neededThings 21 = .ok (.bipush 8, 2) := by decide +kernel
theorem dX5_neededThings_23 : decode cX5_neededThings 23 = .ok (.if_icmp .ge 47, 3) := by decide +kernel
theorem dX5_neededThings_26 : decode cX5_neededThings 26 = .ok (.iload_n 2, 1) := by decide +kernel
theorem dX5_neededThings_27 : decode cX5_neededThings 27 = .ok (.iload 4, 2) := by decide +kernel
theorem dX5_neededThings_29 : decode cX5_neededThings 29 = .ok (.ishr, 1) := by decide +kernel
theorem dX5_neededThings_30 : decode cX5_neededThings 30 = .ok (.iconst 1, 1) := by decide +kernel
theorem dX5_neededThings_31 : decode cX5_neededThings 31 = .ok (.iand, 1) := by decide +kernel
theorem dX5_neededThings_32 : decode cX5_neededThings 32 = .ok (.iconst 1, 1) := by decide +kernel
theorem dX5_neededThings_33 : decode cX5_neededThings 33 = .ok (.if_icmp .ne 31, 3) := by decide +kernel
theorem dX5_neededThings_36 : decode cX5_neededThings 36 = .ok (.aload_n 0, 1) := by decide +kernel
theorem dX5_neededThings_37 : decode cX5_neededThings 37 = .ok (.getfield 56, 3) := by decide +kernel
theorem dX5_neededThings_40 : decode cX5_neededThings 40 = .ok (.iload 4, 2) := by decide +kernel
theorem dX5_neededThings_42 : decode cX5_neededThings 42 = .ok (.iconst (-1), 1) := by decide +kernel
theorem dX5_neededThings_43 : decode cX5_neededThings 43 = .ok (.iconst 1, 1) := by decide +kernel
theorem dX5_neededThings_44 : decode cX5_neededThings 44 = .ok (.invokevirtual 259, 3) := by decide +kernel
theorem dX5_neededThings_47 : decode cX5_neededThings 47 = .ok (.aload_n 0, 1) := by decide +kernel
theorem dX5_neededThings_48 : decode cX5_neededThings 48 = .ok (.getfield 56, 3) := by decide +kernel
theorem dX5_neededThings_51 : decode cX5_neededThings 51 = .ok (.getfield 320, 3) := by decide +kernel
theorem dX5_neededThings_54 : decode cX5_neededThings 54 = .ok (.ifCond .ne 10, 3) := by decide +kernel
theorem dX5_neededThings_57 : decode cX5_neededThings 57 = .ok (.iload_n 3, 1) := by decide +kernel
theorem dX5_neededThings_58 : decode cX5_neededThings 58 = .ok (.iconst 1, 1) := by decide +kernel
theorem dX5_neededThings_59 : decode cX5_neededThings 59 = .ok (.iload 4, 2) := by decide +kernel
theorem dX5_neededThings_61 : decode cX5_neededThings 61 = .ok (.ishl, 1) := by decide +kernel
theorem dX5_neededThings_62 : decode cX5_neededThings 62 = .ok (.ior, 1) := by decide +kernel
theorem dX5_neededThings_63 : decode cX5_neededThings 63 = .ok (.istore_n 3, 1) := by decide +kernel
theorem dX5_neededThings_64 : decode cX5_neededThings 64 = .ok (.iinc 4 1, 3) := by decide +kernel
theorem dX5_neededThings_67 : decode cX5_neededThings 67 = .ok (.goto (-48), 3) := by decide +kernel
theorem dX5_neededThings_70 : decode cX5_neededThings 70 = .ok (.iload_n 3, 1) := by decide +kernel
theorem dX5_neededThings_71 : decode cX5_neededThings 71 = .ok (.ireturn, 1) := by decide +kernel
theorem dX5_nearPairs_0 : decode cX5_nearPairs 0 = .ok (.iconst 0, 1) := by decide +kernel
theorem dX5_nearPairs_1 : decode cX5_nearPairs 1 = .ok (.istore_n 3, 1) := by decide +kernel
theorem dX5_nearPairs_2 : decode cX5_nearPairs 2 = .ok (.iconst 0, 1) := by decide +kernel
theorem dX5_nearPairs_3 : decode cX5_nearPairs 3 = .ok (.istore 4, 2) := by decide +kernel
theorem dX5_nearPairs_5 : decode cX5_nearPairs 5 = .ok (.iload 4, 2) := by decide +kernel
theorem dX5_nearPairs_7 : decode cX5_nearPairs 7 = .ok (.bipush 24, 2) := by decide +kernel
theorem dX5_nearPairs_9 : decode cX5_nearPairs 9 = .ok (.if_icmp .ge 60, 3) := by decide +kernel
theorem dX5_nearPairs_12 : decode cX5_nearPairs 12 = .ok (.iload 4, 2) := by decide +kernel
theorem dX5_nearPairs_14 : decode cX5_nearPairs 14 = .ok (.iconst 1, 1) := by decide +kernel
theorem dX5_nearPairs_15 : decode cX5_nearPairs 15 = .ok (.iadd, 1) := by decide +kernel
theorem dX5_nearPairs_16 : decode cX5_nearPairs 16 = .ok (.istore 5, 2) := by decide +kernel
theorem dX5_nearPairs_18 : decode cX5_nearPairs 18 = .ok (.iload 5, 2) := by decide +kernel
theorem dX5_nearPairs_20 : decode cX5_nearPairs 20 = .ok (.bipush 24, 2) := by decide +kernel
theorem dX5_nearPairs_22 : decode cX5_nearPairs 22 = .ok (.if_icmp .ge 41, 3) := by decide +kernel
theorem dX5_nearPairs_25 : decode cX5_nearPairs 25 = .ok (.aload_n 0, 1) := by decide +kernel
theorem dX5_nearPairs_26 : decode cX5_nearPairs 26 = .ok (.iload 4, 2) := by decide +kernel
theorem dX5_nearPairs_28 : decode cX5_nearPairs 28 = .ok (.iaload, 1) := by decide +kernel
theorem dX5_nearPairs_29 : decode cX5_nearPairs 29 = .ok (.iload 5, 2) := by decide +kernel
theorem dX5_nearPairs_31 : decode cX5_nearPairs 31 = .ok (.ishr, 1) := by decide +kernel
theorem dX5_nearPairs_32 : decode cX5_nearPairs 32 = .ok (.iconst 1, 1) := by decide +kernel
theorem dX5_nearPairs_33 : decode cX5_nearPairs 33 = .ok (.iand, 1) := by decide +kernel
theorem dX5_nearPairs_34 : decode cX5_nearPairs 34 = .ok (.iconst 1, 1) := by decide +kernel
theorem dX5_nearPairs_35 : decode cX5_nearPairs 35 = .ok (.if_icmp .ne 22, 3) := by decide +kernel
theorem dX5_nearPairs_38 : decode cX5_nearPairs 38 = .ok (.aload_n 1, 1) := by decide +kernel
theorem dX5_nearPairs_39 : decode cX5_nearPairs 39 = .ok (.iload 4, 2) := by decide +kernel
theorem dX5_nearPairs_41 : decode cX5_nearPairs 41 = .ok (.iaload, 1) := by decide +kernel
theorem dX5_nearPairs_42 : decode cX5_nearPairs 42 = .ok (.aload_n 1, 1) := by decide +kernel
theorem dX5_nearPairs_43 : decode cX5_nearPairs 43 = .ok (.iload 5, 2) := by decide +kernel
theorem dX5_nearPairs_45 : decode cX5_nearPairs 45 = .ok (.iaload, 1) := by decide +kernel
theorem dX5_nearPairs_46 : decode cX5_nearPairs 46 = .ok (.isub, 1) := by decide +kernel
theorem dX5_nearPairs_47 : decode cX5_nearPairs 47 = .ok (.invokestatic 323, 3) := by decide +kernel
theorem dX5_nearPairs_50 : decode cX5_nearPairs 50 = .ok (.iload_n 2, 1) := by decide +kernel
theorem dX5_nearPairs_51 : decode cX5_nearPairs 51 = .ok (.if_icmp .ge 6, 3) := by decide +kernel
theorem dX5_nearPairs_54 : decode cX5_nearPairs 54 = .ok (.iinc 3 1, 3) := by decide +kernel
theorem dX5_nearPairs_57 : decode cX5_nearPairs 57 = .ok (.iinc 5 1, 3) := by decide +kernel
theorem dX5_nearPairs_60 : decode cX5_nearPairs 60 = .ok (.goto (-42), 3) := by decide +kernel
theorem dX5_nearPairs_63 : decode cX5_nearPairs 63 = .ok (.iinc 4 1, 3) := by decide +kernel
theorem dX5_nearPairs_66 : decode cX5_nearPairs 66 = .ok (.goto (-61), 3) := by decide +kernel
theorem dX5_nearPairs_69 : decode cX5_nearPairs 69 = .ok (.iload_n 3, 1) := by decide +kernel
theorem dX5_nearPairs_70 : decode cX5_nearPairs 70 = .ok (.ireturn, 1) := by decide +kernel
theorem dX5_mixTriedNumbers_0 : decode cX5_mixTriedNumbers 0 = .ok (.aload_n 0, 1) := by decide +kernel
theorem dX5_mixTriedNumbers_1 : decode cX5_mixTriedNumbers 1 = .ok (.getfield 45, 3) := by decide +kernel
theorem dX5_mixTriedNumbers_4 : decode cX5_mixTriedNumbers 4 = .ok (.getfield 83, 3) := by decide +kernel
theorem dX5_mixTriedNumbers_7 : decode cX5_mixTriedNumbers 7 = .ok (.getfield 86, 3) := by decide +kernel
theorem dX5_mixTriedNumbers_10 : decode cX5_mixTriedNumbers 10 = .ok (.iconst 1, 1) := by decide +kernel
theorem dX5_mixTriedNumbers_11 : decode cX5_mixTriedNumbers 11 = .ok (.isub, 1) := by decide +kernel
theorem dX5_mixTriedNumbers_12 : decode cX5_mixTriedNumbers 12 = .ok (.istore_n 1, 1) := by decide +kernel
theorem dX5_mixTriedNumbers_13 : decode cX5_mixTriedNumbers 13 = .ok (.iload_n 1, 1) := by decide +kernel
theorem dX5_mixTriedNumbers_14 : decode cX5_mixTriedNumbers 14 = .ok (.iconst 2, 1) := by decide +kernel
theorem dX5_mixTriedNumbers_15 : decode cX5_mixTriedNumbers 15 = .ok (.if_icmp .lt 46, 3) := by decide +kernel
theorem dX5_mixTriedNumbers_18 : decode cX5_mixTriedNumbers 18 = .ok (.iconst 1, 1) := by decide +kernel
theorem dX5_mixTriedNumbers_19 : decode cX5_mixTriedNumbers 19 = .ok (.aload_n 0, 1) := by decide +kernel
theorem dX5_mixTriedNumbers_20 : decode cX5_mixTriedNumbers 20 = .ok (.getfield 45, 3) := by decide +kernel
theorem dX5_mixTriedNumbers_23 : decode cX5_mixTriedNumbers 23 = .ok (.iload_n 1, 1) := by decide +kernel
theorem dX5_mixTriedNumbers_24 : decode cX5_mixTriedNumbers 24 = .ok (.invokevirtual 200, 3) := by decide +kernel
theorem dX5_mixTriedNumbers_27 : decode cX5_mixTriedNumbers 27 = .ok (.iadd, 1) := by decide +kernel
theorem dX5_mixTriedNumbers_28 : decode cX5_mixTriedNumbers 28 = .ok (.istore_n 2, 1) := by decide +kernel
theorem dX5_mixTriedNumbers_29 : decode cX5_mixTriedNumbers 29 = .ok (.aload_n 0, 1) := by decide +kernel
theorem dX5_mixTriedNumbers_30 : decode cX5_mixTriedNumbers 30 = .ok (.getfield 31, 3) := by decide +kernel
theorem dX5_mixTriedNumbers_33 : decode cX5_mixTriedNumbers 33 = .ok (.iload_n 1, 1) := by decide +kernel
theorem dX5_mixTriedNumbers_34 : decode cX5_mixTriedNumbers 34 = .ok (.iaload, 1) := by decide +kernel
theorem dX5_mixTriedNumbers_35 : decode cX5_mixTriedNumbers 35 = .ok (.istore_n 3, 1) := by decide +kernel
theorem dX5_mixTriedNumbers_36 : decode cX5_mixTriedNumbers 36 = .ok (.aload_n 0, 1) := by decide +kernel
theorem dX5_mixTriedNumbers_37 : decode cX5_mixTriedNumbers 37 = .ok (.getfield 31, 3) := by decide +kernel
theorem dX5_mixTriedNumbers_40 : decode cX5_mixTriedNumbers 40 = .ok (.iload_n 1, 1) := by decide +kernel
theorem dX5_mixTriedNumbers_41 : decode cX5_mixTriedNumbers 41 = .ok (.aload_n 0, 1) := by decide +kernel
theorem dX5_mixTriedNumbers_42 : decode cX5_mixTriedNumbers 42 = .ok (.getfield 31, 3) := by decide +kernel
theorem dX5_mixTriedNumbers_45 : decode cX5_mixTriedNumbers 45 = .ok (.iload_n 2, 1) := by decide +kernel
theorem dX5_mixTriedNumbers_46 : decode cX5_mixTriedNumbers 46 = .ok (.iaload, 1) := by decide +kernel
theorem dX5_mixTriedNumbers_47 : decode cX5_mixTriedNumbers 47 = .ok (.iastore, 1) := by decide +kernel
theorem dX5_mixTriedNumbers_48 : decode cX5_mixTriedNumbers 48 = .ok (.aload_n 0, 1) := by decide +kernel
theorem dX5_mixTriedNumbers_49 : decode cX5_mixTriedNumbers 49 = .ok (.getfield 31, 3) := by decide +kernel
theorem dX5_mixTriedNumbers_52 : decode cX5_mixTriedNumbers 52 = .ok (.iload_n 2, 1) := by decide +kernel
theorem dX5_mixTriedNumbers_53 : decode cX5_mixTriedNumbers 53 = .ok (.iload_n 3, 1) := by decide +kernel
theorem dX5_mixTriedNumbers_54 : decode cX5_mixTriedNumbers 54 = .ok (.iastore, 1) := by decide +kernel
theorem dX5_mixTriedNumbers_55 : decode cX5_mixTriedNumbers 55 = .ok (.iinc 1 (-1), 3) := by decide +kernel
theorem dX5_mixTriedNumbers_58 : decode cX5_mixTriedNumbers 58 = .ok (.goto (-45), 3) := by decide +kernel
theorem dX5_mixTriedNumbers_61 : decode cX5_mixTriedNumbers 61 = .ok (.return_, 1) := by decide +kernel
theorem dX5_blindEnd_0 : decode cX5_blindEnd 0 = .ok (.aload_n 0, 1) := by decide +kernel
theorem dX5_blindEnd_1 : decode cX5_blindEnd 1 = .ok (.getfield 45, 3) := by decide +kernel
theorem dX5_blindEnd_4 : decode cX5_blindEnd 4 = .ok (.getfield 83, 3) := by decide +kernel
theorem dX5_blindEnd_7 : decode cX5_blindEnd 7 = .ok (.iconst (-1), 1) := by decide +kernel
theorem dX5_blindEnd_8 : decode cX5_blindEnd 8 = .ok (.invokevirtual 263, 3) := by decide +kernel
theorem dX5_blindEnd_11 : decode cX5_blindEnd 11 = .ok (.istore_n 1, 1) := by decide +kernel
theorem dX5_blindEnd_12 : decode cX5_blindEnd 12 = .ok (.iconst 0, 1) := by decide +kernel
theorem dX5_blindEnd_13 : decode cX5_blindEnd 13 = .ok (.istore_n 2, 1) := by decide +kernel
theorem dX5_blindEnd_14 : decode cX5_blindEnd 14 = .ok (.iload_n 2, 1) := by decide +kernel
theorem dX5_blindEnd_15 : decode cX5_blindEnd 15 = .ok (.bipush 60, 2) := by decide +kernel
theorem dX5_blindEnd_17 : decode cX5_blindEnd 17 = .ok (.if_icmp .ge 36, 3) := by decide +kernel
theorem dX5_blindEnd_20 : decode cX5_blindEnd 20 = .ok (.aload_n 0, 1) := by decide +kernel
theorem dX5_blindEnd_21 : decode cX5_blindEnd 21 = .ok (.iload_n 1, 1) := by decide +kernel
theorem dX5_blindEnd_22 : decode cX5_blindEnd 22 = .ok (.invokevirtual 328, 3) := by decide +kernel
theorem dX5_blindEnd_25 : decode cX5_blindEnd 25 = .ok (.istore_n 3, 1) := by decide +kernel
theorem dX5_blindEnd_26 : decode cX5_blindEnd 26 = .ok (.iload_n 3, 1) := by decide +kernel
theorem dX5_blindEnd_27 : decode cX5_blindEnd 27 = .ok (.iconst (-1), 1) := by decide +kernel
theorem dX5_blindEnd_28 : decode cX5_blindEnd 28 = .ok (.if_icmp .ne 5, 3) := by decide +kernel
theorem dX5_blindEnd_31 : decode cX5_blindEnd 31 = .ok (.iload_n 1, 1) := by decide +kernel
theorem dX5_blindEnd_32 : decode cX5_blindEnd 32 = .ok (.ireturn, 1) := by decide +kernel
theorem dX5_blindEnd_33 : decode cX5_blindEnd 33 = .ok (.aload_n 0, 1) := by decide +kernel
theorem dX5_blindEnd_34 : decode cX5_blindEnd 34 = .ok (.getfield 45, 3) := by decide +kernel
theorem dX5_blindEnd_37 : decode cX5_blindEnd 37 = .ok (.getfield 83, 3) := by decide +kernel
theorem dX5_blindEnd_40 : decode cX5_blindEnd 40 = .ok (.iload_n 1, 1) := by decide +kernel
theorem dX5_blindEnd_41 : decode cX5_blindEnd 41 = .ok (.iload_n 3, 1) := by decide +kernel
theorem dX5_blindEnd_42 : decode cX5_blindEnd 42 = .ok (.iconst (-1), 1) := by decide +kernel
theorem dX5_blindEnd_43 : decode cX5_blindEnd 43 = .ok (.invokevirtual 272, 3) := by decide +kernel
theorem dX5_blindEnd_46 : decode cX5_blindEnd 46 = .ok (.istore_n 1, 1) := by decide +kernel
theorem dX5_blindEnd_47 : decode cX5_blindEnd 47 = .ok (.iinc 2 1, 3) := by decide +kernel
theorem dX5_blindEnd_50 : decode cX5_blindEnd 50 = .ok (.goto (-36), 3) := by decide +kernel
theorem dX5_blindEnd_53 : decode cX5_blindEnd 53 = .ok (.iload_n 1, 1) := by decide +kernel
theorem dX5_blindEnd_54 : decode cX5_blindEnd 54 = .ok (.ireturn, 1) := by decide +kernel
theorem dX5_blindWay_0 : decode cX5_blindWay 0 = .ok (.aload_n 0, 1) := by decide +kernel
theorem dX5_blindWay_1 : decode cX5_blindWay 1 = .ok (.getfield 45, 3) := by decide +kernel
theorem dX5_blindWay_4 : decode cX5_blindWay 4 = .ok (.getfield 83, 3) := by decide +kernel
theorem dX5_blindWay_7 : decode cX5_blindWay 7 = .ok (.astore_n 2, 1) := by decide +kernel
theorem dX5_blindWay_8 : decode cX5_blindWay 8 = .ok (.iload_n 1, 1) := by decide +kernel
theorem dX5_blindWay_9 : decode cX5_blindWay 9 = .ok (.invokestatic 194, 3) := by decide +kernel
theorem dX5_blindWay_12 : decode cX5_blindWay 12 = .ok (.ifCond .eq 5, 3) := by decide +kernel
theorem dX5_blindWay_15 : decode cX5_blindWay 15 = .ok (.iconst (-1), 1) := by decide +kernel
theorem dX5_blindWay_16 : decode cX5_blindWay 16 = .ok (.ireturn, 1) := by decide +kernel
theorem dX5_blindWay_17 : decode cX5_blindWay 17 = .ok (.aload_n 2, 1) := by decide +kernel
theorem dX5_blindWay_18 : decode cX5_blindWay 18 = .ok (.iload_n 1, 1) := by decide +kernel
theorem dX5_blindWay_19 : decode cX5_blindWay 19 = .ok (.invokestatic 178, 3) := by decide +kernel
theorem dX5_blindWay_22 : decode cX5_blindWay 22 = .ok (.invokevirtual 197, 3) := by decide +kernel
theorem dX5_blindWay_25 : decode cX5_blindWay 25 = .ok (.ifCond .eq 23, 3) := by decide +kernel
theorem dX5_blindWay_28 : decode cX5_blindWay 28 = .ok (.aload_n 2, 1) := by decide +kernel
theorem dX5_blindWay_29 : decode cX5_blindWay 29 = .ok (.iload_n 1, 1) := by decide +kernel
theorem dX5_blindWay_30 : decode cX5_blindWay 30 = .ok (.invokestatic 178, 3) := by decide +kernel
theorem dX5_blindWay_33 : decode cX5_blindWay 33 = .ok (.aload_n 0, 1) := by decide +kernel
theorem dX5_blindWay_34 : decode cX5_blindWay 34 = .ok (.getfield 45, 3) := by decide +kernel
theorem dX5_blindWay_37 : decode cX5_blindWay 37 = .ok (.bipush 6, 2) := by decide +kernel
theorem dX5_blindWay_39 : decode cX5_blindWay 39 = .ok (.invokevirtual 200, 3) := by decide +kernel
theorem dX5_blindWay_42 : decode cX5_blindWay 42 = .ok (.iconst 1, 1) := by decide +kernel
theorem dX5_blindWay_43 : decode cX5_blindWay 43 = .ok (.iadd, 1) := by decide +kernel
theorem dX5_blindWay_44 : decode cX5_blindWay 44 = .ok (.invokevirtual 203, 3) := by decide +kernel
theorem dX5_blindWay_47 : decode cX5_blindWay 47 = .ok (.ireturn, 1) := by decide +kernel
theorem dX5_blindWay_48 : decode cX5_blindWay 48 = .ok (.aload_n 2, 1) := by decide +kernel
theorem dX5_blindWay_49 : decode cX5_blindWay 49 = .ok (.iload_n 1, 1) := by decide +kernel
theorem dX5_blindWay_50 : decode cX5_blindWay 50 = .ok (.invokevirtual 215, 3) := by decide +kernel
theorem dX5_blindWay_53 : decode cX5_blindWay 53 = .ok (.istore_n 3, 1) := by decide +kernel
theorem dX5_blindWay_54 : decode cX5_blindWay 54 = .ok (.iload_n 3, 1) := by decide +kernel
theorem dX5_blindWay_55 : decode cX5_blindWay 55 = .ok (.ifCond .ne 5, 3) := by decide +kernel
theorem dX5_blindWay_58 : decode cX5_blindWay 58 = .ok (.iconst (-1), 1) := by decide +kernel
theorem dX5_blindWay_59 : decode cX5_blindWay 59 = .ok (.ireturn, 1) := by decide +kernel
theorem dX5_blindWay_60 : decode cX5_blindWay 60 = .ok (.aload_n 2, 1) := by decide +kernel
theorem dX5_blindWay_61 : decode cX5_blindWay 61 = .ok (.iload_n 1, 1) := by decide +kernel
theorem dX5_blindWay_62 : decode cX5_blindWay 62 = .ok (.iload_n 3, 1) := by decide +kernel
theorem dX5_blindWay_63 : decode cX5_blindWay 63 = .ok (.aload_n 0, 1) := by decide +kernel
theorem dX5_blindWay_64 : decode cX5_blindWay 64 = .ok (.getfield 45, 3) := by decide +kernel
theorem dX5_blindWay_67 : decode cX5_blindWay 67 = .ok (.iload_n 3, 1) := by decide +kernel
theorem dX5_blindWay_68 : decode cX5_blindWay 68 = .ok (.invokestatic 331, 3) := by decide +kernel
theorem dX5_blindWay_71 : decode cX5_blindWay 71 = .ok (.invokevirtual 200, 3) := by decide +kernel
theorem dX5_blindWay_74 : decode cX5_blindWay 74 = .ok (.invokestatic 336, 3) := by decide +kernel
theorem dX5_blindWay_77 : decode cX5_blindWay 77 = .ok (.invokevirtual 186, 3) := by decide +kernel
theorem dX5_blindWay_80 : decode cX5_blindWay 80 = .ok (.ireturn, 1) := by decide +kernel
theorem dX5_nthOf_0 : decode cX5_nthOf 0 = .ok (.iload_n 1, 1) := by decide +kernel
theorem dX5_nthOf_1 : decode cX5_nthOf 1 = .ok (.istore_n 2, 1) := by decide +kernel
theorem dX5_nthOf_2 : decode cX5_nthOf 2 = .ok (.iconst 0, 1) := by decide +kernel
theorem dX5_nthOf_3 : decode cX5_nthOf 3 = .ok (.istore_n 3, 1) := by decide +kernel
theorem dX5_nthOf_4 : decode cX5_nthOf 4 = .ok (.iload_n 3, 1) := by decide +kernel
theorem dX5_nthOf_5 : decode cX5_nthOf 5 = .ok (.bipush 6, 2) := by decide +kernel
theorem dX5_nthOf_7 : decode cX5_nthOf 7 = .ok (.if_icmp .ge 27, 3) := by decide +kernel
theorem dX5_nthOf_10 : decode cX5_nthOf 10 = .ok (.iload_n 0, 1) := by decide +kernel
theorem dX5_nthOf_11 : decode cX5_nthOf 11 = .ok (.iload_n 3, 1) := by decide +kernel
theorem dX5_nthOf_12 : decode cX5_nthOf 12 = .ok (.ishr, 1) := by decide +kernel
theorem dX5_nthOf_13 : decode cX5_nthOf 13 = .ok (.iconst 1, 1) := by decide +kernel
theorem dX5_nthOf_14 : decode cX5_nthOf 14 = .ok (.iand, 1) := by decide +kernel
theorem dX5_nthOf_15 : decode cX5_nthOf 15 = .ok (.iconst 1, 1) := by decide +kernel
theorem dX5_nthOf_16 : decode cX5_nthOf 16 = .ok (.if_icmp .ne 12, 3) := by decide +kernel
theorem dX5_nthOf_19 : decode cX5_nthOf 19 = .ok (.iload_n 2, 1) := by decide +kernel
theorem dX5_nthOf_20 : decode cX5_nthOf 20 = .ok (.ifCond .ne 5, 3) := by decide +kernel
theorem dX5_nthOf_23 : decode cX5_nthOf 23 = .ok (.iload_n 3, 1) := by decide +kernel
theorem dX5_nthOf_24 : decode cX5_nthOf 24 = .ok (.ireturn, 1) := by decide +kernel
theorem dX5_nthOf_25 : decode cX5_nthOf 25 = .ok (.iinc 2 (-1), 3) := by decide +kernel
theorem dX5_nthOf_28 : decode cX5_nthOf 28 = .ok (.iinc 3 1, 3) := by decide +kernel
theorem dX5_nthOf_31 : decode cX5_nthOf 31 = .ok (.goto (-27), 3) := by decide +kernel
theorem dX5_nthOf_34 : decode cX5_nthOf 34 = .ok (.iconst 0, 1) := by decide +kernel
theorem dX5_nthOf_35 : decode cX5_nthOf 35 = .ok (.ireturn, 1) := by decide +kernel
theorem dJ6_bitCount_0f7a4_0 : decode cJ6_bitCount_0f7a4 0 = .ok (.iload_n 0, 1) := by decide +kernel
theorem dJ6_bitCount_0f7a4_1 : decode cJ6_bitCount_0f7a4 1 = .ok (.iload_n 0, 1) := by decide +kernel
theorem dJ6_bitCount_0f7a4_2 : decode cJ6_bitCount_0f7a4 2 = .ok (.iconst 1, 1) := by decide +kernel
theorem dJ6_bitCount_0f7a4_3 : decode cJ6_bitCount_0f7a4 3 = .ok (.iushr, 1) := by decide +kernel
theorem dJ6_bitCount_0f7a4_4 : decode cJ6_bitCount_0f7a4 4 = .ok (.ldc_w 265, 3) := by decide +kernel
theorem dJ6_bitCount_0f7a4_7 : decode cJ6_bitCount_0f7a4 7 = .ok (.iand, 1) := by decide +kernel
theorem dJ6_bitCount_0f7a4_8 : decode cJ6_bitCount_0f7a4 8 = .ok (.isub, 1) := by decide +kernel
theorem dJ6_bitCount_0f7a4_9 : decode cJ6_bitCount_0f7a4 9 = .ok (.istore_n 0, 1) := by decide +kernel
theorem dJ6_bitCount_0f7a4_10 : decode cJ6_bitCount_0f7a4 10 = .ok (.iload_n 0, 1) := by decide +kernel
theorem dJ6_bitCount_0f7a4_11 : decode cJ6_bitCount_0f7a4 11 = .ok (.ldc_w 266, 3) := by decide +kernel
theorem dJ6_bitCount_0f7a4_14 : decode cJ6_bitCount_0f7a4 14 = .ok (.iand, 1) := by decide +kernel
theorem dJ6_bitCount_0f7a4_15 : decode cJ6_bitCount_0f7a4 15 = .ok (.iload_n 0, 1) := by decide +kernel
theorem dJ6_bitCount_0f7a4_16 : decode cJ6_bitCount_0f7a4 16 = .ok (.iconst 2, 1) := by decide +kernel
theorem dJ6_bitCount_0f7a4_17 : decode cJ6_bitCount_0f7a4 17 = .ok (.iushr, 1) := by decide +kernel
theorem dJ6_bitCount_0f7a4_18 : decode cJ6_bitCount_0f7a4 18 = .ok (.ldc_w 266, 3) := by decide +kernel
theorem dJ6_bitCount_0f7a4_21 : decode cJ6_bitCount_0f7a4 21 = .ok (.iand, 1) := by decide +kernel
theorem dJ6_bitCount_0f7a4_22 : decode cJ6_bitCount_0f7a4 22 = .ok (.iadd, 1) := by decide +kernel
theorem dJ6_bitCount_0f7a4_23 : decode cJ6_bitCount_0f7a4 23 = .ok (.istore_n 0, 1) := by decide +kernel
theorem dJ6_bitCount_0f7a4_24 : decode cJ6_bitCount_0f7a4 24 = .ok (.iload_n 0, 1) := by decide +kernel
theorem dJ6_bitCount_0f7a4_25 : decode cJ6_bitCount_0f7a4 25 = .ok (.iload_n 0, 1) := by decide +kernel
theorem dJ6_bitCount_0f7a4_26 : decode cJ6_bitCount_0f7a4 26 = .ok (.iconst 4, 1) := by decide +kernel
theorem dJ6_bitCount_0f7a4_27 : decode cJ6_bitCount_0f7a4 27 = .ok (.iushr, 1) := by decide +kernel
theorem dJ6_bitCount_0f7a4_28 : decode cJ6_bitCount_0f7a4 28 = .ok (.iadd, 1) := by decide +kernel
theorem dJ6_bitCount_0f7a4_29 : decode cJ6_bitCount_0f7a4 29 = .ok (.ldc_w 267, 3) := by decide +kernel
theorem dJ6_bitCount_0f7a4_32 : decode cJ6_bitCount_0f7a4 32 = .ok (.iand, 1) := by decide +kernel
theorem dJ6_bitCount_0f7a4_33 : decode cJ6_bitCount_0f7a4 33 = .ok (.istore_n 0, 1) := by decide +kernel
theorem dJ6_bitCount_0f7a4_34 : decode cJ6_bitCount_0f7a4 34 = .ok (.iload_n 0, 1) := by decide +kernel
theorem dJ6_bitCount_0f7a4_35 : decode cJ6_bitCount_0f7a4 35 = .ok (.iload_n 0, 1) := by decide +kernel
theorem dJ6_bitCount_0f7a4_36 : decode cJ6_bitCount_0f7a4 36 = .ok (.bipush 8, 2) := by decide +kernel
theorem dJ6_bitCount_0f7a4_38 : decode cJ6_bitCount_0f7a4 38 = .ok (.iushr, 1) := by decide +kernel
theorem dJ6_bitCount_0f7a4_39 : decode cJ6_bitCount_0f7a4 39 = .ok (.iadd, 1) := by decide +kernel
theorem dJ6_bitCount_0f7a4_40 : decode cJ6_bitCount_0f7a4 40 = .ok (.istore_n 0, 1) := by decide +kernel
theorem dJ6_bitCount_0f7a4_41 : decode cJ6_bitCount_0f7a4 41 = .ok (.iload_n 0, 1) := by decide +kernel
theorem dJ6_bitCount_0f7a4_42 : decode cJ6_bitCount_0f7a4 42 = .ok (.iload_n 0, 1) := by decide +kernel
theorem dJ6_bitCount_0f7a4_43 : decode cJ6_bitCount_0f7a4 43 = .ok (.bipush 16, 2) := by decide +kernel
theorem dJ6_bitCount_0f7a4_45 : decode cJ6_bitCount_0f7a4 45 = .ok (.iushr, 1) := by decide +kernel
theorem dJ6_bitCount_0f7a4_46 : decode cJ6_bitCount_0f7a4 46 = .ok (.iadd, 1) := by decide +kernel
theorem dJ6_bitCount_0f7a4_47 : decode cJ6_bitCount_0f7a4 47 = .ok (.istore_n 0, 1) := by decide +kernel
theorem dJ6_bitCount_0f7a4_48 : decode cJ6_bitCount_0f7a4 48 = .ok (.iload_n 0, 1) := by decide +kernel
theorem dJ6_bitCount_0f7a4_49 : decode cJ6_bitCount_0f7a4 49 = .ok (.bipush 63, 2) := by decide +kernel
theorem dJ6_bitCount_0f7a4_51 : decode cJ6_bitCount_0f7a4 51 = .ok (.iand, 1) := by decide +kernel
theorem dJ6_bitCount_0f7a4_52 : decode cJ6_bitCount_0f7a4 52 = .ok (.ireturn, 1) := by decide +kernel
theorem dJ9_abs_0f7a4_0 : decode cJ9_abs_0f7a4 0 = .ok (.iload_n 0, 1) := by decide +kernel
theorem dJ9_abs_0f7a4_1 : decode cJ9_abs_0f7a4 1 = .ok (.ifCond .ge 8, 3) := by decide +kernel
theorem dJ9_abs_0f7a4_4 : decode cJ9_abs_0f7a4 4 = .ok (.iload_n 0, 1) := by decide +kernel
theorem dJ9_abs_0f7a4_5 : decode cJ9_abs_0f7a4 5 = .ok (.ineg, 1) := by decide +kernel
theorem dJ9_abs_0f7a4_6 : decode cJ9_abs_0f7a4 6 = .ok (.goto 4, 3) := by decide +kernel
theorem dJ9_abs_0f7a4_9 : decode cJ9_abs_0f7a4 9 = .ok (.iload_n 0, 1) := by decide +kernel
theorem dJ9_abs_0f7a4_10 : decode cJ9_abs_0f7a4 10 = .ok (.ireturn, 1) := by decide +kernel
theorem dJ9_max_7cf53_0 : decode cJ9_max_7cf53 0 = .ok (.iload_n 0, 1) := by decide +kernel
theorem dJ9_max_7cf53_1 : decode cJ9_max_7cf53 1 = .ok (.iload_n 1, 1) := by decide +kernel
theorem dJ9_max_7cf53_2 : decode cJ9_max_7cf53 2 = .ok (.if_icmp .lt 7, 3) := by decide +kernel
theorem dJ9_max_7cf53_5 : decode cJ9_max_7cf53 5 = .ok (.iload_n 0, 1) := by decide +kernel
theorem dJ9_max_7cf53_6 : decode cJ9_max_7cf53 6 = .ok (.goto 4, 3) := by decide +kernel
theorem dJ9_max_7cf53_9 : decode cJ9_max_7cf53 9 = .ok (.iload_n 1, 1) := by decide +kernel
theorem dJ9_max_7cf53_10 : decode cJ9_max_7cf53 10 = .ok (.ireturn, 1) := by decide +kernel
theorem dJ9_min_7cf53_0 : decode cJ9_min_7cf53 0 = .ok (.iload_n 0, 1) := by decide +kernel
theorem dJ9_min_7cf53_1 : decode cJ9_min_7cf53 1 = .ok (.iload_n 1, 1) := by decide +kernel
theorem dJ9_min_7cf53_2 : decode cJ9_min_7cf53 2 = .ok (.if_icmp .gt 7, 3) := by decide +kernel
theorem dJ9_min_7cf53_5 : decode cJ9_min_7cf53 5 = .ok (.iload_n 0, 1) := by decide +kernel
theorem dJ9_min_7cf53_6 : decode cJ9_min_7cf53 6 = .ok (.goto 4, 3) := by decide +kernel
theorem dJ9_min_7cf53_9 : decode cJ9_min_7cf53 9 = .ok (.iload_n 1, 1) := by decide +kernel
theorem dJ9_min_7cf53_10 : decode cJ9_min_7cf53 10 = .ok (.ireturn, 1) := by decide +kernel
theorem dJ0_length_8abf5_0 : decode cJ0_length_8abf5 0 = .ok (.aload_n 0, 1) := by decide +kernel
theorem dJ0_length_8abf5_1 : decode cJ0_length_8abf5 1 = .ok (.getfield 9, 3) := by decide +kernel
theorem dJ0_length_8abf5_4 : decode cJ0_length_8abf5 4 = .ok (.arraylength, 1) := by decide +kernel
theorem dJ0_length_8abf5_5 : decode cJ0_length_8abf5 5 = .ok (.aload_n 0, 1) := by decide +kernel
theorem dJ0_length_8abf5_6 : decode cJ0_length_8abf5 6 = .ok (.invokevirtual 335, 3) := by decide +kernel
theorem dJ0_length_8abf5_9 : decode cJ0_length_8abf5 9 = .ok (.ishr, 1) := by decide +kernel
theorem dJ0_length_8abf5_10 : decode cJ0_length_8abf5 10 = .ok (.ireturn, 1) := by decide +kernel
theorem dJ0_charAt_5068e_0 : decode cJ0_charAt_5068e 0 = .ok (.aload_n 0, 1) := by decide +kernel
theorem dJ0_charAt_5068e_1 : decode cJ0_charAt_5068e 1 = .ok (.invokevirtual 492, 3) := by decide +kernel
theorem dJ0_charAt_5068e_4 : decode cJ0_charAt_5068e 4 = .ok (.ifCond .eq 12, 3) := by decide +kernel
theorem dJ0_charAt_5068e_7 : decode cJ0_charAt_5068e 7 = .ok (.aload_n 0, 1) := by decide +kernel
theorem dJ0_charAt_5068e_8 : decode cJ0_charAt_5068e 8 = .ok (.getfield 9, 3) := by decide +kernel
theorem dJ0_charAt_5068e_11 : decode cJ0_charAt_5068e 11 = .ok (.iload_n 1, 1) := by decide +kernel
theorem dJ0_charAt_5068e_12 : decode cJ0_charAt_5068e 12 = .ok (.invokestatic 495, 3) := by decide +kernel
theorem dJ0_charAt_5068e_15 : decode cJ0_charAt_5068e 15 = .ok (.ireturn, 1) := by decide +kernel
theorem dJ0_charAt_5068e_16 : decode cJ0_charAt_5068e 16 = .ok (.aload_n 0, 1) := by decide +kernel
theorem dJ0_charAt_5068e_17 : decode cJ0_charAt_5068e 17 = .ok (.getfield 9, 3) := by decide +kernel
theorem dJ0_charAt_5068e_20 : decode cJ0_charAt_5068e 20 = .ok (.iload_n 1, 1) := by decide +kernel
theorem dJ0_charAt_5068e_21 : decode cJ0_charAt_5068e 21 = .ok (.invokestatic 498, 3) := by decide +kernel
theorem dJ0_charAt_5068e_24 : decode cJ0_charAt_5068e 24 = .ok (.ireturn, 1) := by decide +kernel
theorem dJ0_coder_7d493_0 : decode cJ0_coder_7d493 0 = .ok (.getstatic 38, 3) := by decide +kernel
theorem dJ0_coder_7d493_3 : decode cJ0_coder_7d493 3 = .ok (.ifCond .eq 10, 3) := by decide +kernel
theorem dJ0_coder_7d493_6 : decode cJ0_coder_7d493 6 = .ok (.aload_n 0, 1) := by decide +kernel
theorem dJ0_coder_7d493_7 : decode cJ0_coder_7d493 7 = .ok (.getfield 15, 3) := by decide +kernel
theorem dJ0_coder_7d493_10 : decode cJ0_coder_7d493 10 = .ok (.goto 4, 3) := by decide +kernel
theorem dJ0_coder_7d493_13 : decode cJ0_coder_7d493 13 = .ok (.iconst 1, 1) := by decide +kernel
theorem dJ0_coder_7d493_14 : decode cJ0_coder_7d493 14 = .ok (.ireturn, 1) := by decide +kernel
theorem dJ0_isLatin1_aae02_0 : decode cJ0_isLatin1_aae02 0 = .ok (.getstatic 38, 3) := by decide +kernel
theorem dJ0_isLatin1_aae02_3 : decode cJ0_isLatin1_aae02 3 = .ok (.ifCond .eq 14, 3) := by decide +kernel
theorem dJ0_isLatin1_aae02_6 : decode cJ0_isLatin1_aae02 6 = .ok (.aload_n 0, 1) := by decide +kernel
theorem dJ0_isLatin1_aae02_7 : decode cJ0_isLatin1_aae02 7 = .ok (.getfield 15, 3) := by decide +kernel
theorem dJ0_isLatin1_aae02_10 : decode cJ0_isLatin1_aae02 10 = .ok (.ifCond .ne 7, 3) := by decide +kernel
theorem dJ0_isLatin1_aae02_13 : decode cJ0_isLatin1_aae02 13 = .ok (.iconst 1, 1) := by decide +kernel
theorem dJ0_isLatin1_aae02_14 : decode cJ0_isLatin1_aae02 14 = .ok (.goto 4, 3) := by decide +kernel
theorem dJ0_isLatin1_aae02_17 : decode cJ0_isLatin1_aae02 17 = .ok (.iconst 0, 1) := by decide +kernel
theorem dJ0_isLatin1_aae02_18 : decode cJ0_isLatin1_aae02 18 = .ok (.ireturn, 1) := by decide +kernel
theorem dJ0_checkIndex_df160_0 : decode cJ0_checkIndex_df160 0 = .ok (.iload_n 0, 1) := by decide +kernel
theorem dJ0_checkIndex_df160_1 : decode cJ0_checkIndex_df160 1 = .ok (.iload_n 1, 1) := by decide +kernel
theorem dJ0_checkIndex_df160_2 : decode cJ0_checkIndex_df160 2 = .ok (.getstatic 1053, 3) := by decide +kernel
theorem dJ0_checkIndex_df160_5 : decode cJ0_checkIndex_df160 5 = .ok (.invokestatic 1059, 3) := by decide +kernel
theorem dJ0_checkIndex_df160_8 : decode cJ0_checkIndex_df160 8 = .ok (.pop, 1) := by decide +kernel
theorem dJ0_checkIndex_df160_9 : decode cJ0_checkIndex_df160 9 = .ok (.return_, 1) := by decide +kernel
theorem dJ1_charAt_3b067_0 : decode cJ1_charAt_3b067 0 = .ok (.iload_n 1, 1) := by decide +kernel
theorem dJ1_charAt_3b067_1 : decode cJ1_charAt_3b067 1 = .ok (.aload_n 0, 1) := by decide +kernel
theorem dJ1_charAt_3b067_2 : decode cJ1_charAt_3b067 2 = .ok (.arraylength, 1) := by decide +kernel
theorem dJ1_charAt_3b067_3 : decode cJ1_charAt_3b067 3 = .ok (.invokestatic 9, 3) := by decide +kernel
theorem dJ1_charAt_3b067_6 : decode cJ1_charAt_3b067 6 = .ok (.aload_n 0, 1) := by decide +kernel
theorem dJ1_charAt_3b067_7 : decode cJ1_charAt_3b067 7 = .ok (.iload_n 1, 1) := by decide +kernel
theorem dJ1_charAt_3b067_8 : decode cJ1_charAt_3b067 8 = .ok (.baload, 1) := by decide +kernel
theorem dJ1_charAt_3b067_9 : decode cJ1_charAt_3b067 9 = .ok (.sipush 255, 3) := by decide +kernel
theorem dJ1_charAt_3b067_12 : decode cJ1_charAt_3b067 12 = .ok (.iand, 1) := by decide +kernel
theorem dJ1_charAt_3b067_13 : decode cJ1_charAt_3b067 13 = .ok (.i2c, 1) := by decide +kernel
theorem dJ1_charAt_3b067_14 : decode cJ1_charAt_3b067 14 = .ok (.ireturn, 1) := by decide +kernel
theorem dJ2_getChar_3b067_0 : decode cJ2_getChar_3b067 0 = .ok (.getstatic 44, 3) := by decide +kernel
theorem dJ2_getChar_3b067_3 : decode cJ2_getChar_3b067 3 = .ok (.ifCond .ne 25, 3) := by decide +kernel
theorem dJ2_getChar_3b067_6 : decode cJ2_getChar_3b067 6 = .ok (.iload_n 1, 1) := by decide +kernel
theorem dJ2_getChar_3b067_7 : decode cJ2_getChar_3b067 7 = .ok (.ifCond .lt 11, 3) := by decide +kernel
theorem dJ2_getChar_3b067_10 : decode cJ2_getChar_3b067 10 = .ok (.iload_n 1, 1) := by decide +kernel
theorem dJ2_getChar_3b067_11 : decode cJ2_getChar_3b067 11 = .ok (.aload_n 0, 1) := by decide +kernel
theorem dJ2_getChar_3b067_12 : decode cJ2_getChar_3b067 12 = .ok (.invokestatic 48, 3) := by decide +kernel
theorem dJ2_getChar_3b067_15 : decode cJ2_getChar_3b067 15 = .ok (.if_icmp .lt 13, 3) := by decide +kernel
theorem dJ2_getChar_3b067_18 : decode cJ2_getChar_3b067 18 = .ok (.new 52, 3) := by decide +kernel
theorem dJ2_getChar_3b067_21 : decode cJ2_getChar_3b067 21 = .ok (.dup, 1) := by decide +kernel
theorem dJ2_getChar_3b067_22 : decode cJ2_getChar_3b067 22 = .ok (.ldc 54, 2) := by decide +kernel
theorem dJ2_getChar_3b067_24 : decode cJ2_getChar_3b067 24 = .ok (.invokespecial 56, 3) := by decide +kernel
theorem dJ2_getChar_3b067_27 : decode cJ2_getChar_3b067 27 = .ok (.athrow, 1) := by decide +kernel
theorem dJ2_getChar_3b067_28 : decode cJ2_getChar_3b067 28 = .ok (.iload_n 1, 1) := by decide +kernel
theorem dJ2_getChar_3b067_29 : decode cJ2_getChar_3b067 29 = .ok (.iconst 1, 1) := by decide +kernel
theorem dJ2_getChar_3b067_30 : decode cJ2_getChar_3b067 30 = .ok (.ishl, 1) := by decide +kernel
theorem dJ2_getChar_3b067_31 : decode cJ2_getChar_3b067 31 = .ok (.istore_n 1, 1) := by decide +kernel
theorem dJ2_getChar_3b067_32 : decode cJ2_getChar_3b067 32 = .ok (.aload_n 0, 1) := by decide +kernel
theorem dJ2_getChar_3b067_33 : decode cJ2_getChar_3b067 33 = .ok (.iload_n 1, 1) := by decide +kernel
theorem dJ2_getChar_3b067_34 : decode cJ2_getChar_3b067 34 = .ok (.iinc 1 1, 3) := by decide +kernel
theorem dJ2_getChar_3b067_37 : decode cJ2_getChar_3b067 37 = .ok (.baload, 1) := by decide +kernel
theorem dJ2_getChar_3b067_38 : decode cJ2_getChar_3b067 38 = .ok (.sipush 255, 3) := by decide +kernel
theorem dJ2_getChar_3b067_41 : decode cJ2_getChar_3b067 41 = .ok (.iand, 1) := by decide +kernel
theorem dJ2_getChar_3b067_42 : decode cJ2_getChar_3b067 42 = .ok (.getstatic 59, 3) := by decide +kernel
theorem dJ2_getChar_3b067_45 : decode cJ2_getChar_3b067 45 = .ok (.ishl, 1) := by decide +kernel
theorem dJ2_getChar_3b067_46 : decode cJ2_getChar_3b067 46 = .ok (.aload_n 0, 1) := by decide +kernel
theorem dJ2_getChar_3b067_47 : decode cJ2_getChar_3b067 47 = .ok (.iload_n 1, 1) := by decide +kernel
theorem dJ2_getChar_3b067_48 : decode cJ2_getChar_3b067 48 = .ok (.baload, 1) := by decide +kernel
theorem dJ2_getChar_3b067_49 : decode cJ2_getChar_3b067 49 = .ok (.sipush 255, 3) := by decide +kernel
theorem dJ2_getChar_3b067_52 : decode cJ2_getChar_3b067 52 = .ok (.iand, 1) := by decide +kernel
theorem dJ2_getChar_3b067_53 : decode cJ2_getChar_3b067 53 = .ok (.getstatic 63, 3) := by decide +kernel
theorem dJ2_getChar_3b067_56 : decode cJ2_getChar_3b067 56 = .ok (.ishl, 1) := by decide +kernel
theorem dJ2_getChar_3b067_57 : decode cJ2_getChar_3b067 57 = .ok (.ior, 1) := by decide +kernel
theorem dJ2_getChar_3b067_58 : decode cJ2_getChar_3b067 58 = .ok (.i2c, 1) := by decide +kernel
theorem dJ2_getChar_3b067_59 : decode cJ2_getChar_3b067 59 = .ok (.ireturn, 1) := by decide +kernel
theorem dJ2_length_9d52b_0 : decode cJ2_length_9d52b 0 = .ok (.aload_n 0, 1) := by decide +kernel
theorem dJ2_length_9d52b_1 : decode cJ2_length_9d52b 1 = .ok (.arraylength, 1) := by decide +kernel
theorem dJ2_length_9d52b_2 : decode cJ2_length_9d52b 2 = .ok (.iconst 1, 1) := by decide +kernel
theorem dJ2_length_9d52b_3 : decode cJ2_length_9d52b 3 = .ok (.ishr, 1) := by decide +kernel
theorem dJ2_length_9d52b_4 : decode cJ2_length_9d52b 4 = .ok (.ireturn, 1) := by decide +kernel
theorem dJ2_charAt_3b067_0 : decode cJ2_charAt_3b067 0 = .ok (.iload_n 1, 1) := by decide +kernel
theorem dJ2_charAt_3b067_1 : decode cJ2_charAt_3b067 1 = .ok (.aload_n 0, 1) := by decide +kernel
theorem dJ2_charAt_3b067_2 : decode cJ2_charAt_3b067 2 = .ok (.invokestatic 67, 3) := by decide +kernel
theorem dJ2_charAt_3b067_5 : decode cJ2_charAt_3b067 5 = .ok (.aload_n 0, 1) := by decide +kernel
theorem dJ2_charAt_3b067_6 : decode cJ2_charAt_3b067 6 = .ok (.iload_n 1, 1) := by decide +kernel
theorem dJ2_charAt_3b067_7 : decode cJ2_charAt_3b067 7 = .ok (.invokestatic 71, 3) := by decide +kernel
theorem dJ2_charAt_3b067_10 : decode cJ2_charAt_3b067 10 = .ok (.ireturn, 1) := by decide +kernel
theorem dJ2_checkIndex_2214a_0 : decode cJ2_checkIndex_2214a 0 = .ok (.iload_n 0, 1) := by decide +kernel
theorem dJ2_checkIndex_2214a_1 : decode cJ2_checkIndex_2214a 1 = .ok (.aload_n 1, 1) := by decide +kernel
theorem dJ2_checkIndex_2214a_2 : decode cJ2_checkIndex_2214a 2 = .ok (.invokestatic 48, 3) := by decide +kernel
theorem dJ2_checkIndex_2214a_5 : decode cJ2_checkIndex_2214a 5 = .ok (.invokestatic 414, 3) := by decide +kernel
theorem dJ2_checkIndex_2214a_8 : decode cJ2_checkIndex_2214a 8 = .ok (.return_, 1) := by decide +kernel
theorem dJ7_fill_53178_0 : decode cJ7_fill_53178 0 = .ok (.iconst 0, 1) := by decide +kernel
theorem dJ7_fill_53178_1 : decode cJ7_fill_53178 1 = .ok (.istore_n 2, 1) := by decide +kernel
theorem dJ7_fill_53178_2 : decode cJ7_fill_53178 2 = .ok (.aload_n 0, 1) := by decide +kernel
theorem dJ7_fill_53178_3 : decode cJ7_fill_53178 3 = .ok (.arraylength, 1) := by decide +kernel
theorem dJ7_fill_53178_4 : decode cJ7_fill_53178 4 = .ok (.istore_n 3, 1) := by decide +kernel
theorem dJ7_fill_53178_5 : decode cJ7_fill_53178 5 = .ok (.iload_n 2, 1) := by decide +kernel
theorem dJ7_fill_53178_6 : decode cJ7_fill_53178 6 = .ok (.iload_n 3, 1) := by decide +kernel
theorem dJ7_fill_53178_7 : decode cJ7_fill_53178 7 = .ok (.if_icmp .ge 13, 3) := by decide +kernel
theorem dJ7_fill_53178_10 : decode cJ7_fill_53178 10 = .ok (.aload_n 0, 1) := by decide +kernel
theorem dJ7_fill_53178_11 : decode cJ7_fill_53178 11 = .ok (.iload_n 2, 1) := by decide +kernel
theorem dJ7_fill_53178_12 : decode cJ7_fill_53178 12 = .ok (.iload_n 1, 1) := by decide +kernel
theorem dJ7_fill_53178_13 : decode cJ7_fill_53178 13 = .ok (.iastore, 1) := by decide +kernel
theorem dJ7_fill_53178_14 : decode cJ7_fill_53178 14 = .ok (.iinc 2 1, 3) := by decide +kernel
theorem dJ7_fill_53178_17 : decode cJ7_fill_53178 17 = .ok (.goto (-12), 3) := by decide +kernel
theorem dJ7_fill_53178_20 : decode cJ7_fill_53178 20 = .ok (.return_, 1) := by decide +kernel
theorem dJ7_copyOf_59c91_0 : decode cJ7_copyOf_59c91 0 = .ok (.iload_n 1, 1) := by decide +kernel
theorem dJ7_copyOf_59c91_1 : decode cJ7_copyOf_59c91 1 = .ok (.aload_n 0, 1) := by decide +kernel
theorem dJ7_copyOf_59c91_2 : decode cJ7_copyOf_59c91 2 = .ok (.arraylength, 1) := by decide +kernel
theorem dJ7_copyOf_59c91_3 : decode cJ7_copyOf_59c91 3 = .ok (.if_icmp .ne 11, 3) := by decide +kernel
theorem dJ7_copyOf_59c91_6 : decode cJ7_copyOf_59c91 6 = .ok (.aload_n 0, 1) := by decide +kernel
theorem dJ7_copyOf_59c91_7 : decode cJ7_copyOf_59c91 7 = .ok (.invokevirtual 316, 3) := by decide +kernel
theorem dJ7_copyOf_59c91_10 : decode cJ7_copyOf_59c91 10 = .ok (.checkcast 317, 3) := by decide +kernel
theorem dJ7_copyOf_59c91_13 : decode cJ7_copyOf_59c91 13 = .ok (.areturn, 1) := by decide +kernel
theorem dJ7_copyOf_59c91_14 : decode cJ7_copyOf_59c91 14 = .ok (.iload_n 1, 1) := by decide +kernel
theorem dJ7_copyOf_59c91_15 : decode cJ7_copyOf_59c91 15 = .ok (.newarray .int, 2) := by decide +kernel
theorem dJ7_copyOf_59c91_17 : decode cJ7_copyOf_59c91 17 = .ok (.astore_n 2, 1) := by decide +kernel
theorem dJ7_copyOf_59c91_18 : decode cJ7_copyOf_59c91 18 = .ok (.aload_n 0, 1) := by decide +kernel
theorem dJ7_copyOf_59c91_19 : decode cJ7_copyOf_59c91 19 = .ok (.iconst 0, 1) := by decide +kernel
theorem dJ7_copyOf_59c91_20 : decode cJ7_copyOf_59c91 20 = .ok (.aload_n 2, 1) := by decide +kernel
theorem dJ7_copyOf_59c91_21 : decode cJ7_copyOf_59c91 21 = .ok (.iconst 0, 1) := by decide +kernel
theorem dJ7_copyOf_59c91_22 : decode cJ7_copyOf_59c91 22 = .ok (.aload_n 0, 1) := by decide +kernel
theorem dJ7_copyOf_59c91_23 : decode cJ7_copyOf_59c91 23 = .ok (.arraylength, 1) := by decide +kernel
theorem dJ7_copyOf_59c91_24 : decode cJ7_copyOf_59c91 24 = .ok (.iload_n 1, 1) := by decide +kernel
theorem dJ7_copyOf_59c91_25 : decode cJ7_copyOf_59c91 25 = .ok (.invokestatic 304, 3) := by decide +kernel
theorem dJ7_copyOf_59c91_28 : decode cJ7_copyOf_59c91 28 = .ok (.invokestatic 150, 3) := by decide +kernel
theorem dJ7_copyOf_59c91_31 : decode cJ7_copyOf_59c91 31 = .ok (.aload_n 2, 1) := by decide +kernel
theorem dJ7_copyOf_59c91_32 : decode cJ7_copyOf_59c91 32 = .ok (.areturn, 1) := by decide +kernel
theorem dJ3_checkIndex_8e157_0 : decode cJ3_checkIndex_8e157 0 = .ok (.iload_n 0, 1) := by decide +kernel
theorem dJ3_checkIndex_8e157_1 : decode cJ3_checkIndex_8e157 1 = .ok (.ifCond .lt 8, 3) := by decide +kernel
theorem dJ3_checkIndex_8e157_4 : decode cJ3_checkIndex_8e157 4 = .ok (.iload_n 0, 1) := by decide +kernel
theorem dJ3_checkIndex_8e157_5 : decode cJ3_checkIndex_8e157 5 = .ok (.iload_n 1, 1) := by decide +kernel
theorem dJ3_checkIndex_8e157_6 : decode cJ3_checkIndex_8e157 6 = .ok (.if_icmp .lt 10, 3) := by decide +kernel
theorem dJ3_checkIndex_8e157_9 : decode cJ3_checkIndex_8e157 9 = .ok (.aload_n 2, 1) := by decide +kernel
theorem dJ3_checkIndex_8e157_10 : decode cJ3_checkIndex_8e157 10 = .ok (.iload_n 0, 1) := by decide +kernel
theorem dJ3_checkIndex_8e157_11 : decode cJ3_checkIndex_8e157 11 = .ok (.iload_n 1, 1) := by decide +kernel
theorem dJ3_checkIndex_8e157_12 : decode cJ3_checkIndex_8e157 12 = .ok (.invokestatic 95, 3) := by decide +kernel
theorem dJ3_checkIndex_8e157_15 : decode cJ3_checkIndex_8e157 15 = .ok (.athrow, 1) := by decide +kernel
theorem dJ3_checkIndex_8e157_16 : decode cJ3_checkIndex_8e157 16 = .ok (.iload_n 0, 1) := by decide +kernel
theorem dJ3_checkIndex_8e157_17 : decode cJ3_checkIndex_8e157 17 = .ok (.ireturn, 1) := by decide +kernel
theorem dL_law_0 : decode cL_law 0 = .ok (.new 7, 3) := by decide +kernel
theorem dL_law_3 : decode cL_law 3 = .ok (.dup, 1) := by decide +kernel
theorem dL_law_4 : decode cL_law 4 = .ok (.invokespecial 9, 3) := by decide +kernel
theorem dL_law_7 : decode cL_law 7 = .ok (.astore_n 1, 1) := by decide +kernel
theorem dL_law_8 : decode cL_law 8 = .ok (.new 10, 3) := by decide +kernel
theorem dL_law_11 : decode cL_law 11 = .ok (.dup, 1) := by decide +kernel
theorem dL_law_12 : decode cL_law 12 = .ok (.invokespecial 12, 3) := by decide +kernel
theorem dL_law_15 : decode cL_law 15 = .ok (.astore_n 2, 1) := by decide +kernel
theorem dL_law_16 : decode cL_law 16 = .ok (.iconst 0, 1) := by decide +kernel
theorem dL_law_17 : decode cL_law 17 = .ok (.istore_n 3, 1) := by decide +kernel
theorem dL_law_18 : decode cL_law 18 = .ok (.iload_n 3, 1) := by decide +kernel
theorem dL_law_19 : decode cL_law 19 = .ok (.aload_n 0, 1) := by decide +kernel
theorem dL_law_20 : decode cL_law 20 = .ok (.arraylength, 1) := by decide +kernel
theorem dL_law_21 : decode cL_law 21 = .ok (.iconst 5, 1) := by decide +kernel
theorem dL_law_22 : decode cL_law 22 = .ok (.isub, 1) := by decide +kernel
theorem dL_law_23 : decode cL_law 23 = .ok (.if_icmp .gt 985, 3) := by decide +kernel
theorem dL_law_26 : decode cL_law 26 = .ok (.aload_n 0, 1) := by decide +kernel
theorem dL_law_27 : decode cL_law 27 = .ok (.iload_n 3, 1) := by decide +kernel
theorem dL_law_28 : decode cL_law 28 = .ok (.iaload, 1) := by decide +kernel
theorem dL_law_29 : decode cL_law 29 = .ok (.bipush 31, 2) := by decide +kernel
theorem dL_law_31 : decode cL_law 31 = .ok (.iand, 1) := by decide +kernel
theorem dL_law_32 : decode cL_law 32 = .ok (.tableswitch 970 0 31 #[144, 207, 220, 233, 266, 309, 352, 405, 438, 461, 474, 497, 520, 543, 566, 589, 602, 615, 638, 661, 694, 717, 730, 743, 766, 789, 822, 855, 878, 901, 924, 947], 144) := by decide +kernel
theorem dL_law_176 : decode cL_law 176 = .ok (.aload_n 1, 1) := by decide +kernel
theorem dL_law_177 : decode cL_law 177 = .ok (.aload_n 0, 1) := by decide +kernel
theorem dL_law_178 : decode cL_law 178 = .ok (.iload_n 3, 1) := by decide +kernel
theorem dL_law_179 : decode cL_law 179 = .ok (.iconst 1, 1) := by decide +kernel
theorem dL_law_180 : decode cL_law 180 = .ok (.iadd, 1) := by decide +kernel
theorem dL_law_181 : decode cL_law 181 = .ok (.iaload, 1) := by decide +kernel
theorem dL_law_182 : decode cL_law 182 = .ok (.aload_n 0, 1) := by decide +kernel
theorem dL_law_183 : decode cL_law 183 = .ok (.iload_n 3, 1) := by decide +kernel
theorem dL_law_184 : decode cL_law 184 = .ok (.iconst 2, 1) := by decide +kernel
theorem dL_law_185 : decode cL_law 185 = .ok (.iadd, 1) := by decide +kernel
theorem dL_law_186 : decode cL_law 186 = .ok (.iaload, 1) := by decide +kernel
theorem dL_law_187 : decode cL_law 187 = .ok (.i2l, 1) := by decide +kernel
theorem dL_law_188 : decode cL_law 188 = .ok (.bipush 32, 2) := by decide +kernel
theorem dL_law_190 : decode cL_law 190 = .ok (.lshl, 1) := by decide +kernel
theorem dL_law_191 : decode cL_law 191 = .ok (.aload_n 0, 1) := by decide +kernel
theorem dL_law_192 : decode cL_law 192 = .ok (.iload_n 3, 1) := by decide +kernel
theorem dL_law_193 : decode cL_law 193 = .ok (.iconst 3, 1) := by decide +kernel
theorem dL_law_194 : decode cL_law 194 = .ok (.iadd, 1) := by decide +kernel
theorem dL_law_195 : decode cL_law 195 = .ok (.iaload, 1) := by decide +kernel
theorem dL_law_196 : decode cL_law 196 = .ok (.i2l, 1) := by decide +kernel
theorem dL_law_197 : decode cL_law 197 = .ok (.ldc2_w 13, 3) := by decide +kernel
theorem dL_law_200 : decode cL_law 200 = .ok (.land, 1) := by decide +kernel
theorem dL_law_201 : decode cL_law 201 = .ok (.lor, 1) := by decide +kernel
theorem dL_law_202 : decode cL_law 202 = .ok (.invokevirtual 15, 3) := by decide +kernel
theorem dL_law_205 : decode cL_law 205 = .ok (.aload_n 2, 1) := by decide +kernel
theorem dL_law_206 : decode cL_law 206 = .ok (.aload_n 0, 1) := by decide +kernel
theorem dL_law_207 : decode cL_law 207 = .ok (.iload_n 3, 1) := by decide +kernel
theorem dL_law_208 : decode cL_law 208 = .ok (.iconst 1, 1) := by decide +kernel
theorem dL_law_209 : decode cL_law 209 = .ok (.iadd, 1) := by decide +kernel
theorem dL_law_210 : decode cL_law 210 = .ok (.iaload, 1) := by decide +kernel
theorem dL_law_211 : decode cL_law 211 = .ok (.aload_n 0, 1) := by decide +kernel
theorem dL_law_212 : decode cL_law 212 = .ok (.iload_n 3, 1) := by decide +kernel
theorem dL_law_213 : decode cL_law 213 = .ok (.iconst 2, 1) := by decide +kernel
theorem dL_law_214 : decode cL_law 214 = .ok (.iadd, 1) := by decide +kernel
theorem dL_law_215 : decode cL_law 215 = .ok (.iaload, 1) := by decide +kernel
theorem dL_law_216 : decode cL_law 216 = .ok (.i2l, 1) := by decide +kernel
theorem dL_law_217 : decode cL_law 217 = .ok (.bipush 32, 2) := by decide +kernel
theorem dL_law_219 : decode cL_law 219 = .ok (.lshl, 1) := by decide +kernel
theorem dL_law_220 : decode cL_law 220 = .ok (.aload_n 0, 1) := by decide +kernel
theorem dL_law_221 : decode cL_law 221 = .ok (.iload_n 3, 1) := by decide +kernel
theorem dL_law_222 : decode cL_law 222 = .ok (.iconst 3, 1) := by decide +kernel
theorem dL_law_223 : decode cL_law 223 = .ok (.iadd, 1) := by decide +kernel
theorem dL_law_224 : decode cL_law 224 = .ok (.iaload, 1) := by decide +kernel
theorem dL_law_225 : decode cL_law 225 = .ok (.i2l, 1) := by decide +kernel
theorem dL_law_226 : decode cL_law 226 = .ok (.ldc2_w 13, 3) := by decide +kernel
theorem dL_law_229 : decode cL_law 229 = .ok (.land, 1) := by decide +kernel
theorem dL_law_230 : decode cL_law 230 = .ok (.lor, 1) := by decide +kernel
theorem dL_law_231 : decode cL_law 231 = .ok (.invokevirtual 19, 3) := by decide +kernel
theorem dL_law_234 : decode cL_law 234 = .ok (.if_icmp .eq 768, 3) := by decide +kernel
theorem dL_law_237 : decode cL_law 237 = .ok (.iconst 0, 1) := by decide +kernel
theorem dL_law_238 : decode cL_law 238 = .ok (.ireturn, 1) := by decide +kernel
theorem dL_law_239 : decode cL_law 239 = .ok (.aload_n 1, 1) := by decide +kernel
theorem dL_law_240 : decode cL_law 240 = .ok (.invokevirtual 20, 3) := by decide +kernel
theorem dL_law_243 : decode cL_law 243 = .ok (.aload_n 2, 1) := by decide +kernel
theorem dL_law_244 : decode cL_law 244 = .ok (.invokevirtual 24, 3) := by decide +kernel
theorem dL_law_247 : decode cL_law 247 = .ok (.if_icmp .eq 755, 3) := by decide +kernel
theorem dL_law_250 : decode cL_law 250 = .ok (.iconst 0, 1) := by decide +kernel
theorem dL_law_251 : decode cL_law 251 = .ok (.ireturn, 1) := by decide +kernel
theorem dL_law_252 : decode cL_law 252 = .ok (.aload_n 1, 1) := by decide +kernel
theorem dL_law_253 : decode cL_law 253 = .ok (.invokevirtual 25, 3) := by decide +kernel
theorem dL_law_256 : decode cL_law 256 = .ok (.aload_n 2, 1) := by decide +kernel
theorem dL_law_257 : decode cL_law 257 = .ok (.invokevirtual 28, 3) := by decide +kernel
theorem dL_law_260 : decode cL_law 260 = .ok (.if_icmp .eq 742, 3) := by decide +kernel
theorem dL_law_263 : decode cL_law 263 = .ok (.iconst 0, 1) := by decide +kernel
theorem dL_law_264 : decode cL_law 264 = .ok (.ireturn, 1) := by decide +kernel
theorem dL_law_265 : decode cL_law 265 = .ok (.aload_n 1, 1) := by decide +kernel
theorem dL_law_266 : decode cL_law 266 = .ok (.aload_n 0, 1) := by decide +kernel
theorem dL_law_267 : decode cL_law 267 = .ok (.iload_n 3, 1) := by decide +kernel
theorem dL_law_268 : decode cL_law 268 = .ok (.iconst 1, 1) := by decide +kernel
theorem dL_law_269 : decode cL_law 269 = .ok (.iadd, 1) := by decide +kernel
theorem dL_law_270 : decode cL_law 270 = .ok (.iaload, 1) := by decide +kernel
theorem dL_law_271 : decode cL_law 271 = .ok (.aload_n 0, 1) := by decide +kernel
theorem dL_law_272 : decode cL_law 272 = .ok (.iload_n 3, 1) := by decide +kernel
theorem dL_law_273 : decode cL_law 273 = .ok (.iconst 2, 1) := by decide +kernel
theorem dL_law_274 : decode cL_law 274 = .ok (.iadd, 1) := by decide +kernel
theorem dL_law_275 : decode cL_law 275 = .ok (.iaload, 1) := by decide +kernel
theorem dL_law_276 : decode cL_law 276 = .ok (.invokevirtual 29, 3) := by decide +kernel
theorem dL_law_279 : decode cL_law 279 = .ok (.aload_n 2, 1) := by decide +kernel
theorem dL_law_280 : decode cL_law 280 = .ok (.aload_n 0, 1) := by decide +kernel
theorem dL_law_281 : decode cL_law 281 = .ok (.iload_n 3, 1) := by decide +kernel
theorem dL_law_282 : decode cL_law 282 = .ok (.iconst 1, 1) := by decide +kernel
theorem dL_law_283 : decode cL_law 283 = .ok (.iadd, 1) := by decide +kernel
theorem dL_law_284 : decode cL_law 284 = .ok (.iaload, 1) := by decide +kernel
theorem dL_law_285 : decode cL_law 285 = .ok (.aload_n 0, 1) := by decide +kernel
theorem dL_law_286 : decode cL_law 286 = .ok (.iload_n 3, 1) := by decide +kernel
theorem dL_law_287 : decode cL_law 287 = .ok (.iconst 2, 1) := by decide +kernel
theorem dL_law_288 : decode cL_law 288 = .ok (.iadd, 1) := by decide +kernel
theorem dL_law_289 : decode cL_law 289 = .ok (.iaload, 1) := by decide +kernel
theorem dL_law_290 : decode cL_law 290 = .ok (.invokevirtual 33, 3) := by decide +kernel
theorem dL_law_293 : decode cL_law 293 = .ok (.if_icmp .eq 709, 3) := by decide +kernel
theorem dL_law_296 : decode cL_law 296 = .ok (.iconst 0, 1) := by decide +kernel
theorem dL_law_297 : decode cL_law 297 = .ok (.ireturn, 1) := by decide +kernel
theorem dL_law_298 : decode cL_law 298 = .ok (.aload_n 1, 1) := by decide +kernel
theorem dL_law_299 : decode cL_law 299 = .ok (.aload_n 0, 1) := by decide +kernel
theorem dL_law_300 : decode cL_law 300 = .ok (.iload_n 3, 1) := by decide +kernel
theorem dL_law_301 : decode cL_law 301 = .ok (.iconst 1, 1) := by decide +kernel
theorem dL_law_302 : decode cL_law 302 = .ok (.iadd, 1) := by decide +kernel
theorem dL_law_303 : decode cL_law 303 = .ok (.iaload, 1) := by decide +kernel
theorem dL_law_304 : decode cL_law 304 = .ok (.aload_n 0, 1) := by decide +kernel
theorem dL_law_305 : decode cL_law 305 = .ok (.iload_n 3, 1) := by decide +kernel
theorem dL_law_306 : decode cL_law 306 = .ok (.iconst 2, 1) := by decide +kernel
theorem dL_law_307 : decode cL_law 307 = .ok (.iadd, 1) := by decide +kernel
theorem dL_law_308 : decode cL_law 308 = .ok (.iaload, 1) := by decide +kernel
theorem dL_law_309 : decode cL_law 309 = .ok (.aload_n 0, 1) := by decide +kernel
theorem dL_law_310 : decode cL_law 310 = .ok (.iload_n 3, 1) := by decide +kernel
theorem dL_law_311 : decode cL_law 311 = .ok (.iconst 3, 1) := by decide +kernel
theorem dL_law_312 : decode cL_law 312 = .ok (.iadd, 1) := by decide +kernel
theorem dL_law_313 : decode cL_law 313 = .ok (.iaload, 1) := by decide +kernel
theorem dL_law_314 : decode cL_law 314 = .ok (.invokevirtual 34, 3) := by decide +kernel
theorem dL_law_317 : decode cL_law 317 = .ok (.aload_n 2, 1) := by decide +kernel
theorem dL_law_318 : decode cL_law 318 = .ok (.aload_n 0, 1) := by decide +kernel
theorem dL_law_319 : decode cL_law 319 = .ok (.iload_n 3, 1) := by decide +kernel
theorem dL_law_320 : decode cL_law 320 = .ok (.iconst 1, 1) := by decide +kernel
theorem dL_law_321 : decode cL_law 321 = .ok (.iadd, 1) := by decide +kernel
theorem dL_law_322 : decode cL_law 322 = .ok (.iaload, 1) := by decide +kernel
theorem dL_law_323 : decode cL_law 323 = .ok (.aload_n 0, 1) := by decide +kernel
theorem dL_law_324 : decode cL_law 324 = .ok (.iload_n 3, 1) := by decide +kernel
theorem dL_law_325 : decode cL_law 325 = .ok (.iconst 2, 1) := by decide +kernel
theorem dL_law_326 : decode cL_law 326 = .ok (.iadd, 1) := by decide +kernel
theorem dL_law_327 : decode cL_law 327 = .ok (.iaload, 1) := by decide +kernel
theorem dL_law_328 : decode cL_law 328 = .ok (.aload_n 0, 1) := by decide +kernel
theorem dL_law_329 : decode cL_law 329 = .ok (.iload_n 3, 1) := by decide +kernel
theorem dL_law_330 : decode cL_law 330 = .ok (.iconst 3, 1) := by decide +kernel
theorem dL_law_331 : decode cL_law 331 = .ok (.iadd, 1) := by decide +kernel
theorem dL_law_332 : decode cL_law 332 = .ok (.iaload, 1) := by decide +kernel
theorem dL_law_333 : decode cL_law 333 = .ok (.invokevirtual 38, 3) := by decide +kernel
theorem dL_law_336 : decode cL_law 336 = .ok (.if_icmp .eq 666, 3) := by decide +kernel
theorem dL_law_339 : decode cL_law 339 = .ok (.iconst 0, 1) := by decide +kernel
theorem dL_law_340 : decode cL_law 340 = .ok (.ireturn, 1) := by decide +kernel
theorem dL_law_341 : decode cL_law 341 = .ok (.aload_n 1, 1) := by decide +kernel
theorem dL_law_342 : decode cL_law 342 = .ok (.aload_n 0, 1) := by decide +kernel
theorem dL_law_343 : decode cL_law 343 = .ok (.iload_n 3, 1) := by decide +kernel
theorem dL_law_344 : decode cL_law 344 = .ok (.iconst 1, 1) := by decide +kernel
theorem dL_law_345 : decode cL_law 345 = .ok (.iadd, 1) := by decide +kernel
theorem dL_law_346 : decode cL_law 346 = .ok (.iaload, 1) := by decide +kernel
theorem dL_law_347 : decode cL_law 347 = .ok (.aload_n 0, 1) := by decide +kernel
theorem dL_law_348 : decode cL_law 348 = .ok (.iload_n 3, 1) := by decide +kernel
theorem dL_law_349 : decode cL_law 349 = .ok (.iconst 2, 1) := by decide +kernel
theorem dL_law_350 : decode cL_law 350 = .ok (.iadd, 1) := by decide +kernel
theorem dL_law_351 : decode cL_law 351 = .ok (.iaload, 1) := by decide +kernel
theorem dL_law_352 : decode cL_law 352 = .ok (.aload_n 0, 1) := by decide +kernel
theorem dL_law_353 : decode cL_law 353 = .ok (.iload_n 3, 1) := by decide +kernel
theorem dL_law_354 : decode cL_law 354 = .ok (.iconst 3, 1) := by decide +kernel
theorem dL_law_355 : decode cL_law 355 = .ok (.iadd, 1) := by decide +kernel
theorem dL_law_356 : decode cL_law 356 = .ok (.iaload, 1) := by decide +kernel
theorem dL_law_357 : decode cL_law 357 = .ok (.invokevirtual 39, 3) := by decide +kernel
theorem dL_law_360 : decode cL_law 360 = .ok (.aload_n 2, 1) := by decide +kernel
theorem dL_law_361 : decode cL_law 361 = .ok (.aload_n 0, 1) := by decide +kernel
theorem dL_law_362 : decode cL_law 362 = .ok (.iload_n 3, 1) := by decide +kernel
theorem dL_law_363 : decode cL_law 363 = .ok (.iconst 1, 1) := by decide +kernel
theorem dL_law_364 : decode cL_law 364 = .ok (.iadd, 1) := by decide +kernel
theorem dL_law_365 : decode cL_law 365 = .ok (.iaload, 1) := by decide +kernel
theorem dL_law_366 : decode cL_law 366 = .ok (.aload_n 0, 1) := by decide +kernel
theorem dL_law_367 : decode cL_law 367 = .ok (.iload_n 3, 1) := by decide +kernel
theorem dL_law_368 : decode cL_law 368 = .ok (.iconst 2, 1) := by decide +kernel
theorem dL_law_369 : decode cL_law 369 = .ok (.iadd, 1) := by decide +kernel
theorem dL_law_370 : decode cL_law 370 = .ok (.iaload, 1) := by decide +kernel
theorem dL_law_371 : decode cL_law 371 = .ok (.aload_n 0, 1) := by decide +kernel
theorem dL_law_372 : decode cL_law 372 = .ok (.iload_n 3, 1) := by decide +kernel
theorem dL_law_373 : decode cL_law 373 = .ok (.iconst 3, 1) := by decide +kernel
theorem dL_law_374 : decode cL_law 374 = .ok (.iadd, 1) := by decide +kernel
theorem dL_law_375 : decode cL_law 375 = .ok (.iaload, 1) := by decide +kernel
theorem dL_law_376 : decode cL_law 376 = .ok (.invokevirtual 42, 3) := by decide +kernel
theorem dL_law_379 : decode cL_law 379 = .ok (.if_icmp .eq 623, 3) := by decide +kernel
theorem dL_law_382 : decode cL_law 382 = .ok (.iconst 0, 1) := by decide +kernel
theorem dL_law_383 : decode cL_law 383 = .ok (.ireturn, 1) := by decide +kernel
theorem dL_law_384 : decode cL_law 384 = .ok (.aload_n 1, 1) := by decide +kernel
theorem dL_law_385 : decode cL_law 385 = .ok (.aload_n 0, 1) := by decide +kernel
theorem dL_law_386 : decode cL_law 386 = .ok (.iload_n 3, 1) := by decide +kernel
theorem dL_law_387 : decode cL_law 387 = .ok (.iconst 1, 1) := by decide +kernel
theorem dL_law_388 : decode cL_law 388 = .ok (.iadd, 1) := by decide +kernel
theorem dL_law_389 : decode cL_law 389 = .ok (.iaload, 1) := by decide +kernel
theorem dL_law_390 : decode cL_law 390 = .ok (.aload_n 0, 1) := by decide +kernel
theorem dL_law_391 : decode cL_law 391 = .ok (.iload_n 3, 1) := by decide +kernel
theorem dL_law_392 : decode cL_law 392 = .ok (.iconst 2, 1) := by decide +kernel
theorem dL_law_393 : decode cL_law 393 = .ok (.iadd, 1) := by decide +kernel
theorem dL_law_394 : decode cL_law 394 = .ok (.iaload, 1) := by decide +kernel
theorem dL_law_395 : decode cL_law 395 = .ok (.aload_n 0, 1) := by decide +kernel
theorem dL_law_396 : decode cL_law 396 = .ok (.iload_n 3, 1) := by decide +kernel
theorem dL_law_397 : decode cL_law 397 = .ok (.iconst 3, 1) := by decide +kernel
theorem dL_law_398 : decode cL_law 398 = .ok (.iadd, 1) := by decide +kernel
theorem dL_law_399 : decode cL_law 399 = .ok (.iaload, 1) := by decide +kernel
theorem dL_law_400 : decode cL_law 400 = .ok (.aload_n 0, 1) := by decide +kernel
theorem dL_law_401 : decode cL_law 401 = .ok (.iload_n 3, 1) := by decide +kernel
theorem dL_law_402 : decode cL_law 402 = .ok (.iconst 4, 1) := by decide +kernel
theorem dL_law_403 : decode cL_law 403 = .ok (.iadd, 1) := by decide +kernel
theorem dL_law_404 : decode cL_law 404 = .ok (.iaload, 1) := by decide +kernel
theorem dL_law_405 : decode cL_law 405 = .ok (.invokevirtual 43, 3) := by decide +kernel
theorem dL_law_408 : decode cL_law 408 = .ok (.aload_n 2, 1) := by decide +kernel
theorem dL_law_409 : decode cL_law 409 = .ok (.aload_n 0, 1) := by decide +kernel
theorem dL_law_410 : decode cL_law 410 = .ok (.iload_n 3, 1) := by decide +kernel
theorem dL_law_411 : decode cL_law 411 = .ok (.iconst 1, 1) := by decide +kernel
theorem dL_law_412 : decode cL_law 412 = .ok (.iadd, 1) := by decide +kernel
theorem dL_law_413 : decode cL_law 413 = .ok (.iaload, 1) := by decide +kernel
theorem dL_law_414 : decode cL_law 414 = .ok (.aload_n 0, 1) := by decide +kernel
theorem dL_law_415 : decode cL_law 415 = .ok (.iload_n 3, 1) := by decide +kernel
theorem dL_law_416 : decode cL_law 416 = .ok (.iconst 2, 1) := by decide +kernel
theorem dL_law_417 : decode cL_law 417 = .ok (.iadd, 1) := by decide +kernel
theorem dL_law_418 : decode cL_law 418 = .ok (.iaload, 1) := by decide +kernel
theorem dL_law_419 : decode cL_law 419 = .ok (.aload_n 0, 1) := by decide +kernel
theorem dL_law_420 : decode cL_law 420 = .ok (.iload_n 3, 1) := by decide +kernel
theorem dL_law_421 : decode cL_law 421 = .ok (.iconst 3, 1) := by decide +kernel
theorem dL_law_422 : decode cL_law 422 = .ok (.iadd, 1) := by decide +kernel
theorem dL_law_423 : decode cL_law 423 = .ok (.iaload, 1) := by decide +kernel
theorem dL_law_424 : decode cL_law 424 = .ok (.aload_n 0, 1) := by decide +kernel
theorem dL_law_425 : decode cL_law 425 = .ok (.iload_n 3, 1) := by decide +kernel
theorem dL_law_426 : decode cL_law 426 = .ok (.iconst 4, 1) := by decide +kernel
theorem dL_law_427 : decode cL_law 427 = .ok (.iadd, 1) := by decide +kernel
theorem dL_law_428 : decode cL_law 428 = .ok (.iaload, 1) := by decide +kernel
theorem dL_law_429 : decode cL_law 429 = .ok (.invokevirtual 47, 3) := by decide +kernel
theorem dL_law_432 : decode cL_law 432 = .ok (.if_icmp .eq 570, 3) := by decide +kernel
theorem dL_law_435 : decode cL_law 435 = .ok (.iconst 0, 1) := by decide +kernel
theorem dL_law_436 : decode cL_law 436 = .ok (.ireturn, 1) := by decide +kernel
theorem dL_law_437 : decode cL_law 437 = .ok (.aload_n 1, 1) := by decide +kernel
theorem dL_law_438 : decode cL_law 438 = .ok (.aload_n 0, 1) := by decide +kernel
theorem dL_law_439 : decode cL_law 439 = .ok (.iload_n 3, 1) := by decide +kernel
theorem dL_law_440 : decode cL_law 440 = .ok (.iconst 1, 1) := by decide +kernel
theorem dL_law_441 : decode cL_law 441 = .ok (.iadd, 1) := by decide +kernel
theorem dL_law_442 : decode cL_law 442 = .ok (.iaload, 1) := by decide +kernel
theorem dL_law_443 : decode cL_law 443 = .ok (.aload_n 0, 1) := by decide +kernel
theorem dL_law_444 : decode cL_law 444 = .ok (.iload_n 3, 1) := by decide +kernel
theorem dL_law_445 : decode cL_law 445 = .ok (.iconst 2, 1) := by decide +kernel
theorem dL_law_446 : decode cL_law 446 = .ok (.iadd, 1) := by decide +kernel
theorem dL_law_447 : decode cL_law 447 = .ok (.iaload, 1) := by decide +kernel
theorem dL_law_448 : decode cL_law 448 = .ok (.invokevirtual 48, 3) := by decide +kernel
theorem dL_law_451 : decode cL_law 451 = .ok (.aload_n 2, 1) := by decide +kernel
theorem dL_law_452 : decode cL_law 452 = .ok (.aload_n 0, 1) := by decide +kernel
theorem dL_law_453 : decode cL_law 453 = .ok (.iload_n 3, 1) := by decide +kernel
theorem dL_law_454 : decode cL_law 454 = .ok (.iconst 1, 1) := by decide +kernel
theorem dL_law_455 : decode cL_law 455 = .ok (.iadd, 1) := by decide +kernel
theorem dL_law_456 : decode cL_law 456 = .ok (.iaload, 1) := by decide +kernel
theorem dL_law_457 : decode cL_law 457 = .ok (.aload_n 0, 1) := by decide +kernel
theorem dL_law_458 : decode cL_law 458 = .ok (.iload_n 3, 1) := by decide +kernel
theorem dL_law_459 : decode cL_law 459 = .ok (.iconst 2, 1) := by decide +kernel
theorem dL_law_460 : decode cL_law 460 = .ok (.iadd, 1) := by decide +kernel
theorem dL_law_461 : decode cL_law 461 = .ok (.iaload, 1) := by decide +kernel
theorem dL_law_462 : decode cL_law 462 = .ok (.invokevirtual 51, 3) := by decide +kernel
theorem dL_law_465 : decode cL_law 465 = .ok (.if_icmp .eq 537, 3) := by decide +kernel
theorem dL_law_468 : decode cL_law 468 = .ok (.iconst 0, 1) := by decide +kernel
theorem dL_law_469 : decode cL_law 469 = .ok (.ireturn, 1) := by decide +kernel
theorem dL_law_470 : decode cL_law 470 = .ok (.aload_n 1, 1) := by decide +kernel
theorem dL_law_471 : decode cL_law 471 = .ok (.aload_n 0, 1) := by decide +kernel
theorem dL_law_472 : decode cL_law 472 = .ok (.iload_n 3, 1) := by decide +kernel
theorem dL_law_473 : decode cL_law 473 = .ok (.iconst 1, 1) := by decide +kernel
theorem dL_law_474 : decode cL_law 474 = .ok (.iadd, 1) := by decide +kernel
theorem dL_law_475 : decode cL_law 475 = .ok (.iaload, 1) := by decide +kernel
theorem dL_law_476 : decode cL_law 476 = .ok (.invokevirtual 52, 3) := by decide +kernel
theorem dL_law_479 : decode cL_law 479 = .ok (.aload_n 2, 1) := by decide +kernel
theorem dL_law_480 : decode cL_law 480 = .ok (.aload_n 0, 1) := by decide +kernel
theorem dL_law_481 : decode cL_law 481 = .ok (.iload_n 3, 1) := by decide +kernel
theorem dL_law_482 : decode cL_law 482 = .ok (.iconst 1, 1) := by decide +kernel
theorem dL_law_483 : decode cL_law 483 = .ok (.iadd, 1) := by decide +kernel
theorem dL_law_484 : decode cL_law 484 = .ok (.iaload, 1) := by decide +kernel
theorem dL_law_485 : decode cL_law 485 = .ok (.invokevirtual 56, 3) := by decide +kernel
theorem dL_law_488 : decode cL_law 488 = .ok (.if_icmp .eq 514, 3) := by decide +kernel
theorem dL_law_491 : decode cL_law 491 = .ok (.iconst 0, 1) := by decide +kernel
theorem dL_law_492 : decode cL_law 492 = .ok (.ireturn, 1) := by decide +kernel
theorem dL_law_493 : decode cL_law 493 = .ok (.aload_n 1, 1) := by decide +kernel
theorem dL_law_494 : decode cL_law 494 = .ok (.invokevirtual 57, 3) := by decide +kernel
theorem dL_law_497 : decode cL_law 497 = .ok (.aload_n 2, 1) := by decide +kernel
theorem dL_law_498 : decode cL_law 498 = .ok (.invokevirtual 60, 3) := by decide +kernel
theorem dL_law_501 : decode cL_law 501 = .ok (.if_icmp .eq 501, 3) := by decide +kernel
theorem dL_law_504 : decode cL_law 504 = .ok (.iconst 0, 1) := by decide +kernel
theorem dL_law_505 : decode cL_law 505 = .ok (.ireturn, 1) := by decide +kernel
theorem dL_law_506 : decode cL_law 506 = .ok (.aload_n 1, 1) := by decide +kernel
theorem dL_law_507 : decode cL_law 507 = .ok (.aload_n 0, 1) := by decide +kernel
theorem dL_law_508 : decode cL_law 508 = .ok (.iload_n 3, 1) := by decide +kernel
theorem dL_law_509 : decode cL_law 509 = .ok (.iconst 1, 1) := by decide +kernel
theorem dL_law_510 : decode cL_law 510 = .ok (.iadd, 1) := by decide +kernel
theorem dL_law_511 : decode cL_law 511 = .ok (.iaload, 1) := by decide +kernel
theorem dL_law_512 : decode cL_law 512 = .ok (.invokevirtual 61, 3) := by decide +kernel
theorem dL_law_515 : decode cL_law 515 = .ok (.aload_n 2, 1) := by decide +kernel
theorem dL_law_516 : decode cL_law 516 = .ok (.aload_n 0, 1) := by decide +kernel
theorem dL_law_517 : decode cL_law 517 = .ok (.iload_n 3, 1) := by decide +kernel
theorem dL_law_518 : decode cL_law 518 = .ok (.iconst 1, 1) := by decide +kernel
theorem dL_law_519 : decode cL_law 519 = .ok (.iadd, 1) := by decide +kernel
theorem dL_law_520 : decode cL_law 520 = .ok (.iaload, 1) := by decide +kernel
theorem dL_law_521 : decode cL_law 521 = .ok (.invokevirtual 64, 3) := by decide +kernel
theorem dL_law_524 : decode cL_law 524 = .ok (.if_icmp .eq 478, 3) := by decide +kernel
theorem dL_law_527 : decode cL_law 527 = .ok (.iconst 0, 1) := by decide +kernel
theorem dL_law_528 : decode cL_law 528 = .ok (.ireturn, 1) := by decide +kernel
theorem dL_law_529 : decode cL_law 529 = .ok (.aload_n 1, 1) := by decide +kernel
theorem dL_law_530 : decode cL_law 530 = .ok (.aload_n 0, 1) := by decide +kernel
theorem dL_law_531 : decode cL_law 531 = .ok (.iload_n 3, 1) := by decide +kernel
theorem dL_law_532 : decode cL_law 532 = .ok (.iconst 1, 1) := by decide +kernel
theorem dL_law_533 : decode cL_law 533 = .ok (.iadd, 1) := by decide +kernel
theorem dL_law_534 : decode cL_law 534 = .ok (.iaload, 1) := by decide +kernel
theorem dL_law_535 : decode cL_law 535 = .ok (.invokevirtual 65, 3) := by decide +kernel
theorem dL_law_538 : decode cL_law 538 = .ok (.aload_n 2, 1) := by decide +kernel
theorem dL_law_539 : decode cL_law 539 = .ok (.aload_n 0, 1) := by decide +kernel
theorem dL_law_540 : decode cL_law 540 = .ok (.iload_n 3, 1) := by decide +kernel
theorem dL_law_541 : decode cL_law 541 = .ok (.iconst 1, 1) := by decide +kernel
theorem dL_law_542 : decode cL_law 542 = .ok (.iadd, 1) := by decide +kernel
theorem dL_law_543 : decode cL_law 543 = .ok (.iaload, 1) := by decide +kernel
theorem dL_law_544 : decode cL_law 544 = .ok (.invokevirtual 68, 3) := by decide +kernel
theorem dL_law_547 : decode cL_law 547 = .ok (.if_icmp .eq 455, 3) := by decide +kernel
theorem dL_law_550 : decode cL_law 550 = .ok (.iconst 0, 1) := by decide +kernel
theorem dL_law_551 : decode cL_law 551 = .ok (.ireturn, 1) := by decide +kernel
theorem dL_law_552 : decode cL_law 552 = .ok (.aload_n 1, 1) := by decide +kernel
theorem dL_law_553 : decode cL_law 553 = .ok (.aload_n 0, 1) := by decide +kernel
theorem dL_law_554 : decode cL_law 554 = .ok (.iload_n 3, 1) := by decide +kernel
theorem dL_law_555 : decode cL_law 555 = .ok (.iconst 1, 1) := by decide +kernel
theorem dL_law_556 : decode cL_law 556 = .ok (.iadd, 1) := by decide +kernel
theorem dL_law_557 : decode cL_law 557 = .ok (.iaload, 1) := by decide +kernel
theorem dL_law_558 : decode cL_law 558 = .ok (.invokevirtual 69, 3) := by decide +kernel
theorem dL_law_561 : decode cL_law 561 = .ok (.aload_n 2, 1) := by decide +kernel
theorem dL_law_562 : decode cL_law 562 = .ok (.aload_n 0, 1) := by decide +kernel
theorem dL_law_563 : decode cL_law 563 = .ok (.iload_n 3, 1) := by decide +kernel
theorem dL_law_564 : decode cL_law 564 = .ok (.iconst 1, 1) := by decide +kernel
theorem dL_law_565 : decode cL_law 565 = .ok (.iadd, 1) := by decide +kernel
theorem dL_law_566 : decode cL_law 566 = .ok (.iaload, 1) := by decide +kernel
theorem dL_law_567 : decode cL_law 567 = .ok (.invokevirtual 72, 3) := by decide +kernel
theorem dL_law_570 : decode cL_law 570 = .ok (.if_icmp .eq 432, 3) := by decide +kernel
theorem dL_law_573 : decode cL_law 573 = .ok (.iconst 0, 1) := by decide +kernel
theorem dL_law_574 : decode cL_law 574 = .ok (.ireturn, 1) := by decide +kernel
theorem dL_law_575 : decode cL_law 575 = .ok (.aload_n 1, 1) := by decide +kernel
theorem dL_law_576 : decode cL_law 576 = .ok (.aload_n 0, 1) := by decide +kernel
theorem dL_law_577 : decode cL_law 577 = .ok (.iload_n 3, 1) := by decide +kernel
theorem dL_law_578 : decode cL_law 578 = .ok (.iconst 1, 1) := by decide +kernel
theorem dL_law_579 : decode cL_law 579 = .ok (.iadd, 1) := by decide +kernel
theorem dL_law_580 : decode cL_law 580 = .ok (.iaload, 1) := by decide +kernel
theorem dL_law_581 : decode cL_law 581 = .ok (.invokevirtual 73, 3) := by decide +kernel
theorem dL_law_584 : decode cL_law 584 = .ok (.aload_n 2, 1) := by decide +kernel
theorem dL_law_585 : decode cL_law 585 = .ok (.aload_n 0, 1) := by decide +kernel
theorem dL_law_586 : decode cL_law 586 = .ok (.iload_n 3, 1) := by decide +kernel
theorem dL_law_587 : decode cL_law 587 = .ok (.iconst 1, 1) := by decide +kernel
theorem dL_law_588 : decode cL_law 588 = .ok (.iadd, 1) := by decide +kernel
theorem dL_law_589 : decode cL_law 589 = .ok (.iaload, 1) := by decide +kernel
theorem dL_law_590 : decode cL_law 590 = .ok (.invokevirtual 76, 3) := by decide +kernel
theorem dL_law_593 : decode cL_law 593 = .ok (.if_icmp .eq 409, 3) := by decide +kernel
theorem dL_law_596 : decode cL_law 596 = .ok (.iconst 0, 1) := by decide +kernel
theorem dL_law_597 : decode cL_law 597 = .ok (.ireturn, 1) := by decide +kernel
theorem dL_law_598 : decode cL_law 598 = .ok (.aload_n 1, 1) := by decide +kernel
theorem dL_law_599 : decode cL_law 599 = .ok (.aload_n 0, 1) := by decide +kernel
theorem dL_law_600 : decode cL_law 600 = .ok (.iload_n 3, 1) := by decide +kernel
theorem dL_law_601 : decode cL_law 601 = .ok (.iconst 1, 1) := by decide +kernel
theorem dL_law_602 : decode cL_law 602 = .ok (.iadd, 1) := by decide +kernel
theorem dL_law_603 : decode cL_law 603 = .ok (.iaload, 1) := by decide +kernel
theorem dL_law_604 : decode cL_law 604 = .ok (.invokevirtual 77, 3) := by decide +kernel
theorem dL_law_607 : decode cL_law 607 = .ok (.aload_n 2, 1) := by decide +kernel
theorem dL_law_608 : decode cL_law 608 = .ok (.aload_n 0, 1) := by decide +kernel
theorem dL_law_609 : decode cL_law 609 = .ok (.iload_n 3, 1) := by decide +kernel
theorem dL_law_610 : decode cL_law 610 = .ok (.iconst 1, 1) := by decide +kernel
theorem dL_law_611 : decode cL_law 611 = .ok (.iadd, 1) := by decide +kernel
theorem dL_law_612 : decode cL_law 612 = .ok (.iaload, 1) := by decide +kernel
theorem dL_law_613 : decode cL_law 613 = .ok (.invokevirtual 80, 3) := by decide +kernel
theorem dL_law_616 : decode cL_law 616 = .ok (.if_icmp .eq 386, 3) := by decide +kernel
theorem dL_law_619 : decode cL_law 619 = .ok (.iconst 0, 1) := by decide +kernel
theorem dL_law_620 : decode cL_law 620 = .ok (.ireturn, 1) := by decide +kernel
theorem dL_law_621 : decode cL_law 621 = .ok (.aload_n 1, 1) := by decide +kernel
theorem dL_law_622 : decode cL_law 622 = .ok (.invokevirtual 81, 3) := by decide +kernel
theorem dL_law_625 : decode cL_law 625 = .ok (.aload_n 2, 1) := by decide +kernel
theorem dL_law_626 : decode cL_law 626 = .ok (.invokevirtual 84, 3) := by decide +kernel
theorem dL_law_629 : decode cL_law 629 = .ok (.if_icmp .eq 373, 3) := by decide +kernel
theorem dL_law_632 : decode cL_law 632 = .ok (.iconst 0, 1) := by decide +kernel
theorem dL_law_633 : decode cL_law 633 = .ok (.ireturn, 1) := by decide +kernel
theorem dL_law_634 : decode cL_law 634 = .ok (.aload_n 1, 1) := by decide +kernel
theorem dL_law_635 : decode cL_law 635 = .ok (.invokevirtual 85, 3) := by decide +kernel
theorem dL_law_638 : decode cL_law 638 = .ok (.aload_n 2, 1) := by decide +kernel
theorem dL_law_639 : decode cL_law 639 = .ok (.invokevirtual 88, 3) := by decide +kernel
theorem dL_law_642 : decode cL_law 642 = .ok (.if_icmp .eq 360, 3) := by decide +kernel
theorem dL_law_645 : decode cL_law 645 = .ok (.iconst 0, 1) := by decide +kernel
theorem dL_law_646 : decode cL_law 646 = .ok (.ireturn, 1) := by decide +kernel
theorem dL_law_647 : decode cL_law 647 = .ok (.aload_n 1, 1) := by decide +kernel
theorem dL_law_648 : decode cL_law 648 = .ok (.aload_n 0, 1) := by decide +kernel
theorem dL_law_649 : decode cL_law 649 = .ok (.iload_n 3, 1) := by decide +kernel
theorem dL_law_650 : decode cL_law 650 = .ok (.iconst 1, 1) := by decide +kernel
theorem dL_law_651 : decode cL_law 651 = .ok (.iadd, 1) := by decide +kernel
theorem dL_law_652 : decode cL_law 652 = .ok (.iaload, 1) := by decide +kernel
theorem dL_law_653 : decode cL_law 653 = .ok (.invokevirtual 89, 3) := by decide +kernel
theorem dL_law_656 : decode cL_law 656 = .ok (.aload_n 2, 1) := by decide +kernel
theorem dL_law_657 : decode cL_law 657 = .ok (.aload_n 0, 1) := by decide +kernel
theorem dL_law_658 : decode cL_law 658 = .ok (.iload_n 3, 1) := by decide +kernel
theorem dL_law_659 : decode cL_law 659 = .ok (.iconst 1, 1) := by decide +kernel
theorem dL_law_660 : decode cL_law 660 = .ok (.iadd, 1) := by decide +kernel
theorem dL_law_661 : decode cL_law 661 = .ok (.iaload, 1) := by decide +kernel
theorem dL_law_662 : decode cL_law 662 = .ok (.invokevirtual 92, 3) := by decide +kernel
theorem dL_law_665 : decode cL_law 665 = .ok (.if_icmp .eq 337, 3) := by decide +kernel
theorem dL_law_668 : decode cL_law 668 = .ok (.iconst 0, 1) := by decide +kernel
theorem dL_law_669 : decode cL_law 669 = .ok (.ireturn, 1) := by decide +kernel
theorem dL_law_670 : decode cL_law 670 = .ok (.aload_n 1, 1) := by decide +kernel
theorem dL_law_671 : decode cL_law 671 = .ok (.aload_n 0, 1) := by decide +kernel
theorem dL_law_672 : decode cL_law 672 = .ok (.iload_n 3, 1) := by decide +kernel
theorem dL_law_673 : decode cL_law 673 = .ok (.iconst 1, 1) := by decide +kernel
theorem dL_law_674 : decode cL_law 674 = .ok (.iadd, 1) := by decide +kernel
theorem dL_law_675 : decode cL_law 675 = .ok (.iaload, 1) := by decide +kernel
theorem dL_law_676 : decode cL_law 676 = .ok (.invokevirtual 93, 3) := by decide +kernel
theorem dL_law_679 : decode cL_law 679 = .ok (.aload_n 2, 1) := by decide +kernel
theorem dL_law_680 : decode cL_law 680 = .ok (.aload_n 0, 1) := by decide +kernel
theorem dL_law_681 : decode cL_law 681 = .ok (.iload_n 3, 1) := by decide +kernel
theorem dL_law_682 : decode cL_law 682 = .ok (.iconst 1, 1) := by decide +kernel
theorem dL_law_683 : decode cL_law 683 = .ok (.iadd, 1) := by decide +kernel
theorem dL_law_684 : decode cL_law 684 = .ok (.iaload, 1) := by decide +kernel
theorem dL_law_685 : decode cL_law 685 = .ok (.invokevirtual 96, 3) := by decide +kernel
theorem dL_law_688 : decode cL_law 688 = .ok (.if_icmp .eq 314, 3) := by decide +kernel
theorem dL_law_691 : decode cL_law 691 = .ok (.iconst 0, 1) := by decide +kernel
theorem dL_law_692 : decode cL_law 692 = .ok (.ireturn, 1) := by decide +kernel
theorem dL_law_693 : decode cL_law 693 = .ok (.aload_n 1, 1) := by decide +kernel
theorem dL_law_694 : decode cL_law 694 = .ok (.aload_n 0, 1) := by decide +kernel
theorem dL_law_695 : decode cL_law 695 = .ok (.iload_n 3, 1) := by decide +kernel
theorem dL_law_696 : decode cL_law 696 = .ok (.iconst 1, 1) := by decide +kernel
theorem dL_law_697 : decode cL_law 697 = .ok (.iadd, 1) := by decide +kernel
theorem dL_law_698 : decode cL_law 698 = .ok (.iaload, 1) := by decide +kernel
theorem dL_law_699 : decode cL_law 699 = .ok (.aload_n 0, 1) := by decide +kernel
theorem dL_law_700 : decode cL_law 700 = .ok (.iload_n 3, 1) := by decide +kernel
theorem dL_law_701 : decode cL_law 701 = .ok (.iconst 2, 1) := by decide +kernel
theorem dL_law_702 : decode cL_law 702 = .ok (.iadd, 1) := by decide +kernel
theorem dL_law_703 : decode cL_law 703 = .ok (.iaload, 1) := by decide +kernel
theorem dL_law_704 : decode cL_law 704 = .ok (.invokevirtual 97, 3) := by decide +kernel
theorem dL_law_707 : decode cL_law 707 = .ok (.aload_n 2, 1) := by decide +kernel
theorem dL_law_708 : decode cL_law 708 = .ok (.aload_n 0, 1) := by decide +kernel
theorem dL_law_709 : decode cL_law 709 = .ok (.iload_n 3, 1) := by decide +kernel
theorem dL_law_710 : decode cL_law 710 = .ok (.iconst 1, 1) := by decide +kernel
theorem dL_law_711 : decode cL_law 711 = .ok (.iadd, 1) := by decide +kernel
theorem dL_law_712 : decode cL_law 712 = .ok (.iaload, 1) := by decide +kernel
theorem dL_law_713 : decode cL_law 713 = .ok (.aload_n 0, 1) := by decide +kernel
theorem dL_law_714 : decode cL_law 714 = .ok (.iload_n 3, 1) := by decide +kernel
theorem dL_law_715 : decode cL_law 715 = .ok (.iconst 2, 1) := by decide +kernel
theorem dL_law_716 : decode cL_law 716 = .ok (.iadd, 1) := by decide +kernel
theorem dL_law_717 : decode cL_law 717 = .ok (.iaload, 1) := by decide +kernel
theorem dL_law_718 : decode cL_law 718 = .ok (.invokevirtual 100, 3) := by decide +kernel
theorem dL_law_721 : decode cL_law 721 = .ok (.if_icmp .eq 281, 3) := by decide +kernel
theorem dL_law_724 : decode cL_law 724 = .ok (.iconst 0, 1) := by decide +kernel
theorem dL_law_725 : decode cL_law 725 = .ok (.ireturn, 1) := by decide +kernel
theorem dL_law_726 : decode cL_law 726 = .ok (.aload_n 1, 1) := by decide +kernel
theorem dL_law_727 : decode cL_law 727 = .ok (.aload_n 0, 1) := by decide +kernel
theorem dL_law_728 : decode cL_law 728 = .ok (.iload_n 3, 1) := by decide +kernel
theorem dL_law_729 : decode cL_law 729 = .ok (.iconst 1, 1) := by decide +kernel
theorem dL_law_730 : decode cL_law 730 = .ok (.iadd, 1) := by decide +kernel
theorem dL_law_731 : decode cL_law 731 = .ok (.iaload, 1) := by decide +kernel
theorem dL_law_732 : decode cL_law 732 = .ok (.invokevirtual 101, 3) := by decide +kernel
theorem dL_law_735 : decode cL_law 735 = .ok (.aload_n 2, 1) := by decide +kernel
theorem dL_law_736 : decode cL_law 736 = .ok (.aload_n 0, 1) := by decide +kernel
theorem dL_law_737 : decode cL_law 737 = .ok (.iload_n 3, 1) := by decide +kernel
theorem dL_law_738 : decode cL_law 738 = .ok (.iconst 1, 1) := by decide +kernel
theorem dL_law_739 : decode cL_law 739 = .ok (.iadd, 1) := by decide +kernel
theorem dL_law_740 : decode cL_law 740 = .ok (.iaload, 1) := by decide +kernel
theorem dL_law_741 : decode cL_law 741 = .ok (.invokevirtual 104, 3) := by decide +kernel
theorem dL_law_744 : decode cL_law 744 = .ok (.if_icmp .eq 258, 3) := by decide +kernel
theorem dL_law_747 : decode cL_law 747 = .ok (.iconst 0, 1) := by decide +kernel
theorem dL_law_748 : decode cL_law 748 = .ok (.ireturn, 1) := by decide +kernel
theorem dL_law_749 : decode cL_law 749 = .ok (.aload_n 1, 1) := by decide +kernel
theorem dL_law_750 : decode cL_law 750 = .ok (.invokevirtual 105, 3) := by decide +kernel
theorem dL_law_753 : decode cL_law 753 = .ok (.aload_n 2, 1) := by decide +kernel
theorem dL_law_754 : decode cL_law 754 = .ok (.invokevirtual 108, 3) := by decide +kernel
theorem dL_law_757 : decode cL_law 757 = .ok (.if_icmp .eq 245, 3) := by decide +kernel
theorem dL_law_760 : decode cL_law 760 = .ok (.iconst 0, 1) := by decide +kernel
theorem dL_law_761 : decode cL_law 761 = .ok (.ireturn, 1) := by decide +kernel
theorem dL_law_762 : decode cL_law 762 = .ok (.aload_n 1, 1) := by decide +kernel
theorem dL_law_763 : decode cL_law 763 = .ok (.invokevirtual 109, 3) := by decide +kernel
theorem dL_law_766 : decode cL_law 766 = .ok (.aload_n 2, 1) := by decide +kernel
theorem dL_law_767 : decode cL_law 767 = .ok (.invokevirtual 112, 3) := by decide +kernel
theorem dL_law_770 : decode cL_law 770 = .ok (.if_icmp .eq 232, 3) := by decide +kernel
theorem dL_law_773 : decode cL_law 773 = .ok (.iconst 0, 1) := by decide +kernel
theorem dL_law_774 : decode cL_law 774 = .ok (.ireturn, 1) := by decide +kernel
theorem dL_law_775 : decode cL_law 775 = .ok (.aload_n 1, 1) := by decide +kernel
theorem dL_law_776 : decode cL_law 776 = .ok (.aload_n 0, 1) := by decide +kernel
theorem dL_law_777 : decode cL_law 777 = .ok (.iload_n 3, 1) := by decide +kernel
theorem dL_law_778 : decode cL_law 778 = .ok (.iconst 1, 1) := by decide +kernel
theorem dL_law_779 : decode cL_law 779 = .ok (.iadd, 1) := by decide +kernel
theorem dL_law_780 : decode cL_law 780 = .ok (.iaload, 1) := by decide +kernel
theorem dL_law_781 : decode cL_law 781 = .ok (.invokevirtual 113, 3) := by decide +kernel
theorem dL_law_784 : decode cL_law 784 = .ok (.aload_n 2, 1) := by decide +kernel
theorem dL_law_785 : decode cL_law 785 = .ok (.aload_n 0, 1) := by decide +kernel
theorem dL_law_786 : decode cL_law 786 = .ok (.iload_n 3, 1) := by decide +kernel
theorem dL_law_787 : decode cL_law 787 = .ok (.iconst 1, 1) := by decide +kernel
theorem dL_law_788 : decode cL_law 788 = .ok (.iadd, 1) := by decide +kernel
theorem dL_law_789 : decode cL_law 789 = .ok (.iaload, 1) := by decide +kernel
theorem dL_law_790 : decode cL_law 790 = .ok (.invokevirtual 116, 3) := by decide +kernel
theorem dL_law_793 : decode cL_law 793 = .ok (.if_icmp .eq 209, 3) := by decide +kernel
theorem dL_law_796 : decode cL_law 796 = .ok (.iconst 0, 1) := by decide +kernel
theorem dL_law_797 : decode cL_law 797 = .ok (.ireturn, 1) := by decide +kernel
theorem dL_law_798 : decode cL_law 798 = .ok (.aload_n 1, 1) := by decide +kernel
theorem dL_law_799 : decode cL_law 799 = .ok (.aload_n 0, 1) := by decide +kernel
theorem dL_law_800 : decode cL_law 800 = .ok (.iload_n 3, 1) := by decide +kernel
theorem dL_law_801 : decode cL_law 801 = .ok (.iconst 1, 1) := by decide +kernel
theorem dL_law_802 : decode cL_law 802 = .ok (.iadd, 1) := by decide +kernel
theorem dL_law_803 : decode cL_law 803 = .ok (.iaload, 1) := by decide +kernel
theorem dL_law_804 : decode cL_law 804 = .ok (.invokevirtual 117, 3) := by decide +kernel
theorem dL_law_807 : decode cL_law 807 = .ok (.aload_n 2, 1) := by decide +kernel
theorem dL_law_808 : decode cL_law 808 = .ok (.aload_n 0, 1) := by decide +kernel
theorem dL_law_809 : decode cL_law 809 = .ok (.iload_n 3, 1) := by decide +kernel
theorem dL_law_810 : decode cL_law 810 = .ok (.iconst 1, 1) := by decide +kernel
theorem dL_law_811 : decode cL_law 811 = .ok (.iadd, 1) := by decide +kernel
theorem dL_law_812 : decode cL_law 812 = .ok (.iaload, 1) := by decide +kernel
theorem dL_law_813 : decode cL_law 813 = .ok (.invokevirtual 120, 3) := by decide +kernel
theorem dL_law_816 : decode cL_law 816 = .ok (.if_icmp .eq 186, 3) := by decide +kernel
theorem dL_law_819 : decode cL_law 819 = .ok (.iconst 0, 1) := by decide +kernel
theorem dL_law_820 : decode cL_law 820 = .ok (.ireturn, 1) := by decide +kernel
theorem dL_law_821 : decode cL_law 821 = .ok (.aload_n 1, 1) := by decide +kernel
theorem dL_law_822 : decode cL_law 822 = .ok (.aload_n 0, 1) := by decide +kernel
theorem dL_law_823 : decode cL_law 823 = .ok (.iload_n 3, 1) := by decide +kernel
theorem dL_law_824 : decode cL_law 824 = .ok (.iconst 1, 1) := by decide +kernel
theorem dL_law_825 : decode cL_law 825 = .ok (.iadd, 1) := by decide +kernel
theorem dL_law_826 : decode cL_law 826 = .ok (.iaload, 1) := by decide +kernel
theorem dL_law_827 : decode cL_law 827 = .ok (.aload_n 0, 1) := by decide +kernel
theorem dL_law_828 : decode cL_law 828 = .ok (.iload_n 3, 1) := by decide +kernel
theorem dL_law_829 : decode cL_law 829 = .ok (.iconst 2, 1) := by decide +kernel
theorem dL_law_830 : decode cL_law 830 = .ok (.iadd, 1) := by decide +kernel
theorem dL_law_831 : decode cL_law 831 = .ok (.iaload, 1) := by decide +kernel
theorem dL_law_832 : decode cL_law 832 = .ok (.invokevirtual 121, 3) := by decide +kernel
theorem dL_law_835 : decode cL_law 835 = .ok (.aload_n 2, 1) := by decide +kernel
theorem dL_law_836 : decode cL_law 836 = .ok (.aload_n 0, 1) := by decide +kernel
theorem dL_law_837 : decode cL_law 837 = .ok (.iload_n 3, 1) := by decide +kernel
theorem dL_law_838 : decode cL_law 838 = .ok (.iconst 1, 1) := by decide +kernel
theorem dL_law_839 : decode cL_law 839 = .ok (.iadd, 1) := by decide +kernel
theorem dL_law_840 : decode cL_law 840 = .ok (.iaload, 1) := by decide +kernel
theorem dL_law_841 : decode cL_law 841 = .ok (.aload_n 0, 1) := by decide +kernel
theorem dL_law_842 : decode cL_law 842 = .ok (.iload_n 3, 1) := by decide +kernel
theorem dL_law_843 : decode cL_law 843 = .ok (.iconst 2, 1) := by decide +kernel
theorem dL_law_844 : decode cL_law 844 = .ok (.iadd, 1) := by decide +kernel
theorem dL_law_845 : decode cL_law 845 = .ok (.iaload, 1) := by decide +kernel
theorem dL_law_846 : decode cL_law 846 = .ok (.invokevirtual 124, 3) := by decide +kernel
theorem dL_law_849 : decode cL_law 849 = .ok (.if_icmp .eq 153, 3) := by decide +kernel
theorem dL_law_852 : decode cL_law 852 = .ok (.iconst 0, 1) := by decide +kernel
theorem dL_law_853 : decode cL_law 853 = .ok (.ireturn, 1) := by decide +kernel
theorem dL_law_854 : decode cL_law 854 = .ok (.aload_n 1, 1) := by decide +kernel
theorem dL_law_855 : decode cL_law 855 = .ok (.aload_n 0, 1) := by decide +kernel
theorem dL_law_856 : decode cL_law 856 = .ok (.iload_n 3, 1) := by decide +kernel
theorem dL_law_857 : decode cL_law 857 = .ok (.iconst 1, 1) := by decide +kernel
theorem dL_law_858 : decode cL_law 858 = .ok (.iadd, 1) := by decide +kernel
theorem dL_law_859 : decode cL_law 859 = .ok (.iaload, 1) := by decide +kernel
theorem dL_law_860 : decode cL_law 860 = .ok (.aload_n 0, 1) := by decide +kernel
theorem dL_law_861 : decode cL_law 861 = .ok (.iload_n 3, 1) := by decide +kernel
theorem dL_law_862 : decode cL_law 862 = .ok (.iconst 2, 1) := by decide +kernel
theorem dL_law_863 : decode cL_law 863 = .ok (.iadd, 1) := by decide +kernel
theorem dL_law_864 : decode cL_law 864 = .ok (.iaload, 1) := by decide +kernel
theorem dL_law_865 : decode cL_law 865 = .ok (.invokevirtual 125, 3) := by decide +kernel
theorem dL_law_868 : decode cL_law 868 = .ok (.aload_n 2, 1) := by decide +kernel
theorem dL_law_869 : decode cL_law 869 = .ok (.aload_n 0, 1) := by decide +kernel
theorem dL_law_870 : decode cL_law 870 = .ok (.iload_n 3, 1) := by decide +kernel
theorem dL_law_871 : decode cL_law 871 = .ok (.iconst 1, 1) := by decide +kernel
theorem dL_law_872 : decode cL_law 872 = .ok (.iadd, 1) := by decide +kernel
theorem dL_law_873 : decode cL_law 873 = .ok (.iaload, 1) := by decide +kernel
theorem dL_law_874 : decode cL_law 874 = .ok (.aload_n 0, 1) := by decide +kernel
theorem dL_law_875 : decode cL_law 875 = .ok (.iload_n 3, 1) := by decide +kernel
theorem dL_law_876 : decode cL_law 876 = .ok (.iconst 2, 1) := by decide +kernel
theorem dL_law_877 : decode cL_law 877 = .ok (.iadd, 1) := by decide +kernel
theorem dL_law_878 : decode cL_law 878 = .ok (.iaload, 1) := by decide +kernel
theorem dL_law_879 : decode cL_law 879 = .ok (.invokevirtual 128, 3) := by decide +kernel
theorem dL_law_882 : decode cL_law 882 = .ok (.if_icmp .eq 120, 3) := by decide +kernel
theorem dL_law_885 : decode cL_law 885 = .ok (.iconst 0, 1) := by decide +kernel
theorem dL_law_886 : decode cL_law 886 = .ok (.ireturn, 1) := by decide +kernel
theorem dL_law_887 : decode cL_law 887 = .ok (.aload_n 1, 1) := by decide +kernel
theorem dL_law_888 : decode cL_law 888 = .ok (.aload_n 0, 1) := by decide +kernel
theorem dL_law_889 : decode cL_law 889 = .ok (.iload_n 3, 1) := by decide +kernel
theorem dL_law_890 : decode cL_law 890 = .ok (.iconst 1, 1) := by decide +kernel
theorem dL_law_891 : decode cL_law 891 = .ok (.iadd, 1) := by decide +kernel
theorem dL_law_892 : decode cL_law 892 = .ok (.iaload, 1) := by decide +kernel
theorem dL_law_893 : decode cL_law 893 = .ok (.invokevirtual 129, 3) := by decide +kernel
theorem dL_law_896 : decode cL_law 896 = .ok (.aload_n 2, 1) := by decide +kernel
theorem dL_law_897 : decode cL_law 897 = .ok (.aload_n 0, 1) := by decide +kernel
theorem dL_law_898 : decode cL_law 898 = .ok (.iload_n 3, 1) := by decide +kernel
theorem dL_law_899 : decode cL_law 899 = .ok (.iconst 1, 1) := by decide +kernel
theorem dL_law_900 : decode cL_law 900 = .ok (.iadd, 1) := by decide +kernel
theorem dL_law_901 : decode cL_law 901 = .ok (.iaload, 1) := by decide +kernel
theorem dL_law_902 : decode cL_law 902 = .ok (.invokevirtual 132, 3) := by decide +kernel
theorem dL_law_905 : decode cL_law 905 = .ok (.if_icmp .eq 97, 3) := by decide +kernel
theorem dL_law_908 : decode cL_law 908 = .ok (.iconst 0, 1) := by decide +kernel
theorem dL_law_909 : decode cL_law 909 = .ok (.ireturn, 1) := by decide +kernel
theorem dL_law_910 : decode cL_law 910 = .ok (.aload_n 1, 1) := by decide +kernel
theorem dL_law_911 : decode cL_law 911 = .ok (.aload_n 0, 1) := by decide +kernel
theorem dL_law_912 : decode cL_law 912 = .ok (.iload_n 3, 1) := by decide +kernel
theorem dL_law_913 : decode cL_law 913 = .ok (.iconst 1, 1) := by decide +kernel
theorem dL_law_914 : decode cL_law 914 = .ok (.iadd, 1) := by decide +kernel
theorem dL_law_915 : decode cL_law 915 = .ok (.iaload, 1) := by decide +kernel
theorem dL_law_916 : decode cL_law 916 = .ok (.invokevirtual 133, 3) := by decide +kernel
theorem dL_law_919 : decode cL_law 919 = .ok (.aload_n 2, 1) := by decide +kernel
theorem dL_law_920 : decode cL_law 920 = .ok (.aload_n 0, 1) := by decide +kernel
theorem dL_law_921 : decode cL_law 921 = .ok (.iload_n 3, 1) := by decide +kernel
theorem dL_law_922 : decode cL_law 922 = .ok (.iconst 1, 1) := by decide +kernel
theorem dL_law_923 : decode cL_law 923 = .ok (.iadd, 1) := by decide +kernel
theorem dL_law_924 : decode cL_law 924 = .ok (.iaload, 1) := by decide +kernel
theorem dL_law_925 : decode cL_law 925 = .ok (.invokevirtual 136, 3) := by decide +kernel
theorem dL_law_928 : decode cL_law 928 = .ok (.if_icmp .eq 74, 3) := by decide +kernel
theorem dL_law_931 : decode cL_law 931 = .ok (.iconst 0, 1) := by decide +kernel
theorem dL_law_932 : decode cL_law 932 = .ok (.ireturn, 1) := by decide +kernel
theorem dL_law_933 : decode cL_law 933 = .ok (.aload_n 1, 1) := by decide +kernel
theorem dL_law_934 : decode cL_law 934 = .ok (.aload_n 0, 1) := by decide +kernel
theorem dL_law_935 : decode cL_law 935 = .ok (.iload_n 3, 1) := by decide +kernel
theorem dL_law_936 : decode cL_law 936 = .ok (.iconst 1, 1) := by decide +kernel
theorem dL_law_937 : decode cL_law 937 = .ok (.iadd, 1) := by decide +kernel
theorem dL_law_938 : decode cL_law 938 = .ok (.iaload, 1) := by decide +kernel
theorem dL_law_939 : decode cL_law 939 = .ok (.invokevirtual 137, 3) := by decide +kernel
theorem dL_law_942 : decode cL_law 942 = .ok (.aload_n 2, 1) := by decide +kernel
theorem dL_law_943 : decode cL_law 943 = .ok (.aload_n 0, 1) := by decide +kernel
theorem dL_law_944 : decode cL_law 944 = .ok (.iload_n 3, 1) := by decide +kernel
theorem dL_law_945 : decode cL_law 945 = .ok (.iconst 1, 1) := by decide +kernel
theorem dL_law_946 : decode cL_law 946 = .ok (.iadd, 1) := by decide +kernel
theorem dL_law_947 : decode cL_law 947 = .ok (.iaload, 1) := by decide +kernel
theorem dL_law_948 : decode cL_law 948 = .ok (.invokevirtual 140, 3) := by decide +kernel
theorem dL_law_951 : decode cL_law 951 = .ok (.if_icmp .eq 51, 3) := by decide +kernel
theorem dL_law_954 : decode cL_law 954 = .ok (.iconst 0, 1) := by decide +kernel
theorem dL_law_955 : decode cL_law 955 = .ok (.ireturn, 1) := by decide +kernel
theorem dL_law_956 : decode cL_law 956 = .ok (.aload_n 1, 1) := by decide +kernel
theorem dL_law_957 : decode cL_law 957 = .ok (.aload_n 0, 1) := by decide +kernel
theorem dL_law_958 : decode cL_law 958 = .ok (.iload_n 3, 1) := by decide +kernel
theorem dL_law_959 : decode cL_law 959 = .ok (.iconst 1, 1) := by decide +kernel
theorem dL_law_960 : decode cL_law 960 = .ok (.iadd, 1) := by decide +kernel
theorem dL_law_961 : decode cL_law 961 = .ok (.iaload, 1) := by decide +kernel
theorem dL_law_962 : decode cL_law 962 = .ok (.invokevirtual 141, 3) := by decide +kernel
theorem dL_law_965 : decode cL_law 965 = .ok (.aload_n 2, 1) := by decide +kernel
theorem dL_law_966 : decode cL_law 966 = .ok (.aload_n 0, 1) := by decide +kernel
theorem dL_law_967 : decode cL_law 967 = .ok (.iload_n 3, 1) := by decide +kernel
theorem dL_law_968 : decode cL_law 968 = .ok (.iconst 1, 1) := by decide +kernel
theorem dL_law_969 : decode cL_law 969 = .ok (.iadd, 1) := by decide +kernel
theorem dL_law_970 : decode cL_law 970 = .ok (.iaload, 1) := by decide +kernel
theorem dL_law_971 : decode cL_law 971 = .ok (.invokevirtual 144, 3) := by decide +kernel
theorem dL_law_974 : decode cL_law 974 = .ok (.if_icmp .eq 28, 3) := by decide +kernel
theorem dL_law_977 : decode cL_law 977 = .ok (.iconst 0, 1) := by decide +kernel
theorem dL_law_978 : decode cL_law 978 = .ok (.ireturn, 1) := by decide +kernel
theorem dL_law_979 : decode cL_law 979 = .ok (.aload_n 1, 1) := by decide +kernel
theorem dL_law_980 : decode cL_law 980 = .ok (.aload_n 0, 1) := by decide +kernel
theorem dL_law_981 : decode cL_law 981 = .ok (.iload_n 3, 1) := by decide +kernel
theorem dL_law_982 : decode cL_law 982 = .ok (.iconst 1, 1) := by decide +kernel
theorem dL_law_983 : decode cL_law 983 = .ok (.iadd, 1) := by decide +kernel
theorem dL_law_984 : decode cL_law 984 = .ok (.iaload, 1) := by decide +kernel
theorem dL_law_985 : decode cL_law 985 = .ok (.invokevirtual 145, 3) := by decide +kernel
theorem dL_law_988 : decode cL_law 988 = .ok (.aload_n 2, 1) := by decide +kernel
theorem dL_law_989 : decode cL_law 989 = .ok (.aload_n 0, 1) := by decide +kernel
theorem dL_law_990 : decode cL_law 990 = .ok (.iload_n 3, 1) := by decide +kernel
theorem dL_law_991 : decode cL_law 991 = .ok (.iconst 1, 1) := by decide +kernel
theorem dL_law_992 : decode cL_law 992 = .ok (.iadd, 1) := by decide +kernel
theorem dL_law_993 : decode cL_law 993 = .ok (.iaload, 1) := by decide +kernel
theorem dL_law_994 : decode cL_law 994 = .ok (.invokevirtual 148, 3) := by decide +kernel
theorem dL_law_997 : decode cL_law 997 = .ok (.if_icmp .eq 5, 3) := by decide +kernel
theorem dL_law_1000 : decode cL_law 1000 = .ok (.iconst 0, 1) := by decide +kernel
theorem dL_law_1001 : decode cL_law 1001 = .ok (.ireturn, 1) := by decide +kernel
theorem dL_law_1002 : decode cL_law 1002 = .ok (.iinc 3 5, 3) := by decide +kernel
theorem dL_law_1005 : decode cL_law 1005 = .ok (.goto (-987), 3) := by decide +kernel
theorem dL_law_1008 : decode cL_law 1008 = .ok (.iconst 1, 1) := by decide +kernel
theorem dL_law_1009 : decode cL_law 1009 = .ok (.ireturn, 1) := by decide +kernel
end
section
theorem dX6_init_0 : decode cX6_init 0 = .ok (.aload_n 0, 1) := by decide +kernel
theorem dX6_init_1 : decode cX6_init 1 = .ok (.invokespecial 1, 3) := by decide +kernel
theorem dX6_init_4 : decode cX6_init 4 = .ok (.aload_n 0, 1) := by decide +kernel
theorem dX6_init_5 : decode cX6_init 5 = .ok (.sipush 4128, 3) := by decide +kernel
theorem dX6_init_8 : decode cX6_init 8 = .ok (.newarray .int, 2) := by decide +kernel
theorem dX6_init_10 : decode cX6_init 10 = .ok (.putfield 7, 3) := by decide +kernel
theorem dX6_init_13 : decode cX6_init 13 = .ok (.aload_n 0, 1) := by decide +kernel
theorem dX6_init_14 : decode cX6_init 14 = .ok (.iconst 2, 1) := by decide +kernel
theorem dX6_init_15 : decode cX6_init 15 = .ok (.newarray .boolean, 2) := by decide +kernel
theorem dX6_init_17 : decode cX6_init 17 = .ok (.putfield 13, 3) := by decide +kernel
theorem dX6_init_20 : decode cX6_init 20 = .ok (.aload_n 0, 1) := by decide +kernel
theorem dX6_init_21 : decode cX6_init 21 = .ok (.sipush 1376, 3) := by decide +kernel
theorem dX6_init_24 : decode cX6_init 24 = .ok (.newarray .int, 2) := by decide +kernel
theorem dX6_init_26 : decode cX6_init 26 = .ok (.putfield 17, 3) := by decide +kernel
theorem dX6_init_29 : decode cX6_init 29 = .ok (.aload_n 0, 1) := by decide +kernel
theorem dX6_init_30 : decode cX6_init 30 = .ok (.sipush 600, 3) := by decide +kernel
theorem dX6_init_33 : decode cX6_init 33 = .ok (.newarray .int, 2) := by decide +kernel
theorem dX6_init_35 : decode cX6_init 35 = .ok (.putfield 20, 3) := by decide +kernel
theorem dX6_init_38 : decode cX6_init 38 = .ok (.aload_n 0, 1) := by decide +kernel
theorem dX6_init_39 : decode cX6_init 39 = .ok (.iconst (-1), 1) := by decide +kernel
theorem dX6_init_40 : decode cX6_init 40 = .ok (.putfield 23, 3) := by decide +kernel
theorem dX6_init_43 : decode cX6_init 43 = .ok (.aload_n 0, 1) := by decide +kernel
theorem dX6_init_44 : decode cX6_init 44 = .ok (.sipush 200, 3) := by decide +kernel
theorem dX6_init_47 : decode cX6_init 47 = .ok (.newarray .int, 2) := by decide +kernel
theorem dX6_init_49 : decode cX6_init 49 = .ok (.putfield 27, 3) := by decide +kernel
theorem dX6_init_52 : decode cX6_init 52 = .ok (.aload_n 0, 1) := by decide +kernel
theorem dX6_init_53 : decode cX6_init 53 = .ok (.sipush 200, 3) := by decide +kernel
theorem dX6_init_56 : decode cX6_init 56 = .ok (.newarray .int, 2) := by decide +kernel
theorem dX6_init_58 : decode cX6_init 58 = .ok (.putfield 30, 3) := by decide +kernel
theorem dX6_init_61 : decode cX6_init 61 = .ok (.aload_n 0, 1) := by decide +kernel
theorem dX6_init_62 : decode cX6_init 62 = .ok (.iconst (-1), 1) := by decide +kernel
theorem dX6_init_63 : decode cX6_init 63 = .ok (.putfield 33, 3) := by decide +kernel
theorem dX6_init_66 : decode cX6_init 66 = .ok (.aload_n 0, 1) := by decide +kernel
theorem dX6_init_67 : decode cX6_init 67 = .ok (.iconst (-1), 1) := by decide +kernel
theorem dX6_init_68 : decode cX6_init 68 = .ok (.putfield 36, 3) := by decide +kernel
theorem dX6_init_71 : decode cX6_init 71 = .ok (.aload_n 0, 1) := by decide +kernel
theorem dX6_init_72 : decode cX6_init 72 = .ok (.ldc 39, 2) := by decide +kernel
theorem dX6_init_74 : decode cX6_init 74 = .ok (.newarray .int, 2) := by decide +kernel
theorem dX6_init_76 : decode cX6_init 76 = .ok (.putfield 40, 3) := by decide +kernel
theorem dX6_init_79 : decode cX6_init 79 = .ok (.aload_n 0, 1) := by decide +kernel
theorem dX6_init_80 : decode cX6_init 80 = .ok (.ldc 39, 2) := by decide +kernel
theorem dX6_init_82 : decode cX6_init 82 = .ok (.newarray .int, 2) := by decide +kernel
theorem dX6_init_84 : decode cX6_init 84 = .ok (.putfield 43, 3) := by decide +kernel
theorem dX6_init_87 : decode cX6_init 87 = .ok (.aload_n 0, 1) := by decide +kernel
theorem dX6_init_88 : decode cX6_init 88 = .ok (.bipush 60, 2) := by decide +kernel
theorem dX6_init_90 : decode cX6_init 90 = .ok (.newarray .int, 2) := by decide +kernel
theorem dX6_init_92 : decode cX6_init 92 = .ok (.putfield 46, 3) := by decide +kernel
theorem dX6_init_95 : decode cX6_init 95 = .ok (.aload_n 0, 1) := by decide +kernel
theorem dX6_init_96 : decode cX6_init 96 = .ok (.ldc 39, 2) := by decide +kernel
theorem dX6_init_98 : decode cX6_init 98 = .ok (.newarray .int, 2) := by decide +kernel
theorem dX6_init_100 : decode cX6_init 100 = .ok (.putfield 49, 3) := by decide +kernel
theorem dX6_init_103 : decode cX6_init 103 = .ok (.aload_n 0, 1) := by decide +kernel
theorem dX6_init_104 : decode cX6_init 104 = .ok (.ldc 39, 2) := by decide +kernel
theorem dX6_init_106 : decode cX6_init 106 = .ok (.newarray .int, 2) := by decide +kernel
theorem dX6_init_108 : decode cX6_init 108 = .ok (.putfield 52, 3) := by decide +kernel
theorem dX6_init_111 : decode cX6_init 111 = .ok (.aload_n 0, 1) := by decide +kernel
theorem dX6_init_112 : decode cX6_init 112 = .ok (.ldc 39, 2) := by decide +kernel
theorem dX6_init_114 : decode cX6_init 114 = .ok (.newarray .boolean, 2) := by decide +kernel
theorem dX6_init_116 : decode cX6_init 116 = .ok (.putfield 55, 3) := by decide +kernel
theorem dX6_init_119 : decode cX6_init 119 = .ok (.aload_n 0, 1) := by decide +kernel
theorem dX6_init_120 : decode cX6_init 120 = .ok (.ldc 39, 2) := by decide +kernel
theorem dX6_init_122 : decode cX6_init 122 = .ok (.newarray .boolean, 2) := by decide +kernel
theorem dX6_init_124 : decode cX6_init 124 = .ok (.putfield 58, 3) := by decide +kernel
theorem dX6_init_127 : decode cX6_init 127 = .ok (.aload_n 0, 1) := by decide +kernel
theorem dX6_init_128 : decode cX6_init 128 = .ok (.bipush 24, 2) := by decide +kernel
theorem dX6_init_130 : decode cX6_init 130 = .ok (.newarray .int, 2) := by decide +kernel
theorem dX6_init_132 : decode cX6_init 132 = .ok (.putfield 61, 3) := by decide +kernel
theorem dX6_init_135 : decode cX6_init 135 = .ok (.aload_n 0, 1) := by decide +kernel
theorem dX6_init_136 : decode cX6_init 136 = .ok (.getfield 7, 3) := by decide +kernel
theorem dX6_init_139 : decode cX6_init 139 = .ok (.iconst 1, 1) := by decide +kernel
theorem dX6_init_140 : decode cX6_init 140 = .ok (.iconst 5, 1) := by decide +kernel
theorem dX6_init_141 : decode cX6_init 141 = .ok (.iastore, 1) := by decide +kernel
theorem dX6_init_142 : decode cX6_init 142 = .ok (.aload_n 0, 1) := by decide +kernel
theorem dX6_init_143 : decode cX6_init 143 = .ok (.getfield 7, 3) := by decide +kernel
theorem dX6_init_146 : decode cX6_init 146 = .ok (.iconst 3, 1) := by decide +kernel
theorem dX6_init_147 : decode cX6_init 147 = .ok (.iconst (-1), 1) := by decide +kernel
theorem dX6_init_148 : decode cX6_init 148 = .ok (.iastore, 1) := by decide +kernel
theorem dX6_init_149 : decode cX6_init 149 = .ok (.return_, 1) := by decide +kernel
theorem dX6_in_0 : decode cX6_in 0 = .ok (.lload_n 0, 1) := by decide +kernel
theorem dX6_in_1 : decode cX6_in 1 = .ok (.lload_n 2, 1) := by decide +kernel
theorem dX6_in_2 : decode cX6_in 2 = .ok (.lcmp, 1) := by decide +kernel
theorem dX6_in_3 : decode cX6_in 3 = .ok (.ifCond .lt 14, 3) := by decide +kernel
theorem dX6_in_6 : decode cX6_in 6 = .ok (.lload_n 0, 1) := by decide +kernel
theorem dX6_in_7 : decode cX6_in 7 = .ok (.lload 4, 2) := by decide +kernel
theorem dX6_in_9 : decode cX6_in 9 = .ok (.lcmp, 1) := by decide +kernel
theorem dX6_in_10 : decode cX6_in 10 = .ok (.ifCond .gt 7, 3) := by decide +kernel
theorem dX6_in_13 : decode cX6_in 13 = .ok (.iconst 1, 1) := by decide +kernel
theorem dX6_in_14 : decode cX6_in 14 = .ok (.goto 4, 3) := by decide +kernel
theorem dX6_in_17 : decode cX6_in 17 = .ok (.iconst 0, 1) := by decide +kernel
theorem dX6_in_18 : decode cX6_in 18 = .ok (.ireturn, 1) := by decide +kernel
theorem dX6_one_0 : decode cX6_one 0 = .ok (.iload_n 0, 1) := by decide +kernel
theorem dX6_one_1 : decode cX6_one 1 = .ok (.ifCond .eq 7, 3) := by decide +kernel
theorem dX6_one_4 : decode cX6_one 4 = .ok (.iconst 1, 1) := by decide +kernel
theorem dX6_one_5 : decode cX6_one 5 = .ok (.goto 4, 3) := by decide +kernel
theorem dX6_one_8 : decode cX6_one 8 = .ok (.iconst 0, 1) := by decide +kernel
theorem dX6_one_9 : decode cX6_one 9 = .ok (.ireturn, 1) := by decide +kernel
theorem dX6_has_0 : decode cX6_has 0 = .ok (.iload_n 0, 1) := by decide +kernel
theorem dX6_has_1 : decode cX6_has 1 = .ok (.iload_n 1, 1) := by decide +kernel
theorem dX6_has_2 : decode cX6_has 2 = .ok (.ishr, 1) := by decide +kernel
theorem dX6_has_3 : decode cX6_has 3 = .ok (.iconst 1, 1) := by decide +kernel
theorem dX6_has_4 : decode cX6_has 4 = .ok (.iand, 1) := by decide +kernel
theorem dX6_has_5 : decode cX6_has 5 = .ok (.iconst 1, 1) := by decide +kernel
theorem dX6_has_6 : decode cX6_has 6 = .ok (.if_icmp .ne 7, 3) := by decide +kernel
theorem dX6_has_9 : decode cX6_has 9 = .ok (.iconst 1, 1) := by decide +kernel
theorem dX6_has_10 : decode cX6_has 10 = .ok (.goto 4, 3) := by decide +kernel
theorem dX6_has_13 : decode cX6_has 13 = .ok (.iconst 0, 1) := by decide +kernel
theorem dX6_has_14 : decode cX6_has 14 = .ok (.ireturn, 1) := by decide +kernel
theorem dX6_feed_0 : decode cX6_feed 0 = .ok (.iload_n 1, 1) := by decide +kernel
theorem dX6_feed_1 : decode cX6_feed 1 = .ok (.i2l, 1) := by decide +kernel
theorem dX6_feed_2 : decode cX6_feed 2 = .ok (.lconst 1, 1) := by decide +kernel
theorem dX6_feed_3 : decode cX6_feed 3 = .ok (.ldc2_w 64, 3) := by decide +kernel
theorem dX6_feed_6 : decode cX6_feed 6 = .ok (.invokestatic 66, 3) := by decide +kernel
theorem dX6_feed_9 : decode cX6_feed 9 = .ok (.ifCond .ne 6, 3) := by decide +kernel
theorem dX6_feed_12 : decode cX6_feed 12 = .ok (.ldc 70, 2) := by decide +kernel
theorem dX6_feed_14 : decode cX6_feed 14 = .ok (.ireturn, 1) := by decide +kernel
theorem dX6_feed_15 : decode cX6_feed 15 = .ok (.aload_n 0, 1) := by decide +kernel
theorem dX6_feed_16 : decode cX6_feed 16 = .ok (.getfield 71, 3) := by decide +kernel
theorem dX6_feed_19 : decode cX6_feed 19 = .ok (.iload_n 1, 1) := by decide +kernel
theorem dX6_feed_20 : decode cX6_feed 20 = .ok (.iadd, 1) := by decide +kernel
theorem dX6_feed_21 : decode cX6_feed 21 = .ok (.sipush 600, 3) := by decide +kernel
theorem dX6_feed_24 : decode cX6_feed 24 = .ok (.if_icmp .le 6, 3) := by decide +kernel
theorem dX6_feed_27 : decode cX6_feed 27 = .ok (.ldc 74, 2) := by decide +kernel
theorem dX6_feed_29 : decode cX6_feed 29 = .ok (.ireturn, 1) := by decide +kernel
theorem dX6_feed_30 : decode cX6_feed 30 = .ok (.iload_n 1, 1) := by decide +kernel
theorem dX6_feed_31 : decode cX6_feed 31 = .ok (.iconst 1, 1) := by decide +kernel
theorem dX6_feed_32 : decode cX6_feed 32 = .ok (.isub, 1) := by decide +kernel
theorem dX6_feed_33 : decode cX6_feed 33 = .ok (.istore 4, 2) := by decide +kernel
theorem dX6_feed_35 : decode cX6_feed 35 = .ok (.iload 4, 2) := by decide +kernel
theorem dX6_feed_37 : decode cX6_feed 37 = .ok (.ifCond .lt 40, 3) := by decide +kernel
theorem dX6_feed_40 : decode cX6_feed 40 = .ok (.aload_n 0, 1) := by decide +kernel
theorem dX6_feed_41 : decode cX6_feed 41 = .ok (.getfield 20, 3) := by decide +kernel
theorem dX6_feed_44 : decode cX6_feed 44 = .ok (.aload_n 0, 1) := by decide +kernel
theorem dX6_feed_45 : decode cX6_feed 45 = .ok (.getfield 71, 3) := by decide +kernel
theorem dX6_feed_48 : decode cX6_feed 48 = .ok (.lload_n 2, 1) := by decide +kernel
theorem dX6_feed_49 : decode cX6_feed 49 = .ok (.bipush 8, 2) := by decide +kernel
theorem dX6_feed_51 : decode cX6_feed 51 = .ok (.iload 4, 2) := by decide +kernel
theorem dX6_feed_53 : decode cX6_feed 53 = .ok (.imul, 1) := by decide +kernel
theorem dX6_feed_54 : decode cX6_feed 54 = .ok (.lshr, 1) := by decide +kernel
theorem dX6_feed_55 : decode cX6_feed 55 = .ok (.ldc2_w 75, 3) := by decide +kernel
theorem dX6_feed_58 : decode cX6_feed 58 = .ok (.land, 1) := by decide +kernel
theorem dX6_feed_59 : decode cX6_feed 59 = .ok (.l2i, 1) := by decide +kernel
theorem dX6_feed_60 : decode cX6_feed 60 = .ok (.iastore, 1) := by decide +kernel
theorem dX6_feed_61 : decode cX6_feed 61 = .ok (.aload_n 0, 1) := by decide +kernel
theorem dX6_feed_62 : decode cX6_feed 62 = .ok (.dup, 1) := by decide +kernel
theorem dX6_feed_63 : decode cX6_feed 63 = .ok (.getfield 71, 3) := by decide +kernel
theorem dX6_feed_66 : decode cX6_feed 66 = .ok (.iconst 1, 1) := by decide +kernel
theorem dX6_feed_67 : decode cX6_feed 67 = .ok (.iadd, 1) := by decide +kernel
theorem dX6_feed_68 : decode cX6_feed 68 = .ok (.putfield 71, 3) := by decide +kernel
theorem dX6_feed_71 : decode cX6_feed 71 = .ok (.iinc 4 (-1), 3) := by decide +kernel
theorem dX6_feed_74 : decode cX6_feed 74 = .ok (.goto (-39), 3) := by decide +kernel
theorem dX6_feed_77 : decode cX6_feed 77 = .ok (.aload_n 0, 1) := by decide +kernel
theorem dX6_feed_78 : decode cX6_feed 78 = .ok (.getfield 71, 3) := by decide +kernel
theorem dX6_feed_81 : decode cX6_feed 81 = .ok (.ireturn, 1) := by decide +kernel
theorem dX6_here_0 : decode cX6_here 0 = .ok (.aload_n 0, 1) := by decide +kernel
theorem dX6_here_1 : decode cX6_here 1 = .ok (.getfield 77, 3) := by decide +kernel
theorem dX6_here_4 : decode cX6_here 4 = .ok (.aload_n 0, 1) := by decide +kernel
theorem dX6_here_5 : decode cX6_here 5 = .ok (.getfield 71, 3) := by decide +kernel
theorem dX6_here_8 : decode cX6_here 8 = .ok (.if_icmp .ge 30, 3) := by decide +kernel
theorem dX6_here_11 : decode cX6_here 11 = .ok (.aload_n 0, 1) := by decide +kernel
theorem dX6_here_12 : decode cX6_here 12 = .ok (.getfield 20, 3) := by decide +kernel
theorem dX6_here_15 : decode cX6_here 15 = .ok (.aload_n 0, 1) := by decide +kernel
theorem dX6_here_16 : decode cX6_here 16 = .ok (.getfield 77, 3) := by decide +kernel
theorem dX6_here_19 : decode cX6_here 19 = .ok (.iaload, 1) := by decide +kernel
theorem dX6_here_20 : decode cX6_here 20 = .ok (.bipush 32, 2) := by decide +kernel
theorem dX6_here_22 : decode cX6_here 22 = .ok (.if_icmp .ne 16, 3) := by decide +kernel
theorem dX6_here_25 : decode cX6_here 25 = .ok (.aload_n 0, 1) := by decide +kernel
theorem dX6_here_26 : decode cX6_here 26 = .ok (.dup, 1) := by decide +kernel
theorem dX6_here_27 : decode cX6_here 27 = .ok (.getfield 77, 3) := by decide +kernel
theorem dX6_here_30 : decode cX6_here 30 = .ok (.iconst 1, 1) := by decide +kernel
theorem dX6_here_31 : decode cX6_here 31 = .ok (.iadd, 1) := by decide +kernel
theorem dX6_here_32 : decode cX6_here 32 = .ok (.putfield 77, 3) := by decide +kernel
theorem dX6_here_35 : decode cX6_here 35 = .ok (.goto (-35), 3) := by decide +kernel
theorem dX6_here_38 : decode cX6_here 38 = .ok (.aload_n 0, 1) := by decide +kernel
theorem dX6_here_39 : decode cX6_here 39 = .ok (.getfield 77, 3) := by decide +kernel
theorem dX6_here_42 : decode cX6_here 42 = .ok (.aload_n 0, 1) := by decide +kernel
theorem dX6_here_43 : decode cX6_here 43 = .ok (.getfield 71, 3) := by decide +kernel
theorem dX6_here_46 : decode cX6_here 46 = .ok (.if_icmp .ge 15, 3) := by decide +kernel
theorem dX6_here_49 : decode cX6_here 49 = .ok (.aload_n 0, 1) := by decide +kernel
theorem dX6_here_50 : decode cX6_here 50 = .ok (.getfield 20, 3) := by decide +kernel
theorem dX6_here_53 : decode cX6_here 53 = .ok (.aload_n 0, 1) := by decide +kernel
theorem dX6_here_54 : decode cX6_here 54 = .ok (.getfield 77, 3) := by decide +kernel
theorem dX6_here_57 : decode cX6_here 57 = .ok (.iaload, 1) := by decide +kernel
theorem dX6_here_58 : decode cX6_here 58 = .ok (.goto 4, 3) := by decide +kernel
theorem dX6_here_61 : decode cX6_here 61 = .ok (.iconst (-1), 1) := by decide +kernel
theorem dX6_here_62 : decode cX6_here 62 = .ok (.ireturn, 1) := by decide +kernel
theorem dX6_want_0 : decode cX6_want 0 = .ok (.iload_n 1, 1) := by decide +kernel
theorem dX6_want_1 : decode cX6_want 1 = .ok (.ifCond .ne 20, 3) := by decide +kernel
theorem dX6_want_4 : decode cX6_want 4 = .ok (.aload_n 0, 1) := by decide +kernel
theorem dX6_want_5 : decode cX6_want 5 = .ok (.getfield 80, 3) := by decide +kernel
theorem dX6_want_8 : decode cX6_want 8 = .ok (.ifCond .ne 13, 3) := by decide +kernel
theorem dX6_want_11 : decode cX6_want 11 = .ok (.aload_n 0, 1) := by decide +kernel
theorem dX6_want_12 : decode cX6_want 12 = .ok (.iload_n 2, 1) := by decide +kernel
theorem dX6_want_13 : decode cX6_want 13 = .ok (.putfield 80, 3) := by decide +kernel
theorem dX6_want_16 : decode cX6_want 16 = .ok (.aload_n 0, 1) := by decide +kernel
theorem dX6_want_17 : decode cX6_want 17 = .ok (.iload_n 3, 1) := by decide +kernel
theorem dX6_want_18 : decode cX6_want 18 = .ok (.putfield 23, 3) := by decide +kernel
theorem dX6_want_21 : decode cX6_want 21 = .ok (.aload_n 0, 1) := by decide +kernel
theorem dX6_want_22 : decode cX6_want 22 = .ok (.getfield 80, 3) := by decide +kernel
theorem dX6_want_25 : decode cX6_want 25 = .ok (.ifCond .ne 7, 3) := by decide +kernel
theorem dX6_want_28 : decode cX6_want 28 = .ok (.iconst 1, 1) := by decide +kernel
theorem dX6_want_29 : decode cX6_want 29 = .ok (.goto 4, 3) := by decide +kernel
theorem dX6_want_32 : decode cX6_want 32 = .ok (.iconst 0, 1) := by decide +kernel
theorem dX6_want_33 : decode cX6_want 33 = .ok (.ireturn, 1) := by decide +kernel
theorem dX6_takeWord_0 : decode cX6_takeWord 0 = .ok (.aload_n 0, 1) := by decide +kernel
theorem dX6_takeWord_1 : decode cX6_takeWord 1 = .ok (.invokevirtual 83, 3) := by decide +kernel
theorem dX6_takeWord_4 : decode cX6_takeWord 4 = .ok (.istore_n 1, 1) := by decide +kernel
theorem dX6_takeWord_5 : decode cX6_takeWord 5 = .ok (.aload_n 0, 1) := by decide +kernel
theorem dX6_takeWord_6 : decode cX6_takeWord 6 = .ok (.aload_n 0, 1) := by decide +kernel
theorem dX6_takeWord_7 : decode cX6_takeWord 7 = .ok (.getfield 77, 3) := by decide +kernel
theorem dX6_takeWord_10 : decode cX6_takeWord 10 = .ok (.putfield 87, 3) := by decide +kernel
theorem dX6_takeWord_13 : decode cX6_takeWord 13 = .ok (.aload_n 0, 1) := by decide +kernel
theorem dX6_takeWord_14 : decode cX6_takeWord 14 = .ok (.getfield 77, 3) := by decide +kernel
theorem dX6_takeWord_17 : decode cX6_takeWord 17 = .ok (.aload_n 0, 1) := by decide +kernel
theorem dX6_takeWord_18 : decode cX6_takeWord 18 = .ok (.getfield 71, 3) := by decide +kernel
theorem dX6_takeWord_21 : decode cX6_takeWord 21 = .ok (.if_icmp .ge 38, 3) := by decide +kernel
theorem dX6_takeWord_24 : decode cX6_takeWord 24 = .ok (.aload_n 0, 1) := by decide +kernel
theorem dX6_takeWord_25 : decode cX6_takeWord 25 = .ok (.getfield 20, 3) := by decide +kernel
theorem dX6_takeWord_28 : decode cX6_takeWord 28 = .ok (.aload_n 0, 1) := by decide +kernel
theorem dX6_takeWord_29 : decode cX6_takeWord 29 = .ok (.getfield 77, 3) := by decide +kernel
theorem dX6_takeWord_32 : decode cX6_takeWord 32 = .ok (.iaload, 1) := by decide +kernel
theorem dX6_takeWord_33 : decode cX6_takeWord 33 = .ok (.i2l, 1) := by decide +kernel
theorem dX6_takeWord_34 : decode cX6_takeWord 34 = .ok (.ldc2_w 90, 3) := by decide +kernel
theorem dX6_takeWord_37 : decode cX6_takeWord 37 = .ok (.ldc2_w 92, 3) := by decide +kernel
theorem dX6_takeWord_40 : decode cX6_takeWord 40 = .ok (.invokestatic 66, 3) := by decide +kernel
theorem dX6_takeWord_43 : decode cX6_takeWord 43 = .ok (.ifCond .eq 16, 3) := by decide +kernel
theorem dX6_takeWord_46 : decode cX6_takeWord 46 = .ok (.aload_n 0, 1) := by decide +kernel
theorem dX6_takeWord_47 : decode cX6_takeWord 47 = .ok (.dup, 1) := by decide +kernel
theorem dX6_takeWord_48 : decode cX6_takeWord 48 = .ok (.getfield 77, 3) := by decide +kernel
theorem dX6_takeWord_51 : decode cX6_takeWord 51 = .ok (.iconst 1, 1) := by decide +kernel
theorem dX6_takeWord_52 : decode cX6_takeWord 52 = .ok (.iadd, 1) := by decide +kernel
theorem dX6_takeWord_53 : decode cX6_takeWord 53 = .ok (.putfield 77, 3) := by decide +kernel
theorem dX6_takeWord_56 : decode cX6_takeWord 56 = .ok (.goto (-43), 3) := by decide +kernel
theorem dX6_takeWord_59 : decode cX6_takeWord 59 = .ok (.aload_n 0, 1) := by decide +kernel
theorem dX6_takeWord_60 : decode cX6_takeWord 60 = .ok (.aload_n 0, 1) := by decide +kernel
theorem dX6_takeWord_61 : decode cX6_takeWord 61 = .ok (.getfield 77, 3) := by decide +kernel
theorem dX6_takeWord_64 : decode cX6_takeWord 64 = .ok (.aload_n 0, 1) := by decide +kernel
theorem dX6_takeWord_65 : decode cX6_takeWord 65 = .ok (.getfield 87, 3) := by decide +kernel
theorem dX6_takeWord_68 : decode cX6_takeWord 68 = .ok (.isub, 1) := by decide +kernel
theorem dX6_takeWord_69 : decode cX6_takeWord 69 = .ok (.putfield 94, 3) := by decide +kernel
theorem dX6_takeWord_72 : decode cX6_takeWord 72 = .ok (.return_, 1) := by decide +kernel
theorem dX6_isWord_0 : decode cX6_isWord 0 = .ok (.aload_n 0, 1) := by decide +kernel
theorem dX6_isWord_1 : decode cX6_isWord 1 = .ok (.getfield 94, 3) := by decide +kernel
theorem dX6_isWord_4 : decode cX6_isWord 4 = .ok (.iload_n 1, 1) := by decide +kernel
theorem dX6_isWord_5 : decode cX6_isWord 5 = .ok (.if_icmp .lt 7, 3) := by decide +kernel
theorem dX6_isWord_8 : decode cX6_isWord 8 = .ok (.iconst 1, 1) := by decide +kernel
theorem dX6_isWord_9 : decode cX6_isWord 9 = .ok (.goto 4, 3) := by decide +kernel
theorem dX6_isWord_12 : decode cX6_isWord 12 = .ok (.iconst 0, 1) := by decide +kernel
theorem dX6_isWord_13 : decode cX6_isWord 13 = .ok (.istore 7, 2) := by decide +kernel
theorem dX6_isWord_15 : decode cX6_isWord 15 = .ok (.iconst 0, 1) := by decide +kernel
theorem dX6_isWord_16 : decode cX6_isWord 16 = .ok (.istore 8, 2) := by decide +kernel
theorem dX6_isWord_18 : decode cX6_isWord 18 = .ok (.iload 8, 2) := by decide +kernel
theorem dX6_isWord_20 : decode cX6_isWord 20 = .ok (.iload_n 1, 1) := by decide +kernel
theorem dX6_isWord_21 : decode cX6_isWord 21 = .ok (.if_icmp .ge 79, 3) := by decide +kernel
theorem dX6_isWord_24 : decode cX6_isWord 24 = .ok (.iload 7, 2) := by decide +kernel
theorem dX6_isWord_26 : decode cX6_isWord 26 = .ok (.ifCond .eq 74, 3) := by decide +kernel
theorem dX6_isWord_29 : decode cX6_isWord 29 = .ok (.aload_n 0, 1) := by decide +kernel
theorem dX6_isWord_30 : decode cX6_isWord 30 = .ok (.getfield 20, 3) := by decide +kernel
theorem dX6_isWord_33 : decode cX6_isWord 33 = .ok (.aload_n 0, 1) := by decide +kernel
theorem dX6_isWord_34 : decode cX6_isWord 34 = .ok (.getfield 87, 3) := by decide +kernel
theorem dX6_isWord_37 : decode cX6_isWord 37 = .ok (.iload 8, 2) := by decide +kernel
theorem dX6_isWord_39 : decode cX6_isWord 39 = .ok (.iadd, 1) := by decide +kernel
theorem dX6_isWord_40 : decode cX6_isWord 40 = .ok (.iaload, 1) := by decide +kernel
theorem dX6_isWord_41 : decode cX6_isWord 41 = .ok (.iload 8, 2) := by decide +kernel
theorem dX6_isWord_43 : decode cX6_isWord 43 = .ok (.ifCond .ne 7, 3) := by decide +kernel
theorem dX6_isWord_46 : decode cX6_isWord 46 = .ok (.iload_n 2, 1) := by decide +kernel
theorem dX6_isWord_47 : decode cX6_isWord 47 = .ok (.goto 37, 3) := by decide +kernel
theorem dX6_isWord_50 : decode cX6_isWord 50 = .ok (.iload 8, 2) := by decide +kernel
theorem dX6_isWord_52 : decode cX6_isWord 52 = .ok (.iconst 1, 1) := by decide +kernel
theorem dX6_isWord_53 : decode cX6_isWord 53 = .ok (.if_icmp .ne 7, 3) := by decide +kernel
theorem dX6_isWord_56 : decode cX6_isWord 56 = .ok (.iload_n 3, 1) := by decide +kernel
theorem dX6_isWord_57 : decode cX6_isWord 57 = .ok (.goto 27, 3) := by decide +kernel
theorem dX6_isWord_60 : decode cX6_isWord 60 = .ok (.iload 8, 2) := by decide +kernel
theorem dX6_isWord_62 : decode cX6_isWord 62 = .ok (.iconst 2, 1) := by decide +kernel
theorem dX6_isWord_63 : decode cX6_isWord 63 = .ok (.if_icmp .ne 8, 3) := by decide +kernel
theorem dX6_isWord_66 : decode cX6_isWord 66 = .ok (.iload 4, 2) := by decide +kernel
theorem dX6_isWord_68 : decode cX6_isWord 68 = .ok (.goto 16, 3) := by decide +kernel
theorem dX6_isWord_71 : decode cX6_isWord 71 = .ok (.iload 8, 2) := by decide +kernel
theorem dX6_isWord_73 : decode cX6_isWord 73 = .ok (.iconst 3, 1) := by decide +kernel
theorem dX6_isWord_74 : decode cX6_isWord 74 = .ok (.if_icmp .ne 8, 3) := by decide +kernel
theorem dX6_isWord_77 : decode cX6_isWord 77 = .ok (.iload 5, 2) := by decide +kernel
theorem dX6_isWord_79 : decode cX6_isWord 79 = .ok (.goto 5, 3) := by decide +kernel
theorem dX6_isWord_82 : decode cX6_isWord 82 = .ok (.iload 6, 2) := by decide +kernel
theorem dX6_isWord_84 : decode cX6_isWord 84 = .ok (.if_icmp .ne 7, 3) := by decide +kernel
theorem dX6_isWord_87 : decode cX6_isWord 87 = .ok (.iconst 1, 1) := by decide +kernel
theorem dX6_isWord_88 : decode cX6_isWord 88 = .ok (.goto 4, 3) := by decide +kernel
theorem dX6_isWord_91 : decode cX6_isWord 91 = .ok (.iconst 0, 1) := by decide +kernel
theorem dX6_isWord_92 : decode cX6_isWord 92 = .ok (.istore 7, 2) := by decide +kernel
theorem dX6_isWord_94 : decode cX6_isWord 94 = .ok (.iinc 8 1, 3) := by decide +kernel
theorem dX6_isWord_97 : decode cX6_isWord 97 = .ok (.goto (-79), 3) := by decide +kernel
theorem dX6_isWord_100 : decode cX6_isWord 100 = .ok (.iload 7, 2) := by decide +kernel
theorem dX6_isWord_102 : decode cX6_isWord 102 = .ok (.ifCond .eq 15, 3) := by decide +kernel
theorem dX6_isWord_105 : decode cX6_isWord 105 = .ok (.aload_n 0, 1) := by decide +kernel
theorem dX6_isWord_106 : decode cX6_isWord 106 = .ok (.getfield 94, 3) := by decide +kernel
theorem dX6_isWord_109 : decode cX6_isWord 109 = .ok (.iload_n 1, 1) := by decide +kernel
theorem dX6_isWord_110 : decode cX6_isWord 110 = .ok (.if_icmp .ne 7, 3) := by decide +kernel
theorem dX6_isWord_113 : decode cX6_isWord 113 = .ok (.iconst 1, 1) := by decide +kernel
theorem dX6_isWord_114 : decode cX6_isWord 114 = .ok (.goto 4, 3) := by decide +kernel
theorem dX6_isWord_117 : decode cX6_isWord 117 = .ok (.iconst 0, 1) := by decide +kernel
theorem dX6_isWord_118 : decode cX6_isWord 118 = .ok (.ireturn, 1) := by decide +kernel
theorem dX6_isLong_0 : decode cX6_isLong 0 = .ok (.aload_n 0, 1) := by decide +kernel
theorem dX6_isLong_1 : decode cX6_isLong 1 = .ok (.getfield 94, 3) := by decide +kernel
theorem dX6_isLong_4 : decode cX6_isLong 4 = .ok (.iload_n 1, 1) := by decide +kernel
theorem dX6_isLong_5 : decode cX6_isLong 5 = .ok (.if_icmp .ne 7, 3) := by decide +kernel
theorem dX6_isLong_8 : decode cX6_isLong 8 = .ok (.iconst 1, 1) := by decide +kernel
theorem dX6_isLong_9 : decode cX6_isLong 9 = .ok (.goto 4, 3) := by decide +kernel
theorem dX6_isLong_12 : decode cX6_isLong 12 = .ok (.iconst 0, 1) := by decide +kernel
theorem dX6_isLong_13 : decode cX6_isLong 13 = .ok (.istore 5, 2) := by decide +kernel
theorem dX6_isLong_15 : decode cX6_isLong 15 = .ok (.iload 5, 2) := by decide +kernel
theorem dX6_isLong_17 : decode cX6_isLong 17 = .ok (.ifCond .eq 59, 3) := by decide +kernel
theorem dX6_isLong_20 : decode cX6_isLong 20 = .ok (.aload_n 0, 1) := by decide +kernel
theorem dX6_isLong_21 : decode cX6_isLong 21 = .ok (.getfield 20, 3) := by decide +kernel
theorem dX6_isLong_24 : decode cX6_isLong 24 = .ok (.aload_n 0, 1) := by decide +kernel
theorem dX6_isLong_25 : decode cX6_isLong 25 = .ok (.getfield 87, 3) := by decide +kernel
theorem dX6_isLong_28 : decode cX6_isLong 28 = .ok (.iload_n 1, 1) := by decide +kernel
theorem dX6_isLong_29 : decode cX6_isLong 29 = .ok (.iadd, 1) := by decide +kernel
theorem dX6_isLong_30 : decode cX6_isLong 30 = .ok (.iconst 3, 1) := by decide +kernel
theorem dX6_isLong_31 : decode cX6_isLong 31 = .ok (.isub, 1) := by decide +kernel
theorem dX6_isLong_32 : decode cX6_isLong 32 = .ok (.iaload, 1) := by decide +kernel
theorem dX6_isLong_33 : decode cX6_isLong 33 = .ok (.iload_n 2, 1) := by decide +kernel
theorem dX6_isLong_34 : decode cX6_isLong 34 = .ok (.if_icmp .ne 42, 3) := by decide +kernel
theorem dX6_isLong_37 : decode cX6_isLong 37 = .ok (.aload_n 0, 1) := by decide +kernel
theorem dX6_isLong_38 : decode cX6_isLong 38 = .ok (.getfield 20, 3) := by decide +kernel
theorem dX6_isLong_41 : decode cX6_isLong 41 = .ok (.aload_n 0, 1) := by decide +kernel
theorem dX6_isLong_42 : decode cX6_isLong 42 = .ok (.getfield 87, 3) := by decide +kernel
theorem dX6_isLong_45 : decode cX6_isLong 45 = .ok (.iload_n 1, 1) := by decide +kernel
theorem dX6_isLong_46 : decode cX6_isLong 46 = .ok (.iadd, 1) := by decide +kernel
theorem dX6_isLong_47 : decode cX6_isLong 47 = .ok (.iconst 2, 1) := by decide +kernel
theorem dX6_isLong_48 : decode cX6_isLong 48 = .ok (.isub, 1) := by decide +kernel
theorem dX6_isLong_49 : decode cX6_isLong 49 = .ok (.iaload, 1) := by decide +kernel
theorem dX6_isLong_50 : decode cX6_isLong 50 = .ok (.iload_n 3, 1) := by decide +kernel
theorem dX6_isLong_51 : decode cX6_isLong 51 = .ok (.if_icmp .ne 25, 3) := by decide +kernel
theorem dX6_isLong_54 : decode cX6_isLong 54 = .ok (.aload_n 0, 1) := by decide +kernel
theorem dX6_isLong_55 : decode cX6_isLong 55 = .ok (.getfield 20, 3) := by decide +kernel
theorem dX6_isLong_58 : decode cX6_isLong 58 = .ok (.aload_n 0, 1) := by decide +kernel
theorem dX6_isLong_59 : decode cX6_isLong 59 = .ok (.getfield 87, 3) := by decide +kernel
theorem dX6_isLong_62 : decode cX6_isLong 62 = .ok (.iload_n 1, 1) := by decide +kernel
theorem dX6_isLong_63 : decode cX6_isLong 63 = .ok (.iadd, 1) := by decide +kernel
theorem dX6_isLong_64 : decode cX6_isLong 64 = .ok (.iconst 1, 1) := by decide +kernel
theorem dX6_isLong_65 : decode cX6_isLong 65 = .ok (.isub, 1) := by decide +kernel
theorem dX6_isLong_66 : decode cX6_isLong 66 = .ok (.iaload, 1) := by decide +kernel
theorem dX6_isLong_67 : decode cX6_isLong 67 = .ok (.iload 4, 2) := by decide +kernel
theorem dX6_isLong_69 : decode cX6_isLong 69 = .ok (.if_icmp .ne 7, 3) := by decide +kernel
theorem dX6_isLong_72 : decode cX6_isLong 72 = .ok (.iconst 1, 1) := by decide +kernel
theorem dX6_isLong_73 : decode cX6_isLong 73 = .ok (.goto 4, 3) := by decide +kernel
theorem dX6_isLong_76 : decode cX6_isLong 76 = .ok (.iconst 0, 1) := by decide +kernel
theorem dX6_isLong_77 : decode cX6_isLong 77 = .ok (.ireturn, 1) := by decide +kernel
theorem dX6_isBegun_0 : decode cX6_isBegun 0 = .ok (.aload_n 0, 1) := by decide +kernel
theorem dX6_isBegun_1 : decode cX6_isBegun 1 = .ok (.getfield 94, 3) := by decide +kernel
theorem dX6_isBegun_4 : decode cX6_isBegun 4 = .ok (.iconst 3, 1) := by decide +kernel
theorem dX6_isBegun_5 : decode cX6_isBegun 5 = .ok (.if_icmp .le 66, 3) := by decide +kernel
theorem dX6_isBegun_8 : decode cX6_isBegun 8 = .ok (.aload_n 0, 1) := by decide +kernel
theorem dX6_isBegun_9 : decode cX6_isBegun 9 = .ok (.getfield 20, 3) := by decide +kernel
theorem dX6_isBegun_12 : decode cX6_isBegun 12 = .ok (.aload_n 0, 1) := by decide +kernel
theorem dX6_isBegun_13 : decode cX6_isBegun 13 = .ok (.getfield 87, 3) := by decide +kernel
theorem dX6_isBegun_16 : decode cX6_isBegun 16 = .ok (.iaload, 1) := by decide +kernel
theorem dX6_isBegun_17 : decode cX6_isBegun 17 = .ok (.iload_n 1, 1) := by decide +kernel
theorem dX6_isBegun_18 : decode cX6_isBegun 18 = .ok (.if_icmp .ne 53, 3) := by decide +kernel
theorem dX6_isBegun_21 : decode cX6_isBegun 21 = .ok (.aload_n 0, 1) := by decide +kernel
theorem dX6_isBegun_22 : decode cX6_isBegun 22 = .ok (.getfield 20, 3) := by decide +kernel
theorem dX6_isBegun_25 : decode cX6_isBegun 25 = .ok (.aload_n 0, 1) := by decide +kernel
theorem dX6_isBegun_26 : decode cX6_isBegun 26 = .ok (.getfield 87, 3) := by decide +kernel
theorem dX6_isBegun_29 : decode cX6_isBegun 29 = .ok (.iconst 1, 1) := by decide +kernel
theorem dX6_isBegun_30 : decode cX6_isBegun 30 = .ok (.iadd, 1) := by decide +kernel
theorem dX6_isBegun_31 : decode cX6_isBegun 31 = .ok (.iaload, 1) := by decide +kernel
theorem dX6_isBegun_32 : decode cX6_isBegun 32 = .ok (.iload_n 2, 1) := by decide +kernel
theorem dX6_isBegun_33 : decode cX6_isBegun 33 = .ok (.if_icmp .ne 38, 3) := by decide +kernel
theorem dX6_isBegun_36 : decode cX6_isBegun 36 = .ok (.aload_n 0, 1) := by decide +kernel
theorem dX6_isBegun_37 : decode cX6_isBegun 37 = .ok (.getfield 20, 3) := by decide +kernel
theorem dX6_isBegun_40 : decode cX6_isBegun 40 = .ok (.aload_n 0, 1) := by decide +kernel
theorem dX6_isBegun_41 : decode cX6_isBegun 41 = .ok (.getfield 87, 3) := by decide +kernel
theorem dX6_isBegun_44 : decode cX6_isBegun 44 = .ok (.iconst 2, 1) := by decide +kernel
theorem dX6_isBegun_45 : decode cX6_isBegun 45 = .ok (.iadd, 1) := by decide +kernel
theorem dX6_isBegun_46 : decode cX6_isBegun 46 = .ok (.iaload, 1) := by decide +kernel
theorem dX6_isBegun_47 : decode cX6_isBegun 47 = .ok (.iload_n 3, 1) := by decide +kernel
theorem dX6_isBegun_48 : decode cX6_isBegun 48 = .ok (.if_icmp .ne 23, 3) := by decide +kernel
theorem dX6_isBegun_51 : decode cX6_isBegun 51 = .ok (.aload_n 0, 1) := by decide +kernel
theorem dX6_isBegun_52 : decode cX6_isBegun 52 = .ok (.getfield 20, 3) := by decide +kernel
theorem dX6_isBegun_55 : decode cX6_isBegun 55 = .ok (.aload_n 0, 1) := by decide +kernel
theorem dX6_isBegun_56 : decode cX6_isBegun 56 = .ok (.getfield 87, 3) := by decide +kernel
theorem dX6_isBegun_59 : decode cX6_isBegun 59 = .ok (.iconst 3, 1) := by decide +kernel
theorem dX6_isBegun_60 : decode cX6_isBegun 60 = .ok (.iadd, 1) := by decide +kernel
theorem dX6_isBegun_61 : decode cX6_isBegun 61 = .ok (.iaload, 1) := by decide +kernel
theorem dX6_isBegun_62 : decode cX6_isBegun 62 = .ok (.iload 4, 2) := by decide +kernel
theorem dX6_isBegun_64 : decode cX6_isBegun 64 = .ok (.if_icmp .ne 7, 3) := by decide +kernel
theorem dX6_isBegun_67 : decode cX6_isBegun 67 = .ok (.iconst 1, 1) := by decide +kernel
theorem dX6_isBegun_68 : decode cX6_isBegun 68 = .ok (.goto 4, 3) := by decide +kernel
theorem dX6_isBegun_71 : decode cX6_isBegun 71 = .ok (.iconst 0, 1) := by decide +kernel
theorem dX6_isBegun_72 : decode cX6_isBegun 72 = .ok (.ireturn, 1) := by decide +kernel
theorem dX6_takeNumber_0 : decode cX6_takeNumber 0 = .ok (.aload_n 0, 1) := by decide +kernel
theorem dX6_takeNumber_1 : decode cX6_takeNumber 1 = .ok (.invokevirtual 83, 3) := by decide +kernel
theorem dX6_takeNumber_4 : decode cX6_takeNumber 4 = .ok (.istore_n 3, 1) := by decide +kernel
theorem dX6_takeNumber_5 : decode cX6_takeNumber 5 = .ok (.aload_n 0, 1) := by decide +kernel
theorem dX6_takeNumber_6 : decode cX6_takeNumber 6 = .ok (.aload_n 0, 1) := by decide +kernel
theorem dX6_takeNumber_7 : decode cX6_takeNumber 7 = .ok (.getfield 77, 3) := by decide +kernel
theorem dX6_takeNumber_10 : decode cX6_takeNumber 10 = .ok (.putfield 87, 3) := by decide +kernel
theorem dX6_takeNumber_13 : decode cX6_takeNumber 13 = .ok (.aload_n 0, 1) := by decide +kernel
theorem dX6_takeNumber_14 : decode cX6_takeNumber 14 = .ok (.iload_n 3, 1) := by decide +kernel
theorem dX6_takeNumber_15 : decode cX6_takeNumber 15 = .ok (.i2l, 1) := by decide +kernel
theorem dX6_takeNumber_16 : decode cX6_takeNumber 16 = .ok (.ldc2_w 97, 3) := by decide +kernel
theorem dX6_takeNumber_19 : decode cX6_takeNumber 19 = .ok (.ldc2_w 99, 3) := by decide +kernel
theorem dX6_takeNumber_22 : decode cX6_takeNumber 22 = .ok (.invokestatic 66, 3) := by decide +kernel
theorem dX6_takeNumber_25 : decode cX6_takeNumber 25 = .ok (.iconst 1, 1) := by decide +kernel
theorem dX6_takeNumber_26 : decode cX6_takeNumber 26 = .ok (.aload_n 0, 1) := by decide +kernel
theorem dX6_takeNumber_27 : decode cX6_takeNumber 27 = .ok (.getfield 77, 3) := by decide +kernel
theorem dX6_takeNumber_30 : decode cX6_takeNumber 30 = .ok (.invokevirtual 101, 3) := by decide +kernel
theorem dX6_takeNumber_33 : decode cX6_takeNumber 33 = .ok (.ifCond .ne 5, 3) := by decide +kernel
theorem dX6_takeNumber_36 : decode cX6_takeNumber 36 = .ok (.iconst 0, 1) := by decide +kernel
theorem dX6_takeNumber_37 : decode cX6_takeNumber 37 = .ok (.ireturn, 1) := by decide +kernel
theorem dX6_takeNumber_38 : decode cX6_takeNumber 38 = .ok (.iconst 0, 1) := by decide +kernel
theorem dX6_takeNumber_39 : decode cX6_takeNumber 39 = .ok (.istore 4, 2) := by decide +kernel
theorem dX6_takeNumber_41 : decode cX6_takeNumber 41 = .ok (.aload_n 0, 1) := by decide +kernel
theorem dX6_takeNumber_42 : decode cX6_takeNumber 42 = .ok (.getfield 77, 3) := by decide +kernel
theorem dX6_takeNumber_45 : decode cX6_takeNumber 45 = .ok (.aload_n 0, 1) := by decide +kernel
theorem dX6_takeNumber_46 : decode cX6_takeNumber 46 = .ok (.getfield 71, 3) := by decide +kernel
theorem dX6_takeNumber_49 : decode cX6_takeNumber 49 = .ok (.if_icmp .ge 71, 3) := by decide +kernel
theorem dX6_takeNumber_52 : decode cX6_takeNumber 52 = .ok (.aload_n 0, 1) := by decide +kernel
theorem dX6_takeNumber_53 : decode cX6_takeNumber 53 = .ok (.getfield 20, 3) := by decide +kernel
theorem dX6_takeNumber_56 : decode cX6_takeNumber 56 = .ok (.aload_n 0, 1) := by decide +kernel
theorem dX6_takeNumber_57 : decode cX6_takeNumber 57 = .ok (.getfield 77, 3) := by decide +kernel
theorem dX6_takeNumber_60 : decode cX6_takeNumber 60 = .ok (.iaload, 1) := by decide +kernel
theorem dX6_takeNumber_61 : decode cX6_takeNumber 61 = .ok (.i2l, 1) := by decide +kernel
theorem dX6_takeNumber_62 : decode cX6_takeNumber 62 = .ok (.ldc2_w 97, 3) := by decide +kernel
theorem dX6_takeNumber_65 : decode cX6_takeNumber 65 = .ok (.ldc2_w 99, 3) := by decide +kernel
theorem dX6_takeNumber_68 : decode cX6_takeNumber 68 = .ok (.invokestatic 66, 3) := by decide +kernel
theorem dX6_takeNumber_71 : decode cX6_takeNumber 71 = .ok (.ifCond .eq 49, 3) := by decide +kernel
theorem dX6_takeNumber_74 : decode cX6_takeNumber 74 = .ok (.iload 4, 2) := by decide +kernel
theorem dX6_takeNumber_76 : decode cX6_takeNumber 76 = .ok (.sipush 9999, 3) := by decide +kernel
theorem dX6_takeNumber_79 : decode cX6_takeNumber 79 = .ok (.if_icmp .le 8, 3) := by decide +kernel
theorem dX6_takeNumber_82 : decode cX6_takeNumber 82 = .ok (.iload 4, 2) := by decide +kernel
theorem dX6_takeNumber_84 : decode cX6_takeNumber 84 = .ok (.goto 21, 3) := by decide +kernel
theorem dX6_takeNumber_87 : decode cX6_takeNumber 87 = .ok (.bipush 10, 2) := by decide +kernel
theorem dX6_takeNumber_89 : decode cX6_takeNumber 89 = .ok (.iload 4, 2) := by decide +kernel
theorem dX6_takeNumber_91 : decode cX6_takeNumber 91 = .ok (.imul, 1) := by decide +kernel
theorem dX6_takeNumber_92 : decode cX6_takeNumber 92 = .ok (.aload_n 0, 1) := by decide +kernel
theorem dX6_takeNumber_93 : decode cX6_takeNumber 93 = .ok (.getfield 20, 3) := by decide +kernel
theorem dX6_takeNumber_96 : decode cX6_takeNumber 96 = .ok (.aload_n 0, 1) := by decide +kernel
theorem dX6_takeNumber_97 : decode cX6_takeNumber 97 = .ok (.getfield 77, 3) := by decide +kernel
theorem dX6_takeNumber_100 : decode cX6_takeNumber 100 = .ok (.iaload, 1) := by decide +kernel
theorem dX6_takeNumber_101 : decode cX6_takeNumber 101 = .ok (.iadd, 1) := by decide +kernel
theorem dX6_takeNumber_102 : decode cX6_takeNumber 102 = .ok (.bipush 48, 2) := by decide +kernel
theorem dX6_takeNumber_104 : decode cX6_takeNumber 104 = .ok (.isub, 1) := by decide +kernel
theorem dX6_takeNumber_105 : decode cX6_takeNumber 105 = .ok (.istore 4, 2) := by decide +kernel
theorem dX6_takeNumber_107 : decode cX6_takeNumber 107 = .ok (.aload_n 0, 1) := by decide +kernel
theorem dX6_takeNumber_108 : decode cX6_takeNumber 108 = .ok (.dup, 1) := by decide +kernel
theorem dX6_takeNumber_109 : decode cX6_takeNumber 109 = .ok (.getfield 77, 3) := by decide +kernel
theorem dX6_takeNumber_112 : decode cX6_takeNumber 112 = .ok (.iconst 1, 1) := by decide +kernel
theorem dX6_takeNumber_113 : decode cX6_takeNumber 113 = .ok (.iadd, 1) := by decide +kernel
theorem dX6_takeNumber_114 : decode cX6_takeNumber 114 = .ok (.putfield 77, 3) := by decide +kernel
theorem dX6_takeNumber_117 : decode cX6_takeNumber 117 = .ok (.goto (-76), 3) := by decide +kernel
theorem dX6_takeNumber_120 : decode cX6_takeNumber 120 = .ok (.aload_n 0, 1) := by decide +kernel
theorem dX6_takeNumber_121 : decode cX6_takeNumber 121 = .ok (.aload_n 0, 1) := by decide +kernel
theorem dX6_takeNumber_122 : decode cX6_takeNumber 122 = .ok (.getfield 77, 3) := by decide +kernel
theorem dX6_takeNumber_125 : decode cX6_takeNumber 125 = .ok (.aload_n 0, 1) := by decide +kernel
theorem dX6_takeNumber_126 : decode cX6_takeNumber 126 = .ok (.getfield 87, 3) := by decide +kernel
theorem dX6_takeNumber_129 : decode cX6_takeNumber 129 = .ok (.isub, 1) := by decide +kernel
theorem dX6_takeNumber_130 : decode cX6_takeNumber 130 = .ok (.iconst 3, 1) := by decide +kernel
theorem dX6_takeNumber_131 : decode cX6_takeNumber 131 = .ok (.if_icmp .ge 20, 3) := by decide +kernel
theorem dX6_takeNumber_134 : decode cX6_takeNumber 134 = .ok (.iload 4, 2) := by decide +kernel
theorem dX6_takeNumber_136 : decode cX6_takeNumber 136 = .ok (.i2l, 1) := by decide +kernel
theorem dX6_takeNumber_137 : decode cX6_takeNumber 137 = .ok (.iload_n 1, 1) := by decide +kernel
theorem dX6_takeNumber_138 : decode cX6_takeNumber 138 = .ok (.i2l, 1) := by decide +kernel
theorem dX6_takeNumber_139 : decode cX6_takeNumber 139 = .ok (.iload_n 2, 1) := by decide +kernel
theorem dX6_takeNumber_140 : decode cX6_takeNumber 140 = .ok (.i2l, 1) := by decide +kernel
theorem dX6_takeNumber_141 : decode cX6_takeNumber 141 = .ok (.invokestatic 66, 3) := by decide +kernel
theorem dX6_takeNumber_144 : decode cX6_takeNumber 144 = .ok (.ifCond .eq 7, 3) := by decide +kernel
theorem dX6_takeNumber_147 : decode cX6_takeNumber 147 = .ok (.iconst 1, 1) := by decide +kernel
theorem dX6_takeNumber_148 : decode cX6_takeNumber 148 = .ok (.goto 4, 3) := by decide +kernel
theorem dX6_takeNumber_151 : decode cX6_takeNumber 151 = .ok (.iconst 0, 1) := by decide +kernel
theorem dX6_takeNumber_152 : decode cX6_takeNumber 152 = .ok (.iconst 2, 1) := by decide +kernel
theorem dX6_takeNumber_153 : decode cX6_takeNumber 153 = .ok (.aload_n 0, 1) := by decide +kernel
theorem dX6_takeNumber_154 : decode cX6_takeNumber 154 = .ok (.getfield 87, 3) := by decide +kernel
theorem dX6_takeNumber_157 : decode cX6_takeNumber 157 = .ok (.invokevirtual 101, 3) := by decide +kernel
theorem dX6_takeNumber_160 : decode cX6_takeNumber 160 = .ok (.istore 5, 2) := by decide +kernel
theorem dX6_takeNumber_162 : decode cX6_takeNumber 162 = .ok (.iload 4, 2) := by decide +kernel
theorem dX6_takeNumber_164 : decode cX6_takeNumber 164 = .ok (.ireturn, 1) := by decide +kernel
theorem dX6_takeGoal_0 : decode cX6_takeGoal 0 = .ok (.aload_n 0, 1) := by decide +kernel
theorem dX6_takeGoal_1 : decode cX6_takeGoal 1 = .ok (.iconst 0, 1) := by decide +kernel
theorem dX6_takeGoal_2 : decode cX6_takeGoal 2 = .ok (.bipush 23, 2) := by decide +kernel
theorem dX6_takeGoal_4 : decode cX6_takeGoal 4 = .ok (.invokevirtual 105, 3) := by decide +kernel
theorem dX6_takeGoal_7 : decode cX6_takeGoal 7 = .ok (.istore_n 1, 1) := by decide +kernel
theorem dX6_takeGoal_8 : decode cX6_takeGoal 8 = .ok (.aload_n 0, 1) := by decide +kernel
theorem dX6_takeGoal_9 : decode cX6_takeGoal 9 = .ok (.getfield 80, 3) := by decide +kernel
theorem dX6_takeGoal_12 : decode cX6_takeGoal 12 = .ok (.ifCond .ne 36, 3) := by decide +kernel
theorem dX6_takeGoal_15 : decode cX6_takeGoal 15 = .ok (.aload_n 0, 1) := by decide +kernel
theorem dX6_takeGoal_16 : decode cX6_takeGoal 16 = .ok (.getfield 27, 3) := by decide +kernel
theorem dX6_takeGoal_19 : decode cX6_takeGoal 19 = .ok (.aload_n 0, 1) := by decide +kernel
theorem dX6_takeGoal_20 : decode cX6_takeGoal 20 = .ok (.getfield 109, 3) := by decide +kernel
theorem dX6_takeGoal_23 : decode cX6_takeGoal 23 = .ok (.iload_n 1, 1) := by decide +kernel
theorem dX6_takeGoal_24 : decode cX6_takeGoal 24 = .ok (.iastore, 1) := by decide +kernel
theorem dX6_takeGoal_25 : decode cX6_takeGoal 25 = .ok (.aload_n 0, 1) := by decide +kernel
theorem dX6_takeGoal_26 : decode cX6_takeGoal 26 = .ok (.getfield 30, 3) := by decide +kernel
theorem dX6_takeGoal_29 : decode cX6_takeGoal 29 = .ok (.aload_n 0, 1) := by decide +kernel
theorem dX6_takeGoal_30 : decode cX6_takeGoal 30 = .ok (.getfield 109, 3) := by decide +kernel
theorem dX6_takeGoal_33 : decode cX6_takeGoal 33 = .ok (.aload_n 0, 1) := by decide +kernel
theorem dX6_takeGoal_34 : decode cX6_takeGoal 34 = .ok (.getfield 87, 3) := by decide +kernel
theorem dX6_takeGoal_37 : decode cX6_takeGoal 37 = .ok (.iastore, 1) := by decide +kernel
theorem dX6_takeGoal_38 : decode cX6_takeGoal 38 = .ok (.aload_n 0, 1) := by decide +kernel
theorem dX6_takeGoal_39 : decode cX6_takeGoal 39 = .ok (.dup, 1) := by decide +kernel
theorem dX6_takeGoal_40 : decode cX6_takeGoal 40 = .ok (.getfield 109, 3) := by decide +kernel
theorem dX6_takeGoal_43 : decode cX6_takeGoal 43 = .ok (.iconst 1, 1) := by decide +kernel
theorem dX6_takeGoal_44 : decode cX6_takeGoal 44 = .ok (.iadd, 1) := by decide +kernel
theorem dX6_takeGoal_45 : decode cX6_takeGoal 45 = .ok (.putfield 109, 3) := by decide +kernel
theorem dX6_takeGoal_48 : decode cX6_takeGoal 48 = .ok (.iload_n 1, 1) := by decide +kernel
theorem dX6_takeGoal_49 : decode cX6_takeGoal 49 = .ok (.ireturn, 1) := by decide +kernel
theorem dX6_kindHere_0 : decode cX6_kindHere 0 = .ok (.aload_n 0, 1) := by decide +kernel
theorem dX6_kindHere_1 : decode cX6_kindHere 1 = .ok (.iconst 4, 1) := by decide +kernel
theorem dX6_kindHere_2 : decode cX6_kindHere 2 = .ok (.bipush 116, 2) := by decide +kernel
theorem dX6_kindHere_4 : decode cX6_kindHere 4 = .ok (.bipush 97, 2) := by decide +kernel
theorem dX6_kindHere_6 : decode cX6_kindHere 6 = .ok (.bipush 107, 2) := by decide +kernel
theorem dX6_kindHere_8 : decode cX6_kindHere 8 = .ok (.bipush 101, 2) := by decide +kernel
theorem dX6_kindHere_10 : decode cX6_kindHere 10 = .ok (.iconst 0, 1) := by decide +kernel
theorem dX6_kindHere_11 : decode cX6_kindHere 11 = .ok (.invokevirtual 112, 3) := by decide +kernel
theorem dX6_kindHere_14 : decode cX6_kindHere 14 = .ok (.ifCond .eq 7, 3) := by decide +kernel
theorem dX6_kindHere_17 : decode cX6_kindHere 17 = .ok (.iconst 0, 1) := by decide +kernel
theorem dX6_kindHere_18 : decode cX6_kindHere 18 = .ok (.goto 67, 3) := by decide +kernel
theorem dX6_kindHere_21 : decode cX6_kindHere 21 = .ok (.aload_n 0, 1) := by decide +kernel
theorem dX6_kindHere_22 : decode cX6_kindHere 22 = .ok (.iconst 4, 1) := by decide +kernel
theorem dX6_kindHere_23 : decode cX6_kindHere 23 = .ok (.bipush 100, 2) := by decide +kernel
theorem dX6_kindHere_25 : decode cX6_kindHere 25 = .ok (.bipush 114, 2) := by decide +kernel
theorem dX6_kindHere_27 : decode cX6_kindHere 27 = .ok (.bipush 111, 2) := by decide +kernel
theorem dX6_kindHere_29 : decode cX6_kindHere 29 = .ok (.bipush 112, 2) := by decide +kernel
theorem dX6_kindHere_31 : decode cX6_kindHere 31 = .ok (.iconst 0, 1) := by decide +kernel
theorem dX6_kindHere_32 : decode cX6_kindHere 32 = .ok (.invokevirtual 112, 3) := by decide +kernel
theorem dX6_kindHere_35 : decode cX6_kindHere 35 = .ok (.ifCond .eq 7, 3) := by decide +kernel
theorem dX6_kindHere_38 : decode cX6_kindHere 38 = .ok (.iconst 1, 1) := by decide +kernel
theorem dX6_kindHere_39 : decode cX6_kindHere 39 = .ok (.goto 46, 3) := by decide +kernel
theorem dX6_kindHere_42 : decode cX6_kindHere 42 = .ok (.aload_n 0, 1) := by decide +kernel
theorem dX6_kindHere_43 : decode cX6_kindHere 43 = .ok (.iconst 4, 1) := by decide +kernel
theorem dX6_kindHere_44 : decode cX6_kindHere 44 = .ok (.bipush 104, 2) := by decide +kernel
theorem dX6_kindHere_46 : decode cX6_kindHere 46 = .ok (.bipush 117, 2) := by decide +kernel
theorem dX6_kindHere_48 : decode cX6_kindHere 48 = .ok (.bipush 114, 2) := by decide +kernel
theorem dX6_kindHere_50 : decode cX6_kindHere 50 = .ok (.bipush 116, 2) := by decide +kernel
theorem dX6_kindHere_52 : decode cX6_kindHere 52 = .ok (.iconst 0, 1) := by decide +kernel
theorem dX6_kindHere_53 : decode cX6_kindHere 53 = .ok (.invokevirtual 112, 3) := by decide +kernel
theorem dX6_kindHere_56 : decode cX6_kindHere 56 = .ok (.ifCond .eq 7, 3) := by decide +kernel
theorem dX6_kindHere_59 : decode cX6_kindHere 59 = .ok (.iconst 2, 1) := by decide +kernel
theorem dX6_kindHere_60 : decode cX6_kindHere 60 = .ok (.goto 25, 3) := by decide +kernel
theorem dX6_kindHere_63 : decode cX6_kindHere 63 = .ok (.aload_n 0, 1) := by decide +kernel
theorem dX6_kindHere_64 : decode cX6_kindHere 64 = .ok (.iconst 4, 1) := by decide +kernel
theorem dX6_kindHere_65 : decode cX6_kindHere 65 = .ok (.bipush 104, 2) := by decide +kernel
theorem dX6_kindHere_67 : decode cX6_kindHere 67 = .ok (.bipush 101, 2) := by decide +kernel
theorem dX6_kindHere_69 : decode cX6_kindHere 69 = .ok (.bipush 97, 2) := by decide +kernel
theorem dX6_kindHere_71 : decode cX6_kindHere 71 = .ok (.bipush 108, 2) := by decide +kernel
theorem dX6_kindHere_73 : decode cX6_kindHere 73 = .ok (.iconst 0, 1) := by decide +kernel
theorem dX6_kindHere_74 : decode cX6_kindHere 74 = .ok (.invokevirtual 112, 3) := by decide +kernel
theorem dX6_kindHere_77 : decode cX6_kindHere 77 = .ok (.ifCond .eq 7, 3) := by decide +kernel
theorem dX6_kindHere_80 : decode cX6_kindHere 80 = .ok (.iconst 3, 1) := by decide +kernel
theorem dX6_kindHere_81 : decode cX6_kindHere 81 = .ok (.goto 4, 3) := by decide +kernel
theorem dX6_kindHere_84 : decode cX6_kindHere 84 = .ok (.iconst (-1), 1) := by decide +kernel
theorem dX6_kindHere_85 : decode cX6_kindHere 85 = .ok (.ireturn, 1) := by decide +kernel
theorem dX6_takeEffects_0 : decode cX6_takeEffects 0 = .ok (.aload_n 0, 1) := by decide +kernel
theorem dX6_takeEffects_1 : decode cX6_takeEffects 1 = .ok (.invokevirtual 116, 3) := by decide +kernel
theorem dX6_takeEffects_4 : decode cX6_takeEffects 4 = .ok (.aload_n 0, 1) := by decide +kernel
theorem dX6_takeEffects_5 : decode cX6_takeEffects 5 = .ok (.invokevirtual 119, 3) := by decide +kernel
theorem dX6_takeEffects_8 : decode cX6_takeEffects 8 = .ok (.istore_n 2, 1) := by decide +kernel
theorem dX6_takeEffects_9 : decode cX6_takeEffects 9 = .ok (.iload_n 2, 1) := by decide +kernel
theorem dX6_takeEffects_10 : decode cX6_takeEffects 10 = .ok (.ifCond .lt 124, 3) := by decide +kernel
theorem dX6_takeEffects_13 : decode cX6_takeEffects 13 = .ok (.aload_n 0, 1) := by decide +kernel
theorem dX6_takeEffects_14 : decode cX6_takeEffects 14 = .ok (.getfield 80, 3) := by decide +kernel
theorem dX6_takeEffects_17 : decode cX6_takeEffects 17 = .ok (.ifCond .ne 117, 3) := by decide +kernel
theorem dX6_takeEffects_20 : decode cX6_takeEffects 20 = .ok (.aload_n 0, 1) := by decide +kernel
theorem dX6_takeEffects_21 : decode cX6_takeEffects 21 = .ok (.getfield 17, 3) := by decide +kernel
theorem dX6_takeEffects_24 : decode cX6_takeEffects 24 = .ok (.bipush 32, 2) := by decide +kernel
theorem dX6_takeEffects_26 : decode cX6_takeEffects 26 = .ok (.iload_n 1, 1) := by decide +kernel
theorem dX6_takeEffects_27 : decode cX6_takeEffects 27 = .ok (.iadd, 1) := by decide +kernel
theorem dX6_takeEffects_28 : decode cX6_takeEffects 28 = .ok (.iaload, 1) := by decide +kernel
theorem dX6_takeEffects_29 : decode cX6_takeEffects 29 = .ok (.istore_n 3, 1) := by decide +kernel
theorem dX6_takeEffects_30 : decode cX6_takeEffects 30 = .ok (.aload_n 0, 1) := by decide +kernel
theorem dX6_takeEffects_31 : decode cX6_takeEffects 31 = .ok (.iload_n 3, 1) := by decide +kernel
theorem dX6_takeEffects_32 : decode cX6_takeEffects 32 = .ok (.iconst 4, 1) := by decide +kernel
theorem dX6_takeEffects_33 : decode cX6_takeEffects 33 = .ok (.if_icmp .ge 7, 3) := by decide +kernel
theorem dX6_takeEffects_36 : decode cX6_takeEffects 36 = .ok (.iconst 1, 1) := by decide +kernel
theorem dX6_takeEffects_37 : decode cX6_takeEffects 37 = .ok (.goto 4, 3) := by decide +kernel
theorem dX6_takeEffects_40 : decode cX6_takeEffects 40 = .ok (.iconst 0, 1) := by decide +kernel
theorem dX6_takeEffects_41 : decode cX6_takeEffects 41 = .ok (.iconst 3, 1) := by decide +kernel
theorem dX6_takeEffects_42 : decode cX6_takeEffects 42 = .ok (.aload_n 0, 1) := by decide +kernel
theorem dX6_takeEffects_43 : decode cX6_takeEffects 43 = .ok (.getfield 87, 3) := by decide +kernel
theorem dX6_takeEffects_46 : decode cX6_takeEffects 46 = .ok (.invokevirtual 101, 3) := by decide +kernel
theorem dX6_takeEffects_49 : decode cX6_takeEffects 49 = .ok (.ifCond .eq 82, 3) := by decide +kernel
theorem dX6_takeEffects_52 : decode cX6_takeEffects 52 = .ok (.aload_n 0, 1) := by decide +kernel
theorem dX6_takeEffects_53 : decode cX6_takeEffects 53 = .ok (.getfield 17, 3) := by decide +kernel
theorem dX6_takeEffects_56 : decode cX6_takeEffects 56 = .ok (.sipush 176, 3) := by decide +kernel
theorem dX6_takeEffects_59 : decode cX6_takeEffects 59 = .ok (.iconst 4, 1) := by decide +kernel
theorem dX6_takeEffects_60 : decode cX6_takeEffects 60 = .ok (.iload_n 1, 1) := by decide +kernel
theorem dX6_takeEffects_61 : decode cX6_takeEffects 61 = .ok (.imul, 1) := by decide +kernel
theorem dX6_takeEffects_62 : decode cX6_takeEffects 62 = .ok (.iadd, 1) := by decide +kernel
theorem dX6_takeEffects_63 : decode cX6_takeEffects 63 = .ok (.iload_n 3, 1) := by decide +kernel
theorem dX6_takeEffects_64 : decode cX6_takeEffects 64 = .ok (.iadd, 1) := by decide +kernel
theorem dX6_takeEffects_65 : decode cX6_takeEffects 65 = .ok (.iload_n 2, 1) := by decide +kernel
theorem dX6_takeEffects_66 : decode cX6_takeEffects 66 = .ok (.iastore, 1) := by decide +kernel
theorem dX6_takeEffects_67 : decode cX6_takeEffects 67 = .ok (.aload_n 0, 1) := by decide +kernel
theorem dX6_takeEffects_68 : decode cX6_takeEffects 68 = .ok (.getfield 17, 3) := by decide +kernel
theorem dX6_takeEffects_71 : decode cX6_takeEffects 71 = .ok (.sipush 272, 3) := by decide +kernel
theorem dX6_takeEffects_74 : decode cX6_takeEffects 74 = .ok (.iconst 4, 1) := by decide +kernel
theorem dX6_takeEffects_75 : decode cX6_takeEffects 75 = .ok (.iload_n 1, 1) := by decide +kernel
theorem dX6_takeEffects_76 : decode cX6_takeEffects 76 = .ok (.imul, 1) := by decide +kernel
theorem dX6_takeEffects_77 : decode cX6_takeEffects 77 = .ok (.iadd, 1) := by decide +kernel
theorem dX6_takeEffects_78 : decode cX6_takeEffects 78 = .ok (.iload_n 3, 1) := by decide +kernel
theorem dX6_takeEffects_79 : decode cX6_takeEffects 79 = .ok (.iadd, 1) := by decide +kernel
theorem dX6_takeEffects_80 : decode cX6_takeEffects 80 = .ok (.iload_n 2, 1) := by decide +kernel
theorem dX6_takeEffects_81 : decode cX6_takeEffects 81 = .ok (.iconst 2, 1) := by decide +kernel
theorem dX6_takeEffects_82 : decode cX6_takeEffects 82 = .ok (.if_icmp .ge 13, 3) := by decide +kernel
theorem dX6_takeEffects_85 : decode cX6_takeEffects 85 = .ok (.aload_n 0, 1) := by decide +kernel
theorem dX6_takeEffects_86 : decode cX6_takeEffects 86 = .ok (.iconst 0, 1) := by decide +kernel
theorem dX6_takeEffects_87 : decode cX6_takeEffects 87 = .ok (.bipush 7, 2) := by decide +kernel
theorem dX6_takeEffects_89 : decode cX6_takeEffects 89 = .ok (.invokevirtual 105, 3) := by decide +kernel
theorem dX6_takeEffects_92 : decode cX6_takeEffects 92 = .ok (.goto 10, 3) := by decide +kernel
theorem dX6_takeEffects_95 : decode cX6_takeEffects 95 = .ok (.aload_n 0, 1) := by decide +kernel
theorem dX6_takeEffects_96 : decode cX6_takeEffects 96 = .ok (.iconst 1, 1) := by decide +kernel
theorem dX6_takeEffects_97 : decode cX6_takeEffects 97 = .ok (.bipush 9, 2) := by decide +kernel
theorem dX6_takeEffects_99 : decode cX6_takeEffects 99 = .ok (.invokevirtual 105, 3) := by decide +kernel
theorem dX6_takeEffects_102 : decode cX6_takeEffects 102 = .ok (.iastore, 1) := by decide +kernel
theorem dX6_takeEffects_103 : decode cX6_takeEffects 103 = .ok (.aload_n 0, 1) := by decide +kernel
theorem dX6_takeEffects_104 : decode cX6_takeEffects 104 = .ok (.getfield 17, 3) := by decide +kernel
theorem dX6_takeEffects_107 : decode cX6_takeEffects 107 = .ok (.bipush 32, 2) := by decide +kernel
theorem dX6_takeEffects_109 : decode cX6_takeEffects 109 = .ok (.iload_n 1, 1) := by decide +kernel
theorem dX6_takeEffects_110 : decode cX6_takeEffects 110 = .ok (.iadd, 1) := by decide +kernel
theorem dX6_takeEffects_111 : decode cX6_takeEffects 111 = .ok (.iload_n 3, 1) := by decide +kernel
theorem dX6_takeEffects_112 : decode cX6_takeEffects 112 = .ok (.iconst 1, 1) := by decide +kernel
theorem dX6_takeEffects_113 : decode cX6_takeEffects 113 = .ok (.iadd, 1) := by decide +kernel
theorem dX6_takeEffects_114 : decode cX6_takeEffects 114 = .ok (.iastore, 1) := by decide +kernel
theorem dX6_takeEffects_115 : decode cX6_takeEffects 115 = .ok (.aload_n 0, 1) := by decide +kernel
theorem dX6_takeEffects_116 : decode cX6_takeEffects 116 = .ok (.getfield 80, 3) := by decide +kernel
theorem dX6_takeEffects_119 : decode cX6_takeEffects 119 = .ok (.ifCond .ne 12, 3) := by decide +kernel
theorem dX6_takeEffects_122 : decode cX6_takeEffects 122 = .ok (.aload_n 0, 1) := by decide +kernel
theorem dX6_takeEffects_123 : decode cX6_takeEffects 123 = .ok (.invokevirtual 116, 3) := by decide +kernel
theorem dX6_takeEffects_126 : decode cX6_takeEffects 126 = .ok (.aload_n 0, 1) := by decide +kernel
theorem dX6_takeEffects_127 : decode cX6_takeEffects 127 = .ok (.invokevirtual 119, 3) := by decide +kernel
theorem dX6_takeEffects_130 : decode cX6_takeEffects 130 = .ok (.istore_n 2, 1) := by decide +kernel
theorem dX6_takeEffects_131 : decode cX6_takeEffects 131 = .ok (.goto (-122), 3) := by decide +kernel
theorem dX6_takeEffects_134 : decode cX6_takeEffects 134 = .ok (.return_, 1) := by decide +kernel
theorem dX6_takeChoices_0 : decode cX6_takeChoices 0 = .ok (.aload_n 0, 1) := by decide +kernel
theorem dX6_takeChoices_1 : decode cX6_takeChoices 1 = .ok (.getfield 80, 3) := by decide +kernel
theorem dX6_takeChoices_4 : decode cX6_takeChoices 4 = .ok (.ifCond .ne 237, 3) := by decide +kernel
theorem dX6_takeChoices_7 : decode cX6_takeChoices 7 = .ok (.aload_n 0, 1) := by decide +kernel
theorem dX6_takeChoices_8 : decode cX6_takeChoices 8 = .ok (.iconst 2, 1) := by decide +kernel
theorem dX6_takeChoices_9 : decode cX6_takeChoices 9 = .ok (.bipush 103, 2) := by decide +kernel
theorem dX6_takeChoices_11 : decode cX6_takeChoices 11 = .ok (.bipush 111, 2) := by decide +kernel
theorem dX6_takeChoices_13 : decode cX6_takeChoices 13 = .ok (.iconst 0, 1) := by decide +kernel
theorem dX6_takeChoices_14 : decode cX6_takeChoices 14 = .ok (.iconst 0, 1) := by decide +kernel
theorem dX6_takeChoices_15 : decode cX6_takeChoices 15 = .ok (.iconst 0, 1) := by decide +kernel
theorem dX6_takeChoices_16 : decode cX6_takeChoices 16 = .ok (.invokevirtual 112, 3) := by decide +kernel
theorem dX6_takeChoices_19 : decode cX6_takeChoices 19 = .ok (.ifCond .eq 222, 3) := by decide +kernel
theorem dX6_takeChoices_22 : decode cX6_takeChoices 22 = .ok (.aload_n 0, 1) := by decide +kernel
theorem dX6_takeChoices_23 : decode cX6_takeChoices 23 = .ok (.getfield 17, 3) := by decide +kernel
theorem dX6_takeChoices_26 : decode cX6_takeChoices 26 = .ok (.bipush 56, 2) := by decide +kernel
theorem dX6_takeChoices_28 : decode cX6_takeChoices 28 = .ok (.iload_n 1, 1) := by decide +kernel
theorem dX6_takeChoices_29 : decode cX6_takeChoices 29 = .ok (.iadd, 1) := by decide +kernel
theorem dX6_takeChoices_30 : decode cX6_takeChoices 30 = .ok (.iaload, 1) := by decide +kernel
theorem dX6_takeChoices_31 : decode cX6_takeChoices 31 = .ok (.istore_n 2, 1) := by decide +kernel
theorem dX6_takeChoices_32 : decode cX6_takeChoices 32 = .ok (.aload_n 0, 1) := by decide +kernel
theorem dX6_takeChoices_33 : decode cX6_takeChoices 33 = .ok (.iload_n 2, 1) := by decide +kernel
theorem dX6_takeChoices_34 : decode cX6_takeChoices 34 = .ok (.bipush 6, 2) := by decide +kernel
theorem dX6_takeChoices_36 : decode cX6_takeChoices 36 = .ok (.if_icmp .ge 7, 3) := by decide +kernel
theorem dX6_takeChoices_39 : decode cX6_takeChoices 39 = .ok (.iconst 1, 1) := by decide +kernel
theorem dX6_takeChoices_40 : decode cX6_takeChoices 40 = .ok (.goto 4, 3) := by decide +kernel
theorem dX6_takeChoices_43 : decode cX6_takeChoices 43 = .ok (.iconst 0, 1) := by decide +kernel
theorem dX6_takeChoices_44 : decode cX6_takeChoices 44 = .ok (.iconst 3, 1) := by decide +kernel
theorem dX6_takeChoices_45 : decode cX6_takeChoices 45 = .ok (.aload_n 0, 1) := by decide +kernel
theorem dX6_takeChoices_46 : decode cX6_takeChoices 46 = .ok (.getfield 87, 3) := by decide +kernel
theorem dX6_takeChoices_49 : decode cX6_takeChoices 49 = .ok (.invokevirtual 101, 3) := by decide +kernel
theorem dX6_takeChoices_52 : decode cX6_takeChoices 52 = .ok (.ifCond .eq 186, 3) := by decide +kernel
theorem dX6_takeChoices_55 : decode cX6_takeChoices 55 = .ok (.bipush 6, 2) := by decide +kernel
theorem dX6_takeChoices_57 : decode cX6_takeChoices 57 = .ok (.iload_n 1, 1) := by decide +kernel
theorem dX6_takeChoices_58 : decode cX6_takeChoices 58 = .ok (.imul, 1) := by decide +kernel
theorem dX6_takeChoices_59 : decode cX6_takeChoices 59 = .ok (.iload_n 2, 1) := by decide +kernel
theorem dX6_takeChoices_60 : decode cX6_takeChoices 60 = .ok (.iadd, 1) := by decide +kernel
theorem dX6_takeChoices_61 : decode cX6_takeChoices 61 = .ok (.istore_n 3, 1) := by decide +kernel
theorem dX6_takeChoices_62 : decode cX6_takeChoices 62 = .ok (.aload_n 0, 1) := by decide +kernel
theorem dX6_takeChoices_63 : decode cX6_takeChoices 63 = .ok (.getfield 17, 3) := by decide +kernel
theorem dX6_takeChoices_66 : decode cX6_takeChoices 66 = .ok (.sipush 368, 3) := by decide +kernel
theorem dX6_takeChoices_69 : decode cX6_takeChoices 69 = .ok (.iload_n 3, 1) := by decide +kernel
theorem dX6_takeChoices_70 : decode cX6_takeChoices 70 = .ok (.iadd, 1) := by decide +kernel
theorem dX6_takeChoices_71 : decode cX6_takeChoices 71 = .ok (.aload_n 0, 1) := by decide +kernel
theorem dX6_takeChoices_72 : decode cX6_takeChoices 72 = .ok (.invokevirtual 122, 3) := by decide +kernel
theorem dX6_takeChoices_75 : decode cX6_takeChoices 75 = .ok (.iastore, 1) := by decide +kernel
theorem dX6_takeChoices_76 : decode cX6_takeChoices 76 = .ok (.aload_n 0, 1) := by decide +kernel
theorem dX6_takeChoices_77 : decode cX6_takeChoices 77 = .ok (.getfield 17, 3) := by decide +kernel
theorem dX6_takeChoices_80 : decode cX6_takeChoices 80 = .ok (.sipush 512, 3) := by decide +kernel
theorem dX6_takeChoices_83 : decode cX6_takeChoices 83 = .ok (.iload_n 3, 1) := by decide +kernel
theorem dX6_takeChoices_84 : decode cX6_takeChoices 84 = .ok (.iadd, 1) := by decide +kernel
theorem dX6_takeChoices_85 : decode cX6_takeChoices 85 = .ok (.iconst (-1), 1) := by decide +kernel
theorem dX6_takeChoices_86 : decode cX6_takeChoices 86 = .ok (.iastore, 1) := by decide +kernel
theorem dX6_takeChoices_87 : decode cX6_takeChoices 87 = .ok (.aload_n 0, 1) := by decide +kernel
theorem dX6_takeChoices_88 : decode cX6_takeChoices 88 = .ok (.getfield 17, 3) := by decide +kernel
theorem dX6_takeChoices_91 : decode cX6_takeChoices 91 = .ok (.sipush 656, 3) := by decide +kernel
theorem dX6_takeChoices_94 : decode cX6_takeChoices 94 = .ok (.iload_n 3, 1) := by decide +kernel
theorem dX6_takeChoices_95 : decode cX6_takeChoices 95 = .ok (.iadd, 1) := by decide +kernel
theorem dX6_takeChoices_96 : decode cX6_takeChoices 96 = .ok (.iconst (-1), 1) := by decide +kernel
theorem dX6_takeChoices_97 : decode cX6_takeChoices 97 = .ok (.iastore, 1) := by decide +kernel
theorem dX6_takeChoices_98 : decode cX6_takeChoices 98 = .ok (.aload_n 0, 1) := by decide +kernel
theorem dX6_takeChoices_99 : decode cX6_takeChoices 99 = .ok (.getfield 80, 3) := by decide +kernel
theorem dX6_takeChoices_102 : decode cX6_takeChoices 102 = .ok (.ifCond .ne 7, 3) := by decide +kernel
theorem dX6_takeChoices_105 : decode cX6_takeChoices 105 = .ok (.aload_n 0, 1) := by decide +kernel
theorem dX6_takeChoices_106 : decode cX6_takeChoices 106 = .ok (.invokevirtual 116, 3) := by decide +kernel
theorem dX6_takeChoices_109 : decode cX6_takeChoices 109 = .ok (.aload_n 0, 1) := by decide +kernel
theorem dX6_takeChoices_110 : decode cX6_takeChoices 110 = .ok (.getfield 80, 3) := by decide +kernel
theorem dX6_takeChoices_113 : decode cX6_takeChoices 113 = .ok (.ifCond .ne 48, 3) := by decide +kernel
theorem dX6_takeChoices_116 : decode cX6_takeChoices 116 = .ok (.aload_n 0, 1) := by decide +kernel
theorem dX6_takeChoices_117 : decode cX6_takeChoices 117 = .ok (.iconst 4, 1) := by decide +kernel
theorem dX6_takeChoices_118 : decode cX6_takeChoices 118 = .ok (.bipush 119, 2) := by decide +kernel
theorem dX6_takeChoices_120 : decode cX6_takeChoices 120 = .ok (.bipush 105, 2) := by decide +kernel
theorem dX6_takeChoices_122 : decode cX6_takeChoices 122 = .ok (.bipush 116, 2) := by decide +kernel
theorem dX6_takeChoices_124 : decode cX6_takeChoices 124 = .ok (.bipush 104, 2) := by decide +kernel
theorem dX6_takeChoices_126 : decode cX6_takeChoices 126 = .ok (.iconst 0, 1) := by decide +kernel
theorem dX6_takeChoices_127 : decode cX6_takeChoices 127 = .ok (.invokevirtual 112, 3) := by decide +kernel
theorem dX6_takeChoices_130 : decode cX6_takeChoices 130 = .ok (.ifCond .eq 31, 3) := by decide +kernel
theorem dX6_takeChoices_133 : decode cX6_takeChoices 133 = .ok (.aload_n 0, 1) := by decide +kernel
theorem dX6_takeChoices_134 : decode cX6_takeChoices 134 = .ok (.getfield 17, 3) := by decide +kernel
theorem dX6_takeChoices_137 : decode cX6_takeChoices 137 = .ok (.sipush 512, 3) := by decide +kernel
theorem dX6_takeChoices_140 : decode cX6_takeChoices 140 = .ok (.iload_n 3, 1) := by decide +kernel
theorem dX6_takeChoices_141 : decode cX6_takeChoices 141 = .ok (.iadd, 1) := by decide +kernel
theorem dX6_takeChoices_142 : decode cX6_takeChoices 142 = .ok (.aload_n 0, 1) := by decide +kernel
theorem dX6_takeChoices_143 : decode cX6_takeChoices 143 = .ok (.iconst 0, 1) := by decide +kernel
theorem dX6_takeChoices_144 : decode cX6_takeChoices 144 = .ok (.bipush 7, 2) := by decide +kernel
theorem dX6_takeChoices_146 : decode cX6_takeChoices 146 = .ok (.invokevirtual 105, 3) := by decide +kernel
theorem dX6_takeChoices_149 : decode cX6_takeChoices 149 = .ok (.iastore, 1) := by decide +kernel
theorem dX6_takeChoices_150 : decode cX6_takeChoices 150 = .ok (.aload_n 0, 1) := by decide +kernel
theorem dX6_takeChoices_151 : decode cX6_takeChoices 151 = .ok (.getfield 80, 3) := by decide +kernel
theorem dX6_takeChoices_154 : decode cX6_takeChoices 154 = .ok (.ifCond .ne 7, 3) := by decide +kernel
theorem dX6_takeChoices_157 : decode cX6_takeChoices 157 = .ok (.aload_n 0, 1) := by decide +kernel
theorem dX6_takeChoices_158 : decode cX6_takeChoices 158 = .ok (.invokevirtual 116, 3) := by decide +kernel
theorem dX6_takeChoices_161 : decode cX6_takeChoices 161 = .ok (.aload_n 0, 1) := by decide +kernel
theorem dX6_takeChoices_162 : decode cX6_takeChoices 162 = .ok (.getfield 80, 3) := by decide +kernel
theorem dX6_takeChoices_165 : decode cX6_takeChoices 165 = .ok (.ifCond .ne 61, 3) := by decide +kernel
theorem dX6_takeChoices_168 : decode cX6_takeChoices 168 = .ok (.aload_n 0, 1) := by decide +kernel
theorem dX6_takeChoices_169 : decode cX6_takeChoices 169 = .ok (.bipush 7, 2) := by decide +kernel
theorem dX6_takeChoices_171 : decode cX6_takeChoices 171 = .ok (.bipush 111, 2) := by decide +kernel
theorem dX6_takeChoices_173 : decode cX6_takeChoices 173 = .ok (.bipush 117, 2) := by decide +kernel
theorem dX6_takeChoices_175 : decode cX6_takeChoices 175 = .ok (.bipush 116, 2) := by decide +kernel
theorem dX6_takeChoices_177 : decode cX6_takeChoices 177 = .ok (.invokevirtual 125, 3) := by decide +kernel
theorem dX6_takeChoices_180 : decode cX6_takeChoices 180 = .ok (.ifCond .eq 46, 3) := by decide +kernel
theorem dX6_takeChoices_183 : decode cX6_takeChoices 183 = .ok (.aload_n 0, 1) := by decide +kernel
theorem dX6_takeChoices_184 : decode cX6_takeChoices 184 = .ok (.bipush 119, 2) := by decide +kernel
theorem dX6_takeChoices_186 : decode cX6_takeChoices 186 = .ok (.bipush 105, 2) := by decide +kernel
theorem dX6_takeChoices_188 : decode cX6_takeChoices 188 = .ok (.bipush 116, 2) := by decide +kernel
theorem dX6_takeChoices_190 : decode cX6_takeChoices 190 = .ok (.bipush 104, 2) := by decide +kernel
theorem dX6_takeChoices_192 : decode cX6_takeChoices 192 = .ok (.invokevirtual 129, 3) := by decide +kernel
theorem dX6_takeChoices_195 : decode cX6_takeChoices 195 = .ok (.ifCond .eq 31, 3) := by decide +kernel
theorem dX6_takeChoices_198 : decode cX6_takeChoices 198 = .ok (.aload_n 0, 1) := by decide +kernel
theorem dX6_takeChoices_199 : decode cX6_takeChoices 199 = .ok (.getfield 17, 3) := by decide +kernel
theorem dX6_takeChoices_202 : decode cX6_takeChoices 202 = .ok (.sipush 656, 3) := by decide +kernel
theorem dX6_takeChoices_205 : decode cX6_takeChoices 205 = .ok (.iload_n 3, 1) := by decide +kernel
theorem dX6_takeChoices_206 : decode cX6_takeChoices 206 = .ok (.iadd, 1) := by decide +kernel
theorem dX6_takeChoices_207 : decode cX6_takeChoices 207 = .ok (.aload_n 0, 1) := by decide +kernel
theorem dX6_takeChoices_208 : decode cX6_takeChoices 208 = .ok (.iconst 0, 1) := by decide +kernel
theorem dX6_takeChoices_209 : decode cX6_takeChoices 209 = .ok (.bipush 7, 2) := by decide +kernel
theorem dX6_takeChoices_211 : decode cX6_takeChoices 211 = .ok (.invokevirtual 105, 3) := by decide +kernel
theorem dX6_takeChoices_214 : decode cX6_takeChoices 214 = .ok (.iastore, 1) := by decide +kernel
theorem dX6_takeChoices_215 : decode cX6_takeChoices 215 = .ok (.aload_n 0, 1) := by decide +kernel
theorem dX6_takeChoices_216 : decode cX6_takeChoices 216 = .ok (.getfield 80, 3) := by decide +kernel
theorem dX6_takeChoices_219 : decode cX6_takeChoices 219 = .ok (.ifCond .ne 7, 3) := by decide +kernel
theorem dX6_takeChoices_222 : decode cX6_takeChoices 222 = .ok (.aload_n 0, 1) := by decide +kernel
theorem dX6_takeChoices_223 : decode cX6_takeChoices 223 = .ok (.invokevirtual 116, 3) := by decide +kernel
theorem dX6_takeChoices_226 : decode cX6_takeChoices 226 = .ok (.aload_n 0, 1) := by decide +kernel
theorem dX6_takeChoices_227 : decode cX6_takeChoices 227 = .ok (.getfield 17, 3) := by decide +kernel
theorem dX6_takeChoices_230 : decode cX6_takeChoices 230 = .ok (.bipush 56, 2) := by decide +kernel
theorem dX6_takeChoices_232 : decode cX6_takeChoices 232 = .ok (.iload_n 1, 1) := by decide +kernel
theorem dX6_takeChoices_233 : decode cX6_takeChoices 233 = .ok (.iadd, 1) := by decide +kernel
theorem dX6_takeChoices_234 : decode cX6_takeChoices 234 = .ok (.iload_n 2, 1) := by decide +kernel
theorem dX6_takeChoices_235 : decode cX6_takeChoices 235 = .ok (.iconst 1, 1) := by decide +kernel
theorem dX6_takeChoices_236 : decode cX6_takeChoices 236 = .ok (.iadd, 1) := by decide +kernel
theorem dX6_takeChoices_237 : decode cX6_takeChoices 237 = .ok (.iastore, 1) := by decide +kernel
theorem dX6_takeChoices_238 : decode cX6_takeChoices 238 = .ok (.goto (-238), 3) := by decide +kernel
theorem dX6_takeChoices_241 : decode cX6_takeChoices 241 = .ok (.aload_n 0, 1) := by decide +kernel
theorem dX6_takeChoices_242 : decode cX6_takeChoices 242 = .ok (.getfield 80, 3) := by decide +kernel
theorem dX6_takeChoices_245 : decode cX6_takeChoices 245 = .ok (.ifCond .ne 11, 3) := by decide +kernel
theorem dX6_takeChoices_248 : decode cX6_takeChoices 248 = .ok (.aload_n 0, 1) := by decide +kernel
theorem dX6_takeChoices_249 : decode cX6_takeChoices 249 = .ok (.aload_n 0, 1) := by decide +kernel
theorem dX6_takeChoices_250 : decode cX6_takeChoices 250 = .ok (.getfield 87, 3) := by decide +kernel
theorem dX6_takeChoices_253 : decode cX6_takeChoices 253 = .ok (.putfield 77, 3) := by decide +kernel
theorem dX6_takeChoices_256 : decode cX6_takeChoices 256 = .ok (.return_, 1) := by decide +kernel
theorem dX6_takePart_0 : decode cX6_takePart 0 = .ok (.aload_n 0, 1) := by decide +kernel
theorem dX6_takePart_1 : decode cX6_takePart 1 = .ok (.getfield 17, 3) := by decide +kernel
theorem dX6_takePart_4 : decode cX6_takePart 4 = .ok (.iconst 0, 1) := by decide +kernel
theorem dX6_takePart_5 : decode cX6_takePart 5 = .ok (.iaload, 1) := by decide +kernel
theorem dX6_takePart_6 : decode cX6_takePart 6 = .ok (.istore_n 1, 1) := by decide +kernel
theorem dX6_takePart_7 : decode cX6_takePart 7 = .ok (.aload_n 0, 1) := by decide +kernel
theorem dX6_takePart_8 : decode cX6_takePart 8 = .ok (.iload_n 1, 1) := by decide +kernel
theorem dX6_takePart_9 : decode cX6_takePart 9 = .ok (.bipush 24, 2) := by decide +kernel
theorem dX6_takePart_11 : decode cX6_takePart 11 = .ok (.if_icmp .ge 7, 3) := by decide +kernel
theorem dX6_takePart_14 : decode cX6_takePart 14 = .ok (.iconst 1, 1) := by decide +kernel
theorem dX6_takePart_15 : decode cX6_takePart 15 = .ok (.goto 4, 3) := by decide +kernel
theorem dX6_takePart_18 : decode cX6_takePart 18 = .ok (.iconst 0, 1) := by decide +kernel
theorem dX6_takePart_19 : decode cX6_takePart 19 = .ok (.iconst 3, 1) := by decide +kernel
theorem dX6_takePart_20 : decode cX6_takePart 20 = .ok (.aload_n 0, 1) := by decide +kernel
theorem dX6_takePart_21 : decode cX6_takePart 21 = .ok (.getfield 87, 3) := by decide +kernel
theorem dX6_takePart_24 : decode cX6_takePart 24 = .ok (.invokevirtual 101, 3) := by decide +kernel
theorem dX6_takePart_27 : decode cX6_takePart 27 = .ok (.ifCond .ne 4, 3) := by decide +kernel
theorem dX6_takePart_30 : decode cX6_takePart 30 = .ok (.return_, 1) := by decide +kernel
theorem dX6_takePart_31 : decode cX6_takePart 31 = .ok (.aload_n 0, 1) := by decide +kernel
theorem dX6_takePart_32 : decode cX6_takePart 32 = .ok (.getfield 17, 3) := by decide +kernel
theorem dX6_takePart_35 : decode cX6_takePart 35 = .ok (.iconst 0, 1) := by decide +kernel
theorem dX6_takePart_36 : decode cX6_takePart 36 = .ok (.iload_n 1, 1) := by decide +kernel
theorem dX6_takePart_37 : decode cX6_takePart 37 = .ok (.iconst 1, 1) := by decide +kernel
theorem dX6_takePart_38 : decode cX6_takePart 38 = .ok (.iadd, 1) := by decide +kernel
theorem dX6_takePart_39 : decode cX6_takePart 39 = .ok (.iastore, 1) := by decide +kernel
theorem dX6_takePart_40 : decode cX6_takePart 40 = .ok (.aload_n 0, 1) := by decide +kernel
theorem dX6_takePart_41 : decode cX6_takePart 41 = .ok (.iload_n 1, 1) := by decide +kernel
theorem dX6_takePart_42 : decode cX6_takePart 42 = .ok (.invokevirtual 132, 3) := by decide +kernel
theorem dX6_takePart_45 : decode cX6_takePart 45 = .ok (.aload_n 0, 1) := by decide +kernel
theorem dX6_takePart_46 : decode cX6_takePart 46 = .ok (.getfield 80, 3) := by decide +kernel
theorem dX6_takePart_49 : decode cX6_takePart 49 = .ok (.ifCond .ne 32, 3) := by decide +kernel
theorem dX6_takePart_52 : decode cX6_takePart 52 = .ok (.aload_n 0, 1) := by decide +kernel
theorem dX6_takePart_53 : decode cX6_takePart 53 = .ok (.iconst 3, 1) := by decide +kernel
theorem dX6_takePart_54 : decode cX6_takePart 54 = .ok (.bipush 119, 2) := by decide +kernel
theorem dX6_takePart_56 : decode cX6_takePart 56 = .ok (.bipush 105, 2) := by decide +kernel
theorem dX6_takePart_58 : decode cX6_takePart 58 = .ok (.bipush 110, 2) := by decide +kernel
theorem dX6_takePart_60 : decode cX6_takePart 60 = .ok (.iconst 0, 1) := by decide +kernel
theorem dX6_takePart_61 : decode cX6_takePart 61 = .ok (.iconst 0, 1) := by decide +kernel
theorem dX6_takePart_62 : decode cX6_takePart 62 = .ok (.invokevirtual 112, 3) := by decide +kernel
theorem dX6_takePart_65 : decode cX6_takePart 65 = .ok (.ifCond .eq 16, 3) := by decide +kernel
theorem dX6_takePart_68 : decode cX6_takePart 68 = .ok (.aload_n 0, 1) := by decide +kernel
theorem dX6_takePart_69 : decode cX6_takePart 69 = .ok (.getfield 17, 3) := by decide +kernel
theorem dX6_takePart_72 : decode cX6_takePart 72 = .ok (.bipush 8, 2) := by decide +kernel
theorem dX6_takePart_74 : decode cX6_takePart 74 = .ok (.iload_n 1, 1) := by decide +kernel
theorem dX6_takePart_75 : decode cX6_takePart 75 = .ok (.iadd, 1) := by decide +kernel
theorem dX6_takePart_76 : decode cX6_takePart 76 = .ok (.iconst 1, 1) := by decide +kernel
theorem dX6_takePart_77 : decode cX6_takePart 77 = .ok (.iastore, 1) := by decide +kernel
theorem dX6_takePart_78 : decode cX6_takePart 78 = .ok (.goto 146, 3) := by decide +kernel
theorem dX6_takePart_81 : decode cX6_takePart 81 = .ok (.aload_n 0, 1) := by decide +kernel
theorem dX6_takePart_82 : decode cX6_takePart 82 = .ok (.getfield 80, 3) := by decide +kernel
theorem dX6_takePart_85 : decode cX6_takePart 85 = .ok (.ifCond .ne 32, 3) := by decide +kernel
theorem dX6_takePart_88 : decode cX6_takePart 88 = .ok (.aload_n 0, 1) := by decide +kernel
theorem dX6_takePart_89 : decode cX6_takePart 89 = .ok (.iconst 3, 1) := by decide +kernel
theorem dX6_takePart_90 : decode cX6_takePart 90 = .ok (.bipush 100, 2) := by decide +kernel
theorem dX6_takePart_92 : decode cX6_takePart 92 = .ok (.bipush 105, 2) := by decide +kernel
theorem dX6_takePart_94 : decode cX6_takePart 94 = .ok (.bipush 101, 2) := by decide +kernel
theorem dX6_takePart_96 : decode cX6_takePart 96 = .ok (.iconst 0, 1) := by decide +kernel
theorem dX6_takePart_97 : decode cX6_takePart 97 = .ok (.iconst 0, 1) := by decide +kernel
theorem dX6_takePart_98 : decode cX6_takePart 98 = .ok (.invokevirtual 112, 3) := by decide +kernel
theorem dX6_takePart_101 : decode cX6_takePart 101 = .ok (.ifCond .eq 16, 3) := by decide +kernel
theorem dX6_takePart_104 : decode cX6_takePart 104 = .ok (.aload_n 0, 1) := by decide +kernel
theorem dX6_takePart_105 : decode cX6_takePart 105 = .ok (.getfield 17, 3) := by decide +kernel
theorem dX6_takePart_108 : decode cX6_takePart 108 = .ok (.bipush 8, 2) := by decide +kernel
theorem dX6_takePart_110 : decode cX6_takePart 110 = .ok (.iload_n 1, 1) := by decide +kernel
theorem dX6_takePart_111 : decode cX6_takePart 111 = .ok (.iadd, 1) := by decide +kernel
theorem dX6_takePart_112 : decode cX6_takePart 112 = .ok (.iconst 2, 1) := by decide +kernel
theorem dX6_takePart_113 : decode cX6_takePart 113 = .ok (.iastore, 1) := by decide +kernel
theorem dX6_takePart_114 : decode cX6_takePart 114 = .ok (.goto 110, 3) := by decide +kernel
theorem dX6_takePart_117 : decode cX6_takePart 117 = .ok (.aload_n 0, 1) := by decide +kernel
theorem dX6_takePart_118 : decode cX6_takePart 118 = .ok (.getfield 80, 3) := by decide +kernel
theorem dX6_takePart_121 : decode cX6_takePart 121 = .ok (.ifCond .ne 98, 3) := by decide +kernel
theorem dX6_takePart_124 : decode cX6_takePart 124 = .ok (.aload_n 0, 1) := by decide +kernel
theorem dX6_takePart_125 : decode cX6_takePart 125 = .ok (.iconst 4, 1) := by decide +kernel
theorem dX6_takePart_126 : decode cX6_takePart 126 = .ok (.bipush 114, 2) := by decide +kernel
theorem dX6_takePart_128 : decode cX6_takePart 128 = .ok (.bipush 111, 2) := by decide +kernel
theorem dX6_takePart_130 : decode cX6_takePart 130 = .ok (.bipush 108, 2) := by decide +kernel
theorem dX6_takePart_132 : decode cX6_takePart 132 = .ok (.bipush 108, 2) := by decide +kernel
theorem dX6_takePart_134 : decode cX6_takePart 134 = .ok (.iconst 0, 1) := by decide +kernel
theorem dX6_takePart_135 : decode cX6_takePart 135 = .ok (.invokevirtual 112, 3) := by decide +kernel
theorem dX6_takePart_138 : decode cX6_takePart 138 = .ok (.ifCond .eq 81, 3) := by decide +kernel
theorem dX6_takePart_141 : decode cX6_takePart 141 = .ok (.aload_n 0, 1) := by decide +kernel
theorem dX6_takePart_142 : decode cX6_takePart 142 = .ok (.getfield 17, 3) := by decide +kernel
theorem dX6_takePart_145 : decode cX6_takePart 145 = .ok (.bipush 8, 2) := by decide +kernel
theorem dX6_takePart_147 : decode cX6_takePart 147 = .ok (.iload_n 1, 1) := by decide +kernel
theorem dX6_takePart_148 : decode cX6_takePart 148 = .ok (.iadd, 1) := by decide +kernel
theorem dX6_takePart_149 : decode cX6_takePart 149 = .ok (.iconst 3, 1) := by decide +kernel
theorem dX6_takePart_150 : decode cX6_takePart 150 = .ok (.iastore, 1) := by decide +kernel
theorem dX6_takePart_151 : decode cX6_takePart 151 = .ok (.aload_n 0, 1) := by decide +kernel
theorem dX6_takePart_152 : decode cX6_takePart 152 = .ok (.getfield 17, 3) := by decide +kernel
theorem dX6_takePart_155 : decode cX6_takePart 155 = .ok (.bipush 80, 2) := by decide +kernel
theorem dX6_takePart_157 : decode cX6_takePart 157 = .ok (.iload_n 1, 1) := by decide +kernel
theorem dX6_takePart_158 : decode cX6_takePart 158 = .ok (.iadd, 1) := by decide +kernel
theorem dX6_takePart_159 : decode cX6_takePart 159 = .ok (.aload_n 0, 1) := by decide +kernel
theorem dX6_takePart_160 : decode cX6_takePart 160 = .ok (.iconst 2, 1) := by decide +kernel
theorem dX6_takePart_161 : decode cX6_takePart 161 = .ok (.bipush 6, 2) := by decide +kernel
theorem dX6_takePart_163 : decode cX6_takePart 163 = .ok (.invokevirtual 105, 3) := by decide +kernel
theorem dX6_takePart_166 : decode cX6_takePart 166 = .ok (.iastore, 1) := by decide +kernel
theorem dX6_takePart_167 : decode cX6_takePart 167 = .ok (.aload_n 0, 1) := by decide +kernel
theorem dX6_takePart_168 : decode cX6_takePart 168 = .ok (.getfield 17, 3) := by decide +kernel
theorem dX6_takePart_171 : decode cX6_takePart 171 = .ok (.bipush 104, 2) := by decide +kernel
theorem dX6_takePart_173 : decode cX6_takePart 173 = .ok (.iload_n 1, 1) := by decide +kernel
theorem dX6_takePart_174 : decode cX6_takePart 174 = .ok (.iadd, 1) := by decide +kernel
theorem dX6_takePart_175 : decode cX6_takePart 175 = .ok (.aload_n 0, 1) := by decide +kernel
theorem dX6_takePart_176 : decode cX6_takePart 176 = .ok (.getfield 80, 3) := by decide +kernel
theorem dX6_takePart_179 : decode cX6_takePart 179 = .ok (.ifCond .ne 10, 3) := by decide +kernel
theorem dX6_takePart_182 : decode cX6_takePart 182 = .ok (.aload_n 0, 1) := by decide +kernel
theorem dX6_takePart_183 : decode cX6_takePart 183 = .ok (.invokevirtual 122, 3) := by decide +kernel
theorem dX6_takePart_186 : decode cX6_takePart 186 = .ok (.goto 4, 3) := by decide +kernel
theorem dX6_takePart_189 : decode cX6_takePart 189 = .ok (.iconst 0, 1) := by decide +kernel
theorem dX6_takePart_190 : decode cX6_takePart 190 = .ok (.iastore, 1) := by decide +kernel
theorem dX6_takePart_191 : decode cX6_takePart 191 = .ok (.aload_n 0, 1) := by decide +kernel
theorem dX6_takePart_192 : decode cX6_takePart 192 = .ok (.getfield 17, 3) := by decide +kernel
theorem dX6_takePart_195 : decode cX6_takePart 195 = .ok (.sipush 128, 3) := by decide +kernel
theorem dX6_takePart_198 : decode cX6_takePart 198 = .ok (.iload_n 1, 1) := by decide +kernel
theorem dX6_takePart_199 : decode cX6_takePart 199 = .ok (.iadd, 1) := by decide +kernel
theorem dX6_takePart_200 : decode cX6_takePart 200 = .ok (.aload_n 0, 1) := by decide +kernel
theorem dX6_takePart_201 : decode cX6_takePart 201 = .ok (.getfield 80, 3) := by decide +kernel
theorem dX6_takePart_204 : decode cX6_takePart 204 = .ok (.ifCond .ne 10, 3) := by decide +kernel
theorem dX6_takePart_207 : decode cX6_takePart 207 = .ok (.aload_n 0, 1) := by decide +kernel
theorem dX6_takePart_208 : decode cX6_takePart 208 = .ok (.invokevirtual 122, 3) := by decide +kernel
theorem dX6_takePart_211 : decode cX6_takePart 211 = .ok (.goto 4, 3) := by decide +kernel
theorem dX6_takePart_214 : decode cX6_takePart 214 = .ok (.iconst 0, 1) := by decide +kernel
theorem dX6_takePart_215 : decode cX6_takePart 215 = .ok (.iastore, 1) := by decide +kernel
theorem dX6_takePart_216 : decode cX6_takePart 216 = .ok (.goto 8, 3) := by decide +kernel
theorem dX6_takePart_219 : decode cX6_takePart 219 = .ok (.aload_n 0, 1) := by decide +kernel
theorem dX6_takePart_220 : decode cX6_takePart 220 = .ok (.iload_n 1, 1) := by decide +kernel
theorem dX6_takePart_221 : decode cX6_takePart 221 = .ok (.invokevirtual 136, 3) := by decide +kernel
theorem dX6_takePart_224 : decode cX6_takePart 224 = .ok (.return_, 1) := by decide +kernel
theorem dX6_takeClause_0 : decode cX6_takeClause 0 = .ok (.aload_n 0, 1) := by decide +kernel
theorem dX6_takeClause_1 : decode cX6_takeClause 1 = .ok (.invokevirtual 116, 3) := by decide +kernel
theorem dX6_takeClause_4 : decode cX6_takeClause 4 = .ok (.aload_n 0, 1) := by decide +kernel
theorem dX6_takeClause_5 : decode cX6_takeClause 5 = .ok (.iconst 4, 1) := by decide +kernel
theorem dX6_takeClause_6 : decode cX6_takeClause 6 = .ok (.bipush 112, 2) := by decide +kernel
theorem dX6_takeClause_8 : decode cX6_takeClause 8 = .ok (.bipush 97, 2) := by decide +kernel
theorem dX6_takeClause_10 : decode cX6_takeClause 10 = .ok (.bipush 114, 2) := by decide +kernel
theorem dX6_takeClause_12 : decode cX6_takeClause 12 = .ok (.bipush 116, 2) := by decide +kernel
theorem dX6_takeClause_14 : decode cX6_takeClause 14 = .ok (.iconst 0, 1) := by decide +kernel
theorem dX6_takeClause_15 : decode cX6_takeClause 15 = .ok (.invokevirtual 112, 3) := by decide +kernel
theorem dX6_takeClause_18 : decode cX6_takeClause 18 = .ok (.ifCond .eq 10, 3) := by decide +kernel
theorem dX6_takeClause_21 : decode cX6_takeClause 21 = .ok (.aload_n 0, 1) := by decide +kernel
theorem dX6_takeClause_22 : decode cX6_takeClause 22 = .ok (.invokevirtual 139, 3) := by decide +kernel
theorem dX6_takeClause_25 : decode cX6_takeClause 25 = .ok (.goto 92, 3) := by decide +kernel
theorem dX6_takeClause_28 : decode cX6_takeClause 28 = .ok (.aload_n 0, 1) := by decide +kernel
theorem dX6_takeClause_29 : decode cX6_takeClause 29 = .ok (.aload_n 0, 1) := by decide +kernel
theorem dX6_takeClause_30 : decode cX6_takeClause 30 = .ok (.bipush 6, 2) := by decide +kernel
theorem dX6_takeClause_32 : decode cX6_takeClause 32 = .ok (.bipush 108, 2) := by decide +kernel
theorem dX6_takeClause_34 : decode cX6_takeClause 34 = .ok (.bipush 116, 2) := by decide +kernel
theorem dX6_takeClause_36 : decode cX6_takeClause 36 = .ok (.bipush 104, 2) := by decide +kernel
theorem dX6_takeClause_38 : decode cX6_takeClause 38 = .ok (.invokevirtual 125, 3) := by decide +kernel
theorem dX6_takeClause_41 : decode cX6_takeClause 41 = .ok (.ifCond .eq 22, 3) := by decide +kernel
theorem dX6_takeClause_44 : decode cX6_takeClause 44 = .ok (.aload_n 0, 1) := by decide +kernel
theorem dX6_takeClause_45 : decode cX6_takeClause 45 = .ok (.bipush 104, 2) := by decide +kernel
theorem dX6_takeClause_47 : decode cX6_takeClause 47 = .ok (.bipush 101, 2) := by decide +kernel
theorem dX6_takeClause_49 : decode cX6_takeClause 49 = .ok (.bipush 97, 2) := by decide +kernel
theorem dX6_takeClause_51 : decode cX6_takeClause 51 = .ok (.bipush 108, 2) := by decide +kernel
theorem dX6_takeClause_53 : decode cX6_takeClause 53 = .ok (.invokevirtual 129, 3) := by decide +kernel
theorem dX6_takeClause_56 : decode cX6_takeClause 56 = .ok (.ifCond .eq 7, 3) := by decide +kernel
theorem dX6_takeClause_59 : decode cX6_takeClause 59 = .ok (.iconst 1, 1) := by decide +kernel
theorem dX6_takeClause_60 : decode cX6_takeClause 60 = .ok (.goto 4, 3) := by decide +kernel
theorem dX6_takeClause_63 : decode cX6_takeClause 63 = .ok (.iconst 0, 1) := by decide +kernel
theorem dX6_takeClause_64 : decode cX6_takeClause 64 = .ok (.iconst 1, 1) := by decide +kernel
theorem dX6_takeClause_65 : decode cX6_takeClause 65 = .ok (.aload_n 0, 1) := by decide +kernel
theorem dX6_takeClause_66 : decode cX6_takeClause 66 = .ok (.getfield 87, 3) := by decide +kernel
theorem dX6_takeClause_69 : decode cX6_takeClause 69 = .ok (.invokevirtual 101, 3) := by decide +kernel
theorem dX6_takeClause_72 : decode cX6_takeClause 72 = .ok (.ifCond .eq 45, 3) := by decide +kernel
theorem dX6_takeClause_75 : decode cX6_takeClause 75 = .ok (.aload_n 0, 1) := by decide +kernel
theorem dX6_takeClause_76 : decode cX6_takeClause 76 = .ok (.aload_n 0, 1) := by decide +kernel
theorem dX6_takeClause_77 : decode cX6_takeClause 77 = .ok (.getfield 142, 3) := by decide +kernel
theorem dX6_takeClause_80 : decode cX6_takeClause 80 = .ok (.ifCond .ne 7, 3) := by decide +kernel
theorem dX6_takeClause_83 : decode cX6_takeClause 83 = .ok (.iconst 1, 1) := by decide +kernel
theorem dX6_takeClause_84 : decode cX6_takeClause 84 = .ok (.goto 4, 3) := by decide +kernel
theorem dX6_takeClause_87 : decode cX6_takeClause 87 = .ok (.iconst 0, 1) := by decide +kernel
theorem dX6_takeClause_88 : decode cX6_takeClause 88 = .ok (.iconst 3, 1) := by decide +kernel
theorem dX6_takeClause_89 : decode cX6_takeClause 89 = .ok (.aload_n 0, 1) := by decide +kernel
theorem dX6_takeClause_90 : decode cX6_takeClause 90 = .ok (.getfield 87, 3) := by decide +kernel
theorem dX6_takeClause_93 : decode cX6_takeClause 93 = .ok (.invokevirtual 101, 3) := by decide +kernel
theorem dX6_takeClause_96 : decode cX6_takeClause 96 = .ok (.ifCond .eq 21, 3) := by decide +kernel
theorem dX6_takeClause_99 : decode cX6_takeClause 99 = .ok (.aload_n 0, 1) := by decide +kernel
theorem dX6_takeClause_100 : decode cX6_takeClause 100 = .ok (.iconst 1, 1) := by decide +kernel
theorem dX6_takeClause_101 : decode cX6_takeClause 101 = .ok (.putfield 142, 3) := by decide +kernel
theorem dX6_takeClause_104 : decode cX6_takeClause 104 = .ok (.aload_n 0, 1) := by decide +kernel
theorem dX6_takeClause_105 : decode cX6_takeClause 105 = .ok (.getfield 17, 3) := by decide +kernel
theorem dX6_takeClause_108 : decode cX6_takeClause 108 = .ok (.iconst 1, 1) := by decide +kernel
theorem dX6_takeClause_109 : decode cX6_takeClause 109 = .ok (.aload_n 0, 1) := by decide +kernel
theorem dX6_takeClause_110 : decode cX6_takeClause 110 = .ok (.iconst 1, 1) := by decide +kernel
theorem dX6_takeClause_111 : decode cX6_takeClause 111 = .ok (.bipush 9, 2) := by decide +kernel
theorem dX6_takeClause_113 : decode cX6_takeClause 113 = .ok (.invokevirtual 105, 3) := by decide +kernel
theorem dX6_takeClause_116 : decode cX6_takeClause 116 = .ok (.iastore, 1) := by decide +kernel
theorem dX6_takeClause_117 : decode cX6_takeClause 117 = .ok (.aload_n 0, 1) := by decide +kernel
theorem dX6_takeClause_118 : decode cX6_takeClause 118 = .ok (.getfield 80, 3) := by decide +kernel
theorem dX6_takeClause_121 : decode cX6_takeClause 121 = .ok (.ifCond .ne 39, 3) := by decide +kernel
theorem dX6_takeClause_124 : decode cX6_takeClause 124 = .ok (.aload_n 0, 1) := by decide +kernel
theorem dX6_takeClause_125 : decode cX6_takeClause 125 = .ok (.aload_n 0, 1) := by decide +kernel
theorem dX6_takeClause_126 : decode cX6_takeClause 126 = .ok (.invokevirtual 83, 3) := by decide +kernel
theorem dX6_takeClause_129 : decode cX6_takeClause 129 = .ok (.bipush 59, 2) := by decide +kernel
theorem dX6_takeClause_131 : decode cX6_takeClause 131 = .ok (.if_icmp .ne 7, 3) := by decide +kernel
theorem dX6_takeClause_134 : decode cX6_takeClause 134 = .ok (.iconst 1, 1) := by decide +kernel
theorem dX6_takeClause_135 : decode cX6_takeClause 135 = .ok (.goto 4, 3) := by decide +kernel
theorem dX6_takeClause_138 : decode cX6_takeClause 138 = .ok (.iconst 0, 1) := by decide +kernel
theorem dX6_takeClause_139 : decode cX6_takeClause 139 = .ok (.iconst 1, 1) := by decide +kernel
theorem dX6_takeClause_140 : decode cX6_takeClause 140 = .ok (.aload_n 0, 1) := by decide +kernel
theorem dX6_takeClause_141 : decode cX6_takeClause 141 = .ok (.getfield 77, 3) := by decide +kernel
theorem dX6_takeClause_144 : decode cX6_takeClause 144 = .ok (.invokevirtual 101, 3) := by decide +kernel
theorem dX6_takeClause_147 : decode cX6_takeClause 147 = .ok (.ifCond .eq 13, 3) := by decide +kernel
theorem dX6_takeClause_150 : decode cX6_takeClause 150 = .ok (.aload_n 0, 1) := by decide +kernel
theorem dX6_takeClause_151 : decode cX6_takeClause 151 = .ok (.dup, 1) := by decide +kernel
theorem dX6_takeClause_152 : decode cX6_takeClause 152 = .ok (.getfield 77, 3) := by decide +kernel
theorem dX6_takeClause_155 : decode cX6_takeClause 155 = .ok (.iconst 1, 1) := by decide +kernel
theorem dX6_takeClause_156 : decode cX6_takeClause 156 = .ok (.iadd, 1) := by decide +kernel
theorem dX6_takeClause_157 : decode cX6_takeClause 157 = .ok (.putfield 77, 3) := by decide +kernel
theorem dX6_takeClause_160 : decode cX6_takeClause 160 = .ok (.return_, 1) := by decide +kernel
theorem dX6_book_0 : decode cX6_book 0 = .ok (.aload_n 0, 1) := by decide +kernel
theorem dX6_book_1 : decode cX6_book 1 = .ok (.iconst 0, 1) := by decide +kernel
theorem dX6_book_2 : decode cX6_book 2 = .ok (.putfield 77, 3) := by decide +kernel
theorem dX6_book_5 : decode cX6_book 5 = .ok (.aload_n 0, 1) := by decide +kernel
theorem dX6_book_6 : decode cX6_book 6 = .ok (.iconst 0, 1) := by decide +kernel
theorem dX6_book_7 : decode cX6_book 7 = .ok (.putfield 80, 3) := by decide +kernel
theorem dX6_book_10 : decode cX6_book 10 = .ok (.aload_n 0, 1) := by decide +kernel
theorem dX6_book_11 : decode cX6_book 11 = .ok (.iconst (-1), 1) := by decide +kernel
theorem dX6_book_12 : decode cX6_book 12 = .ok (.putfield 23, 3) := by decide +kernel
theorem dX6_book_15 : decode cX6_book 15 = .ok (.aload_n 0, 1) := by decide +kernel
theorem dX6_book_16 : decode cX6_book 16 = .ok (.iconst 0, 1) := by decide +kernel
theorem dX6_book_17 : decode cX6_book 17 = .ok (.putfield 142, 3) := by decide +kernel
theorem dX6_book_20 : decode cX6_book 20 = .ok (.aload_n 0, 1) := by decide +kernel
theorem dX6_book_21 : decode cX6_book 21 = .ok (.iconst 0, 1) := by decide +kernel
theorem dX6_book_22 : decode cX6_book 22 = .ok (.putfield 109, 3) := by decide +kernel
theorem dX6_book_25 : decode cX6_book 25 = .ok (.iconst 0, 1) := by decide +kernel
theorem dX6_book_26 : decode cX6_book 26 = .ok (.istore_n 1, 1) := by decide +kernel
theorem dX6_book_27 : decode cX6_book 27 = .ok (.iload_n 1, 1) := by decide +kernel
theorem dX6_book_28 : decode cX6_book 28 = .ok (.sipush 1376, 3) := by decide +kernel
theorem dX6_book_31 : decode cX6_book 31 = .ok (.if_icmp .ge 16, 3) := by decide +kernel
theorem dX6_book_34 : decode cX6_book 34 = .ok (.aload_n 0, 1) := by decide +kernel
theorem dX6_book_35 : decode cX6_book 35 = .ok (.getfield 17, 3) := by decide +kernel
theorem dX6_book_38 : decode cX6_book 38 = .ok (.iload_n 1, 1) := by decide +kernel
theorem dX6_book_39 : decode cX6_book 39 = .ok (.iconst 0, 1) := by decide +kernel
theorem dX6_book_40 : decode cX6_book 40 = .ok (.iastore, 1) := by decide +kernel
theorem dX6_book_41 : decode cX6_book 41 = .ok (.iinc 1 1, 3) := by decide +kernel
theorem dX6_book_44 : decode cX6_book 44 = .ok (.goto (-17), 3) := by decide +kernel
theorem dX6_book_47 : decode cX6_book 47 = .ok (.aload_n 0, 1) := by decide +kernel
theorem dX6_book_48 : decode cX6_book 48 = .ok (.getfield 17, 3) := by decide +kernel
theorem dX6_book_51 : decode cX6_book 51 = .ok (.iconst 1, 1) := by decide +kernel
theorem dX6_book_52 : decode cX6_book 52 = .ok (.iconst 5, 1) := by decide +kernel
theorem dX6_book_53 : decode cX6_book 53 = .ok (.iastore, 1) := by decide +kernel
theorem dX6_book_54 : decode cX6_book 54 = .ok (.aload_n 0, 1) := by decide +kernel
theorem dX6_book_55 : decode cX6_book 55 = .ok (.getfield 17, 3) := by decide +kernel
theorem dX6_book_58 : decode cX6_book 58 = .ok (.iconst 2, 1) := by decide +kernel
theorem dX6_book_59 : decode cX6_book 59 = .ok (.aload_n 0, 1) := by decide +kernel
theorem dX6_book_60 : decode cX6_book 60 = .ok (.getfield 7, 3) := by decide +kernel
theorem dX6_book_63 : decode cX6_book 63 = .ok (.iconst 2, 1) := by decide +kernel
theorem dX6_book_64 : decode cX6_book 64 = .ok (.iaload, 1) := by decide +kernel
theorem dX6_book_65 : decode cX6_book 65 = .ok (.iastore, 1) := by decide +kernel
theorem dX6_book_66 : decode cX6_book 66 = .ok (.aload_n 0, 1) := by decide +kernel
theorem dX6_book_67 : decode cX6_book 67 = .ok (.getfield 17, 3) := by decide +kernel
theorem dX6_book_70 : decode cX6_book 70 = .ok (.iconst 3, 1) := by decide +kernel
theorem dX6_book_71 : decode cX6_book 71 = .ok (.iconst (-1), 1) := by decide +kernel
theorem dX6_book_72 : decode cX6_book 72 = .ok (.iastore, 1) := by decide +kernel
theorem dX6_book_73 : decode cX6_book 73 = .ok (.aload_n 0, 1) := by decide +kernel
theorem dX6_book_74 : decode cX6_book 74 = .ok (.getfield 80, 3) := by decide +kernel
theorem dX6_book_77 : decode cX6_book 77 = .ok (.ifCond .ne 17, 3) := by decide +kernel
theorem dX6_book_80 : decode cX6_book 80 = .ok (.aload_n 0, 1) := by decide +kernel
theorem dX6_book_81 : decode cX6_book 81 = .ok (.invokevirtual 83, 3) := by decide +kernel
theorem dX6_book_84 : decode cX6_book 84 = .ok (.ifCond .lt 10, 3) := by decide +kernel
theorem dX6_book_87 : decode cX6_book 87 = .ok (.aload_n 0, 1) := by decide +kernel
theorem dX6_book_88 : decode cX6_book 88 = .ok (.invokevirtual 146, 3) := by decide +kernel
theorem dX6_book_91 : decode cX6_book 91 = .ok (.goto (-18), 3) := by decide +kernel
theorem dX6_book_94 : decode cX6_book 94 = .ok (.iconst 0, 1) := by decide +kernel
theorem dX6_book_95 : decode cX6_book 95 = .ok (.istore_n 1, 1) := by decide +kernel
theorem dX6_book_96 : decode cX6_book 96 = .ok (.iload_n 1, 1) := by decide +kernel
theorem dX6_book_97 : decode cX6_book 97 = .ok (.aload_n 0, 1) := by decide +kernel
theorem dX6_book_98 : decode cX6_book 98 = .ok (.getfield 109, 3) := by decide +kernel
theorem dX6_book_101 : decode cX6_book 101 = .ok (.if_icmp .ge 48, 3) := by decide +kernel
theorem dX6_book_104 : decode cX6_book 104 = .ok (.aload_n 0, 1) := by decide +kernel
theorem dX6_book_105 : decode cX6_book 105 = .ok (.getfield 80, 3) := by decide +kernel
theorem dX6_book_108 : decode cX6_book 108 = .ok (.ifCond .ne 41, 3) := by decide +kernel
theorem dX6_book_111 : decode cX6_book 111 = .ok (.aload_n 0, 1) := by decide +kernel
theorem dX6_book_112 : decode cX6_book 112 = .ok (.aload_n 0, 1) := by decide +kernel
theorem dX6_book_113 : decode cX6_book 113 = .ok (.getfield 27, 3) := by decide +kernel
theorem dX6_book_116 : decode cX6_book 116 = .ok (.iload_n 1, 1) := by decide +kernel
theorem dX6_book_117 : decode cX6_book 117 = .ok (.iaload, 1) := by decide +kernel
theorem dX6_book_118 : decode cX6_book 118 = .ok (.aload_n 0, 1) := by decide +kernel
theorem dX6_book_119 : decode cX6_book 119 = .ok (.getfield 17, 3) := by decide +kernel
theorem dX6_book_122 : decode cX6_book 122 = .ok (.iconst 0, 1) := by decide +kernel
theorem dX6_book_123 : decode cX6_book 123 = .ok (.iaload, 1) := by decide +kernel
theorem dX6_book_124 : decode cX6_book 124 = .ok (.if_icmp .ge 7, 3) := by decide +kernel
theorem dX6_book_127 : decode cX6_book 127 = .ok (.iconst 1, 1) := by decide +kernel
theorem dX6_book_128 : decode cX6_book 128 = .ok (.goto 4, 3) := by decide +kernel
theorem dX6_book_131 : decode cX6_book 131 = .ok (.iconst 0, 1) := by decide +kernel
theorem dX6_book_132 : decode cX6_book 132 = .ok (.iconst 4, 1) := by decide +kernel
theorem dX6_book_133 : decode cX6_book 133 = .ok (.aload_n 0, 1) := by decide +kernel
theorem dX6_book_134 : decode cX6_book 134 = .ok (.getfield 30, 3) := by decide +kernel
theorem dX6_book_137 : decode cX6_book 137 = .ok (.iload_n 1, 1) := by decide +kernel
theorem dX6_book_138 : decode cX6_book 138 = .ok (.iaload, 1) := by decide +kernel
theorem dX6_book_139 : decode cX6_book 139 = .ok (.invokevirtual 101, 3) := by decide +kernel
theorem dX6_book_142 : decode cX6_book 142 = .ok (.istore_n 2, 1) := by decide +kernel
theorem dX6_book_143 : decode cX6_book 143 = .ok (.iinc 1 1, 3) := by decide +kernel
theorem dX6_book_146 : decode cX6_book 146 = .ok (.goto (-50), 3) := by decide +kernel
theorem dX6_book_149 : decode cX6_book 149 = .ok (.aload_n 0, 1) := by decide +kernel
theorem dX6_book_150 : decode cX6_book 150 = .ok (.iconst 0, 1) := by decide +kernel
theorem dX6_book_151 : decode cX6_book 151 = .ok (.putfield 71, 3) := by decide +kernel
theorem dX6_book_154 : decode cX6_book 154 = .ok (.aload_n 0, 1) := by decide +kernel
theorem dX6_book_155 : decode cX6_book 155 = .ok (.getfield 80, 3) := by decide +kernel
theorem dX6_book_158 : decode cX6_book 158 = .ok (.ifCond .le 11, 3) := by decide +kernel
theorem dX6_book_161 : decode cX6_book 161 = .ok (.bipush (-10), 2) := by decide +kernel
theorem dX6_book_163 : decode cX6_book 163 = .ok (.aload_n 0, 1) := by decide +kernel
theorem dX6_book_164 : decode cX6_book 164 = .ok (.getfield 80, 3) := by decide +kernel
theorem dX6_book_167 : decode cX6_book 167 = .ok (.isub, 1) := by decide +kernel
theorem dX6_book_168 : decode cX6_book 168 = .ok (.ireturn, 1) := by decide +kernel
theorem dX6_book_169 : decode cX6_book 169 = .ok (.iconst 0, 1) := by decide +kernel
theorem dX6_book_170 : decode cX6_book 170 = .ok (.istore_n 1, 1) := by decide +kernel
theorem dX6_book_171 : decode cX6_book 171 = .ok (.iload_n 1, 1) := by decide +kernel
theorem dX6_book_172 : decode cX6_book 172 = .ok (.bipush 24, 2) := by decide +kernel
theorem dX6_book_174 : decode cX6_book 174 = .ok (.if_icmp .ge 22, 3) := by decide +kernel
theorem dX6_book_177 : decode cX6_book 177 = .ok (.aload_n 0, 1) := by decide +kernel
theorem dX6_book_178 : decode cX6_book 178 = .ok (.getfield 17, 3) := by decide +kernel
theorem dX6_book_181 : decode cX6_book 181 = .ok (.sipush 152, 3) := by decide +kernel
theorem dX6_book_184 : decode cX6_book 184 = .ok (.iload_n 1, 1) := by decide +kernel
theorem dX6_book_185 : decode cX6_book 185 = .ok (.iadd, 1) := by decide +kernel
theorem dX6_book_186 : decode cX6_book 186 = .ok (.iload_n 1, 1) := by decide +kernel
theorem dX6_book_187 : decode cX6_book 187 = .ok (.iconst 1, 1) := by decide +kernel
theorem dX6_book_188 : decode cX6_book 188 = .ok (.iadd, 1) := by decide +kernel
theorem dX6_book_189 : decode cX6_book 189 = .ok (.iastore, 1) := by decide +kernel
theorem dX6_book_190 : decode cX6_book 190 = .ok (.iinc 1 1, 3) := by decide +kernel
theorem dX6_book_193 : decode cX6_book 193 = .ok (.goto (-22), 3) := by decide +kernel
theorem dX6_book_196 : decode cX6_book 196 = .ok (.iconst 0, 1) := by decide +kernel
theorem dX6_book_197 : decode cX6_book 197 = .ok (.istore_n 1, 1) := by decide +kernel
theorem dX6_book_198 : decode cX6_book 198 = .ok (.iload_n 1, 1) := by decide +kernel
theorem dX6_book_199 : decode cX6_book 199 = .ok (.sipush 1376, 3) := by decide +kernel
theorem dX6_book_202 : decode cX6_book 202 = .ok (.if_icmp .ge 21, 3) := by decide +kernel
theorem dX6_book_205 : decode cX6_book 205 = .ok (.aload_n 0, 1) := by decide +kernel
theorem dX6_book_206 : decode cX6_book 206 = .ok (.getfield 7, 3) := by decide +kernel
theorem dX6_book_209 : decode cX6_book 209 = .ok (.iload_n 1, 1) := by decide +kernel
theorem dX6_book_210 : decode cX6_book 210 = .ok (.aload_n 0, 1) := by decide +kernel
theorem dX6_book_211 : decode cX6_book 211 = .ok (.getfield 17, 3) := by decide +kernel
theorem dX6_book_214 : decode cX6_book 214 = .ok (.iload_n 1, 1) := by decide +kernel
theorem dX6_book_215 : decode cX6_book 215 = .ok (.iaload, 1) := by decide +kernel
theorem dX6_book_216 : decode cX6_book 216 = .ok (.iastore, 1) := by decide +kernel
theorem dX6_book_217 : decode cX6_book 217 = .ok (.iinc 1 1, 3) := by decide +kernel
theorem dX6_book_220 : decode cX6_book 220 = .ok (.goto (-22), 3) := by decide +kernel
theorem dX6_book_223 : decode cX6_book 223 = .ok (.aload_n 0, 1) := by decide +kernel
theorem dX6_book_224 : decode cX6_book 224 = .ok (.iconst 0, 1) := by decide +kernel
theorem dX6_book_225 : decode cX6_book 225 = .ok (.putfield 149, 3) := by decide +kernel
theorem dX6_book_228 : decode cX6_book 228 = .ok (.aload_n 0, 1) := by decide +kernel
theorem dX6_book_229 : decode cX6_book 229 = .ok (.getfield 7, 3) := by decide +kernel
theorem dX6_book_232 : decode cX6_book 232 = .ok (.iconst 0, 1) := by decide +kernel
theorem dX6_book_233 : decode cX6_book 233 = .ok (.iaload, 1) := by decide +kernel
theorem dX6_book_234 : decode cX6_book 234 = .ok (.ireturn, 1) := by decide +kernel
theorem dX6_fault_0 : decode cX6_fault 0 = .ok (.aload_n 0, 1) := by decide +kernel
theorem dX6_fault_1 : decode cX6_fault 1 = .ok (.getfield 23, 3) := by decide +kernel
theorem dX6_fault_4 : decode cX6_fault 4 = .ok (.ireturn, 1) := by decide +kernel
theorem dX6_noPart_0 : decode cX6_noPart 0 = .ok (.iload_n 1, 1) := by decide +kernel
theorem dX6_noPart_1 : decode cX6_noPart 1 = .ok (.i2l, 1) := by decide +kernel
theorem dX6_noPart_2 : decode cX6_noPart 2 = .ok (.lconst 0, 1) := by decide +kernel
theorem dX6_noPart_3 : decode cX6_noPart 3 = .ok (.aload_n 0, 1) := by decide +kernel
theorem dX6_noPart_4 : decode cX6_noPart 4 = .ok (.getfield 7, 3) := by decide +kernel
theorem dX6_noPart_7 : decode cX6_noPart 7 = .ok (.iconst 0, 1) := by decide +kernel
theorem dX6_noPart_8 : decode cX6_noPart 8 = .ok (.iaload, 1) := by decide +kernel
theorem dX6_noPart_9 : decode cX6_noPart 9 = .ok (.iconst 1, 1) := by decide +kernel
theorem dX6_noPart_10 : decode cX6_noPart 10 = .ok (.isub, 1) := by decide +kernel
theorem dX6_noPart_11 : decode cX6_noPart 11 = .ok (.i2l, 1) := by decide +kernel
theorem dX6_noPart_12 : decode cX6_noPart 12 = .ok (.invokestatic 66, 3) := by decide +kernel
theorem dX6_noPart_15 : decode cX6_noPart 15 = .ok (.ifCond .ne 7, 3) := by decide +kernel
theorem dX6_noPart_18 : decode cX6_noPart 18 = .ok (.iconst 1, 1) := by decide +kernel
theorem dX6_noPart_19 : decode cX6_noPart 19 = .ok (.goto 4, 3) := by decide +kernel
theorem dX6_noPart_22 : decode cX6_noPart 22 = .ok (.iconst 0, 1) := by decide +kernel
theorem dX6_noPart_23 : decode cX6_noPart 23 = .ok (.ireturn, 1) := by decide +kernel
theorem dX6_linesOf_0 : decode cX6_linesOf 0 = .ok (.iconst 2, 1) := by decide +kernel
theorem dX6_linesOf_1 : decode cX6_linesOf 1 = .ok (.aload_n 0, 1) := by decide +kernel
theorem dX6_linesOf_2 : decode cX6_linesOf 2 = .ok (.getfield 7, 3) := by decide +kernel
theorem dX6_linesOf_5 : decode cX6_linesOf 5 = .ok (.bipush 32, 2) := by decide +kernel
theorem dX6_linesOf_7 : decode cX6_linesOf 7 = .ok (.iload_n 1, 1) := by decide +kernel
theorem dX6_linesOf_8 : decode cX6_linesOf 8 = .ok (.iadd, 1) := by decide +kernel
theorem dX6_linesOf_9 : decode cX6_linesOf 9 = .ok (.iaload, 1) := by decide +kernel
theorem dX6_linesOf_10 : decode cX6_linesOf 10 = .ok (.iadd, 1) := by decide +kernel
theorem dX6_linesOf_11 : decode cX6_linesOf 11 = .ok (.iconst 2, 1) := by decide +kernel
theorem dX6_linesOf_12 : decode cX6_linesOf 12 = .ok (.aload_n 0, 1) := by decide +kernel
theorem dX6_linesOf_13 : decode cX6_linesOf 13 = .ok (.getfield 7, 3) := by decide +kernel
theorem dX6_linesOf_16 : decode cX6_linesOf 16 = .ok (.bipush 56, 2) := by decide +kernel
theorem dX6_linesOf_18 : decode cX6_linesOf 18 = .ok (.iload_n 1, 1) := by decide +kernel
theorem dX6_linesOf_19 : decode cX6_linesOf 19 = .ok (.iadd, 1) := by decide +kernel
theorem dX6_linesOf_20 : decode cX6_linesOf 20 = .ok (.iaload, 1) := by decide +kernel
theorem dX6_linesOf_21 : decode cX6_linesOf 21 = .ok (.imul, 1) := by decide +kernel
theorem dX6_linesOf_22 : decode cX6_linesOf 22 = .ok (.iadd, 1) := by decide +kernel
theorem dX6_linesOf_23 : decode cX6_linesOf 23 = .ok (.aload_n 0, 1) := by decide +kernel
theorem dX6_linesOf_24 : decode cX6_linesOf 24 = .ok (.getfield 7, 3) := by decide +kernel
theorem dX6_linesOf_27 : decode cX6_linesOf 27 = .ok (.bipush 8, 2) := by decide +kernel
theorem dX6_linesOf_29 : decode cX6_linesOf 29 = .ok (.iload_n 1, 1) := by decide +kernel
theorem dX6_linesOf_30 : decode cX6_linesOf 30 = .ok (.iadd, 1) := by decide +kernel
theorem dX6_linesOf_31 : decode cX6_linesOf 31 = .ok (.iaload, 1) := by decide +kernel
theorem dX6_linesOf_32 : decode cX6_linesOf 32 = .ok (.iconst 3, 1) := by decide +kernel
theorem dX6_linesOf_33 : decode cX6_linesOf 33 = .ok (.if_icmp .ne 7, 3) := by decide +kernel
theorem dX6_linesOf_36 : decode cX6_linesOf 36 = .ok (.iconst 2, 1) := by decide +kernel
theorem dX6_linesOf_37 : decode cX6_linesOf 37 = .ok (.goto 4, 3) := by decide +kernel
theorem dX6_linesOf_40 : decode cX6_linesOf 40 = .ok (.iconst 0, 1) := by decide +kernel
theorem dX6_linesOf_41 : decode cX6_linesOf 41 = .ok (.iadd, 1) := by decide +kernel
theorem dX6_linesOf_42 : decode cX6_linesOf 42 = .ok (.ireturn, 1) := by decide +kernel
theorem dX6_part_0 : decode cX6_part 0 = .ok (.aload_n 0, 1) := by decide +kernel
theorem dX6_part_1 : decode cX6_part 1 = .ok (.iload_n 1, 1) := by decide +kernel
theorem dX6_part_2 : decode cX6_part 2 = .ok (.invokevirtual 152, 3) := by decide +kernel
theorem dX6_part_5 : decode cX6_part 5 = .ok (.ifCond .eq 6, 3) := by decide +kernel
theorem dX6_part_8 : decode cX6_part 8 = .ok (.ldc 156, 2) := by decide +kernel
theorem dX6_part_10 : decode cX6_part 10 = .ok (.ireturn, 1) := by decide +kernel
theorem dX6_part_11 : decode cX6_part 11 = .ok (.aload_n 0, 1) := by decide +kernel
theorem dX6_part_12 : decode cX6_part 12 = .ok (.getfield 7, 3) := by decide +kernel
theorem dX6_part_15 : decode cX6_part 15 = .ok (.bipush 8, 2) := by decide +kernel
theorem dX6_part_17 : decode cX6_part 17 = .ok (.iload_n 1, 1) := by decide +kernel
theorem dX6_part_18 : decode cX6_part 18 = .ok (.iadd, 1) := by decide +kernel
theorem dX6_part_19 : decode cX6_part 19 = .ok (.iaload, 1) := by decide +kernel
theorem dX6_part_20 : decode cX6_part 20 = .ok (.iconst 3, 1) := by decide +kernel
theorem dX6_part_21 : decode cX6_part 21 = .ok (.if_icmp .ne 7, 3) := by decide +kernel
theorem dX6_part_24 : decode cX6_part 24 = .ok (.iconst 1, 1) := by decide +kernel
theorem dX6_part_25 : decode cX6_part 25 = .ok (.goto 4, 3) := by decide +kernel
theorem dX6_part_28 : decode cX6_part 28 = .ok (.iconst 0, 1) := by decide +kernel
theorem dX6_part_29 : decode cX6_part 29 = .ok (.istore_n 3, 1) := by decide +kernel
theorem dX6_part_30 : decode cX6_part 30 = .ok (.iload_n 2, 1) := by decide +kernel
theorem dX6_part_31 : decode cX6_part 31 = .ok (.tableswitch 132 0 6 #[41, 51, 61, 71, 77, 95, 113], 41) := by decide +kernel
theorem dX6_part_72 : decode cX6_part 72 = .ok (.aload_n 0, 1) := by decide +kernel
theorem dX6_part_73 : decode cX6_part 73 = .ok (.getfield 7, 3) := by decide +kernel
theorem dX6_part_76 : decode cX6_part 76 = .ok (.bipush 8, 2) := by decide +kernel
theorem dX6_part_78 : decode cX6_part 78 = .ok (.iload_n 1, 1) := by decide +kernel
theorem dX6_part_79 : decode cX6_part 79 = .ok (.iadd, 1) := by decide +kernel
theorem dX6_part_80 : decode cX6_part 80 = .ok (.iaload, 1) := by decide +kernel
theorem dX6_part_81 : decode cX6_part 81 = .ok (.ireturn, 1) := by decide +kernel
theorem dX6_part_82 : decode cX6_part 82 = .ok (.aload_n 0, 1) := by decide +kernel
theorem dX6_part_83 : decode cX6_part 83 = .ok (.getfield 7, 3) := by decide +kernel
theorem dX6_part_86 : decode cX6_part 86 = .ok (.bipush 32, 2) := by decide +kernel
theorem dX6_part_88 : decode cX6_part 88 = .ok (.iload_n 1, 1) := by decide +kernel
theorem dX6_part_89 : decode cX6_part 89 = .ok (.iadd, 1) := by decide +kernel
theorem dX6_part_90 : decode cX6_part 90 = .ok (.iaload, 1) := by decide +kernel
theorem dX6_part_91 : decode cX6_part 91 = .ok (.ireturn, 1) := by decide +kernel
theorem dX6_part_92 : decode cX6_part 92 = .ok (.aload_n 0, 1) := by decide +kernel
theorem dX6_part_93 : decode cX6_part 93 = .ok (.getfield 7, 3) := by decide +kernel
theorem dX6_part_96 : decode cX6_part 96 = .ok (.bipush 56, 2) := by decide +kernel
theorem dX6_part_98 : decode cX6_part 98 = .ok (.iload_n 1, 1) := by decide +kernel
theorem dX6_part_99 : decode cX6_part 99 = .ok (.iadd, 1) := by decide +kernel
theorem dX6_part_100 : decode cX6_part 100 = .ok (.iaload, 1) := by decide +kernel
theorem dX6_part_101 : decode cX6_part 101 = .ok (.ireturn, 1) := by decide +kernel
theorem dX6_part_102 : decode cX6_part 102 = .ok (.aload_n 0, 1) := by decide +kernel
theorem dX6_part_103 : decode cX6_part 103 = .ok (.iload_n 1, 1) := by decide +kernel
theorem dX6_part_104 : decode cX6_part 104 = .ok (.invokevirtual 157, 3) := by decide +kernel
theorem dX6_part_107 : decode cX6_part 107 = .ok (.ireturn, 1) := by decide +kernel
theorem dX6_part_108 : decode cX6_part 108 = .ok (.iload_n 3, 1) := by decide +kernel
theorem dX6_part_109 : decode cX6_part 109 = .ok (.ifCond .eq 15, 3) := by decide +kernel
theorem dX6_part_112 : decode cX6_part 112 = .ok (.aload_n 0, 1) := by decide +kernel
theorem dX6_part_113 : decode cX6_part 113 = .ok (.getfield 7, 3) := by decide +kernel
theorem dX6_part_116 : decode cX6_part 116 = .ok (.bipush 80, 2) := by decide +kernel
theorem dX6_part_118 : decode cX6_part 118 = .ok (.iload_n 1, 1) := by decide +kernel
theorem dX6_part_119 : decode cX6_part 119 = .ok (.iadd, 1) := by decide +kernel
theorem dX6_part_120 : decode cX6_part 120 = .ok (.iaload, 1) := by decide +kernel
theorem dX6_part_121 : decode cX6_part 121 = .ok (.goto 4, 3) := by decide +kernel
theorem dX6_part_124 : decode cX6_part 124 = .ok (.iconst (-1), 1) := by decide +kernel
theorem dX6_part_125 : decode cX6_part 125 = .ok (.ireturn, 1) := by decide +kernel
theorem dX6_part_126 : decode cX6_part 126 = .ok (.iload_n 3, 1) := by decide +kernel
theorem dX6_part_127 : decode cX6_part 127 = .ok (.ifCond .eq 15, 3) := by decide +kernel
theorem dX6_part_130 : decode cX6_part 130 = .ok (.aload_n 0, 1) := by decide +kernel
theorem dX6_part_131 : decode cX6_part 131 = .ok (.getfield 7, 3) := by decide +kernel
theorem dX6_part_134 : decode cX6_part 134 = .ok (.bipush 104, 2) := by decide +kernel
theorem dX6_part_136 : decode cX6_part 136 = .ok (.iload_n 1, 1) := by decide +kernel
theorem dX6_part_137 : decode cX6_part 137 = .ok (.iadd, 1) := by decide +kernel
theorem dX6_part_138 : decode cX6_part 138 = .ok (.iaload, 1) := by decide +kernel
theorem dX6_part_139 : decode cX6_part 139 = .ok (.goto 4, 3) := by decide +kernel
theorem dX6_part_142 : decode cX6_part 142 = .ok (.iconst (-1), 1) := by decide +kernel
theorem dX6_part_143 : decode cX6_part 143 = .ok (.ireturn, 1) := by decide +kernel
theorem dX6_part_144 : decode cX6_part 144 = .ok (.iload_n 3, 1) := by decide +kernel
theorem dX6_part_145 : decode cX6_part 145 = .ok (.ifCond .eq 16, 3) := by decide +kernel
theorem dX6_part_148 : decode cX6_part 148 = .ok (.aload_n 0, 1) := by decide +kernel
theorem dX6_part_149 : decode cX6_part 149 = .ok (.getfield 7, 3) := by decide +kernel
theorem dX6_part_152 : decode cX6_part 152 = .ok (.sipush 128, 3) := by decide +kernel
theorem dX6_part_155 : decode cX6_part 155 = .ok (.iload_n 1, 1) := by decide +kernel
theorem dX6_part_156 : decode cX6_part 156 = .ok (.iadd, 1) := by decide +kernel
theorem dX6_part_157 : decode cX6_part 157 = .ok (.iaload, 1) := by decide +kernel
theorem dX6_part_158 : decode cX6_part 158 = .ok (.goto 4, 3) := by decide +kernel
theorem dX6_part_161 : decode cX6_part 161 = .ok (.iconst (-1), 1) := by decide +kernel
theorem dX6_part_162 : decode cX6_part 162 = .ok (.ireturn, 1) := by decide +kernel
theorem dX6_part_163 : decode cX6_part 163 = .ok (.ldc 70, 2) := by decide +kernel
theorem dX6_part_165 : decode cX6_part 165 = .ok (.ireturn, 1) := by decide +kernel
theorem dX6_effect_0 : decode cX6_effect 0 = .ok (.aload_n 0, 1) := by decide +kernel
theorem dX6_effect_1 : decode cX6_effect 1 = .ok (.iload_n 1, 1) := by decide +kernel
theorem dX6_effect_2 : decode cX6_effect 2 = .ok (.invokevirtual 152, 3) := by decide +kernel
theorem dX6_effect_5 : decode cX6_effect 5 = .ok (.ifCond .ne 24, 3) := by decide +kernel
theorem dX6_effect_8 : decode cX6_effect 8 = .ok (.iload_n 2, 1) := by decide +kernel
theorem dX6_effect_9 : decode cX6_effect 9 = .ok (.i2l, 1) := by decide +kernel
theorem dX6_effect_10 : decode cX6_effect 10 = .ok (.lconst 0, 1) := by decide +kernel
theorem dX6_effect_11 : decode cX6_effect 11 = .ok (.aload_n 0, 1) := by decide +kernel
theorem dX6_effect_12 : decode cX6_effect 12 = .ok (.getfield 7, 3) := by decide +kernel
theorem dX6_effect_15 : decode cX6_effect 15 = .ok (.bipush 32, 2) := by decide +kernel
theorem dX6_effect_17 : decode cX6_effect 17 = .ok (.iload_n 1, 1) := by decide +kernel
theorem dX6_effect_18 : decode cX6_effect 18 = .ok (.iadd, 1) := by decide +kernel
theorem dX6_effect_19 : decode cX6_effect 19 = .ok (.iaload, 1) := by decide +kernel
theorem dX6_effect_20 : decode cX6_effect 20 = .ok (.iconst 1, 1) := by decide +kernel
theorem dX6_effect_21 : decode cX6_effect 21 = .ok (.isub, 1) := by decide +kernel
theorem dX6_effect_22 : decode cX6_effect 22 = .ok (.i2l, 1) := by decide +kernel
theorem dX6_effect_23 : decode cX6_effect 23 = .ok (.invokestatic 66, 3) := by decide +kernel
theorem dX6_effect_26 : decode cX6_effect 26 = .ok (.ifCond .ne 6, 3) := by decide +kernel
theorem dX6_effect_29 : decode cX6_effect 29 = .ok (.ldc 156, 2) := by decide +kernel
theorem dX6_effect_31 : decode cX6_effect 31 = .ok (.ireturn, 1) := by decide +kernel
theorem dX6_effect_32 : decode cX6_effect 32 = .ok (.iconst 4, 1) := by decide +kernel
theorem dX6_effect_33 : decode cX6_effect 33 = .ok (.iload_n 1, 1) := by decide +kernel
theorem dX6_effect_34 : decode cX6_effect 34 = .ok (.imul, 1) := by decide +kernel
theorem dX6_effect_35 : decode cX6_effect 35 = .ok (.iload_n 2, 1) := by decide +kernel
theorem dX6_effect_36 : decode cX6_effect 36 = .ok (.iadd, 1) := by decide +kernel
theorem dX6_effect_37 : decode cX6_effect 37 = .ok (.istore 4, 2) := by decide +kernel
theorem dX6_effect_39 : decode cX6_effect 39 = .ok (.iload_n 3, 1) := by decide +kernel
theorem dX6_effect_40 : decode cX6_effect 40 = .ok (.ifCond .ne 17, 3) := by decide +kernel
theorem dX6_effect_43 : decode cX6_effect 43 = .ok (.aload_n 0, 1) := by decide +kernel
theorem dX6_effect_44 : decode cX6_effect 44 = .ok (.getfield 7, 3) := by decide +kernel
theorem dX6_effect_47 : decode cX6_effect 47 = .ok (.sipush 176, 3) := by decide +kernel
theorem dX6_effect_50 : decode cX6_effect 50 = .ok (.iload 4, 2) := by decide +kernel
theorem dX6_effect_52 : decode cX6_effect 52 = .ok (.iadd, 1) := by decide +kernel
theorem dX6_effect_53 : decode cX6_effect 53 = .ok (.iaload, 1) := by decide +kernel
theorem dX6_effect_54 : decode cX6_effect 54 = .ok (.goto 24, 3) := by decide +kernel
theorem dX6_effect_57 : decode cX6_effect 57 = .ok (.iload_n 3, 1) := by decide +kernel
theorem dX6_effect_58 : decode cX6_effect 58 = .ok (.iconst 1, 1) := by decide +kernel
theorem dX6_effect_59 : decode cX6_effect 59 = .ok (.if_icmp .ne 17, 3) := by decide +kernel
theorem dX6_effect_62 : decode cX6_effect 62 = .ok (.aload_n 0, 1) := by decide +kernel
theorem dX6_effect_63 : decode cX6_effect 63 = .ok (.getfield 7, 3) := by decide +kernel
theorem dX6_effect_66 : decode cX6_effect 66 = .ok (.sipush 272, 3) := by decide +kernel
theorem dX6_effect_69 : decode cX6_effect 69 = .ok (.iload 4, 2) := by decide +kernel
theorem dX6_effect_71 : decode cX6_effect 71 = .ok (.iadd, 1) := by decide +kernel
theorem dX6_effect_72 : decode cX6_effect 72 = .ok (.iaload, 1) := by decide +kernel
theorem dX6_effect_73 : decode cX6_effect 73 = .ok (.goto 5, 3) := by decide +kernel
theorem dX6_effect_76 : decode cX6_effect 76 = .ok (.ldc 70, 2) := by decide +kernel
theorem dX6_effect_78 : decode cX6_effect 78 = .ok (.ireturn, 1) := by decide +kernel
theorem dX6_choice_0 : decode cX6_choice 0 = .ok (.aload_n 0, 1) := by decide +kernel
theorem dX6_choice_1 : decode cX6_choice 1 = .ok (.iload_n 1, 1) := by decide +kernel
theorem dX6_choice_2 : decode cX6_choice 2 = .ok (.invokevirtual 152, 3) := by decide +kernel
theorem dX6_choice_5 : decode cX6_choice 5 = .ok (.ifCond .ne 24, 3) := by decide +kernel
theorem dX6_choice_8 : decode cX6_choice 8 = .ok (.iload_n 2, 1) := by decide +kernel
theorem dX6_choice_9 : decode cX6_choice 9 = .ok (.i2l, 1) := by decide +kernel
theorem dX6_choice_10 : decode cX6_choice 10 = .ok (.lconst 0, 1) := by decide +kernel
theorem dX6_choice_11 : decode cX6_choice 11 = .ok (.aload_n 0, 1) := by decide +kernel
theorem dX6_choice_12 : decode cX6_choice 12 = .ok (.getfield 7, 3) := by decide +kernel
theorem dX6_choice_15 : decode cX6_choice 15 = .ok (.bipush 56, 2) := by decide +kernel
theorem dX6_choice_17 : decode cX6_choice 17 = .ok (.iload_n 1, 1) := by decide +kernel
theorem dX6_choice_18 : decode cX6_choice 18 = .ok (.iadd, 1) := by decide +kernel
theorem dX6_choice_19 : decode cX6_choice 19 = .ok (.iaload, 1) := by decide +kernel
theorem dX6_choice_20 : decode cX6_choice 20 = .ok (.iconst 1, 1) := by decide +kernel
theorem dX6_choice_21 : decode cX6_choice 21 = .ok (.isub, 1) := by decide +kernel
theorem dX6_choice_22 : decode cX6_choice 22 = .ok (.i2l, 1) := by decide +kernel
theorem dX6_choice_23 : decode cX6_choice 23 = .ok (.invokestatic 66, 3) := by decide +kernel
theorem dX6_choice_26 : decode cX6_choice 26 = .ok (.ifCond .ne 6, 3) := by decide +kernel
theorem dX6_choice_29 : decode cX6_choice 29 = .ok (.ldc 156, 2) := by decide +kernel
theorem dX6_choice_31 : decode cX6_choice 31 = .ok (.ireturn, 1) := by decide +kernel
theorem dX6_choice_32 : decode cX6_choice 32 = .ok (.bipush 6, 2) := by decide +kernel
theorem dX6_choice_34 : decode cX6_choice 34 = .ok (.iload_n 1, 1) := by decide +kernel
theorem dX6_choice_35 : decode cX6_choice 35 = .ok (.imul, 1) := by decide +kernel
theorem dX6_choice_36 : decode cX6_choice 36 = .ok (.iload_n 2, 1) := by decide +kernel
theorem dX6_choice_37 : decode cX6_choice 37 = .ok (.iadd, 1) := by decide +kernel
theorem dX6_choice_38 : decode cX6_choice 38 = .ok (.istore 4, 2) := by decide +kernel
theorem dX6_choice_40 : decode cX6_choice 40 = .ok (.iload_n 3, 1) := by decide +kernel
theorem dX6_choice_41 : decode cX6_choice 41 = .ok (.ifCond .ne 17, 3) := by decide +kernel
theorem dX6_choice_44 : decode cX6_choice 44 = .ok (.aload_n 0, 1) := by decide +kernel
theorem dX6_choice_45 : decode cX6_choice 45 = .ok (.getfield 7, 3) := by decide +kernel
theorem dX6_choice_48 : decode cX6_choice 48 = .ok (.sipush 368, 3) := by decide +kernel
theorem dX6_choice_51 : decode cX6_choice 51 = .ok (.iload 4, 2) := by decide +kernel
theorem dX6_choice_53 : decode cX6_choice 53 = .ok (.iadd, 1) := by decide +kernel
theorem dX6_choice_54 : decode cX6_choice 54 = .ok (.iaload, 1) := by decide +kernel
theorem dX6_choice_55 : decode cX6_choice 55 = .ok (.goto 43, 3) := by decide +kernel
theorem dX6_choice_58 : decode cX6_choice 58 = .ok (.iload_n 3, 1) := by decide +kernel
theorem dX6_choice_59 : decode cX6_choice 59 = .ok (.iconst 1, 1) := by decide +kernel
theorem dX6_choice_60 : decode cX6_choice 60 = .ok (.if_icmp .ne 17, 3) := by decide +kernel
theorem dX6_choice_63 : decode cX6_choice 63 = .ok (.aload_n 0, 1) := by decide +kernel
theorem dX6_choice_64 : decode cX6_choice 64 = .ok (.getfield 7, 3) := by decide +kernel
theorem dX6_choice_67 : decode cX6_choice 67 = .ok (.sipush 512, 3) := by decide +kernel
theorem dX6_choice_70 : decode cX6_choice 70 = .ok (.iload 4, 2) := by decide +kernel
theorem dX6_choice_72 : decode cX6_choice 72 = .ok (.iadd, 1) := by decide +kernel
theorem dX6_choice_73 : decode cX6_choice 73 = .ok (.iaload, 1) := by decide +kernel
theorem dX6_choice_74 : decode cX6_choice 74 = .ok (.goto 24, 3) := by decide +kernel
theorem dX6_choice_77 : decode cX6_choice 77 = .ok (.iload_n 3, 1) := by decide +kernel
theorem dX6_choice_78 : decode cX6_choice 78 = .ok (.iconst 2, 1) := by decide +kernel
theorem dX6_choice_79 : decode cX6_choice 79 = .ok (.if_icmp .ne 17, 3) := by decide +kernel
theorem dX6_choice_82 : decode cX6_choice 82 = .ok (.aload_n 0, 1) := by decide +kernel
theorem dX6_choice_83 : decode cX6_choice 83 = .ok (.getfield 7, 3) := by decide +kernel
theorem dX6_choice_86 : decode cX6_choice 86 = .ok (.sipush 656, 3) := by decide +kernel
theorem dX6_choice_89 : decode cX6_choice 89 = .ok (.iload 4, 2) := by decide +kernel
theorem dX6_choice_91 : decode cX6_choice 91 = .ok (.iadd, 1) := by decide +kernel
theorem dX6_choice_92 : decode cX6_choice 92 = .ok (.iaload, 1) := by decide +kernel
theorem dX6_choice_93 : decode cX6_choice 93 = .ok (.goto 5, 3) := by decide +kernel
theorem dX6_choice_96 : decode cX6_choice 96 = .ok (.ldc 70, 2) := by decide +kernel
theorem dX6_choice_98 : decode cX6_choice 98 = .ok (.ireturn, 1) := by decide +kernel
theorem dX6_noThing_0 : decode cX6_noThing 0 = .ok (.iload_n 0, 1) := by decide +kernel
theorem dX6_noThing_1 : decode cX6_noThing 1 = .ok (.iconst (-1), 1) := by decide +kernel
theorem dX6_noThing_2 : decode cX6_noThing 2 = .ok (.if_icmp .eq 19, 3) := by decide +kernel
theorem dX6_noThing_5 : decode cX6_noThing 5 = .ok (.iload_n 0, 1) := by decide +kernel
theorem dX6_noThing_6 : decode cX6_noThing 6 = .ok (.i2l, 1) := by decide +kernel
theorem dX6_noThing_7 : decode cX6_noThing 7 = .ok (.lconst 0, 1) := by decide +kernel
theorem dX6_noThing_8 : decode cX6_noThing 8 = .ok (.ldc2_w 161, 3) := by decide +kernel
theorem dX6_noThing_11 : decode cX6_noThing 11 = .ok (.invokestatic 66, 3) := by decide +kernel
theorem dX6_noThing_14 : decode cX6_noThing 14 = .ok (.ifCond .ne 7, 3) := by decide +kernel
theorem dX6_noThing_17 : decode cX6_noThing 17 = .ok (.iconst 1, 1) := by decide +kernel
theorem dX6_noThing_18 : decode cX6_noThing 18 = .ok (.goto 4, 3) := by decide +kernel
theorem dX6_noThing_21 : decode cX6_noThing 21 = .ok (.iconst 0, 1) := by decide +kernel
theorem dX6_noThing_22 : decode cX6_noThing 22 = .ok (.ireturn, 1) := by decide +kernel
theorem dX6_link_0 : decode cX6_link 0 = .ok (.aload_n 0, 1) := by decide +kernel
theorem dX6_link_1 : decode cX6_link 1 = .ok (.iload_n 1, 1) := by decide +kernel
theorem dX6_link_2 : decode cX6_link 2 = .ok (.invokevirtual 152, 3) := by decide +kernel
theorem dX6_link_5 : decode cX6_link 5 = .ok (.ifCond .ne 26, 3) := by decide +kernel
theorem dX6_link_8 : decode cX6_link 8 = .ok (.aload_n 0, 1) := by decide +kernel
theorem dX6_link_9 : decode cX6_link 9 = .ok (.iload_n 2, 1) := by decide +kernel
theorem dX6_link_10 : decode cX6_link 10 = .ok (.invokevirtual 152, 3) := by decide +kernel
theorem dX6_link_13 : decode cX6_link 13 = .ok (.ifCond .ne 18, 3) := by decide +kernel
theorem dX6_link_16 : decode cX6_link 16 = .ok (.iload_n 3, 1) := by decide +kernel
theorem dX6_link_17 : decode cX6_link 17 = .ok (.invokestatic 163, 3) := by decide +kernel
theorem dX6_link_20 : decode cX6_link 20 = .ok (.ifCond .ne 11, 3) := by decide +kernel
theorem dX6_link_23 : decode cX6_link 23 = .ok (.iload 4, 2) := by decide +kernel
theorem dX6_link_25 : decode cX6_link 25 = .ok (.invokestatic 163, 3) := by decide +kernel
theorem dX6_link_28 : decode cX6_link 28 = .ok (.ifCond .eq 6, 3) := by decide +kernel
theorem dX6_link_31 : decode cX6_link 31 = .ok (.ldc 156, 2) := by decide +kernel
theorem dX6_link_33 : decode cX6_link 33 = .ok (.ireturn, 1) := by decide +kernel
theorem dX6_link_34 : decode cX6_link 34 = .ok (.aload_n 0, 1) := by decide +kernel
theorem dX6_link_35 : decode cX6_link 35 = .ok (.getfield 7, 3) := by decide +kernel
theorem dX6_link_38 : decode cX6_link 38 = .ok (.bipush 8, 2) := by decide +kernel
theorem dX6_link_40 : decode cX6_link 40 = .ok (.iload_n 1, 1) := by decide +kernel
theorem dX6_link_41 : decode cX6_link 41 = .ok (.iadd, 1) := by decide +kernel
theorem dX6_link_42 : decode cX6_link 42 = .ok (.iaload, 1) := by decide +kernel
theorem dX6_link_43 : decode cX6_link 43 = .ok (.ifCond .eq 6, 3) := by decide +kernel
theorem dX6_link_46 : decode cX6_link 46 = .ok (.ldc 166, 2) := by decide +kernel
theorem dX6_link_48 : decode cX6_link 48 = .ok (.ireturn, 1) := by decide +kernel
theorem dX6_link_49 : decode cX6_link 49 = .ok (.aload_n 0, 1) := by decide +kernel
theorem dX6_link_50 : decode cX6_link 50 = .ok (.getfield 7, 3) := by decide +kernel
theorem dX6_link_53 : decode cX6_link 53 = .ok (.bipush 56, 2) := by decide +kernel
theorem dX6_link_55 : decode cX6_link 55 = .ok (.iload_n 1, 1) := by decide +kernel
theorem dX6_link_56 : decode cX6_link 56 = .ok (.iadd, 1) := by decide +kernel
theorem dX6_link_57 : decode cX6_link 57 = .ok (.iaload, 1) := by decide +kernel
theorem dX6_link_58 : decode cX6_link 58 = .ok (.istore 5, 2) := by decide +kernel
theorem dX6_link_60 : decode cX6_link 60 = .ok (.iload 5, 2) := by decide +kernel
theorem dX6_link_62 : decode cX6_link 62 = .ok (.bipush 6, 2) := by decide +kernel
theorem dX6_link_64 : decode cX6_link 64 = .ok (.if_icmp .ne 6, 3) := by decide +kernel
theorem dX6_link_67 : decode cX6_link 67 = .ok (.ldc 74, 2) := by decide +kernel
theorem dX6_link_69 : decode cX6_link 69 = .ok (.ireturn, 1) := by decide +kernel
theorem dX6_link_70 : decode cX6_link 70 = .ok (.bipush 6, 2) := by decide +kernel
theorem dX6_link_72 : decode cX6_link 72 = .ok (.iload_n 1, 1) := by decide +kernel
theorem dX6_link_73 : decode cX6_link 73 = .ok (.imul, 1) := by decide +kernel
theorem dX6_link_74 : decode cX6_link 74 = .ok (.iload 5, 2) := by decide +kernel
theorem dX6_link_76 : decode cX6_link 76 = .ok (.iadd, 1) := by decide +kernel
theorem dX6_link_77 : decode cX6_link 77 = .ok (.istore 6, 2) := by decide +kernel
theorem dX6_link_79 : decode cX6_link 79 = .ok (.aload_n 0, 1) := by decide +kernel
theorem dX6_link_80 : decode cX6_link 80 = .ok (.getfield 7, 3) := by decide +kernel
theorem dX6_link_83 : decode cX6_link 83 = .ok (.sipush 368, 3) := by decide +kernel
theorem dX6_link_86 : decode cX6_link 86 = .ok (.iload 6, 2) := by decide +kernel
theorem dX6_link_88 : decode cX6_link 88 = .ok (.iadd, 1) := by decide +kernel
theorem dX6_link_89 : decode cX6_link 89 = .ok (.iload_n 2, 1) := by decide +kernel
theorem dX6_link_90 : decode cX6_link 90 = .ok (.iastore, 1) := by decide +kernel
theorem dX6_link_91 : decode cX6_link 91 = .ok (.aload_n 0, 1) := by decide +kernel
theorem dX6_link_92 : decode cX6_link 92 = .ok (.getfield 7, 3) := by decide +kernel
theorem dX6_link_95 : decode cX6_link 95 = .ok (.sipush 512, 3) := by decide +kernel
theorem dX6_link_98 : decode cX6_link 98 = .ok (.iload 6, 2) := by decide +kernel
theorem dX6_link_100 : decode cX6_link 100 = .ok (.iadd, 1) := by decide +kernel
theorem dX6_link_101 : decode cX6_link 101 = .ok (.iload_n 3, 1) := by decide +kernel
theorem dX6_link_102 : decode cX6_link 102 = .ok (.iastore, 1) := by decide +kernel
theorem dX6_link_103 : decode cX6_link 103 = .ok (.aload_n 0, 1) := by decide +kernel
theorem dX6_link_104 : decode cX6_link 104 = .ok (.getfield 7, 3) := by decide +kernel
theorem dX6_link_107 : decode cX6_link 107 = .ok (.sipush 656, 3) := by decide +kernel
theorem dX6_link_110 : decode cX6_link 110 = .ok (.iload 6, 2) := by decide +kernel
theorem dX6_link_112 : decode cX6_link 112 = .ok (.iadd, 1) := by decide +kernel
theorem dX6_link_113 : decode cX6_link 113 = .ok (.iload 4, 2) := by decide +kernel
theorem dX6_link_115 : decode cX6_link 115 = .ok (.iastore, 1) := by decide +kernel
theorem dX6_link_116 : decode cX6_link 116 = .ok (.aload_n 0, 1) := by decide +kernel
theorem dX6_link_117 : decode cX6_link 117 = .ok (.getfield 7, 3) := by decide +kernel
theorem dX6_link_120 : decode cX6_link 120 = .ok (.bipush 56, 2) := by decide +kernel
theorem dX6_link_122 : decode cX6_link 122 = .ok (.iload_n 1, 1) := by decide +kernel
theorem dX6_link_123 : decode cX6_link 123 = .ok (.iadd, 1) := by decide +kernel
theorem dX6_link_124 : decode cX6_link 124 = .ok (.iload 5, 2) := by decide +kernel
theorem dX6_link_126 : decode cX6_link 126 = .ok (.iconst 1, 1) := by decide +kernel
theorem dX6_link_127 : decode cX6_link 127 = .ok (.iadd, 1) := by decide +kernel
theorem dX6_link_128 : decode cX6_link 128 = .ok (.iastore, 1) := by decide +kernel
theorem dX6_link_129 : decode cX6_link 129 = .ok (.iload 5, 2) := by decide +kernel
theorem dX6_link_131 : decode cX6_link 131 = .ok (.iconst 1, 1) := by decide +kernel
theorem dX6_link_132 : decode cX6_link 132 = .ok (.iadd, 1) := by decide +kernel
theorem dX6_link_133 : decode cX6_link 133 = .ok (.ireturn, 1) := by decide +kernel
theorem dX6_unlink_0 : decode cX6_unlink 0 = .ok (.aload_n 0, 1) := by decide +kernel
theorem dX6_unlink_1 : decode cX6_unlink 1 = .ok (.iload_n 1, 1) := by decide +kernel
theorem dX6_unlink_2 : decode cX6_unlink 2 = .ok (.invokevirtual 152, 3) := by decide +kernel
theorem dX6_unlink_5 : decode cX6_unlink 5 = .ok (.ifCond .ne 24, 3) := by decide +kernel
theorem dX6_unlink_8 : decode cX6_unlink 8 = .ok (.iload_n 2, 1) := by decide +kernel
theorem dX6_unlink_9 : decode cX6_unlink 9 = .ok (.i2l, 1) := by decide +kernel
theorem dX6_unlink_10 : decode cX6_unlink 10 = .ok (.lconst 0, 1) := by decide +kernel
theorem dX6_unlink_11 : decode cX6_unlink 11 = .ok (.aload_n 0, 1) := by decide +kernel
theorem dX6_unlink_12 : decode cX6_unlink 12 = .ok (.getfield 7, 3) := by decide +kernel
theorem dX6_unlink_15 : decode cX6_unlink 15 = .ok (.bipush 56, 2) := by decide +kernel
theorem dX6_unlink_17 : decode cX6_unlink 17 = .ok (.iload_n 1, 1) := by decide +kernel
theorem dX6_unlink_18 : decode cX6_unlink 18 = .ok (.iadd, 1) := by decide +kernel
theorem dX6_unlink_19 : decode cX6_unlink 19 = .ok (.iaload, 1) := by decide +kernel
theorem dX6_unlink_20 : decode cX6_unlink 20 = .ok (.iconst 1, 1) := by decide +kernel
theorem dX6_unlink_21 : decode cX6_unlink 21 = .ok (.isub, 1) := by decide +kernel
theorem dX6_unlink_22 : decode cX6_unlink 22 = .ok (.i2l, 1) := by decide +kernel
theorem dX6_unlink_23 : decode cX6_unlink 23 = .ok (.invokestatic 66, 3) := by decide +kernel
theorem dX6_unlink_26 : decode cX6_unlink 26 = .ok (.ifCond .ne 6, 3) := by decide +kernel
theorem dX6_unlink_29 : decode cX6_unlink 29 = .ok (.ldc 156, 2) := by decide +kernel
theorem dX6_unlink_31 : decode cX6_unlink 31 = .ok (.ireturn, 1) := by decide +kernel
theorem dX6_unlink_32 : decode cX6_unlink 32 = .ok (.bipush 6, 2) := by decide +kernel
theorem dX6_unlink_34 : decode cX6_unlink 34 = .ok (.iload_n 1, 1) := by decide +kernel
theorem dX6_unlink_35 : decode cX6_unlink 35 = .ok (.imul, 1) := by decide +kernel
theorem dX6_unlink_36 : decode cX6_unlink 36 = .ok (.iload_n 2, 1) := by decide +kernel
theorem dX6_unlink_37 : decode cX6_unlink 37 = .ok (.iadd, 1) := by decide +kernel
theorem dX6_unlink_38 : decode cX6_unlink 38 = .ok (.istore_n 3, 1) := by decide +kernel
theorem dX6_unlink_39 : decode cX6_unlink 39 = .ok (.iload_n 3, 1) := by decide +kernel
theorem dX6_unlink_40 : decode cX6_unlink 40 = .ok (.iconst 1, 1) := by decide +kernel
theorem dX6_unlink_41 : decode cX6_unlink 41 = .ok (.iadd, 1) := by decide +kernel
theorem dX6_unlink_42 : decode cX6_unlink 42 = .ok (.bipush 6, 2) := by decide +kernel
theorem dX6_unlink_44 : decode cX6_unlink 44 = .ok (.iload_n 1, 1) := by decide +kernel
theorem dX6_unlink_45 : decode cX6_unlink 45 = .ok (.imul, 1) := by decide +kernel
theorem dX6_unlink_46 : decode cX6_unlink 46 = .ok (.aload_n 0, 1) := by decide +kernel
theorem dX6_unlink_47 : decode cX6_unlink 47 = .ok (.getfield 7, 3) := by decide +kernel
theorem dX6_unlink_50 : decode cX6_unlink 50 = .ok (.bipush 56, 2) := by decide +kernel
theorem dX6_unlink_52 : decode cX6_unlink 52 = .ok (.iload_n 1, 1) := by decide +kernel
theorem dX6_unlink_53 : decode cX6_unlink 53 = .ok (.iadd, 1) := by decide +kernel
theorem dX6_unlink_54 : decode cX6_unlink 54 = .ok (.iaload, 1) := by decide +kernel
theorem dX6_unlink_55 : decode cX6_unlink 55 = .ok (.iadd, 1) := by decide +kernel
theorem dX6_unlink_56 : decode cX6_unlink 56 = .ok (.if_icmp .ge 75, 3) := by decide +kernel
theorem dX6_unlink_59 : decode cX6_unlink 59 = .ok (.aload_n 0, 1) := by decide +kernel
theorem dX6_unlink_60 : decode cX6_unlink 60 = .ok (.getfield 7, 3) := by decide +kernel
theorem dX6_unlink_63 : decode cX6_unlink 63 = .ok (.sipush 368, 3) := by decide +kernel
theorem dX6_unlink_66 : decode cX6_unlink 66 = .ok (.iload_n 3, 1) := by decide +kernel
theorem dX6_unlink_67 : decode cX6_unlink 67 = .ok (.iadd, 1) := by decide +kernel
theorem dX6_unlink_68 : decode cX6_unlink 68 = .ok (.aload_n 0, 1) := by decide +kernel
theorem dX6_unlink_69 : decode cX6_unlink 69 = .ok (.getfield 7, 3) := by decide +kernel
theorem dX6_unlink_72 : decode cX6_unlink 72 = .ok (.sipush 368, 3) := by decide +kernel
theorem dX6_unlink_75 : decode cX6_unlink 75 = .ok (.iload_n 3, 1) := by decide +kernel
theorem dX6_unlink_76 : decode cX6_unlink 76 = .ok (.iadd, 1) := by decide +kernel
theorem dX6_unlink_77 : decode cX6_unlink 77 = .ok (.iconst 1, 1) := by decide +kernel
theorem dX6_unlink_78 : decode cX6_unlink 78 = .ok (.iadd, 1) := by decide +kernel
theorem dX6_unlink_79 : decode cX6_unlink 79 = .ok (.iaload, 1) := by decide +kernel
theorem dX6_unlink_80 : decode cX6_unlink 80 = .ok (.iastore, 1) := by decide +kernel
theorem dX6_unlink_81 : decode cX6_unlink 81 = .ok (.aload_n 0, 1) := by decide +kernel
theorem dX6_unlink_82 : decode cX6_unlink 82 = .ok (.getfield 7, 3) := by decide +kernel
theorem dX6_unlink_85 : decode cX6_unlink 85 = .ok (.sipush 512, 3) := by decide +kernel
theorem dX6_unlink_88 : decode cX6_unlink 88 = .ok (.iload_n 3, 1) := by decide +kernel
theorem dX6_unlink_89 : decode cX6_unlink 89 = .ok (.iadd, 1) := by decide +kernel
theorem dX6_unlink_90 : decode cX6_unlink 90 = .ok (.aload_n 0, 1) := by decide +kernel
theorem dX6_unlink_91 : decode cX6_unlink 91 = .ok (.getfield 7, 3) := by decide +kernel
theorem dX6_unlink_94 : decode cX6_unlink 94 = .ok (.sipush 512, 3) := by decide +kernel
theorem dX6_unlink_97 : decode cX6_unlink 97 = .ok (.iload_n 3, 1) := by decide +kernel
theorem dX6_unlink_98 : decode cX6_unlink 98 = .ok (.iadd, 1) := by decide +kernel
theorem dX6_unlink_99 : decode cX6_unlink 99 = .ok (.iconst 1, 1) := by decide +kernel
theorem dX6_unlink_100 : decode cX6_unlink 100 = .ok (.iadd, 1) := by decide +kernel
theorem dX6_unlink_101 : decode cX6_unlink 101 = .ok (.iaload, 1) := by decide +kernel
theorem dX6_unlink_102 : decode cX6_unlink 102 = .ok (.iastore, 1) := by decide +kernel
theorem dX6_unlink_103 : decode cX6_unlink 103 = .ok (.aload_n 0, 1) := by decide +kernel
theorem dX6_unlink_104 : decode cX6_unlink 104 = .ok (.getfield 7, 3) := by decide +kernel
theorem dX6_unlink_107 : decode cX6_unlink 107 = .ok (.sipush 656, 3) := by decide +kernel
theorem dX6_unlink_110 : decode cX6_unlink 110 = .ok (.iload_n 3, 1) := by decide +kernel
theorem dX6_unlink_111 : decode cX6_unlink 111 = .ok (.iadd, 1) := by decide +kernel
theorem dX6_unlink_112 : decode cX6_unlink 112 = .ok (.aload_n 0, 1) := by decide +kernel
theorem dX6_unlink_113 : decode cX6_unlink 113 = .ok (.getfield 7, 3) := by decide +kernel
theorem dX6_unlink_116 : decode cX6_unlink 116 = .ok (.sipush 656, 3) := by decide +kernel
theorem dX6_unlink_119 : decode cX6_unlink 119 = .ok (.iload_n 3, 1) := by decide +kernel
theorem dX6_unlink_120 : decode cX6_unlink 120 = .ok (.iadd, 1) := by decide +kernel
theorem dX6_unlink_121 : decode cX6_unlink 121 = .ok (.iconst 1, 1) := by decide +kernel
theorem dX6_unlink_122 : decode cX6_unlink 122 = .ok (.iadd, 1) := by decide +kernel
theorem dX6_unlink_123 : decode cX6_unlink 123 = .ok (.iaload, 1) := by decide +kernel
theorem dX6_unlink_124 : decode cX6_unlink 124 = .ok (.iastore, 1) := by decide +kernel
theorem dX6_unlink_125 : decode cX6_unlink 125 = .ok (.iinc 3 1, 3) := by decide +kernel
theorem dX6_unlink_128 : decode cX6_unlink 128 = .ok (.goto (-89), 3) := by decide +kernel
theorem dX6_unlink_131 : decode cX6_unlink 131 = .ok (.aload_n 0, 1) := by decide +kernel
theorem dX6_unlink_132 : decode cX6_unlink 132 = .ok (.getfield 7, 3) := by decide +kernel
theorem dX6_unlink_135 : decode cX6_unlink 135 = .ok (.bipush 56, 2) := by decide +kernel
theorem dX6_unlink_137 : decode cX6_unlink 137 = .ok (.iload_n 1, 1) := by decide +kernel
theorem dX6_unlink_138 : decode cX6_unlink 138 = .ok (.iadd, 1) := by decide +kernel
theorem dX6_unlink_139 : decode cX6_unlink 139 = .ok (.dup2, 1) := by decide +kernel
theorem dX6_unlink_140 : decode cX6_unlink 140 = .ok (.iaload, 1) := by decide +kernel
theorem dX6_unlink_141 : decode cX6_unlink 141 = .ok (.iconst 1, 1) := by decide +kernel
theorem dX6_unlink_142 : decode cX6_unlink 142 = .ok (.isub, 1) := by decide +kernel
theorem dX6_unlink_143 : decode cX6_unlink 143 = .ok (.iastore, 1) := by decide +kernel
theorem dX6_unlink_144 : decode cX6_unlink 144 = .ok (.aload_n 0, 1) := by decide +kernel
theorem dX6_unlink_145 : decode cX6_unlink 145 = .ok (.getfield 7, 3) := by decide +kernel
theorem dX6_unlink_148 : decode cX6_unlink 148 = .ok (.bipush 56, 2) := by decide +kernel
theorem dX6_unlink_150 : decode cX6_unlink 150 = .ok (.iload_n 1, 1) := by decide +kernel
theorem dX6_unlink_151 : decode cX6_unlink 151 = .ok (.iadd, 1) := by decide +kernel
theorem dX6_unlink_152 : decode cX6_unlink 152 = .ok (.iaload, 1) := by decide +kernel
theorem dX6_unlink_153 : decode cX6_unlink 153 = .ok (.ireturn, 1) := by decide +kernel
theorem dX6_choices_0 : decode cX6_choices 0 = .ok (.iconst 0, 1) := by decide +kernel
theorem dX6_choices_1 : decode cX6_choices 1 = .ok (.istore_n 1, 1) := by decide +kernel
theorem dX6_choices_2 : decode cX6_choices 2 = .ok (.iconst 0, 1) := by decide +kernel
theorem dX6_choices_3 : decode cX6_choices 3 = .ok (.istore_n 2, 1) := by decide +kernel
theorem dX6_choices_4 : decode cX6_choices 4 = .ok (.iload_n 2, 1) := by decide +kernel
theorem dX6_choices_5 : decode cX6_choices 5 = .ok (.aload_n 0, 1) := by decide +kernel
theorem dX6_choices_6 : decode cX6_choices 6 = .ok (.getfield 7, 3) := by decide +kernel
theorem dX6_choices_9 : decode cX6_choices 9 = .ok (.iconst 0, 1) := by decide +kernel
theorem dX6_choices_10 : decode cX6_choices 10 = .ok (.iaload, 1) := by decide +kernel
theorem dX6_choices_11 : decode cX6_choices 11 = .ok (.if_icmp .ge 21, 3) := by decide +kernel
theorem dX6_choices_14 : decode cX6_choices 14 = .ok (.iload_n 1, 1) := by decide +kernel
theorem dX6_choices_15 : decode cX6_choices 15 = .ok (.aload_n 0, 1) := by decide +kernel
theorem dX6_choices_16 : decode cX6_choices 16 = .ok (.getfield 7, 3) := by decide +kernel
theorem dX6_choices_19 : decode cX6_choices 19 = .ok (.bipush 56, 2) := by decide +kernel
theorem dX6_choices_21 : decode cX6_choices 21 = .ok (.iload_n 2, 1) := by decide +kernel
theorem dX6_choices_22 : decode cX6_choices 22 = .ok (.iadd, 1) := by decide +kernel
theorem dX6_choices_23 : decode cX6_choices 23 = .ok (.iaload, 1) := by decide +kernel
theorem dX6_choices_24 : decode cX6_choices 24 = .ok (.iadd, 1) := by decide +kernel
theorem dX6_choices_25 : decode cX6_choices 25 = .ok (.istore_n 1, 1) := by decide +kernel
theorem dX6_choices_26 : decode cX6_choices 26 = .ok (.iinc 2 1, 3) := by decide +kernel
theorem dX6_choices_29 : decode cX6_choices 29 = .ok (.goto (-25), 3) := by decide +kernel
theorem dX6_choices_32 : decode cX6_choices 32 = .ok (.iload_n 1, 1) := by decide +kernel
theorem dX6_choices_33 : decode cX6_choices 33 = .ok (.ireturn, 1) := by decide +kernel
theorem dX6_count_0 : decode cX6_count 0 = .ok (.iload_n 1, 1) := by decide +kernel
theorem dX6_count_1 : decode cX6_count 1 = .ok (.tableswitch 77 0 5 #[39, 46, 51, 58, 63, 68], 39) := by decide +kernel
theorem dX6_count_40 : decode cX6_count 40 = .ok (.aload_n 0, 1) := by decide +kernel
theorem dX6_count_41 : decode cX6_count 41 = .ok (.getfield 7, 3) := by decide +kernel
theorem dX6_count_44 : decode cX6_count 44 = .ok (.iconst 0, 1) := by decide +kernel
theorem dX6_count_45 : decode cX6_count 45 = .ok (.iaload, 1) := by decide +kernel
theorem dX6_count_46 : decode cX6_count 46 = .ok (.ireturn, 1) := by decide +kernel
theorem dX6_count_47 : decode cX6_count 47 = .ok (.aload_n 0, 1) := by decide +kernel
theorem dX6_count_48 : decode cX6_count 48 = .ok (.invokevirtual 167, 3) := by decide +kernel
theorem dX6_count_51 : decode cX6_count 51 = .ok (.ireturn, 1) := by decide +kernel
theorem dX6_count_52 : decode cX6_count 52 = .ok (.aload_n 0, 1) := by decide +kernel
theorem dX6_count_53 : decode cX6_count 53 = .ok (.getfield 7, 3) := by decide +kernel
theorem dX6_count_56 : decode cX6_count 56 = .ok (.iconst 1, 1) := by decide +kernel
theorem dX6_count_57 : decode cX6_count 57 = .ok (.iaload, 1) := by decide +kernel
theorem dX6_count_58 : decode cX6_count 58 = .ok (.ireturn, 1) := by decide +kernel
theorem dX6_count_59 : decode cX6_count 59 = .ok (.aload_n 0, 1) := by decide +kernel
theorem dX6_count_60 : decode cX6_count 60 = .ok (.getfield 149, 3) := by decide +kernel
theorem dX6_count_63 : decode cX6_count 63 = .ok (.ireturn, 1) := by decide +kernel
theorem dX6_count_64 : decode cX6_count 64 = .ok (.aload_n 0, 1) := by decide +kernel
theorem dX6_count_65 : decode cX6_count 65 = .ok (.getfield 71, 3) := by decide +kernel
theorem dX6_count_68 : decode cX6_count 68 = .ok (.ireturn, 1) := by decide +kernel
theorem dX6_count_69 : decode cX6_count 69 = .ok (.aload_n 0, 1) := by decide +kernel
theorem dX6_count_70 : decode cX6_count 70 = .ok (.invokevirtual 170, 3) := by decide +kernel
theorem dX6_count_73 : decode cX6_count 73 = .ok (.aload_n 0, 1) := by decide +kernel
theorem dX6_count_74 : decode cX6_count 74 = .ok (.getfield 173, 3) := by decide +kernel
theorem dX6_count_77 : decode cX6_count 77 = .ok (.ireturn, 1) := by decide +kernel
theorem dX6_count_78 : decode cX6_count 78 = .ok (.ldc 70, 2) := by decide +kernel
theorem dX6_count_80 : decode cX6_count 80 = .ok (.ireturn, 1) := by decide +kernel
theorem dX6_come_0 : decode cX6_come 0 = .ok (.aload_n 0, 1) := by decide +kernel
theorem dX6_come_1 : decode cX6_come 1 = .ok (.iload_n 2, 1) := by decide +kernel
theorem dX6_come_2 : decode cX6_come 2 = .ok (.putfield 176, 3) := by decide +kernel
theorem dX6_come_5 : decode cX6_come 5 = .ok (.aload_n 0, 1) := by decide +kernel
theorem dX6_come_6 : decode cX6_come 6 = .ok (.iload_n 3, 1) := by decide +kernel
theorem dX6_come_7 : decode cX6_come 7 = .ok (.putfield 179, 3) := by decide +kernel
theorem dX6_come_10 : decode cX6_come 10 = .ok (.iconst 0, 1) := by decide +kernel
theorem dX6_come_11 : decode cX6_come 11 = .ok (.istore 4, 2) := by decide +kernel
theorem dX6_come_13 : decode cX6_come 13 = .ok (.iload 4, 2) := by decide +kernel
theorem dX6_come_15 : decode cX6_come 15 = .ok (.aload_n 0, 1) := by decide +kernel
theorem dX6_come_16 : decode cX6_come 16 = .ok (.getfield 7, 3) := by decide +kernel
theorem dX6_come_19 : decode cX6_come 19 = .ok (.bipush 32, 2) := by decide +kernel
theorem dX6_come_21 : decode cX6_come 21 = .ok (.iload_n 1, 1) := by decide +kernel
theorem dX6_come_22 : decode cX6_come 22 = .ok (.iadd, 1) := by decide +kernel
theorem dX6_come_23 : decode cX6_come 23 = .ok (.iaload, 1) := by decide +kernel
theorem dX6_come_24 : decode cX6_come 24 = .ok (.if_icmp .ge 177, 3) := by decide +kernel
theorem dX6_come_27 : decode cX6_come 27 = .ok (.aload_n 0, 1) := by decide +kernel
theorem dX6_come_28 : decode cX6_come 28 = .ok (.getfield 179, 3) := by decide +kernel
theorem dX6_come_31 : decode cX6_come 31 = .ok (.ifCond .le 170, 3) := by decide +kernel
theorem dX6_come_34 : decode cX6_come 34 = .ok (.aload_n 0, 1) := by decide +kernel
theorem dX6_come_35 : decode cX6_come 35 = .ok (.getfield 7, 3) := by decide +kernel
theorem dX6_come_38 : decode cX6_come 38 = .ok (.sipush 272, 3) := by decide +kernel
theorem dX6_come_41 : decode cX6_come 41 = .ok (.iconst 4, 1) := by decide +kernel
theorem dX6_come_42 : decode cX6_come 42 = .ok (.iload_n 1, 1) := by decide +kernel
theorem dX6_come_43 : decode cX6_come 43 = .ok (.imul, 1) := by decide +kernel
theorem dX6_come_44 : decode cX6_come 44 = .ok (.iadd, 1) := by decide +kernel
theorem dX6_come_45 : decode cX6_come 45 = .ok (.iload 4, 2) := by decide +kernel
theorem dX6_come_47 : decode cX6_come 47 = .ok (.iadd, 1) := by decide +kernel
theorem dX6_come_48 : decode cX6_come 48 = .ok (.iaload, 1) := by decide +kernel
theorem dX6_come_49 : decode cX6_come 49 = .ok (.istore 5, 2) := by decide +kernel
theorem dX6_come_51 : decode cX6_come 51 = .ok (.aload_n 0, 1) := by decide +kernel
theorem dX6_come_52 : decode cX6_come 52 = .ok (.getfield 7, 3) := by decide +kernel
theorem dX6_come_55 : decode cX6_come 55 = .ok (.sipush 176, 3) := by decide +kernel
theorem dX6_come_58 : decode cX6_come 58 = .ok (.iconst 4, 1) := by decide +kernel
theorem dX6_come_59 : decode cX6_come 59 = .ok (.iload_n 1, 1) := by decide +kernel
theorem dX6_come_60 : decode cX6_come 60 = .ok (.imul, 1) := by decide +kernel
theorem dX6_come_61 : decode cX6_come 61 = .ok (.iadd, 1) := by decide +kernel
theorem dX6_come_62 : decode cX6_come 62 = .ok (.iload 4, 2) := by decide +kernel
theorem dX6_come_64 : decode cX6_come 64 = .ok (.iadd, 1) := by decide +kernel
theorem dX6_come_65 : decode cX6_come 65 = .ok (.iaload, 1) := by decide +kernel
theorem dX6_come_66 : decode cX6_come 66 = .ok (.tableswitch 101 0 2 #[26, 55, 73], 26) := by decide +kernel
theorem dX6_come_92 : decode cX6_come 92 = .ok (.aload_n 0, 1) := by decide +kernel
theorem dX6_come_93 : decode cX6_come 93 = .ok (.dup, 1) := by decide +kernel
theorem dX6_come_94 : decode cX6_come 94 = .ok (.getfield 176, 3) := by decide +kernel
theorem dX6_come_97 : decode cX6_come 97 = .ok (.iload 5, 2) := by decide +kernel
theorem dX6_come_99 : decode cX6_come 99 = .ok (.aload_n 0, 1) := by decide +kernel
theorem dX6_come_100 : decode cX6_come 100 = .ok (.getfield 36, 3) := by decide +kernel
theorem dX6_come_103 : decode cX6_come 103 = .ok (.if_icmp .ne 7, 3) := by decide +kernel
theorem dX6_come_106 : decode cX6_come 106 = .ok (.iconst 0, 1) := by decide +kernel
theorem dX6_come_107 : decode cX6_come 107 = .ok (.goto 7, 3) := by decide +kernel
theorem dX6_come_110 : decode cX6_come 110 = .ok (.iconst 1, 1) := by decide +kernel
theorem dX6_come_111 : decode cX6_come 111 = .ok (.iload 5, 2) := by decide +kernel
theorem dX6_come_113 : decode cX6_come 113 = .ok (.ishl, 1) := by decide +kernel
theorem dX6_come_114 : decode cX6_come 114 = .ok (.ior, 1) := by decide +kernel
theorem dX6_come_115 : decode cX6_come 115 = .ok (.putfield 176, 3) := by decide +kernel
theorem dX6_come_118 : decode cX6_come 118 = .ok (.goto 77, 3) := by decide +kernel
theorem dX6_come_121 : decode cX6_come 121 = .ok (.aload_n 0, 1) := by decide +kernel
theorem dX6_come_122 : decode cX6_come 122 = .ok (.dup, 1) := by decide +kernel
theorem dX6_come_123 : decode cX6_come 123 = .ok (.getfield 176, 3) := by decide +kernel
theorem dX6_come_126 : decode cX6_come 126 = .ok (.iconst 1, 1) := by decide +kernel
theorem dX6_come_127 : decode cX6_come 127 = .ok (.iload 5, 2) := by decide +kernel
theorem dX6_come_129 : decode cX6_come 129 = .ok (.ishl, 1) := by decide +kernel
theorem dX6_come_130 : decode cX6_come 130 = .ok (.iconst (-1), 1) := by decide +kernel
theorem dX6_come_131 : decode cX6_come 131 = .ok (.ixor, 1) := by decide +kernel
theorem dX6_come_132 : decode cX6_come 132 = .ok (.iand, 1) := by decide +kernel
theorem dX6_come_133 : decode cX6_come 133 = .ok (.putfield 176, 3) := by decide +kernel
theorem dX6_come_136 : decode cX6_come 136 = .ok (.goto 59, 3) := by decide +kernel
theorem dX6_come_139 : decode cX6_come 139 = .ok (.aload_n 0, 1) := by decide +kernel
theorem dX6_come_140 : decode cX6_come 140 = .ok (.aload_n 0, 1) := by decide +kernel
theorem dX6_come_141 : decode cX6_come 141 = .ok (.getfield 179, 3) := by decide +kernel
theorem dX6_come_144 : decode cX6_come 144 = .ok (.iload 5, 2) := by decide +kernel
theorem dX6_come_146 : decode cX6_come 146 = .ok (.isub, 1) := by decide +kernel
theorem dX6_come_147 : decode cX6_come 147 = .ok (.ifCond .ge 7, 3) := by decide +kernel
theorem dX6_come_150 : decode cX6_come 150 = .ok (.iconst 0, 1) := by decide +kernel
theorem dX6_come_151 : decode cX6_come 151 = .ok (.goto 10, 3) := by decide +kernel
theorem dX6_come_154 : decode cX6_come 154 = .ok (.aload_n 0, 1) := by decide +kernel
theorem dX6_come_155 : decode cX6_come 155 = .ok (.getfield 179, 3) := by decide +kernel
theorem dX6_come_158 : decode cX6_come 158 = .ok (.iload 5, 2) := by decide +kernel
theorem dX6_come_160 : decode cX6_come 160 = .ok (.isub, 1) := by decide +kernel
theorem dX6_come_161 : decode cX6_come 161 = .ok (.putfield 179, 3) := by decide +kernel
theorem dX6_come_164 : decode cX6_come 164 = .ok (.goto 31, 3) := by decide +kernel
theorem dX6_come_167 : decode cX6_come 167 = .ok (.aload_n 0, 1) := by decide +kernel
theorem dX6_come_168 : decode cX6_come 168 = .ok (.aload_n 0, 1) := by decide +kernel
theorem dX6_come_169 : decode cX6_come 169 = .ok (.getfield 179, 3) := by decide +kernel
theorem dX6_come_172 : decode cX6_come 172 = .ok (.iload 5, 2) := by decide +kernel
theorem dX6_come_174 : decode cX6_come 174 = .ok (.iadd, 1) := by decide +kernel
theorem dX6_come_175 : decode cX6_come 175 = .ok (.bipush 9, 2) := by decide +kernel
theorem dX6_come_177 : decode cX6_come 177 = .ok (.if_icmp .le 8, 3) := by decide +kernel
theorem dX6_come_180 : decode cX6_come 180 = .ok (.bipush 9, 2) := by decide +kernel
theorem dX6_come_182 : decode cX6_come 182 = .ok (.goto 10, 3) := by decide +kernel
theorem dX6_come_185 : decode cX6_come 185 = .ok (.aload_n 0, 1) := by decide +kernel
theorem dX6_come_186 : decode cX6_come 186 = .ok (.getfield 179, 3) := by decide +kernel
theorem dX6_come_189 : decode cX6_come 189 = .ok (.iload 5, 2) := by decide +kernel
theorem dX6_come_191 : decode cX6_come 191 = .ok (.iadd, 1) := by decide +kernel
theorem dX6_come_192 : decode cX6_come 192 = .ok (.putfield 179, 3) := by decide +kernel
theorem dX6_come_195 : decode cX6_come 195 = .ok (.iinc 4 1, 3) := by decide +kernel
theorem dX6_come_198 : decode cX6_come 198 = .ok (.goto (-185), 3) := by decide +kernel
theorem dX6_come_201 : decode cX6_come 201 = .ok (.aload_n 0, 1) := by decide +kernel
theorem dX6_come_202 : decode cX6_come 202 = .ok (.getfield 179, 3) := by decide +kernel
theorem dX6_come_205 : decode cX6_come 205 = .ok (.ifCond .le 7, 3) := by decide +kernel
theorem dX6_come_208 : decode cX6_come 208 = .ok (.iconst 1, 1) := by decide +kernel
theorem dX6_come_209 : decode cX6_come 209 = .ok (.goto 4, 3) := by decide +kernel
theorem dX6_come_212 : decode cX6_come 212 = .ok (.iconst 0, 1) := by decide +kernel
theorem dX6_come_213 : decode cX6_come 213 = .ok (.ireturn, 1) := by decide +kernel
theorem dX6_stateOf_0 : decode cX6_stateOf 0 = .ok (.iload_n 0, 1) := by decide +kernel
theorem dX6_stateOf_1 : decode cX6_stateOf 1 = .ok (.sipush 256, 3) := by decide +kernel
theorem dX6_stateOf_4 : decode cX6_stateOf 4 = .ok (.imul, 1) := by decide +kernel
theorem dX6_stateOf_5 : decode cX6_stateOf 5 = .ok (.iload_n 1, 1) := by decide +kernel
theorem dX6_stateOf_6 : decode cX6_stateOf 6 = .ok (.iadd, 1) := by decide +kernel
theorem dX6_stateOf_7 : decode cX6_stateOf 7 = .ok (.bipush 10, 2) := by decide +kernel
theorem dX6_stateOf_9 : decode cX6_stateOf 9 = .ok (.imul, 1) := by decide +kernel
theorem dX6_stateOf_10 : decode cX6_stateOf 10 = .ok (.iload_n 2, 1) := by decide +kernel
theorem dX6_stateOf_11 : decode cX6_stateOf 11 = .ok (.iadd, 1) := by decide +kernel
theorem dX6_stateOf_12 : decode cX6_stateOf 12 = .ok (.ireturn, 1) := by decide +kernel
theorem dX6_partOf_0 : decode cX6_partOf 0 = .ok (.iload_n 0, 1) := by decide +kernel
theorem dX6_partOf_1 : decode cX6_partOf 1 = .ok (.sipush 2560, 3) := by decide +kernel
theorem dX6_partOf_4 : decode cX6_partOf 4 = .ok (.idiv, 1) := by decide +kernel
theorem dX6_partOf_5 : decode cX6_partOf 5 = .ok (.ireturn, 1) := by decide +kernel
theorem dX6_thingsOf_0 : decode cX6_thingsOf 0 = .ok (.iload_n 0, 1) := by decide +kernel
theorem dX6_thingsOf_1 : decode cX6_thingsOf 1 = .ok (.bipush 10, 2) := by decide +kernel
theorem dX6_thingsOf_3 : decode cX6_thingsOf 3 = .ok (.idiv, 1) := by decide +kernel
theorem dX6_thingsOf_4 : decode cX6_thingsOf 4 = .ok (.sipush 256, 3) := by decide +kernel
theorem dX6_thingsOf_7 : decode cX6_thingsOf 7 = .ok (.irem, 1) := by decide +kernel
theorem dX6_thingsOf_8 : decode cX6_thingsOf 8 = .ok (.ireturn, 1) := by decide +kernel
theorem dX6_healthOf_0 : decode cX6_healthOf 0 = .ok (.iload_n 0, 1) := by decide +kernel
theorem dX6_healthOf_1 : decode cX6_healthOf 1 = .ok (.bipush 10, 2) := by decide +kernel
theorem dX6_healthOf_3 : decode cX6_healthOf 3 = .ok (.irem, 1) := by decide +kernel
theorem dX6_healthOf_4 : decode cX6_healthOf 4 = .ok (.ireturn, 1) := by decide +kernel
theorem dX6_stateAt_0 : decode cX6_stateAt 0 = .ok (.iload_n 1, 1) := by decide +kernel
theorem dX6_stateAt_1 : decode cX6_stateAt 1 = .ok (.aload_n 0, 1) := by decide +kernel
theorem dX6_stateAt_2 : decode cX6_stateAt 2 = .ok (.getfield 33, 3) := by decide +kernel
theorem dX6_stateAt_5 : decode cX6_stateAt 5 = .ok (.if_icmp .eq 26, 3) := by decide +kernel
theorem dX6_stateAt_8 : decode cX6_stateAt 8 = .ok (.aload_n 0, 1) := by decide +kernel
theorem dX6_stateAt_9 : decode cX6_stateAt 9 = .ok (.iload_n 1, 1) := by decide +kernel
theorem dX6_stateAt_10 : decode cX6_stateAt 10 = .ok (.iload_n 2, 1) := by decide +kernel
theorem dX6_stateAt_11 : decode cX6_stateAt 11 = .ok (.iload_n 3, 1) := by decide +kernel
theorem dX6_stateAt_12 : decode cX6_stateAt 12 = .ok (.invokevirtual 182, 3) := by decide +kernel
theorem dX6_stateAt_15 : decode cX6_stateAt 15 = .ok (.ifCond .eq 16, 3) := by decide +kernel
theorem dX6_stateAt_18 : decode cX6_stateAt 18 = .ok (.aload_n 0, 1) := by decide +kernel
theorem dX6_stateAt_19 : decode cX6_stateAt 19 = .ok (.getfield 7, 3) := by decide +kernel
theorem dX6_stateAt_22 : decode cX6_stateAt 22 = .ok (.bipush 8, 2) := by decide +kernel
theorem dX6_stateAt_24 : decode cX6_stateAt 24 = .ok (.iload_n 1, 1) := by decide +kernel
theorem dX6_stateAt_25 : decode cX6_stateAt 25 = .ok (.iadd, 1) := by decide +kernel
theorem dX6_stateAt_26 : decode cX6_stateAt 26 = .ok (.iaload, 1) := by decide +kernel
theorem dX6_stateAt_27 : decode cX6_stateAt 27 = .ok (.iconst 2, 1) := by decide +kernel
theorem dX6_stateAt_28 : decode cX6_stateAt 28 = .ok (.if_icmp .ne 6, 3) := by decide +kernel
theorem dX6_stateAt_31 : decode cX6_stateAt 31 = .ok (.bipush (-2), 2) := by decide +kernel
theorem dX6_stateAt_33 : decode cX6_stateAt 33 = .ok (.ireturn, 1) := by decide +kernel
theorem dX6_stateAt_34 : decode cX6_stateAt 34 = .ok (.iload_n 1, 1) := by decide +kernel
theorem dX6_stateAt_35 : decode cX6_stateAt 35 = .ok (.aload_n 0, 1) := by decide +kernel
theorem dX6_stateAt_36 : decode cX6_stateAt 36 = .ok (.getfield 176, 3) := by decide +kernel
theorem dX6_stateAt_39 : decode cX6_stateAt 39 = .ok (.aload_n 0, 1) := by decide +kernel
theorem dX6_stateAt_40 : decode cX6_stateAt 40 = .ok (.getfield 179, 3) := by decide +kernel
theorem dX6_stateAt_43 : decode cX6_stateAt 43 = .ok (.invokestatic 186, 3) := by decide +kernel
theorem dX6_stateAt_46 : decode cX6_stateAt 46 = .ok (.ireturn, 1) := by decide +kernel
theorem dX6_isOpenChoice_0 : decode cX6_isOpenChoice 0 = .ok (.aload_n 0, 1) := by decide +kernel
theorem dX6_isOpenChoice_1 : decode cX6_isOpenChoice 1 = .ok (.getfield 7, 3) := by decide +kernel
theorem dX6_isOpenChoice_4 : decode cX6_isOpenChoice 4 = .ok (.sipush 512, 3) := by decide +kernel
theorem dX6_isOpenChoice_7 : decode cX6_isOpenChoice 7 = .ok (.bipush 6, 2) := by decide +kernel
theorem dX6_isOpenChoice_9 : decode cX6_isOpenChoice 9 = .ok (.iload_n 1, 1) := by decide +kernel
theorem dX6_isOpenChoice_10 : decode cX6_isOpenChoice 10 = .ok (.imul, 1) := by decide +kernel
theorem dX6_isOpenChoice_11 : decode cX6_isOpenChoice 11 = .ok (.iadd, 1) := by decide +kernel
theorem dX6_isOpenChoice_12 : decode cX6_isOpenChoice 12 = .ok (.iload_n 2, 1) := by decide +kernel
theorem dX6_isOpenChoice_13 : decode cX6_isOpenChoice 13 = .ok (.iadd, 1) := by decide +kernel
theorem dX6_isOpenChoice_14 : decode cX6_isOpenChoice 14 = .ok (.iaload, 1) := by decide +kernel
theorem dX6_isOpenChoice_15 : decode cX6_isOpenChoice 15 = .ok (.istore 4, 2) := by decide +kernel
theorem dX6_isOpenChoice_17 : decode cX6_isOpenChoice 17 = .ok (.aload_n 0, 1) := by decide +kernel
theorem dX6_isOpenChoice_18 : decode cX6_isOpenChoice 18 = .ok (.getfield 7, 3) := by decide +kernel
theorem dX6_isOpenChoice_21 : decode cX6_isOpenChoice 21 = .ok (.sipush 656, 3) := by decide +kernel
theorem dX6_isOpenChoice_24 : decode cX6_isOpenChoice 24 = .ok (.bipush 6, 2) := by decide +kernel
theorem dX6_isOpenChoice_26 : decode cX6_isOpenChoice 26 = .ok (.iload_n 1, 1) := by decide +kernel
theorem dX6_isOpenChoice_27 : decode cX6_isOpenChoice 27 = .ok (.imul, 1) := by decide +kernel
theorem dX6_isOpenChoice_28 : decode cX6_isOpenChoice 28 = .ok (.iadd, 1) := by decide +kernel
theorem dX6_isOpenChoice_29 : decode cX6_isOpenChoice 29 = .ok (.iload_n 2, 1) := by decide +kernel
theorem dX6_isOpenChoice_30 : decode cX6_isOpenChoice 30 = .ok (.iadd, 1) := by decide +kernel
theorem dX6_isOpenChoice_31 : decode cX6_isOpenChoice 31 = .ok (.iaload, 1) := by decide +kernel
theorem dX6_isOpenChoice_32 : decode cX6_isOpenChoice 32 = .ok (.istore 5, 2) := by decide +kernel
theorem dX6_isOpenChoice_34 : decode cX6_isOpenChoice 34 = .ok (.iload 4, 2) := by decide +kernel
theorem dX6_isOpenChoice_36 : decode cX6_isOpenChoice 36 = .ok (.ifCond .lt 12, 3) := by decide +kernel
theorem dX6_isOpenChoice_39 : decode cX6_isOpenChoice 39 = .ok (.iload_n 3, 1) := by decide +kernel
theorem dX6_isOpenChoice_40 : decode cX6_isOpenChoice 40 = .ok (.iload 4, 2) := by decide +kernel
theorem dX6_isOpenChoice_42 : decode cX6_isOpenChoice 42 = .ok (.invokestatic 190, 3) := by decide +kernel
theorem dX6_isOpenChoice_45 : decode cX6_isOpenChoice 45 = .ok (.ifCond .eq 21, 3) := by decide +kernel
theorem dX6_isOpenChoice_48 : decode cX6_isOpenChoice 48 = .ok (.iload 5, 2) := by decide +kernel
theorem dX6_isOpenChoice_50 : decode cX6_isOpenChoice 50 = .ok (.ifCond .lt 12, 3) := by decide +kernel
theorem dX6_isOpenChoice_53 : decode cX6_isOpenChoice 53 = .ok (.iload_n 3, 1) := by decide +kernel
theorem dX6_isOpenChoice_54 : decode cX6_isOpenChoice 54 = .ok (.iload 5, 2) := by decide +kernel
theorem dX6_isOpenChoice_56 : decode cX6_isOpenChoice 56 = .ok (.invokestatic 190, 3) := by decide +kernel
theorem dX6_isOpenChoice_59 : decode cX6_isOpenChoice 59 = .ok (.ifCond .ne 7, 3) := by decide +kernel
theorem dX6_isOpenChoice_62 : decode cX6_isOpenChoice 62 = .ok (.iconst 1, 1) := by decide +kernel
theorem dX6_isOpenChoice_63 : decode cX6_isOpenChoice 63 = .ok (.goto 4, 3) := by decide +kernel
theorem dX6_isOpenChoice_66 : decode cX6_isOpenChoice 66 = .ok (.iconst 0, 1) := by decide +kernel
theorem dX6_isOpenChoice_67 : decode cX6_isOpenChoice 67 = .ok (.ireturn, 1) := by decide +kernel
theorem dX6_waysOf_0 : decode cX6_waysOf 0 = .ok (.iload_n 1, 1) := by decide +kernel
theorem dX6_waysOf_1 : decode cX6_waysOf 1 = .ok (.invokestatic 194, 3) := by decide +kernel
theorem dX6_waysOf_4 : decode cX6_waysOf 4 = .ok (.istore_n 2, 1) := by decide +kernel
theorem dX6_waysOf_5 : decode cX6_waysOf 5 = .ok (.aload_n 0, 1) := by decide +kernel
theorem dX6_waysOf_6 : decode cX6_waysOf 6 = .ok (.getfield 7, 3) := by decide +kernel
theorem dX6_waysOf_9 : decode cX6_waysOf 9 = .ok (.bipush 8, 2) := by decide +kernel
theorem dX6_waysOf_11 : decode cX6_waysOf 11 = .ok (.iload_n 2, 1) := by decide +kernel
theorem dX6_waysOf_12 : decode cX6_waysOf 12 = .ok (.iadd, 1) := by decide +kernel
theorem dX6_waysOf_13 : decode cX6_waysOf 13 = .ok (.iaload, 1) := by decide +kernel
theorem dX6_waysOf_14 : decode cX6_waysOf 14 = .ok (.iconst 3, 1) := by decide +kernel
theorem dX6_waysOf_15 : decode cX6_waysOf 15 = .ok (.if_icmp .ne 7, 3) := by decide +kernel
theorem dX6_waysOf_18 : decode cX6_waysOf 18 = .ok (.iconst 2, 1) := by decide +kernel
theorem dX6_waysOf_19 : decode cX6_waysOf 19 = .ok (.goto 28, 3) := by decide +kernel
theorem dX6_waysOf_22 : decode cX6_waysOf 22 = .ok (.aload_n 0, 1) := by decide +kernel
theorem dX6_waysOf_23 : decode cX6_waysOf 23 = .ok (.getfield 7, 3) := by decide +kernel
theorem dX6_waysOf_26 : decode cX6_waysOf 26 = .ok (.bipush 8, 2) := by decide +kernel
theorem dX6_waysOf_28 : decode cX6_waysOf 28 = .ok (.iload_n 2, 1) := by decide +kernel
theorem dX6_waysOf_29 : decode cX6_waysOf 29 = .ok (.iadd, 1) := by decide +kernel
theorem dX6_waysOf_30 : decode cX6_waysOf 30 = .ok (.iaload, 1) := by decide +kernel
theorem dX6_waysOf_31 : decode cX6_waysOf 31 = .ok (.ifCond .ne 15, 3) := by decide +kernel
theorem dX6_waysOf_34 : decode cX6_waysOf 34 = .ok (.aload_n 0, 1) := by decide +kernel
theorem dX6_waysOf_35 : decode cX6_waysOf 35 = .ok (.getfield 7, 3) := by decide +kernel
theorem dX6_waysOf_38 : decode cX6_waysOf 38 = .ok (.bipush 56, 2) := by decide +kernel
theorem dX6_waysOf_40 : decode cX6_waysOf 40 = .ok (.iload_n 2, 1) := by decide +kernel
theorem dX6_waysOf_41 : decode cX6_waysOf 41 = .ok (.iadd, 1) := by decide +kernel
theorem dX6_waysOf_42 : decode cX6_waysOf 42 = .ok (.iaload, 1) := by decide +kernel
theorem dX6_waysOf_43 : decode cX6_waysOf 43 = .ok (.goto 4, 3) := by decide +kernel
theorem dX6_waysOf_46 : decode cX6_waysOf 46 = .ok (.iconst 0, 1) := by decide +kernel
theorem dX6_waysOf_47 : decode cX6_waysOf 47 = .ok (.ireturn, 1) := by decide +kernel
theorem dX6_isWay_0 : decode cX6_isWay 0 = .ok (.iload_n 1, 1) := by decide +kernel
theorem dX6_isWay_1 : decode cX6_isWay 1 = .ok (.invokestatic 194, 3) := by decide +kernel
theorem dX6_isWay_4 : decode cX6_isWay 4 = .ok (.istore_n 3, 1) := by decide +kernel
theorem dX6_isWay_5 : decode cX6_isWay 5 = .ok (.aload_n 0, 1) := by decide +kernel
theorem dX6_isWay_6 : decode cX6_isWay 6 = .ok (.getfield 7, 3) := by decide +kernel
theorem dX6_isWay_9 : decode cX6_isWay 9 = .ok (.bipush 8, 2) := by decide +kernel
theorem dX6_isWay_11 : decode cX6_isWay 11 = .ok (.iload_n 3, 1) := by decide +kernel
theorem dX6_isWay_12 : decode cX6_isWay 12 = .ok (.iadd, 1) := by decide +kernel
theorem dX6_isWay_13 : decode cX6_isWay 13 = .ok (.iaload, 1) := by decide +kernel
theorem dX6_isWay_14 : decode cX6_isWay 14 = .ok (.iconst 3, 1) := by decide +kernel
theorem dX6_isWay_15 : decode cX6_isWay 15 = .ok (.if_icmp .eq 16, 3) := by decide +kernel
theorem dX6_isWay_18 : decode cX6_isWay 18 = .ok (.aload_n 0, 1) := by decide +kernel
theorem dX6_isWay_19 : decode cX6_isWay 19 = .ok (.iload_n 3, 1) := by decide +kernel
theorem dX6_isWay_20 : decode cX6_isWay 20 = .ok (.iload_n 2, 1) := by decide +kernel
theorem dX6_isWay_21 : decode cX6_isWay 21 = .ok (.iload_n 1, 1) := by decide +kernel
theorem dX6_isWay_22 : decode cX6_isWay 22 = .ok (.invokestatic 197, 3) := by decide +kernel
theorem dX6_isWay_25 : decode cX6_isWay 25 = .ok (.invokevirtual 200, 3) := by decide +kernel
theorem dX6_isWay_28 : decode cX6_isWay 28 = .ok (.ifCond .eq 7, 3) := by decide +kernel
theorem dX6_isWay_31 : decode cX6_isWay 31 = .ok (.iconst 1, 1) := by decide +kernel
theorem dX6_isWay_32 : decode cX6_isWay 32 = .ok (.goto 4, 3) := by decide +kernel
theorem dX6_isWay_35 : decode cX6_isWay 35 = .ok (.iconst 0, 1) := by decide +kernel
theorem dX6_isWay_36 : decode cX6_isWay 36 = .ok (.ireturn, 1) := by decide +kernel
theorem dX6_goalOf_0 : decode cX6_goalOf 0 = .ok (.iload_n 1, 1) := by decide +kernel
theorem dX6_goalOf_1 : decode cX6_goalOf 1 = .ok (.invokestatic 194, 3) := by decide +kernel
theorem dX6_goalOf_4 : decode cX6_goalOf 4 = .ok (.istore_n 3, 1) := by decide +kernel
theorem dX6_goalOf_5 : decode cX6_goalOf 5 = .ok (.aload_n 0, 1) := by decide +kernel
theorem dX6_goalOf_6 : decode cX6_goalOf 6 = .ok (.getfield 7, 3) := by decide +kernel
theorem dX6_goalOf_9 : decode cX6_goalOf 9 = .ok (.bipush 8, 2) := by decide +kernel
theorem dX6_goalOf_11 : decode cX6_goalOf 11 = .ok (.iload_n 3, 1) := by decide +kernel
theorem dX6_goalOf_12 : decode cX6_goalOf 12 = .ok (.iadd, 1) := by decide +kernel
theorem dX6_goalOf_13 : decode cX6_goalOf 13 = .ok (.iaload, 1) := by decide +kernel
theorem dX6_goalOf_14 : decode cX6_goalOf 14 = .ok (.iconst 3, 1) := by decide +kernel
theorem dX6_goalOf_15 : decode cX6_goalOf 15 = .ok (.if_icmp .ne 32, 3) := by decide +kernel
theorem dX6_goalOf_18 : decode cX6_goalOf 18 = .ok (.iload_n 2, 1) := by decide +kernel
theorem dX6_goalOf_19 : decode cX6_goalOf 19 = .ok (.ifCond .ne 15, 3) := by decide +kernel
theorem dX6_goalOf_22 : decode cX6_goalOf 22 = .ok (.aload_n 0, 1) := by decide +kernel
theorem dX6_goalOf_23 : decode cX6_goalOf 23 = .ok (.getfield 7, 3) := by decide +kernel
theorem dX6_goalOf_26 : decode cX6_goalOf 26 = .ok (.bipush 104, 2) := by decide +kernel
theorem dX6_goalOf_28 : decode cX6_goalOf 28 = .ok (.iload_n 3, 1) := by decide +kernel
theorem dX6_goalOf_29 : decode cX6_goalOf 29 = .ok (.iadd, 1) := by decide +kernel
theorem dX6_goalOf_30 : decode cX6_goalOf 30 = .ok (.iaload, 1) := by decide +kernel
theorem dX6_goalOf_31 : decode cX6_goalOf 31 = .ok (.goto 31, 3) := by decide +kernel
theorem dX6_goalOf_34 : decode cX6_goalOf 34 = .ok (.aload_n 0, 1) := by decide +kernel
theorem dX6_goalOf_35 : decode cX6_goalOf 35 = .ok (.getfield 7, 3) := by decide +kernel
theorem dX6_goalOf_38 : decode cX6_goalOf 38 = .ok (.sipush 128, 3) := by decide +kernel
theorem dX6_goalOf_41 : decode cX6_goalOf 41 = .ok (.iload_n 3, 1) := by decide +kernel
theorem dX6_goalOf_42 : decode cX6_goalOf 42 = .ok (.iadd, 1) := by decide +kernel
theorem dX6_goalOf_43 : decode cX6_goalOf 43 = .ok (.iaload, 1) := by decide +kernel
theorem dX6_goalOf_44 : decode cX6_goalOf 44 = .ok (.goto 18, 3) := by decide +kernel
theorem dX6_goalOf_47 : decode cX6_goalOf 47 = .ok (.aload_n 0, 1) := by decide +kernel
theorem dX6_goalOf_48 : decode cX6_goalOf 48 = .ok (.getfield 7, 3) := by decide +kernel
theorem dX6_goalOf_51 : decode cX6_goalOf 51 = .ok (.sipush 368, 3) := by decide +kernel
theorem dX6_goalOf_54 : decode cX6_goalOf 54 = .ok (.bipush 6, 2) := by decide +kernel
theorem dX6_goalOf_56 : decode cX6_goalOf 56 = .ok (.iload_n 3, 1) := by decide +kernel
theorem dX6_goalOf_57 : decode cX6_goalOf 57 = .ok (.imul, 1) := by decide +kernel
theorem dX6_goalOf_58 : decode cX6_goalOf 58 = .ok (.iadd, 1) := by decide +kernel
theorem dX6_goalOf_59 : decode cX6_goalOf 59 = .ok (.iload_n 2, 1) := by decide +kernel
theorem dX6_goalOf_60 : decode cX6_goalOf 60 = .ok (.iadd, 1) := by decide +kernel
theorem dX6_goalOf_61 : decode cX6_goalOf 61 = .ok (.iaload, 1) := by decide +kernel
theorem dX6_goalOf_62 : decode cX6_goalOf 62 = .ok (.ireturn, 1) := by decide +kernel
theorem dX6_wayTo_0 : decode cX6_wayTo 0 = .ok (.aload_n 0, 1) := by decide +kernel
theorem dX6_wayTo_1 : decode cX6_wayTo 1 = .ok (.aload_n 0, 1) := by decide +kernel
theorem dX6_wayTo_2 : decode cX6_wayTo 2 = .ok (.iload_n 1, 1) := by decide +kernel
theorem dX6_wayTo_3 : decode cX6_wayTo 3 = .ok (.iload_n 2, 1) := by decide +kernel
theorem dX6_wayTo_4 : decode cX6_wayTo 4 = .ok (.invokevirtual 203, 3) := by decide +kernel
theorem dX6_wayTo_7 : decode cX6_wayTo 7 = .ok (.iload_n 1, 1) := by decide +kernel
theorem dX6_wayTo_8 : decode cX6_wayTo 8 = .ok (.invokestatic 197, 3) := by decide +kernel
theorem dX6_wayTo_11 : decode cX6_wayTo 11 = .ok (.iload_n 1, 1) := by decide +kernel
theorem dX6_wayTo_12 : decode cX6_wayTo 12 = .ok (.invokestatic 206, 3) := by decide +kernel
theorem dX6_wayTo_15 : decode cX6_wayTo 15 = .ok (.invokevirtual 209, 3) := by decide +kernel
theorem dX6_wayTo_18 : decode cX6_wayTo 18 = .ok (.ireturn, 1) := by decide +kernel
theorem dX6_openWays_0 : decode cX6_openWays 0 = .ok (.iconst 0, 1) := by decide +kernel
theorem dX6_openWays_1 : decode cX6_openWays 1 = .ok (.istore_n 2, 1) := by decide +kernel
theorem dX6_openWays_2 : decode cX6_openWays 2 = .ok (.iconst 0, 1) := by decide +kernel
theorem dX6_openWays_3 : decode cX6_openWays 3 = .ok (.istore_n 3, 1) := by decide +kernel
theorem dX6_openWays_4 : decode cX6_openWays 4 = .ok (.iload_n 3, 1) := by decide +kernel
theorem dX6_openWays_5 : decode cX6_openWays 5 = .ok (.aload_n 0, 1) := by decide +kernel
theorem dX6_openWays_6 : decode cX6_openWays 6 = .ok (.iload_n 1, 1) := by decide +kernel
theorem dX6_openWays_7 : decode cX6_openWays 7 = .ok (.invokevirtual 212, 3) := by decide +kernel
theorem dX6_openWays_10 : decode cX6_openWays 10 = .ok (.if_icmp .ge 23, 3) := by decide +kernel
theorem dX6_openWays_13 : decode cX6_openWays 13 = .ok (.iload_n 2, 1) := by decide +kernel
theorem dX6_openWays_14 : decode cX6_openWays 14 = .ok (.aload_n 0, 1) := by decide +kernel
theorem dX6_openWays_15 : decode cX6_openWays 15 = .ok (.iload_n 1, 1) := by decide +kernel
theorem dX6_openWays_16 : decode cX6_openWays 16 = .ok (.iload_n 3, 1) := by decide +kernel
theorem dX6_openWays_17 : decode cX6_openWays 17 = .ok (.invokevirtual 215, 3) := by decide +kernel
theorem dX6_openWays_20 : decode cX6_openWays 20 = .ok (.invokestatic 218, 3) := by decide +kernel
theorem dX6_openWays_23 : decode cX6_openWays 23 = .ok (.iload_n 3, 1) := by decide +kernel
theorem dX6_openWays_24 : decode cX6_openWays 24 = .ok (.ishl, 1) := by decide +kernel
theorem dX6_openWays_25 : decode cX6_openWays 25 = .ok (.ior, 1) := by decide +kernel
theorem dX6_openWays_26 : decode cX6_openWays 26 = .ok (.istore_n 2, 1) := by decide +kernel
theorem dX6_openWays_27 : decode cX6_openWays 27 = .ok (.iinc 3 1, 3) := by decide +kernel
theorem dX6_openWays_30 : decode cX6_openWays 30 = .ok (.goto (-26), 3) := by decide +kernel
theorem dX6_openWays_33 : decode cX6_openWays 33 = .ok (.iload_n 2, 1) := by decide +kernel
theorem dX6_openWays_34 : decode cX6_openWays 34 = .ok (.ireturn, 1) := by decide +kernel
theorem dX6_standsAt_0 : decode cX6_standsAt 0 = .ok (.aload_n 0, 1) := by decide +kernel
theorem dX6_standsAt_1 : decode cX6_standsAt 1 = .ok (.getfield 7, 3) := by decide +kernel
theorem dX6_standsAt_4 : decode cX6_standsAt 4 = .ok (.bipush 8, 2) := by decide +kernel
theorem dX6_standsAt_6 : decode cX6_standsAt 6 = .ok (.iload_n 1, 1) := by decide +kernel
theorem dX6_standsAt_7 : decode cX6_standsAt 7 = .ok (.invokestatic 194, 3) := by decide +kernel
theorem dX6_standsAt_10 : decode cX6_standsAt 10 = .ok (.iadd, 1) := by decide +kernel
theorem dX6_standsAt_11 : decode cX6_standsAt 11 = .ok (.iaload, 1) := by decide +kernel
theorem dX6_standsAt_12 : decode cX6_standsAt 12 = .ok (.iconst 1, 1) := by decide +kernel
theorem dX6_standsAt_13 : decode cX6_standsAt 13 = .ok (.if_icmp .ne 7, 3) := by decide +kernel
theorem dX6_standsAt_16 : decode cX6_standsAt 16 = .ok (.iconst 1, 1) := by decide +kernel
theorem dX6_standsAt_17 : decode cX6_standsAt 17 = .ok (.goto 16, 3) := by decide +kernel
theorem dX6_standsAt_20 : decode cX6_standsAt 20 = .ok (.aload_n 0, 1) := by decide +kernel
theorem dX6_standsAt_21 : decode cX6_standsAt 21 = .ok (.iload_n 1, 1) := by decide +kernel
theorem dX6_standsAt_22 : decode cX6_standsAt 22 = .ok (.invokevirtual 222, 3) := by decide +kernel
theorem dX6_standsAt_25 : decode cX6_standsAt 25 = .ok (.ifCond .ne 7, 3) := by decide +kernel
theorem dX6_standsAt_28 : decode cX6_standsAt 28 = .ok (.iconst 3, 1) := by decide +kernel
theorem dX6_standsAt_29 : decode cX6_standsAt 29 = .ok (.goto 4, 3) := by decide +kernel
theorem dX6_standsAt_32 : decode cX6_standsAt 32 = .ok (.iconst 0, 1) := by decide +kernel
theorem dX6_standsAt_33 : decode cX6_standsAt 33 = .ok (.ireturn, 1) := by decide +kernel
theorem dX6_beginSpread_0 : decode cX6_beginSpread 0 = .ok (.iconst 0, 1) := by decide +kernel
theorem dX6_beginSpread_1 : decode cX6_beginSpread 1 = .ok (.istore_n 1, 1) := by decide +kernel
theorem dX6_beginSpread_2 : decode cX6_beginSpread 2 = .ok (.iload_n 1, 1) := by decide +kernel
theorem dX6_beginSpread_3 : decode cX6_beginSpread 3 = .ok (.aload_n 0, 1) := by decide +kernel
theorem dX6_beginSpread_4 : decode cX6_beginSpread 4 = .ok (.getfield 173, 3) := by decide +kernel
theorem dX6_beginSpread_7 : decode cX6_beginSpread 7 = .ok (.if_icmp .ge 21, 3) := by decide +kernel
theorem dX6_beginSpread_10 : decode cX6_beginSpread 10 = .ok (.aload_n 0, 1) := by decide +kernel
theorem dX6_beginSpread_11 : decode cX6_beginSpread 11 = .ok (.getfield 43, 3) := by decide +kernel
theorem dX6_beginSpread_14 : decode cX6_beginSpread 14 = .ok (.aload_n 0, 1) := by decide +kernel
theorem dX6_beginSpread_15 : decode cX6_beginSpread 15 = .ok (.getfield 40, 3) := by decide +kernel
theorem dX6_beginSpread_18 : decode cX6_beginSpread 18 = .ok (.iload_n 1, 1) := by decide +kernel
theorem dX6_beginSpread_19 : decode cX6_beginSpread 19 = .ok (.iaload, 1) := by decide +kernel
theorem dX6_beginSpread_20 : decode cX6_beginSpread 20 = .ok (.iconst 0, 1) := by decide +kernel
theorem dX6_beginSpread_21 : decode cX6_beginSpread 21 = .ok (.iastore, 1) := by decide +kernel
theorem dX6_beginSpread_22 : decode cX6_beginSpread 22 = .ok (.iinc 1 1, 3) := by decide +kernel
theorem dX6_beginSpread_25 : decode cX6_beginSpread 25 = .ok (.goto (-23), 3) := by decide +kernel
theorem dX6_beginSpread_28 : decode cX6_beginSpread 28 = .ok (.aload_n 0, 1) := by decide +kernel
theorem dX6_beginSpread_29 : decode cX6_beginSpread 29 = .ok (.iconst 0, 1) := by decide +kernel
theorem dX6_beginSpread_30 : decode cX6_beginSpread 30 = .ok (.putfield 173, 3) := by decide +kernel
theorem dX6_beginSpread_33 : decode cX6_beginSpread 33 = .ok (.aload_n 0, 1) := by decide +kernel
theorem dX6_beginSpread_34 : decode cX6_beginSpread 34 = .ok (.iconst 0, 1) := by decide +kernel
theorem dX6_beginSpread_35 : decode cX6_beginSpread 35 = .ok (.putfield 225, 3) := by decide +kernel
theorem dX6_beginSpread_38 : decode cX6_beginSpread 38 = .ok (.return_, 1) := by decide +kernel
theorem dX6_reach_0 : decode cX6_reach 0 = .ok (.iload_n 1, 1) := by decide +kernel
theorem dX6_reach_1 : decode cX6_reach 1 = .ok (.bipush (-2), 2) := by decide +kernel
theorem dX6_reach_3 : decode cX6_reach 3 = .ok (.if_icmp .eq 41, 3) := by decide +kernel
theorem dX6_reach_6 : decode cX6_reach 6 = .ok (.aload_n 0, 1) := by decide +kernel
theorem dX6_reach_7 : decode cX6_reach 7 = .ok (.getfield 43, 3) := by decide +kernel
theorem dX6_reach_10 : decode cX6_reach 10 = .ok (.iload_n 1, 1) := by decide +kernel
theorem dX6_reach_11 : decode cX6_reach 11 = .ok (.iaload, 1) := by decide +kernel
theorem dX6_reach_12 : decode cX6_reach 12 = .ok (.ifCond .ne 32, 3) := by decide +kernel
theorem dX6_reach_15 : decode cX6_reach 15 = .ok (.aload_n 0, 1) := by decide +kernel
theorem dX6_reach_16 : decode cX6_reach 16 = .ok (.getfield 43, 3) := by decide +kernel
theorem dX6_reach_19 : decode cX6_reach 19 = .ok (.iload_n 1, 1) := by decide +kernel
theorem dX6_reach_20 : decode cX6_reach 20 = .ok (.iload_n 2, 1) := by decide +kernel
theorem dX6_reach_21 : decode cX6_reach 21 = .ok (.iconst 1, 1) := by decide +kernel
theorem dX6_reach_22 : decode cX6_reach 22 = .ok (.iadd, 1) := by decide +kernel
theorem dX6_reach_23 : decode cX6_reach 23 = .ok (.iastore, 1) := by decide +kernel
theorem dX6_reach_24 : decode cX6_reach 24 = .ok (.aload_n 0, 1) := by decide +kernel
theorem dX6_reach_25 : decode cX6_reach 25 = .ok (.getfield 40, 3) := by decide +kernel
theorem dX6_reach_28 : decode cX6_reach 28 = .ok (.aload_n 0, 1) := by decide +kernel
theorem dX6_reach_29 : decode cX6_reach 29 = .ok (.getfield 173, 3) := by decide +kernel
theorem dX6_reach_32 : decode cX6_reach 32 = .ok (.iload_n 1, 1) := by decide +kernel
theorem dX6_reach_33 : decode cX6_reach 33 = .ok (.iastore, 1) := by decide +kernel
theorem dX6_reach_34 : decode cX6_reach 34 = .ok (.aload_n 0, 1) := by decide +kernel
theorem dX6_reach_35 : decode cX6_reach 35 = .ok (.dup, 1) := by decide +kernel
theorem dX6_reach_36 : decode cX6_reach 36 = .ok (.getfield 173, 3) := by decide +kernel
theorem dX6_reach_39 : decode cX6_reach 39 = .ok (.iconst 1, 1) := by decide +kernel
theorem dX6_reach_40 : decode cX6_reach 40 = .ok (.iadd, 1) := by decide +kernel
theorem dX6_reach_41 : decode cX6_reach 41 = .ok (.putfield 173, 3) := by decide +kernel
theorem dX6_reach_44 : decode cX6_reach 44 = .ok (.return_, 1) := by decide +kernel
theorem dX6_spreadAll_0 : decode cX6_spreadAll 0 = .ok (.iconst 0, 1) := by decide +kernel
theorem dX6_spreadAll_1 : decode cX6_spreadAll 1 = .ok (.istore_n 1, 1) := by decide +kernel
theorem dX6_spreadAll_2 : decode cX6_spreadAll 2 = .ok (.iload_n 1, 1) := by decide +kernel
theorem dX6_spreadAll_3 : decode cX6_spreadAll 3 = .ok (.aload_n 0, 1) := by decide +kernel
theorem dX6_spreadAll_4 : decode cX6_spreadAll 4 = .ok (.getfield 173, 3) := by decide +kernel
theorem dX6_spreadAll_7 : decode cX6_spreadAll 7 = .ok (.if_icmp .ge 111, 3) := by decide +kernel
theorem dX6_spreadAll_10 : decode cX6_spreadAll 10 = .ok (.aload_n 0, 1) := by decide +kernel
theorem dX6_spreadAll_11 : decode cX6_spreadAll 11 = .ok (.getfield 40, 3) := by decide +kernel
theorem dX6_spreadAll_14 : decode cX6_spreadAll 14 = .ok (.iload_n 1, 1) := by decide +kernel
theorem dX6_spreadAll_15 : decode cX6_spreadAll 15 = .ok (.iaload, 1) := by decide +kernel
theorem dX6_spreadAll_16 : decode cX6_spreadAll 16 = .ok (.istore_n 2, 1) := by decide +kernel
theorem dX6_spreadAll_17 : decode cX6_spreadAll 17 = .ok (.iconst 0, 1) := by decide +kernel
theorem dX6_spreadAll_18 : decode cX6_spreadAll 18 = .ok (.istore_n 3, 1) := by decide +kernel
theorem dX6_spreadAll_19 : decode cX6_spreadAll 19 = .ok (.iload_n 3, 1) := by decide +kernel
theorem dX6_spreadAll_20 : decode cX6_spreadAll 20 = .ok (.aload_n 0, 1) := by decide +kernel
theorem dX6_spreadAll_21 : decode cX6_spreadAll 21 = .ok (.iload_n 2, 1) := by decide +kernel
theorem dX6_spreadAll_22 : decode cX6_spreadAll 22 = .ok (.invokevirtual 212, 3) := by decide +kernel
theorem dX6_spreadAll_25 : decode cX6_spreadAll 25 = .ok (.if_icmp .ge 87, 3) := by decide +kernel
theorem dX6_spreadAll_28 : decode cX6_spreadAll 28 = .ok (.aload_n 0, 1) := by decide +kernel
theorem dX6_spreadAll_29 : decode cX6_spreadAll 29 = .ok (.iload_n 2, 1) := by decide +kernel
theorem dX6_spreadAll_30 : decode cX6_spreadAll 30 = .ok (.invokevirtual 228, 3) := by decide +kernel
theorem dX6_spreadAll_33 : decode cX6_spreadAll 33 = .ok (.ifCond .ne 79, 3) := by decide +kernel
theorem dX6_spreadAll_36 : decode cX6_spreadAll 36 = .ok (.aload_n 0, 1) := by decide +kernel
theorem dX6_spreadAll_37 : decode cX6_spreadAll 37 = .ok (.iload_n 2, 1) := by decide +kernel
theorem dX6_spreadAll_38 : decode cX6_spreadAll 38 = .ok (.iload_n 3, 1) := by decide +kernel
theorem dX6_spreadAll_39 : decode cX6_spreadAll 39 = .ok (.invokevirtual 215, 3) := by decide +kernel
theorem dX6_spreadAll_42 : decode cX6_spreadAll 42 = .ok (.ifCond .eq 64, 3) := by decide +kernel
theorem dX6_spreadAll_45 : decode cX6_spreadAll 45 = .ok (.aload_n 0, 1) := by decide +kernel
theorem dX6_spreadAll_46 : decode cX6_spreadAll 46 = .ok (.iload_n 2, 1) := by decide +kernel
theorem dX6_spreadAll_47 : decode cX6_spreadAll 47 = .ok (.iload_n 3, 1) := by decide +kernel
theorem dX6_spreadAll_48 : decode cX6_spreadAll 48 = .ok (.invokevirtual 231, 3) := by decide +kernel
theorem dX6_spreadAll_51 : decode cX6_spreadAll 51 = .ok (.istore 4, 2) := by decide +kernel
theorem dX6_spreadAll_53 : decode cX6_spreadAll 53 = .ok (.aload_n 0, 1) := by decide +kernel
theorem dX6_spreadAll_54 : decode cX6_spreadAll 54 = .ok (.iload_n 2, 1) := by decide +kernel
theorem dX6_spreadAll_55 : decode cX6_spreadAll 55 = .ok (.iload_n 3, 1) := by decide +kernel
theorem dX6_spreadAll_56 : decode cX6_spreadAll 56 = .ok (.invokevirtual 203, 3) := by decide +kernel
theorem dX6_spreadAll_59 : decode cX6_spreadAll 59 = .ok (.istore 5, 2) := by decide +kernel
theorem dX6_spreadAll_61 : decode cX6_spreadAll 61 = .ok (.aload_n 0, 1) := by decide +kernel
theorem dX6_spreadAll_62 : decode cX6_spreadAll 62 = .ok (.dup, 1) := by decide +kernel
theorem dX6_spreadAll_63 : decode cX6_spreadAll 63 = .ok (.getfield 225, 3) := by decide +kernel
theorem dX6_spreadAll_66 : decode cX6_spreadAll 66 = .ok (.iload 4, 2) := by decide +kernel
theorem dX6_spreadAll_68 : decode cX6_spreadAll 68 = .ok (.bipush (-2), 2) := by decide +kernel
theorem dX6_spreadAll_70 : decode cX6_spreadAll 70 = .ok (.if_icmp .ne 19, 3) := by decide +kernel
theorem dX6_spreadAll_73 : decode cX6_spreadAll 73 = .ok (.iload 5, 2) := by decide +kernel
theorem dX6_spreadAll_75 : decode cX6_spreadAll 75 = .ok (.aload_n 0, 1) := by decide +kernel
theorem dX6_spreadAll_76 : decode cX6_spreadAll 76 = .ok (.getfield 33, 3) := by decide +kernel
theorem dX6_spreadAll_79 : decode cX6_spreadAll 79 = .ok (.if_icmp .eq 10, 3) := by decide +kernel
theorem dX6_spreadAll_82 : decode cX6_spreadAll 82 = .ok (.iconst 1, 1) := by decide +kernel
theorem dX6_spreadAll_83 : decode cX6_spreadAll 83 = .ok (.iload 5, 2) := by decide +kernel
theorem dX6_spreadAll_85 : decode cX6_spreadAll 85 = .ok (.ishl, 1) := by decide +kernel
theorem dX6_spreadAll_86 : decode cX6_spreadAll 86 = .ok (.goto 4, 3) := by decide +kernel
theorem dX6_spreadAll_89 : decode cX6_spreadAll 89 = .ok (.iconst 0, 1) := by decide +kernel
theorem dX6_spreadAll_90 : decode cX6_spreadAll 90 = .ok (.ior, 1) := by decide +kernel
theorem dX6_spreadAll_91 : decode cX6_spreadAll 91 = .ok (.putfield 225, 3) := by decide +kernel
theorem dX6_spreadAll_94 : decode cX6_spreadAll 94 = .ok (.aload_n 0, 1) := by decide +kernel
theorem dX6_spreadAll_95 : decode cX6_spreadAll 95 = .ok (.iload 4, 2) := by decide +kernel
theorem dX6_spreadAll_97 : decode cX6_spreadAll 97 = .ok (.aload_n 0, 1) := by decide +kernel
theorem dX6_spreadAll_98 : decode cX6_spreadAll 98 = .ok (.getfield 43, 3) := by decide +kernel
theorem dX6_spreadAll_101 : decode cX6_spreadAll 101 = .ok (.iload_n 2, 1) := by decide +kernel
theorem dX6_spreadAll_102 : decode cX6_spreadAll 102 = .ok (.iaload, 1) := by decide +kernel
theorem dX6_spreadAll_103 : decode cX6_spreadAll 103 = .ok (.invokevirtual 234, 3) := by decide +kernel
theorem dX6_spreadAll_106 : decode cX6_spreadAll 106 = .ok (.iinc 3 1, 3) := by decide +kernel
theorem dX6_spreadAll_109 : decode cX6_spreadAll 109 = .ok (.goto (-90), 3) := by decide +kernel
theorem dX6_spreadAll_112 : decode cX6_spreadAll 112 = .ok (.iinc 1 1, 3) := by decide +kernel
theorem dX6_spreadAll_115 : decode cX6_spreadAll 115 = .ok (.goto (-113), 3) := by decide +kernel
theorem dX6_spreadAll_118 : decode cX6_spreadAll 118 = .ok (.return_, 1) := by decide +kernel
theorem dX6_spreadFrom_0 : decode cX6_spreadFrom 0 = .ok (.aload_n 0, 1) := by decide +kernel
theorem dX6_spreadFrom_1 : decode cX6_spreadFrom 1 = .ok (.invokevirtual 238, 3) := by decide +kernel
theorem dX6_spreadFrom_4 : decode cX6_spreadFrom 4 = .ok (.aload_n 0, 1) := by decide +kernel
theorem dX6_spreadFrom_5 : decode cX6_spreadFrom 5 = .ok (.iload_n 1, 1) := by decide +kernel
theorem dX6_spreadFrom_6 : decode cX6_spreadFrom 6 = .ok (.iconst 0, 1) := by decide +kernel
theorem dX6_spreadFrom_7 : decode cX6_spreadFrom 7 = .ok (.invokevirtual 234, 3) := by decide +kernel
theorem dX6_spreadFrom_10 : decode cX6_spreadFrom 10 = .ok (.aload_n 0, 1) := by decide +kernel
theorem dX6_spreadFrom_11 : decode cX6_spreadFrom 11 = .ok (.invokevirtual 241, 3) := by decide +kernel
theorem dX6_spreadFrom_14 : decode cX6_spreadFrom 14 = .ok (.return_, 1) := by decide +kernel
theorem dX6_spreadFromBeginning_0 : decode cX6_spreadFromBeginning 0 = .ok (.aload_n 0, 1) := by decide +kernel
theorem dX6_spreadFromBeginning_1 : decode cX6_spreadFromBeginning 1 = .ok (.invokevirtual 238, 3) := by decide +kernel
theorem dX6_spreadFromBeginning_4 : decode cX6_spreadFromBeginning 4 = .ok (.aload_n 0, 1) := by decide +kernel
theorem dX6_spreadFromBeginning_5 : decode cX6_spreadFromBeginning 5 = .ok (.getfield 7, 3) := by decide +kernel
theorem dX6_spreadFromBeginning_8 : decode cX6_spreadFromBeginning 8 = .ok (.iconst 0, 1) := by decide +kernel
theorem dX6_spreadFromBeginning_9 : decode cX6_spreadFromBeginning 9 = .ok (.iaload, 1) := by decide +kernel
theorem dX6_spreadFromBeginning_10 : decode cX6_spreadFromBeginning 10 = .ok (.ifCond .le 48, 3) := by decide +kernel
theorem dX6_spreadFromBeginning_13 : decode cX6_spreadFromBeginning 13 = .ok (.aload_n 0, 1) := by decide +kernel
theorem dX6_spreadFromBeginning_14 : decode cX6_spreadFromBeginning 14 = .ok (.iconst 0, 1) := by decide +kernel
theorem dX6_spreadFromBeginning_15 : decode cX6_spreadFromBeginning 15 = .ok (.iconst 0, 1) := by decide +kernel
theorem dX6_spreadFromBeginning_16 : decode cX6_spreadFromBeginning 16 = .ok (.aload_n 0, 1) := by decide +kernel
theorem dX6_spreadFromBeginning_17 : decode cX6_spreadFromBeginning 17 = .ok (.getfield 7, 3) := by decide +kernel
theorem dX6_spreadFromBeginning_20 : decode cX6_spreadFromBeginning 20 = .ok (.iconst 1, 1) := by decide +kernel
theorem dX6_spreadFromBeginning_21 : decode cX6_spreadFromBeginning 21 = .ok (.iaload, 1) := by decide +kernel
theorem dX6_spreadFromBeginning_22 : decode cX6_spreadFromBeginning 22 = .ok (.invokevirtual 209, 3) := by decide +kernel
theorem dX6_spreadFromBeginning_25 : decode cX6_spreadFromBeginning 25 = .ok (.istore_n 1, 1) := by decide +kernel
theorem dX6_spreadFromBeginning_26 : decode cX6_spreadFromBeginning 26 = .ok (.aload_n 0, 1) := by decide +kernel
theorem dX6_spreadFromBeginning_27 : decode cX6_spreadFromBeginning 27 = .ok (.iload_n 1, 1) := by decide +kernel
theorem dX6_spreadFromBeginning_28 : decode cX6_spreadFromBeginning 28 = .ok (.bipush (-2), 2) := by decide +kernel
theorem dX6_spreadFromBeginning_30 : decode cX6_spreadFromBeginning 30 = .ok (.if_icmp .ne 14, 3) := by decide +kernel
theorem dX6_spreadFromBeginning_33 : decode cX6_spreadFromBeginning 33 = .ok (.aload_n 0, 1) := by decide +kernel
theorem dX6_spreadFromBeginning_34 : decode cX6_spreadFromBeginning 34 = .ok (.getfield 33, 3) := by decide +kernel
theorem dX6_spreadFromBeginning_37 : decode cX6_spreadFromBeginning 37 = .ok (.ifCond .eq 7, 3) := by decide +kernel
theorem dX6_spreadFromBeginning_40 : decode cX6_spreadFromBeginning 40 = .ok (.iconst 1, 1) := by decide +kernel
theorem dX6_spreadFromBeginning_41 : decode cX6_spreadFromBeginning 41 = .ok (.goto 4, 3) := by decide +kernel
theorem dX6_spreadFromBeginning_44 : decode cX6_spreadFromBeginning 44 = .ok (.iconst 0, 1) := by decide +kernel
theorem dX6_spreadFromBeginning_45 : decode cX6_spreadFromBeginning 45 = .ok (.putfield 225, 3) := by decide +kernel
theorem dX6_spreadFromBeginning_48 : decode cX6_spreadFromBeginning 48 = .ok (.aload_n 0, 1) := by decide +kernel
theorem dX6_spreadFromBeginning_49 : decode cX6_spreadFromBeginning 49 = .ok (.iload_n 1, 1) := by decide +kernel
theorem dX6_spreadFromBeginning_50 : decode cX6_spreadFromBeginning 50 = .ok (.iconst 0, 1) := by decide +kernel
theorem dX6_spreadFromBeginning_51 : decode cX6_spreadFromBeginning 51 = .ok (.invokevirtual 234, 3) := by decide +kernel
theorem dX6_spreadFromBeginning_54 : decode cX6_spreadFromBeginning 54 = .ok (.aload_n 0, 1) := by decide +kernel
theorem dX6_spreadFromBeginning_55 : decode cX6_spreadFromBeginning 55 = .ok (.invokevirtual 241, 3) := by decide +kernel
theorem dX6_spreadFromBeginning_58 : decode cX6_spreadFromBeginning 58 = .ok (.return_, 1) := by decide +kernel
theorem dX6_hasWon_0 : decode cX6_hasWon 0 = .ok (.iconst 0, 1) := by decide +kernel
theorem dX6_hasWon_1 : decode cX6_hasWon 1 = .ok (.istore_n 1, 1) := by decide +kernel
theorem dX6_hasWon_2 : decode cX6_hasWon 2 = .ok (.iconst 0, 1) := by decide +kernel
theorem dX6_hasWon_3 : decode cX6_hasWon 3 = .ok (.istore_n 2, 1) := by decide +kernel
theorem dX6_hasWon_4 : decode cX6_hasWon 4 = .ok (.iload_n 2, 1) := by decide +kernel
theorem dX6_hasWon_5 : decode cX6_hasWon 5 = .ok (.aload_n 0, 1) := by decide +kernel
theorem dX6_hasWon_6 : decode cX6_hasWon 6 = .ok (.getfield 173, 3) := by decide +kernel
theorem dX6_hasWon_9 : decode cX6_hasWon 9 = .ok (.if_icmp .ge 33, 3) := by decide +kernel
theorem dX6_hasWon_12 : decode cX6_hasWon 12 = .ok (.iload_n 1, 1) := by decide +kernel
theorem dX6_hasWon_13 : decode cX6_hasWon 13 = .ok (.ifCond .ne 17, 3) := by decide +kernel
theorem dX6_hasWon_16 : decode cX6_hasWon 16 = .ok (.aload_n 0, 1) := by decide +kernel
theorem dX6_hasWon_17 : decode cX6_hasWon 17 = .ok (.aload_n 0, 1) := by decide +kernel
theorem dX6_hasWon_18 : decode cX6_hasWon 18 = .ok (.getfield 40, 3) := by decide +kernel
theorem dX6_hasWon_21 : decode cX6_hasWon 21 = .ok (.iload_n 2, 1) := by decide +kernel
theorem dX6_hasWon_22 : decode cX6_hasWon 22 = .ok (.iaload, 1) := by decide +kernel
theorem dX6_hasWon_23 : decode cX6_hasWon 23 = .ok (.invokevirtual 228, 3) := by decide +kernel
theorem dX6_hasWon_26 : decode cX6_hasWon 26 = .ok (.iconst 1, 1) := by decide +kernel
theorem dX6_hasWon_27 : decode cX6_hasWon 27 = .ok (.if_icmp .ne 7, 3) := by decide +kernel
theorem dX6_hasWon_30 : decode cX6_hasWon 30 = .ok (.iconst 1, 1) := by decide +kernel
theorem dX6_hasWon_31 : decode cX6_hasWon 31 = .ok (.goto 4, 3) := by decide +kernel
theorem dX6_hasWon_34 : decode cX6_hasWon 34 = .ok (.iconst 0, 1) := by decide +kernel
theorem dX6_hasWon_35 : decode cX6_hasWon 35 = .ok (.istore_n 1, 1) := by decide +kernel
theorem dX6_hasWon_36 : decode cX6_hasWon 36 = .ok (.iinc 2 1, 3) := by decide +kernel
theorem dX6_hasWon_39 : decode cX6_hasWon 39 = .ok (.goto (-35), 3) := by decide +kernel
theorem dX6_hasWon_42 : decode cX6_hasWon 42 = .ok (.iload_n 1, 1) := by decide +kernel
theorem dX6_hasWon_43 : decode cX6_hasWon 43 = .ok (.ireturn, 1) := by decide +kernel
theorem dX6_stands_0 : decode cX6_stands 0 = .ok (.aload_n 0, 1) := by decide +kernel
theorem dX6_stands_1 : decode cX6_stands 1 = .ok (.getfield 7, 3) := by decide +kernel
theorem dX6_stands_4 : decode cX6_stands 4 = .ok (.iconst 3, 1) := by decide +kernel
theorem dX6_stands_5 : decode cX6_stands 5 = .ok (.iaload, 1) := by decide +kernel
theorem dX6_stands_6 : decode cX6_stands 6 = .ok (.istore_n 1, 1) := by decide +kernel
theorem dX6_stands_7 : decode cX6_stands 7 = .ok (.aload_n 0, 1) := by decide +kernel
theorem dX6_stands_8 : decode cX6_stands 8 = .ok (.getfield 7, 3) := by decide +kernel
theorem dX6_stands_11 : decode cX6_stands 11 = .ok (.iconst 5, 1) := by decide +kernel
theorem dX6_stands_12 : decode cX6_stands 12 = .ok (.iaload, 1) := by decide +kernel
theorem dX6_stands_13 : decode cX6_stands 13 = .ok (.ifCond .eq 16, 3) := by decide +kernel
theorem dX6_stands_16 : decode cX6_stands 16 = .ok (.aload_n 0, 1) := by decide +kernel
theorem dX6_stands_17 : decode cX6_stands 17 = .ok (.getfield 7, 3) := by decide +kernel
theorem dX6_stands_20 : decode cX6_stands 20 = .ok (.bipush 8, 2) := by decide +kernel
theorem dX6_stands_22 : decode cX6_stands 22 = .ok (.iload_n 1, 1) := by decide +kernel
theorem dX6_stands_23 : decode cX6_stands 23 = .ok (.iadd, 1) := by decide +kernel
theorem dX6_stands_24 : decode cX6_stands 24 = .ok (.iaload, 1) := by decide +kernel
theorem dX6_stands_25 : decode cX6_stands 25 = .ok (.iconst 2, 1) := by decide +kernel
theorem dX6_stands_26 : decode cX6_stands 26 = .ok (.if_icmp .ne 5, 3) := by decide +kernel
theorem dX6_stands_29 : decode cX6_stands 29 = .ok (.iconst 2, 1) := by decide +kernel
theorem dX6_stands_30 : decode cX6_stands 30 = .ok (.ireturn, 1) := by decide +kernel
theorem dX6_stands_31 : decode cX6_stands 31 = .ok (.aload_n 0, 1) := by decide +kernel
theorem dX6_stands_32 : decode cX6_stands 32 = .ok (.iload_n 1, 1) := by decide +kernel
theorem dX6_stands_33 : decode cX6_stands 33 = .ok (.aload_n 0, 1) := by decide +kernel
theorem dX6_stands_34 : decode cX6_stands 34 = .ok (.getfield 7, 3) := by decide +kernel
theorem dX6_stands_37 : decode cX6_stands 37 = .ok (.iconst 4, 1) := by decide +kernel
theorem dX6_stands_38 : decode cX6_stands 38 = .ok (.iaload, 1) := by decide +kernel
theorem dX6_stands_39 : decode cX6_stands 39 = .ok (.aload_n 0, 1) := by decide +kernel
theorem dX6_stands_40 : decode cX6_stands 40 = .ok (.getfield 7, 3) := by decide +kernel
theorem dX6_stands_43 : decode cX6_stands 43 = .ok (.iconst 5, 1) := by decide +kernel
theorem dX6_stands_44 : decode cX6_stands 44 = .ok (.iaload, 1) := by decide +kernel
theorem dX6_stands_45 : decode cX6_stands 45 = .ok (.invokestatic 186, 3) := by decide +kernel
theorem dX6_stands_48 : decode cX6_stands 48 = .ok (.invokevirtual 228, 3) := by decide +kernel
theorem dX6_stands_51 : decode cX6_stands 51 = .ok (.ireturn, 1) := by decide +kernel
theorem dX6_enter_0 : decode cX6_enter 0 = .ok (.aload_n 0, 1) := by decide +kernel
theorem dX6_enter_1 : decode cX6_enter 1 = .ok (.iload_n 1, 1) := by decide +kernel
theorem dX6_enter_2 : decode cX6_enter 2 = .ok (.aload_n 0, 1) := by decide +kernel
theorem dX6_enter_3 : decode cX6_enter 3 = .ok (.getfield 7, 3) := by decide +kernel
theorem dX6_enter_6 : decode cX6_enter 6 = .ok (.iconst 4, 1) := by decide +kernel
theorem dX6_enter_7 : decode cX6_enter 7 = .ok (.iaload, 1) := by decide +kernel
theorem dX6_enter_8 : decode cX6_enter 8 = .ok (.aload_n 0, 1) := by decide +kernel
theorem dX6_enter_9 : decode cX6_enter 9 = .ok (.getfield 7, 3) := by decide +kernel
theorem dX6_enter_12 : decode cX6_enter 12 = .ok (.iconst 5, 1) := by decide +kernel
theorem dX6_enter_13 : decode cX6_enter 13 = .ok (.iaload, 1) := by decide +kernel
theorem dX6_enter_14 : decode cX6_enter 14 = .ok (.invokevirtual 182, 3) := by decide +kernel
theorem dX6_enter_17 : decode cX6_enter 17 = .ok (.istore_n 2, 1) := by decide +kernel
theorem dX6_enter_18 : decode cX6_enter 18 = .ok (.aload_n 0, 1) := by decide +kernel
theorem dX6_enter_19 : decode cX6_enter 19 = .ok (.getfield 7, 3) := by decide +kernel
theorem dX6_enter_22 : decode cX6_enter 22 = .ok (.iconst 4, 1) := by decide +kernel
theorem dX6_enter_23 : decode cX6_enter 23 = .ok (.aload_n 0, 1) := by decide +kernel
theorem dX6_enter_24 : decode cX6_enter 24 = .ok (.getfield 176, 3) := by decide +kernel
theorem dX6_enter_27 : decode cX6_enter 27 = .ok (.iastore, 1) := by decide +kernel
theorem dX6_enter_28 : decode cX6_enter 28 = .ok (.aload_n 0, 1) := by decide +kernel
theorem dX6_enter_29 : decode cX6_enter 29 = .ok (.getfield 7, 3) := by decide +kernel
theorem dX6_enter_32 : decode cX6_enter 32 = .ok (.iconst 5, 1) := by decide +kernel
theorem dX6_enter_33 : decode cX6_enter 33 = .ok (.aload_n 0, 1) := by decide +kernel
theorem dX6_enter_34 : decode cX6_enter 34 = .ok (.getfield 179, 3) := by decide +kernel
theorem dX6_enter_37 : decode cX6_enter 37 = .ok (.iastore, 1) := by decide +kernel
theorem dX6_enter_38 : decode cX6_enter 38 = .ok (.aload_n 0, 1) := by decide +kernel
theorem dX6_enter_39 : decode cX6_enter 39 = .ok (.getfield 7, 3) := by decide +kernel
theorem dX6_enter_42 : decode cX6_enter 42 = .ok (.iconst 3, 1) := by decide +kernel
theorem dX6_enter_43 : decode cX6_enter 43 = .ok (.iload_n 1, 1) := by decide +kernel
theorem dX6_enter_44 : decode cX6_enter 44 = .ok (.iastore, 1) := by decide +kernel
theorem dX6_enter_45 : decode cX6_enter 45 = .ok (.return_, 1) := by decide +kernel
theorem dX6_begins_0 : decode cX6_begins 0 = .ok (.aload_n 0, 1) := by decide +kernel
theorem dX6_begins_1 : decode cX6_begins 1 = .ok (.getfield 7, 3) := by decide +kernel
theorem dX6_begins_4 : decode cX6_begins 4 = .ok (.iconst 4, 1) := by decide +kernel
theorem dX6_begins_5 : decode cX6_begins 5 = .ok (.iconst 0, 1) := by decide +kernel
theorem dX6_begins_6 : decode cX6_begins 6 = .ok (.iastore, 1) := by decide +kernel
theorem dX6_begins_7 : decode cX6_begins 7 = .ok (.aload_n 0, 1) := by decide +kernel
theorem dX6_begins_8 : decode cX6_begins 8 = .ok (.getfield 7, 3) := by decide +kernel
theorem dX6_begins_11 : decode cX6_begins 11 = .ok (.iconst 5, 1) := by decide +kernel
theorem dX6_begins_12 : decode cX6_begins 12 = .ok (.aload_n 0, 1) := by decide +kernel
theorem dX6_begins_13 : decode cX6_begins 13 = .ok (.getfield 7, 3) := by decide +kernel
theorem dX6_begins_16 : decode cX6_begins 16 = .ok (.iconst 1, 1) := by decide +kernel
theorem dX6_begins_17 : decode cX6_begins 17 = .ok (.iaload, 1) := by decide +kernel
theorem dX6_begins_18 : decode cX6_begins 18 = .ok (.iastore, 1) := by decide +kernel
theorem dX6_begins_19 : decode cX6_begins 19 = .ok (.aload_n 0, 1) := by decide +kernel
theorem dX6_begins_20 : decode cX6_begins 20 = .ok (.getfield 7, 3) := by decide +kernel
theorem dX6_begins_23 : decode cX6_begins 23 = .ok (.bipush 6, 2) := by decide +kernel
theorem dX6_begins_25 : decode cX6_begins 25 = .ok (.iconst 0, 1) := by decide +kernel
theorem dX6_begins_26 : decode cX6_begins 26 = .ok (.iastore, 1) := by decide +kernel
theorem dX6_begins_27 : decode cX6_begins 27 = .ok (.iconst 0, 1) := by decide +kernel
theorem dX6_begins_28 : decode cX6_begins 28 = .ok (.istore_n 1, 1) := by decide +kernel
theorem dX6_begins_29 : decode cX6_begins 29 = .ok (.iload_n 1, 1) := by decide +kernel
theorem dX6_begins_30 : decode cX6_begins 30 = .ok (.sipush 576, 3) := by decide +kernel
theorem dX6_begins_33 : decode cX6_begins 33 = .ok (.if_icmp .ge 20, 3) := by decide +kernel
theorem dX6_begins_36 : decode cX6_begins 36 = .ok (.aload_n 0, 1) := by decide +kernel
theorem dX6_begins_37 : decode cX6_begins 37 = .ok (.getfield 7, 3) := by decide +kernel
theorem dX6_begins_40 : decode cX6_begins 40 = .ok (.sipush 800, 3) := by decide +kernel
theorem dX6_begins_43 : decode cX6_begins 43 = .ok (.iload_n 1, 1) := by decide +kernel
theorem dX6_begins_44 : decode cX6_begins 44 = .ok (.iadd, 1) := by decide +kernel
theorem dX6_begins_45 : decode cX6_begins 45 = .ok (.iconst 0, 1) := by decide +kernel
theorem dX6_begins_46 : decode cX6_begins 46 = .ok (.iastore, 1) := by decide +kernel
theorem dX6_begins_47 : decode cX6_begins 47 = .ok (.iinc 1 1, 3) := by decide +kernel
theorem dX6_begins_50 : decode cX6_begins 50 = .ok (.goto (-21), 3) := by decide +kernel
theorem dX6_begins_53 : decode cX6_begins 53 = .ok (.aload_n 0, 1) := by decide +kernel
theorem dX6_begins_54 : decode cX6_begins 54 = .ok (.iconst 0, 1) := by decide +kernel
theorem dX6_begins_55 : decode cX6_begins 55 = .ok (.invokevirtual 244, 3) := by decide +kernel
theorem dX6_begins_58 : decode cX6_begins 58 = .ok (.return_, 1) := by decide +kernel
theorem dX6_begin_0 : decode cX6_begin 0 = .ok (.aload_n 0, 1) := by decide +kernel
theorem dX6_begin_1 : decode cX6_begin 1 = .ok (.getfield 7, 3) := by decide +kernel
theorem dX6_begin_4 : decode cX6_begin 4 = .ok (.iconst 0, 1) := by decide +kernel
theorem dX6_begin_5 : decode cX6_begin 5 = .ok (.iaload, 1) := by decide +kernel
theorem dX6_begin_6 : decode cX6_begin 6 = .ok (.ifCond .ne 6, 3) := by decide +kernel
theorem dX6_begin_9 : decode cX6_begin 9 = .ok (.ldc 166, 2) := by decide +kernel
theorem dX6_begin_11 : decode cX6_begin 11 = .ok (.ireturn, 1) := by decide +kernel
theorem dX6_begin_12 : decode cX6_begin 12 = .ok (.aload_n 0, 1) := by decide +kernel
theorem dX6_begin_13 : decode cX6_begin 13 = .ok (.invokevirtual 247, 3) := by decide +kernel
theorem dX6_begin_16 : decode cX6_begin 16 = .ok (.aload_n 0, 1) := by decide +kernel
theorem dX6_begin_17 : decode cX6_begin 17 = .ok (.invokevirtual 250, 3) := by decide +kernel
theorem dX6_begin_20 : decode cX6_begin 20 = .ok (.ireturn, 1) := by decide +kernel
theorem dX6_goTo_0 : decode cX6_goTo 0 = .ok (.aload_n 0, 1) := by decide +kernel
theorem dX6_goTo_1 : decode cX6_goTo 1 = .ok (.getfield 7, 3) := by decide +kernel
theorem dX6_goTo_4 : decode cX6_goTo 4 = .ok (.sipush 800, 3) := by decide +kernel
theorem dX6_goTo_7 : decode cX6_goTo 7 = .ok (.bipush 24, 2) := by decide +kernel
theorem dX6_goTo_9 : decode cX6_goTo 9 = .ok (.aload_n 0, 1) := by decide +kernel
theorem dX6_goTo_10 : decode cX6_goTo 10 = .ok (.getfield 7, 3) := by decide +kernel
theorem dX6_goTo_13 : decode cX6_goTo 13 = .ok (.iconst 3, 1) := by decide +kernel
theorem dX6_goTo_14 : decode cX6_goTo 14 = .ok (.iaload, 1) := by decide +kernel
theorem dX6_goTo_15 : decode cX6_goTo 15 = .ok (.imul, 1) := by decide +kernel
theorem dX6_goTo_16 : decode cX6_goTo 16 = .ok (.iadd, 1) := by decide +kernel
theorem dX6_goTo_17 : decode cX6_goTo 17 = .ok (.iload_n 1, 1) := by decide +kernel
theorem dX6_goTo_18 : decode cX6_goTo 18 = .ok (.iadd, 1) := by decide +kernel
theorem dX6_goTo_19 : decode cX6_goTo 19 = .ok (.dup2, 1) := by decide +kernel
theorem dX6_goTo_20 : decode cX6_goTo 20 = .ok (.iaload, 1) := by decide +kernel
theorem dX6_goTo_21 : decode cX6_goTo 21 = .ok (.iconst 1, 1) := by decide +kernel
theorem dX6_goTo_22 : decode cX6_goTo 22 = .ok (.iadd, 1) := by decide +kernel
theorem dX6_goTo_23 : decode cX6_goTo 23 = .ok (.iastore, 1) := by decide +kernel
theorem dX6_goTo_24 : decode cX6_goTo 24 = .ok (.aload_n 0, 1) := by decide +kernel
theorem dX6_goTo_25 : decode cX6_goTo 25 = .ok (.getfield 7, 3) := by decide +kernel
theorem dX6_goTo_28 : decode cX6_goTo 28 = .ok (.bipush 6, 2) := by decide +kernel
theorem dX6_goTo_30 : decode cX6_goTo 30 = .ok (.dup2, 1) := by decide +kernel
theorem dX6_goTo_31 : decode cX6_goTo 31 = .ok (.iaload, 1) := by decide +kernel
theorem dX6_goTo_32 : decode cX6_goTo 32 = .ok (.iconst 1, 1) := by decide +kernel
theorem dX6_goTo_33 : decode cX6_goTo 33 = .ok (.iadd, 1) := by decide +kernel
theorem dX6_goTo_34 : decode cX6_goTo 34 = .ok (.iastore, 1) := by decide +kernel
theorem dX6_goTo_35 : decode cX6_goTo 35 = .ok (.aload_n 0, 1) := by decide +kernel
theorem dX6_goTo_36 : decode cX6_goTo 36 = .ok (.iload_n 1, 1) := by decide +kernel
theorem dX6_goTo_37 : decode cX6_goTo 37 = .ok (.invokevirtual 244, 3) := by decide +kernel
theorem dX6_goTo_40 : decode cX6_goTo 40 = .ok (.return_, 1) := by decide +kernel
theorem dX6_choose_0 : decode cX6_choose 0 = .ok (.aload_n 0, 1) := by decide +kernel
theorem dX6_choose_1 : decode cX6_choose 1 = .ok (.getfield 7, 3) := by decide +kernel
theorem dX6_choose_4 : decode cX6_choose 4 = .ok (.iconst 3, 1) := by decide +kernel
theorem dX6_choose_5 : decode cX6_choose 5 = .ok (.iaload, 1) := by decide +kernel
theorem dX6_choose_6 : decode cX6_choose 6 = .ok (.ifCond .ge 6, 3) := by decide +kernel
theorem dX6_choose_9 : decode cX6_choose 9 = .ok (.ldc 166, 2) := by decide +kernel
theorem dX6_choose_11 : decode cX6_choose 11 = .ok (.ireturn, 1) := by decide +kernel
theorem dX6_choose_12 : decode cX6_choose 12 = .ok (.aload_n 0, 1) := by decide +kernel
theorem dX6_choose_13 : decode cX6_choose 13 = .ok (.getfield 7, 3) := by decide +kernel
theorem dX6_choose_16 : decode cX6_choose 16 = .ok (.iconst 3, 1) := by decide +kernel
theorem dX6_choose_17 : decode cX6_choose 17 = .ok (.iaload, 1) := by decide +kernel
theorem dX6_choose_18 : decode cX6_choose 18 = .ok (.istore_n 2, 1) := by decide +kernel
theorem dX6_choose_19 : decode cX6_choose 19 = .ok (.iload_n 1, 1) := by decide +kernel
theorem dX6_choose_20 : decode cX6_choose 20 = .ok (.i2l, 1) := by decide +kernel
theorem dX6_choose_21 : decode cX6_choose 21 = .ok (.lconst 0, 1) := by decide +kernel
theorem dX6_choose_22 : decode cX6_choose 22 = .ok (.aload_n 0, 1) := by decide +kernel
theorem dX6_choose_23 : decode cX6_choose 23 = .ok (.getfield 7, 3) := by decide +kernel
theorem dX6_choose_26 : decode cX6_choose 26 = .ok (.bipush 56, 2) := by decide +kernel
theorem dX6_choose_28 : decode cX6_choose 28 = .ok (.iload_n 2, 1) := by decide +kernel
theorem dX6_choose_29 : decode cX6_choose 29 = .ok (.iadd, 1) := by decide +kernel
theorem dX6_choose_30 : decode cX6_choose 30 = .ok (.iaload, 1) := by decide +kernel
theorem dX6_choose_31 : decode cX6_choose 31 = .ok (.iconst 1, 1) := by decide +kernel
theorem dX6_choose_32 : decode cX6_choose 32 = .ok (.isub, 1) := by decide +kernel
theorem dX6_choose_33 : decode cX6_choose 33 = .ok (.i2l, 1) := by decide +kernel
theorem dX6_choose_34 : decode cX6_choose 34 = .ok (.invokestatic 66, 3) := by decide +kernel
theorem dX6_choose_37 : decode cX6_choose 37 = .ok (.ifCond .ne 6, 3) := by decide +kernel
theorem dX6_choose_40 : decode cX6_choose 40 = .ok (.ldc 156, 2) := by decide +kernel
theorem dX6_choose_42 : decode cX6_choose 42 = .ok (.ireturn, 1) := by decide +kernel
theorem dX6_choose_43 : decode cX6_choose 43 = .ok (.aload_n 0, 1) := by decide +kernel
theorem dX6_choose_44 : decode cX6_choose 44 = .ok (.invokevirtual 250, 3) := by decide +kernel
theorem dX6_choose_47 : decode cX6_choose 47 = .ok (.ifCond .ne 18, 3) := by decide +kernel
theorem dX6_choose_50 : decode cX6_choose 50 = .ok (.aload_n 0, 1) := by decide +kernel
theorem dX6_choose_51 : decode cX6_choose 51 = .ok (.iload_n 2, 1) := by decide +kernel
theorem dX6_choose_52 : decode cX6_choose 52 = .ok (.iload_n 1, 1) := by decide +kernel
theorem dX6_choose_53 : decode cX6_choose 53 = .ok (.aload_n 0, 1) := by decide +kernel
theorem dX6_choose_54 : decode cX6_choose 54 = .ok (.getfield 7, 3) := by decide +kernel
theorem dX6_choose_57 : decode cX6_choose 57 = .ok (.iconst 4, 1) := by decide +kernel
theorem dX6_choose_58 : decode cX6_choose 58 = .ok (.iaload, 1) := by decide +kernel
theorem dX6_choose_59 : decode cX6_choose 59 = .ok (.invokevirtual 200, 3) := by decide +kernel
theorem dX6_choose_62 : decode cX6_choose 62 = .ok (.ifCond .ne 6, 3) := by decide +kernel
theorem dX6_choose_65 : decode cX6_choose 65 = .ok (.ldc 166, 2) := by decide +kernel
theorem dX6_choose_67 : decode cX6_choose 67 = .ok (.ireturn, 1) := by decide +kernel
theorem dX6_choose_68 : decode cX6_choose 68 = .ok (.aload_n 0, 1) := by decide +kernel
theorem dX6_choose_69 : decode cX6_choose 69 = .ok (.aload_n 0, 1) := by decide +kernel
theorem dX6_choose_70 : decode cX6_choose 70 = .ok (.getfield 7, 3) := by decide +kernel
theorem dX6_choose_73 : decode cX6_choose 73 = .ok (.sipush 368, 3) := by decide +kernel
theorem dX6_choose_76 : decode cX6_choose 76 = .ok (.bipush 6, 2) := by decide +kernel
theorem dX6_choose_78 : decode cX6_choose 78 = .ok (.iload_n 2, 1) := by decide +kernel
theorem dX6_choose_79 : decode cX6_choose 79 = .ok (.imul, 1) := by decide +kernel
theorem dX6_choose_80 : decode cX6_choose 80 = .ok (.iadd, 1) := by decide +kernel
theorem dX6_choose_81 : decode cX6_choose 81 = .ok (.iload_n 1, 1) := by decide +kernel
theorem dX6_choose_82 : decode cX6_choose 82 = .ok (.iadd, 1) := by decide +kernel
theorem dX6_choose_83 : decode cX6_choose 83 = .ok (.iaload, 1) := by decide +kernel
theorem dX6_choose_84 : decode cX6_choose 84 = .ok (.invokevirtual 253, 3) := by decide +kernel
theorem dX6_choose_87 : decode cX6_choose 87 = .ok (.aload_n 0, 1) := by decide +kernel
theorem dX6_choose_88 : decode cX6_choose 88 = .ok (.invokevirtual 250, 3) := by decide +kernel
theorem dX6_choose_91 : decode cX6_choose 91 = .ok (.ireturn, 1) := by decide +kernel
theorem dX6_draw_0 : decode cX6_draw 0 = .ok (.aload_n 0, 1) := by decide +kernel
theorem dX6_draw_1 : decode cX6_draw 1 = .ok (.getfield 7, 3) := by decide +kernel
theorem dX6_draw_4 : decode cX6_draw 4 = .ok (.iconst 2, 1) := by decide +kernel
theorem dX6_draw_5 : decode cX6_draw 5 = .ok (.aload_n 0, 1) := by decide +kernel
theorem dX6_draw_6 : decode cX6_draw 6 = .ok (.getfield 7, 3) := by decide +kernel
theorem dX6_draw_9 : decode cX6_draw 9 = .ok (.iconst 2, 1) := by decide +kernel
theorem dX6_draw_10 : decode cX6_draw 10 = .ok (.iaload, 1) := by decide +kernel
theorem dX6_draw_11 : decode cX6_draw 11 = .ok (.i2l, 1) := by decide +kernel
theorem dX6_draw_12 : decode cX6_draw 12 = .ok (.ldc2_w 256, 3) := by decide +kernel
theorem dX6_draw_15 : decode cX6_draw 15 = .ok (.lmul, 1) := by decide +kernel
theorem dX6_draw_16 : decode cX6_draw 16 = .ok (.ldc2_w 258, 3) := by decide +kernel
theorem dX6_draw_19 : decode cX6_draw 19 = .ok (.ladd, 1) := by decide +kernel
theorem dX6_draw_20 : decode cX6_draw 20 = .ok (.ldc2_w 260, 3) := by decide +kernel
theorem dX6_draw_23 : decode cX6_draw 23 = .ok (.lrem, 1) := by decide +kernel
theorem dX6_draw_24 : decode cX6_draw 24 = .ok (.l2i, 1) := by decide +kernel
theorem dX6_draw_25 : decode cX6_draw 25 = .ok (.iastore, 1) := by decide +kernel
theorem dX6_draw_26 : decode cX6_draw 26 = .ok (.aload_n 0, 1) := by decide +kernel
theorem dX6_draw_27 : decode cX6_draw 27 = .ok (.getfield 7, 3) := by decide +kernel
theorem dX6_draw_30 : decode cX6_draw 30 = .ok (.iconst 2, 1) := by decide +kernel
theorem dX6_draw_31 : decode cX6_draw 31 = .ok (.iaload, 1) := by decide +kernel
theorem dX6_draw_32 : decode cX6_draw 32 = .ok (.ldc_w 262, 3) := by decide +kernel
theorem dX6_draw_35 : decode cX6_draw 35 = .ok (.idiv, 1) := by decide +kernel
theorem dX6_draw_36 : decode cX6_draw 36 = .ok (.iload_n 1, 1) := by decide +kernel
theorem dX6_draw_37 : decode cX6_draw 37 = .ok (.irem, 1) := by decide +kernel
theorem dX6_draw_38 : decode cX6_draw 38 = .ok (.ireturn, 1) := by decide +kernel
theorem dX6_rollBy_0 : decode cX6_rollBy 0 = .ok (.aload_n 0, 1) := by decide +kernel
theorem dX6_rollBy_1 : decode cX6_rollBy 1 = .ok (.getfield 7, 3) := by decide +kernel
theorem dX6_rollBy_4 : decode cX6_rollBy 4 = .ok (.iconst 3, 1) := by decide +kernel
theorem dX6_rollBy_5 : decode cX6_rollBy 5 = .ok (.iaload, 1) := by decide +kernel
theorem dX6_rollBy_6 : decode cX6_rollBy 6 = .ok (.istore_n 2, 1) := by decide +kernel
theorem dX6_rollBy_7 : decode cX6_rollBy 7 = .ok (.aload_n 0, 1) := by decide +kernel
theorem dX6_rollBy_8 : decode cX6_rollBy 8 = .ok (.iload_n 1, 1) := by decide +kernel
theorem dX6_rollBy_9 : decode cX6_rollBy 9 = .ok (.aload_n 0, 1) := by decide +kernel
theorem dX6_rollBy_10 : decode cX6_rollBy 10 = .ok (.getfield 7, 3) := by decide +kernel
theorem dX6_rollBy_13 : decode cX6_rollBy 13 = .ok (.bipush 80, 2) := by decide +kernel
theorem dX6_rollBy_15 : decode cX6_rollBy 15 = .ok (.iload_n 2, 1) := by decide +kernel
theorem dX6_rollBy_16 : decode cX6_rollBy 16 = .ok (.iadd, 1) := by decide +kernel
theorem dX6_rollBy_17 : decode cX6_rollBy 17 = .ok (.iaload, 1) := by decide +kernel
theorem dX6_rollBy_18 : decode cX6_rollBy 18 = .ok (.if_icmp .lt 15, 3) := by decide +kernel
theorem dX6_rollBy_21 : decode cX6_rollBy 21 = .ok (.aload_n 0, 1) := by decide +kernel
theorem dX6_rollBy_22 : decode cX6_rollBy 22 = .ok (.getfield 7, 3) := by decide +kernel
theorem dX6_rollBy_25 : decode cX6_rollBy 25 = .ok (.bipush 104, 2) := by decide +kernel
theorem dX6_rollBy_27 : decode cX6_rollBy 27 = .ok (.iload_n 2, 1) := by decide +kernel
theorem dX6_rollBy_28 : decode cX6_rollBy 28 = .ok (.iadd, 1) := by decide +kernel
theorem dX6_rollBy_29 : decode cX6_rollBy 29 = .ok (.iaload, 1) := by decide +kernel
theorem dX6_rollBy_30 : decode cX6_rollBy 30 = .ok (.goto 13, 3) := by decide +kernel
theorem dX6_rollBy_33 : decode cX6_rollBy 33 = .ok (.aload_n 0, 1) := by decide +kernel
theorem dX6_rollBy_34 : decode cX6_rollBy 34 = .ok (.getfield 7, 3) := by decide +kernel
theorem dX6_rollBy_37 : decode cX6_rollBy 37 = .ok (.sipush 128, 3) := by decide +kernel
theorem dX6_rollBy_40 : decode cX6_rollBy 40 = .ok (.iload_n 2, 1) := by decide +kernel
theorem dX6_rollBy_41 : decode cX6_rollBy 41 = .ok (.iadd, 1) := by decide +kernel
theorem dX6_rollBy_42 : decode cX6_rollBy 42 = .ok (.iaload, 1) := by decide +kernel
theorem dX6_rollBy_43 : decode cX6_rollBy 43 = .ok (.invokevirtual 253, 3) := by decide +kernel
theorem dX6_rollBy_46 : decode cX6_rollBy 46 = .ok (.return_, 1) := by decide +kernel
theorem dX6_roll_0 : decode cX6_roll 0 = .ok (.iload_n 1, 1) := by decide +kernel
theorem dX6_roll_1 : decode cX6_roll 1 = .ok (.iconst (-1), 1) := by decide +kernel
theorem dX6_roll_2 : decode cX6_roll 2 = .ok (.if_icmp .eq 18, 3) := by decide +kernel
theorem dX6_roll_5 : decode cX6_roll 5 = .ok (.iload_n 1, 1) := by decide +kernel
theorem dX6_roll_6 : decode cX6_roll 6 = .ok (.i2l, 1) := by decide +kernel
theorem dX6_roll_7 : decode cX6_roll 7 = .ok (.lconst 1, 1) := by decide +kernel
theorem dX6_roll_8 : decode cX6_roll 8 = .ok (.ldc2_w 263, 3) := by decide +kernel
theorem dX6_roll_11 : decode cX6_roll 11 = .ok (.invokestatic 66, 3) := by decide +kernel
theorem dX6_roll_14 : decode cX6_roll 14 = .ok (.ifCond .ne 6, 3) := by decide +kernel
theorem dX6_roll_17 : decode cX6_roll 17 = .ok (.ldc 70, 2) := by decide +kernel
theorem dX6_roll_19 : decode cX6_roll 19 = .ok (.ireturn, 1) := by decide +kernel
theorem dX6_roll_20 : decode cX6_roll 20 = .ok (.aload_n 0, 1) := by decide +kernel
theorem dX6_roll_21 : decode cX6_roll 21 = .ok (.getfield 7, 3) := by decide +kernel
theorem dX6_roll_24 : decode cX6_roll 24 = .ok (.iconst 3, 1) := by decide +kernel
theorem dX6_roll_25 : decode cX6_roll 25 = .ok (.iaload, 1) := by decide +kernel
theorem dX6_roll_26 : decode cX6_roll 26 = .ok (.ifCond .lt 28, 3) := by decide +kernel
theorem dX6_roll_29 : decode cX6_roll 29 = .ok (.aload_n 0, 1) := by decide +kernel
theorem dX6_roll_30 : decode cX6_roll 30 = .ok (.getfield 7, 3) := by decide +kernel
theorem dX6_roll_33 : decode cX6_roll 33 = .ok (.bipush 8, 2) := by decide +kernel
theorem dX6_roll_35 : decode cX6_roll 35 = .ok (.aload_n 0, 1) := by decide +kernel
theorem dX6_roll_36 : decode cX6_roll 36 = .ok (.getfield 7, 3) := by decide +kernel
theorem dX6_roll_39 : decode cX6_roll 39 = .ok (.iconst 3, 1) := by decide +kernel
theorem dX6_roll_40 : decode cX6_roll 40 = .ok (.iaload, 1) := by decide +kernel
theorem dX6_roll_41 : decode cX6_roll 41 = .ok (.iadd, 1) := by decide +kernel
theorem dX6_roll_42 : decode cX6_roll 42 = .ok (.iaload, 1) := by decide +kernel
theorem dX6_roll_43 : decode cX6_roll 43 = .ok (.iconst 3, 1) := by decide +kernel
theorem dX6_roll_44 : decode cX6_roll 44 = .ok (.if_icmp .ne 10, 3) := by decide +kernel
theorem dX6_roll_47 : decode cX6_roll 47 = .ok (.aload_n 0, 1) := by decide +kernel
theorem dX6_roll_48 : decode cX6_roll 48 = .ok (.invokevirtual 250, 3) := by decide +kernel
theorem dX6_roll_51 : decode cX6_roll 51 = .ok (.ifCond .eq 6, 3) := by decide +kernel
theorem dX6_roll_54 : decode cX6_roll 54 = .ok (.ldc 166, 2) := by decide +kernel
theorem dX6_roll_56 : decode cX6_roll 56 = .ok (.ireturn, 1) := by decide +kernel
theorem dX6_roll_57 : decode cX6_roll 57 = .ok (.aload_n 0, 1) := by decide +kernel
theorem dX6_roll_58 : decode cX6_roll 58 = .ok (.iload_n 1, 1) := by decide +kernel
theorem dX6_roll_59 : decode cX6_roll 59 = .ok (.iconst (-1), 1) := by decide +kernel
theorem dX6_roll_60 : decode cX6_roll 60 = .ok (.if_icmp .ne 14, 3) := by decide +kernel
theorem dX6_roll_63 : decode cX6_roll 63 = .ok (.aload_n 0, 1) := by decide +kernel
theorem dX6_roll_64 : decode cX6_roll 64 = .ok (.bipush 6, 2) := by decide +kernel
theorem dX6_roll_66 : decode cX6_roll 66 = .ok (.invokevirtual 265, 3) := by decide +kernel
theorem dX6_roll_69 : decode cX6_roll 69 = .ok (.iconst 1, 1) := by decide +kernel
theorem dX6_roll_70 : decode cX6_roll 70 = .ok (.iadd, 1) := by decide +kernel
theorem dX6_roll_71 : decode cX6_roll 71 = .ok (.goto 4, 3) := by decide +kernel
theorem dX6_roll_74 : decode cX6_roll 74 = .ok (.iload_n 1, 1) := by decide +kernel
theorem dX6_roll_75 : decode cX6_roll 75 = .ok (.invokevirtual 268, 3) := by decide +kernel
theorem dX6_roll_78 : decode cX6_roll 78 = .ok (.aload_n 0, 1) := by decide +kernel
theorem dX6_roll_79 : decode cX6_roll 79 = .ok (.invokevirtual 250, 3) := by decide +kernel
theorem dX6_roll_82 : decode cX6_roll 82 = .ok (.ireturn, 1) := by decide +kernel
theorem dX6_openNow_0 : decode cX6_openNow 0 = .ok (.iconst 0, 1) := by decide +kernel
theorem dX6_openNow_1 : decode cX6_openNow 1 = .ok (.istore_n 1, 1) := by decide +kernel
theorem dX6_openNow_2 : decode cX6_openNow 2 = .ok (.iconst 0, 1) := by decide +kernel
theorem dX6_openNow_3 : decode cX6_openNow 3 = .ok (.istore_n 2, 1) := by decide +kernel
theorem dX6_openNow_4 : decode cX6_openNow 4 = .ok (.iload_n 2, 1) := by decide +kernel
theorem dX6_openNow_5 : decode cX6_openNow 5 = .ok (.aload_n 0, 1) := by decide +kernel
theorem dX6_openNow_6 : decode cX6_openNow 6 = .ok (.getfield 7, 3) := by decide +kernel
theorem dX6_openNow_9 : decode cX6_openNow 9 = .ok (.bipush 56, 2) := by decide +kernel
theorem dX6_openNow_11 : decode cX6_openNow 11 = .ok (.aload_n 0, 1) := by decide +kernel
theorem dX6_openNow_12 : decode cX6_openNow 12 = .ok (.getfield 7, 3) := by decide +kernel
theorem dX6_openNow_15 : decode cX6_openNow 15 = .ok (.iconst 3, 1) := by decide +kernel
theorem dX6_openNow_16 : decode cX6_openNow 16 = .ok (.iaload, 1) := by decide +kernel
theorem dX6_openNow_17 : decode cX6_openNow 17 = .ok (.iadd, 1) := by decide +kernel
theorem dX6_openNow_18 : decode cX6_openNow 18 = .ok (.iaload, 1) := by decide +kernel
theorem dX6_openNow_19 : decode cX6_openNow 19 = .ok (.if_icmp .ge 41, 3) := by decide +kernel
theorem dX6_openNow_22 : decode cX6_openNow 22 = .ok (.aload_n 0, 1) := by decide +kernel
theorem dX6_openNow_23 : decode cX6_openNow 23 = .ok (.invokevirtual 250, 3) := by decide +kernel
theorem dX6_openNow_26 : decode cX6_openNow 26 = .ok (.ifCond .ne 34, 3) := by decide +kernel
theorem dX6_openNow_29 : decode cX6_openNow 29 = .ok (.iload_n 1, 1) := by decide +kernel
theorem dX6_openNow_30 : decode cX6_openNow 30 = .ok (.aload_n 0, 1) := by decide +kernel
theorem dX6_openNow_31 : decode cX6_openNow 31 = .ok (.aload_n 0, 1) := by decide +kernel
theorem dX6_openNow_32 : decode cX6_openNow 32 = .ok (.getfield 7, 3) := by decide +kernel
theorem dX6_openNow_35 : decode cX6_openNow 35 = .ok (.iconst 3, 1) := by decide +kernel
theorem dX6_openNow_36 : decode cX6_openNow 36 = .ok (.iaload, 1) := by decide +kernel
theorem dX6_openNow_37 : decode cX6_openNow 37 = .ok (.iload_n 2, 1) := by decide +kernel
theorem dX6_openNow_38 : decode cX6_openNow 38 = .ok (.aload_n 0, 1) := by decide +kernel
theorem dX6_openNow_39 : decode cX6_openNow 39 = .ok (.getfield 7, 3) := by decide +kernel
theorem dX6_openNow_42 : decode cX6_openNow 42 = .ok (.iconst 4, 1) := by decide +kernel
theorem dX6_openNow_43 : decode cX6_openNow 43 = .ok (.iaload, 1) := by decide +kernel
theorem dX6_openNow_44 : decode cX6_openNow 44 = .ok (.invokevirtual 200, 3) := by decide +kernel
theorem dX6_openNow_47 : decode cX6_openNow 47 = .ok (.invokestatic 218, 3) := by decide +kernel
theorem dX6_openNow_50 : decode cX6_openNow 50 = .ok (.iload_n 2, 1) := by decide +kernel
theorem dX6_openNow_51 : decode cX6_openNow 51 = .ok (.ishl, 1) := by decide +kernel
theorem dX6_openNow_52 : decode cX6_openNow 52 = .ok (.ior, 1) := by decide +kernel
theorem dX6_openNow_53 : decode cX6_openNow 53 = .ok (.istore_n 1, 1) := by decide +kernel
theorem dX6_openNow_54 : decode cX6_openNow 54 = .ok (.iinc 2 1, 3) := by decide +kernel
theorem dX6_openNow_57 : decode cX6_openNow 57 = .ok (.goto (-53), 3) := by decide +kernel
theorem dX6_openNow_60 : decode cX6_openNow 60 = .ok (.iload_n 1, 1) := by decide +kernel
theorem dX6_openNow_61 : decode cX6_openNow 61 = .ok (.ireturn, 1) := by decide +kernel
theorem dX6_now_0 : decode cX6_now 0 = .ok (.iload_n 1, 1) := by decide +kernel
theorem dX6_now_1 : decode cX6_now 1 = .ok (.i2l, 1) := by decide +kernel
theorem dX6_now_2 : decode cX6_now 2 = .ok (.lconst 0, 1) := by decide +kernel
theorem dX6_now_3 : decode cX6_now 3 = .ok (.ldc2_w 271, 3) := by decide +kernel
theorem dX6_now_6 : decode cX6_now 6 = .ok (.invokestatic 66, 3) := by decide +kernel
theorem dX6_now_9 : decode cX6_now 9 = .ok (.ifCond .ne 6, 3) := by decide +kernel
theorem dX6_now_12 : decode cX6_now 12 = .ok (.ldc 70, 2) := by decide +kernel
theorem dX6_now_14 : decode cX6_now 14 = .ok (.ireturn, 1) := by decide +kernel
theorem dX6_now_15 : decode cX6_now 15 = .ok (.aload_n 0, 1) := by decide +kernel
theorem dX6_now_16 : decode cX6_now 16 = .ok (.getfield 7, 3) := by decide +kernel
theorem dX6_now_19 : decode cX6_now 19 = .ok (.iconst 3, 1) := by decide +kernel
theorem dX6_now_20 : decode cX6_now 20 = .ok (.iaload, 1) := by decide +kernel
theorem dX6_now_21 : decode cX6_now 21 = .ok (.ifCond .ge 6, 3) := by decide +kernel
theorem dX6_now_24 : decode cX6_now 24 = .ok (.ldc 166, 2) := by decide +kernel
theorem dX6_now_26 : decode cX6_now 26 = .ok (.ireturn, 1) := by decide +kernel
theorem dX6_now_27 : decode cX6_now 27 = .ok (.iload_n 1, 1) := by decide +kernel
theorem dX6_now_28 : decode cX6_now 28 = .ok (.tableswitch 70 0 4 #[36, 43, 50, 57, 65], 36) := by decide +kernel
theorem dX6_now_64 : decode cX6_now 64 = .ok (.aload_n 0, 1) := by decide +kernel
theorem dX6_now_65 : decode cX6_now 65 = .ok (.getfield 7, 3) := by decide +kernel
theorem dX6_now_68 : decode cX6_now 68 = .ok (.iconst 3, 1) := by decide +kernel
theorem dX6_now_69 : decode cX6_now 69 = .ok (.iaload, 1) := by decide +kernel
theorem dX6_now_70 : decode cX6_now 70 = .ok (.ireturn, 1) := by decide +kernel
theorem dX6_now_71 : decode cX6_now 71 = .ok (.aload_n 0, 1) := by decide +kernel
theorem dX6_now_72 : decode cX6_now 72 = .ok (.getfield 7, 3) := by decide +kernel
theorem dX6_now_75 : decode cX6_now 75 = .ok (.iconst 4, 1) := by decide +kernel
theorem dX6_now_76 : decode cX6_now 76 = .ok (.iaload, 1) := by decide +kernel
theorem dX6_now_77 : decode cX6_now 77 = .ok (.ireturn, 1) := by decide +kernel
theorem dX6_now_78 : decode cX6_now 78 = .ok (.aload_n 0, 1) := by decide +kernel
theorem dX6_now_79 : decode cX6_now 79 = .ok (.getfield 7, 3) := by decide +kernel
theorem dX6_now_82 : decode cX6_now 82 = .ok (.iconst 5, 1) := by decide +kernel
theorem dX6_now_83 : decode cX6_now 83 = .ok (.iaload, 1) := by decide +kernel
theorem dX6_now_84 : decode cX6_now 84 = .ok (.ireturn, 1) := by decide +kernel
theorem dX6_now_85 : decode cX6_now 85 = .ok (.aload_n 0, 1) := by decide +kernel
theorem dX6_now_86 : decode cX6_now 86 = .ok (.getfield 7, 3) := by decide +kernel
theorem dX6_now_89 : decode cX6_now 89 = .ok (.bipush 6, 2) := by decide +kernel
theorem dX6_now_91 : decode cX6_now 91 = .ok (.iaload, 1) := by decide +kernel
theorem dX6_now_92 : decode cX6_now 92 = .ok (.ireturn, 1) := by decide +kernel
theorem dX6_now_93 : decode cX6_now 93 = .ok (.aload_n 0, 1) := by decide +kernel
theorem dX6_now_94 : decode cX6_now 94 = .ok (.invokevirtual 250, 3) := by decide +kernel
theorem dX6_now_97 : decode cX6_now 97 = .ok (.ireturn, 1) := by decide +kernel
theorem dX6_now_98 : decode cX6_now 98 = .ok (.aload_n 0, 1) := by decide +kernel
theorem dX6_now_99 : decode cX6_now 99 = .ok (.invokevirtual 273, 3) := by decide +kernel
theorem dX6_now_102 : decode cX6_now 102 = .ok (.ireturn, 1) := by decide +kernel
theorem dX6_oddsAt_0 : decode cX6_oddsAt 0 = .ok (.iload_n 1, 1) := by decide +kernel
theorem dX6_oddsAt_1 : decode cX6_oddsAt 1 = .ok (.bipush (-2), 2) := by decide +kernel
theorem dX6_oddsAt_3 : decode cX6_oddsAt 3 = .ok (.if_icmp .ne 7, 3) := by decide +kernel
theorem dX6_oddsAt_6 : decode cX6_oddsAt 6 = .ok (.iconst 0, 1) := by decide +kernel
theorem dX6_oddsAt_7 : decode cX6_oddsAt 7 = .ok (.goto 9, 3) := by decide +kernel
theorem dX6_oddsAt_10 : decode cX6_oddsAt 10 = .ok (.aload_n 0, 1) := by decide +kernel
theorem dX6_oddsAt_11 : decode cX6_oddsAt 11 = .ok (.getfield 52, 3) := by decide +kernel
theorem dX6_oddsAt_14 : decode cX6_oddsAt 14 = .ok (.iload_n 1, 1) := by decide +kernel
theorem dX6_oddsAt_15 : decode cX6_oddsAt 15 = .ok (.iaload, 1) := by decide +kernel
theorem dX6_oddsAt_16 : decode cX6_oddsAt 16 = .ok (.ireturn, 1) := by decide +kernel
theorem dX6_oddsOf_0 : decode cX6_oddsOf 0 = .ok (.aload_n 0, 1) := by decide +kernel
theorem dX6_oddsOf_1 : decode cX6_oddsOf 1 = .ok (.iload_n 1, 1) := by decide +kernel
theorem dX6_oddsOf_2 : decode cX6_oddsOf 2 = .ok (.invokevirtual 228, 3) := by decide +kernel
theorem dX6_oddsOf_5 : decode cX6_oddsOf 5 = .ok (.istore_n 2, 1) := by decide +kernel
theorem dX6_oddsOf_6 : decode cX6_oddsOf 6 = .ok (.iload_n 2, 1) := by decide +kernel
theorem dX6_oddsOf_7 : decode cX6_oddsOf 7 = .ok (.iconst 1, 1) := by decide +kernel
theorem dX6_oddsOf_8 : decode cX6_oddsOf 8 = .ok (.if_icmp .ne 7, 3) := by decide +kernel
theorem dX6_oddsOf_11 : decode cX6_oddsOf 11 = .ok (.ldc_w 276, 3) := by decide +kernel
theorem dX6_oddsOf_14 : decode cX6_oddsOf 14 = .ok (.ireturn, 1) := by decide +kernel
theorem dX6_oddsOf_15 : decode cX6_oddsOf 15 = .ok (.iload_n 1, 1) := by decide +kernel
theorem dX6_oddsOf_16 : decode cX6_oddsOf 16 = .ok (.invokestatic 194, 3) := by decide +kernel
theorem dX6_oddsOf_19 : decode cX6_oddsOf 19 = .ok (.istore_n 3, 1) := by decide +kernel
theorem dX6_oddsOf_20 : decode cX6_oddsOf 20 = .ok (.aload_n 0, 1) := by decide +kernel
theorem dX6_oddsOf_21 : decode cX6_oddsOf 21 = .ok (.getfield 7, 3) := by decide +kernel
theorem dX6_oddsOf_24 : decode cX6_oddsOf 24 = .ok (.bipush 8, 2) := by decide +kernel
theorem dX6_oddsOf_26 : decode cX6_oddsOf 26 = .ok (.iload_n 3, 1) := by decide +kernel
theorem dX6_oddsOf_27 : decode cX6_oddsOf 27 = .ok (.iadd, 1) := by decide +kernel
theorem dX6_oddsOf_28 : decode cX6_oddsOf 28 = .ok (.iaload, 1) := by decide +kernel
theorem dX6_oddsOf_29 : decode cX6_oddsOf 29 = .ok (.iconst 3, 1) := by decide +kernel
theorem dX6_oddsOf_30 : decode cX6_oddsOf 30 = .ok (.if_icmp .ne 57, 3) := by decide +kernel
theorem dX6_oddsOf_33 : decode cX6_oddsOf 33 = .ok (.aload_n 0, 1) := by decide +kernel
theorem dX6_oddsOf_34 : decode cX6_oddsOf 34 = .ok (.getfield 7, 3) := by decide +kernel
theorem dX6_oddsOf_37 : decode cX6_oddsOf 37 = .ok (.bipush 80, 2) := by decide +kernel
theorem dX6_oddsOf_39 : decode cX6_oddsOf 39 = .ok (.iload_n 3, 1) := by decide +kernel
theorem dX6_oddsOf_40 : decode cX6_oddsOf 40 = .ok (.iadd, 1) := by decide +kernel
theorem dX6_oddsOf_41 : decode cX6_oddsOf 41 = .ok (.iaload, 1) := by decide +kernel
theorem dX6_oddsOf_42 : decode cX6_oddsOf 42 = .ok (.istore 4, 2) := by decide +kernel
theorem dX6_oddsOf_44 : decode cX6_oddsOf 44 = .ok (.ldc2_w 161, 3) := by decide +kernel
theorem dX6_oddsOf_47 : decode cX6_oddsOf 47 = .ok (.iload 4, 2) := by decide +kernel
theorem dX6_oddsOf_49 : decode cX6_oddsOf 49 = .ok (.i2l, 1) := by decide +kernel
theorem dX6_oddsOf_50 : decode cX6_oddsOf 50 = .ok (.lsub, 1) := by decide +kernel
theorem dX6_oddsOf_51 : decode cX6_oddsOf 51 = .ok (.aload_n 0, 1) := by decide +kernel
theorem dX6_oddsOf_52 : decode cX6_oddsOf 52 = .ok (.aload_n 0, 1) := by decide +kernel
theorem dX6_oddsOf_53 : decode cX6_oddsOf 53 = .ok (.iload_n 1, 1) := by decide +kernel
theorem dX6_oddsOf_54 : decode cX6_oddsOf 54 = .ok (.iconst 0, 1) := by decide +kernel
theorem dX6_oddsOf_55 : decode cX6_oddsOf 55 = .ok (.invokevirtual 231, 3) := by decide +kernel
theorem dX6_oddsOf_58 : decode cX6_oddsOf 58 = .ok (.invokevirtual 277, 3) := by decide +kernel
theorem dX6_oddsOf_61 : decode cX6_oddsOf 61 = .ok (.i2l, 1) := by decide +kernel
theorem dX6_oddsOf_62 : decode cX6_oddsOf 62 = .ok (.lmul, 1) := by decide +kernel
theorem dX6_oddsOf_63 : decode cX6_oddsOf 63 = .ok (.iload 4, 2) := by decide +kernel
theorem dX6_oddsOf_65 : decode cX6_oddsOf 65 = .ok (.i2l, 1) := by decide +kernel
theorem dX6_oddsOf_66 : decode cX6_oddsOf 66 = .ok (.lconst 1, 1) := by decide +kernel
theorem dX6_oddsOf_67 : decode cX6_oddsOf 67 = .ok (.lsub, 1) := by decide +kernel
theorem dX6_oddsOf_68 : decode cX6_oddsOf 68 = .ok (.aload_n 0, 1) := by decide +kernel
theorem dX6_oddsOf_69 : decode cX6_oddsOf 69 = .ok (.aload_n 0, 1) := by decide +kernel
theorem dX6_oddsOf_70 : decode cX6_oddsOf 70 = .ok (.iload_n 1, 1) := by decide +kernel
theorem dX6_oddsOf_71 : decode cX6_oddsOf 71 = .ok (.iconst 1, 1) := by decide +kernel
theorem dX6_oddsOf_72 : decode cX6_oddsOf 72 = .ok (.invokevirtual 231, 3) := by decide +kernel
theorem dX6_oddsOf_75 : decode cX6_oddsOf 75 = .ok (.invokevirtual 277, 3) := by decide +kernel
theorem dX6_oddsOf_78 : decode cX6_oddsOf 78 = .ok (.i2l, 1) := by decide +kernel
theorem dX6_oddsOf_79 : decode cX6_oddsOf 79 = .ok (.lmul, 1) := by decide +kernel
theorem dX6_oddsOf_80 : decode cX6_oddsOf 80 = .ok (.ladd, 1) := by decide +kernel
theorem dX6_oddsOf_81 : decode cX6_oddsOf 81 = .ok (.ldc2_w 263, 3) := by decide +kernel
theorem dX6_oddsOf_84 : decode cX6_oddsOf 84 = .ok (.ldiv, 1) := by decide +kernel
theorem dX6_oddsOf_85 : decode cX6_oddsOf 85 = .ok (.l2i, 1) := by decide +kernel
theorem dX6_oddsOf_86 : decode cX6_oddsOf 86 = .ok (.ireturn, 1) := by decide +kernel
theorem dX6_oddsOf_87 : decode cX6_oddsOf 87 = .ok (.iconst 0, 1) := by decide +kernel
theorem dX6_oddsOf_88 : decode cX6_oddsOf 88 = .ok (.istore 4, 2) := by decide +kernel
theorem dX6_oddsOf_90 : decode cX6_oddsOf 90 = .ok (.iconst 0, 1) := by decide +kernel
theorem dX6_oddsOf_91 : decode cX6_oddsOf 91 = .ok (.istore 5, 2) := by decide +kernel
theorem dX6_oddsOf_93 : decode cX6_oddsOf 93 = .ok (.iload 5, 2) := by decide +kernel
theorem dX6_oddsOf_95 : decode cX6_oddsOf 95 = .ok (.aload_n 0, 1) := by decide +kernel
theorem dX6_oddsOf_96 : decode cX6_oddsOf 96 = .ok (.iload_n 1, 1) := by decide +kernel
theorem dX6_oddsOf_97 : decode cX6_oddsOf 97 = .ok (.invokevirtual 212, 3) := by decide +kernel
theorem dX6_oddsOf_100 : decode cX6_oddsOf 100 = .ok (.if_icmp .ge 52, 3) := by decide +kernel
theorem dX6_oddsOf_103 : decode cX6_oddsOf 103 = .ok (.aload_n 0, 1) := by decide +kernel
theorem dX6_oddsOf_104 : decode cX6_oddsOf 104 = .ok (.iload_n 1, 1) := by decide +kernel
theorem dX6_oddsOf_105 : decode cX6_oddsOf 105 = .ok (.iload 5, 2) := by decide +kernel
theorem dX6_oddsOf_107 : decode cX6_oddsOf 107 = .ok (.invokevirtual 215, 3) := by decide +kernel
theorem dX6_oddsOf_110 : decode cX6_oddsOf 110 = .ok (.ifCond .eq 17, 3) := by decide +kernel
theorem dX6_oddsOf_113 : decode cX6_oddsOf 113 = .ok (.aload_n 0, 1) := by decide +kernel
theorem dX6_oddsOf_114 : decode cX6_oddsOf 114 = .ok (.aload_n 0, 1) := by decide +kernel
theorem dX6_oddsOf_115 : decode cX6_oddsOf 115 = .ok (.iload_n 1, 1) := by decide +kernel
theorem dX6_oddsOf_116 : decode cX6_oddsOf 116 = .ok (.iload 5, 2) := by decide +kernel
theorem dX6_oddsOf_118 : decode cX6_oddsOf 118 = .ok (.invokevirtual 231, 3) := by decide +kernel
theorem dX6_oddsOf_121 : decode cX6_oddsOf 121 = .ok (.invokevirtual 277, 3) := by decide +kernel
theorem dX6_oddsOf_124 : decode cX6_oddsOf 124 = .ok (.goto 4, 3) := by decide +kernel
theorem dX6_oddsOf_127 : decode cX6_oddsOf 127 = .ok (.iconst 0, 1) := by decide +kernel
theorem dX6_oddsOf_128 : decode cX6_oddsOf 128 = .ok (.istore 6, 2) := by decide +kernel
theorem dX6_oddsOf_130 : decode cX6_oddsOf 130 = .ok (.iload 6, 2) := by decide +kernel
theorem dX6_oddsOf_132 : decode cX6_oddsOf 132 = .ok (.iload 4, 2) := by decide +kernel
theorem dX6_oddsOf_134 : decode cX6_oddsOf 134 = .ok (.if_icmp .le 8, 3) := by decide +kernel
theorem dX6_oddsOf_137 : decode cX6_oddsOf 137 = .ok (.iload 6, 2) := by decide +kernel
theorem dX6_oddsOf_139 : decode cX6_oddsOf 139 = .ok (.goto 5, 3) := by decide +kernel
theorem dX6_oddsOf_142 : decode cX6_oddsOf 142 = .ok (.iload 4, 2) := by decide +kernel
theorem dX6_oddsOf_144 : decode cX6_oddsOf 144 = .ok (.istore 4, 2) := by decide +kernel
theorem dX6_oddsOf_146 : decode cX6_oddsOf 146 = .ok (.iinc 5 1, 3) := by decide +kernel
theorem dX6_oddsOf_149 : decode cX6_oddsOf 149 = .ok (.goto (-56), 3) := by decide +kernel
theorem dX6_oddsOf_152 : decode cX6_oddsOf 152 = .ok (.iload 4, 2) := by decide +kernel
theorem dX6_oddsOf_154 : decode cX6_oddsOf 154 = .ok (.ireturn, 1) := by decide +kernel
theorem dX6_findOdds_0 : decode cX6_findOdds 0 = .ok (.iconst 0, 1) := by decide +kernel
theorem dX6_findOdds_1 : decode cX6_findOdds 1 = .ok (.istore_n 2, 1) := by decide +kernel
theorem dX6_findOdds_2 : decode cX6_findOdds 2 = .ok (.iload_n 2, 1) := by decide +kernel
theorem dX6_findOdds_3 : decode cX6_findOdds 3 = .ok (.aload_n 0, 1) := by decide +kernel
theorem dX6_findOdds_4 : decode cX6_findOdds 4 = .ok (.getfield 173, 3) := by decide +kernel
theorem dX6_findOdds_7 : decode cX6_findOdds 7 = .ok (.if_icmp .ge 41, 3) := by decide +kernel
theorem dX6_findOdds_10 : decode cX6_findOdds 10 = .ok (.aload_n 0, 1) := by decide +kernel
theorem dX6_findOdds_11 : decode cX6_findOdds 11 = .ok (.getfield 52, 3) := by decide +kernel
theorem dX6_findOdds_14 : decode cX6_findOdds 14 = .ok (.aload_n 0, 1) := by decide +kernel
theorem dX6_findOdds_15 : decode cX6_findOdds 15 = .ok (.getfield 40, 3) := by decide +kernel
theorem dX6_findOdds_18 : decode cX6_findOdds 18 = .ok (.iload_n 2, 1) := by decide +kernel
theorem dX6_findOdds_19 : decode cX6_findOdds 19 = .ok (.iaload, 1) := by decide +kernel
theorem dX6_findOdds_20 : decode cX6_findOdds 20 = .ok (.aload_n 0, 1) := by decide +kernel
theorem dX6_findOdds_21 : decode cX6_findOdds 21 = .ok (.aload_n 0, 1) := by decide +kernel
theorem dX6_findOdds_22 : decode cX6_findOdds 22 = .ok (.getfield 40, 3) := by decide +kernel
theorem dX6_findOdds_25 : decode cX6_findOdds 25 = .ok (.iload_n 2, 1) := by decide +kernel
theorem dX6_findOdds_26 : decode cX6_findOdds 26 = .ok (.iaload, 1) := by decide +kernel
theorem dX6_findOdds_27 : decode cX6_findOdds 27 = .ok (.invokevirtual 228, 3) := by decide +kernel
theorem dX6_findOdds_30 : decode cX6_findOdds 30 = .ok (.iconst 1, 1) := by decide +kernel
theorem dX6_findOdds_31 : decode cX6_findOdds 31 = .ok (.if_icmp .ne 9, 3) := by decide +kernel
theorem dX6_findOdds_34 : decode cX6_findOdds 34 = .ok (.ldc_w 276, 3) := by decide +kernel
theorem dX6_findOdds_37 : decode cX6_findOdds 37 = .ok (.goto 4, 3) := by decide +kernel
theorem dX6_findOdds_40 : decode cX6_findOdds 40 = .ok (.iconst 0, 1) := by decide +kernel
theorem dX6_findOdds_41 : decode cX6_findOdds 41 = .ok (.iastore, 1) := by decide +kernel
theorem dX6_findOdds_42 : decode cX6_findOdds 42 = .ok (.iinc 2 1, 3) := by decide +kernel
theorem dX6_findOdds_45 : decode cX6_findOdds 45 = .ok (.goto (-43), 3) := by decide +kernel
theorem dX6_findOdds_48 : decode cX6_findOdds 48 = .ok (.iconst 0, 1) := by decide +kernel
theorem dX6_findOdds_49 : decode cX6_findOdds 49 = .ok (.istore_n 2, 1) := by decide +kernel
theorem dX6_findOdds_50 : decode cX6_findOdds 50 = .ok (.iload_n 2, 1) := by decide +kernel
theorem dX6_findOdds_51 : decode cX6_findOdds 51 = .ok (.iload_n 1, 1) := by decide +kernel
theorem dX6_findOdds_52 : decode cX6_findOdds 52 = .ok (.if_icmp .ge 84, 3) := by decide +kernel
theorem dX6_findOdds_55 : decode cX6_findOdds 55 = .ok (.iconst 0, 1) := by decide +kernel
theorem dX6_findOdds_56 : decode cX6_findOdds 56 = .ok (.istore_n 3, 1) := by decide +kernel
theorem dX6_findOdds_57 : decode cX6_findOdds 57 = .ok (.iload_n 3, 1) := by decide +kernel
theorem dX6_findOdds_58 : decode cX6_findOdds 58 = .ok (.aload_n 0, 1) := by decide +kernel
theorem dX6_findOdds_59 : decode cX6_findOdds 59 = .ok (.getfield 173, 3) := by decide +kernel
theorem dX6_findOdds_62 : decode cX6_findOdds 62 = .ok (.if_icmp .ge 30, 3) := by decide +kernel
theorem dX6_findOdds_65 : decode cX6_findOdds 65 = .ok (.aload_n 0, 1) := by decide +kernel
theorem dX6_findOdds_66 : decode cX6_findOdds 66 = .ok (.getfield 49, 3) := by decide +kernel
theorem dX6_findOdds_69 : decode cX6_findOdds 69 = .ok (.aload_n 0, 1) := by decide +kernel
theorem dX6_findOdds_70 : decode cX6_findOdds 70 = .ok (.getfield 40, 3) := by decide +kernel
theorem dX6_findOdds_73 : decode cX6_findOdds 73 = .ok (.iload_n 3, 1) := by decide +kernel
theorem dX6_findOdds_74 : decode cX6_findOdds 74 = .ok (.iaload, 1) := by decide +kernel
theorem dX6_findOdds_75 : decode cX6_findOdds 75 = .ok (.aload_n 0, 1) := by decide +kernel
theorem dX6_findOdds_76 : decode cX6_findOdds 76 = .ok (.aload_n 0, 1) := by decide +kernel
theorem dX6_findOdds_77 : decode cX6_findOdds 77 = .ok (.getfield 40, 3) := by decide +kernel
theorem dX6_findOdds_80 : decode cX6_findOdds 80 = .ok (.iload_n 3, 1) := by decide +kernel
theorem dX6_findOdds_81 : decode cX6_findOdds 81 = .ok (.iaload, 1) := by decide +kernel
theorem dX6_findOdds_82 : decode cX6_findOdds 82 = .ok (.invokevirtual 280, 3) := by decide +kernel
theorem dX6_findOdds_85 : decode cX6_findOdds 85 = .ok (.iastore, 1) := by decide +kernel
theorem dX6_findOdds_86 : decode cX6_findOdds 86 = .ok (.iinc 3 1, 3) := by decide +kernel
theorem dX6_findOdds_89 : decode cX6_findOdds 89 = .ok (.goto (-32), 3) := by decide +kernel
theorem dX6_findOdds_92 : decode cX6_findOdds 92 = .ok (.iconst 0, 1) := by decide +kernel
theorem dX6_findOdds_93 : decode cX6_findOdds 93 = .ok (.istore_n 3, 1) := by decide +kernel
theorem dX6_findOdds_94 : decode cX6_findOdds 94 = .ok (.iload_n 3, 1) := by decide +kernel
theorem dX6_findOdds_95 : decode cX6_findOdds 95 = .ok (.aload_n 0, 1) := by decide +kernel
theorem dX6_findOdds_96 : decode cX6_findOdds 96 = .ok (.getfield 173, 3) := by decide +kernel
theorem dX6_findOdds_99 : decode cX6_findOdds 99 = .ok (.if_icmp .ge 31, 3) := by decide +kernel
theorem dX6_findOdds_102 : decode cX6_findOdds 102 = .ok (.aload_n 0, 1) := by decide +kernel
theorem dX6_findOdds_103 : decode cX6_findOdds 103 = .ok (.getfield 52, 3) := by decide +kernel
theorem dX6_findOdds_106 : decode cX6_findOdds 106 = .ok (.aload_n 0, 1) := by decide +kernel
theorem dX6_findOdds_107 : decode cX6_findOdds 107 = .ok (.getfield 40, 3) := by decide +kernel
theorem dX6_findOdds_110 : decode cX6_findOdds 110 = .ok (.iload_n 3, 1) := by decide +kernel
theorem dX6_findOdds_111 : decode cX6_findOdds 111 = .ok (.iaload, 1) := by decide +kernel
theorem dX6_findOdds_112 : decode cX6_findOdds 112 = .ok (.aload_n 0, 1) := by decide +kernel
theorem dX6_findOdds_113 : decode cX6_findOdds 113 = .ok (.getfield 49, 3) := by decide +kernel
theorem dX6_findOdds_116 : decode cX6_findOdds 116 = .ok (.aload_n 0, 1) := by decide +kernel
theorem dX6_findOdds_117 : decode cX6_findOdds 117 = .ok (.getfield 40, 3) := by decide +kernel
theorem dX6_findOdds_120 : decode cX6_findOdds 120 = .ok (.iload_n 3, 1) := by decide +kernel
theorem dX6_findOdds_121 : decode cX6_findOdds 121 = .ok (.iaload, 1) := by decide +kernel
theorem dX6_findOdds_122 : decode cX6_findOdds 122 = .ok (.iaload, 1) := by decide +kernel
theorem dX6_findOdds_123 : decode cX6_findOdds 123 = .ok (.iastore, 1) := by decide +kernel
theorem dX6_findOdds_124 : decode cX6_findOdds 124 = .ok (.iinc 3 1, 3) := by decide +kernel
theorem dX6_findOdds_127 : decode cX6_findOdds 127 = .ok (.goto (-33), 3) := by decide +kernel
theorem dX6_findOdds_130 : decode cX6_findOdds 130 = .ok (.iinc 2 1, 3) := by decide +kernel
theorem dX6_findOdds_133 : decode cX6_findOdds 133 = .ok (.goto (-83), 3) := by decide +kernel
theorem dX6_findOdds_136 : decode cX6_findOdds 136 = .ok (.return_, 1) := by decide +kernel
theorem dX6_nowState_0 : decode cX6_nowState 0 = .ok (.aload_n 0, 1) := by decide +kernel
theorem dX6_nowState_1 : decode cX6_nowState 1 = .ok (.invokevirtual 250, 3) := by decide +kernel
theorem dX6_nowState_4 : decode cX6_nowState 4 = .ok (.iconst 2, 1) := by decide +kernel
theorem dX6_nowState_5 : decode cX6_nowState 5 = .ok (.if_icmp .ne 8, 3) := by decide +kernel
theorem dX6_nowState_8 : decode cX6_nowState 8 = .ok (.bipush (-2), 2) := by decide +kernel
theorem dX6_nowState_10 : decode cX6_nowState 10 = .ok (.goto 24, 3) := by decide +kernel
theorem dX6_nowState_13 : decode cX6_nowState 13 = .ok (.aload_n 0, 1) := by decide +kernel
theorem dX6_nowState_14 : decode cX6_nowState 14 = .ok (.getfield 7, 3) := by decide +kernel
theorem dX6_nowState_17 : decode cX6_nowState 17 = .ok (.iconst 3, 1) := by decide +kernel
theorem dX6_nowState_18 : decode cX6_nowState 18 = .ok (.iaload, 1) := by decide +kernel
theorem dX6_nowState_19 : decode cX6_nowState 19 = .ok (.aload_n 0, 1) := by decide +kernel
theorem dX6_nowState_20 : decode cX6_nowState 20 = .ok (.getfield 7, 3) := by decide +kernel
theorem dX6_nowState_23 : decode cX6_nowState 23 = .ok (.iconst 4, 1) := by decide +kernel
theorem dX6_nowState_24 : decode cX6_nowState 24 = .ok (.iaload, 1) := by decide +kernel
theorem dX6_nowState_25 : decode cX6_nowState 25 = .ok (.aload_n 0, 1) := by decide +kernel
theorem dX6_nowState_26 : decode cX6_nowState 26 = .ok (.getfield 7, 3) := by decide +kernel
theorem dX6_nowState_29 : decode cX6_nowState 29 = .ok (.iconst 5, 1) := by decide +kernel
theorem dX6_nowState_30 : decode cX6_nowState 30 = .ok (.iaload, 1) := by decide +kernel
theorem dX6_nowState_31 : decode cX6_nowState 31 = .ok (.invokestatic 186, 3) := by decide +kernel
theorem dX6_nowState_34 : decode cX6_nowState 34 = .ok (.ireturn, 1) := by decide +kernel
theorem dX6_odds_0 : decode cX6_odds 0 = .ok (.iload_n 1, 1) := by decide +kernel
theorem dX6_odds_1 : decode cX6_odds 1 = .ok (.i2l, 1) := by decide +kernel
theorem dX6_odds_2 : decode cX6_odds 2 = .ok (.lconst 0, 1) := by decide +kernel
theorem dX6_odds_3 : decode cX6_odds 3 = .ok (.ldc2_w 283, 3) := by decide +kernel
theorem dX6_odds_6 : decode cX6_odds 6 = .ok (.invokestatic 66, 3) := by decide +kernel
theorem dX6_odds_9 : decode cX6_odds 9 = .ok (.ifCond .ne 6, 3) := by decide +kernel
theorem dX6_odds_12 : decode cX6_odds 12 = .ok (.ldc 70, 2) := by decide +kernel
theorem dX6_odds_14 : decode cX6_odds 14 = .ok (.ireturn, 1) := by decide +kernel
theorem dX6_odds_15 : decode cX6_odds 15 = .ok (.aload_n 0, 1) := by decide +kernel
theorem dX6_odds_16 : decode cX6_odds 16 = .ok (.getfield 7, 3) := by decide +kernel
theorem dX6_odds_19 : decode cX6_odds 19 = .ok (.iconst 3, 1) := by decide +kernel
theorem dX6_odds_20 : decode cX6_odds 20 = .ok (.iaload, 1) := by decide +kernel
theorem dX6_odds_21 : decode cX6_odds 21 = .ok (.ifCond .ge 6, 3) := by decide +kernel
theorem dX6_odds_24 : decode cX6_odds 24 = .ok (.ldc 166, 2) := by decide +kernel
theorem dX6_odds_26 : decode cX6_odds 26 = .ok (.ireturn, 1) := by decide +kernel
theorem dX6_odds_27 : decode cX6_odds 27 = .ok (.aload_n 0, 1) := by decide +kernel
theorem dX6_odds_28 : decode cX6_odds 28 = .ok (.invokevirtual 285, 3) := by decide +kernel
theorem dX6_odds_31 : decode cX6_odds 31 = .ok (.istore_n 2, 1) := by decide +kernel
theorem dX6_odds_32 : decode cX6_odds 32 = .ok (.aload_n 0, 1) := by decide +kernel
theorem dX6_odds_33 : decode cX6_odds 33 = .ok (.iload_n 2, 1) := by decide +kernel
theorem dX6_odds_34 : decode cX6_odds 34 = .ok (.invokevirtual 288, 3) := by decide +kernel
theorem dX6_odds_37 : decode cX6_odds 37 = .ok (.aload_n 0, 1) := by decide +kernel
theorem dX6_odds_38 : decode cX6_odds 38 = .ok (.iload_n 1, 1) := by decide +kernel
theorem dX6_odds_39 : decode cX6_odds 39 = .ok (.invokevirtual 291, 3) := by decide +kernel
theorem dX6_odds_42 : decode cX6_odds 42 = .ok (.aload_n 0, 1) := by decide +kernel
theorem dX6_odds_43 : decode cX6_odds 43 = .ok (.iload_n 2, 1) := by decide +kernel
theorem dX6_odds_44 : decode cX6_odds 44 = .ok (.invokevirtual 277, 3) := by decide +kernel
theorem dX6_odds_47 : decode cX6_odds 47 = .ok (.ireturn, 1) := by decide +kernel
theorem dX6_advice_0 : decode cX6_advice 0 = .ok (.iload_n 1, 1) := by decide +kernel
theorem dX6_advice_1 : decode cX6_advice 1 = .ok (.i2l, 1) := by decide +kernel
theorem dX6_advice_2 : decode cX6_advice 2 = .ok (.lconst 1, 1) := by decide +kernel
theorem dX6_advice_3 : decode cX6_advice 3 = .ok (.ldc2_w 283, 3) := by decide +kernel
theorem dX6_advice_6 : decode cX6_advice 6 = .ok (.invokestatic 66, 3) := by decide +kernel
theorem dX6_advice_9 : decode cX6_advice 9 = .ok (.ifCond .ne 6, 3) := by decide +kernel
theorem dX6_advice_12 : decode cX6_advice 12 = .ok (.ldc 70, 2) := by decide +kernel
theorem dX6_advice_14 : decode cX6_advice 14 = .ok (.ireturn, 1) := by decide +kernel
theorem dX6_advice_15 : decode cX6_advice 15 = .ok (.aload_n 0, 1) := by decide +kernel
theorem dX6_advice_16 : decode cX6_advice 16 = .ok (.getfield 7, 3) := by decide +kernel
theorem dX6_advice_19 : decode cX6_advice 19 = .ok (.iconst 3, 1) := by decide +kernel
theorem dX6_advice_20 : decode cX6_advice 20 = .ok (.iaload, 1) := by decide +kernel
theorem dX6_advice_21 : decode cX6_advice 21 = .ok (.ifCond .ge 6, 3) := by decide +kernel
theorem dX6_advice_24 : decode cX6_advice 24 = .ok (.ldc 166, 2) := by decide +kernel
theorem dX6_advice_26 : decode cX6_advice 26 = .ok (.ireturn, 1) := by decide +kernel
theorem dX6_advice_27 : decode cX6_advice 27 = .ok (.aload_n 0, 1) := by decide +kernel
theorem dX6_advice_28 : decode cX6_advice 28 = .ok (.invokevirtual 250, 3) := by decide +kernel
theorem dX6_advice_31 : decode cX6_advice 31 = .ok (.ifCond .ne 21, 3) := by decide +kernel
theorem dX6_advice_34 : decode cX6_advice 34 = .ok (.aload_n 0, 1) := by decide +kernel
theorem dX6_advice_35 : decode cX6_advice 35 = .ok (.getfield 7, 3) := by decide +kernel
theorem dX6_advice_38 : decode cX6_advice 38 = .ok (.bipush 8, 2) := by decide +kernel
theorem dX6_advice_40 : decode cX6_advice 40 = .ok (.aload_n 0, 1) := by decide +kernel
theorem dX6_advice_41 : decode cX6_advice 41 = .ok (.getfield 7, 3) := by decide +kernel
theorem dX6_advice_44 : decode cX6_advice 44 = .ok (.iconst 3, 1) := by decide +kernel
theorem dX6_advice_45 : decode cX6_advice 45 = .ok (.iaload, 1) := by decide +kernel
theorem dX6_advice_46 : decode cX6_advice 46 = .ok (.iadd, 1) := by decide +kernel
theorem dX6_advice_47 : decode cX6_advice 47 = .ok (.iaload, 1) := by decide +kernel
theorem dX6_advice_48 : decode cX6_advice 48 = .ok (.iconst 3, 1) := by decide +kernel
theorem dX6_advice_49 : decode cX6_advice 49 = .ok (.if_icmp .ne 5, 3) := by decide +kernel
theorem dX6_advice_52 : decode cX6_advice 52 = .ok (.iconst (-1), 1) := by decide +kernel
theorem dX6_advice_53 : decode cX6_advice 53 = .ok (.ireturn, 1) := by decide +kernel
theorem dX6_advice_54 : decode cX6_advice 54 = .ok (.aload_n 0, 1) := by decide +kernel
theorem dX6_advice_55 : decode cX6_advice 55 = .ok (.invokevirtual 285, 3) := by decide +kernel
theorem dX6_advice_58 : decode cX6_advice 58 = .ok (.istore_n 2, 1) := by decide +kernel
theorem dX6_advice_59 : decode cX6_advice 59 = .ok (.aload_n 0, 1) := by decide +kernel
theorem dX6_advice_60 : decode cX6_advice 60 = .ok (.iload_n 2, 1) := by decide +kernel
theorem dX6_advice_61 : decode cX6_advice 61 = .ok (.invokevirtual 288, 3) := by decide +kernel
theorem dX6_advice_64 : decode cX6_advice 64 = .ok (.aload_n 0, 1) := by decide +kernel
theorem dX6_advice_65 : decode cX6_advice 65 = .ok (.iload_n 1, 1) := by decide +kernel
theorem dX6_advice_66 : decode cX6_advice 66 = .ok (.iconst 1, 1) := by decide +kernel
theorem dX6_advice_67 : decode cX6_advice 67 = .ok (.isub, 1) := by decide +kernel
theorem dX6_advice_68 : decode cX6_advice 68 = .ok (.invokevirtual 291, 3) := by decide +kernel
theorem dX6_advice_71 : decode cX6_advice 71 = .ok (.iconst (-1), 1) := by decide +kernel
theorem dX6_advice_72 : decode cX6_advice 72 = .ok (.istore_n 3, 1) := by decide +kernel
theorem dX6_advice_73 : decode cX6_advice 73 = .ok (.iconst 0, 1) := by decide +kernel
theorem dX6_advice_74 : decode cX6_advice 74 = .ok (.istore 4, 2) := by decide +kernel
theorem dX6_advice_76 : decode cX6_advice 76 = .ok (.iconst 0, 1) := by decide +kernel
theorem dX6_advice_77 : decode cX6_advice 77 = .ok (.istore 5, 2) := by decide +kernel
theorem dX6_advice_79 : decode cX6_advice 79 = .ok (.iload 5, 2) := by decide +kernel
theorem dX6_advice_81 : decode cX6_advice 81 = .ok (.aload_n 0, 1) := by decide +kernel
theorem dX6_advice_82 : decode cX6_advice 82 = .ok (.iload_n 2, 1) := by decide +kernel
theorem dX6_advice_83 : decode cX6_advice 83 = .ok (.invokevirtual 212, 3) := by decide +kernel
theorem dX6_advice_86 : decode cX6_advice 86 = .ok (.if_icmp .ge 59, 3) := by decide +kernel
theorem dX6_advice_89 : decode cX6_advice 89 = .ok (.aload_n 0, 1) := by decide +kernel
theorem dX6_advice_90 : decode cX6_advice 90 = .ok (.iload_n 2, 1) := by decide +kernel
theorem dX6_advice_91 : decode cX6_advice 91 = .ok (.iload 5, 2) := by decide +kernel
theorem dX6_advice_93 : decode cX6_advice 93 = .ok (.invokevirtual 215, 3) := by decide +kernel
theorem dX6_advice_96 : decode cX6_advice 96 = .ok (.ifCond .eq 17, 3) := by decide +kernel
theorem dX6_advice_99 : decode cX6_advice 99 = .ok (.aload_n 0, 1) := by decide +kernel
theorem dX6_advice_100 : decode cX6_advice 100 = .ok (.aload_n 0, 1) := by decide +kernel
theorem dX6_advice_101 : decode cX6_advice 101 = .ok (.iload_n 2, 1) := by decide +kernel
theorem dX6_advice_102 : decode cX6_advice 102 = .ok (.iload 5, 2) := by decide +kernel
theorem dX6_advice_104 : decode cX6_advice 104 = .ok (.invokevirtual 231, 3) := by decide +kernel
theorem dX6_advice_107 : decode cX6_advice 107 = .ok (.invokevirtual 277, 3) := by decide +kernel
theorem dX6_advice_110 : decode cX6_advice 110 = .ok (.goto 4, 3) := by decide +kernel
theorem dX6_advice_113 : decode cX6_advice 113 = .ok (.iconst (-1), 1) := by decide +kernel
theorem dX6_advice_114 : decode cX6_advice 114 = .ok (.istore 6, 2) := by decide +kernel
theorem dX6_advice_116 : decode cX6_advice 116 = .ok (.iload 6, 2) := by decide +kernel
theorem dX6_advice_118 : decode cX6_advice 118 = .ok (.ifCond .lt 21, 3) := by decide +kernel
theorem dX6_advice_121 : decode cX6_advice 121 = .ok (.iload_n 3, 1) := by decide +kernel
theorem dX6_advice_122 : decode cX6_advice 122 = .ok (.ifCond .lt 10, 3) := by decide +kernel
theorem dX6_advice_125 : decode cX6_advice 125 = .ok (.iload 6, 2) := by decide +kernel
theorem dX6_advice_127 : decode cX6_advice 127 = .ok (.iload 4, 2) := by decide +kernel
theorem dX6_advice_129 : decode cX6_advice 129 = .ok (.if_icmp .le 10, 3) := by decide +kernel
theorem dX6_advice_132 : decode cX6_advice 132 = .ok (.iload 5, 2) := by decide +kernel
theorem dX6_advice_134 : decode cX6_advice 134 = .ok (.istore_n 3, 1) := by decide +kernel
theorem dX6_advice_135 : decode cX6_advice 135 = .ok (.iload 6, 2) := by decide +kernel
theorem dX6_advice_137 : decode cX6_advice 137 = .ok (.istore 4, 2) := by decide +kernel
theorem dX6_advice_139 : decode cX6_advice 139 = .ok (.iinc 5 1, 3) := by decide +kernel
theorem dX6_advice_142 : decode cX6_advice 142 = .ok (.goto (-63), 3) := by decide +kernel
theorem dX6_advice_145 : decode cX6_advice 145 = .ok (.iload_n 3, 1) := by decide +kernel
theorem dX6_advice_146 : decode cX6_advice 146 = .ok (.ireturn, 1) := by decide +kernel
theorem dX6_fewest_0 : decode cX6_fewest 0 = .ok (.aload_n 0, 1) := by decide +kernel
theorem dX6_fewest_1 : decode cX6_fewest 1 = .ok (.getfield 7, 3) := by decide +kernel
theorem dX6_fewest_4 : decode cX6_fewest 4 = .ok (.iconst 3, 1) := by decide +kernel
theorem dX6_fewest_5 : decode cX6_fewest 5 = .ok (.iaload, 1) := by decide +kernel
theorem dX6_fewest_6 : decode cX6_fewest 6 = .ok (.ifCond .ge 6, 3) := by decide +kernel
theorem dX6_fewest_9 : decode cX6_fewest 9 = .ok (.ldc 166, 2) := by decide +kernel
theorem dX6_fewest_11 : decode cX6_fewest 11 = .ok (.ireturn, 1) := by decide +kernel
theorem dX6_fewest_12 : decode cX6_fewest 12 = .ok (.aload_n 0, 1) := by decide +kernel
theorem dX6_fewest_13 : decode cX6_fewest 13 = .ok (.aload_n 0, 1) := by decide +kernel
theorem dX6_fewest_14 : decode cX6_fewest 14 = .ok (.invokevirtual 285, 3) := by decide +kernel
theorem dX6_fewest_17 : decode cX6_fewest 17 = .ok (.invokevirtual 288, 3) := by decide +kernel
theorem dX6_fewest_20 : decode cX6_fewest 20 = .ok (.iconst (-1), 1) := by decide +kernel
theorem dX6_fewest_21 : decode cX6_fewest 21 = .ok (.istore_n 1, 1) := by decide +kernel
theorem dX6_fewest_22 : decode cX6_fewest 22 = .ok (.iconst 0, 1) := by decide +kernel
theorem dX6_fewest_23 : decode cX6_fewest 23 = .ok (.istore_n 2, 1) := by decide +kernel
theorem dX6_fewest_24 : decode cX6_fewest 24 = .ok (.iload_n 2, 1) := by decide +kernel
theorem dX6_fewest_25 : decode cX6_fewest 25 = .ok (.aload_n 0, 1) := by decide +kernel
theorem dX6_fewest_26 : decode cX6_fewest 26 = .ok (.getfield 173, 3) := by decide +kernel
theorem dX6_fewest_29 : decode cX6_fewest 29 = .ok (.if_icmp .ge 52, 3) := by decide +kernel
theorem dX6_fewest_32 : decode cX6_fewest 32 = .ok (.aload_n 0, 1) := by decide +kernel
theorem dX6_fewest_33 : decode cX6_fewest 33 = .ok (.getfield 43, 3) := by decide +kernel
theorem dX6_fewest_36 : decode cX6_fewest 36 = .ok (.aload_n 0, 1) := by decide +kernel
theorem dX6_fewest_37 : decode cX6_fewest 37 = .ok (.getfield 40, 3) := by decide +kernel
theorem dX6_fewest_40 : decode cX6_fewest 40 = .ok (.iload_n 2, 1) := by decide +kernel
theorem dX6_fewest_41 : decode cX6_fewest 41 = .ok (.iaload, 1) := by decide +kernel
theorem dX6_fewest_42 : decode cX6_fewest 42 = .ok (.iaload, 1) := by decide +kernel
theorem dX6_fewest_43 : decode cX6_fewest 43 = .ok (.iconst 1, 1) := by decide +kernel
theorem dX6_fewest_44 : decode cX6_fewest 44 = .ok (.isub, 1) := by decide +kernel
theorem dX6_fewest_45 : decode cX6_fewest 45 = .ok (.istore_n 3, 1) := by decide +kernel
theorem dX6_fewest_46 : decode cX6_fewest 46 = .ok (.aload_n 0, 1) := by decide +kernel
theorem dX6_fewest_47 : decode cX6_fewest 47 = .ok (.aload_n 0, 1) := by decide +kernel
theorem dX6_fewest_48 : decode cX6_fewest 48 = .ok (.getfield 40, 3) := by decide +kernel
theorem dX6_fewest_51 : decode cX6_fewest 51 = .ok (.iload_n 2, 1) := by decide +kernel
theorem dX6_fewest_52 : decode cX6_fewest 52 = .ok (.iaload, 1) := by decide +kernel
theorem dX6_fewest_53 : decode cX6_fewest 53 = .ok (.invokevirtual 228, 3) := by decide +kernel
theorem dX6_fewest_56 : decode cX6_fewest 56 = .ok (.iconst 1, 1) := by decide +kernel
theorem dX6_fewest_57 : decode cX6_fewest 57 = .ok (.if_icmp .ne 16, 3) := by decide +kernel
theorem dX6_fewest_60 : decode cX6_fewest 60 = .ok (.iload_n 1, 1) := by decide +kernel
theorem dX6_fewest_61 : decode cX6_fewest 61 = .ok (.ifCond .lt 8, 3) := by decide +kernel
theorem dX6_fewest_64 : decode cX6_fewest 64 = .ok (.iload_n 3, 1) := by decide +kernel
theorem dX6_fewest_65 : decode cX6_fewest 65 = .ok (.iload_n 1, 1) := by decide +kernel
theorem dX6_fewest_66 : decode cX6_fewest 66 = .ok (.if_icmp .ge 7, 3) := by decide +kernel
theorem dX6_fewest_69 : decode cX6_fewest 69 = .ok (.iload_n 3, 1) := by decide +kernel
theorem dX6_fewest_70 : decode cX6_fewest 70 = .ok (.goto 4, 3) := by decide +kernel
theorem dX6_fewest_73 : decode cX6_fewest 73 = .ok (.iload_n 1, 1) := by decide +kernel
theorem dX6_fewest_74 : decode cX6_fewest 74 = .ok (.istore_n 1, 1) := by decide +kernel
theorem dX6_fewest_75 : decode cX6_fewest 75 = .ok (.iinc 2 1, 3) := by decide +kernel
theorem dX6_fewest_78 : decode cX6_fewest 78 = .ok (.goto (-54), 3) := by decide +kernel
theorem dX6_fewest_81 : decode cX6_fewest 81 = .ok (.iload_n 1, 1) := by decide +kernel
theorem dX6_fewest_82 : decode cX6_fewest 82 = .ok (.ireturn, 1) := by decide +kernel
theorem dX6_isSureAt_0 : decode cX6_isSureAt 0 = .ok (.iload_n 1, 1) := by decide +kernel
theorem dX6_isSureAt_1 : decode cX6_isSureAt 1 = .ok (.bipush (-2), 2) := by decide +kernel
theorem dX6_isSureAt_3 : decode cX6_isSureAt 3 = .ok (.if_icmp .eq 16, 3) := by decide +kernel
theorem dX6_isSureAt_6 : decode cX6_isSureAt 6 = .ok (.aload_n 0, 1) := by decide +kernel
theorem dX6_isSureAt_7 : decode cX6_isSureAt 7 = .ok (.getfield 58, 3) := by decide +kernel
theorem dX6_isSureAt_10 : decode cX6_isSureAt 10 = .ok (.iload_n 1, 1) := by decide +kernel
theorem dX6_isSureAt_11 : decode cX6_isSureAt 11 = .ok (.baload, 1) := by decide +kernel
theorem dX6_isSureAt_12 : decode cX6_isSureAt 12 = .ok (.ifCond .eq 7, 3) := by decide +kernel
theorem dX6_isSureAt_15 : decode cX6_isSureAt 15 = .ok (.iconst 1, 1) := by decide +kernel
theorem dX6_isSureAt_16 : decode cX6_isSureAt 16 = .ok (.goto 4, 3) := by decide +kernel
theorem dX6_isSureAt_19 : decode cX6_isSureAt 19 = .ok (.iconst 0, 1) := by decide +kernel
theorem dX6_isSureAt_20 : decode cX6_isSureAt 20 = .ok (.ireturn, 1) := by decide +kernel
theorem dX6_makesSure_0 : decode cX6_makesSure 0 = .ok (.aload_n 0, 1) := by decide +kernel
theorem dX6_makesSure_1 : decode cX6_makesSure 1 = .ok (.iload_n 1, 1) := by decide +kernel
theorem dX6_makesSure_2 : decode cX6_makesSure 2 = .ok (.invokevirtual 228, 3) := by decide +kernel
theorem dX6_makesSure_5 : decode cX6_makesSure 5 = .ok (.iconst 1, 1) := by decide +kernel
theorem dX6_makesSure_6 : decode cX6_makesSure 6 = .ok (.if_icmp .ne 5, 3) := by decide +kernel
theorem dX6_makesSure_9 : decode cX6_makesSure 9 = .ok (.iconst 1, 1) := by decide +kernel
theorem dX6_makesSure_10 : decode cX6_makesSure 10 = .ok (.ireturn, 1) := by decide +kernel
theorem dX6_makesSure_11 : decode cX6_makesSure 11 = .ok (.aload_n 0, 1) := by decide +kernel
theorem dX6_makesSure_12 : decode cX6_makesSure 12 = .ok (.getfield 7, 3) := by decide +kernel
theorem dX6_makesSure_15 : decode cX6_makesSure 15 = .ok (.bipush 8, 2) := by decide +kernel
theorem dX6_makesSure_17 : decode cX6_makesSure 17 = .ok (.iload_n 1, 1) := by decide +kernel
theorem dX6_makesSure_18 : decode cX6_makesSure 18 = .ok (.invokestatic 194, 3) := by decide +kernel
theorem dX6_makesSure_21 : decode cX6_makesSure 21 = .ok (.iadd, 1) := by decide +kernel
theorem dX6_makesSure_22 : decode cX6_makesSure 22 = .ok (.iaload, 1) := by decide +kernel
theorem dX6_makesSure_23 : decode cX6_makesSure 23 = .ok (.iconst 3, 1) := by decide +kernel
theorem dX6_makesSure_24 : decode cX6_makesSure 24 = .ok (.if_icmp .ne 7, 3) := by decide +kernel
theorem dX6_makesSure_27 : decode cX6_makesSure 27 = .ok (.iconst 1, 1) := by decide +kernel
theorem dX6_makesSure_28 : decode cX6_makesSure 28 = .ok (.goto 4, 3) := by decide +kernel
theorem dX6_makesSure_31 : decode cX6_makesSure 31 = .ok (.iconst 0, 1) := by decide +kernel
theorem dX6_makesSure_32 : decode cX6_makesSure 32 = .ok (.istore_n 2, 1) := by decide +kernel
theorem dX6_makesSure_33 : decode cX6_makesSure 33 = .ok (.iload_n 2, 1) := by decide +kernel
theorem dX6_makesSure_34 : decode cX6_makesSure 34 = .ok (.istore_n 3, 1) := by decide +kernel
theorem dX6_makesSure_35 : decode cX6_makesSure 35 = .ok (.iconst 0, 1) := by decide +kernel
theorem dX6_makesSure_36 : decode cX6_makesSure 36 = .ok (.istore 4, 2) := by decide +kernel
theorem dX6_makesSure_38 : decode cX6_makesSure 38 = .ok (.iload 4, 2) := by decide +kernel
theorem dX6_makesSure_40 : decode cX6_makesSure 40 = .ok (.aload_n 0, 1) := by decide +kernel
theorem dX6_makesSure_41 : decode cX6_makesSure 41 = .ok (.iload_n 1, 1) := by decide +kernel
theorem dX6_makesSure_42 : decode cX6_makesSure 42 = .ok (.invokevirtual 212, 3) := by decide +kernel
theorem dX6_makesSure_45 : decode cX6_makesSure 45 = .ok (.if_icmp .ge 76, 3) := by decide +kernel
theorem dX6_makesSure_48 : decode cX6_makesSure 48 = .ok (.aload_n 0, 1) := by decide +kernel
theorem dX6_makesSure_49 : decode cX6_makesSure 49 = .ok (.iload_n 1, 1) := by decide +kernel
theorem dX6_makesSure_50 : decode cX6_makesSure 50 = .ok (.iload 4, 2) := by decide +kernel
theorem dX6_makesSure_52 : decode cX6_makesSure 52 = .ok (.invokevirtual 215, 3) := by decide +kernel
theorem dX6_makesSure_55 : decode cX6_makesSure 55 = .ok (.ifCond .eq 21, 3) := by decide +kernel
theorem dX6_makesSure_58 : decode cX6_makesSure 58 = .ok (.aload_n 0, 1) := by decide +kernel
theorem dX6_makesSure_59 : decode cX6_makesSure 59 = .ok (.aload_n 0, 1) := by decide +kernel
theorem dX6_makesSure_60 : decode cX6_makesSure 60 = .ok (.iload_n 1, 1) := by decide +kernel
theorem dX6_makesSure_61 : decode cX6_makesSure 61 = .ok (.iload 4, 2) := by decide +kernel
theorem dX6_makesSure_63 : decode cX6_makesSure 63 = .ok (.invokevirtual 231, 3) := by decide +kernel
theorem dX6_makesSure_66 : decode cX6_makesSure 66 = .ok (.invokevirtual 294, 3) := by decide +kernel
theorem dX6_makesSure_69 : decode cX6_makesSure 69 = .ok (.ifCond .eq 7, 3) := by decide +kernel
theorem dX6_makesSure_72 : decode cX6_makesSure 72 = .ok (.iconst 1, 1) := by decide +kernel
theorem dX6_makesSure_73 : decode cX6_makesSure 73 = .ok (.goto 4, 3) := by decide +kernel
theorem dX6_makesSure_76 : decode cX6_makesSure 76 = .ok (.iconst 0, 1) := by decide +kernel
theorem dX6_makesSure_77 : decode cX6_makesSure 77 = .ok (.istore 5, 2) := by decide +kernel
theorem dX6_makesSure_79 : decode cX6_makesSure 79 = .ok (.iload_n 2, 1) := by decide +kernel
theorem dX6_makesSure_80 : decode cX6_makesSure 80 = .ok (.ifCond .eq 20, 3) := by decide +kernel
theorem dX6_makesSure_83 : decode cX6_makesSure 83 = .ok (.iload_n 3, 1) := by decide +kernel
theorem dX6_makesSure_84 : decode cX6_makesSure 84 = .ok (.ifCond .eq 12, 3) := by decide +kernel
theorem dX6_makesSure_87 : decode cX6_makesSure 87 = .ok (.iload 5, 2) := by decide +kernel
theorem dX6_makesSure_89 : decode cX6_makesSure 89 = .ok (.ifCond .eq 7, 3) := by decide +kernel
theorem dX6_makesSure_92 : decode cX6_makesSure 92 = .ok (.iconst 1, 1) := by decide +kernel
theorem dX6_makesSure_93 : decode cX6_makesSure 93 = .ok (.goto 21, 3) := by decide +kernel
theorem dX6_makesSure_96 : decode cX6_makesSure 96 = .ok (.iconst 0, 1) := by decide +kernel
theorem dX6_makesSure_97 : decode cX6_makesSure 97 = .ok (.goto 17, 3) := by decide +kernel
theorem dX6_makesSure_100 : decode cX6_makesSure 100 = .ok (.iload_n 3, 1) := by decide +kernel
theorem dX6_makesSure_101 : decode cX6_makesSure 101 = .ok (.ifCond .ne 8, 3) := by decide +kernel
theorem dX6_makesSure_104 : decode cX6_makesSure 104 = .ok (.iload 5, 2) := by decide +kernel
theorem dX6_makesSure_106 : decode cX6_makesSure 106 = .ok (.ifCond .eq 7, 3) := by decide +kernel
theorem dX6_makesSure_109 : decode cX6_makesSure 109 = .ok (.iconst 1, 1) := by decide +kernel
theorem dX6_makesSure_110 : decode cX6_makesSure 110 = .ok (.goto 4, 3) := by decide +kernel
theorem dX6_makesSure_113 : decode cX6_makesSure 113 = .ok (.iconst 0, 1) := by decide +kernel
theorem dX6_makesSure_114 : decode cX6_makesSure 114 = .ok (.istore_n 3, 1) := by decide +kernel
theorem dX6_makesSure_115 : decode cX6_makesSure 115 = .ok (.iinc 4 1, 3) := by decide +kernel
theorem dX6_makesSure_118 : decode cX6_makesSure 118 = .ok (.goto (-80), 3) := by decide +kernel
theorem dX6_makesSure_121 : decode cX6_makesSure 121 = .ok (.iload_n 3, 1) := by decide +kernel
theorem dX6_makesSure_122 : decode cX6_makesSure 122 = .ok (.ireturn, 1) := by decide +kernel
theorem dX6_surely_0 : decode cX6_surely 0 = .ok (.aload_n 0, 1) := by decide +kernel
theorem dX6_surely_1 : decode cX6_surely 1 = .ok (.getfield 7, 3) := by decide +kernel
theorem dX6_surely_4 : decode cX6_surely 4 = .ok (.iconst 3, 1) := by decide +kernel
theorem dX6_surely_5 : decode cX6_surely 5 = .ok (.iaload, 1) := by decide +kernel
theorem dX6_surely_6 : decode cX6_surely 6 = .ok (.ifCond .ge 6, 3) := by decide +kernel
theorem dX6_surely_9 : decode cX6_surely 9 = .ok (.ldc 166, 2) := by decide +kernel
theorem dX6_surely_11 : decode cX6_surely 11 = .ok (.ireturn, 1) := by decide +kernel
theorem dX6_surely_12 : decode cX6_surely 12 = .ok (.aload_n 0, 1) := by decide +kernel
theorem dX6_surely_13 : decode cX6_surely 13 = .ok (.invokevirtual 285, 3) := by decide +kernel
theorem dX6_surely_16 : decode cX6_surely 16 = .ok (.istore_n 1, 1) := by decide +kernel
theorem dX6_surely_17 : decode cX6_surely 17 = .ok (.aload_n 0, 1) := by decide +kernel
theorem dX6_surely_18 : decode cX6_surely 18 = .ok (.iload_n 1, 1) := by decide +kernel
theorem dX6_surely_19 : decode cX6_surely 19 = .ok (.invokevirtual 288, 3) := by decide +kernel
theorem dX6_surely_22 : decode cX6_surely 22 = .ok (.iconst 0, 1) := by decide +kernel
theorem dX6_surely_23 : decode cX6_surely 23 = .ok (.istore_n 2, 1) := by decide +kernel
theorem dX6_surely_24 : decode cX6_surely 24 = .ok (.iload_n 2, 1) := by decide +kernel
theorem dX6_surely_25 : decode cX6_surely 25 = .ok (.aload_n 0, 1) := by decide +kernel
theorem dX6_surely_26 : decode cX6_surely 26 = .ok (.getfield 173, 3) := by decide +kernel
theorem dX6_surely_29 : decode cX6_surely 29 = .ok (.if_icmp .ge 39, 3) := by decide +kernel
theorem dX6_surely_32 : decode cX6_surely 32 = .ok (.aload_n 0, 1) := by decide +kernel
theorem dX6_surely_33 : decode cX6_surely 33 = .ok (.getfield 58, 3) := by decide +kernel
theorem dX6_surely_36 : decode cX6_surely 36 = .ok (.aload_n 0, 1) := by decide +kernel
theorem dX6_surely_37 : decode cX6_surely 37 = .ok (.getfield 40, 3) := by decide +kernel
theorem dX6_surely_40 : decode cX6_surely 40 = .ok (.iload_n 2, 1) := by decide +kernel
theorem dX6_surely_41 : decode cX6_surely 41 = .ok (.iaload, 1) := by decide +kernel
theorem dX6_surely_42 : decode cX6_surely 42 = .ok (.aload_n 0, 1) := by decide +kernel
theorem dX6_surely_43 : decode cX6_surely 43 = .ok (.aload_n 0, 1) := by decide +kernel
theorem dX6_surely_44 : decode cX6_surely 44 = .ok (.getfield 40, 3) := by decide +kernel
theorem dX6_surely_47 : decode cX6_surely 47 = .ok (.iload_n 2, 1) := by decide +kernel
theorem dX6_surely_48 : decode cX6_surely 48 = .ok (.iaload, 1) := by decide +kernel
theorem dX6_surely_49 : decode cX6_surely 49 = .ok (.invokevirtual 228, 3) := by decide +kernel
theorem dX6_surely_52 : decode cX6_surely 52 = .ok (.iconst 1, 1) := by decide +kernel
theorem dX6_surely_53 : decode cX6_surely 53 = .ok (.if_icmp .ne 7, 3) := by decide +kernel
theorem dX6_surely_56 : decode cX6_surely 56 = .ok (.iconst 1, 1) := by decide +kernel
theorem dX6_surely_57 : decode cX6_surely 57 = .ok (.goto 4, 3) := by decide +kernel
theorem dX6_surely_60 : decode cX6_surely 60 = .ok (.iconst 0, 1) := by decide +kernel
theorem dX6_surely_61 : decode cX6_surely 61 = .ok (.bastore, 1) := by decide +kernel
theorem dX6_surely_62 : decode cX6_surely 62 = .ok (.iinc 2 1, 3) := by decide +kernel
theorem dX6_surely_65 : decode cX6_surely 65 = .ok (.goto (-41), 3) := by decide +kernel
theorem dX6_surely_68 : decode cX6_surely 68 = .ok (.iconst 0, 1) := by decide +kernel
theorem dX6_surely_69 : decode cX6_surely 69 = .ok (.istore_n 2, 1) := by decide +kernel
theorem dX6_surely_70 : decode cX6_surely 70 = .ok (.iload_n 2, 1) := by decide +kernel
theorem dX6_surely_71 : decode cX6_surely 71 = .ok (.bipush 60, 2) := by decide +kernel
theorem dX6_surely_73 : decode cX6_surely 73 = .ok (.if_icmp .gt 94, 3) := by decide +kernel
theorem dX6_surely_76 : decode cX6_surely 76 = .ok (.aload_n 0, 1) := by decide +kernel
theorem dX6_surely_77 : decode cX6_surely 77 = .ok (.iload_n 1, 1) := by decide +kernel
theorem dX6_surely_78 : decode cX6_surely 78 = .ok (.invokevirtual 294, 3) := by decide +kernel
theorem dX6_surely_81 : decode cX6_surely 81 = .ok (.ifCond .eq 5, 3) := by decide +kernel
theorem dX6_surely_84 : decode cX6_surely 84 = .ok (.iload_n 2, 1) := by decide +kernel
theorem dX6_surely_85 : decode cX6_surely 85 = .ok (.ireturn, 1) := by decide +kernel
theorem dX6_surely_86 : decode cX6_surely 86 = .ok (.iconst 0, 1) := by decide +kernel
theorem dX6_surely_87 : decode cX6_surely 87 = .ok (.istore_n 3, 1) := by decide +kernel
theorem dX6_surely_88 : decode cX6_surely 88 = .ok (.iload_n 3, 1) := by decide +kernel
theorem dX6_surely_89 : decode cX6_surely 89 = .ok (.aload_n 0, 1) := by decide +kernel
theorem dX6_surely_90 : decode cX6_surely 90 = .ok (.getfield 173, 3) := by decide +kernel
theorem dX6_surely_93 : decode cX6_surely 93 = .ok (.if_icmp .ge 30, 3) := by decide +kernel
theorem dX6_surely_96 : decode cX6_surely 96 = .ok (.aload_n 0, 1) := by decide +kernel
theorem dX6_surely_97 : decode cX6_surely 97 = .ok (.getfield 55, 3) := by decide +kernel
theorem dX6_surely_100 : decode cX6_surely 100 = .ok (.aload_n 0, 1) := by decide +kernel
theorem dX6_surely_101 : decode cX6_surely 101 = .ok (.getfield 40, 3) := by decide +kernel
theorem dX6_surely_104 : decode cX6_surely 104 = .ok (.iload_n 3, 1) := by decide +kernel
theorem dX6_surely_105 : decode cX6_surely 105 = .ok (.iaload, 1) := by decide +kernel
theorem dX6_surely_106 : decode cX6_surely 106 = .ok (.aload_n 0, 1) := by decide +kernel
theorem dX6_surely_107 : decode cX6_surely 107 = .ok (.aload_n 0, 1) := by decide +kernel
theorem dX6_surely_108 : decode cX6_surely 108 = .ok (.getfield 40, 3) := by decide +kernel
theorem dX6_surely_111 : decode cX6_surely 111 = .ok (.iload_n 3, 1) := by decide +kernel
theorem dX6_surely_112 : decode cX6_surely 112 = .ok (.iaload, 1) := by decide +kernel
theorem dX6_surely_113 : decode cX6_surely 113 = .ok (.invokevirtual 297, 3) := by decide +kernel
theorem dX6_surely_116 : decode cX6_surely 116 = .ok (.bastore, 1) := by decide +kernel
theorem dX6_surely_117 : decode cX6_surely 117 = .ok (.iinc 3 1, 3) := by decide +kernel
theorem dX6_surely_120 : decode cX6_surely 120 = .ok (.goto (-32), 3) := by decide +kernel
theorem dX6_surely_123 : decode cX6_surely 123 = .ok (.iconst 0, 1) := by decide +kernel
theorem dX6_surely_124 : decode cX6_surely 124 = .ok (.istore_n 3, 1) := by decide +kernel
theorem dX6_surely_125 : decode cX6_surely 125 = .ok (.iload_n 3, 1) := by decide +kernel
theorem dX6_surely_126 : decode cX6_surely 126 = .ok (.aload_n 0, 1) := by decide +kernel
theorem dX6_surely_127 : decode cX6_surely 127 = .ok (.getfield 173, 3) := by decide +kernel
theorem dX6_surely_130 : decode cX6_surely 130 = .ok (.if_icmp .ge 31, 3) := by decide +kernel
theorem dX6_surely_133 : decode cX6_surely 133 = .ok (.aload_n 0, 1) := by decide +kernel
theorem dX6_surely_134 : decode cX6_surely 134 = .ok (.getfield 58, 3) := by decide +kernel
theorem dX6_surely_137 : decode cX6_surely 137 = .ok (.aload_n 0, 1) := by decide +kernel
theorem dX6_surely_138 : decode cX6_surely 138 = .ok (.getfield 40, 3) := by decide +kernel
theorem dX6_surely_141 : decode cX6_surely 141 = .ok (.iload_n 3, 1) := by decide +kernel
theorem dX6_surely_142 : decode cX6_surely 142 = .ok (.iaload, 1) := by decide +kernel
theorem dX6_surely_143 : decode cX6_surely 143 = .ok (.aload_n 0, 1) := by decide +kernel
theorem dX6_surely_144 : decode cX6_surely 144 = .ok (.getfield 55, 3) := by decide +kernel
theorem dX6_surely_147 : decode cX6_surely 147 = .ok (.aload_n 0, 1) := by decide +kernel
theorem dX6_surely_148 : decode cX6_surely 148 = .ok (.getfield 40, 3) := by decide +kernel
theorem dX6_surely_151 : decode cX6_surely 151 = .ok (.iload_n 3, 1) := by decide +kernel
theorem dX6_surely_152 : decode cX6_surely 152 = .ok (.iaload, 1) := by decide +kernel
theorem dX6_surely_153 : decode cX6_surely 153 = .ok (.baload, 1) := by decide +kernel
theorem dX6_surely_154 : decode cX6_surely 154 = .ok (.bastore, 1) := by decide +kernel
theorem dX6_surely_155 : decode cX6_surely 155 = .ok (.iinc 3 1, 3) := by decide +kernel
theorem dX6_surely_158 : decode cX6_surely 158 = .ok (.goto (-33), 3) := by decide +kernel
theorem dX6_surely_161 : decode cX6_surely 161 = .ok (.iinc 2 1, 3) := by decide +kernel
theorem dX6_surely_164 : decode cX6_surely 164 = .ok (.goto (-94), 3) := by decide +kernel
theorem dX6_surely_167 : decode cX6_surely 167 = .ok (.iconst (-1), 1) := by decide +kernel
theorem dX6_surely_168 : decode cX6_surely 168 = .ok (.ireturn, 1) := by decide +kernel
theorem dX6_partsFound_0 : decode cX6_partsFound 0 = .ok (.aload_n 0, 1) := by decide +kernel
theorem dX6_partsFound_1 : decode cX6_partsFound 1 = .ok (.getfield 225, 3) := by decide +kernel
theorem dX6_partsFound_4 : decode cX6_partsFound 4 = .ok (.istore_n 1, 1) := by decide +kernel
theorem dX6_partsFound_5 : decode cX6_partsFound 5 = .ok (.iconst 0, 1) := by decide +kernel
theorem dX6_partsFound_6 : decode cX6_partsFound 6 = .ok (.istore_n 2, 1) := by decide +kernel
theorem dX6_partsFound_7 : decode cX6_partsFound 7 = .ok (.iload_n 2, 1) := by decide +kernel
theorem dX6_partsFound_8 : decode cX6_partsFound 8 = .ok (.aload_n 0, 1) := by decide +kernel
theorem dX6_partsFound_9 : decode cX6_partsFound 9 = .ok (.getfield 173, 3) := by decide +kernel
theorem dX6_partsFound_12 : decode cX6_partsFound 12 = .ok (.if_icmp .ge 23, 3) := by decide +kernel
theorem dX6_partsFound_15 : decode cX6_partsFound 15 = .ok (.iload_n 1, 1) := by decide +kernel
theorem dX6_partsFound_16 : decode cX6_partsFound 16 = .ok (.iconst 1, 1) := by decide +kernel
theorem dX6_partsFound_17 : decode cX6_partsFound 17 = .ok (.aload_n 0, 1) := by decide +kernel
theorem dX6_partsFound_18 : decode cX6_partsFound 18 = .ok (.getfield 40, 3) := by decide +kernel
theorem dX6_partsFound_21 : decode cX6_partsFound 21 = .ok (.iload_n 2, 1) := by decide +kernel
theorem dX6_partsFound_22 : decode cX6_partsFound 22 = .ok (.iaload, 1) := by decide +kernel
theorem dX6_partsFound_23 : decode cX6_partsFound 23 = .ok (.invokestatic 194, 3) := by decide +kernel
theorem dX6_partsFound_26 : decode cX6_partsFound 26 = .ok (.ishl, 1) := by decide +kernel
theorem dX6_partsFound_27 : decode cX6_partsFound 27 = .ok (.ior, 1) := by decide +kernel
theorem dX6_partsFound_28 : decode cX6_partsFound 28 = .ok (.istore_n 1, 1) := by decide +kernel
theorem dX6_partsFound_29 : decode cX6_partsFound 29 = .ok (.iinc 2 1, 3) := by decide +kernel
theorem dX6_partsFound_32 : decode cX6_partsFound 32 = .ok (.goto (-25), 3) := by decide +kernel
theorem dX6_partsFound_35 : decode cX6_partsFound 35 = .ok (.iload_n 1, 1) := by decide +kernel
theorem dX6_partsFound_36 : decode cX6_partsFound 36 = .ok (.ireturn, 1) := by decide +kernel
theorem dX6_must_0 : decode cX6_must 0 = .ok (.aload_n 0, 1) := by decide +kernel
theorem dX6_must_1 : decode cX6_must 1 = .ok (.invokevirtual 170, 3) := by decide +kernel
theorem dX6_must_4 : decode cX6_must 4 = .ok (.aload_n 0, 1) := by decide +kernel
theorem dX6_must_5 : decode cX6_must 5 = .ok (.invokevirtual 300, 3) := by decide +kernel
theorem dX6_must_8 : decode cX6_must 8 = .ok (.ifCond .ne 5, 3) := by decide +kernel
theorem dX6_must_11 : decode cX6_must 11 = .ok (.iconst 0, 1) := by decide +kernel
theorem dX6_must_12 : decode cX6_must 12 = .ok (.ireturn, 1) := by decide +kernel
theorem dX6_must_13 : decode cX6_must 13 = .ok (.iconst 0, 1) := by decide +kernel
theorem dX6_must_14 : decode cX6_must 14 = .ok (.istore_n 1, 1) := by decide +kernel
theorem dX6_must_15 : decode cX6_must 15 = .ok (.iconst 0, 1) := by decide +kernel
theorem dX6_must_16 : decode cX6_must 16 = .ok (.istore_n 2, 1) := by decide +kernel
theorem dX6_must_17 : decode cX6_must 17 = .ok (.iload_n 2, 1) := by decide +kernel
theorem dX6_must_18 : decode cX6_must 18 = .ok (.aload_n 0, 1) := by decide +kernel
theorem dX6_must_19 : decode cX6_must 19 = .ok (.getfield 7, 3) := by decide +kernel
theorem dX6_must_22 : decode cX6_must 22 = .ok (.iconst 0, 1) := by decide +kernel
theorem dX6_must_23 : decode cX6_must 23 = .ok (.iaload, 1) := by decide +kernel
theorem dX6_must_24 : decode cX6_must 24 = .ok (.if_icmp .ge 38, 3) := by decide +kernel
theorem dX6_must_27 : decode cX6_must 27 = .ok (.aload_n 0, 1) := by decide +kernel
theorem dX6_must_28 : decode cX6_must 28 = .ok (.iload_n 2, 1) := by decide +kernel
theorem dX6_must_29 : decode cX6_must 29 = .ok (.putfield 33, 3) := by decide +kernel
theorem dX6_must_32 : decode cX6_must 32 = .ok (.aload_n 0, 1) := by decide +kernel
theorem dX6_must_33 : decode cX6_must 33 = .ok (.invokevirtual 170, 3) := by decide +kernel
theorem dX6_must_36 : decode cX6_must 36 = .ok (.iload_n 1, 1) := by decide +kernel
theorem dX6_must_37 : decode cX6_must 37 = .ok (.aload_n 0, 1) := by decide +kernel
theorem dX6_must_38 : decode cX6_must 38 = .ok (.invokevirtual 300, 3) := by decide +kernel
theorem dX6_must_41 : decode cX6_must 41 = .ok (.ifCond .ne 7, 3) := by decide +kernel
theorem dX6_must_44 : decode cX6_must 44 = .ok (.iconst 1, 1) := by decide +kernel
theorem dX6_must_45 : decode cX6_must 45 = .ok (.goto 4, 3) := by decide +kernel
theorem dX6_must_48 : decode cX6_must 48 = .ok (.iconst 0, 1) := by decide +kernel
theorem dX6_must_49 : decode cX6_must 49 = .ok (.invokestatic 218, 3) := by decide +kernel
theorem dX6_must_52 : decode cX6_must 52 = .ok (.iload_n 2, 1) := by decide +kernel
theorem dX6_must_53 : decode cX6_must 53 = .ok (.ishl, 1) := by decide +kernel
theorem dX6_must_54 : decode cX6_must 54 = .ok (.ior, 1) := by decide +kernel
theorem dX6_must_55 : decode cX6_must 55 = .ok (.istore_n 1, 1) := by decide +kernel
theorem dX6_must_56 : decode cX6_must 56 = .ok (.iinc 2 1, 3) := by decide +kernel
theorem dX6_must_59 : decode cX6_must 59 = .ok (.goto (-42), 3) := by decide +kernel
theorem dX6_must_62 : decode cX6_must 62 = .ok (.aload_n 0, 1) := by decide +kernel
theorem dX6_must_63 : decode cX6_must 63 = .ok (.iconst (-1), 1) := by decide +kernel
theorem dX6_must_64 : decode cX6_must 64 = .ok (.putfield 33, 3) := by decide +kernel
theorem dX6_must_67 : decode cX6_must 67 = .ok (.iload_n 1, 1) := by decide +kernel
theorem dX6_must_68 : decode cX6_must 68 = .ok (.ireturn, 1) := by decide +kernel
theorem dX6_traps_0 : decode cX6_traps 0 = .ok (.aload_n 0, 1) := by decide +kernel
theorem dX6_traps_1 : decode cX6_traps 1 = .ok (.invokevirtual 170, 3) := by decide +kernel
theorem dX6_traps_4 : decode cX6_traps 4 = .ok (.iconst 0, 1) := by decide +kernel
theorem dX6_traps_5 : decode cX6_traps 5 = .ok (.istore_n 1, 1) := by decide +kernel
theorem dX6_traps_6 : decode cX6_traps 6 = .ok (.iload_n 1, 1) := by decide +kernel
theorem dX6_traps_7 : decode cX6_traps 7 = .ok (.aload_n 0, 1) := by decide +kernel
theorem dX6_traps_8 : decode cX6_traps 8 = .ok (.getfield 173, 3) := by decide +kernel
theorem dX6_traps_11 : decode cX6_traps 11 = .ok (.if_icmp .ge 39, 3) := by decide +kernel
theorem dX6_traps_14 : decode cX6_traps 14 = .ok (.aload_n 0, 1) := by decide +kernel
theorem dX6_traps_15 : decode cX6_traps 15 = .ok (.getfield 58, 3) := by decide +kernel
theorem dX6_traps_18 : decode cX6_traps 18 = .ok (.aload_n 0, 1) := by decide +kernel
theorem dX6_traps_19 : decode cX6_traps 19 = .ok (.getfield 40, 3) := by decide +kernel
theorem dX6_traps_22 : decode cX6_traps 22 = .ok (.iload_n 1, 1) := by decide +kernel
theorem dX6_traps_23 : decode cX6_traps 23 = .ok (.iaload, 1) := by decide +kernel
theorem dX6_traps_24 : decode cX6_traps 24 = .ok (.aload_n 0, 1) := by decide +kernel
theorem dX6_traps_25 : decode cX6_traps 25 = .ok (.aload_n 0, 1) := by decide +kernel
theorem dX6_traps_26 : decode cX6_traps 26 = .ok (.getfield 40, 3) := by decide +kernel
theorem dX6_traps_29 : decode cX6_traps 29 = .ok (.iload_n 1, 1) := by decide +kernel
theorem dX6_traps_30 : decode cX6_traps 30 = .ok (.iaload, 1) := by decide +kernel
theorem dX6_traps_31 : decode cX6_traps 31 = .ok (.invokevirtual 228, 3) := by decide +kernel
theorem dX6_traps_34 : decode cX6_traps 34 = .ok (.iconst 1, 1) := by decide +kernel
theorem dX6_traps_35 : decode cX6_traps 35 = .ok (.if_icmp .ne 7, 3) := by decide +kernel
theorem dX6_traps_38 : decode cX6_traps 38 = .ok (.iconst 1, 1) := by decide +kernel
theorem dX6_traps_39 : decode cX6_traps 39 = .ok (.goto 4, 3) := by decide +kernel
theorem dX6_traps_42 : decode cX6_traps 42 = .ok (.iconst 0, 1) := by decide +kernel
theorem dX6_traps_43 : decode cX6_traps 43 = .ok (.bastore, 1) := by decide +kernel
theorem dX6_traps_44 : decode cX6_traps 44 = .ok (.iinc 1 1, 3) := by decide +kernel
theorem dX6_traps_47 : decode cX6_traps 47 = .ok (.goto (-41), 3) := by decide +kernel
theorem dX6_traps_50 : decode cX6_traps 50 = .ok (.iconst 1, 1) := by decide +kernel
theorem dX6_traps_51 : decode cX6_traps 51 = .ok (.istore_n 1, 1) := by decide +kernel
theorem dX6_traps_52 : decode cX6_traps 52 = .ok (.iload_n 1, 1) := by decide +kernel
theorem dX6_traps_53 : decode cX6_traps 53 = .ok (.ifCond .eq 127, 3) := by decide +kernel
theorem dX6_traps_56 : decode cX6_traps 56 = .ok (.iconst 0, 1) := by decide +kernel
theorem dX6_traps_57 : decode cX6_traps 57 = .ok (.istore_n 1, 1) := by decide +kernel
theorem dX6_traps_58 : decode cX6_traps 58 = .ok (.aload_n 0, 1) := by decide +kernel
theorem dX6_traps_59 : decode cX6_traps 59 = .ok (.getfield 173, 3) := by decide +kernel
theorem dX6_traps_62 : decode cX6_traps 62 = .ok (.iconst 1, 1) := by decide +kernel
theorem dX6_traps_63 : decode cX6_traps 63 = .ok (.isub, 1) := by decide +kernel
theorem dX6_traps_64 : decode cX6_traps 64 = .ok (.istore_n 2, 1) := by decide +kernel
theorem dX6_traps_65 : decode cX6_traps 65 = .ok (.iload_n 2, 1) := by decide +kernel
theorem dX6_traps_66 : decode cX6_traps 66 = .ok (.ifCond .lt 111, 3) := by decide +kernel
theorem dX6_traps_69 : decode cX6_traps 69 = .ok (.aload_n 0, 1) := by decide +kernel
theorem dX6_traps_70 : decode cX6_traps 70 = .ok (.getfield 40, 3) := by decide +kernel
theorem dX6_traps_73 : decode cX6_traps 73 = .ok (.iload_n 2, 1) := by decide +kernel
theorem dX6_traps_74 : decode cX6_traps 74 = .ok (.iaload, 1) := by decide +kernel
theorem dX6_traps_75 : decode cX6_traps 75 = .ok (.istore_n 3, 1) := by decide +kernel
theorem dX6_traps_76 : decode cX6_traps 76 = .ok (.aload_n 0, 1) := by decide +kernel
theorem dX6_traps_77 : decode cX6_traps 77 = .ok (.getfield 58, 3) := by decide +kernel
theorem dX6_traps_80 : decode cX6_traps 80 = .ok (.iload_n 3, 1) := by decide +kernel
theorem dX6_traps_81 : decode cX6_traps 81 = .ok (.baload, 1) := by decide +kernel
theorem dX6_traps_82 : decode cX6_traps 82 = .ok (.istore 4, 2) := by decide +kernel
theorem dX6_traps_84 : decode cX6_traps 84 = .ok (.iconst 0, 1) := by decide +kernel
theorem dX6_traps_85 : decode cX6_traps 85 = .ok (.istore 5, 2) := by decide +kernel
theorem dX6_traps_87 : decode cX6_traps 87 = .ok (.iload 5, 2) := by decide +kernel
theorem dX6_traps_89 : decode cX6_traps 89 = .ok (.aload_n 0, 1) := by decide +kernel
theorem dX6_traps_90 : decode cX6_traps 90 = .ok (.iload_n 3, 1) := by decide +kernel
theorem dX6_traps_91 : decode cX6_traps 91 = .ok (.invokevirtual 212, 3) := by decide +kernel
theorem dX6_traps_94 : decode cX6_traps 94 = .ok (.if_icmp .ge 45, 3) := by decide +kernel
theorem dX6_traps_97 : decode cX6_traps 97 = .ok (.iload 4, 2) := by decide +kernel
theorem dX6_traps_99 : decode cX6_traps 99 = .ok (.ifCond .ne 40, 3) := by decide +kernel
theorem dX6_traps_102 : decode cX6_traps 102 = .ok (.aload_n 0, 1) := by decide +kernel
theorem dX6_traps_103 : decode cX6_traps 103 = .ok (.iload_n 3, 1) := by decide +kernel
theorem dX6_traps_104 : decode cX6_traps 104 = .ok (.iload 5, 2) := by decide +kernel
theorem dX6_traps_106 : decode cX6_traps 106 = .ok (.invokevirtual 215, 3) := by decide +kernel
theorem dX6_traps_109 : decode cX6_traps 109 = .ok (.ifCond .eq 21, 3) := by decide +kernel
theorem dX6_traps_112 : decode cX6_traps 112 = .ok (.aload_n 0, 1) := by decide +kernel
theorem dX6_traps_113 : decode cX6_traps 113 = .ok (.aload_n 0, 1) := by decide +kernel
theorem dX6_traps_114 : decode cX6_traps 114 = .ok (.iload_n 3, 1) := by decide +kernel
theorem dX6_traps_115 : decode cX6_traps 115 = .ok (.iload 5, 2) := by decide +kernel
theorem dX6_traps_117 : decode cX6_traps 117 = .ok (.invokevirtual 231, 3) := by decide +kernel
theorem dX6_traps_120 : decode cX6_traps 120 = .ok (.invokevirtual 294, 3) := by decide +kernel
theorem dX6_traps_123 : decode cX6_traps 123 = .ok (.ifCond .eq 7, 3) := by decide +kernel
theorem dX6_traps_126 : decode cX6_traps 126 = .ok (.iconst 1, 1) := by decide +kernel
theorem dX6_traps_127 : decode cX6_traps 127 = .ok (.goto 4, 3) := by decide +kernel
theorem dX6_traps_130 : decode cX6_traps 130 = .ok (.iconst 0, 1) := by decide +kernel
theorem dX6_traps_131 : decode cX6_traps 131 = .ok (.istore 4, 2) := by decide +kernel
theorem dX6_traps_133 : decode cX6_traps 133 = .ok (.iinc 5 1, 3) := by decide +kernel
theorem dX6_traps_136 : decode cX6_traps 136 = .ok (.goto (-49), 3) := by decide +kernel
theorem dX6_traps_139 : decode cX6_traps 139 = .ok (.iload_n 1, 1) := by decide +kernel
theorem dX6_traps_140 : decode cX6_traps 140 = .ok (.ifCond .ne 17, 3) := by decide +kernel
theorem dX6_traps_143 : decode cX6_traps 143 = .ok (.iload 4, 2) := by decide +kernel
theorem dX6_traps_145 : decode cX6_traps 145 = .ok (.ifCond .eq 16, 3) := by decide +kernel
theorem dX6_traps_148 : decode cX6_traps 148 = .ok (.aload_n 0, 1) := by decide +kernel
theorem dX6_traps_149 : decode cX6_traps 149 = .ok (.getfield 58, 3) := by decide +kernel
theorem dX6_traps_152 : decode cX6_traps 152 = .ok (.iload_n 3, 1) := by decide +kernel
theorem dX6_traps_153 : decode cX6_traps 153 = .ok (.baload, 1) := by decide +kernel
theorem dX6_traps_154 : decode cX6_traps 154 = .ok (.ifCond .ne 7, 3) := by decide +kernel
theorem dX6_traps_157 : decode cX6_traps 157 = .ok (.iconst 1, 1) := by decide +kernel
theorem dX6_traps_158 : decode cX6_traps 158 = .ok (.goto 4, 3) := by decide +kernel
theorem dX6_traps_161 : decode cX6_traps 161 = .ok (.iconst 0, 1) := by decide +kernel
theorem dX6_traps_162 : decode cX6_traps 162 = .ok (.istore_n 1, 1) := by decide +kernel
theorem dX6_traps_163 : decode cX6_traps 163 = .ok (.aload_n 0, 1) := by decide +kernel
theorem dX6_traps_164 : decode cX6_traps 164 = .ok (.getfield 58, 3) := by decide +kernel
theorem dX6_traps_167 : decode cX6_traps 167 = .ok (.iload_n 3, 1) := by decide +kernel
theorem dX6_traps_168 : decode cX6_traps 168 = .ok (.iload 4, 2) := by decide +kernel
theorem dX6_traps_170 : decode cX6_traps 170 = .ok (.bastore, 1) := by decide +kernel
theorem dX6_traps_171 : decode cX6_traps 171 = .ok (.iinc 2 (-1), 3) := by decide +kernel
theorem dX6_traps_174 : decode cX6_traps 174 = .ok (.goto (-109), 3) := by decide +kernel
theorem dX6_traps_177 : decode cX6_traps 177 = .ok (.goto (-125), 3) := by decide +kernel
theorem dX6_traps_180 : decode cX6_traps 180 = .ok (.iconst 0, 1) := by decide +kernel
theorem dX6_traps_181 : decode cX6_traps 181 = .ok (.istore_n 2, 1) := by decide +kernel
theorem dX6_traps_182 : decode cX6_traps 182 = .ok (.iconst 0, 1) := by decide +kernel
theorem dX6_traps_183 : decode cX6_traps 183 = .ok (.istore_n 3, 1) := by decide +kernel
theorem dX6_traps_184 : decode cX6_traps 184 = .ok (.iload_n 3, 1) := by decide +kernel
theorem dX6_traps_185 : decode cX6_traps 185 = .ok (.aload_n 0, 1) := by decide +kernel
theorem dX6_traps_186 : decode cX6_traps 186 = .ok (.getfield 173, 3) := by decide +kernel
theorem dX6_traps_189 : decode cX6_traps 189 = .ok (.if_icmp .ge 44, 3) := by decide +kernel
theorem dX6_traps_192 : decode cX6_traps 192 = .ok (.iload_n 2, 1) := by decide +kernel
theorem dX6_traps_193 : decode cX6_traps 193 = .ok (.aload_n 0, 1) := by decide +kernel
theorem dX6_traps_194 : decode cX6_traps 194 = .ok (.getfield 58, 3) := by decide +kernel
theorem dX6_traps_197 : decode cX6_traps 197 = .ok (.aload_n 0, 1) := by decide +kernel
theorem dX6_traps_198 : decode cX6_traps 198 = .ok (.getfield 40, 3) := by decide +kernel
theorem dX6_traps_201 : decode cX6_traps 201 = .ok (.iload_n 3, 1) := by decide +kernel
theorem dX6_traps_202 : decode cX6_traps 202 = .ok (.iaload, 1) := by decide +kernel
theorem dX6_traps_203 : decode cX6_traps 203 = .ok (.baload, 1) := by decide +kernel
theorem dX6_traps_204 : decode cX6_traps 204 = .ok (.ifCond .ne 7, 3) := by decide +kernel
theorem dX6_traps_207 : decode cX6_traps 207 = .ok (.iconst 1, 1) := by decide +kernel
theorem dX6_traps_208 : decode cX6_traps 208 = .ok (.goto 4, 3) := by decide +kernel
theorem dX6_traps_211 : decode cX6_traps 211 = .ok (.iconst 0, 1) := by decide +kernel
theorem dX6_traps_212 : decode cX6_traps 212 = .ok (.invokestatic 218, 3) := by decide +kernel
theorem dX6_traps_215 : decode cX6_traps 215 = .ok (.aload_n 0, 1) := by decide +kernel
theorem dX6_traps_216 : decode cX6_traps 216 = .ok (.getfield 40, 3) := by decide +kernel
theorem dX6_traps_219 : decode cX6_traps 219 = .ok (.iload_n 3, 1) := by decide +kernel
theorem dX6_traps_220 : decode cX6_traps 220 = .ok (.iaload, 1) := by decide +kernel
theorem dX6_traps_221 : decode cX6_traps 221 = .ok (.invokestatic 194, 3) := by decide +kernel
theorem dX6_traps_224 : decode cX6_traps 224 = .ok (.ishl, 1) := by decide +kernel
theorem dX6_traps_225 : decode cX6_traps 225 = .ok (.ior, 1) := by decide +kernel
theorem dX6_traps_226 : decode cX6_traps 226 = .ok (.istore_n 2, 1) := by decide +kernel
theorem dX6_traps_227 : decode cX6_traps 227 = .ok (.iinc 3 1, 3) := by decide +kernel
theorem dX6_traps_230 : decode cX6_traps 230 = .ok (.goto (-46), 3) := by decide +kernel
theorem dX6_traps_233 : decode cX6_traps 233 = .ok (.iload_n 2, 1) := by decide +kernel
theorem dX6_traps_234 : decode cX6_traps 234 = .ok (.ireturn, 1) := by decide +kernel
theorem dX6_holes_0 : decode cX6_holes 0 = .ok (.aload_n 0, 1) := by decide +kernel
theorem dX6_holes_1 : decode cX6_holes 1 = .ok (.invokevirtual 170, 3) := by decide +kernel
theorem dX6_holes_4 : decode cX6_holes 4 = .ok (.iconst 0, 1) := by decide +kernel
theorem dX6_holes_5 : decode cX6_holes 5 = .ok (.istore_n 1, 1) := by decide +kernel
theorem dX6_holes_6 : decode cX6_holes 6 = .ok (.iconst 0, 1) := by decide +kernel
theorem dX6_holes_7 : decode cX6_holes 7 = .ok (.istore_n 2, 1) := by decide +kernel
theorem dX6_holes_8 : decode cX6_holes 8 = .ok (.iload_n 2, 1) := by decide +kernel
theorem dX6_holes_9 : decode cX6_holes 9 = .ok (.aload_n 0, 1) := by decide +kernel
theorem dX6_holes_10 : decode cX6_holes 10 = .ok (.getfield 173, 3) := by decide +kernel
theorem dX6_holes_13 : decode cX6_holes 13 = .ok (.if_icmp .ge 44, 3) := by decide +kernel
theorem dX6_holes_16 : decode cX6_holes 16 = .ok (.iload_n 1, 1) := by decide +kernel
theorem dX6_holes_17 : decode cX6_holes 17 = .ok (.aload_n 0, 1) := by decide +kernel
theorem dX6_holes_18 : decode cX6_holes 18 = .ok (.aload_n 0, 1) := by decide +kernel
theorem dX6_holes_19 : decode cX6_holes 19 = .ok (.getfield 40, 3) := by decide +kernel
theorem dX6_holes_22 : decode cX6_holes 22 = .ok (.iload_n 2, 1) := by decide +kernel
theorem dX6_holes_23 : decode cX6_holes 23 = .ok (.iaload, 1) := by decide +kernel
theorem dX6_holes_24 : decode cX6_holes 24 = .ok (.invokevirtual 228, 3) := by decide +kernel
theorem dX6_holes_27 : decode cX6_holes 27 = .ok (.iconst 3, 1) := by decide +kernel
theorem dX6_holes_28 : decode cX6_holes 28 = .ok (.if_icmp .ne 7, 3) := by decide +kernel
theorem dX6_holes_31 : decode cX6_holes 31 = .ok (.iconst 1, 1) := by decide +kernel
theorem dX6_holes_32 : decode cX6_holes 32 = .ok (.goto 4, 3) := by decide +kernel
theorem dX6_holes_35 : decode cX6_holes 35 = .ok (.iconst 0, 1) := by decide +kernel
theorem dX6_holes_36 : decode cX6_holes 36 = .ok (.invokestatic 218, 3) := by decide +kernel
theorem dX6_holes_39 : decode cX6_holes 39 = .ok (.aload_n 0, 1) := by decide +kernel
theorem dX6_holes_40 : decode cX6_holes 40 = .ok (.getfield 40, 3) := by decide +kernel
theorem dX6_holes_43 : decode cX6_holes 43 = .ok (.iload_n 2, 1) := by decide +kernel
theorem dX6_holes_44 : decode cX6_holes 44 = .ok (.iaload, 1) := by decide +kernel
theorem dX6_holes_45 : decode cX6_holes 45 = .ok (.invokestatic 194, 3) := by decide +kernel
theorem dX6_holes_48 : decode cX6_holes 48 = .ok (.ishl, 1) := by decide +kernel
theorem dX6_holes_49 : decode cX6_holes 49 = .ok (.ior, 1) := by decide +kernel
theorem dX6_holes_50 : decode cX6_holes 50 = .ok (.istore_n 1, 1) := by decide +kernel
theorem dX6_holes_51 : decode cX6_holes 51 = .ok (.iinc 2 1, 3) := by decide +kernel
theorem dX6_holes_54 : decode cX6_holes 54 = .ok (.goto (-46), 3) := by decide +kernel
theorem dX6_holes_57 : decode cX6_holes 57 = .ok (.iload_n 1, 1) := by decide +kernel
theorem dX6_holes_58 : decode cX6_holes 58 = .ok (.ireturn, 1) := by decide +kernel
theorem dX6_parts_0 : decode cX6_parts 0 = .ok (.iload_n 1, 1) := by decide +kernel
theorem dX6_parts_1 : decode cX6_parts 1 = .ok (.tableswitch 55 0 3 #[31, 40, 45, 50], 31) := by decide +kernel
theorem dX6_parts_32 : decode cX6_parts 32 = .ok (.aload_n 0, 1) := by decide +kernel
theorem dX6_parts_33 : decode cX6_parts 33 = .ok (.invokevirtual 170, 3) := by decide +kernel
theorem dX6_parts_36 : decode cX6_parts 36 = .ok (.aload_n 0, 1) := by decide +kernel
theorem dX6_parts_37 : decode cX6_parts 37 = .ok (.invokevirtual 304, 3) := by decide +kernel
theorem dX6_parts_40 : decode cX6_parts 40 = .ok (.ireturn, 1) := by decide +kernel
theorem dX6_parts_41 : decode cX6_parts 41 = .ok (.aload_n 0, 1) := by decide +kernel
theorem dX6_parts_42 : decode cX6_parts 42 = .ok (.invokevirtual 307, 3) := by decide +kernel
theorem dX6_parts_45 : decode cX6_parts 45 = .ok (.ireturn, 1) := by decide +kernel
theorem dX6_parts_46 : decode cX6_parts 46 = .ok (.aload_n 0, 1) := by decide +kernel
theorem dX6_parts_47 : decode cX6_parts 47 = .ok (.invokevirtual 310, 3) := by decide +kernel
theorem dX6_parts_50 : decode cX6_parts 50 = .ok (.ireturn, 1) := by decide +kernel
theorem dX6_parts_51 : decode cX6_parts 51 = .ok (.aload_n 0, 1) := by decide +kernel
theorem dX6_parts_52 : decode cX6_parts 52 = .ok (.invokevirtual 313, 3) := by decide +kernel
theorem dX6_parts_55 : decode cX6_parts 55 = .ok (.ireturn, 1) := by decide +kernel
theorem dX6_parts_56 : decode cX6_parts 56 = .ok (.ldc 70, 2) := by decide +kernel
theorem dX6_parts_58 : decode cX6_parts 58 = .ok (.ireturn, 1) := by decide +kernel
theorem dX6_things_0 : decode cX6_things 0 = .ok (.iload_n 1, 1) := by decide +kernel
theorem dX6_things_1 : decode cX6_things 1 = .ok (.i2l, 1) := by decide +kernel
theorem dX6_things_2 : decode cX6_things 2 = .ok (.lconst 0, 1) := by decide +kernel
theorem dX6_things_3 : decode cX6_things 3 = .ok (.lconst 1, 1) := by decide +kernel
theorem dX6_things_4 : decode cX6_things 4 = .ok (.invokestatic 66, 3) := by decide +kernel
theorem dX6_things_7 : decode cX6_things 7 = .ok (.ifCond .ne 6, 3) := by decide +kernel
theorem dX6_things_10 : decode cX6_things 10 = .ok (.ldc 70, 2) := by decide +kernel
theorem dX6_things_12 : decode cX6_things 12 = .ok (.ireturn, 1) := by decide +kernel
theorem dX6_things_13 : decode cX6_things 13 = .ok (.aload_n 0, 1) := by decide +kernel
theorem dX6_things_14 : decode cX6_things 14 = .ok (.invokevirtual 170, 3) := by decide +kernel
theorem dX6_things_17 : decode cX6_things 17 = .ok (.iconst 0, 1) := by decide +kernel
theorem dX6_things_18 : decode cX6_things 18 = .ok (.istore_n 2, 1) := by decide +kernel
theorem dX6_things_19 : decode cX6_things 19 = .ok (.iconst 0, 1) := by decide +kernel
theorem dX6_things_20 : decode cX6_things 20 = .ok (.istore_n 3, 1) := by decide +kernel
theorem dX6_things_21 : decode cX6_things 21 = .ok (.iload_n 3, 1) := by decide +kernel
theorem dX6_things_22 : decode cX6_things 22 = .ok (.aload_n 0, 1) := by decide +kernel
theorem dX6_things_23 : decode cX6_things 23 = .ok (.getfield 173, 3) := by decide +kernel
theorem dX6_things_26 : decode cX6_things 26 = .ok (.if_icmp .ge 21, 3) := by decide +kernel
theorem dX6_things_29 : decode cX6_things 29 = .ok (.iload_n 2, 1) := by decide +kernel
theorem dX6_things_30 : decode cX6_things 30 = .ok (.aload_n 0, 1) := by decide +kernel
theorem dX6_things_31 : decode cX6_things 31 = .ok (.getfield 40, 3) := by decide +kernel
theorem dX6_things_34 : decode cX6_things 34 = .ok (.iload_n 3, 1) := by decide +kernel
theorem dX6_things_35 : decode cX6_things 35 = .ok (.iaload, 1) := by decide +kernel
theorem dX6_things_36 : decode cX6_things 36 = .ok (.invokestatic 197, 3) := by decide +kernel
theorem dX6_things_39 : decode cX6_things 39 = .ok (.ior, 1) := by decide +kernel
theorem dX6_things_40 : decode cX6_things 40 = .ok (.istore_n 2, 1) := by decide +kernel
theorem dX6_things_41 : decode cX6_things 41 = .ok (.iinc 3 1, 3) := by decide +kernel
theorem dX6_things_44 : decode cX6_things 44 = .ok (.goto (-23), 3) := by decide +kernel
theorem dX6_things_47 : decode cX6_things 47 = .ok (.iload_n 1, 1) := by decide +kernel
theorem dX6_things_48 : decode cX6_things 48 = .ok (.ifCond .ne 5, 3) := by decide +kernel
theorem dX6_things_51 : decode cX6_things 51 = .ok (.iload_n 2, 1) := by decide +kernel
theorem dX6_things_52 : decode cX6_things 52 = .ok (.ireturn, 1) := by decide +kernel
theorem dX6_things_53 : decode cX6_things 53 = .ok (.iconst 0, 1) := by decide +kernel
theorem dX6_things_54 : decode cX6_things 54 = .ok (.istore_n 3, 1) := by decide +kernel
theorem dX6_things_55 : decode cX6_things 55 = .ok (.aload_n 0, 1) := by decide +kernel
theorem dX6_things_56 : decode cX6_things 56 = .ok (.invokevirtual 300, 3) := by decide +kernel
theorem dX6_things_59 : decode cX6_things 59 = .ok (.istore 4, 2) := by decide +kernel
theorem dX6_things_61 : decode cX6_things 61 = .ok (.iconst 0, 1) := by decide +kernel
theorem dX6_things_62 : decode cX6_things 62 = .ok (.istore 5, 2) := by decide +kernel
theorem dX6_things_64 : decode cX6_things 64 = .ok (.iload 5, 2) := by decide +kernel
theorem dX6_things_66 : decode cX6_things 66 = .ok (.bipush 8, 2) := by decide +kernel
theorem dX6_things_68 : decode cX6_things 68 = .ok (.if_icmp .ge 45, 3) := by decide +kernel
theorem dX6_things_71 : decode cX6_things 71 = .ok (.iload 4, 2) := by decide +kernel
theorem dX6_things_73 : decode cX6_things 73 = .ok (.ifCond .eq 40, 3) := by decide +kernel
theorem dX6_things_76 : decode cX6_things 76 = .ok (.aload_n 0, 1) := by decide +kernel
theorem dX6_things_77 : decode cX6_things 77 = .ok (.iload 5, 2) := by decide +kernel
theorem dX6_things_79 : decode cX6_things 79 = .ok (.putfield 36, 3) := by decide +kernel
theorem dX6_things_82 : decode cX6_things 82 = .ok (.aload_n 0, 1) := by decide +kernel
theorem dX6_things_83 : decode cX6_things 83 = .ok (.invokevirtual 170, 3) := by decide +kernel
theorem dX6_things_86 : decode cX6_things 86 = .ok (.iload_n 3, 1) := by decide +kernel
theorem dX6_things_87 : decode cX6_things 87 = .ok (.aload_n 0, 1) := by decide +kernel
theorem dX6_things_88 : decode cX6_things 88 = .ok (.invokevirtual 300, 3) := by decide +kernel
theorem dX6_things_91 : decode cX6_things 91 = .ok (.ifCond .ne 7, 3) := by decide +kernel
theorem dX6_things_94 : decode cX6_things 94 = .ok (.iconst 1, 1) := by decide +kernel
theorem dX6_things_95 : decode cX6_things 95 = .ok (.goto 4, 3) := by decide +kernel
theorem dX6_things_98 : decode cX6_things 98 = .ok (.iconst 0, 1) := by decide +kernel
theorem dX6_things_99 : decode cX6_things 99 = .ok (.invokestatic 218, 3) := by decide +kernel
theorem dX6_things_102 : decode cX6_things 102 = .ok (.iload 5, 2) := by decide +kernel
theorem dX6_things_104 : decode cX6_things 104 = .ok (.ishl, 1) := by decide +kernel
theorem dX6_things_105 : decode cX6_things 105 = .ok (.ior, 1) := by decide +kernel
theorem dX6_things_106 : decode cX6_things 106 = .ok (.istore_n 3, 1) := by decide +kernel
theorem dX6_things_107 : decode cX6_things 107 = .ok (.iinc 5 1, 3) := by decide +kernel
theorem dX6_things_110 : decode cX6_things 110 = .ok (.goto (-46), 3) := by decide +kernel
theorem dX6_things_113 : decode cX6_things 113 = .ok (.aload_n 0, 1) := by decide +kernel
theorem dX6_things_114 : decode cX6_things 114 = .ok (.iconst (-1), 1) := by decide +kernel
theorem dX6_things_115 : decode cX6_things 115 = .ok (.putfield 36, 3) := by decide +kernel
theorem dX6_things_118 : decode cX6_things 118 = .ok (.iload_n 3, 1) := by decide +kernel
theorem dX6_things_119 : decode cX6_things 119 = .ok (.ireturn, 1) := by decide +kernel
theorem dX6_without_0 : decode cX6_without 0 = .ok (.iload_n 1, 1) := by decide +kernel
theorem dX6_without_1 : decode cX6_without 1 = .ok (.i2l, 1) := by decide +kernel
theorem dX6_without_2 : decode cX6_without 2 = .ok (.lconst 0, 1) := by decide +kernel
theorem dX6_without_3 : decode cX6_without 3 = .ok (.ldc2_w 161, 3) := by decide +kernel
theorem dX6_without_6 : decode cX6_without 6 = .ok (.invokestatic 66, 3) := by decide +kernel
theorem dX6_without_9 : decode cX6_without 9 = .ok (.ifCond .ne 6, 3) := by decide +kernel
theorem dX6_without_12 : decode cX6_without 12 = .ok (.ldc 156, 2) := by decide +kernel
theorem dX6_without_14 : decode cX6_without 14 = .ok (.ireturn, 1) := by decide +kernel
theorem dX6_without_15 : decode cX6_without 15 = .ok (.iload_n 2, 1) := by decide +kernel
theorem dX6_without_16 : decode cX6_without 16 = .ok (.i2l, 1) := by decide +kernel
theorem dX6_without_17 : decode cX6_without 17 = .ok (.lconst 0, 1) := by decide +kernel
theorem dX6_without_18 : decode cX6_without 18 = .ok (.ldc2_w 283, 3) := by decide +kernel
theorem dX6_without_21 : decode cX6_without 21 = .ok (.invokestatic 66, 3) := by decide +kernel
theorem dX6_without_24 : decode cX6_without 24 = .ok (.ifCond .ne 6, 3) := by decide +kernel
theorem dX6_without_27 : decode cX6_without 27 = .ok (.ldc 70, 2) := by decide +kernel
theorem dX6_without_29 : decode cX6_without 29 = .ok (.ireturn, 1) := by decide +kernel
theorem dX6_without_30 : decode cX6_without 30 = .ok (.aload_n 0, 1) := by decide +kernel
theorem dX6_without_31 : decode cX6_without 31 = .ok (.getfield 7, 3) := by decide +kernel
theorem dX6_without_34 : decode cX6_without 34 = .ok (.iconst 0, 1) := by decide +kernel
theorem dX6_without_35 : decode cX6_without 35 = .ok (.iaload, 1) := by decide +kernel
theorem dX6_without_36 : decode cX6_without 36 = .ok (.ifCond .ne 6, 3) := by decide +kernel
theorem dX6_without_39 : decode cX6_without 39 = .ok (.ldc 166, 2) := by decide +kernel
theorem dX6_without_41 : decode cX6_without 41 = .ok (.ireturn, 1) := by decide +kernel
theorem dX6_without_42 : decode cX6_without 42 = .ok (.aload_n 0, 1) := by decide +kernel
theorem dX6_without_43 : decode cX6_without 43 = .ok (.iload_n 1, 1) := by decide +kernel
theorem dX6_without_44 : decode cX6_without 44 = .ok (.putfield 36, 3) := by decide +kernel
theorem dX6_without_47 : decode cX6_without 47 = .ok (.aload_n 0, 1) := by decide +kernel
theorem dX6_without_48 : decode cX6_without 48 = .ok (.invokevirtual 170, 3) := by decide +kernel
theorem dX6_without_51 : decode cX6_without 51 = .ok (.aload_n 0, 1) := by decide +kernel
theorem dX6_without_52 : decode cX6_without 52 = .ok (.iload_n 2, 1) := by decide +kernel
theorem dX6_without_53 : decode cX6_without 53 = .ok (.invokevirtual 291, 3) := by decide +kernel
theorem dX6_without_56 : decode cX6_without 56 = .ok (.aload_n 0, 1) := by decide +kernel
theorem dX6_without_57 : decode cX6_without 57 = .ok (.aload_n 0, 1) := by decide +kernel
theorem dX6_without_58 : decode cX6_without 58 = .ok (.iconst 0, 1) := by decide +kernel
theorem dX6_without_59 : decode cX6_without 59 = .ok (.iconst 0, 1) := by decide +kernel
theorem dX6_without_60 : decode cX6_without 60 = .ok (.aload_n 0, 1) := by decide +kernel
theorem dX6_without_61 : decode cX6_without 61 = .ok (.getfield 7, 3) := by decide +kernel
theorem dX6_without_64 : decode cX6_without 64 = .ok (.iconst 1, 1) := by decide +kernel
theorem dX6_without_65 : decode cX6_without 65 = .ok (.iaload, 1) := by decide +kernel
theorem dX6_without_66 : decode cX6_without 66 = .ok (.invokevirtual 209, 3) := by decide +kernel
theorem dX6_without_69 : decode cX6_without 69 = .ok (.invokevirtual 277, 3) := by decide +kernel
theorem dX6_without_72 : decode cX6_without 72 = .ok (.istore_n 3, 1) := by decide +kernel
theorem dX6_without_73 : decode cX6_without 73 = .ok (.aload_n 0, 1) := by decide +kernel
theorem dX6_without_74 : decode cX6_without 74 = .ok (.iconst (-1), 1) := by decide +kernel
theorem dX6_without_75 : decode cX6_without 75 = .ok (.putfield 36, 3) := by decide +kernel
theorem dX6_without_78 : decode cX6_without 78 = .ok (.iload_n 3, 1) := by decide +kernel
theorem dX6_without_79 : decode cX6_without 79 = .ok (.ireturn, 1) := by decide +kernel
theorem dX6_log_0 : decode cX6_log 0 = .ok (.aload_n 0, 1) := by decide +kernel
theorem dX6_log_1 : decode cX6_log 1 = .ok (.iload_n 1, 1) := by decide +kernel
theorem dX6_log_2 : decode cX6_log 2 = .ok (.invokevirtual 152, 3) := by decide +kernel
theorem dX6_log_5 : decode cX6_log 5 = .ok (.ifCond .eq 6, 3) := by decide +kernel
theorem dX6_log_8 : decode cX6_log 8 = .ok (.ldc 156, 2) := by decide +kernel
theorem dX6_log_10 : decode cX6_log 10 = .ok (.ireturn, 1) := by decide +kernel
theorem dX6_log_11 : decode cX6_log 11 = .ok (.aload_n 0, 1) := by decide +kernel
theorem dX6_log_12 : decode cX6_log 12 = .ok (.getfield 149, 3) := by decide +kernel
theorem dX6_log_15 : decode cX6_log 15 = .ok (.bipush 60, 2) := by decide +kernel
theorem dX6_log_17 : decode cX6_log 17 = .ok (.if_icmp .ne 6, 3) := by decide +kernel
theorem dX6_log_20 : decode cX6_log 20 = .ok (.ldc 74, 2) := by decide +kernel
theorem dX6_log_22 : decode cX6_log 22 = .ok (.ireturn, 1) := by decide +kernel
theorem dX6_log_23 : decode cX6_log 23 = .ok (.aload_n 0, 1) := by decide +kernel
theorem dX6_log_24 : decode cX6_log 24 = .ok (.getfield 46, 3) := by decide +kernel
theorem dX6_log_27 : decode cX6_log 27 = .ok (.aload_n 0, 1) := by decide +kernel
theorem dX6_log_28 : decode cX6_log 28 = .ok (.getfield 149, 3) := by decide +kernel
theorem dX6_log_31 : decode cX6_log 31 = .ok (.iload_n 1, 1) := by decide +kernel
theorem dX6_log_32 : decode cX6_log 32 = .ok (.iastore, 1) := by decide +kernel
theorem dX6_log_33 : decode cX6_log 33 = .ok (.aload_n 0, 1) := by decide +kernel
theorem dX6_log_34 : decode cX6_log 34 = .ok (.dup, 1) := by decide +kernel
theorem dX6_log_35 : decode cX6_log 35 = .ok (.getfield 149, 3) := by decide +kernel
theorem dX6_log_38 : decode cX6_log 38 = .ok (.iconst 1, 1) := by decide +kernel
theorem dX6_log_39 : decode cX6_log 39 = .ok (.iadd, 1) := by decide +kernel
theorem dX6_log_40 : decode cX6_log 40 = .ok (.putfield 149, 3) := by decide +kernel
theorem dX6_log_43 : decode cX6_log 43 = .ok (.aload_n 0, 1) := by decide +kernel
theorem dX6_log_44 : decode cX6_log 44 = .ok (.getfield 149, 3) := by decide +kernel
theorem dX6_log_47 : decode cX6_log 47 = .ok (.ireturn, 1) := by decide +kernel
theorem dX6_clear_0 : decode cX6_clear 0 = .ok (.aload_n 0, 1) := by decide +kernel
theorem dX6_clear_1 : decode cX6_clear 1 = .ok (.getfield 149, 3) := by decide +kernel
theorem dX6_clear_4 : decode cX6_clear 4 = .ok (.istore_n 1, 1) := by decide +kernel
theorem dX6_clear_5 : decode cX6_clear 5 = .ok (.aload_n 0, 1) := by decide +kernel
theorem dX6_clear_6 : decode cX6_clear 6 = .ok (.iconst 0, 1) := by decide +kernel
theorem dX6_clear_7 : decode cX6_clear 7 = .ok (.putfield 149, 3) := by decide +kernel
theorem dX6_clear_10 : decode cX6_clear 10 = .ok (.iload_n 1, 1) := by decide +kernel
theorem dX6_clear_11 : decode cX6_clear 11 = .ok (.ireturn, 1) := by decide +kernel
theorem dX6_leadsTo_0 : decode cX6_leadsTo 0 = .ok (.iconst 0, 1) := by decide +kernel
theorem dX6_leadsTo_1 : decode cX6_leadsTo 1 = .ok (.istore_n 3, 1) := by decide +kernel
theorem dX6_leadsTo_2 : decode cX6_leadsTo 2 = .ok (.iconst 0, 1) := by decide +kernel
theorem dX6_leadsTo_3 : decode cX6_leadsTo 3 = .ok (.istore 4, 2) := by decide +kernel
theorem dX6_leadsTo_5 : decode cX6_leadsTo 5 = .ok (.iload 4, 2) := by decide +kernel
theorem dX6_leadsTo_7 : decode cX6_leadsTo 7 = .ok (.aload_n 0, 1) := by decide +kernel
theorem dX6_leadsTo_8 : decode cX6_leadsTo 8 = .ok (.iload_n 1, 1) := by decide +kernel
theorem dX6_leadsTo_9 : decode cX6_leadsTo 9 = .ok (.invokevirtual 212, 3) := by decide +kernel
theorem dX6_leadsTo_12 : decode cX6_leadsTo 12 = .ok (.if_icmp .ge 40, 3) := by decide +kernel
theorem dX6_leadsTo_15 : decode cX6_leadsTo 15 = .ok (.iload_n 3, 1) := by decide +kernel
theorem dX6_leadsTo_16 : decode cX6_leadsTo 16 = .ok (.ifCond .ne 24, 3) := by decide +kernel
theorem dX6_leadsTo_19 : decode cX6_leadsTo 19 = .ok (.aload_n 0, 1) := by decide +kernel
theorem dX6_leadsTo_20 : decode cX6_leadsTo 20 = .ok (.iload_n 1, 1) := by decide +kernel
theorem dX6_leadsTo_21 : decode cX6_leadsTo 21 = .ok (.iload 4, 2) := by decide +kernel
theorem dX6_leadsTo_23 : decode cX6_leadsTo 23 = .ok (.invokevirtual 215, 3) := by decide +kernel
theorem dX6_leadsTo_26 : decode cX6_leadsTo 26 = .ok (.ifCond .eq 18, 3) := by decide +kernel
theorem dX6_leadsTo_29 : decode cX6_leadsTo 29 = .ok (.aload_n 0, 1) := by decide +kernel
theorem dX6_leadsTo_30 : decode cX6_leadsTo 30 = .ok (.iload_n 1, 1) := by decide +kernel
theorem dX6_leadsTo_31 : decode cX6_leadsTo 31 = .ok (.iload 4, 2) := by decide +kernel
theorem dX6_leadsTo_33 : decode cX6_leadsTo 33 = .ok (.invokevirtual 203, 3) := by decide +kernel
theorem dX6_leadsTo_36 : decode cX6_leadsTo 36 = .ok (.iload_n 2, 1) := by decide +kernel
theorem dX6_leadsTo_37 : decode cX6_leadsTo 37 = .ok (.if_icmp .ne 7, 3) := by decide +kernel
theorem dX6_leadsTo_40 : decode cX6_leadsTo 40 = .ok (.iconst 1, 1) := by decide +kernel
theorem dX6_leadsTo_41 : decode cX6_leadsTo 41 = .ok (.goto 4, 3) := by decide +kernel
theorem dX6_leadsTo_44 : decode cX6_leadsTo 44 = .ok (.iconst 0, 1) := by decide +kernel
theorem dX6_leadsTo_45 : decode cX6_leadsTo 45 = .ok (.istore_n 3, 1) := by decide +kernel
theorem dX6_leadsTo_46 : decode cX6_leadsTo 46 = .ok (.iinc 4 1, 3) := by decide +kernel
theorem dX6_leadsTo_49 : decode cX6_leadsTo 49 = .ok (.goto (-44), 3) := by decide +kernel
theorem dX6_leadsTo_52 : decode cX6_leadsTo 52 = .ok (.iload_n 3, 1) := by decide +kernel
theorem dX6_leadsTo_53 : decode cX6_leadsTo 53 = .ok (.ireturn, 1) := by decide +kernel
theorem dX6_judge_0 : decode cX6_judge 0 = .ok (.bipush (-2), 2) := by decide +kernel
theorem dX6_judge_2 : decode cX6_judge 2 = .ok (.istore_n 1, 1) := by decide +kernel
theorem dX6_judge_3 : decode cX6_judge 3 = .ok (.iconst 0, 1) := by decide +kernel
theorem dX6_judge_4 : decode cX6_judge 4 = .ok (.istore_n 2, 1) := by decide +kernel
theorem dX6_judge_5 : decode cX6_judge 5 = .ok (.iload_n 2, 1) := by decide +kernel
theorem dX6_judge_6 : decode cX6_judge 6 = .ok (.aload_n 0, 1) := by decide +kernel
theorem dX6_judge_7 : decode cX6_judge 7 = .ok (.getfield 149, 3) := by decide +kernel
theorem dX6_judge_10 : decode cX6_judge 10 = .ok (.if_icmp .ge 94, 3) := by decide +kernel
theorem dX6_judge_13 : decode cX6_judge 13 = .ok (.aload_n 0, 1) := by decide +kernel
theorem dX6_judge_14 : decode cX6_judge 14 = .ok (.getfield 46, 3) := by decide +kernel
theorem dX6_judge_17 : decode cX6_judge 17 = .ok (.iload_n 2, 1) := by decide +kernel
theorem dX6_judge_18 : decode cX6_judge 18 = .ok (.iaload, 1) := by decide +kernel
theorem dX6_judge_19 : decode cX6_judge 19 = .ok (.istore_n 3, 1) := by decide +kernel
theorem dX6_judge_20 : decode cX6_judge 20 = .ok (.iload_n 2, 1) := by decide +kernel
theorem dX6_judge_21 : decode cX6_judge 21 = .ok (.ifCond .ne 19, 3) := by decide +kernel
theorem dX6_judge_24 : decode cX6_judge 24 = .ok (.iload_n 3, 1) := by decide +kernel
theorem dX6_judge_25 : decode cX6_judge 25 = .ok (.ifCond .ne 38, 3) := by decide +kernel
theorem dX6_judge_28 : decode cX6_judge 28 = .ok (.aload_n 0, 1) := by decide +kernel
theorem dX6_judge_29 : decode cX6_judge 29 = .ok (.getfield 7, 3) := by decide +kernel
theorem dX6_judge_32 : decode cX6_judge 32 = .ok (.iconst 0, 1) := by decide +kernel
theorem dX6_judge_33 : decode cX6_judge 33 = .ok (.iaload, 1) := by decide +kernel
theorem dX6_judge_34 : decode cX6_judge 34 = .ok (.ifCond .ne 31, 3) := by decide +kernel
theorem dX6_judge_37 : decode cX6_judge 37 = .ok (.goto 26, 3) := by decide +kernel
theorem dX6_judge_40 : decode cX6_judge 40 = .ok (.iload_n 1, 1) := by decide +kernel
theorem dX6_judge_41 : decode cX6_judge 41 = .ok (.bipush (-2), 2) := by decide +kernel
theorem dX6_judge_43 : decode cX6_judge 43 = .ok (.if_icmp .eq 20, 3) := by decide +kernel
theorem dX6_judge_46 : decode cX6_judge 46 = .ok (.aload_n 0, 1) := by decide +kernel
theorem dX6_judge_47 : decode cX6_judge 47 = .ok (.iload_n 1, 1) := by decide +kernel
theorem dX6_judge_48 : decode cX6_judge 48 = .ok (.invokevirtual 228, 3) := by decide +kernel
theorem dX6_judge_51 : decode cX6_judge 51 = .ok (.ifCond .ne 12, 3) := by decide +kernel
theorem dX6_judge_54 : decode cX6_judge 54 = .ok (.aload_n 0, 1) := by decide +kernel
theorem dX6_judge_55 : decode cX6_judge 55 = .ok (.iload_n 1, 1) := by decide +kernel
theorem dX6_judge_56 : decode cX6_judge 56 = .ok (.iload_n 3, 1) := by decide +kernel
theorem dX6_judge_57 : decode cX6_judge 57 = .ok (.invokevirtual 316, 3) := by decide +kernel
theorem dX6_judge_60 : decode cX6_judge 60 = .ok (.ifCond .ne 5, 3) := by decide +kernel
theorem dX6_judge_63 : decode cX6_judge 63 = .ok (.iload_n 2, 1) := by decide +kernel
theorem dX6_judge_64 : decode cX6_judge 64 = .ok (.ireturn, 1) := by decide +kernel
theorem dX6_judge_65 : decode cX6_judge 65 = .ok (.iload_n 2, 1) := by decide +kernel
theorem dX6_judge_66 : decode cX6_judge 66 = .ok (.ifCond .ne 18, 3) := by decide +kernel
theorem dX6_judge_69 : decode cX6_judge 69 = .ok (.aload_n 0, 1) := by decide +kernel
theorem dX6_judge_70 : decode cX6_judge 70 = .ok (.iconst 0, 1) := by decide +kernel
theorem dX6_judge_71 : decode cX6_judge 71 = .ok (.iconst 0, 1) := by decide +kernel
theorem dX6_judge_72 : decode cX6_judge 72 = .ok (.aload_n 0, 1) := by decide +kernel
theorem dX6_judge_73 : decode cX6_judge 73 = .ok (.getfield 7, 3) := by decide +kernel
theorem dX6_judge_76 : decode cX6_judge 76 = .ok (.iconst 1, 1) := by decide +kernel
theorem dX6_judge_77 : decode cX6_judge 77 = .ok (.iaload, 1) := by decide +kernel
theorem dX6_judge_78 : decode cX6_judge 78 = .ok (.invokevirtual 209, 3) := by decide +kernel
theorem dX6_judge_81 : decode cX6_judge 81 = .ok (.goto 16, 3) := by decide +kernel
theorem dX6_judge_84 : decode cX6_judge 84 = .ok (.aload_n 0, 1) := by decide +kernel
theorem dX6_judge_85 : decode cX6_judge 85 = .ok (.iload_n 3, 1) := by decide +kernel
theorem dX6_judge_86 : decode cX6_judge 86 = .ok (.iload_n 1, 1) := by decide +kernel
theorem dX6_judge_87 : decode cX6_judge 87 = .ok (.invokestatic 197, 3) := by decide +kernel
theorem dX6_judge_90 : decode cX6_judge 90 = .ok (.iload_n 1, 1) := by decide +kernel
theorem dX6_judge_91 : decode cX6_judge 91 = .ok (.invokestatic 206, 3) := by decide +kernel
theorem dX6_judge_94 : decode cX6_judge 94 = .ok (.invokevirtual 209, 3) := by decide +kernel
theorem dX6_judge_97 : decode cX6_judge 97 = .ok (.istore_n 1, 1) := by decide +kernel
theorem dX6_judge_98 : decode cX6_judge 98 = .ok (.iinc 2 1, 3) := by decide +kernel
theorem dX6_judge_101 : decode cX6_judge 101 = .ok (.goto (-96), 3) := by decide +kernel
theorem dX6_judge_104 : decode cX6_judge 104 = .ok (.iconst (-1), 1) := by decide +kernel
theorem dX6_judge_105 : decode cX6_judge 105 = .ok (.ireturn, 1) := by decide +kernel
theorem dX6_number_0 : decode cX6_number 0 = .ok (.aload_n 0, 1) := by decide +kernel
theorem dX6_number_1 : decode cX6_number 1 = .ok (.iload_n 1, 1) := by decide +kernel
theorem dX6_number_2 : decode cX6_number 2 = .ok (.invokevirtual 152, 3) := by decide +kernel
theorem dX6_number_5 : decode cX6_number 5 = .ok (.ifCond .eq 8, 3) := by decide +kernel
theorem dX6_number_8 : decode cX6_number 8 = .ok (.ldc 156, 2) := by decide +kernel
theorem dX6_number_10 : decode cX6_number 10 = .ok (.goto 13, 3) := by decide +kernel
theorem dX6_number_13 : decode cX6_number 13 = .ok (.aload_n 0, 1) := by decide +kernel
theorem dX6_number_14 : decode cX6_number 14 = .ok (.getfield 7, 3) := by decide +kernel
theorem dX6_number_17 : decode cX6_number 17 = .ok (.sipush 152, 3) := by decide +kernel
theorem dX6_number_20 : decode cX6_number 20 = .ok (.iload_n 1, 1) := by decide +kernel
theorem dX6_number_21 : decode cX6_number 21 = .ok (.iadd, 1) := by decide +kernel
theorem dX6_number_22 : decode cX6_number 22 = .ok (.iaload, 1) := by decide +kernel
theorem dX6_number_23 : decode cX6_number 23 = .ok (.ireturn, 1) := by decide +kernel
theorem dX6_leads_0 : decode cX6_leads 0 = .ok (.aload_n 0, 1) := by decide +kernel
theorem dX6_leads_1 : decode cX6_leads 1 = .ok (.getfield 7, 3) := by decide +kernel
theorem dX6_leads_4 : decode cX6_leads 4 = .ok (.bipush 8, 2) := by decide +kernel
theorem dX6_leads_6 : decode cX6_leads 6 = .ok (.iload_n 1, 1) := by decide +kernel
theorem dX6_leads_7 : decode cX6_leads 7 = .ok (.iadd, 1) := by decide +kernel
theorem dX6_leads_8 : decode cX6_leads 8 = .ok (.iaload, 1) := by decide +kernel
theorem dX6_leads_9 : decode cX6_leads 9 = .ok (.iconst 3, 1) := by decide +kernel
theorem dX6_leads_10 : decode cX6_leads 10 = .ok (.if_icmp .ne 34, 3) := by decide +kernel
theorem dX6_leads_13 : decode cX6_leads 13 = .ok (.aload_n 0, 1) := by decide +kernel
theorem dX6_leads_14 : decode cX6_leads 14 = .ok (.getfield 7, 3) := by decide +kernel
theorem dX6_leads_17 : decode cX6_leads 17 = .ok (.bipush 104, 2) := by decide +kernel
theorem dX6_leads_19 : decode cX6_leads 19 = .ok (.iload_n 1, 1) := by decide +kernel
theorem dX6_leads_20 : decode cX6_leads 20 = .ok (.iadd, 1) := by decide +kernel
theorem dX6_leads_21 : decode cX6_leads 21 = .ok (.iaload, 1) := by decide +kernel
theorem dX6_leads_22 : decode cX6_leads 22 = .ok (.iload_n 2, 1) := by decide +kernel
theorem dX6_leads_23 : decode cX6_leads 23 = .ok (.if_icmp .eq 17, 3) := by decide +kernel
theorem dX6_leads_26 : decode cX6_leads 26 = .ok (.aload_n 0, 1) := by decide +kernel
theorem dX6_leads_27 : decode cX6_leads 27 = .ok (.getfield 7, 3) := by decide +kernel
theorem dX6_leads_30 : decode cX6_leads 30 = .ok (.sipush 128, 3) := by decide +kernel
theorem dX6_leads_33 : decode cX6_leads 33 = .ok (.iload_n 1, 1) := by decide +kernel
theorem dX6_leads_34 : decode cX6_leads 34 = .ok (.iadd, 1) := by decide +kernel
theorem dX6_leads_35 : decode cX6_leads 35 = .ok (.iaload, 1) := by decide +kernel
theorem dX6_leads_36 : decode cX6_leads 36 = .ok (.iload_n 2, 1) := by decide +kernel
theorem dX6_leads_37 : decode cX6_leads 37 = .ok (.if_icmp .ne 7, 3) := by decide +kernel
theorem dX6_leads_40 : decode cX6_leads 40 = .ok (.iconst 1, 1) := by decide +kernel
theorem dX6_leads_41 : decode cX6_leads 41 = .ok (.goto 4, 3) := by decide +kernel
theorem dX6_leads_44 : decode cX6_leads 44 = .ok (.iconst 0, 1) := by decide +kernel
theorem dX6_leads_45 : decode cX6_leads 45 = .ok (.istore_n 3, 1) := by decide +kernel
theorem dX6_leads_46 : decode cX6_leads 46 = .ok (.iconst 0, 1) := by decide +kernel
theorem dX6_leads_47 : decode cX6_leads 47 = .ok (.istore 4, 2) := by decide +kernel
theorem dX6_leads_49 : decode cX6_leads 49 = .ok (.iload 4, 2) := by decide +kernel
theorem dX6_leads_51 : decode cX6_leads 51 = .ok (.aload_n 0, 1) := by decide +kernel
theorem dX6_leads_52 : decode cX6_leads 52 = .ok (.getfield 7, 3) := by decide +kernel
theorem dX6_leads_55 : decode cX6_leads 55 = .ok (.bipush 56, 2) := by decide +kernel
theorem dX6_leads_57 : decode cX6_leads 57 = .ok (.iload_n 1, 1) := by decide +kernel
theorem dX6_leads_58 : decode cX6_leads 58 = .ok (.iadd, 1) := by decide +kernel
theorem dX6_leads_59 : decode cX6_leads 59 = .ok (.iaload, 1) := by decide +kernel
theorem dX6_leads_60 : decode cX6_leads 60 = .ok (.if_icmp .ge 39, 3) := by decide +kernel
theorem dX6_leads_63 : decode cX6_leads 63 = .ok (.iload_n 3, 1) := by decide +kernel
theorem dX6_leads_64 : decode cX6_leads 64 = .ok (.ifCond .ne 23, 3) := by decide +kernel
theorem dX6_leads_67 : decode cX6_leads 67 = .ok (.aload_n 0, 1) := by decide +kernel
theorem dX6_leads_68 : decode cX6_leads 68 = .ok (.getfield 7, 3) := by decide +kernel
theorem dX6_leads_71 : decode cX6_leads 71 = .ok (.sipush 368, 3) := by decide +kernel
theorem dX6_leads_74 : decode cX6_leads 74 = .ok (.bipush 6, 2) := by decide +kernel
theorem dX6_leads_76 : decode cX6_leads 76 = .ok (.iload_n 1, 1) := by decide +kernel
theorem dX6_leads_77 : decode cX6_leads 77 = .ok (.imul, 1) := by decide +kernel
theorem dX6_leads_78 : decode cX6_leads 78 = .ok (.iadd, 1) := by decide +kernel
theorem dX6_leads_79 : decode cX6_leads 79 = .ok (.iload 4, 2) := by decide +kernel
theorem dX6_leads_81 : decode cX6_leads 81 = .ok (.iadd, 1) := by decide +kernel
theorem dX6_leads_82 : decode cX6_leads 82 = .ok (.iaload, 1) := by decide +kernel
theorem dX6_leads_83 : decode cX6_leads 83 = .ok (.iload_n 2, 1) := by decide +kernel
theorem dX6_leads_84 : decode cX6_leads 84 = .ok (.if_icmp .ne 7, 3) := by decide +kernel
theorem dX6_leads_87 : decode cX6_leads 87 = .ok (.iconst 1, 1) := by decide +kernel
theorem dX6_leads_88 : decode cX6_leads 88 = .ok (.goto 4, 3) := by decide +kernel
theorem dX6_leads_91 : decode cX6_leads 91 = .ok (.iconst 0, 1) := by decide +kernel
theorem dX6_leads_92 : decode cX6_leads 92 = .ok (.istore_n 3, 1) := by decide +kernel
theorem dX6_leads_93 : decode cX6_leads 93 = .ok (.iinc 4 1, 3) := by decide +kernel
theorem dX6_leads_96 : decode cX6_leads 96 = .ok (.goto (-47), 3) := by decide +kernel
theorem dX6_leads_99 : decode cX6_leads 99 = .ok (.iload_n 3, 1) := by decide +kernel
theorem dX6_leads_100 : decode cX6_leads 100 = .ok (.ireturn, 1) := by decide +kernel
theorem dX6_nearBy_0 : decode cX6_nearBy 0 = .ok (.iconst 0, 1) := by decide +kernel
theorem dX6_nearBy_1 : decode cX6_nearBy 1 = .ok (.istore_n 2, 1) := by decide +kernel
theorem dX6_nearBy_2 : decode cX6_nearBy 2 = .ok (.iconst 0, 1) := by decide +kernel
theorem dX6_nearBy_3 : decode cX6_nearBy 3 = .ok (.istore_n 3, 1) := by decide +kernel
theorem dX6_nearBy_4 : decode cX6_nearBy 4 = .ok (.iload_n 3, 1) := by decide +kernel
theorem dX6_nearBy_5 : decode cX6_nearBy 5 = .ok (.aload_n 0, 1) := by decide +kernel
theorem dX6_nearBy_6 : decode cX6_nearBy 6 = .ok (.getfield 7, 3) := by decide +kernel
theorem dX6_nearBy_9 : decode cX6_nearBy 9 = .ok (.iconst 0, 1) := by decide +kernel
theorem dX6_nearBy_10 : decode cX6_nearBy 10 = .ok (.iaload, 1) := by decide +kernel
theorem dX6_nearBy_11 : decode cX6_nearBy 11 = .ok (.if_icmp .ge 99, 3) := by decide +kernel
theorem dX6_nearBy_14 : decode cX6_nearBy 14 = .ok (.iload_n 3, 1) := by decide +kernel
theorem dX6_nearBy_15 : decode cX6_nearBy 15 = .ok (.iconst 1, 1) := by decide +kernel
theorem dX6_nearBy_16 : decode cX6_nearBy 16 = .ok (.iadd, 1) := by decide +kernel
theorem dX6_nearBy_17 : decode cX6_nearBy 17 = .ok (.istore 4, 2) := by decide +kernel
theorem dX6_nearBy_19 : decode cX6_nearBy 19 = .ok (.iload 4, 2) := by decide +kernel
theorem dX6_nearBy_21 : decode cX6_nearBy 21 = .ok (.aload_n 0, 1) := by decide +kernel
theorem dX6_nearBy_22 : decode cX6_nearBy 22 = .ok (.getfield 7, 3) := by decide +kernel
theorem dX6_nearBy_25 : decode cX6_nearBy 25 = .ok (.iconst 0, 1) := by decide +kernel
theorem dX6_nearBy_26 : decode cX6_nearBy 26 = .ok (.iaload, 1) := by decide +kernel
theorem dX6_nearBy_27 : decode cX6_nearBy 27 = .ok (.if_icmp .ge 77, 3) := by decide +kernel
theorem dX6_nearBy_30 : decode cX6_nearBy 30 = .ok (.aload_n 0, 1) := by decide +kernel
theorem dX6_nearBy_31 : decode cX6_nearBy 31 = .ok (.getfield 7, 3) := by decide +kernel
theorem dX6_nearBy_34 : decode cX6_nearBy 34 = .ok (.sipush 152, 3) := by decide +kernel
theorem dX6_nearBy_37 : decode cX6_nearBy 37 = .ok (.iload_n 3, 1) := by decide +kernel
theorem dX6_nearBy_38 : decode cX6_nearBy 38 = .ok (.iadd, 1) := by decide +kernel
theorem dX6_nearBy_39 : decode cX6_nearBy 39 = .ok (.iaload, 1) := by decide +kernel
theorem dX6_nearBy_40 : decode cX6_nearBy 40 = .ok (.aload_n 0, 1) := by decide +kernel
theorem dX6_nearBy_41 : decode cX6_nearBy 41 = .ok (.getfield 7, 3) := by decide +kernel
theorem dX6_nearBy_44 : decode cX6_nearBy 44 = .ok (.sipush 152, 3) := by decide +kernel
theorem dX6_nearBy_47 : decode cX6_nearBy 47 = .ok (.iload 4, 2) := by decide +kernel
theorem dX6_nearBy_49 : decode cX6_nearBy 49 = .ok (.iadd, 1) := by decide +kernel
theorem dX6_nearBy_50 : decode cX6_nearBy 50 = .ok (.iaload, 1) := by decide +kernel
theorem dX6_nearBy_51 : decode cX6_nearBy 51 = .ok (.isub, 1) := by decide +kernel
theorem dX6_nearBy_52 : decode cX6_nearBy 52 = .ok (.istore 5, 2) := by decide +kernel
theorem dX6_nearBy_54 : decode cX6_nearBy 54 = .ok (.iload_n 2, 1) := by decide +kernel
theorem dX6_nearBy_55 : decode cX6_nearBy 55 = .ok (.aload_n 0, 1) := by decide +kernel
theorem dX6_nearBy_56 : decode cX6_nearBy 56 = .ok (.iload_n 3, 1) := by decide +kernel
theorem dX6_nearBy_57 : decode cX6_nearBy 57 = .ok (.iload 4, 2) := by decide +kernel
theorem dX6_nearBy_59 : decode cX6_nearBy 59 = .ok (.invokevirtual 319, 3) := by decide +kernel
theorem dX6_nearBy_62 : decode cX6_nearBy 62 = .ok (.ifCond .ne 13, 3) := by decide +kernel
theorem dX6_nearBy_65 : decode cX6_nearBy 65 = .ok (.aload_n 0, 1) := by decide +kernel
theorem dX6_nearBy_66 : decode cX6_nearBy 66 = .ok (.iload 4, 2) := by decide +kernel
theorem dX6_nearBy_68 : decode cX6_nearBy 68 = .ok (.iload_n 3, 1) := by decide +kernel
theorem dX6_nearBy_69 : decode cX6_nearBy 69 = .ok (.invokevirtual 319, 3) := by decide +kernel
theorem dX6_nearBy_72 : decode cX6_nearBy 72 = .ok (.ifCond .eq 20, 3) := by decide +kernel
theorem dX6_nearBy_75 : decode cX6_nearBy 75 = .ok (.iload 5, 2) := by decide +kernel
theorem dX6_nearBy_77 : decode cX6_nearBy 77 = .ok (.iload_n 1, 1) := by decide +kernel
theorem dX6_nearBy_78 : decode cX6_nearBy 78 = .ok (.if_icmp .ge 14, 3) := by decide +kernel
theorem dX6_nearBy_81 : decode cX6_nearBy 81 = .ok (.iload 5, 2) := by decide +kernel
theorem dX6_nearBy_83 : decode cX6_nearBy 83 = .ok (.ineg, 1) := by decide +kernel
theorem dX6_nearBy_84 : decode cX6_nearBy 84 = .ok (.iload_n 1, 1) := by decide +kernel
theorem dX6_nearBy_85 : decode cX6_nearBy 85 = .ok (.if_icmp .ge 7, 3) := by decide +kernel
theorem dX6_nearBy_88 : decode cX6_nearBy 88 = .ok (.iconst 1, 1) := by decide +kernel
theorem dX6_nearBy_89 : decode cX6_nearBy 89 = .ok (.goto 4, 3) := by decide +kernel
theorem dX6_nearBy_92 : decode cX6_nearBy 92 = .ok (.iconst 0, 1) := by decide +kernel
theorem dX6_nearBy_93 : decode cX6_nearBy 93 = .ok (.invokestatic 218, 3) := by decide +kernel
theorem dX6_nearBy_96 : decode cX6_nearBy 96 = .ok (.iadd, 1) := by decide +kernel
theorem dX6_nearBy_97 : decode cX6_nearBy 97 = .ok (.istore_n 2, 1) := by decide +kernel
theorem dX6_nearBy_98 : decode cX6_nearBy 98 = .ok (.iinc 4 1, 3) := by decide +kernel
theorem dX6_nearBy_101 : decode cX6_nearBy 101 = .ok (.goto (-82), 3) := by decide +kernel
theorem dX6_nearBy_104 : decode cX6_nearBy 104 = .ok (.iinc 3 1, 3) := by decide +kernel
theorem dX6_nearBy_107 : decode cX6_nearBy 107 = .ok (.goto (-103), 3) := by decide +kernel
theorem dX6_nearBy_110 : decode cX6_nearBy 110 = .ok (.iload_n 2, 1) := by decide +kernel
theorem dX6_nearBy_111 : decode cX6_nearBy 111 = .ok (.ireturn, 1) := by decide +kernel
theorem dX6_near_0 : decode cX6_near 0 = .ok (.iload_n 1, 1) := by decide +kernel
theorem dX6_near_1 : decode cX6_near 1 = .ok (.i2l, 1) := by decide +kernel
theorem dX6_near_2 : decode cX6_near 2 = .ok (.lconst 1, 1) := by decide +kernel
theorem dX6_near_3 : decode cX6_near 3 = .ok (.ldc2_w 322, 3) := by decide +kernel
theorem dX6_near_6 : decode cX6_near 6 = .ok (.invokestatic 66, 3) := by decide +kernel
theorem dX6_near_9 : decode cX6_near 9 = .ok (.ifCond .eq 11, 3) := by decide +kernel
theorem dX6_near_12 : decode cX6_near 12 = .ok (.aload_n 0, 1) := by decide +kernel
theorem dX6_near_13 : decode cX6_near 13 = .ok (.iload_n 1, 1) := by decide +kernel
theorem dX6_near_14 : decode cX6_near 14 = .ok (.invokevirtual 324, 3) := by decide +kernel
theorem dX6_near_17 : decode cX6_near 17 = .ok (.goto 5, 3) := by decide +kernel
theorem dX6_near_20 : decode cX6_near 20 = .ok (.ldc 70, 2) := by decide +kernel
theorem dX6_near_22 : decode cX6_near 22 = .ok (.ireturn, 1) := by decide +kernel
theorem dX6_shuffle_0 : decode cX6_shuffle 0 = .ok (.iload_n 1, 1) := by decide +kernel
theorem dX6_shuffle_1 : decode cX6_shuffle 1 = .ok (.i2l, 1) := by decide +kernel
theorem dX6_shuffle_2 : decode cX6_shuffle 2 = .ok (.lconst 1, 1) := by decide +kernel
theorem dX6_shuffle_3 : decode cX6_shuffle 3 = .ok (.ldc2_w 322, 3) := by decide +kernel
theorem dX6_shuffle_6 : decode cX6_shuffle 6 = .ok (.invokestatic 66, 3) := by decide +kernel
theorem dX6_shuffle_9 : decode cX6_shuffle 9 = .ok (.ifCond .eq 15, 3) := by decide +kernel
theorem dX6_shuffle_12 : decode cX6_shuffle 12 = .ok (.iload_n 2, 1) := by decide +kernel
theorem dX6_shuffle_13 : decode cX6_shuffle 13 = .ok (.i2l, 1) := by decide +kernel
theorem dX6_shuffle_14 : decode cX6_shuffle 14 = .ok (.lconst 1, 1) := by decide +kernel
theorem dX6_shuffle_15 : decode cX6_shuffle 15 = .ok (.ldc2_w 327, 3) := by decide +kernel
theorem dX6_shuffle_18 : decode cX6_shuffle 18 = .ok (.invokestatic 66, 3) := by decide +kernel
theorem dX6_shuffle_21 : decode cX6_shuffle 21 = .ok (.ifCond .ne 6, 3) := by decide +kernel
theorem dX6_shuffle_24 : decode cX6_shuffle 24 = .ok (.ldc 70, 2) := by decide +kernel
theorem dX6_shuffle_26 : decode cX6_shuffle 26 = .ok (.ireturn, 1) := by decide +kernel
theorem dX6_shuffle_27 : decode cX6_shuffle 27 = .ok (.aload_n 0, 1) := by decide +kernel
theorem dX6_shuffle_28 : decode cX6_shuffle 28 = .ok (.iload_n 1, 1) := by decide +kernel
theorem dX6_shuffle_29 : decode cX6_shuffle 29 = .ok (.invokevirtual 324, 3) := by decide +kernel
theorem dX6_shuffle_32 : decode cX6_shuffle 32 = .ok (.istore_n 3, 1) := by decide +kernel
theorem dX6_shuffle_33 : decode cX6_shuffle 33 = .ok (.iconst 0, 1) := by decide +kernel
theorem dX6_shuffle_34 : decode cX6_shuffle 34 = .ok (.istore 4, 2) := by decide +kernel
theorem dX6_shuffle_36 : decode cX6_shuffle 36 = .ok (.iload 4, 2) := by decide +kernel
theorem dX6_shuffle_38 : decode cX6_shuffle 38 = .ok (.bipush 24, 2) := by decide +kernel
theorem dX6_shuffle_40 : decode cX6_shuffle 40 = .ok (.if_icmp .ge 27, 3) := by decide +kernel
theorem dX6_shuffle_43 : decode cX6_shuffle 43 = .ok (.aload_n 0, 1) := by decide +kernel
theorem dX6_shuffle_44 : decode cX6_shuffle 44 = .ok (.getfield 61, 3) := by decide +kernel
theorem dX6_shuffle_47 : decode cX6_shuffle 47 = .ok (.iload 4, 2) := by decide +kernel
theorem dX6_shuffle_49 : decode cX6_shuffle 49 = .ok (.aload_n 0, 1) := by decide +kernel
theorem dX6_shuffle_50 : decode cX6_shuffle 50 = .ok (.getfield 7, 3) := by decide +kernel
theorem dX6_shuffle_53 : decode cX6_shuffle 53 = .ok (.sipush 152, 3) := by decide +kernel
theorem dX6_shuffle_56 : decode cX6_shuffle 56 = .ok (.iload 4, 2) := by decide +kernel
theorem dX6_shuffle_58 : decode cX6_shuffle 58 = .ok (.iadd, 1) := by decide +kernel
theorem dX6_shuffle_59 : decode cX6_shuffle 59 = .ok (.iaload, 1) := by decide +kernel
theorem dX6_shuffle_60 : decode cX6_shuffle 60 = .ok (.iastore, 1) := by decide +kernel
theorem dX6_shuffle_61 : decode cX6_shuffle 61 = .ok (.iinc 4 1, 3) := by decide +kernel
theorem dX6_shuffle_64 : decode cX6_shuffle 64 = .ok (.goto (-28), 3) := by decide +kernel
theorem dX6_shuffle_67 : decode cX6_shuffle 67 = .ok (.iconst 0, 1) := by decide +kernel
theorem dX6_shuffle_68 : decode cX6_shuffle 68 = .ok (.istore 4, 2) := by decide +kernel
theorem dX6_shuffle_70 : decode cX6_shuffle 70 = .ok (.iload 4, 2) := by decide +kernel
theorem dX6_shuffle_72 : decode cX6_shuffle 72 = .ok (.iload_n 2, 1) := by decide +kernel
theorem dX6_shuffle_73 : decode cX6_shuffle 73 = .ok (.if_icmp .ge 149, 3) := by decide +kernel
theorem dX6_shuffle_76 : decode cX6_shuffle 76 = .ok (.aload_n 0, 1) := by decide +kernel
theorem dX6_shuffle_77 : decode cX6_shuffle 77 = .ok (.getfield 7, 3) := by decide +kernel
theorem dX6_shuffle_80 : decode cX6_shuffle 80 = .ok (.iconst 0, 1) := by decide +kernel
theorem dX6_shuffle_81 : decode cX6_shuffle 81 = .ok (.iaload, 1) := by decide +kernel
theorem dX6_shuffle_82 : decode cX6_shuffle 82 = .ok (.iconst 1, 1) := by decide +kernel
theorem dX6_shuffle_83 : decode cX6_shuffle 83 = .ok (.isub, 1) := by decide +kernel
theorem dX6_shuffle_84 : decode cX6_shuffle 84 = .ok (.istore 5, 2) := by decide +kernel
theorem dX6_shuffle_86 : decode cX6_shuffle 86 = .ok (.iload 5, 2) := by decide +kernel
theorem dX6_shuffle_88 : decode cX6_shuffle 88 = .ok (.iconst 1, 1) := by decide +kernel
theorem dX6_shuffle_89 : decode cX6_shuffle 89 = .ok (.if_icmp .le 67, 3) := by decide +kernel
theorem dX6_shuffle_92 : decode cX6_shuffle 92 = .ok (.iconst 1, 1) := by decide +kernel
theorem dX6_shuffle_93 : decode cX6_shuffle 93 = .ok (.aload_n 0, 1) := by decide +kernel
theorem dX6_shuffle_94 : decode cX6_shuffle 94 = .ok (.iload 5, 2) := by decide +kernel
theorem dX6_shuffle_96 : decode cX6_shuffle 96 = .ok (.invokevirtual 265, 3) := by decide +kernel
theorem dX6_shuffle_99 : decode cX6_shuffle 99 = .ok (.iadd, 1) := by decide +kernel
theorem dX6_shuffle_100 : decode cX6_shuffle 100 = .ok (.istore 6, 2) := by decide +kernel
theorem dX6_shuffle_102 : decode cX6_shuffle 102 = .ok (.aload_n 0, 1) := by decide +kernel
theorem dX6_shuffle_103 : decode cX6_shuffle 103 = .ok (.getfield 7, 3) := by decide +kernel
theorem dX6_shuffle_106 : decode cX6_shuffle 106 = .ok (.sipush 152, 3) := by decide +kernel
theorem dX6_shuffle_109 : decode cX6_shuffle 109 = .ok (.iload 5, 2) := by decide +kernel
theorem dX6_shuffle_111 : decode cX6_shuffle 111 = .ok (.iadd, 1) := by decide +kernel
theorem dX6_shuffle_112 : decode cX6_shuffle 112 = .ok (.iaload, 1) := by decide +kernel
theorem dX6_shuffle_113 : decode cX6_shuffle 113 = .ok (.istore 7, 2) := by decide +kernel
theorem dX6_shuffle_115 : decode cX6_shuffle 115 = .ok (.aload_n 0, 1) := by decide +kernel
theorem dX6_shuffle_116 : decode cX6_shuffle 116 = .ok (.getfield 7, 3) := by decide +kernel
theorem dX6_shuffle_119 : decode cX6_shuffle 119 = .ok (.sipush 152, 3) := by decide +kernel
theorem dX6_shuffle_122 : decode cX6_shuffle 122 = .ok (.iload 5, 2) := by decide +kernel
theorem dX6_shuffle_124 : decode cX6_shuffle 124 = .ok (.iadd, 1) := by decide +kernel
theorem dX6_shuffle_125 : decode cX6_shuffle 125 = .ok (.aload_n 0, 1) := by decide +kernel
theorem dX6_shuffle_126 : decode cX6_shuffle 126 = .ok (.getfield 7, 3) := by decide +kernel
theorem dX6_shuffle_129 : decode cX6_shuffle 129 = .ok (.sipush 152, 3) := by decide +kernel
theorem dX6_shuffle_132 : decode cX6_shuffle 132 = .ok (.iload 6, 2) := by decide +kernel
theorem dX6_shuffle_134 : decode cX6_shuffle 134 = .ok (.iadd, 1) := by decide +kernel
theorem dX6_shuffle_135 : decode cX6_shuffle 135 = .ok (.iaload, 1) := by decide +kernel
theorem dX6_shuffle_136 : decode cX6_shuffle 136 = .ok (.iastore, 1) := by decide +kernel
theorem dX6_shuffle_137 : decode cX6_shuffle 137 = .ok (.aload_n 0, 1) := by decide +kernel
theorem dX6_shuffle_138 : decode cX6_shuffle 138 = .ok (.getfield 7, 3) := by decide +kernel
theorem dX6_shuffle_141 : decode cX6_shuffle 141 = .ok (.sipush 152, 3) := by decide +kernel
theorem dX6_shuffle_144 : decode cX6_shuffle 144 = .ok (.iload 6, 2) := by decide +kernel
theorem dX6_shuffle_146 : decode cX6_shuffle 146 = .ok (.iadd, 1) := by decide +kernel
theorem dX6_shuffle_147 : decode cX6_shuffle 147 = .ok (.iload 7, 2) := by decide +kernel
theorem dX6_shuffle_149 : decode cX6_shuffle 149 = .ok (.iastore, 1) := by decide +kernel
theorem dX6_shuffle_150 : decode cX6_shuffle 150 = .ok (.iinc 5 (-1), 3) := by decide +kernel
theorem dX6_shuffle_153 : decode cX6_shuffle 153 = .ok (.goto (-67), 3) := by decide +kernel
theorem dX6_shuffle_156 : decode cX6_shuffle 156 = .ok (.aload_n 0, 1) := by decide +kernel
theorem dX6_shuffle_157 : decode cX6_shuffle 157 = .ok (.iload_n 1, 1) := by decide +kernel
theorem dX6_shuffle_158 : decode cX6_shuffle 158 = .ok (.invokevirtual 324, 3) := by decide +kernel
theorem dX6_shuffle_161 : decode cX6_shuffle 161 = .ok (.istore 5, 2) := by decide +kernel
theorem dX6_shuffle_163 : decode cX6_shuffle 163 = .ok (.iconst 0, 1) := by decide +kernel
theorem dX6_shuffle_164 : decode cX6_shuffle 164 = .ok (.istore 6, 2) := by decide +kernel
theorem dX6_shuffle_166 : decode cX6_shuffle 166 = .ok (.iload 6, 2) := by decide +kernel
theorem dX6_shuffle_168 : decode cX6_shuffle 168 = .ok (.bipush 24, 2) := by decide +kernel
theorem dX6_shuffle_170 : decode cX6_shuffle 170 = .ok (.if_icmp .ge 33, 3) := by decide +kernel
theorem dX6_shuffle_173 : decode cX6_shuffle 173 = .ok (.iload 5, 2) := by decide +kernel
theorem dX6_shuffle_175 : decode cX6_shuffle 175 = .ok (.iload_n 3, 1) := by decide +kernel
theorem dX6_shuffle_176 : decode cX6_shuffle 176 = .ok (.if_icmp .ge 27, 3) := by decide +kernel
theorem dX6_shuffle_179 : decode cX6_shuffle 179 = .ok (.aload_n 0, 1) := by decide +kernel
theorem dX6_shuffle_180 : decode cX6_shuffle 180 = .ok (.getfield 61, 3) := by decide +kernel
theorem dX6_shuffle_183 : decode cX6_shuffle 183 = .ok (.iload 6, 2) := by decide +kernel
theorem dX6_shuffle_185 : decode cX6_shuffle 185 = .ok (.aload_n 0, 1) := by decide +kernel
theorem dX6_shuffle_186 : decode cX6_shuffle 186 = .ok (.getfield 7, 3) := by decide +kernel
theorem dX6_shuffle_189 : decode cX6_shuffle 189 = .ok (.sipush 152, 3) := by decide +kernel
theorem dX6_shuffle_192 : decode cX6_shuffle 192 = .ok (.iload 6, 2) := by decide +kernel
theorem dX6_shuffle_194 : decode cX6_shuffle 194 = .ok (.iadd, 1) := by decide +kernel
theorem dX6_shuffle_195 : decode cX6_shuffle 195 = .ok (.iaload, 1) := by decide +kernel
theorem dX6_shuffle_196 : decode cX6_shuffle 196 = .ok (.iastore, 1) := by decide +kernel
theorem dX6_shuffle_197 : decode cX6_shuffle 197 = .ok (.iinc 6 1, 3) := by decide +kernel
theorem dX6_shuffle_200 : decode cX6_shuffle 200 = .ok (.goto (-34), 3) := by decide +kernel
theorem dX6_shuffle_203 : decode cX6_shuffle 203 = .ok (.iload 5, 2) := by decide +kernel
theorem dX6_shuffle_205 : decode cX6_shuffle 205 = .ok (.iload_n 3, 1) := by decide +kernel
theorem dX6_shuffle_206 : decode cX6_shuffle 206 = .ok (.if_icmp .ge 8, 3) := by decide +kernel
theorem dX6_shuffle_209 : decode cX6_shuffle 209 = .ok (.iload 5, 2) := by decide +kernel
theorem dX6_shuffle_211 : decode cX6_shuffle 211 = .ok (.goto 4, 3) := by decide +kernel
theorem dX6_shuffle_214 : decode cX6_shuffle 214 = .ok (.iload_n 3, 1) := by decide +kernel
theorem dX6_shuffle_215 : decode cX6_shuffle 215 = .ok (.istore_n 3, 1) := by decide +kernel
theorem dX6_shuffle_216 : decode cX6_shuffle 216 = .ok (.iinc 4 1, 3) := by decide +kernel
theorem dX6_shuffle_219 : decode cX6_shuffle 219 = .ok (.goto (-149), 3) := by decide +kernel
theorem dX6_shuffle_222 : decode cX6_shuffle 222 = .ok (.iconst 0, 1) := by decide +kernel
theorem dX6_shuffle_223 : decode cX6_shuffle 223 = .ok (.istore 4, 2) := by decide +kernel
theorem dX6_shuffle_225 : decode cX6_shuffle 225 = .ok (.iload 4, 2) := by decide +kernel
theorem dX6_shuffle_227 : decode cX6_shuffle 227 = .ok (.bipush 24, 2) := by decide +kernel
theorem dX6_shuffle_229 : decode cX6_shuffle 229 = .ok (.if_icmp .ge 27, 3) := by decide +kernel
theorem dX6_shuffle_232 : decode cX6_shuffle 232 = .ok (.aload_n 0, 1) := by decide +kernel
theorem dX6_shuffle_233 : decode cX6_shuffle 233 = .ok (.getfield 7, 3) := by decide +kernel
theorem dX6_shuffle_236 : decode cX6_shuffle 236 = .ok (.sipush 152, 3) := by decide +kernel
theorem dX6_shuffle_239 : decode cX6_shuffle 239 = .ok (.iload 4, 2) := by decide +kernel
theorem dX6_shuffle_241 : decode cX6_shuffle 241 = .ok (.iadd, 1) := by decide +kernel
theorem dX6_shuffle_242 : decode cX6_shuffle 242 = .ok (.aload_n 0, 1) := by decide +kernel
theorem dX6_shuffle_243 : decode cX6_shuffle 243 = .ok (.getfield 61, 3) := by decide +kernel
theorem dX6_shuffle_246 : decode cX6_shuffle 246 = .ok (.iload 4, 2) := by decide +kernel
theorem dX6_shuffle_248 : decode cX6_shuffle 248 = .ok (.iaload, 1) := by decide +kernel
theorem dX6_shuffle_249 : decode cX6_shuffle 249 = .ok (.iastore, 1) := by decide +kernel
theorem dX6_shuffle_250 : decode cX6_shuffle 250 = .ok (.iinc 4 1, 3) := by decide +kernel
theorem dX6_shuffle_253 : decode cX6_shuffle 253 = .ok (.goto (-28), 3) := by decide +kernel
theorem dX6_shuffle_256 : decode cX6_shuffle 256 = .ok (.iload_n 3, 1) := by decide +kernel
theorem dX6_shuffle_257 : decode cX6_shuffle 257 = .ok (.ireturn, 1) := by decide +kernel
theorem dX6_pageOf_0 : decode cX6_pageOf 0 = .ok (.iconst 0, 1) := by decide +kernel
theorem dX6_pageOf_1 : decode cX6_pageOf 1 = .ok (.istore_n 3, 1) := by decide +kernel
theorem dX6_pageOf_2 : decode cX6_pageOf 2 = .ok (.iconst 0, 1) := by decide +kernel
theorem dX6_pageOf_3 : decode cX6_pageOf 3 = .ok (.istore 4, 2) := by decide +kernel
theorem dX6_pageOf_5 : decode cX6_pageOf 5 = .ok (.iconst 1, 1) := by decide +kernel
theorem dX6_pageOf_6 : decode cX6_pageOf 6 = .ok (.istore 5, 2) := by decide +kernel
theorem dX6_pageOf_8 : decode cX6_pageOf 8 = .ok (.iload 5, 2) := by decide +kernel
theorem dX6_pageOf_10 : decode cX6_pageOf 10 = .ok (.aload_n 0, 1) := by decide +kernel
theorem dX6_pageOf_11 : decode cX6_pageOf 11 = .ok (.getfield 7, 3) := by decide +kernel
theorem dX6_pageOf_14 : decode cX6_pageOf 14 = .ok (.sipush 152, 3) := by decide +kernel
theorem dX6_pageOf_17 : decode cX6_pageOf 17 = .ok (.iload_n 1, 1) := by decide +kernel
theorem dX6_pageOf_18 : decode cX6_pageOf 18 = .ok (.iadd, 1) := by decide +kernel
theorem dX6_pageOf_19 : decode cX6_pageOf 19 = .ok (.iaload, 1) := by decide +kernel
theorem dX6_pageOf_20 : decode cX6_pageOf 20 = .ok (.if_icmp .gt 80, 3) := by decide +kernel
theorem dX6_pageOf_23 : decode cX6_pageOf 23 = .ok (.iconst 0, 1) := by decide +kernel
theorem dX6_pageOf_24 : decode cX6_pageOf 24 = .ok (.istore 6, 2) := by decide +kernel
theorem dX6_pageOf_26 : decode cX6_pageOf 26 = .ok (.iload 6, 2) := by decide +kernel
theorem dX6_pageOf_28 : decode cX6_pageOf 28 = .ok (.aload_n 0, 1) := by decide +kernel
theorem dX6_pageOf_29 : decode cX6_pageOf 29 = .ok (.getfield 7, 3) := by decide +kernel
theorem dX6_pageOf_32 : decode cX6_pageOf 32 = .ok (.iconst 0, 1) := by decide +kernel
theorem dX6_pageOf_33 : decode cX6_pageOf 33 = .ok (.iaload, 1) := by decide +kernel
theorem dX6_pageOf_34 : decode cX6_pageOf 34 = .ok (.if_icmp .ge 60, 3) := by decide +kernel
theorem dX6_pageOf_37 : decode cX6_pageOf 37 = .ok (.aload_n 0, 1) := by decide +kernel
theorem dX6_pageOf_38 : decode cX6_pageOf 38 = .ok (.getfield 7, 3) := by decide +kernel
theorem dX6_pageOf_41 : decode cX6_pageOf 41 = .ok (.sipush 152, 3) := by decide +kernel
theorem dX6_pageOf_44 : decode cX6_pageOf 44 = .ok (.iload 6, 2) := by decide +kernel
theorem dX6_pageOf_46 : decode cX6_pageOf 46 = .ok (.iadd, 1) := by decide +kernel
theorem dX6_pageOf_47 : decode cX6_pageOf 47 = .ok (.iaload, 1) := by decide +kernel
theorem dX6_pageOf_48 : decode cX6_pageOf 48 = .ok (.iload 5, 2) := by decide +kernel
theorem dX6_pageOf_50 : decode cX6_pageOf 50 = .ok (.if_icmp .ne 38, 3) := by decide +kernel
theorem dX6_pageOf_53 : decode cX6_pageOf 53 = .ok (.aload_n 0, 1) := by decide +kernel
theorem dX6_pageOf_54 : decode cX6_pageOf 54 = .ok (.iload 6, 2) := by decide +kernel
theorem dX6_pageOf_56 : decode cX6_pageOf 56 = .ok (.invokevirtual 157, 3) := by decide +kernel
theorem dX6_pageOf_59 : decode cX6_pageOf 59 = .ok (.istore 7, 2) := by decide +kernel
theorem dX6_pageOf_61 : decode cX6_pageOf 61 = .ok (.iload 4, 2) := by decide +kernel
theorem dX6_pageOf_63 : decode cX6_pageOf 63 = .ok (.ifCond .le 18, 3) := by decide +kernel
theorem dX6_pageOf_66 : decode cX6_pageOf 66 = .ok (.iload 4, 2) := by decide +kernel
theorem dX6_pageOf_68 : decode cX6_pageOf 68 = .ok (.iload 7, 2) := by decide +kernel
theorem dX6_pageOf_70 : decode cX6_pageOf 70 = .ok (.iadd, 1) := by decide +kernel
theorem dX6_pageOf_71 : decode cX6_pageOf 71 = .ok (.iload_n 2, 1) := by decide +kernel
theorem dX6_pageOf_72 : decode cX6_pageOf 72 = .ok (.if_icmp .le 9, 3) := by decide +kernel
theorem dX6_pageOf_75 : decode cX6_pageOf 75 = .ok (.iinc 3 1, 3) := by decide +kernel
theorem dX6_pageOf_78 : decode cX6_pageOf 78 = .ok (.iconst 0, 1) := by decide +kernel
theorem dX6_pageOf_79 : decode cX6_pageOf 79 = .ok (.istore 4, 2) := by decide +kernel
theorem dX6_pageOf_81 : decode cX6_pageOf 81 = .ok (.iload 4, 2) := by decide +kernel
theorem dX6_pageOf_83 : decode cX6_pageOf 83 = .ok (.iload 7, 2) := by decide +kernel
theorem dX6_pageOf_85 : decode cX6_pageOf 85 = .ok (.iadd, 1) := by decide +kernel
theorem dX6_pageOf_86 : decode cX6_pageOf 86 = .ok (.istore 4, 2) := by decide +kernel
theorem dX6_pageOf_88 : decode cX6_pageOf 88 = .ok (.iinc 6 1, 3) := by decide +kernel
theorem dX6_pageOf_91 : decode cX6_pageOf 91 = .ok (.goto (-65), 3) := by decide +kernel
theorem dX6_pageOf_94 : decode cX6_pageOf 94 = .ok (.iinc 5 1, 3) := by decide +kernel
theorem dX6_pageOf_97 : decode cX6_pageOf 97 = .ok (.goto (-89), 3) := by decide +kernel
theorem dX6_pageOf_100 : decode cX6_pageOf 100 = .ok (.iload_n 3, 1) := by decide +kernel
theorem dX6_pageOf_101 : decode cX6_pageOf 101 = .ok (.ireturn, 1) := by decide +kernel
theorem dX6_isPage_0 : decode cX6_isPage 0 = .ok (.iload_n 0, 1) := by decide +kernel
theorem dX6_isPage_1 : decode cX6_isPage 1 = .ok (.i2l, 1) := by decide +kernel
theorem dX6_isPage_2 : decode cX6_isPage 2 = .ok (.ldc2_w 329, 3) := by decide +kernel
theorem dX6_isPage_5 : decode cX6_isPage 5 = .ok (.ldc2_w 283, 3) := by decide +kernel
theorem dX6_isPage_8 : decode cX6_isPage 8 = .ok (.invokestatic 66, 3) := by decide +kernel
theorem dX6_isPage_11 : decode cX6_isPage 11 = .ok (.ireturn, 1) := by decide +kernel
theorem dX6_page_0 : decode cX6_page 0 = .ok (.aload_n 0, 1) := by decide +kernel
theorem dX6_page_1 : decode cX6_page 1 = .ok (.iload_n 1, 1) := by decide +kernel
theorem dX6_page_2 : decode cX6_page 2 = .ok (.invokevirtual 152, 3) := by decide +kernel
theorem dX6_page_5 : decode cX6_page 5 = .ok (.ifCond .eq 6, 3) := by decide +kernel
theorem dX6_page_8 : decode cX6_page 8 = .ok (.ldc 156, 2) := by decide +kernel
theorem dX6_page_10 : decode cX6_page 10 = .ok (.ireturn, 1) := by decide +kernel
theorem dX6_page_11 : decode cX6_page 11 = .ok (.iload_n 2, 1) := by decide +kernel
theorem dX6_page_12 : decode cX6_page 12 = .ok (.invokestatic 331, 3) := by decide +kernel
theorem dX6_page_15 : decode cX6_page 15 = .ok (.ifCond .eq 12, 3) := by decide +kernel
theorem dX6_page_18 : decode cX6_page 18 = .ok (.aload_n 0, 1) := by decide +kernel
theorem dX6_page_19 : decode cX6_page 19 = .ok (.iload_n 1, 1) := by decide +kernel
theorem dX6_page_20 : decode cX6_page 20 = .ok (.iload_n 2, 1) := by decide +kernel
theorem dX6_page_21 : decode cX6_page 21 = .ok (.invokevirtual 334, 3) := by decide +kernel
theorem dX6_page_24 : decode cX6_page 24 = .ok (.goto 5, 3) := by decide +kernel
theorem dX6_page_27 : decode cX6_page 27 = .ok (.ldc 70, 2) := by decide +kernel
theorem dX6_page_29 : decode cX6_page 29 = .ok (.ireturn, 1) := by decide +kernel
theorem dX6_flips_0 : decode cX6_flips 0 = .ok (.iload_n 1, 1) := by decide +kernel
theorem dX6_flips_1 : decode cX6_flips 1 = .ok (.invokestatic 331, 3) := by decide +kernel
theorem dX6_flips_4 : decode cX6_flips 4 = .ok (.ifCond .ne 6, 3) := by decide +kernel
theorem dX6_flips_7 : decode cX6_flips 7 = .ok (.ldc 70, 2) := by decide +kernel
theorem dX6_flips_9 : decode cX6_flips 9 = .ok (.ireturn, 1) := by decide +kernel
theorem dX6_flips_10 : decode cX6_flips 10 = .ok (.aload_n 0, 1) := by decide +kernel
theorem dX6_flips_11 : decode cX6_flips 11 = .ok (.getfield 7, 3) := by decide +kernel
theorem dX6_flips_14 : decode cX6_flips 14 = .ok (.iconst 3, 1) := by decide +kernel
theorem dX6_flips_15 : decode cX6_flips 15 = .ok (.iaload, 1) := by decide +kernel
theorem dX6_flips_16 : decode cX6_flips 16 = .ok (.ifCond .ge 6, 3) := by decide +kernel
theorem dX6_flips_19 : decode cX6_flips 19 = .ok (.ldc 166, 2) := by decide +kernel
theorem dX6_flips_21 : decode cX6_flips 21 = .ok (.ireturn, 1) := by decide +kernel
theorem dX6_flips_22 : decode cX6_flips 22 = .ok (.iconst 0, 1) := by decide +kernel
theorem dX6_flips_23 : decode cX6_flips 23 = .ok (.istore_n 2, 1) := by decide +kernel
theorem dX6_flips_24 : decode cX6_flips 24 = .ok (.iconst 0, 1) := by decide +kernel
theorem dX6_flips_25 : decode cX6_flips 25 = .ok (.istore_n 3, 1) := by decide +kernel
theorem dX6_flips_26 : decode cX6_flips 26 = .ok (.iload_n 3, 1) := by decide +kernel
theorem dX6_flips_27 : decode cX6_flips 27 = .ok (.aload_n 0, 1) := by decide +kernel
theorem dX6_flips_28 : decode cX6_flips 28 = .ok (.getfield 7, 3) := by decide +kernel
theorem dX6_flips_31 : decode cX6_flips 31 = .ok (.iconst 0, 1) := by decide +kernel
theorem dX6_flips_32 : decode cX6_flips 32 = .ok (.iaload, 1) := by decide +kernel
theorem dX6_flips_33 : decode cX6_flips 33 = .ok (.if_icmp .ge 91, 3) := by decide +kernel
theorem dX6_flips_36 : decode cX6_flips 36 = .ok (.iconst 0, 1) := by decide +kernel
theorem dX6_flips_37 : decode cX6_flips 37 = .ok (.istore 4, 2) := by decide +kernel
theorem dX6_flips_39 : decode cX6_flips 39 = .ok (.iload 4, 2) := by decide +kernel
theorem dX6_flips_41 : decode cX6_flips 41 = .ok (.aload_n 0, 1) := by decide +kernel
theorem dX6_flips_42 : decode cX6_flips 42 = .ok (.getfield 7, 3) := by decide +kernel
theorem dX6_flips_45 : decode cX6_flips 45 = .ok (.iconst 0, 1) := by decide +kernel
theorem dX6_flips_46 : decode cX6_flips 46 = .ok (.iaload, 1) := by decide +kernel
theorem dX6_flips_47 : decode cX6_flips 47 = .ok (.if_icmp .ge 71, 3) := by decide +kernel
theorem dX6_flips_50 : decode cX6_flips 50 = .ok (.aload_n 0, 1) := by decide +kernel
theorem dX6_flips_51 : decode cX6_flips 51 = .ok (.getfield 7, 3) := by decide +kernel
theorem dX6_flips_54 : decode cX6_flips 54 = .ok (.sipush 800, 3) := by decide +kernel
theorem dX6_flips_57 : decode cX6_flips 57 = .ok (.bipush 24, 2) := by decide +kernel
theorem dX6_flips_59 : decode cX6_flips 59 = .ok (.iload_n 3, 1) := by decide +kernel
theorem dX6_flips_60 : decode cX6_flips 60 = .ok (.imul, 1) := by decide +kernel
theorem dX6_flips_61 : decode cX6_flips 61 = .ok (.iadd, 1) := by decide +kernel
theorem dX6_flips_62 : decode cX6_flips 62 = .ok (.iload 4, 2) := by decide +kernel
theorem dX6_flips_64 : decode cX6_flips 64 = .ok (.iadd, 1) := by decide +kernel
theorem dX6_flips_65 : decode cX6_flips 65 = .ok (.iaload, 1) := by decide +kernel
theorem dX6_flips_66 : decode cX6_flips 66 = .ok (.istore 5, 2) := by decide +kernel
theorem dX6_flips_68 : decode cX6_flips 68 = .ok (.iload 5, 2) := by decide +kernel
theorem dX6_flips_70 : decode cX6_flips 70 = .ok (.ifCond .ne 7, 3) := by decide +kernel
theorem dX6_flips_73 : decode cX6_flips 73 = .ok (.iconst 0, 1) := by decide +kernel
theorem dX6_flips_74 : decode cX6_flips 74 = .ok (.goto 17, 3) := by decide +kernel
theorem dX6_flips_77 : decode cX6_flips 77 = .ok (.aload_n 0, 1) := by decide +kernel
theorem dX6_flips_78 : decode cX6_flips 78 = .ok (.iload_n 3, 1) := by decide +kernel
theorem dX6_flips_79 : decode cX6_flips 79 = .ok (.iload_n 1, 1) := by decide +kernel
theorem dX6_flips_80 : decode cX6_flips 80 = .ok (.invokevirtual 334, 3) := by decide +kernel
theorem dX6_flips_83 : decode cX6_flips 83 = .ok (.aload_n 0, 1) := by decide +kernel
theorem dX6_flips_84 : decode cX6_flips 84 = .ok (.iload 4, 2) := by decide +kernel
theorem dX6_flips_86 : decode cX6_flips 86 = .ok (.iload_n 1, 1) := by decide +kernel
theorem dX6_flips_87 : decode cX6_flips 87 = .ok (.invokevirtual 334, 3) := by decide +kernel
theorem dX6_flips_90 : decode cX6_flips 90 = .ok (.isub, 1) := by decide +kernel
theorem dX6_flips_91 : decode cX6_flips 91 = .ok (.istore 6, 2) := by decide +kernel
theorem dX6_flips_93 : decode cX6_flips 93 = .ok (.iload_n 2, 1) := by decide +kernel
theorem dX6_flips_94 : decode cX6_flips 94 = .ok (.iload 5, 2) := by decide +kernel
theorem dX6_flips_96 : decode cX6_flips 96 = .ok (.iload 6, 2) := by decide +kernel
theorem dX6_flips_98 : decode cX6_flips 98 = .ok (.ifCond .ge 9, 3) := by decide +kernel
theorem dX6_flips_101 : decode cX6_flips 101 = .ok (.iload 6, 2) := by decide +kernel
theorem dX6_flips_103 : decode cX6_flips 103 = .ok (.ineg, 1) := by decide +kernel
theorem dX6_flips_104 : decode cX6_flips 104 = .ok (.goto 5, 3) := by decide +kernel
theorem dX6_flips_107 : decode cX6_flips 107 = .ok (.iload 6, 2) := by decide +kernel
theorem dX6_flips_109 : decode cX6_flips 109 = .ok (.imul, 1) := by decide +kernel
theorem dX6_flips_110 : decode cX6_flips 110 = .ok (.iadd, 1) := by decide +kernel
theorem dX6_flips_111 : decode cX6_flips 111 = .ok (.istore_n 2, 1) := by decide +kernel
theorem dX6_flips_112 : decode cX6_flips 112 = .ok (.iinc 4 1, 3) := by decide +kernel
theorem dX6_flips_115 : decode cX6_flips 115 = .ok (.goto (-76), 3) := by decide +kernel
theorem dX6_flips_118 : decode cX6_flips 118 = .ok (.iinc 3 1, 3) := by decide +kernel
theorem dX6_flips_121 : decode cX6_flips 121 = .ok (.goto (-95), 3) := by decide +kernel
theorem dX6_flips_124 : decode cX6_flips 124 = .ok (.iload_n 2, 1) := by decide +kernel
theorem dX6_flips_125 : decode cX6_flips 125 = .ok (.ireturn, 1) := by decide +kernel
theorem dX6_seed_0 : decode cX6_seed 0 = .ok (.iload_n 1, 1) := by decide +kernel
theorem dX6_seed_1 : decode cX6_seed 1 = .ok (.ifCond .ge 6, 3) := by decide +kernel
theorem dX6_seed_4 : decode cX6_seed 4 = .ok (.ldc 70, 2) := by decide +kernel
theorem dX6_seed_6 : decode cX6_seed 6 = .ok (.ireturn, 1) := by decide +kernel
theorem dX6_seed_7 : decode cX6_seed 7 = .ok (.aload_n 0, 1) := by decide +kernel
theorem dX6_seed_8 : decode cX6_seed 8 = .ok (.getfield 7, 3) := by decide +kernel
theorem dX6_seed_11 : decode cX6_seed 11 = .ok (.iconst 2, 1) := by decide +kernel
theorem dX6_seed_12 : decode cX6_seed 12 = .ok (.iaload, 1) := by decide +kernel
theorem dX6_seed_13 : decode cX6_seed 13 = .ok (.istore_n 2, 1) := by decide +kernel
theorem dX6_seed_14 : decode cX6_seed 14 = .ok (.aload_n 0, 1) := by decide +kernel
theorem dX6_seed_15 : decode cX6_seed 15 = .ok (.getfield 7, 3) := by decide +kernel
theorem dX6_seed_18 : decode cX6_seed 18 = .ok (.iconst 2, 1) := by decide +kernel
theorem dX6_seed_19 : decode cX6_seed 19 = .ok (.iload_n 1, 1) := by decide +kernel
theorem dX6_seed_20 : decode cX6_seed 20 = .ok (.iastore, 1) := by decide +kernel
theorem dX6_seed_21 : decode cX6_seed 21 = .ok (.iload_n 2, 1) := by decide +kernel
theorem dX6_seed_22 : decode cX6_seed 22 = .ok (.ireturn, 1) := by decide +kernel
theorem dX6_nthOpen_0 : decode cX6_nthOpen 0 = .ok (.iload_n 2, 1) := by decide +kernel
theorem dX6_nthOpen_1 : decode cX6_nthOpen 1 = .ok (.istore_n 3, 1) := by decide +kernel
theorem dX6_nthOpen_2 : decode cX6_nthOpen 2 = .ok (.iconst 0, 1) := by decide +kernel
theorem dX6_nthOpen_3 : decode cX6_nthOpen 3 = .ok (.istore 4, 2) := by decide +kernel
theorem dX6_nthOpen_5 : decode cX6_nthOpen 5 = .ok (.iload 4, 2) := by decide +kernel
theorem dX6_nthOpen_7 : decode cX6_nthOpen 7 = .ok (.aload_n 0, 1) := by decide +kernel
theorem dX6_nthOpen_8 : decode cX6_nthOpen 8 = .ok (.iload_n 1, 1) := by decide +kernel
theorem dX6_nthOpen_9 : decode cX6_nthOpen 9 = .ok (.invokevirtual 212, 3) := by decide +kernel
theorem dX6_nthOpen_12 : decode cX6_nthOpen 12 = .ok (.if_icmp .ge 29, 3) := by decide +kernel
theorem dX6_nthOpen_15 : decode cX6_nthOpen 15 = .ok (.aload_n 0, 1) := by decide +kernel
theorem dX6_nthOpen_16 : decode cX6_nthOpen 16 = .ok (.iload_n 1, 1) := by decide +kernel
theorem dX6_nthOpen_17 : decode cX6_nthOpen 17 = .ok (.iload 4, 2) := by decide +kernel
theorem dX6_nthOpen_19 : decode cX6_nthOpen 19 = .ok (.invokevirtual 215, 3) := by decide +kernel
theorem dX6_nthOpen_22 : decode cX6_nthOpen 22 = .ok (.ifCond .eq 13, 3) := by decide +kernel
theorem dX6_nthOpen_25 : decode cX6_nthOpen 25 = .ok (.iload_n 3, 1) := by decide +kernel
theorem dX6_nthOpen_26 : decode cX6_nthOpen 26 = .ok (.ifCond .ne 6, 3) := by decide +kernel
theorem dX6_nthOpen_29 : decode cX6_nthOpen 29 = .ok (.iload 4, 2) := by decide +kernel
theorem dX6_nthOpen_31 : decode cX6_nthOpen 31 = .ok (.ireturn, 1) := by decide +kernel
theorem dX6_nthOpen_32 : decode cX6_nthOpen 32 = .ok (.iinc 3 (-1), 3) := by decide +kernel
theorem dX6_nthOpen_35 : decode cX6_nthOpen 35 = .ok (.iinc 4 1, 3) := by decide +kernel
theorem dX6_nthOpen_38 : decode cX6_nthOpen 38 = .ok (.goto (-33), 3) := by decide +kernel
theorem dX6_nthOpen_41 : decode cX6_nthOpen 41 = .ok (.iconst (-1), 1) := by decide +kernel
theorem dX6_nthOpen_42 : decode cX6_nthOpen 42 = .ok (.ireturn, 1) := by decide +kernel
theorem dX6_manyOpen_0 : decode cX6_manyOpen 0 = .ok (.iconst 0, 1) := by decide +kernel
theorem dX6_manyOpen_1 : decode cX6_manyOpen 1 = .ok (.istore_n 2, 1) := by decide +kernel
theorem dX6_manyOpen_2 : decode cX6_manyOpen 2 = .ok (.iconst 0, 1) := by decide +kernel
theorem dX6_manyOpen_3 : decode cX6_manyOpen 3 = .ok (.istore_n 3, 1) := by decide +kernel
theorem dX6_manyOpen_4 : decode cX6_manyOpen 4 = .ok (.iload_n 3, 1) := by decide +kernel
theorem dX6_manyOpen_5 : decode cX6_manyOpen 5 = .ok (.aload_n 0, 1) := by decide +kernel
theorem dX6_manyOpen_6 : decode cX6_manyOpen 6 = .ok (.iload_n 1, 1) := by decide +kernel
theorem dX6_manyOpen_7 : decode cX6_manyOpen 7 = .ok (.invokevirtual 212, 3) := by decide +kernel
theorem dX6_manyOpen_10 : decode cX6_manyOpen 10 = .ok (.if_icmp .ge 21, 3) := by decide +kernel
theorem dX6_manyOpen_13 : decode cX6_manyOpen 13 = .ok (.iload_n 2, 1) := by decide +kernel
theorem dX6_manyOpen_14 : decode cX6_manyOpen 14 = .ok (.aload_n 0, 1) := by decide +kernel
theorem dX6_manyOpen_15 : decode cX6_manyOpen 15 = .ok (.iload_n 1, 1) := by decide +kernel
theorem dX6_manyOpen_16 : decode cX6_manyOpen 16 = .ok (.iload_n 3, 1) := by decide +kernel
theorem dX6_manyOpen_17 : decode cX6_manyOpen 17 = .ok (.invokevirtual 215, 3) := by decide +kernel
theorem dX6_manyOpen_20 : decode cX6_manyOpen 20 = .ok (.invokestatic 218, 3) := by decide +kernel
theorem dX6_manyOpen_23 : decode cX6_manyOpen 23 = .ok (.iadd, 1) := by decide +kernel
theorem dX6_manyOpen_24 : decode cX6_manyOpen 24 = .ok (.istore_n 2, 1) := by decide +kernel
theorem dX6_manyOpen_25 : decode cX6_manyOpen 25 = .ok (.iinc 3 1, 3) := by decide +kernel
theorem dX6_manyOpen_28 : decode cX6_manyOpen 28 = .ok (.goto (-24), 3) := by decide +kernel
theorem dX6_manyOpen_31 : decode cX6_manyOpen 31 = .ok (.iload_n 2, 1) := by decide +kernel
theorem dX6_manyOpen_32 : decode cX6_manyOpen 32 = .ok (.ireturn, 1) := by decide +kernel
theorem dX6_readsBlindly_0 : decode cX6_readsBlindly 0 = .ok (.aload_n 0, 1) := by decide +kernel
theorem dX6_readsBlindly_1 : decode cX6_readsBlindly 1 = .ok (.iconst 0, 1) := by decide +kernel
theorem dX6_readsBlindly_2 : decode cX6_readsBlindly 2 = .ok (.iconst 0, 1) := by decide +kernel
theorem dX6_readsBlindly_3 : decode cX6_readsBlindly 3 = .ok (.aload_n 0, 1) := by decide +kernel
theorem dX6_readsBlindly_4 : decode cX6_readsBlindly 4 = .ok (.getfield 7, 3) := by decide +kernel
theorem dX6_readsBlindly_7 : decode cX6_readsBlindly 7 = .ok (.iconst 1, 1) := by decide +kernel
theorem dX6_readsBlindly_8 : decode cX6_readsBlindly 8 = .ok (.iaload, 1) := by decide +kernel
theorem dX6_readsBlindly_9 : decode cX6_readsBlindly 9 = .ok (.invokevirtual 209, 3) := by decide +kernel
theorem dX6_readsBlindly_12 : decode cX6_readsBlindly 12 = .ok (.istore_n 1, 1) := by decide +kernel
theorem dX6_readsBlindly_13 : decode cX6_readsBlindly 13 = .ok (.iconst 0, 1) := by decide +kernel
theorem dX6_readsBlindly_14 : decode cX6_readsBlindly 14 = .ok (.istore_n 2, 1) := by decide +kernel
theorem dX6_readsBlindly_15 : decode cX6_readsBlindly 15 = .ok (.iload_n 2, 1) := by decide +kernel
theorem dX6_readsBlindly_16 : decode cX6_readsBlindly 16 = .ok (.bipush 60, 2) := by decide +kernel
theorem dX6_readsBlindly_18 : decode cX6_readsBlindly 18 = .ok (.if_icmp .ge 93, 3) := by decide +kernel
theorem dX6_readsBlindly_21 : decode cX6_readsBlindly 21 = .ok (.iload_n 1, 1) := by decide +kernel
theorem dX6_readsBlindly_22 : decode cX6_readsBlindly 22 = .ok (.bipush (-2), 2) := by decide +kernel
theorem dX6_readsBlindly_24 : decode cX6_readsBlindly 24 = .ok (.if_icmp .eq 87, 3) := by decide +kernel
theorem dX6_readsBlindly_27 : decode cX6_readsBlindly 27 = .ok (.aload_n 0, 1) := by decide +kernel
theorem dX6_readsBlindly_28 : decode cX6_readsBlindly 28 = .ok (.iload_n 1, 1) := by decide +kernel
theorem dX6_readsBlindly_29 : decode cX6_readsBlindly 29 = .ok (.invokevirtual 228, 3) := by decide +kernel
theorem dX6_readsBlindly_32 : decode cX6_readsBlindly 32 = .ok (.ifCond .ne 79, 3) := by decide +kernel
theorem dX6_readsBlindly_35 : decode cX6_readsBlindly 35 = .ok (.iload_n 1, 1) := by decide +kernel
theorem dX6_readsBlindly_36 : decode cX6_readsBlindly 36 = .ok (.invokestatic 194, 3) := by decide +kernel
theorem dX6_readsBlindly_39 : decode cX6_readsBlindly 39 = .ok (.istore_n 3, 1) := by decide +kernel
theorem dX6_readsBlindly_40 : decode cX6_readsBlindly 40 = .ok (.aload_n 0, 1) := by decide +kernel
theorem dX6_readsBlindly_41 : decode cX6_readsBlindly 41 = .ok (.getfield 7, 3) := by decide +kernel
theorem dX6_readsBlindly_44 : decode cX6_readsBlindly 44 = .ok (.bipush 8, 2) := by decide +kernel
theorem dX6_readsBlindly_46 : decode cX6_readsBlindly 46 = .ok (.iload_n 3, 1) := by decide +kernel
theorem dX6_readsBlindly_47 : decode cX6_readsBlindly 47 = .ok (.iadd, 1) := by decide +kernel
theorem dX6_readsBlindly_48 : decode cX6_readsBlindly 48 = .ok (.iaload, 1) := by decide +kernel
theorem dX6_readsBlindly_49 : decode cX6_readsBlindly 49 = .ok (.iconst 3, 1) := by decide +kernel
theorem dX6_readsBlindly_50 : decode cX6_readsBlindly 50 = .ok (.if_icmp .ne 31, 3) := by decide +kernel
theorem dX6_readsBlindly_53 : decode cX6_readsBlindly 53 = .ok (.aload_n 0, 1) := by decide +kernel
theorem dX6_readsBlindly_54 : decode cX6_readsBlindly 54 = .ok (.bipush 6, 2) := by decide +kernel
theorem dX6_readsBlindly_56 : decode cX6_readsBlindly 56 = .ok (.invokevirtual 265, 3) := by decide +kernel
theorem dX6_readsBlindly_59 : decode cX6_readsBlindly 59 = .ok (.iconst 1, 1) := by decide +kernel
theorem dX6_readsBlindly_60 : decode cX6_readsBlindly 60 = .ok (.iadd, 1) := by decide +kernel
theorem dX6_readsBlindly_61 : decode cX6_readsBlindly 61 = .ok (.aload_n 0, 1) := by decide +kernel
theorem dX6_readsBlindly_62 : decode cX6_readsBlindly 62 = .ok (.getfield 7, 3) := by decide +kernel
theorem dX6_readsBlindly_65 : decode cX6_readsBlindly 65 = .ok (.bipush 80, 2) := by decide +kernel
theorem dX6_readsBlindly_67 : decode cX6_readsBlindly 67 = .ok (.iload_n 3, 1) := by decide +kernel
theorem dX6_readsBlindly_68 : decode cX6_readsBlindly 68 = .ok (.iadd, 1) := by decide +kernel
theorem dX6_readsBlindly_69 : decode cX6_readsBlindly 69 = .ok (.iaload, 1) := by decide +kernel
theorem dX6_readsBlindly_70 : decode cX6_readsBlindly 70 = .ok (.if_icmp .lt 7, 3) := by decide +kernel
theorem dX6_readsBlindly_73 : decode cX6_readsBlindly 73 = .ok (.iconst 0, 1) := by decide +kernel
theorem dX6_readsBlindly_74 : decode cX6_readsBlindly 74 = .ok (.goto 21, 3) := by decide +kernel
theorem dX6_readsBlindly_77 : decode cX6_readsBlindly 77 = .ok (.iconst 1, 1) := by decide +kernel
theorem dX6_readsBlindly_78 : decode cX6_readsBlindly 78 = .ok (.goto 17, 3) := by decide +kernel
theorem dX6_readsBlindly_81 : decode cX6_readsBlindly 81 = .ok (.aload_n 0, 1) := by decide +kernel
theorem dX6_readsBlindly_82 : decode cX6_readsBlindly 82 = .ok (.iload_n 1, 1) := by decide +kernel
theorem dX6_readsBlindly_83 : decode cX6_readsBlindly 83 = .ok (.aload_n 0, 1) := by decide +kernel
theorem dX6_readsBlindly_84 : decode cX6_readsBlindly 84 = .ok (.aload_n 0, 1) := by decide +kernel
theorem dX6_readsBlindly_85 : decode cX6_readsBlindly 85 = .ok (.iload_n 1, 1) := by decide +kernel
theorem dX6_readsBlindly_86 : decode cX6_readsBlindly 86 = .ok (.invokevirtual 337, 3) := by decide +kernel
theorem dX6_readsBlindly_89 : decode cX6_readsBlindly 89 = .ok (.invokevirtual 265, 3) := by decide +kernel
theorem dX6_readsBlindly_92 : decode cX6_readsBlindly 92 = .ok (.invokevirtual 340, 3) := by decide +kernel
theorem dX6_readsBlindly_95 : decode cX6_readsBlindly 95 = .ok (.istore 4, 2) := by decide +kernel
theorem dX6_readsBlindly_97 : decode cX6_readsBlindly 97 = .ok (.aload_n 0, 1) := by decide +kernel
theorem dX6_readsBlindly_98 : decode cX6_readsBlindly 98 = .ok (.iload_n 1, 1) := by decide +kernel
theorem dX6_readsBlindly_99 : decode cX6_readsBlindly 99 = .ok (.iload 4, 2) := by decide +kernel
theorem dX6_readsBlindly_101 : decode cX6_readsBlindly 101 = .ok (.invokevirtual 231, 3) := by decide +kernel
theorem dX6_readsBlindly_104 : decode cX6_readsBlindly 104 = .ok (.istore_n 1, 1) := by decide +kernel
theorem dX6_readsBlindly_105 : decode cX6_readsBlindly 105 = .ok (.iinc 2 1, 3) := by decide +kernel
theorem dX6_readsBlindly_108 : decode cX6_readsBlindly 108 = .ok (.goto (-93), 3) := by decide +kernel
theorem dX6_readsBlindly_111 : decode cX6_readsBlindly 111 = .ok (.iload_n 1, 1) := by decide +kernel
theorem dX6_readsBlindly_112 : decode cX6_readsBlindly 112 = .ok (.bipush (-2), 2) := by decide +kernel
theorem dX6_readsBlindly_114 : decode cX6_readsBlindly 114 = .ok (.if_icmp .eq 16, 3) := by decide +kernel
theorem dX6_readsBlindly_117 : decode cX6_readsBlindly 117 = .ok (.aload_n 0, 1) := by decide +kernel
theorem dX6_readsBlindly_118 : decode cX6_readsBlindly 118 = .ok (.iload_n 1, 1) := by decide +kernel
theorem dX6_readsBlindly_119 : decode cX6_readsBlindly 119 = .ok (.invokevirtual 228, 3) := by decide +kernel
theorem dX6_readsBlindly_122 : decode cX6_readsBlindly 122 = .ok (.iconst 1, 1) := by decide +kernel
theorem dX6_readsBlindly_123 : decode cX6_readsBlindly 123 = .ok (.if_icmp .ne 7, 3) := by decide +kernel
theorem dX6_readsBlindly_126 : decode cX6_readsBlindly 126 = .ok (.iconst 1, 1) := by decide +kernel
theorem dX6_readsBlindly_127 : decode cX6_readsBlindly 127 = .ok (.goto 4, 3) := by decide +kernel
theorem dX6_readsBlindly_130 : decode cX6_readsBlindly 130 = .ok (.iconst 0, 1) := by decide +kernel
theorem dX6_readsBlindly_131 : decode cX6_readsBlindly 131 = .ok (.ireturn, 1) := by decide +kernel
theorem dX6_blind_0 : decode cX6_blind 0 = .ok (.iload_n 1, 1) := by decide +kernel
theorem dX6_blind_1 : decode cX6_blind 1 = .ok (.i2l, 1) := by decide +kernel
theorem dX6_blind_2 : decode cX6_blind 2 = .ok (.lconst 1, 1) := by decide +kernel
theorem dX6_blind_3 : decode cX6_blind 3 = .ok (.ldc2_w 327, 3) := by decide +kernel
theorem dX6_blind_6 : decode cX6_blind 6 = .ok (.invokestatic 66, 3) := by decide +kernel
theorem dX6_blind_9 : decode cX6_blind 9 = .ok (.ifCond .ne 6, 3) := by decide +kernel
theorem dX6_blind_12 : decode cX6_blind 12 = .ok (.ldc 70, 2) := by decide +kernel
theorem dX6_blind_14 : decode cX6_blind 14 = .ok (.ireturn, 1) := by decide +kernel
theorem dX6_blind_15 : decode cX6_blind 15 = .ok (.aload_n 0, 1) := by decide +kernel
theorem dX6_blind_16 : decode cX6_blind 16 = .ok (.getfield 7, 3) := by decide +kernel
theorem dX6_blind_19 : decode cX6_blind 19 = .ok (.iconst 0, 1) := by decide +kernel
theorem dX6_blind_20 : decode cX6_blind 20 = .ok (.iaload, 1) := by decide +kernel
theorem dX6_blind_21 : decode cX6_blind 21 = .ok (.ifCond .ne 6, 3) := by decide +kernel
theorem dX6_blind_24 : decode cX6_blind 24 = .ok (.ldc 166, 2) := by decide +kernel
theorem dX6_blind_26 : decode cX6_blind 26 = .ok (.ireturn, 1) := by decide +kernel
theorem dX6_blind_27 : decode cX6_blind 27 = .ok (.iconst 0, 1) := by decide +kernel
theorem dX6_blind_28 : decode cX6_blind 28 = .ok (.istore_n 2, 1) := by decide +kernel
theorem dX6_blind_29 : decode cX6_blind 29 = .ok (.iconst 0, 1) := by decide +kernel
theorem dX6_blind_30 : decode cX6_blind 30 = .ok (.istore_n 3, 1) := by decide +kernel
theorem dX6_blind_31 : decode cX6_blind 31 = .ok (.iload_n 3, 1) := by decide +kernel
theorem dX6_blind_32 : decode cX6_blind 32 = .ok (.iload_n 1, 1) := by decide +kernel
theorem dX6_blind_33 : decode cX6_blind 33 = .ok (.if_icmp .ge 19, 3) := by decide +kernel
theorem dX6_blind_36 : decode cX6_blind 36 = .ok (.iload_n 2, 1) := by decide +kernel
theorem dX6_blind_37 : decode cX6_blind 37 = .ok (.aload_n 0, 1) := by decide +kernel
theorem dX6_blind_38 : decode cX6_blind 38 = .ok (.invokevirtual 343, 3) := by decide +kernel
theorem dX6_blind_41 : decode cX6_blind 41 = .ok (.invokestatic 218, 3) := by decide +kernel
theorem dX6_blind_44 : decode cX6_blind 44 = .ok (.iadd, 1) := by decide +kernel
theorem dX6_blind_45 : decode cX6_blind 45 = .ok (.istore_n 2, 1) := by decide +kernel
theorem dX6_blind_46 : decode cX6_blind 46 = .ok (.iinc 3 1, 3) := by decide +kernel
theorem dX6_blind_49 : decode cX6_blind 49 = .ok (.goto (-18), 3) := by decide +kernel
theorem dX6_blind_52 : decode cX6_blind 52 = .ok (.iload_n 2, 1) := by decide +kernel
theorem dX6_blind_53 : decode cX6_blind 53 = .ok (.ireturn, 1) := by decide +kernel
theorem dX6_copy_0 : decode cX6_copy 0 = .ok (.iconst 0, 1) := by decide +kernel
theorem dX6_copy_1 : decode cX6_copy 1 = .ok (.istore_n 3, 1) := by decide +kernel
theorem dX6_copy_2 : decode cX6_copy 2 = .ok (.iload_n 3, 1) := by decide +kernel
theorem dX6_copy_3 : decode cX6_copy 3 = .ok (.sipush 1376, 3) := by decide +kernel
theorem dX6_copy_6 : decode cX6_copy 6 = .ok (.if_icmp .ge 25, 3) := by decide +kernel
theorem dX6_copy_9 : decode cX6_copy 9 = .ok (.aload_n 0, 1) := by decide +kernel
theorem dX6_copy_10 : decode cX6_copy 10 = .ok (.getfield 7, 3) := by decide +kernel
theorem dX6_copy_13 : decode cX6_copy 13 = .ok (.iload_n 2, 1) := by decide +kernel
theorem dX6_copy_14 : decode cX6_copy 14 = .ok (.iload_n 3, 1) := by decide +kernel
theorem dX6_copy_15 : decode cX6_copy 15 = .ok (.iadd, 1) := by decide +kernel
theorem dX6_copy_16 : decode cX6_copy 16 = .ok (.aload_n 0, 1) := by decide +kernel
theorem dX6_copy_17 : decode cX6_copy 17 = .ok (.getfield 7, 3) := by decide +kernel
theorem dX6_copy_20 : decode cX6_copy 20 = .ok (.iload_n 1, 1) := by decide +kernel
theorem dX6_copy_21 : decode cX6_copy 21 = .ok (.iload_n 3, 1) := by decide +kernel
theorem dX6_copy_22 : decode cX6_copy 22 = .ok (.iadd, 1) := by decide +kernel
theorem dX6_copy_23 : decode cX6_copy 23 = .ok (.iaload, 1) := by decide +kernel
theorem dX6_copy_24 : decode cX6_copy 24 = .ok (.iastore, 1) := by decide +kernel
theorem dX6_copy_25 : decode cX6_copy 25 = .ok (.iinc 3 1, 3) := by decide +kernel
theorem dX6_copy_28 : decode cX6_copy 28 = .ok (.goto (-26), 3) := by decide +kernel
theorem dX6_copy_31 : decode cX6_copy 31 = .ok (.return_, 1) := by decide +kernel
theorem dX6_keep_0 : decode cX6_keep 0 = .ok (.iload_n 1, 1) := by decide +kernel
theorem dX6_keep_1 : decode cX6_keep 1 = .ok (.i2l, 1) := by decide +kernel
theorem dX6_keep_2 : decode cX6_keep 2 = .ok (.lconst 0, 1) := by decide +kernel
theorem dX6_keep_3 : decode cX6_keep 3 = .ok (.lconst 1, 1) := by decide +kernel
theorem dX6_keep_4 : decode cX6_keep 4 = .ok (.invokestatic 66, 3) := by decide +kernel
theorem dX6_keep_7 : decode cX6_keep 7 = .ok (.ifCond .ne 6, 3) := by decide +kernel
theorem dX6_keep_10 : decode cX6_keep 10 = .ok (.ldc 156, 2) := by decide +kernel
theorem dX6_keep_12 : decode cX6_keep 12 = .ok (.ireturn, 1) := by decide +kernel
theorem dX6_keep_13 : decode cX6_keep 13 = .ok (.aload_n 0, 1) := by decide +kernel
theorem dX6_keep_14 : decode cX6_keep 14 = .ok (.iconst 0, 1) := by decide +kernel
theorem dX6_keep_15 : decode cX6_keep 15 = .ok (.sipush 1376, 3) := by decide +kernel
theorem dX6_keep_18 : decode cX6_keep 18 = .ok (.iload_n 1, 1) := by decide +kernel
theorem dX6_keep_19 : decode cX6_keep 19 = .ok (.iconst 1, 1) := by decide +kernel
theorem dX6_keep_20 : decode cX6_keep 20 = .ok (.iadd, 1) := by decide +kernel
theorem dX6_keep_21 : decode cX6_keep 21 = .ok (.imul, 1) := by decide +kernel
theorem dX6_keep_22 : decode cX6_keep 22 = .ok (.invokevirtual 346, 3) := by decide +kernel
theorem dX6_keep_25 : decode cX6_keep 25 = .ok (.aload_n 0, 1) := by decide +kernel
theorem dX6_keep_26 : decode cX6_keep 26 = .ok (.getfield 13, 3) := by decide +kernel
theorem dX6_keep_29 : decode cX6_keep 29 = .ok (.iload_n 1, 1) := by decide +kernel
theorem dX6_keep_30 : decode cX6_keep 30 = .ok (.iconst 1, 1) := by decide +kernel
theorem dX6_keep_31 : decode cX6_keep 31 = .ok (.bastore, 1) := by decide +kernel
theorem dX6_keep_32 : decode cX6_keep 32 = .ok (.iconst 1, 1) := by decide +kernel
theorem dX6_keep_33 : decode cX6_keep 33 = .ok (.ireturn, 1) := by decide +kernel
theorem dX6_goBack_0 : decode cX6_goBack 0 = .ok (.iload_n 1, 1) := by decide +kernel
theorem dX6_goBack_1 : decode cX6_goBack 1 = .ok (.i2l, 1) := by decide +kernel
theorem dX6_goBack_2 : decode cX6_goBack 2 = .ok (.lconst 0, 1) := by decide +kernel
theorem dX6_goBack_3 : decode cX6_goBack 3 = .ok (.lconst 1, 1) := by decide +kernel
theorem dX6_goBack_4 : decode cX6_goBack 4 = .ok (.invokestatic 66, 3) := by decide +kernel
theorem dX6_goBack_7 : decode cX6_goBack 7 = .ok (.ifCond .ne 6, 3) := by decide +kernel
theorem dX6_goBack_10 : decode cX6_goBack 10 = .ok (.ldc 156, 2) := by decide +kernel
theorem dX6_goBack_12 : decode cX6_goBack 12 = .ok (.ireturn, 1) := by decide +kernel
theorem dX6_goBack_13 : decode cX6_goBack 13 = .ok (.aload_n 0, 1) := by decide +kernel
theorem dX6_goBack_14 : decode cX6_goBack 14 = .ok (.getfield 13, 3) := by decide +kernel
theorem dX6_goBack_17 : decode cX6_goBack 17 = .ok (.iload_n 1, 1) := by decide +kernel
theorem dX6_goBack_18 : decode cX6_goBack 18 = .ok (.baload, 1) := by decide +kernel
theorem dX6_goBack_19 : decode cX6_goBack 19 = .ok (.ifCond .ne 6, 3) := by decide +kernel
theorem dX6_goBack_22 : decode cX6_goBack 22 = .ok (.ldc 166, 2) := by decide +kernel
theorem dX6_goBack_24 : decode cX6_goBack 24 = .ok (.ireturn, 1) := by decide +kernel
theorem dX6_goBack_25 : decode cX6_goBack 25 = .ok (.aload_n 0, 1) := by decide +kernel
theorem dX6_goBack_26 : decode cX6_goBack 26 = .ok (.sipush 1376, 3) := by decide +kernel
theorem dX6_goBack_29 : decode cX6_goBack 29 = .ok (.iload_n 1, 1) := by decide +kernel
theorem dX6_goBack_30 : decode cX6_goBack 30 = .ok (.iconst 1, 1) := by decide +kernel
theorem dX6_goBack_31 : decode cX6_goBack 31 = .ok (.iadd, 1) := by decide +kernel
theorem dX6_goBack_32 : decode cX6_goBack 32 = .ok (.imul, 1) := by decide +kernel
theorem dX6_goBack_33 : decode cX6_goBack 33 = .ok (.iconst 0, 1) := by decide +kernel
theorem dX6_goBack_34 : decode cX6_goBack 34 = .ok (.invokevirtual 346, 3) := by decide +kernel
theorem dX6_goBack_37 : decode cX6_goBack 37 = .ok (.iconst 1, 1) := by decide +kernel
theorem dX6_goBack_38 : decode cX6_goBack 38 = .ok (.ireturn, 1) := by decide +kernel
end
section
/-! ===== the world as registers: data (fields, rows), shape (lengths, addresses), layout ===== -/
/-- data: field j of object o; element i of row a (row a = 32 * o + j is what field j of object o refers to) -/
abbrev Dt : Type := (Nat → Nat → Int32) × (Nat → Nat → Int32)
/-- shape: the length of a row, its address -/
abbrev Sh : Type := (Nat → Nat) × (Nat → Nat)
def gF (d : Dt) (o j : Nat) : Int32 := d.1 o j
def gA (d : Dt) (a i : Nat) : Int32 := d.2 a i
def sF (d : Dt) (o j : Nat) (v : Int32) : Dt := (fun o' j' => if o' = o ∧ j' = j then v else d.1 o' j', d.2)
def sA (d : Dt) (a i : Nat) (v : Int32) : Dt := (d.1, fun a' i' => if a' = a ∧ i' = i then v else d.2 a' i')
def sR (d : Dt) (a : Nat) (f : Nat → Int32) : Dt := (d.1, fun a' i' => if a' = a then f i' else d.2 a' i')
def gL (z : Sh) (a : Nat) : Nat := z.1 a
def gad (z : Sh) (a : Nat) : Nat := z.2 a
/-- an index as the machine takes it; whether it is inside -/
def ix (i : Int32) : Nat := i.toNatClampNeg
def inb (i : Int32) (n : Nat) : Bool := decide (0 ≤ i.toInt) && decide (i.toInt < (n : Int))
def isB (v : Int32) : Bool := decide (v = 0) || decide (v = 1)
/-- a step that wants something -/
def gd {α : Type} (b : Bool) (x : Option α) : Option α := match b with
  | true => x
  | false => none
theorem gd_some {α : Type} {b : Bool} {x : Option α} {r : α} (h : gd b x = some r) : b = true ∧ x = some r := by
  cases b with
  | true => exact ⟨rfl, h⟩
  | false => cases h
theorem bi_some {α β : Type} {x : Option α} {f : α → Option β} {r : β} (h : x.bind f = some r) : ∃ y, x = some y ∧ f y = some r := by
  cases x with
  | none => cases h
  | some y => exact ⟨y, rfl, h⟩
def bd {α β : Type} (e : α) (f : α → β) : β := f e
theorem bd_e {α β : Type} {e : α} {f : α → β} {r : β} (h : bd e f = r) : ∀ x, x = e → f x = r := fun x hx => by rw [hx]; exact h
theorem if_t {α : Type} {c : Prop} [Decidable c] {a b r : α} (h : (if c then a else b) = r) (hc : c) : a = r := by rw [if_pos hc] at h; exact h
theorem if_f {α : Type} {c : Prop} [Decidable c] {a b r : α} (h : (if c then a else b) = r) (hc : ¬ c) : b = r := by rw [if_neg hc] at h; exact h
theorem inb_vp {i : Int32} {n : Nat} (h : inb i n = true) : vp_in i n := by
  rw [vp_in_iff]
  simpa [inb] using h
theorem isB_or {v : Int32} (h : isB v = true) : v = 0 ∨ v = 1 := by simpa [isB] using h
/-- kinds of fields, by class (its number in vwCl): 0 a number, 1 a row, 2 an object, 3 the row of images -/
def fkind : Nat → List Nat
  | 0 => [0, 0, 1, 1, 1, 1, 1, 1, 1, 1, 1, 1, 1]
  | 1 => [2, 0, 0, 1, 0, 0, 0, 1, 1, 0]
  | 2 => [2, 1, 0, 0, 0, 0, 0, 1, 1]
  | 3 => [0, 0, 0, 2, 0, 0, 0, 1, 1, 1, 1, 1, 1, 0, 0, 1, 0]
  | 4 => [2, 2, 3, 1, 0, 2, 2, 0, 1, 1, 1]
  | 5 => [1, 1, 1, 1, 0, 0, 0, 0, 0, 0, 0, 0, 1, 1, 0, 0, 0, 0, 0, 1, 1, 0, 0, 0, 1, 1, 1, 1, 1, 1]
  | _ => []
/-- which object a field of kind 2 refers to -/
def ro (ci o j : Nat) : Nat := match ci with
  | 1 => 5
  | 2 => o + 4
  | 3 => 6
  | 4 => (match j with | 0 => 1 | 1 => 2 | 5 => 9 | _ => 10)
  | _ => 0
/-- its class -/
def oty (ci j : Nat) : Nat := match ci with
  | 4 => (match j with | 0 => 1 | 1 => 2 | 5 => 3 | _ => 3)
  | _ => 0
/-- the type of a row: 0 int, 1 byte, 2 boolean -/
def aty (ci j : Nat) : Nat := match ci with
  | 1 => (match j with | 3 => 1 | _ => 0)
  | 5 => (match j with | 1 => 2 | 27 => 2 | 28 => 2 | _ => 0)
  | _ => 0
/-- a layout: class numbers and slots; the classes of rows; the objects' addresses; what there is (tag 0 object, 1 row, 2 row of images; number; class); the first address that may be ours; the addresses of the texts and of their bytes -/
abbrev Yx : Type := va_G × (Nat → ClassId) × (Nat → Nat) × List (Nat × Nat × Nat) × Nat × (Nat → Nat) × (Nat → Nat)
def yD (Y : Yx) : va_G := Y.1
def yc (Y : Yx) : Nat → ClassId := Y.2.1
def yo (Y : Yx) : Nat → Nat := Y.2.2.1
def yI (Y : Yx) : List (Nat × Nat × Nat) := Y.2.2.2.1
def yB (Y : Yx) : Nat := Y.2.2.2.2.1
def yK (Y : Yx) : Nat → Nat := Y.2.2.2.2.2.1
def yV (Y : Yx) : Nat → Nat := Y.2.2.2.2.2.2
def ytys (Y : Yx) : List (ClassId × FieldType) := [(yc Y 0, .int), (yc Y 1, .byte), (yc Y 2, .boolean), (yc Y 3, .object "ChoiceBook$Situation")]
def fv (Y : Yx) (z : Sh) (d : Dt) (ci o j k : Nat) : Value := match k with
  | 0 => .int (gF d o j)
  | 1 => .ref (gad z (32 * o + j))
  | 2 => .ref (yo Y (ro ci o j))
  | _ => .ref (yo Y 31)
def fl (Y : Yx) (z : Sh) (d : Dt) (ci o : Nat) : List Value := (fkind ci).zipIdx.map (fun q => fv Y z d ci o q.2 q.1)
def ent (Y : Yx) (z : Sh) (d : Dt) (q : Nat × Nat × Nat) : Nat × va_E := match q.1 with
  | 0 => (yo Y q.2.1, .inr (q.2.2, fl Y z d q.2.2 q.2.1))
  | 1 => (gad z q.2.1, .inl (yc Y q.2.2, gL z q.2.1, .inl (gA d q.2.1)))
  | _ => (yo Y q.2.1, .inl (yc Y 3, 2, .inr (.inr (.inr (.inr (fun i => some (yo Y (3 + i))))))))
def wl (Y : Yx) (z : Sh) (d : Dt) : va_W := (yI Y).map (ent Y z d)
def ad1 (Y : Yx) (z : Sh) (q : Nat × Nat × Nat) : Nat := match q.1 with
  | 0 => yo Y q.2.1
  | 1 => gad z q.2.1
  | _ => yo Y q.2.1
def adr (Y : Yx) (z : Sh) : List Nat := (yI Y).map (ad1 Y z)
theorem ent_1 (Y : Yx) (z : Sh) (d : Dt) (q : Nat × Nat × Nat) : (ent Y z d q).1 = ad1 Y z q := by
  obtain ⟨t, i, c⟩ := q
  match t with
  | 0 => rfl
  | 1 => rfl
  | t + 2 => rfl
theorem wl_adr (Y : Yx) (z : Sh) (d : Dt) : (wl Y z d).map (fun q => q.1) = adr Y z := by
  simp only [wl, adr, List.map_map]
  exact List.map_congr_left (fun q _ => ent_1 Y z d q)
theorem wl_D {Y : Yx} {z : Sh} {A : Nat → Prop} (d : Dt) (hn : (adr Y z).Nodup) (hA : ∀ q ∈ adr Y z, A q) : va_D A (wl Y z d) := by
  have e := wl_adr Y z d
  refine ⟨fun i j p q hi hj hpq => ?_, fun k q hk => hA _ ?_⟩
  · have h1 : (adr Y z)[i]? = some p.1 := by rw [← e, List.getElem?_map, hi]; rfl
    have h2 : (adr Y z)[j]? = some q.1 := by rw [← e, List.getElem?_map, hj]; rfl
    exact (List.getElem?_inj (List.getElem?_eq_some_iff.mp h1).1 hn).mp (h1.trans (by rw [hpq, h2]))
  · rw [← e]
    exact List.mem_map.mpr ⟨q, List.mem_of_getElem? hk, rfl⟩
theorem wl_get {Y : Yx} (z : Sh) (d : Dt) {q : Nat × Nat × Nat} (h : q ∈ yI Y) : ∃ k : Nat, (yI Y)[k]? = some q ∧ (wl Y z d)[k]? = some (ent Y z d q) := by
  obtain ⟨k, hk⟩ := List.getElem?_of_mem h
  exact ⟨k, hk, by rw [wl, List.getElem?_map, hk]; rfl⟩
theorem map_set' {α β : Type} {l : List α} {f g : α → β} {p : Nat} {q0 : α} {e : β} (hn : l.Nodup) (hp : l[p]? = some q0) (he : g q0 = e) (ho : ∀ q ∈ l, q ≠ q0 → g q = f q) : (l.map f).set p e = l.map g := by
  apply List.ext_getElem?
  intro i
  have hl : p < l.length := (List.getElem?_eq_some_iff.mp hp).1
  by_cases hi : i = p
  · subst hi
    rw [List.getElem?_set_self (by rw [List.length_map]; exact hl), List.getElem?_map, hp]
    simp [he]
  · rw [List.getElem?_set_ne (Ne.symm hi), List.getElem?_map, List.getElem?_map]
    cases hq : l[i]? with
    | none => rfl
    | some q =>
      have hne : q ≠ q0 := fun h => hi ((List.getElem?_inj (List.getElem?_eq_some_iff.mp hq).1 hn).mp (hq.trans (by rw [h, hp])))
      simp [ho q (List.mem_of_getElem? hq) hne]
theorem fl_len (Y : Yx) (z : Sh) (d : Dt) (ci o : Nat) : (fl Y z d ci o).length = (fkind ci).length := by simp [fl]
theorem fl_get (Y : Yx) (z : Sh) (d : Dt) {ci j k : Nat} (o : Nat) (h : (fkind ci)[j]? = some k) : (fl Y z d ci o)[j]? = some (fv Y z d ci o j k) := by
  simp [fl, List.getElem?_map, List.getElem?_zipIdx, h]
theorem fv_sF {Y : Yx} {z : Sh} {d : Dt} {ci o j v o' j' k : Nat} {x : Int32} (h : ¬ (o' = o ∧ j' = j)) : fv Y z (sF d o j x) ci o' j' k = fv Y z d ci o' j' k := by
  match k with
  | 0 => simp [fv, gF, sF, h]
  | 1 => rfl
  | 2 => rfl
  | k + 3 => rfl
theorem fl_sF {Y : Yx} {z : Sh} {d : Dt} {ci o j : Nat} {x : Int32} (h : (fkind ci)[j]? = some 0) : (fl Y z d ci o).set j (.int x) = fl Y z (sF d o j x) ci o := by
  apply List.ext_getElem?
  intro i
  have hl : j < (fkind ci).length := (List.getElem?_eq_some_iff.mp h).1
  by_cases hi : i = j
  · subst hi
    rw [List.getElem?_set_self (by rw [fl_len]; exact hl), fl_get Y z _ o h]
    simp [fv, gF, sF]
  · rw [List.getElem?_set_ne (Ne.symm hi)]
    cases hk : (fkind ci)[i]? with
    | none => simp [fl, List.getElem?_zipIdx, hk]
    | some k =>
      rw [fl_get Y z _ o hk, fl_get Y z _ o hk, fv_sF (v := 0)]
      intro hc
      exact hi hc.2
theorem fl_sF' {Y : Yx} {z : Sh} {d : Dt} {ci o o' j : Nat} {x : Int32} (h : o' ≠ o) : fl Y z (sF d o j x) ci o' = fl Y z d ci o' := by
  apply List.ext_getElem?
  intro i
  cases hk : (fkind ci)[i]? with
  | none => simp [fl, List.getElem?_zipIdx, hk]
  | some k =>
    rw [fl_get Y z _ o' hk, fl_get Y z _ o' hk, fv_sF (v := 0)]
    intro hc
    exact h hc.1
/-- a layout that is whole: what a field refers to is in it; no number twice -/
def LAY (Y : Yx) : Prop := (yI Y).Nodup ∧ (∀ q ∈ yI Y, ∀ q' ∈ yI Y, q.1 = q'.1 → q.2.1 = q'.2.1 → q = q') ∧ (∀ q ∈ yI Y, q.1 = 0 → ∀ j, j < 32 → ((fkind q.2.2)[j]? = some 1 → (1, 32 * q.2.1 + j, aty q.2.2 j) ∈ yI Y) ∧ ((fkind q.2.2)[j]? = some 2 → (0, ro q.2.2 q.2.1 j, oty q.2.2 j) ∈ yI Y) ∧ ((fkind q.2.2)[j]? = some 3 → (2, 31, 3) ∈ yI Y)) ∧ ∀ q ∈ yI Y, q.1 < 3
theorem fk_lt {ci j k : Nat} (h : (fkind ci)[j]? = some k) : j < 32 := by
  have hl := (List.getElem?_eq_some_iff.mp h).1
  have h2 : (fkind ci).length ≤ 30 := by
    match ci with
    | 0 => decide
    | 1 => decide
    | 2 => decide
    | 3 => decide
    | 4 => decide
    | 5 => decide
    | ci + 6 => simp [fkind]
  omega
theorem LAY.row {Y : Yx} (h : LAY Y) {o ci j : Nat} (ho : (0, o, ci) ∈ yI Y) (hk : (fkind ci)[j]? = some 1) : (1, 32 * o + j, aty ci j) ∈ yI Y := (h.2.2.1 _ ho rfl j (fk_lt hk)).1 hk
theorem LAY.obj {Y : Yx} (h : LAY Y) {o ci j : Nat} (ho : (0, o, ci) ∈ yI Y) (hk : (fkind ci)[j]? = some 2) : (0, ro ci o j, oty ci j) ∈ yI Y := (h.2.2.1 _ ho rfl j (fk_lt hk)).2.1 hk
theorem LAY.ims {Y : Yx} (h : LAY Y) {o ci j : Nat} (ho : (0, o, ci) ∈ yI Y) (hk : (fkind ci)[j]? = some 3) : (2, 31, 3) ∈ yI Y := (h.2.2.1 _ ho rfl j (fk_lt hk)).2.2 hk
theorem ent_sF {Y : Yx} {z : Sh} {d : Dt} {o j : Nat} {x : Int32} {q : Nat × Nat × Nat} (h : ¬ (q.1 = 0 ∧ q.2.1 = o)) : ent Y z (sF d o j x) q = ent Y z d q := by
  obtain ⟨t, i, c⟩ := q
  match t with
  | 0 =>
    have : i ≠ o := fun e => h ⟨rfl, e⟩
    simp only [ent, fl_sF' this]
  | 1 => rfl
  | t + 2 => rfl
theorem wl_sF {Y : Yx} {z : Sh} {d : Dt} {o ci j p : Nat} {x : Int32} (hL : LAY Y) (hp : (yI Y)[p]? = some (0, o, ci)) (hk : (fkind ci)[j]? = some 0) : (wl Y z d).set p (yo Y o, .inr (ci, (fl Y z d ci o).set j (.int x))) = wl Y z (sF d o j x) := by
  refine map_set' hL.1 hp ?_ (fun q hq hne => ent_sF ?_)
  · show (yo Y o, _) = _
    rw [fl_sF hk]
  · intro hc
    exact hne (hL.2.1 q hq (0, o, ci) (List.mem_of_getElem? hp) hc.1 hc.2)
theorem gA_sA {d : Dt} {a i : Nat} {x : Int32} : upd (gA d a) i x = gA (sA d a i x) a := by
  funext j
  simp [upd, gA, sA]
theorem gA_sA' {d : Dt} {a b i : Nat} {x : Int32} (h : b ≠ a) : gA (sA d a i x) b = gA d b := by
  funext j
  simp [gA, sA, h]
theorem gA_sR {d : Dt} {a : Nat} {f : Nat → Int32} : gA (sR d a f) a = f := by
  funext j
  simp [gA, sR]
theorem gA_sR' {d : Dt} {a b : Nat} {f : Nat → Int32} (h : b ≠ a) : gA (sR d a f) b = gA d b := by
  funext j
  simp [gA, sR, h]
theorem ent_A {Y : Yx} {z : Sh} {d d2 : Dt} {a : Nat} {q : Nat × Nat × Nat} (hF : d2.1 = d.1) (hA : ∀ b, b ≠ a → gA d2 b = gA d b) (h : ¬ (q.1 = 1 ∧ q.2.1 = a)) : ent Y z d2 q = ent Y z d q := by
  obtain ⟨t, i, c⟩ := q
  match t with
  | 0 =>
    have e : fl Y z d2 c i = fl Y z d c i := by
      simp only [fl]
      refine List.map_congr_left (fun q _ => ?_)
      obtain ⟨k, j⟩ := q
      match k with
      | 0 => simp [fv, gF, hF]
      | 1 => rfl
      | 2 => rfl
      | k + 3 => rfl
    simp only [ent, e]
  | 1 =>
    have : i ≠ a := fun e => h ⟨rfl, e⟩
    simp only [ent, hA i this]
  | t + 2 => rfl
theorem wl_A {Y : Yx} {z : Sh} {d d2 : Dt} {a t p : Nat} (hL : LAY Y) (hp : (yI Y)[p]? = some (1, a, t)) (hF : d2.1 = d.1) (hA : ∀ b, b ≠ a → gA d2 b = gA d b) : (wl Y z d).set p (gad z a, .inl (yc Y t, gL z a, .inl (gA d2 a))) = wl Y z d2 := by
  refine map_set' hL.1 hp rfl (fun q hq hne => ent_A hF hA ?_)
  intro hc
  exact hne (hL.2.1 q hq (1, a, t) (List.mem_of_getElem? hp) hc.1 hc.2)
end
section
/-! ===== the judgement V: the machine at a place of a method, over a world of registers, comes to its end ===== -/
abbrev Kx : Type := Program × Launch × Env × Room × State × MethodId × Array Value × List Frame × Method × Code × (Nat → Prop) × (State → Prop)
abbrev kp (K : Kx) : Program := K.1
abbrev kl (K : Kx) : Launch := K.2.1
abbrev ke (K : Kx) : Env := K.2.2.1
abbrev kR (K : Kx) : Room := K.2.2.2.1
abbrev ks (K : Kx) : State := K.2.2.2.2.1
abbrev km (K : Kx) : MethodId := K.2.2.2.2.2.1
abbrev ka (K : Kx) : Array Value := K.2.2.2.2.2.2.1
abbrev kb (K : Kx) : List Frame := K.2.2.2.2.2.2.2.1
abbrev kme (K : Kx) : Method := K.2.2.2.2.2.2.2.2.1
abbrev kc (K : Kx) : Code := K.2.2.2.2.2.2.2.2.2.1
abbrev kA (K : Kx) : Nat → Prop := K.2.2.2.2.2.2.2.2.2.2.1
abbrev kQ (K : Kx) : State → Prop := K.2.2.2.2.2.2.2.2.2.2.2
def sidx : List (Nat × String) := [(56, "health"), (65, "part"), (107, "take"), (113, "drop"), (115, "hurt"), (117, "heal"), (119, "win"), (124, "die"), (126, "roll"), (135, "go"), (137, "with"), (143, "without")]
def slen : List Nat := sidx.map (fun q => q.2.length)
def sbyt : List (List Int32) := [[104, 101, 97, 108, 116, 104], [112, 97, 114, 116], [116, 97, 107, 101], [100, 114, 111, 112], [104, 117, 114, 116], [104, 101, 97, 108], [119, 105, 110], [100, 105, 101], [114, 111, 108, 108], [103, 111], [119, 105, 116, 104], [119, 105, 116, 104, 111, 117, 116]]
/-- what the start says of texts and of two statics -/
def SX (Y : Yx) (U : State) : Prop := vk_S 12 slen sbyt (yK Y) (yV Y) (fun q => yB Y ≤ q) U U.heap ∧ (∀ (i : Nat) (q : Nat × String), sidx[i]? = some q → vk_R RX1 q.1 q.2 (yK Y i) U) ∧ va_Z "java/lang/String" "COMPACT_STRINGS" "Z" (.int 1) (fun q => yB Y ≤ q) U U.heap ∧ va_Zq "jdk/internal/util/Preconditions" "SIOOBE_FORMATTER" "Ljava/util/function/BiFunction;" (fun q => yB Y ≤ q) U U.heap
theorem SX.at {Y : Yx} {s U : State} (h : SX Y s) (hW : s.WarmedH U.vm) (hq : ∀ a : Nat, a < s.heap.size → ¬ yB Y ≤ a → U.heap[a]? = s.heap[a]?) : SX Y U :=
  ⟨(h.1.kept hq).moved hW.alike, fun i q hi => (h.2.1 i q hi).warm hW, (h.2.2.1.kept hq).moved hW.alike, (h.2.2.2.kept hq).moved hW.alike⟩
theorem SX.call {Y : Yx} {U : State} {g : JFrame} {mk : MethodId} {a : Array Value} (h : SX Y U) : SX Y (U.calling g mk a) :=
  ⟨h.1.moved (u := U) (U := U.calling g mk a) (Vm.Alike.refl U.vm), fun i q hi => (h.2.1 i q hi).same (u := U) (U := U.calling g mk a) rfl, h.2.2.1.moved (u := U) (U := U.calling g mk a) (Vm.Alike.refl U.vm), h.2.2.2.moved (u := U) (U := U.calling g mk a) (Vm.Alike.refl U.vm)⟩
def aY (Y : Yx) (z : Sh) : Nat → Prop := fun q => q ∈ adr Y z
/-- the world stands in the heap -/
def WD (K : Kx) (Y : Yx) (z : Sh) (d : Dt) (H : Heap) (locs : List Loc) : Prop := (adr Y z).Nodup ∧ (∀ q ∈ adr Y z, kA K q) ∧ va_P (yD Y) vwCl (wl Y z d) H ∧ va_S (kA K) (ks K).heap H locs
theorem WD.D {K : Kx} {Y : Yx} {z : Sh} {d : Dt} {H : Heap} {locs : List Loc} (h : WD K Y z d H locs) : va_D (kA K) (wl Y z d) := wl_D d h.1 h.2.1
def V (K : Kx) (Y : Yx) (nL k n : Nat) (z : Sh) (d : Dt) (pc : Nat) (lv : List (Nat × Value)) (st : List Value) : Prop :=
  ∀ (H : Heap) (locs : List Loc) (ls : Array Slot), WD K Y z d H locs → lv_has ls nL lv → W (kp K) (kl K) (ke K) (kR K) (ks K) (km K) (ka K) (kb K) (kme K) (kc K) H locs k n (kQ K) (F0 (km K) pc ls st)
/-- what is fixed in a method's walk -/
def CK (K : Kx) (Y : Yx) (cc : ByteArray) (nL : Nat) (own : String) (fr lo : Nat) : Prop :=
  (kp K).tables.exec = Jvm.exec ∧ (kc K).code = cc ∧ (kc K).maxLocals = nL ∧ (ks K).vm.findClass own = some (km K).cls ∧ (∀ w ∈ gt, w.before (ka K) (ks K) = true) ∧ va_K (yD Y) vwCl (ytys Y) (ks K) ∧ LAY Y ∧ SX Y (ks K) ∧ (kme K).locks = false ∧ (∀ q, kA K q → yB Y ≤ q) ∧ (kR K).frames = fr ∧ (kR K).locals = lo
/-- a method's start; its end -/
def IN (Y : Yx) (z : Sh) (d : Dt) (U : State) : Prop := va_P (yD Y) vwCl (wl Y z d) U.heap ∧ va_K (yD Y) vwCl (ytys Y) U ∧ (adr Y z).Nodup ∧ (∀ q ∈ adr Y z, yB Y ≤ q) ∧ SX Y U
def QM (Y : Yx) (z : Sh) (r : Option Value) (d' : Dt) : Array Value → State → Outcome → State → Prop := fun _ st oc t => oc = .returned r ∧ va_P (yD Y) vwCl (wl Y z d') t.heap ∧ va_F (aY Y z) st t
def MM (l : Launch) (y : MethodName) (cc : ByteArray) (nL : Nat) (ret : Option FieldType) (fr lo : Nat) (Y : Yx) (z : Sh) (As : List Value) (d : Dt) (r : Option Value) (d' : Dt) : Prop :=
  Met l y (mw y cc nL ret) { frames := fr, cells := 0, slots := 0, locals := lo } (va_Pc As (IN Y z d)) (QM Y z r d') 0 0 (aY Y z)
theorem IN.blind {Y : Yx} {z : Sh} {d : Dt} {As : List Value} : FrameBlind (va_Pc As (IN Y z d)) := fun a U g mk q => ⟨q.1, q.2.1, va_K.moved (u := U) (U := U.calling g mk a) (Vm.Alike.refl U.vm) q.2.2.1, q.2.2.2.1, q.2.2.2.2.1, q.2.2.2.2.2.call⟩
section ROWS
variable {K : Kx} {Y : Yx} {nL k n : Nat} {z : Sh} {d d1 : Dt} {pc : Nat} {lv : List (Nat × Value)} {st : List Value} {cc : ByteArray} {own : String} {fr lo : Nat}
theorem WD.IN {H : Heap} {locs : List Loc} (hC : CK K Y cc nL own fr lo) (h : WD K Y z d H locs) {U : State} (hU : U.heap = H) (hW : (ks K).WarmedH U.vm) : IN Y z d U :=
  ⟨by rw [hU]; exact h.2.2.1, va_K.moved hW.alike hC.2.2.2.2.2.1, h.1, fun q hq => hC.2.2.2.2.2.2.2.2.2.1 q (h.2.1 q hq), hC.2.2.2.2.2.2.2.1.at hW (fun a ha hb => by rw [hU]; exact h.2.2.2.2.1 a ha (fun z => hb (hC.2.2.2.2.2.2.2.2.2.1 a z)))⟩
/-- a contract out of a walk -/
theorem MM.ofV {l : Launch} {y : MethodName} {ret : Option FieldType} {As : List Value} {r : Option Value} (hy : plainName y.cls = true) (hL : LAY Y) (hn : (lg_sl As).length ≤ nL)
    (h : ∀ K : Kx, kl K = l → CK K Y cc nL y.cls fr lo → (kme K).sig.returnType = ret → kQ K = MQ (kb K) (QM Y z r d1) (ka K) (ks K) 0 0 (aY Y z) → kA K = aY Y z → V K Y nL 0 0 z d 0 (lv_args 0 As) []) :
    MM l y cc nL ret fr lo Y z As d r d1 := by
  refine Met.ofW (cc := cc) (maxL := nL) (ret := ret) hy rfl ?_
  intro p e s m args below meth c s₁ B hml hv
  obtain ⟨rfl, hP, hK, hN, hB, hX⟩ := hv
  have hts := atoms_spec (ws := mw y cc nL ret) B.pre
  have hown : s.vm.findClass y.cls = some m.cls := findClass_of_methodNamed B.named
  rw [lg_entry_eq]
  exact h (p, l, e, { frames := fr, cells := 0, slots := 0, locals := lo }, s, m, As.toArray, below, meth, c, aY Y z, MQ below (QM Y z r d1) As.toArray s 0 0 (aY Y z)) rfl
    ⟨B.exec, B.bytes, hml, hown, fun w hw => hts w (List.mem_cons_of_mem _ hw), hK, hL, hX, B.notSynchronized, hB, rfl, rfl⟩ B.returns rfl rfl s.heap [] _ ⟨hN, fun q hq => hq, hP, va_S.rf⟩ (lv_entry As hn)
/-- fewer locals, in another order -/
theorem V_sub {lv' : List (Nat × Value)} (ks : List Nat) (h : lv_pick lv ks = lv') (kk : V K Y nL k n z d pc lv' st) : V K Y nL k n z d pc lv st := fun H locs ls hW hl => kk H locs ls hW (lv_sub hl ks h)
theorem V_iconst {a : Int} {v : Int32} (hC : CK K Y cc nL own fr lo) (hd : decode cc pc = .ok (.iconst a, 1)) (hv : Int32.ofInt a = v) (kk : V K Y nL k n z d (pc + 1) lv (.int v :: st)) : V K Y nL k n z d pc lv st := fun H locs ls hW hl => lv_iconst hC.1 hC.2.1 hd hv (kk H locs ls hW hl)
theorem V_bipush {a : Int} {v : Int32} (hC : CK K Y cc nL own fr lo) (hd : decode cc pc = .ok (.bipush a, 2)) (hv : (Int8.ofInt a).toInt32 = v) (kk : V K Y nL k n z d (pc + 2) lv (.int v :: st)) : V K Y nL k n z d pc lv st := fun H locs ls hW hl => lv_bipush hC.1 hC.2.1 hd hv (kk H locs ls hW hl)
theorem V_sipush {a : Int} {v : Int32} (hC : CK K Y cc nL own fr lo) (hd : decode cc pc = .ok (.sipush a, 3)) (hv : (Int16.ofInt a).toInt32 = v) (kk : V K Y nL k n z d (pc + 3) lv (.int v :: st)) : V K Y nL k n z d pc lv st := fun H locs ls hW hl => lv_sipush hC.1 hC.2.1 hd hv (kk H locs ls hW hl)
theorem V_lconst {a : Fin 2} {v : Int64} (hC : CK K Y cc nL own fr lo) (hd : decode cc pc = .ok (.lconst a, 1)) (hv : Int64.ofNat (a : Nat) = v) (kk : V K Y nL k n z d (pc + 1) lv (.long v :: st)) : V K Y nL k n z d pc lv st := fun H locs ls hW hl => lv_lconst hC.1 hC.2.1 hd hv (kk H locs ls hW hl)
theorem V_ldc {idx : Nat} {v : Int32} (hC : CK K Y cc nL own fr lo) (hw : Cond.constant own idx v ∈ gt) (hd : decode cc pc = .ok (.ldc idx, 2)) (kk : V K Y nL k n z d (pc + 2) lv (.int v :: st)) : V K Y nL k n z d pc lv st := fun H locs ls hW hl => lv_ldc hC.1 hC.2.1 hC.2.2.2.1 (hC.2.2.2.2.1 _ hw) hd (kk H locs ls hW hl)
theorem V_ldcw {idx : Nat} {v : Int32} (hC : CK K Y cc nL own fr lo) (hw : Cond.constant own idx v ∈ gt) (hd : decode cc pc = .ok (.ldc_w idx, 3)) (kk : V K Y nL k n z d (pc + 3) lv (.int v :: st)) : V K Y nL k n z d pc lv st := fun H locs ls hW hl => lv_ldcw hC.1 hC.2.1 hC.2.2.2.1 (hC.2.2.2.2.1 _ hw) hd (kk H locs ls hW hl)
theorem V_ldc2 {idx : Nat} {v : Int64} (hC : CK K Y cc nL own fr lo) (hw : Cond.constantLong own idx v ∈ gt) (hd : decode cc pc = .ok (.ldc2_w idx, 3)) (kk : V K Y nL k n z d (pc + 3) lv (.long v :: st)) : V K Y nL k n z d pc lv st := fun H locs ls hW hl => lv_ldc2 hC.1 hC.2.1 hC.2.2.2.1 (hC.2.2.2.2.1 _ hw) hd (kk H locs ls hW hl)
theorem V_ldcS {i idx : Nat} {tx : String} (hC : CK K Y cc nL RX1 fr lo) (hi : sidx[i]? = some (idx, tx)) (hd : decode cc pc = .ok (.ldc idx, 2)) (kk : V K Y nL k n z d (pc + 2) lv (.ref (yK Y i) :: st)) : V K Y nL k n z d pc lv st := fun H locs ls hW hl => va_ldcS hC.1 hC.2.1 hC.2.2.2.1 (hC.2.2.2.2.2.2.2.1.2.1 i _ hi) hd (kk H locs ls hW hl)
theorem V_iload_n {a : Fin 4} {i : Nat} {x : Int32} (j : Nat) (hC : CK K Y cc nL own fr lo) (hd : decode cc pc = .ok (.iload_n a, 1)) (hi : (a : Nat) = i) (hj : lv[j]? = some (i, .int x)) (kk : V K Y nL k n z d (pc + 1) lv (.int x :: st)) : V K Y nL k n z d pc lv st := fun H locs ls hW hl => lv_iload_n hC.1 hC.2.1 hd hi (lv_at hl j hj) (kk H locs ls hW hl)
theorem V_iload {i : Nat} {x : Int32} (j : Nat) (hC : CK K Y cc nL own fr lo) (hd : decode cc pc = .ok (.iload i, 2)) (hj : lv[j]? = some (i, .int x)) (kk : V K Y nL k n z d (pc + 2) lv (.int x :: st)) : V K Y nL k n z d pc lv st := fun H locs ls hW hl => lv_iload hC.1 hC.2.1 hd (lv_at hl j hj) (kk H locs ls hW hl)
theorem V_lload_n {a : Fin 4} {i : Nat} {x : Int64} (j : Nat) (hC : CK K Y cc nL own fr lo) (hd : decode cc pc = .ok (.lload_n a, 1)) (hi : (a : Nat) = i) (hj : lv[j]? = some (i, .long x)) (kk : V K Y nL k n z d (pc + 1) lv (.long x :: st)) : V K Y nL k n z d pc lv st := fun H locs ls hW hl => lv_lload_n hC.1 hC.2.1 hd hi (lv_at hl j hj) (kk H locs ls hW hl)
theorem V_lload {i : Nat} {x : Int64} (j : Nat) (hC : CK K Y cc nL own fr lo) (hd : decode cc pc = .ok (.lload i, 2)) (hj : lv[j]? = some (i, .long x)) (kk : V K Y nL k n z d (pc + 2) lv (.long x :: st)) : V K Y nL k n z d pc lv st := fun H locs ls hW hl => lv_lload hC.1 hC.2.1 hd (lv_at hl j hj) (kk H locs ls hW hl)
theorem V_aload_n {a : Fin 4} {i x : Nat} (j : Nat) (hC : CK K Y cc nL own fr lo) (hd : decode cc pc = .ok (.aload_n a, 1)) (hi : (a : Nat) = i) (hj : lv[j]? = some (i, .ref x)) (kk : V K Y nL k n z d (pc + 1) lv (.ref x :: st)) : V K Y nL k n z d pc lv st := fun H locs ls hW hl => lv_aload_n hC.1 hC.2.1 hd hi (lv_at hl j hj) (kk H locs ls hW hl)
theorem V_aload {i x : Nat} (j : Nat) (hC : CK K Y cc nL own fr lo) (hd : decode cc pc = .ok (.aload i, 2)) (hj : lv[j]? = some (i, .ref x)) (kk : V K Y nL k n z d (pc + 2) lv (.ref x :: st)) : V K Y nL k n z d pc lv st := fun H locs ls hW hl => lv_aload hC.1 hC.2.1 hd (lv_at hl j hj) (kk H locs ls hW hl)
theorem V_istore_n {a : Fin 4} {i : Nat} {x : Int32} {lv' : List (Nat × Value)} (hC : CK K Y cc nL own fr lo) (hd : decode cc pc = .ok (.istore_n a, 1)) (hi : (a : Nat) = i) (hn : i < nL) (hl : (i, Value.int x) :: lv.filter (fun q => !(q.1 == i) && !(q.1 + 1 == i && q.2.category == 2)) = lv') (kk : V K Y nL k n z d (pc + 1) lv' st) : V K Y nL k n z d pc lv (.int x :: st) := fun H locs ls hW h => lv_istore_n hC.1 hC.2.1 hd hi h hn hl (fun ls' h' => kk H locs ls' hW h')
theorem V_istore {i : Nat} {x : Int32} {lv' : List (Nat × Value)} (hC : CK K Y cc nL own fr lo) (hd : decode cc pc = .ok (.istore i, 2)) (hn : i < nL) (hl : (i, Value.int x) :: lv.filter (fun q => !(q.1 == i) && !(q.1 + 1 == i && q.2.category == 2)) = lv') (kk : V K Y nL k n z d (pc + 2) lv' st) : V K Y nL k n z d pc lv (.int x :: st) := fun H locs ls hW h => lv_istore hC.1 hC.2.1 hd h hn hl (fun ls' h' => kk H locs ls' hW h')
theorem V_astore_n {a : Fin 4} {i x : Nat} {lv' : List (Nat × Value)} (hC : CK K Y cc nL own fr lo) (hd : decode cc pc = .ok (.astore_n a, 1)) (hi : (a : Nat) = i) (hn : i < nL) (hl : (i, Value.ref x) :: lv.filter (fun q => !(q.1 == i) && !(q.1 + 1 == i && q.2.category == 2)) = lv') (kk : V K Y nL k n z d (pc + 1) lv' st) : V K Y nL k n z d pc lv (.ref x :: st) := fun H locs ls hW h => lv_astore_n hC.1 hC.2.1 hd hi h hn hl (fun ls' h' => kk H locs ls' hW h')
theorem V_astore {i x : Nat} {lv' : List (Nat × Value)} (hC : CK K Y cc nL own fr lo) (hd : decode cc pc = .ok (.astore i, 2)) (hn : i < nL) (hl : (i, Value.ref x) :: lv.filter (fun q => !(q.1 == i) && !(q.1 + 1 == i && q.2.category == 2)) = lv') (kk : V K Y nL k n z d (pc + 2) lv' st) : V K Y nL k n z d pc lv (.ref x :: st) := fun H locs ls hW h => lv_astore hC.1 hC.2.1 hd h hn hl (fun ls' h' => kk H locs ls' hW h')
theorem V_iinc {i : Nat} {a : Int} {x v : Int32} {lv' : List (Nat × Value)} (j : Nat) (hC : CK K Y cc nL own fr lo) (hd : decode cc pc = .ok (.iinc i a, 3)) (hj : lv[j]? = some (i, .int x)) (hv : x + Int32.ofInt a = v) (hn : i < nL) (hl : (i, Value.int v) :: lv.filter (fun q => !(q.1 == i) && !(q.1 + 1 == i && q.2.category == 2)) = lv') (kk : V K Y nL k n z d (pc + 3) lv' st) : V K Y nL k n z d pc lv st := fun H locs ls hW h => lv_iinc hC.1 hC.2.1 hd h hj hv hn hl (fun ls' h' => kk H locs ls' hW h')
theorem V_iadd {x y : Int32} (hC : CK K Y cc nL own fr lo) (hd : decode cc pc = .ok (.iadd, 1)) (kk : V K Y nL k n z d (pc + 1) lv (.int (x + y) :: st)) : V K Y nL k n z d pc lv (.int y :: .int x :: st) := fun H locs ls hW hl => lv_iadd hC.1 hC.2.1 hd (kk H locs ls hW hl)
theorem V_isub {x y : Int32} (hC : CK K Y cc nL own fr lo) (hd : decode cc pc = .ok (.isub, 1)) (kk : V K Y nL k n z d (pc + 1) lv (.int (x - y) :: st)) : V K Y nL k n z d pc lv (.int y :: .int x :: st) := fun H locs ls hW hl => lv_isub hC.1 hC.2.1 hd (kk H locs ls hW hl)
theorem V_imul {x y : Int32} (hC : CK K Y cc nL own fr lo) (hd : decode cc pc = .ok (.imul, 1)) (kk : V K Y nL k n z d (pc + 1) lv (.int (x * y) :: st)) : V K Y nL k n z d pc lv (.int y :: .int x :: st) := fun H locs ls hW hl => lv_imul hC.1 hC.2.1 hd (kk H locs ls hW hl)
theorem V_iand {x y : Int32} (hC : CK K Y cc nL own fr lo) (hd : decode cc pc = .ok (.iand, 1)) (kk : V K Y nL k n z d (pc + 1) lv (.int (x &&& y) :: st)) : V K Y nL k n z d pc lv (.int y :: .int x :: st) := fun H locs ls hW hl => lv_iand hC.1 hC.2.1 hd (kk H locs ls hW hl)
theorem V_ior {x y : Int32} (hC : CK K Y cc nL own fr lo) (hd : decode cc pc = .ok (.ior, 1)) (kk : V K Y nL k n z d (pc + 1) lv (.int (x ||| y) :: st)) : V K Y nL k n z d pc lv (.int y :: .int x :: st) := fun H locs ls hW hl => lv_ior hC.1 hC.2.1 hd (kk H locs ls hW hl)
theorem V_ixor {x y : Int32} (hC : CK K Y cc nL own fr lo) (hd : decode cc pc = .ok (.ixor, 1)) (kk : V K Y nL k n z d (pc + 1) lv (.int (x ^^^ y) :: st)) : V K Y nL k n z d pc lv (.int y :: .int x :: st) := fun H locs ls hW hl => lv_ixor hC.1 hC.2.1 hd (kk H locs ls hW hl)
theorem V_ishl {x y : Int32} (hC : CK K Y cc nL own fr lo) (hd : decode cc pc = .ok (.ishl, 1)) (kk : V K Y nL k n z d (pc + 1) lv (.int (x <<< (y &&& 31)) :: st)) : V K Y nL k n z d pc lv (.int y :: .int x :: st) := fun H locs ls hW hl => lv_ishl hC.1 hC.2.1 hd (kk H locs ls hW hl)
theorem V_ishr {x y : Int32} (hC : CK K Y cc nL own fr lo) (hd : decode cc pc = .ok (.ishr, 1)) (kk : V K Y nL k n z d (pc + 1) lv (.int (x >>> (y &&& 31)) :: st)) : V K Y nL k n z d pc lv (.int y :: .int x :: st) := fun H locs ls hW hl => lv_ishr hC.1 hC.2.1 hd (kk H locs ls hW hl)
theorem V_ladd {x y : Int64} (hC : CK K Y cc nL own fr lo) (hd : decode cc pc = .ok (.ladd, 1)) (kk : V K Y nL k n z d (pc + 1) lv (.long (x + y) :: st)) : V K Y nL k n z d pc lv (.long y :: .long x :: st) := fun H locs ls hW hl => lv_ladd hC.1 hC.2.1 hd (kk H locs ls hW hl)
theorem V_lsub {x y : Int64} (hC : CK K Y cc nL own fr lo) (hd : decode cc pc = .ok (.lsub, 1)) (kk : V K Y nL k n z d (pc + 1) lv (.long (x - y) :: st)) : V K Y nL k n z d pc lv (.long y :: .long x :: st) := fun H locs ls hW hl => lv_lsub hC.1 hC.2.1 hd (kk H locs ls hW hl)
theorem V_lmul {x y : Int64} (hC : CK K Y cc nL own fr lo) (hd : decode cc pc = .ok (.lmul, 1)) (kk : V K Y nL k n z d (pc + 1) lv (.long (x * y) :: st)) : V K Y nL k n z d pc lv (.long y :: .long x :: st) := fun H locs ls hW hl => lv_lmul hC.1 hC.2.1 hd (kk H locs ls hW hl)
theorem V_land {x y : Int64} (hC : CK K Y cc nL own fr lo) (hd : decode cc pc = .ok (.land, 1)) (kk : V K Y nL k n z d (pc + 1) lv (.long (x &&& y) :: st)) : V K Y nL k n z d pc lv (.long y :: .long x :: st) := fun H locs ls hW hl => lv_land hC.1 hC.2.1 hd (kk H locs ls hW hl)
theorem V_lor {x y : Int64} (hC : CK K Y cc nL own fr lo) (hd : decode cc pc = .ok (.lor, 1)) (kk : V K Y nL k n z d (pc + 1) lv (.long (x ||| y) :: st)) : V K Y nL k n z d pc lv (.long y :: .long x :: st) := fun H locs ls hW hl => lv_lor hC.1 hC.2.1 hd (kk H locs ls hW hl)
theorem V_ineg {x : Int32} (hC : CK K Y cc nL own fr lo) (hd : decode cc pc = .ok (.ineg, 1)) (kk : V K Y nL k n z d (pc + 1) lv (.int (-x) :: st)) : V K Y nL k n z d pc lv (.int x :: st) := fun H locs ls hW hl => lv_ineg hC.1 hC.2.1 hd (kk H locs ls hW hl)
theorem V_i2l {x : Int32} (hC : CK K Y cc nL own fr lo) (hd : decode cc pc = .ok (.i2l, 1)) (kk : V K Y nL k n z d (pc + 1) lv (.long (x.toInt64) :: st)) : V K Y nL k n z d pc lv (.int x :: st) := fun H locs ls hW hl => lv_i2l hC.1 hC.2.1 hd rfl (kk H locs ls hW hl)
theorem V_l2i {x : Int64} (hC : CK K Y cc nL own fr lo) (hd : decode cc pc = .ok (.l2i, 1)) (kk : V K Y nL k n z d (pc + 1) lv (.int (x.toInt32) :: st)) : V K Y nL k n z d pc lv (.long x :: st) := fun H locs ls hW hl => lv_l2i hC.1 hC.2.1 hd rfl (kk H locs ls hW hl)
theorem V_i2b {x : Int32} (hC : CK K Y cc nL own fr lo) (hd : decode cc pc = .ok (.i2b, 1)) (kk : V K Y nL k n z d (pc + 1) lv (.int (x.toInt8.toInt32) :: st)) : V K Y nL k n z d pc lv (.int x :: st) := fun H locs ls hW hl => lv_i2b hC.1 hC.2.1 hd rfl (kk H locs ls hW hl)
theorem V_i2c {x : Int32} (hC : CK K Y cc nL own fr lo) (hd : decode cc pc = .ok (.i2c, 1)) (kk : V K Y nL k n z d (pc + 1) lv (.int ((x.toUInt32 % 65536).toInt32) :: st)) : V K Y nL k n z d pc lv (.int x :: st) := fun H locs ls hW hl => lv_i2c hC.1 hC.2.1 hd rfl (kk H locs ls hW hl)
theorem V_lshl {x : Int64} {y : Int32} (hC : CK K Y cc nL own fr lo) (hd : decode cc pc = .ok (.lshl, 1)) (kk : V K Y nL k n z d (pc + 1) lv (.long (x <<< (y.toInt64 &&& 63)) :: st)) : V K Y nL k n z d pc lv (.int y :: .long x :: st) := fun H locs ls hW hl => lv_lshl hC.1 hC.2.1 hd rfl (kk H locs ls hW hl)
theorem V_lshr {x : Int64} {y : Int32} (hC : CK K Y cc nL own fr lo) (hd : decode cc pc = .ok (.lshr, 1)) (kk : V K Y nL k n z d (pc + 1) lv (.long (x >>> (y.toInt64 &&& 63)) :: st)) : V K Y nL k n z d pc lv (.int y :: .long x :: st) := fun H locs ls hW hl => lv_lshr hC.1 hC.2.1 hd rfl (kk H locs ls hW hl)
theorem V_lushr {x : Int64} {y : Int32} (hC : CK K Y cc nL own fr lo) (hd : decode cc pc = .ok (.lushr, 1)) (kk : V K Y nL k n z d (pc + 1) lv (.long ((x.toUInt64 >>> (y.toInt64.toUInt64 &&& Int64.toUInt64 63)).toInt64) :: st)) : V K Y nL k n z d pc lv (.int y :: .long x :: st) := fun H locs ls hW hl => lv_lushr hC.1 hC.2.1 hd rfl (kk H locs ls hW hl)
theorem V_iushr {x y : Int32} (hC : CK K Y cc nL own fr lo) (hd : decode cc pc = .ok (.iushr, 1)) (kk : V K Y nL k n z d (pc + 1) lv (.int ((x.toUInt32 >>> (y.toUInt32 &&& Int32.toUInt32 31)).toInt32) :: st)) : V K Y nL k n z d pc lv (.int y :: .int x :: st) := fun H locs ls hW hl => lv_iushr hC.1 hC.2.1 hd rfl (kk H locs ls hW hl)
theorem V_idiv {x y : Int32} (hC : CK K Y cc nL own fr lo) (hd : decode cc pc = .ok (.idiv, 1)) (hne : ¬ y = 0) (kk : V K Y nL k n z d (pc + 1) lv (.int (x / y) :: st)) : V K Y nL k n z d pc lv (.int y :: .int x :: st) := fun H locs ls hW hl => lv_idiv hC.1 hC.2.1 hd hne (kk H locs ls hW hl)
theorem V_irem {x y : Int32} (hC : CK K Y cc nL own fr lo) (hd : decode cc pc = .ok (.irem, 1)) (hne : ¬ y = 0) (kk : V K Y nL k n z d (pc + 1) lv (.int (x - x / y * y) :: st)) : V K Y nL k n z d pc lv (.int y :: .int x :: st) := fun H locs ls hW hl => lv_irem hC.1 hC.2.1 hd hne (kk H locs ls hW hl)
theorem V_ldiv {x y : Int64} (hC : CK K Y cc nL own fr lo) (hd : decode cc pc = .ok (.ldiv, 1)) (hne : ¬ y = 0) (kk : V K Y nL k n z d (pc + 1) lv (.long (x / y) :: st)) : V K Y nL k n z d pc lv (.long y :: .long x :: st) := fun H locs ls hW hl => lv_ldiv hC.1 hC.2.1 hd hne (kk H locs ls hW hl)
theorem V_lrem {x y : Int64} (hC : CK K Y cc nL own fr lo) (hd : decode cc pc = .ok (.lrem, 1)) (hne : ¬ y = 0) (kk : V K Y nL k n z d (pc + 1) lv (.long (x - x / y * y) :: st)) : V K Y nL k n z d pc lv (.long y :: .long x :: st) := fun H locs ls hW hl => lv_lrem hC.1 hC.2.1 hd hne (kk H locs ls hW hl)
theorem V_dup {v : Value} (hC : CK K Y cc nL own fr lo) (hd : decode cc pc = .ok (.dup, 1)) (hv : v.category = 1) (kk : V K Y nL k n z d (pc + 1) lv (v :: v :: st)) : V K Y nL k n z d pc lv (v :: st) := fun H locs ls hW hl => lv_dup hC.1 hC.2.1 hd hv (kk H locs ls hW hl)
theorem V_pop {v : Value} (hC : CK K Y cc nL own fr lo) (hd : decode cc pc = .ok (.pop, 1)) (hv : v.category = 1) (kk : V K Y nL k n z d (pc + 1) lv st) : V K Y nL k n z d pc lv (v :: st) := fun H locs ls hW hl => lv_pop hC.1 hC.2.1 hd hv (kk H locs ls hW hl)
theorem V_dup2 {v w : Value} (hC : CK K Y cc nL own fr lo) (hd : decode cc pc = .ok (.dup2, 1)) (hv : v.category = 1) (hw : w.category = 1) (kk : V K Y nL k n z d (pc + 1) lv (v :: w :: v :: w :: st)) : V K Y nL k n z d pc lv (v :: w :: st) := fun H locs ls hW hl => lv_dup2_11 hC.1 hC.2.1 hd hv hw (kk H locs ls hW hl)
theorem V_goto {off : Int} {tgt : Nat} (hC : CK K Y cc nL own fr lo) (hd : decode cc pc = .ok (.goto off, 3)) (ht : (pc : Int) + off = (tgt : Int)) (kk : V K Y nL k n z d tgt lv st) : V K Y nL k n z d pc lv st := fun H locs ls hW hl => lv_goto hC.1 hC.2.1 hd ht (kk H locs ls hW hl)
theorem V_if_eq {x : Int32} {off : Int} {tgt : Nat} (hC : CK K Y cc nL own fr lo) (hd : decode cc pc = .ok (.ifCond .eq off, 3)) (ht : (pc : Int) + off = (tgt : Int)) (kt : x = 0 → V K Y nL k n z d tgt lv st) (kf : ¬ x = 0 → V K Y nL k n z d (pc + 3) lv st) : V K Y nL k n z d pc lv (.int x :: st) := fun H locs ls hW hl => lv_if_eq hC.1 hC.2.1 hd ht (fun h => kt h H locs ls hW hl) (fun h => kf h H locs ls hW hl)
theorem V_icmp_eq {x y : Int32} {off : Int} {tgt : Nat} (hC : CK K Y cc nL own fr lo) (hd : decode cc pc = .ok (.if_icmp .eq off, 3)) (ht : (pc : Int) + off = (tgt : Int)) (kt : x = y → V K Y nL k n z d tgt lv st) (kf : ¬ x = y → V K Y nL k n z d (pc + 3) lv st) : V K Y nL k n z d pc lv (.int y :: .int x :: st) := fun H locs ls hW hl => lv_icmp_eq hC.1 hC.2.1 hd ht (fun h => kt h H locs ls hW hl) (fun h => kf h H locs ls hW hl)
theorem V_if_ne {x : Int32} {off : Int} {tgt : Nat} (hC : CK K Y cc nL own fr lo) (hd : decode cc pc = .ok (.ifCond .ne off, 3)) (ht : (pc : Int) + off = (tgt : Int)) (kt : ¬ x = 0 → V K Y nL k n z d tgt lv st) (kf : x = 0 → V K Y nL k n z d (pc + 3) lv st) : V K Y nL k n z d pc lv (.int x :: st) := fun H locs ls hW hl => lv_if_ne hC.1 hC.2.1 hd ht (fun h => kt h H locs ls hW hl) (fun h => kf h H locs ls hW hl)
theorem V_icmp_ne {x y : Int32} {off : Int} {tgt : Nat} (hC : CK K Y cc nL own fr lo) (hd : decode cc pc = .ok (.if_icmp .ne off, 3)) (ht : (pc : Int) + off = (tgt : Int)) (kt : ¬ x = y → V K Y nL k n z d tgt lv st) (kf : x = y → V K Y nL k n z d (pc + 3) lv st) : V K Y nL k n z d pc lv (.int y :: .int x :: st) := fun H locs ls hW hl => lv_icmp_ne hC.1 hC.2.1 hd ht (fun h => kt h H locs ls hW hl) (fun h => kf h H locs ls hW hl)
theorem V_if_lt {x : Int32} {off : Int} {tgt : Nat} (hC : CK K Y cc nL own fr lo) (hd : decode cc pc = .ok (.ifCond .lt off, 3)) (ht : (pc : Int) + off = (tgt : Int)) (kt : x < 0 → V K Y nL k n z d tgt lv st) (kf : ¬ x < 0 → V K Y nL k n z d (pc + 3) lv st) : V K Y nL k n z d pc lv (.int x :: st) := fun H locs ls hW hl => lv_if_lt hC.1 hC.2.1 hd ht (fun h => kt h H locs ls hW hl) (fun h => kf h H locs ls hW hl)
theorem V_icmp_lt {x y : Int32} {off : Int} {tgt : Nat} (hC : CK K Y cc nL own fr lo) (hd : decode cc pc = .ok (.if_icmp .lt off, 3)) (ht : (pc : Int) + off = (tgt : Int)) (kt : x < y → V K Y nL k n z d tgt lv st) (kf : ¬ x < y → V K Y nL k n z d (pc + 3) lv st) : V K Y nL k n z d pc lv (.int y :: .int x :: st) := fun H locs ls hW hl => lv_icmp_lt hC.1 hC.2.1 hd ht (fun h => kt h H locs ls hW hl) (fun h => kf h H locs ls hW hl)
theorem V_if_ge {x : Int32} {off : Int} {tgt : Nat} (hC : CK K Y cc nL own fr lo) (hd : decode cc pc = .ok (.ifCond .ge off, 3)) (ht : (pc : Int) + off = (tgt : Int)) (kt : 0 ≤ x → V K Y nL k n z d tgt lv st) (kf : ¬ 0 ≤ x → V K Y nL k n z d (pc + 3) lv st) : V K Y nL k n z d pc lv (.int x :: st) := fun H locs ls hW hl => lv_if_ge hC.1 hC.2.1 hd ht (fun h => kt h H locs ls hW hl) (fun h => kf h H locs ls hW hl)
theorem V_icmp_ge {x y : Int32} {off : Int} {tgt : Nat} (hC : CK K Y cc nL own fr lo) (hd : decode cc pc = .ok (.if_icmp .ge off, 3)) (ht : (pc : Int) + off = (tgt : Int)) (kt : y ≤ x → V K Y nL k n z d tgt lv st) (kf : ¬ y ≤ x → V K Y nL k n z d (pc + 3) lv st) : V K Y nL k n z d pc lv (.int y :: .int x :: st) := fun H locs ls hW hl => lv_icmp_ge hC.1 hC.2.1 hd ht (fun h => kt h H locs ls hW hl) (fun h => kf h H locs ls hW hl)
theorem V_if_gt {x : Int32} {off : Int} {tgt : Nat} (hC : CK K Y cc nL own fr lo) (hd : decode cc pc = .ok (.ifCond .gt off, 3)) (ht : (pc : Int) + off = (tgt : Int)) (kt : 0 < x → V K Y nL k n z d tgt lv st) (kf : ¬ 0 < x → V K Y nL k n z d (pc + 3) lv st) : V K Y nL k n z d pc lv (.int x :: st) := fun H locs ls hW hl => lv_if_gt hC.1 hC.2.1 hd ht (fun h => kt h H locs ls hW hl) (fun h => kf h H locs ls hW hl)
theorem V_icmp_gt {x y : Int32} {off : Int} {tgt : Nat} (hC : CK K Y cc nL own fr lo) (hd : decode cc pc = .ok (.if_icmp .gt off, 3)) (ht : (pc : Int) + off = (tgt : Int)) (kt : y < x → V K Y nL k n z d tgt lv st) (kf : ¬ y < x → V K Y nL k n z d (pc + 3) lv st) : V K Y nL k n z d pc lv (.int y :: .int x :: st) := fun H locs ls hW hl => lv_icmp_gt hC.1 hC.2.1 hd ht (fun h => kt h H locs ls hW hl) (fun h => kf h H locs ls hW hl)
theorem V_if_le {x : Int32} {off : Int} {tgt : Nat} (hC : CK K Y cc nL own fr lo) (hd : decode cc pc = .ok (.ifCond .le off, 3)) (ht : (pc : Int) + off = (tgt : Int)) (kt : x ≤ 0 → V K Y nL k n z d tgt lv st) (kf : ¬ x ≤ 0 → V K Y nL k n z d (pc + 3) lv st) : V K Y nL k n z d pc lv (.int x :: st) := fun H locs ls hW hl => lv_if_le hC.1 hC.2.1 hd ht (fun h => kt h H locs ls hW hl) (fun h => kf h H locs ls hW hl)
theorem V_icmp_le {x y : Int32} {off : Int} {tgt : Nat} (hC : CK K Y cc nL own fr lo) (hd : decode cc pc = .ok (.if_icmp .le off, 3)) (ht : (pc : Int) + off = (tgt : Int)) (kt : x ≤ y → V K Y nL k n z d tgt lv st) (kf : ¬ x ≤ y → V K Y nL k n z d (pc + 3) lv st) : V K Y nL k n z d pc lv (.int y :: .int x :: st) := fun H locs ls hW hl => lv_icmp_le hC.1 hC.2.1 hd ht (fun h => kt h H locs ls hW hl) (fun h => kf h H locs ls hW hl)
theorem V_lcmp {x y : Int64} (hC : CK K Y cc nL own fr lo) (hd : decode cc pc = .ok (.lcmp, 1)) (kk : V K Y nL k n z d (pc + 1) lv (.int (lg_cmp x y) :: st)) : V K Y nL k n z d pc lv (.long y :: .long x :: st) := fun H locs ls hW hl => W.lcmp hC.1 hC.2.1 hd (kk H locs ls hW hl)
end ROWS
end
section
/-! ===== rows of V: fields, rows of numbers, calls, returns ===== -/
/-- a field's link: own's entry idx is field j of class ci -/
def FLK (own : String) (idx ci j : Nat) (C : String) (T : u_T) (N : Nat) : Prop := vwCl[ci]? = some (C, T, N) ∧ (∀ w ∈ u_ws C T N, w ∈ gt) ∧ j < N ∧ (T j).1 = C ∧ Cond.fieldLink own idx C (T j).2.1 (T j).2.2.1 ∈ gt
/-- what is needed to write fields of a class -/
def PLK (C : String) (T : u_T) (N : Nat) (ty0 : Nat → FieldType) : Prop := (∀ k, k < N → parseFieldDescriptor (T k).2.2.1 = some (ty0 k)) ∧ (∀ a, a < N → ∀ b, b < N → a ≠ b → (T a).2.1 ≠ (T b).2.1)
/-- a callee: its code, its class, how many arguments -/
def ME (y : MethodName) (cc : ByteArray) (nl : Nat) (ret : Option FieldType) (na : Nat) : Prop := Cond.code y cc nl ret ∈ gt ∧ Cond.initialized y.cls ∈ gt ∧ (y.cls ≠ "java/lang/invoke/MethodHandle" ∧ y.cls ≠ "java/lang/invoke/VarHandle" ∧ (parseMethodDescriptor y.desc).map (fun d => d.parameters.length) = some na)
def MEV (C : String) (y : MethodName) (cc : ByteArray) (nl : Nat) (ret : Option FieldType) (na : Nat) : Prop := ME y cc nl ret na ∧ Cond.instanceMethod y ∈ gt ∧ Cond.selects C y y ∈ gt
def MES (y : MethodName) (cc : ByteArray) (nl : Nat) (ret : Option FieldType) (na : Nat) : Prop := ME y cc nl ret na ∧ Cond.static y ∈ gt
section ROWS2
variable {K : Kx} {Y : Yx} {nL k n : Nat} {z : Sh} {d d1 : Dt} {pc : Nat} {lv : List (Nat × Value)} {st : List Value} {cc : ByteArray} {own : String} {fr lo : Nat}
theorem V_getf {o ci j kd idx : Nat} {C : String} {T : u_T} {N : Nat} (hC : CK K Y cc nL own fr lo) (ho : (0, o, ci) ∈ yI Y) (hk : (fkind ci)[j]? = some kd) (hf : FLK own idx ci j C T N) (hd : decode cc pc = .ok (.getfield idx, 3)) (kk : V K Y nL k n z d (pc + 3) lv (fv Y z d ci o j kd :: st)) : V K Y nL k n z d pc lv (.ref (yo Y o) :: st) := by
  intro H locs ls hW hl
  obtain ⟨p, hp, he⟩ := wl_get z d ho
  obtain ⟨f1, f2, f3, f4, f5⟩ := hf
  refine va_get (D := yD Y) (C := C) (T := T) (N := N) (ref := C) hC.1 hC.2.1 hC.2.2.2.2.1 f2 hC.2.2.2.1 hC.2.2.2.2.2.1 hW.2.2.1 p he f1 j f3 (hC.2.2.2.2.1 _ f5) (fun x h => by rw [f4] at h; exact h) (fl_get Y z d o hk) hd (kk H locs ls hW hl)
theorem V_geti {o ci j idx : Nat} {C : String} {T : u_T} {N : Nat} (hC : CK K Y cc nL own fr lo) (ho : (0, o, ci) ∈ yI Y) (hk : (fkind ci)[j]? = some 0) (hf : FLK own idx ci j C T N) (hd : decode cc pc = .ok (.getfield idx, 3)) (kk : V K Y nL k n z d (pc + 3) lv (.int (gF d o j) :: st)) : V K Y nL k n z d pc lv (.ref (yo Y o) :: st) := V_getf hC ho hk hf hd kk
theorem V_geta {o ci j idx : Nat} {C : String} {T : u_T} {N : Nat} (hC : CK K Y cc nL own fr lo) (ho : (0, o, ci) ∈ yI Y) (hk : (fkind ci)[j]? = some 1) (hf : FLK own idx ci j C T N) (hd : decode cc pc = .ok (.getfield idx, 3)) (kk : V K Y nL k n z d (pc + 3) lv (.ref (gad z (32 * o + j)) :: st)) : V K Y nL k n z d pc lv (.ref (yo Y o) :: st) := V_getf hC ho hk hf hd kk
theorem V_geto {o ci j idx o2 : Nat} {C : String} {T : u_T} {N : Nat} (hC : CK K Y cc nL own fr lo) (ho : (0, o, ci) ∈ yI Y) (hk : (fkind ci)[j]? = some 2) (hf : FLK own idx ci j C T N) (h2 : ro ci o j = o2) (hd : decode cc pc = .ok (.getfield idx, 3)) (kk : V K Y nL k n z d (pc + 3) lv (.ref (yo Y o2) :: st)) : V K Y nL k n z d pc lv (.ref (yo Y o) :: st) := V_getf hC ho hk hf hd (by subst h2; exact kk)
theorem V_puti' {o ci j idx : Nat} {C : String} {T : u_T} {N : Nat} {ty0 : Nat → FieldType} {v : Int32} (hC : CK K Y cc nL own fr lo) (ho : (0, o, ci) ∈ yI Y) (hk : (fkind ci)[j]? = some 0) (hf : FLK own idx ci j C T N) (hp : PLK C T N ty0) (hfin : (T j).2.2.2 = false) (hn : narrow (ty0 j) (.int v) = .int v) (hfit : fits (ty0 j) (.int v) = true) (hd : decode cc pc = .ok (.putfield idx, 3)) (kk : ∀ d2, d2 = sF d o j v → V K Y nL k n z d2 (pc + 3) lv st) : V K Y nL k n z d pc lv (.int v :: .ref (yo Y o) :: st) := by
  intro H locs ls hW hl
  obtain ⟨p, hpi, he⟩ := wl_get z d ho
  obtain ⟨f1, f2, f3, f4, f5⟩ := hf
  refine va_put (D := yD Y) (C := C) (T := T) (N := N) (ref := C) hC.1 hC.2.1 hC.2.2.2.2.1 f2 ty0 hp.1 hp.2 hC.2.2.2.1 hC.2.2.2.2.2.1 hW.2.2.1 hW.D hW.2.2.2 p he f1 j f3 (hC.2.2.2.2.1 _ f5) (fun x h => by rw [f4] at h; exact h) hfin (hp.1 j f3) hn hfit (by rw [fl_len]; exact (List.getElem?_eq_some_iff.mp hk).1) hd (fun H1 locs1 hP1 _ hS1 => ?_)
  rw [wl_sF hC.2.2.2.2.2.2.1 hpi hk] at hP1
  exact kk _ rfl H1 locs1 ls ⟨hW.1, hW.2.1, hP1, hS1⟩ hl
theorem V_puti {o ci j idx : Nat} {C : String} {T : u_T} {N : Nat} {ty0 : Nat → FieldType} {v : Int32} (hC : CK K Y cc nL own fr lo) (ho : (0, o, ci) ∈ yI Y) (hk : (fkind ci)[j]? = some 0) (hf : FLK own idx ci j C T N) (hp : PLK C T N ty0) (hfin : (T j).2.2.2 = false) (hty : ty0 j = .int) (hd : decode cc pc = .ok (.putfield idx, 3)) (kk : ∀ d2, d2 = sF d o j v → V K Y nL k n z d2 (pc + 3) lv st) : V K Y nL k n z d pc lv (.int v :: .ref (yo Y o) :: st) := V_puti' hC ho hk hf hp hfin (by rw [hty]; rfl) (by rw [hty]; rfl) hd kk
theorem V_putz {o ci j idx : Nat} {C : String} {T : u_T} {N : Nat} {ty0 : Nat → FieldType} {v : Int32} (hC : CK K Y cc nL own fr lo) (ho : (0, o, ci) ∈ yI Y) (hk : (fkind ci)[j]? = some 0) (hf : FLK own idx ci j C T N) (hp : PLK C T N ty0) (hfin : (T j).2.2.2 = false) (hty : ty0 j = .boolean) (hb : isB v = true) (hd : decode cc pc = .ok (.putfield idx, 3)) (kk : ∀ d2, d2 = sF d o j v → V K Y nL k n z d2 (pc + 3) lv st) : V K Y nL k n z d pc lv (.int v :: .ref (yo Y o) :: st) := V_puti' hC ho hk hf hp hfin (by rw [hty]; rcases isB_or hb with rfl | rfl <;> rfl) (by rw [hty]; rcases isB_or hb with rfl | rfl <;> rfl) hd kk
theorem V_iald {a : Nat} {i : Int32} (hC : CK K Y cc nL own fr lo) (ha : (1, a, 0) ∈ yI Y) (hi : inb i (gL z a) = true) (hd : decode cc pc = .ok (.iaload, 1)) (kk : V K Y nL k n z d (pc + 1) lv (.int (gA d a (ix i)) :: st)) : V K Y nL k n z d pc lv (.int i :: .ref (gad z a) :: st) := by
  intro H locs ls hW hl
  obtain ⟨p, hp, he⟩ := wl_get z d ha
  exact va_iald hC.1 hC.2.1 hC.2.2.2.2.2.1 hW.2.2.1 p 0 he rfl (inb_vp hi) hd (kk H locs ls hW hl)
theorem V_bald {a : Nat} {i : Int32} (hC : CK K Y cc nL own fr lo) (ha : (1, a, 1) ∈ yI Y) (hi : inb i (gL z a) = true) (hd : decode cc pc = .ok (.baload, 1)) (kk : V K Y nL k n z d (pc + 1) lv (.int (gA d a (ix i)) :: st)) : V K Y nL k n z d pc lv (.int i :: .ref (gad z a) :: st) := by
  intro H locs ls hW hl
  obtain ⟨p, hp, he⟩ := wl_get z d ha
  exact va_bald hC.1 hC.2.1 hC.2.2.2.2.2.1 hW.2.2.1 p 1 he rfl (inb_vp hi) hd (kk H locs ls hW hl)
theorem V_zald {a : Nat} {i : Int32} (hC : CK K Y cc nL own fr lo) (ha : (1, a, 2) ∈ yI Y) (hi : inb i (gL z a) = true) (hd : decode cc pc = .ok (.baload, 1)) (kk : V K Y nL k n z d (pc + 1) lv (.int (gA d a (ix i)) :: st)) : V K Y nL k n z d pc lv (.int i :: .ref (gad z a) :: st) := by
  intro H locs ls hW hl
  obtain ⟨p, hp, he⟩ := wl_get z d ha
  exact va_zald hC.1 hC.2.1 hC.2.2.2.2.2.1 hW.2.2.1 p 2 he rfl (inb_vp hi) hd (kk H locs ls hW hl)
theorem V_iast {a : Nat} {i v : Int32} (hC : CK K Y cc nL own fr lo) (ha : (1, a, 0) ∈ yI Y) (hi : inb i (gL z a) = true) (hd : decode cc pc = .ok (.iastore, 1)) (kk : ∀ d2, d2 = sA d a (ix i) v → V K Y nL k n z d2 (pc + 1) lv st) : V K Y nL k n z d pc lv (.int v :: .int i :: .ref (gad z a) :: st) := by
  intro H locs ls hW hl
  obtain ⟨p, hp, he⟩ := wl_get z d ha
  refine va_iast hC.1 hC.2.1 hC.2.2.2.2.2.1 hW.2.2.1 hW.D hW.2.2.2 p 0 he rfl (inb_vp hi) hd (fun H1 locs1 hP1 _ hS1 => ?_)
  have hP2 : va_P (yD Y) vwCl (wl Y z (sA d a i.toNatClampNeg v)) H1 := by
    rw [← wl_A hC.2.2.2.2.2.2.1 hp (d := d) (d2 := sA d a i.toNatClampNeg v) rfl (fun b hb => gA_sA' hb), ← gA_sA]
    exact hP1
  exact kk _ rfl H1 locs1 ls ⟨hW.1, hW.2.1, hP2, hS1⟩ hl
theorem V_bast {a : Nat} {i v : Int32} (hC : CK K Y cc nL own fr lo) (ha : (1, a, 1) ∈ yI Y) (hi : inb i (gL z a) = true) (hd : decode cc pc = .ok (.bastore, 1)) (kk : ∀ d2, d2 = sA d a (ix i) (vp_nar .byte v) → V K Y nL k n z d2 (pc + 1) lv st) : V K Y nL k n z d pc lv (.int v :: .int i :: .ref (gad z a) :: st) := by
  intro H locs ls hW hl
  obtain ⟨p, hp, he⟩ := wl_get z d ha
  refine va_bast hC.1 hC.2.1 hC.2.2.2.2.2.1 hW.2.2.1 hW.D hW.2.2.2 p 1 he rfl (inb_vp hi) hd (fun H1 locs1 hP1 _ hS1 => ?_)
  have hP2 : va_P (yD Y) vwCl (wl Y z (sA d a i.toNatClampNeg (vp_nar .byte v))) H1 := by
    rw [← wl_A hC.2.2.2.2.2.2.1 hp (d := d) (d2 := sA d a i.toNatClampNeg (vp_nar .byte v)) rfl (fun b hb => gA_sA' hb), ← gA_sA]
    exact hP1
  exact kk _ rfl H1 locs1 ls ⟨hW.1, hW.2.1, hP2, hS1⟩ hl
theorem V_zast {a : Nat} {i v : Int32} (hC : CK K Y cc nL own fr lo) (ha : (1, a, 2) ∈ yI Y) (hi : inb i (gL z a) = true) (hd : decode cc pc = .ok (.bastore, 1)) (kk : ∀ d2, d2 = sA d a (ix i) (vp_nar .boolean v) → V K Y nL k n z d2 (pc + 1) lv st) : V K Y nL k n z d pc lv (.int v :: .int i :: .ref (gad z a) :: st) := by
  intro H locs ls hW hl
  obtain ⟨p, hp, he⟩ := wl_get z d ha
  refine va_zast hC.1 hC.2.1 hC.2.2.2.2.2.1 hW.2.2.1 hW.D hW.2.2.2 p 2 he rfl (inb_vp hi) hd (fun H1 locs1 hP1 _ hS1 => ?_)
  have hP2 : va_P (yD Y) vwCl (wl Y z (sA d a i.toNatClampNeg (vp_nar .boolean v))) H1 := by
    rw [← wl_A hC.2.2.2.2.2.2.1 hp (d := d) (d2 := sA d a i.toNatClampNeg (vp_nar .boolean v)) rfl (fun b hb => gA_sA' hb), ← gA_sA]
    exact hP1
  exact kk _ rfl H1 locs1 ls ⟨hW.1, hW.2.1, hP2, hS1⟩ hl
theorem V_alen {a t : Nat} (hC : CK K Y cc nL own fr lo) (ha : (1, a, t) ∈ yI Y) (ht : t < 3) (hd : decode cc pc = .ok (.arraylength, 1)) (kk : V K Y nL k n z d (pc + 1) lv (.int (nI (gL z a)) :: st)) : V K Y nL k n z d pc lv (.ref (gad z a) :: st) := by
  intro H locs ls hW hl
  obtain ⟨p, hp, he⟩ := wl_get z d ha
  have htt : ∃ ty, (ytys Y)[t]? = some (yc Y t, ty) := by
    rcases (show t = 0 ∨ t = 1 ∨ t = 2 by omega) with rfl | rfl | rfl
    · exact ⟨_, rfl⟩
    · exact ⟨_, rfl⟩
    · exact ⟨_, rfl⟩
  obtain ⟨ty, htt⟩ := htt
  exact va_alen hC.1 hC.2.1 hC.2.2.2.2.2.1 hW.2.2.1 p t he htt rfl hd (kk H locs ls hW hl)
/-- behind a call that leaves the shape -/
theorem V_after {r1 : Option Value} {rest st0 : List Value} (hr : ∀ (H : Heap) (locs : List Loc) (ls : Array Slot), WD K Y z d H locs → lv_has ls nL lv → va_Run (kp K) (kl K) (ke K) (kR K) (ks K) (km K) (ka K) (kb K) (kme K) (kc K) H locs k n 0 0 (F0 (km K) pc ls st0) rest (fun st oc t => oc = .returned r1 ∧ va_P (yD Y) vwCl (wl Y z d1) t.heap ∧ va_F (aY Y z) st t) (aY Y z))
    (kk : V K Y nL k n z d1 (pc + 3) lv (r1.toList ++ rest)) : V K Y nL k n z d pc lv st0 := by
  intro H locs ls hW hl T hT X
  obtain ⟨v, st₀, t, T', L, h0, X', hL, e1, e2, ⟨hv, hP1, hz, hk⟩, stp⟩ := hr H locs ls hW hl T hT X
  cases hv
  rw [h0] at hz hk
  have hS := hW.2.2.2
  obtain ⟨t2, a1, b1⟩ := kk T'.heap (locs ++ L) ls ⟨hW.1, hW.2.1, by rw [e1]; exact hP1, Nat.le_trans hS.1 (by rw [e1]; exact hz), fun q h1 h2 => by rw [e1, hk q (Nat.lt_of_lt_of_le h1 hS.1) (fun z => h2 (hW.2.1 q z))]; exact hS.2.1 q h1 h2, fun q hq => by
      rcases List.mem_append.mp hq with h | h
      · exact hS.2.2 q h
      · exact hW.2.1 _ (hL q h)⟩ hl T' rfl X'
  exact ⟨t2, stp t2 a1, b1⟩
theorem ck_callB {y : MethodName} {cc' : ByteArray} {nl' : Nat} {ret' : Option FieldType} {na idx fr' lo' mc ms : Nat} (hC : CK K Y cc nL own fr lo) (hm : ME y cc' nl' ret' na) (hlk : Cond.methodLink own idx y ∈ gt) (hroom : fr' + 1 ≤ fr ∧ 8 + (nl' + 11) + lo' ≤ lo) :
    CallB (kR K) (ks K) (ka K) own idx y cc' nl' ret' (mw y cc' nl' ret') { frames := fr', cells := mc, slots := ms, locals := lo' } mc ms na :=
  callB_of na hC.2.2.2.2.1 (mw_good hm.1) rfl rfl rfl (hC.2.2.2.2.1 _ hm.2.1) (hC.2.2.2.2.1 _ hlk) hm.2.2 ⟨by rw [hC.2.2.2.2.2.2.2.2.2.2.1]; exact hroom.1, by rw [hC.2.2.2.2.2.2.2.2.2.2.2]; exact hroom.2⟩
theorem V_inv {y : MethodName} {cc' : ByteArray} {nl' : Nat} {ret' : Option FieldType} {na idx fr' lo' o ci : Nat} {C : String} {T : u_T} {N : Nat} {As rest st0 : List Value} {r1 : Option Value} (hC : CK K Y cc nL own fr lo) (hM : MM (kl K) y cc' nl' ret' fr' lo' Y z (.ref (yo Y o) :: As) d r1 d1) (hm : MEV C y cc' nl' ret' na) (hlk : Cond.methodLink own idx y ∈ gt) (ho : (0, o, ci) ∈ yI Y) (hci : vwCl[ci]? = some (C, T, N)) (hst : st0 = As.reverse ++ .ref (yo Y o) :: rest) (hn : As.length = na) (hrest : (rest.map fun v => v.category).sum ≤ 8) (hroom : fr' + 1 ≤ fr ∧ 8 + (nl' + 11) + lo' ≤ lo) (hkn : k ≤ (kR K).cells ∧ n ≤ (kR K).slots) (hd : decode cc pc = .ok (.invokevirtual idx, 3))
    (kk : V K Y nL k n z d1 (pc + 3) lv (r1.toList ++ rest)) : V K Y nL k n z d pc lv st0 := by
  refine V_after (fun H locs ls hW hl => ?_) kk
  obtain ⟨p, hp, he⟩ := wl_get z d ho
  have hrv := va_recv hC.2.2.2.2.2.1 hW.2.2.1 hci he
  exact va_runV (Ts := gt) (nL := nL) ⟨hC.1, hC.2.1, hC.2.2.1, hC.2.2.2.1, hC.2.2.2.2.1⟩ hM ⟨ck_callB hC hm.1 hlk hroom, hC.2.2.2.2.1 _ hm.2.1, hC.2.2.2.2.1 _ hm.2.2⟩ ⟨IN.blind, hrv, fun U hU hWm => ⟨rfl, hW.IN hC hU hWm⟩⟩ rfl hn hl.1 hst (lv_room hrest) hd hkn
theorem V_ins {y : MethodName} {cc' : ByteArray} {nl' : Nat} {ret' : Option FieldType} {na idx fr' lo' : Nat} {As rest st0 : List Value} {r1 : Option Value} (hC : CK K Y cc nL own fr lo) (hM : MM (kl K) y cc' nl' ret' fr' lo' Y z As d r1 d1) (hm : MES y cc' nl' ret' na) (hlk : Cond.methodLink own idx y ∈ gt) (hst : st0 = As.reverse ++ rest) (hn : As.length = na) (hrest : (rest.map fun v => v.category).sum ≤ 8) (hroom : fr' + 1 ≤ fr ∧ 8 + (nl' + 11) + lo' ≤ lo) (hkn : k ≤ (kR K).cells ∧ n ≤ (kR K).slots) (hd : decode cc pc = .ok (.invokestatic idx, 3))
    (kk : V K Y nL k n z d1 (pc + 3) lv (r1.toList ++ rest)) : V K Y nL k n z d pc lv st0 := by
  refine V_after (fun H locs ls hW hl => ?_) kk
  exact va_runS (Ts := gt) (nL := nL) ⟨hC.1, hC.2.1, hC.2.2.1, hC.2.2.2.1, hC.2.2.2.2.1⟩ hM ⟨ck_callB hC hm.1 hlk hroom, hC.2.2.2.2.1 _ hm.2⟩ ⟨IN.blind, fun U hU hWm => ⟨rfl, hW.IN hC hU hWm⟩⟩ rfl hn hl.1 hst (lv_room hrest) hd hkn
/-- returns -/
theorem V_iret {v : Int32} (hC : CK K Y cc nL own fr lo) (hr : (kme K).sig.returnType = some .int) (hQ : kQ K = MQ (kb K) (QM Y z (some (.int v)) d) (ka K) (ks K) 0 0 (aY Y z)) (hA : kA K = aY Y z) (hd : decode cc pc = .ok (.ireturn, 1)) : V K Y nL 0 0 z d pc lv [.int v] := by
  intro H locs ls hW hl
  rw [hQ]
  have hS := hW.2.2.2
  rw [hA] at hS
  exact W.iret hC.1 hC.2.1 hr (fun t ht _ => ⟨rfl, by rw [ht]; exact hW.2.2.1, hS.F ht⟩) hS.2.2 hd hC.2.2.2.2.2.2.2.2.1
theorem V_zret {v : Int32} {ty : FieldType} (hC : CK K Y cc nL own fr lo) (hr : (kme K).sig.returnType = some ty) (hn : narrow ty (.int v) = .int v) (hQ : kQ K = MQ (kb K) (QM Y z (some (.int v)) d) (ka K) (ks K) 0 0 (aY Y z)) (hA : kA K = aY Y z) (hd : decode cc pc = .ok (.ireturn, 1)) : V K Y nL 0 0 z d pc lv [.int v] := by
  intro H locs ls hW hl
  rw [hQ]
  have hS := hW.2.2.2
  rw [hA] at hS
  exact W.zret hC.1 hC.2.1 hr hn (fun t ht _ => ⟨rfl, by rw [ht]; exact hW.2.2.1, hS.F ht⟩) hS.2.2 hd hC.2.2.2.2.2.2.2.2.1
theorem nar_b {v : Int32} (h : isB v = true) : narrow .boolean (.int v) = .int v := by rcases isB_or h with rfl | rfl <;> rfl
theorem V_vret (hC : CK K Y cc nL own fr lo) (hr : (kme K).sig.returnType = none) (hQ : kQ K = MQ (kb K) (QM Y z none d) (ka K) (ks K) 0 0 (aY Y z)) (hA : kA K = aY Y z) (hd : decode cc pc = .ok (.return_, 1)) : V K Y nL 0 0 z d pc lv [] := by
  intro H locs ls hW hl
  rw [hQ]
  have hS := hW.2.2.2
  rw [hA] at hS
  exact W.vret hC.1 hC.2.1 hr (fun t ht _ => ⟨rfl, by rw [ht]; exact hW.2.2.1, hS.F ht⟩) hS.2.2 hd hC.2.2.2.2.2.2.2.2.1
/-- Math, arraycopy -/
def MML (own : String) (idx : Nat) (y : MethodName) (cc' : ByteArray) (na : Nat) : Prop := Cond.methodLink own idx y ∈ gt ∧ Cond.static y ∈ gt ∧ Cond.initialized "java/lang/Math" ∈ gt ∧ Cond.code y cc' na (some .int) ∈ gt
theorem V_mmin {idx : Nat} {x y : Int32} (hC : CK K Y cc nL own fr lo) (hw : MML own idx Lib.Math.min.name Lib.Math.min.code 2) (hfr : 1 ≤ fr) (hlo : (st.map fun v => v.category).sum + 13 ≤ lo) (hkn : k ≤ (kR K).cells ∧ n ≤ (kR K).slots) (hd : decode cc pc = .ok (.invokestatic idx, 3)) (kk : V K Y nL k n z d (pc + 3) lv (.int (if y < x then y else x) :: st)) : V K Y nL k n z d pc lv (.int y :: .int x :: st) := fun H locs ls hW hl => va_mmin hC.1 hC.2.1 (hC.2.2.1.trans hl.1.symm) hC.2.2.2.1 (hC.2.2.2.2.1 _ hw.1) (hC.2.2.2.2.1 _ hw.2.1) (hC.2.2.2.2.1 _ hw.2.2.1) (hC.2.2.2.2.1 _ hw.2.2.2) (by rw [hC.2.2.2.2.2.2.2.2.2.2.1]; exact hfr) (by rw [hC.2.2.2.2.2.2.2.2.2.2.2]; exact hlo) hkn.1 hkn.2 hd (kk H locs ls hW hl)
theorem V_mmax {idx : Nat} {x y : Int32} (hC : CK K Y cc nL own fr lo) (hw : MML own idx Lib.Math.max.name Lib.Math.max.code 2) (hfr : 1 ≤ fr) (hlo : (st.map fun v => v.category).sum + 13 ≤ lo) (hkn : k ≤ (kR K).cells ∧ n ≤ (kR K).slots) (hd : decode cc pc = .ok (.invokestatic idx, 3)) (kk : V K Y nL k n z d (pc + 3) lv (.int (if x < y then y else x) :: st)) : V K Y nL k n z d pc lv (.int y :: .int x :: st) := fun H locs ls hW hl => va_mmax hC.1 hC.2.1 (hC.2.2.1.trans hl.1.symm) hC.2.2.2.1 (hC.2.2.2.2.1 _ hw.1) (hC.2.2.2.2.1 _ hw.2.1) (hC.2.2.2.2.1 _ hw.2.2.1) (hC.2.2.2.2.1 _ hw.2.2.2) (by rw [hC.2.2.2.2.2.2.2.2.2.2.1]; exact hfr) (by rw [hC.2.2.2.2.2.2.2.2.2.2.2]; exact hlo) hkn.1 hkn.2 hd (kk H locs ls hW hl)
theorem V_mabs {idx : Nat} {x : Int32} (hC : CK K Y cc nL own fr lo) (hw : MML own idx Lib.Math.abs.name Lib.Math.abs.code 1) (hfr : 1 ≤ fr) (hlo : (st.map fun v => v.category).sum + 13 ≤ lo) (hkn : k ≤ (kR K).cells ∧ n ≤ (kR K).slots) (hd : decode cc pc = .ok (.invokestatic idx, 3)) (kk : V K Y nL k n z d (pc + 3) lv (.int (if 0 ≤ x then x else 0 - x) :: st)) : V K Y nL k n z d pc lv (.int x :: st) := fun H locs ls hW hl => va_mabs hC.1 hC.2.1 (hC.2.2.1.trans hl.1.symm) hC.2.2.2.1 (hC.2.2.2.2.1 _ hw.1) (hC.2.2.2.2.1 _ hw.2.1) (hC.2.2.2.2.1 _ hw.2.2.1) (hC.2.2.2.2.1 _ hw.2.2.2) (by rw [hC.2.2.2.2.2.2.2.2.2.2.1]; exact hfr) (by rw [hC.2.2.2.2.2.2.2.2.2.2.2]; exact hlo) hkn.1 hkn.2 hd (kk H locs ls hW hl)
/-- whether a copy stays inside -/
def cpok (n0 n1 : Nat) (sp dp m : Int32) : Bool := decide (0 ≤ sp.toInt) && decide (0 ≤ dp.toInt) && decide (0 ≤ m.toInt) && decide (ix sp + ix m ≤ n0) && decide (ix dp + ix m ≤ n1)
def ACL (own : String) (idx : Nat) : Prop := Cond.methodLink own idx arraycopyName ∈ gt ∧ Cond.native arraycopyName ∈ gt ∧ Cond.static arraycopyName ∈ gt ∧ Cond.initialized "java/lang/System" ∈ gt
theorem V_acopy {idx a b : Nat} {sp dp m : Int32} (hC : CK K Y cc nL own fr lo) (hw : ACL own idx) (ha : (1, a, 0) ∈ yI Y) (hb : (1, b, 0) ∈ yI Y) (hok : cpok (gL z a) (gL z b) sp dp m = true) (hfr : 1 ≤ fr) (hlo : (st.map fun v => v.category).sum + (nativeFrameWords "java/lang/System" "arraycopy" 5 + 11) ≤ lo) (hd : decode cc pc = .ok (.invokestatic idx, 3)) (kk : ∀ d2, d2 = sR d b (va_cpy (gA d a) (gA d b) (ix sp) (ix dp) (ix m)) → V K Y nL k n z d2 (pc + 3) lv st) : V K Y nL k n z d pc lv (.int m :: .int dp :: .ref (gad z b) :: .int sp :: .ref (gad z a) :: st) := by
  intro H locs ls hW hl
  obtain ⟨p, hp, he⟩ := wl_get z d ha
  obtain ⟨p2, hp2, he2⟩ := wl_get z d hb
  simp only [cpok, Bool.and_eq_true, decide_eq_true_eq] at hok
  obtain ⟨⟨⟨⟨c1, c2⟩, c3⟩, c4⟩, c5⟩ := hok
  have ng : ∀ {x : Int32}, 0 ≤ x.toInt → ¬ x < 0 := fun {x} h q => by
    have := Int32.lt_iff_toInt_lt.mp q
    simp at this
    omega
  refine va_copyi hC.1 hC.2.1 (hC.2.2.1.trans hl.1.symm) hC.2.2.2.1 (hC.2.2.2.2.1 _ hw.1) (hC.2.2.2.2.1 _ hw.2.1) (hC.2.2.2.2.1 _ hw.2.2.1) (hC.2.2.2.2.1 _ hw.2.2.2) hC.2.2.2.2.2.1 hW.2.2.1 hW.D hW.2.2.2 p p2 0 0 he he2 rfl rfl rfl (ng c1) (ng c2) (ng c3) c4 c5 (fun _ _ => rfl) (by rw [hC.2.2.2.2.2.2.2.2.2.2.1]; exact hfr) (by rw [hC.2.2.2.2.2.2.2.2.2.2.2]; exact hlo) hd (fun H1 locs1 hP1 _ hS1 => ?_)
  have hP2 : va_P (yD Y) vwCl (wl Y z (sR d b (va_cpy (gA d a) (gA d b) (ix sp) (ix dp) (ix m)))) H1 := by
    rw [← wl_A hC.2.2.2.2.2.2.1 hp2 (d := d) (d2 := sR d b (va_cpy (gA d a) (gA d b) (ix sp) (ix dp) (ix m))) rfl (fun q hq => gA_sR' hq), gA_sR]
    exact hP1
  exact kk _ rfl H1 locs1 ls ⟨hW.1, hW.2.1, hP2, hS1⟩ hl
end ROWS2
end
