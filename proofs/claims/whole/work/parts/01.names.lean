-- ===== PART A: goes FIRST, ahead of the names: the tables' words, and 'selects' of the private methods out of them =====
/-- a private method of a class that the tables say can be made, by its rows of tables_1 -/
def lw_okq (q : MethodName × Nat) : Prop := (q.1.cls ≠ "java/lang/invoke/MethodHandle" ∧ q.1.cls ≠ "java/lang/invoke/VarHandle") ∧ Cond.instantiable q.1.cls q.2 ∈ tables_1 ∧ Cond.privateMethod q.1 ∈ tables_1 ∧ Cond.instanceMethod q.1 ∈ tables_1
theorem lw_p0 : lw_okq (⟨"NinePence$Text", "split", "()V"⟩, 9) := ⟨⟨by decide +kernel, by decide +kernel⟩, List.mem_of_getElem? (i := 28) (by decide +kernel), List.mem_of_getElem? (i := 330) (by decide +kernel), List.mem_of_getElem? (i := 331) (by decide +kernel)⟩
theorem lw_p1 : lw_okq (⟨"NinePence$Text", "isBegin", "(I)Z"⟩, 9) := ⟨⟨by decide +kernel, by decide +kernel⟩, List.mem_of_getElem? (i := 28) (by decide +kernel), List.mem_of_getElem? (i := 334) (by decide +kernel), List.mem_of_getElem? (i := 335) (by decide +kernel)⟩
theorem lw_p2 : lw_okq (⟨"NinePence$Text", "sortAt", "(I)I"⟩, 9) := ⟨⟨by decide +kernel, by decide +kernel⟩, List.mem_of_getElem? (i := 28) (by decide +kernel), List.mem_of_getElem? (i := 338) (by decide +kernel), List.mem_of_getElem? (i := 339) (by decide +kernel)⟩
theorem lw_p3 : lw_okq (⟨"NinePence$Text", "setToken", "(II)V"⟩, 9) := ⟨⟨by decide +kernel, by decide +kernel⟩, List.mem_of_getElem? (i := 28) (by decide +kernel), List.mem_of_getElem? (i := 348) (by decide +kernel), List.mem_of_getElem? (i := 349) (by decide +kernel)⟩
theorem lw_p4 : lw_okq (⟨"NinePence$Text", "valueOf", "(II)I"⟩, 9) := ⟨⟨by decide +kernel, by decide +kernel⟩, List.mem_of_getElem? (i := 28) (by decide +kernel), List.mem_of_getElem? (i := 352) (by decide +kernel), List.mem_of_getElem? (i := 353) (by decide +kernel)⟩
theorem lw_p5 : lw_okq (⟨"NinePence$Text", "wordOf", "(II)I"⟩, 9) := ⟨⟨by decide +kernel, by decide +kernel⟩, List.mem_of_getElem? (i := 28) (by decide +kernel), List.mem_of_getElem? (i := 356) (by decide +kernel), List.mem_of_getElem? (i := 357) (by decide +kernel)⟩
theorem lw_p6 : lw_okq (⟨"NinePence$Text", "is", "(Ljava/lang/String;II)Z"⟩, 9) := ⟨⟨by decide +kernel, by decide +kernel⟩, List.mem_of_getElem? (i := 28) (by decide +kernel), List.mem_of_getElem? (i := 361) (by decide +kernel), List.mem_of_getElem? (i := 362) (by decide +kernel)⟩
theorem lw_p7 : lw_okq (⟨"NinePence$Text", "readLine", "(I)Z"⟩, 9) := ⟨⟨by decide +kernel, by decide +kernel⟩, List.mem_of_getElem? (i := 28) (by decide +kernel), List.mem_of_getElem? (i := 421) (by decide +kernel), List.mem_of_getElem? (i := 422) (by decide +kernel)⟩
theorem lw_p8 : lw_okq (⟨"NinePence$Text", "takeNumber", "(IIII)Z"⟩, 9) := ⟨⟨by decide +kernel, by decide +kernel⟩, List.mem_of_getElem? (i := 28) (by decide +kernel), List.mem_of_getElem? (i := 426) (by decide +kernel), List.mem_of_getElem? (i := 427) (by decide +kernel)⟩
theorem lw_p9 : lw_okq (⟨"NinePence$Text", "readDue", "(I)Z"⟩, 9) := ⟨⟨by decide +kernel, by decide +kernel⟩, List.mem_of_getElem? (i := 28) (by decide +kernel), List.mem_of_getElem? (i := 434) (by decide +kernel), List.mem_of_getElem? (i := 435) (by decide +kernel)⟩
theorem lw_p10 : lw_okq (⟨"NinePence$Ledger", "takeLine", "(LNinePence$Text;I)V"⟩, 10) := ⟨⟨by decide +kernel, by decide +kernel⟩, List.mem_of_getElem? (i := 66) (by decide +kernel), List.mem_of_getElem? (i := 447) (by decide +kernel), List.mem_of_getElem? (i := 448) (by decide +kernel)⟩
theorem lw_p11 : lw_okq (⟨"NinePence$Ledger", "add", "(ILNinePence$Text;I)V"⟩, 10) := ⟨⟨by decide +kernel, by decide +kernel⟩, List.mem_of_getElem? (i := 66) (by decide +kernel), List.mem_of_getElem? (i := 456) (by decide +kernel), List.mem_of_getElem? (i := 457) (by decide +kernel)⟩
theorem lw_p12 : lw_okq (⟨"NinePence$Ledger", "setPart", "(III)V"⟩, 10) := ⟨⟨by decide +kernel, by decide +kernel⟩, List.mem_of_getElem? (i := 66) (by decide +kernel), List.mem_of_getElem? (i := 460) (by decide +kernel), List.mem_of_getElem? (i := 461) (by decide +kernel)⟩
theorem lw_p13 : lw_okq (⟨"NinePence$Ledger", "setDue", "(III)V"⟩, 10) := ⟨⟨by decide +kernel, by decide +kernel⟩, List.mem_of_getElem? (i := 66) (by decide +kernel), List.mem_of_getElem? (i := 469) (by decide +kernel), List.mem_of_getElem? (i := 470) (by decide +kernel)⟩
theorem lw_p14 : lw_okq (⟨"NinePence", "isNineTimesOrTenths", "(I)Z"⟩, 11) := ⟨⟨by decide +kernel, by decide +kernel⟩, List.mem_of_getElem? (i := 20) (by decide +kernel), List.mem_of_getElem? (i := 577) (by decide +kernel), List.mem_of_getElem? (i := 578) (by decide +kernel)⟩
theorem lw_p15 : lw_okq (⟨"NinePence", "workOut", "()V"⟩, 11) := ⟨⟨by decide +kernel, by decide +kernel⟩, List.mem_of_getElem? (i := 20) (by decide +kernel), List.mem_of_getElem? (i := 585) (by decide +kernel), List.mem_of_getElem? (i := 586) (by decide +kernel)⟩
def lw_privs_1 : List (MethodName × Nat) := [(⟨"NinePence$Text", "split", "()V"⟩, 9), (⟨"NinePence$Text", "isBegin", "(I)Z"⟩, 9), (⟨"NinePence$Text", "sortAt", "(I)I"⟩, 9), (⟨"NinePence$Text", "setToken", "(II)V"⟩, 9), (⟨"NinePence$Text", "valueOf", "(II)I"⟩, 9), (⟨"NinePence$Text", "wordOf", "(II)I"⟩, 9), (⟨"NinePence$Text", "is", "(Ljava/lang/String;II)Z"⟩, 9), (⟨"NinePence$Text", "readLine", "(I)Z"⟩, 9), (⟨"NinePence$Text", "takeNumber", "(IIII)Z"⟩, 9), (⟨"NinePence$Text", "readDue", "(I)Z"⟩, 9), (⟨"NinePence$Ledger", "takeLine", "(LNinePence$Text;I)V"⟩, 10), (⟨"NinePence$Ledger", "add", "(ILNinePence$Text;I)V"⟩, 10), (⟨"NinePence$Ledger", "setPart", "(III)V"⟩, 10), (⟨"NinePence$Ledger", "setDue", "(III)V"⟩, 10), (⟨"NinePence", "isNineTimesOrTenths", "(I)Z"⟩, 11), (⟨"NinePence", "workOut", "()V"⟩, 11)]
theorem lw_r1 : ∀ q ∈ lw_privs_1, lw_okq q := List.forall_mem_cons.mpr ⟨lw_p0, List.forall_mem_cons.mpr ⟨lw_p1, List.forall_mem_cons.mpr ⟨lw_p2, List.forall_mem_cons.mpr ⟨lw_p3, List.forall_mem_cons.mpr ⟨lw_p4, List.forall_mem_cons.mpr ⟨lw_p5, List.forall_mem_cons.mpr ⟨lw_p6, List.forall_mem_cons.mpr ⟨lw_p7, List.forall_mem_cons.mpr ⟨lw_p8, List.forall_mem_cons.mpr ⟨lw_p9, List.forall_mem_cons.mpr ⟨lw_p10, List.forall_mem_cons.mpr ⟨lw_p11, List.forall_mem_cons.mpr ⟨lw_p12, List.forall_mem_cons.mpr ⟨lw_p13, List.forall_mem_cons.mpr ⟨lw_p14, List.forall_mem_cons.mpr ⟨lw_p15, fun _ h => absurd h List.not_mem_nil⟩⟩⟩⟩⟩⟩⟩⟩⟩⟩⟩⟩⟩⟩⟩⟩
theorem lw_p16 : lw_okq (⟨"NinePence$Slips", "oddsAt", "(II)I"⟩, 9) := ⟨⟨by decide +kernel, by decide +kernel⟩, List.mem_of_getElem? (i := 116) (by decide +kernel), List.mem_of_getElem? (i := 594) (by decide +kernel), List.mem_of_getElem? (i := 595) (by decide +kernel)⟩
theorem lw_p17 : lw_okq (⟨"NinePence$Slips", "putTurns", "(III)V"⟩, 9) := ⟨⟨by decide +kernel, by decide +kernel⟩, List.mem_of_getElem? (i := 116) (by decide +kernel), List.mem_of_getElem? (i := 599) (by decide +kernel), List.mem_of_getElem? (i := 600) (by decide +kernel)⟩
theorem lw_p18 : lw_okq (⟨"NinePence$Slips", "putSum", "(IIII)V"⟩, 9) := ⟨⟨by decide +kernel, by decide +kernel⟩, List.mem_of_getElem? (i := 116) (by decide +kernel), List.mem_of_getElem? (i := 609) (by decide +kernel), List.mem_of_getElem? (i := 610) (by decide +kernel)⟩
theorem lw_p19 : lw_okq (⟨"NinePence$Slips", "put", "(IIIII)V"⟩, 9) := ⟨⟨by decide +kernel, by decide +kernel⟩, List.mem_of_getElem? (i := 116) (by decide +kernel), List.mem_of_getElem? (i := 613) (by decide +kernel), List.mem_of_getElem? (i := 614) (by decide +kernel)⟩
theorem lw_p20 : lw_okq (⟨"NinePence$Slips", "putFigures", "(III)V"⟩, 9) := ⟨⟨by decide +kernel, by decide +kernel⟩, List.mem_of_getElem? (i := 116) (by decide +kernel), List.mem_of_getElem? (i := 618) (by decide +kernel), List.mem_of_getElem? (i := 619) (by decide +kernel)⟩
theorem lw_p21 : lw_okq (⟨"NinePence$Slips", "putMissed", "(I)V"⟩, 9) := ⟨⟨by decide +kernel, by decide +kernel⟩, List.mem_of_getElem? (i := 116) (by decide +kernel), List.mem_of_getElem? (i := 645) (by decide +kernel), List.mem_of_getElem? (i := 646) (by decide +kernel)⟩
theorem lw_p22 : lw_okq (⟨"NinePence$Slips", "putCarries", "(I)V"⟩, 9) := ⟨⟨by decide +kernel, by decide +kernel⟩, List.mem_of_getElem? (i := 116) (by decide +kernel), List.mem_of_getElem? (i := 651) (by decide +kernel), List.mem_of_getElem? (i := 652) (by decide +kernel)⟩
theorem lw_p23 : lw_okq (⟨"NinePence$Slips", "chain", "()V"⟩, 9) := ⟨⟨by decide +kernel, by decide +kernel⟩, List.mem_of_getElem? (i := 116) (by decide +kernel), List.mem_of_getElem? (i := 659) (by decide +kernel), List.mem_of_getElem? (i := 660) (by decide +kernel)⟩
theorem lw_p24 : lw_okq (⟨"NinePence$Singles", "leavesNoPageOff", "(I)Z"⟩, 7) := ⟨⟨by decide +kernel, by decide +kernel⟩, List.mem_of_getElem? (i := 152) (by decide +kernel), List.mem_of_getElem? (i := 679) (by decide +kernel), List.mem_of_getElem? (i := 680) (by decide +kernel)⟩
theorem lw_p25 : lw_okq (⟨"NinePence$Pairs", "findWith", "(II)V"⟩, 6) := ⟨⟨by decide +kernel, by decide +kernel⟩, List.mem_of_getElem? (i := 183) (by decide +kernel), List.mem_of_getElem? (i := 708) (by decide +kernel), List.mem_of_getElem? (i := 709) (by decide +kernel)⟩
theorem lw_p26 : lw_okq (⟨"NinePence$Pairs", "take", "(II)V"⟩, 6) := ⟨⟨by decide +kernel, by decide +kernel⟩, List.mem_of_getElem? (i := 183) (by decide +kernel), List.mem_of_getElem? (i := 720) (by decide +kernel), List.mem_of_getElem? (i := 721) (by decide +kernel)⟩
theorem lw_p27 : lw_okq (⟨"NinePence$Look", "insert", "(I)V"⟩, 9) := ⟨⟨by decide +kernel, by decide +kernel⟩, List.mem_of_getElem? (i := 212) (by decide +kernel), List.mem_of_getElem? (i := 745) (by decide +kernel), List.mem_of_getElem? (i := 746) (by decide +kernel)⟩
theorem lw_p28 : lw_okq (⟨"NinePence$Look", "isSooner", "(II)Z"⟩, 9) := ⟨⟨by decide +kernel, by decide +kernel⟩, List.mem_of_getElem? (i := 212) (by decide +kernel), List.mem_of_getElem? (i := 749) (by decide +kernel), List.mem_of_getElem? (i := 750) (by decide +kernel)⟩
theorem lw_p29 : lw_okq (⟨"NinePence$Look", "sumUp", "()V"⟩, 9) := ⟨⟨by decide +kernel, by decide +kernel⟩, List.mem_of_getElem? (i := 212) (by decide +kernel), List.mem_of_getElem? (i := 753) (by decide +kernel), List.mem_of_getElem? (i := 754) (by decide +kernel)⟩
theorem lw_p30 : lw_okq (⟨"NinePence$OtherBook", "costFrom", "(II)I"⟩, 5) := ⟨⟨by decide +kernel, by decide +kernel⟩, List.mem_of_getElem? (i := 249) (by decide +kernel), List.mem_of_getElem? (i := 868) (by decide +kernel), List.mem_of_getElem? (i := 869) (by decide +kernel)⟩
theorem lw_p31 : lw_okq (⟨"NinePence$OtherBook", "leastLine", "(II)I"⟩, 5) := ⟨⟨by decide +kernel, by decide +kernel⟩, List.mem_of_getElem? (i := 249) (by decide +kernel), List.mem_of_getElem? (i := 881) (by decide +kernel), List.mem_of_getElem? (i := 882) (by decide +kernel)⟩
def lw_privs_2 : List (MethodName × Nat) := [(⟨"NinePence$Slips", "oddsAt", "(II)I"⟩, 9), (⟨"NinePence$Slips", "putTurns", "(III)V"⟩, 9), (⟨"NinePence$Slips", "putSum", "(IIII)V"⟩, 9), (⟨"NinePence$Slips", "put", "(IIIII)V"⟩, 9), (⟨"NinePence$Slips", "putFigures", "(III)V"⟩, 9), (⟨"NinePence$Slips", "putMissed", "(I)V"⟩, 9), (⟨"NinePence$Slips", "putCarries", "(I)V"⟩, 9), (⟨"NinePence$Slips", "chain", "()V"⟩, 9), (⟨"NinePence$Singles", "leavesNoPageOff", "(I)Z"⟩, 7), (⟨"NinePence$Pairs", "findWith", "(II)V"⟩, 6), (⟨"NinePence$Pairs", "take", "(II)V"⟩, 6), (⟨"NinePence$Look", "insert", "(I)V"⟩, 9), (⟨"NinePence$Look", "isSooner", "(II)Z"⟩, 9), (⟨"NinePence$Look", "sumUp", "()V"⟩, 9), (⟨"NinePence$OtherBook", "costFrom", "(II)I"⟩, 5), (⟨"NinePence$OtherBook", "leastLine", "(II)I"⟩, 5)]
theorem lw_r2 : ∀ q ∈ lw_privs_2, lw_okq q := List.forall_mem_cons.mpr ⟨lw_p16, List.forall_mem_cons.mpr ⟨lw_p17, List.forall_mem_cons.mpr ⟨lw_p18, List.forall_mem_cons.mpr ⟨lw_p19, List.forall_mem_cons.mpr ⟨lw_p20, List.forall_mem_cons.mpr ⟨lw_p21, List.forall_mem_cons.mpr ⟨lw_p22, List.forall_mem_cons.mpr ⟨lw_p23, List.forall_mem_cons.mpr ⟨lw_p24, List.forall_mem_cons.mpr ⟨lw_p25, List.forall_mem_cons.mpr ⟨lw_p26, List.forall_mem_cons.mpr ⟨lw_p27, List.forall_mem_cons.mpr ⟨lw_p28, List.forall_mem_cons.mpr ⟨lw_p29, List.forall_mem_cons.mpr ⟨lw_p30, List.forall_mem_cons.mpr ⟨lw_p31, fun _ h => absurd h List.not_mem_nil⟩⟩⟩⟩⟩⟩⟩⟩⟩⟩⟩⟩⟩⟩⟩⟩
theorem lw_p32 : lw_okq (⟨"NinePenceModel", "token", "()V"⟩, 34) := ⟨⟨by decide +kernel, by decide +kernel⟩, List.mem_of_getElem? (i := 889) (by decide +kernel), List.mem_of_getElem? (i := 1015) (by decide +kernel), List.mem_of_getElem? (i := 1016) (by decide +kernel)⟩
theorem lw_p33 : lw_okq (⟨"NinePenceModel", "readsLine", "()Z"⟩, 34) := ⟨⟨by decide +kernel, by decide +kernel⟩, List.mem_of_getElem? (i := 889) (by decide +kernel), List.mem_of_getElem? (i := 1022) (by decide +kernel), List.mem_of_getElem? (i := 1023) (by decide +kernel)⟩
theorem lw_p34 : lw_okq (⟨"NinePenceModel", "isWord", "(II)Z"⟩, 34) := ⟨⟨by decide +kernel, by decide +kernel⟩, List.mem_of_getElem? (i := 889) (by decide +kernel), List.mem_of_getElem? (i := 1027) (by decide +kernel), List.mem_of_getElem? (i := 1028) (by decide +kernel)⟩
theorem lw_p35 : lw_okq (⟨"NinePenceModel", "readsRest", "(I)Z"⟩, 34) := ⟨⟨by decide +kernel, by decide +kernel⟩, List.mem_of_getElem? (i := 889) (by decide +kernel), List.mem_of_getElem? (i := 1038) (by decide +kernel), List.mem_of_getElem? (i := 1039) (by decide +kernel)⟩
theorem lw_p36 : lw_okq (⟨"NinePenceModel", "reads", "(III)Z"⟩, 34) := ⟨⟨by decide +kernel, by decide +kernel⟩, List.mem_of_getElem? (i := 889) (by decide +kernel), List.mem_of_getElem? (i := 1043) (by decide +kernel), List.mem_of_getElem? (i := 1044) (by decide +kernel)⟩
theorem lw_p37 : lw_okq (⟨"NinePenceModel", "isNumber", "()Z"⟩, 34) := ⟨⟨by decide +kernel, by decide +kernel⟩, List.mem_of_getElem? (i := 889) (by decide +kernel), List.mem_of_getElem? (i := 1047) (by decide +kernel), List.mem_of_getElem? (i := 1048) (by decide +kernel)⟩
theorem lw_p38 : lw_okq (⟨"NinePenceModel", "value", "()I"⟩, 34) := ⟨⟨by decide +kernel, by decide +kernel⟩, List.mem_of_getElem? (i := 889) (by decide +kernel), List.mem_of_getElem? (i := 1051) (by decide +kernel), List.mem_of_getElem? (i := 1052) (by decide +kernel)⟩
theorem lw_p39 : lw_okq (⟨"NinePenceModel", "readsPage", "()Z"⟩, 34) := ⟨⟨by decide +kernel, by decide +kernel⟩, List.mem_of_getElem? (i := 889) (by decide +kernel), List.mem_of_getElem? (i := 1055) (by decide +kernel), List.mem_of_getElem? (i := 1056) (by decide +kernel)⟩
theorem lw_p40 : lw_okq (⟨"NinePenceModel", "lay", "(I)V"⟩, 34) := ⟨⟨by decide +kernel, by decide +kernel⟩, List.mem_of_getElem? (i := 889) (by decide +kernel), List.mem_of_getElem? (i := 1065) (by decide +kernel), List.mem_of_getElem? (i := 1066) (by decide +kernel)⟩
theorem lw_p41 : lw_okq (⟨"NinePenceModel", "isEntry", "(I)Z"⟩, 34) := ⟨⟨by decide +kernel, by decide +kernel⟩, List.mem_of_getElem? (i := 889) (by decide +kernel), List.mem_of_getElem? (i := 1073) (by decide +kernel), List.mem_of_getElem? (i := 1074) (by decide +kernel)⟩
theorem lw_p42 : lw_okq (⟨"NinePenceModel", "outOf", "(I)I"⟩, 34) := ⟨⟨by decide +kernel, by decide +kernel⟩, List.mem_of_getElem? (i := 889) (by decide +kernel), List.mem_of_getElem? (i := 1084) (by decide +kernel), List.mem_of_getElem? (i := 1085) (by decide +kernel)⟩
theorem lw_p43 : lw_okq (⟨"NinePenceModel", "hasDue", "(I)Z"⟩, 34) := ⟨⟨by decide +kernel, by decide +kernel⟩, List.mem_of_getElem? (i := 889) (by decide +kernel), List.mem_of_getElem? (i := 1093) (by decide +kernel), List.mem_of_getElem? (i := 1094) (by decide +kernel)⟩
theorem lw_p44 : lw_okq (⟨"NinePenceModel", "offOf", "(I)I"⟩, 34) := ⟨⟨by decide +kernel, by decide +kernel⟩, List.mem_of_getElem? (i := 889) (by decide +kernel), List.mem_of_getElem? (i := 1097) (by decide +kernel), List.mem_of_getElem? (i := 1098) (by decide +kernel)⟩
theorem lw_p45 : lw_okq (⟨"NinePenceModel", "layOnes", "(Z)V"⟩, 34) := ⟨⟨by decide +kernel, by decide +kernel⟩, List.mem_of_getElem? (i := 889) (by decide +kernel), List.mem_of_getElem? (i := 1138) (by decide +kernel), List.mem_of_getElem? (i := 1139) (by decide +kernel)⟩
theorem lw_p46 : lw_okq (⟨"NinePenceModel", "laySlips", "()V"⟩, 34) := ⟨⟨by decide +kernel, by decide +kernel⟩, List.mem_of_getElem? (i := 889) (by decide +kernel), List.mem_of_getElem? (i := 1142) (by decide +kernel), List.mem_of_getElem? (i := 1143) (by decide +kernel)⟩
theorem lw_p47 : lw_okq (⟨"NinePenceModel", "layKind", "(II)V"⟩, 34) := ⟨⟨by decide +kernel, by decide +kernel⟩, List.mem_of_getElem? (i := 889) (by decide +kernel), List.mem_of_getElem? (i := 1146) (by decide +kernel), List.mem_of_getElem? (i := 1147) (by decide +kernel)⟩
def lw_privs_3 : List (MethodName × Nat) := [(⟨"NinePenceModel", "token", "()V"⟩, 34), (⟨"NinePenceModel", "readsLine", "()Z"⟩, 34), (⟨"NinePenceModel", "isWord", "(II)Z"⟩, 34), (⟨"NinePenceModel", "readsRest", "(I)Z"⟩, 34), (⟨"NinePenceModel", "reads", "(III)Z"⟩, 34), (⟨"NinePenceModel", "isNumber", "()Z"⟩, 34), (⟨"NinePenceModel", "value", "()I"⟩, 34), (⟨"NinePenceModel", "readsPage", "()Z"⟩, 34), (⟨"NinePenceModel", "lay", "(I)V"⟩, 34), (⟨"NinePenceModel", "isEntry", "(I)Z"⟩, 34), (⟨"NinePenceModel", "outOf", "(I)I"⟩, 34), (⟨"NinePenceModel", "hasDue", "(I)Z"⟩, 34), (⟨"NinePenceModel", "offOf", "(I)I"⟩, 34), (⟨"NinePenceModel", "layOnes", "(Z)V"⟩, 34), (⟨"NinePenceModel", "laySlips", "()V"⟩, 34), (⟨"NinePenceModel", "layKind", "(II)V"⟩, 34)]
theorem lw_r3 : ∀ q ∈ lw_privs_3, lw_okq q := List.forall_mem_cons.mpr ⟨lw_p32, List.forall_mem_cons.mpr ⟨lw_p33, List.forall_mem_cons.mpr ⟨lw_p34, List.forall_mem_cons.mpr ⟨lw_p35, List.forall_mem_cons.mpr ⟨lw_p36, List.forall_mem_cons.mpr ⟨lw_p37, List.forall_mem_cons.mpr ⟨lw_p38, List.forall_mem_cons.mpr ⟨lw_p39, List.forall_mem_cons.mpr ⟨lw_p40, List.forall_mem_cons.mpr ⟨lw_p41, List.forall_mem_cons.mpr ⟨lw_p42, List.forall_mem_cons.mpr ⟨lw_p43, List.forall_mem_cons.mpr ⟨lw_p44, List.forall_mem_cons.mpr ⟨lw_p45, List.forall_mem_cons.mpr ⟨lw_p46, List.forall_mem_cons.mpr ⟨lw_p47, fun _ h => absurd h List.not_mem_nil⟩⟩⟩⟩⟩⟩⟩⟩⟩⟩⟩⟩⟩⟩⟩⟩
theorem lw_p48 : lw_okq (⟨"NinePenceModel", "changeBy", "(II)I"⟩, 34) := ⟨⟨by decide +kernel, by decide +kernel⟩, List.mem_of_getElem? (i := 889) (by decide +kernel), List.mem_of_getElem? (i := 1159) (by decide +kernel), List.mem_of_getElem? (i := 1160) (by decide +kernel)⟩
theorem lw_p49 : lw_okq (⟨"NinePenceModel", "oddsOf", "(II)I"⟩, 34) := ⟨⟨by decide +kernel, by decide +kernel⟩, List.mem_of_getElem? (i := 889) (by decide +kernel), List.mem_of_getElem? (i := 1163) (by decide +kernel), List.mem_of_getElem? (i := 1164) (by decide +kernel)⟩
theorem lw_p50 : lw_okq (⟨"NinePenceModel", "add", "(IIIII)V"⟩, 34) := ⟨⟨by decide +kernel, by decide +kernel⟩, List.mem_of_getElem? (i := 889) (by decide +kernel), List.mem_of_getElem? (i := 1167) (by decide +kernel), List.mem_of_getElem? (i := 1168) (by decide +kernel)⟩
theorem lw_p51 : lw_okq (⟨"NinePenceModel", "layFigures", "(I)V"⟩, 34) := ⟨⟨by decide +kernel, by decide +kernel⟩, List.mem_of_getElem? (i := 889) (by decide +kernel), List.mem_of_getElem? (i := 1171) (by decide +kernel), List.mem_of_getElem? (i := 1172) (by decide +kernel)⟩
theorem lw_p52 : lw_okq (⟨"NinePenceModel", "isTwice", "(I)Z"⟩, 34) := ⟨⟨by decide +kernel, by decide +kernel⟩, List.mem_of_getElem? (i := 889) (by decide +kernel), List.mem_of_getElem? (i := 1175) (by decide +kernel), List.mem_of_getElem? (i := 1176) (by decide +kernel)⟩
theorem lw_p53 : lw_okq (⟨"NinePenceModel", "isUsed", "(I)Z"⟩, 34) := ⟨⟨by decide +kernel, by decide +kernel⟩, List.mem_of_getElem? (i := 889) (by decide +kernel), List.mem_of_getElem? (i := 1179) (by decide +kernel), List.mem_of_getElem? (i := 1180) (by decide +kernel)⟩
theorem lw_p54 : lw_okq (⟨"NinePenceModel", "isNarrow", "(I)Z"⟩, 34) := ⟨⟨by decide +kernel, by decide +kernel⟩, List.mem_of_getElem? (i := 889) (by decide +kernel), List.mem_of_getElem? (i := 1183) (by decide +kernel), List.mem_of_getElem? (i := 1184) (by decide +kernel)⟩
theorem lw_p55 : lw_okq (⟨"NinePenceModel", "layTwo", "(Z)V"⟩, 34) := ⟨⟨by decide +kernel, by decide +kernel⟩, List.mem_of_getElem? (i := 889) (by decide +kernel), List.mem_of_getElem? (i := 1197) (by decide +kernel), List.mem_of_getElem? (i := 1198) (by decide +kernel)⟩
theorem lw_p56 : lw_okq (⟨"NinePenceModel", "layPairs", "(I)V"⟩, 34) := ⟨⟨by decide +kernel, by decide +kernel⟩, List.mem_of_getElem? (i := 889) (by decide +kernel), List.mem_of_getElem? (i := 1201) (by decide +kernel), List.mem_of_getElem? (i := 1202) (by decide +kernel)⟩
theorem lw_p57 : lw_okq (⟨"NinePenceModel", "arePair", "(II)Z"⟩, 34) := ⟨⟨by decide +kernel, by decide +kernel⟩, List.mem_of_getElem? (i := 889) (by decide +kernel), List.mem_of_getElem? (i := 1205) (by decide +kernel), List.mem_of_getElem? (i := 1206) (by decide +kernel)⟩
theorem lw_p58 : lw_okq (⟨"NinePenceModel", "oneWeights", "()J"⟩, 34) := ⟨⟨by decide +kernel, by decide +kernel⟩, List.mem_of_getElem? (i := 889) (by decide +kernel), List.mem_of_getElem? (i := 1226) (by decide +kernel), List.mem_of_getElem? (i := 1227) (by decide +kernel)⟩
theorem lw_p59 : lw_okq (⟨"NinePenceModel", "layLooks", "(Z)V"⟩, 34) := ⟨⟨by decide +kernel, by decide +kernel⟩, List.mem_of_getElem? (i := 889) (by decide +kernel), List.mem_of_getElem? (i := 1244) (by decide +kernel), List.mem_of_getElem? (i := 1245) (by decide +kernel)⟩
theorem lw_p60 : lw_okq (⟨"NinePenceModel", "isAhead", "(II)Z"⟩, 34) := ⟨⟨by decide +kernel, by decide +kernel⟩, List.mem_of_getElem? (i := 889) (by decide +kernel), List.mem_of_getElem? (i := 1248) (by decide +kernel), List.mem_of_getElem? (i := 1249) (by decide +kernel)⟩
theorem lw_p61 : lw_okq (⟨"NinePenceModel", "layRest", "(I)V"⟩, 34) := ⟨⟨by decide +kernel, by decide +kernel⟩, List.mem_of_getElem? (i := 889) (by decide +kernel), List.mem_of_getElem? (i := 1275) (by decide +kernel), List.mem_of_getElem? (i := 1276) (by decide +kernel)⟩
theorem lw_p62 : lw_okq (⟨"NinePenceModel", "costWith", "(III)I"⟩, 34) := ⟨⟨by decide +kernel, by decide +kernel⟩, List.mem_of_getElem? (i := 889) (by decide +kernel), List.mem_of_getElem? (i := 1279) (by decide +kernel), List.mem_of_getElem? (i := 1280) (by decide +kernel)⟩
def lw_privs_4 : List (MethodName × Nat) := [(⟨"NinePenceModel", "changeBy", "(II)I"⟩, 34), (⟨"NinePenceModel", "oddsOf", "(II)I"⟩, 34), (⟨"NinePenceModel", "add", "(IIIII)V"⟩, 34), (⟨"NinePenceModel", "layFigures", "(I)V"⟩, 34), (⟨"NinePenceModel", "isTwice", "(I)Z"⟩, 34), (⟨"NinePenceModel", "isUsed", "(I)Z"⟩, 34), (⟨"NinePenceModel", "isNarrow", "(I)Z"⟩, 34), (⟨"NinePenceModel", "layTwo", "(Z)V"⟩, 34), (⟨"NinePenceModel", "layPairs", "(I)V"⟩, 34), (⟨"NinePenceModel", "arePair", "(II)Z"⟩, 34), (⟨"NinePenceModel", "oneWeights", "()J"⟩, 34), (⟨"NinePenceModel", "layLooks", "(Z)V"⟩, 34), (⟨"NinePenceModel", "isAhead", "(II)Z"⟩, 34), (⟨"NinePenceModel", "layRest", "(I)V"⟩, 34), (⟨"NinePenceModel", "costWith", "(III)I"⟩, 34)]
theorem lw_r4 : ∀ q ∈ lw_privs_4, lw_okq q := List.forall_mem_cons.mpr ⟨lw_p48, List.forall_mem_cons.mpr ⟨lw_p49, List.forall_mem_cons.mpr ⟨lw_p50, List.forall_mem_cons.mpr ⟨lw_p51, List.forall_mem_cons.mpr ⟨lw_p52, List.forall_mem_cons.mpr ⟨lw_p53, List.forall_mem_cons.mpr ⟨lw_p54, List.forall_mem_cons.mpr ⟨lw_p55, List.forall_mem_cons.mpr ⟨lw_p56, List.forall_mem_cons.mpr ⟨lw_p57, List.forall_mem_cons.mpr ⟨lw_p58, List.forall_mem_cons.mpr ⟨lw_p59, List.forall_mem_cons.mpr ⟨lw_p60, List.forall_mem_cons.mpr ⟨lw_p61, List.forall_mem_cons.mpr ⟨lw_p62, fun _ h => absurd h List.not_mem_nil⟩⟩⟩⟩⟩⟩⟩⟩⟩⟩⟩⟩⟩⟩⟩
def lw_privs : List (MethodName × Nat) := lw_privs_1 ++ (lw_privs_2 ++ (lw_privs_3 ++ (lw_privs_4)))
def lw_tbl : List Cond := k2_sels lw_privs ++ tables_1
theorem lw_privs_ok : ∀ q ∈ lw_privs, lw_okq q := by
  show ∀ q ∈ lw_privs_1 ++ (lw_privs_2 ++ (lw_privs_3 ++ (lw_privs_4))), lw_okq q
  exact List.forall_mem_append.mpr ⟨lw_r1, List.forall_mem_append.mpr ⟨lw_r2, List.forall_mem_append.mpr ⟨lw_r3, lw_r4⟩⟩⟩

/-! ===== BEGIN words of one list among another's, by their places ===== -/
theorem goodIn_r {big : List Cond} (ws : List Cond) (ps : List Nat) (hp : ws = ps.filterMap (fun i => big[i]?)) (h : ws.all goodWord = true) : GoodIn big ws := by
  intro w hw
  have h1 := List.all_eq_true.mp h w hw
  rw [hp] at hw
  obtain ⟨i, -, hi⟩ := List.mem_filterMap.mp hw
  have hm : w ∈ big := by first | exact List.mem_of_getElem? hi | exact List.getElem?_mem hi
  exact ⟨hm, good_of_word h1⟩
theorem goodIn_app {big a b : List Cond} (ha : GoodIn big a) (hb : GoodIn big b) : GoodIn big (a ++ b) := fun w h => (List.mem_append.mp h).elim (ha w) (hb w)
theorem goodIn_ca {big a b : List Cond} {c : Cond} (ha : GoodIn big (c :: a)) (hb : GoodIn big b) : GoodIn big (c :: (a ++ b)) := fun w h => (List.mem_cons.mp h).elim (fun e => ha w (List.mem_cons.mpr (Or.inl e))) (fun h => (List.mem_append.mp h).elim (fun h => ha w (List.mem_cons.mpr (Or.inr h))) (hb w))
theorem goodIn_sub {big ws : List Cond} (hm : ∀ w ∈ ws, w ∈ big) (h : ws.all goodWord = true) : GoodIn big ws := fun w hw => ⟨hm w hw, good_of_word (List.all_eq_true.mp h w hw)⟩

def RX0 : String := "NinePence$Figures"
def TX0 : u_T := fun k => match k with
  | _ => ("", "", "", false)
def tyX0 : Nat → FieldType := fun k => match k with
  | _ => .int
abbrev cX0_tens : ByteArray := prog_2_method_2_code
def yX0_tens : MethodName := ⟨RX0, "tens", "(I)I"⟩
abbrev cX0_many : ByteArray := prog_2_method_3_code
def yX0_many : MethodName := ⟨RX0, "many", "(I)I"⟩
abbrev cX0_at : ByteArray := prog_2_method_4_code
def yX0_at : MethodName := ⟨RX0, "at", "(II)I"⟩
abbrev cX0_turned : ByteArray := prog_2_method_5_code
def yX0_turned : MethodName := ⟨RX0, "turned", "(II)I"⟩
abbrev cX0_shorter : ByteArray := prog_2_method_6_code
def yX0_shorter : MethodName := ⟨RX0, "shorter", "(I)I"⟩
abbrev cX0_longer : ByteArray := prog_2_method_7_code
def yX0_longer : MethodName := ⟨RX0, "longer", "(I)I"⟩
abbrev cX0_kindBetween : ByteArray := prog_2_method_8_code
def yX0_kindBetween : MethodName := ⟨RX0, "kindBetween", "(II)I"⟩
abbrev cX0_isTens : ByteArray := prog_2_method_9_code
def yX0_isTens : MethodName := ⟨RX0, "isTens", "(I)Z"⟩
abbrev cX0_isTurn : ByteArray := prog_2_method_10_code
def yX0_isTurn : MethodName := ⟨RX0, "isTurn", "(II)Z"⟩
abbrev cX0_isOneFigure : ByteArray := prog_2_method_11_code
def yX0_isOneFigure : MethodName := ⟨RX0, "isOneFigure", "(II)Z"⟩
def RX1 : String := "NinePence$Fractions"
def TX1 : u_T := fun k => match k with
  | _ => ("", "", "", false)
def tyX1 : Nat → FieldType := fun k => match k with
  | _ => .int
abbrev cX1_lowest : ByteArray := prog_3_method_2_code
def yX1_lowest : MethodName := ⟨RX1, "lowest", "(JJI)J"⟩
abbrev cX1_greatestDivisor : ByteArray := prog_3_method_3_code
def yX1_greatestDivisor : MethodName := ⟨RX1, "greatestDivisor", "(JJ)J"⟩
def RX2 : String := "NinePence$Ledger"
def TX2 : u_T := fun k => match k with
  | 0 => ("NinePence$Ledger", "size", "I", false)
  | 1 => ("NinePence$Ledger", "missed", "I", false)
  | 2 => ("NinePence$Ledger", "carry", "I", false)
  | 3 => ("NinePence$Ledger", "second", "I", false)
  | 4 => ("NinePence$Ledger", "changes", "I", false)
  | 5 => ("NinePence$Ledger", "parts", "[I", true)
  | 6 => ("NinePence$Ledger", "odds", "[I", true)
  | 7 => ("NinePence$Ledger", "reads", "[I", true)
  | 8 => ("NinePence$Ledger", "dues", "[I", true)
  | _ => ("NinePence$Ledger", "dueTold", "[Z", true)
def tyX2 : Nat → FieldType := fun k => match k with
  | 0 => .int
  | 1 => .int
  | 2 => .int
  | 3 => .int
  | 4 => .int
  | 5 => .array .int
  | 6 => .array .int
  | 7 => .array .int
  | 8 => .array .int
  | _ => .array .boolean
abbrev cX2_init : ByteArray := prog_4_method_1_code
def yX2_init : MethodName := ⟨RX2, "<init>", "()V"⟩
abbrev cX2_holds : ByteArray := prog_4_method_2_code
def yX2_holds : MethodName := ⟨RX2, "holds", "(I)Z"⟩
abbrev cX2_told : ByteArray := prog_4_method_3_code
def yX2_told : MethodName := ⟨RX2, "told", "(II)I"⟩
abbrev cX2_setPart : ByteArray := prog_4_method_4_code
def yX2_setPart : MethodName := ⟨RX2, "setPart", "(III)V"⟩
abbrev cX2_outOf : ByteArray := prog_4_method_5_code
def yX2_outOf : MethodName := ⟨RX2, "outOf", "(I)I"⟩
abbrev cX2_outBy : ByteArray := prog_4_method_6_code
def yX2_outBy : MethodName := ⟨RX2, "outBy", "(I)I"⟩
abbrev cX2_hasDue : ByteArray := prog_4_method_7_code
def yX2_hasDue : MethodName := ⟨RX2, "hasDue", "(I)Z"⟩
abbrev cX2_dueOf : ByteArray := prog_4_method_8_code
def yX2_dueOf : MethodName := ⟨RX2, "dueOf", "(I)I"⟩
abbrev cX2_hasEntryOn : ByteArray := prog_4_method_9_code
def yX2_hasEntryOn : MethodName := ⟨RX2, "hasEntryOn", "(I)Z"⟩
abbrev cX2_hasSum : ByteArray := prog_4_method_10_code
def yX2_hasSum : MethodName := ⟨RX2, "hasSum", "(II)Z"⟩
abbrev cX2_hasTwinAhead : ByteArray := prog_4_method_11_code
def yX2_hasTwinAhead : MethodName := ⟨RX2, "hasTwinAhead", "(I)Z"⟩
abbrev cX2_oddsOf : ByteArray := prog_4_method_12_code
def yX2_oddsOf : MethodName := ⟨RX2, "oddsOf", "(II)I"⟩
abbrev cX2_setOdds : ByteArray := prog_4_method_13_code
def yX2_setOdds : MethodName := ⟨RX2, "setOdds", "(III)V"⟩
abbrev cX2_readOf : ByteArray := prog_4_method_14_code
def yX2_readOf : MethodName := ⟨RX2, "readOf", "(II)I"⟩
abbrev cX2_change : ByteArray := prog_4_method_15_code
def yX2_change : MethodName := ⟨RX2, "change", "(III)V"⟩
abbrev cX2_remove : ByteArray := prog_4_method_16_code
def yX2_remove : MethodName := ⟨RX2, "remove", "(I)V"⟩
abbrev cX2_take : ByteArray := prog_4_method_17_code
def yX2_take : MethodName := ⟨RX2, "take", "(LNinePence$Text;)V"⟩
abbrev cX2_takeLine : ByteArray := prog_4_method_18_code
def yX2_takeLine : MethodName := ⟨RX2, "takeLine", "(LNinePence$Text;I)V"⟩
abbrev cX2_add : ByteArray := prog_4_method_19_code
def yX2_add : MethodName := ⟨RX2, "add", "(ILNinePence$Text;I)V"⟩
abbrev cX2_setDue : ByteArray := prog_4_method_20_code
def yX2_setDue : MethodName := ⟨RX2, "setDue", "(III)V"⟩
def RX3 : String := "NinePence$Look"
def TX3 : u_T := fun k => match k with
  | 0 => ("NinePence$Look", "size", "I", false)
  | 1 => ("NinePence$Look", "figuresByWeight", "J", false)
  | 2 => ("NinePence$Look", "allWeights", "J", false)
  | 3 => ("NinePence$Look", "ledger", "LNinePence$Ledger;", true)
  | 4 => ("NinePence$Look", "slips", "LNinePence$Slips;", true)
  | 5 => ("NinePence$Look", "singles", "LNinePence$Singles;", true)
  | 6 => ("NinePence$Look", "weights", "[I", true)
  | 7 => ("NinePence$Look", "figures", "[I", true)
  | _ => ("NinePence$Look", "order", "[I", true)
def tyX3 : Nat → FieldType := fun k => match k with
  | 0 => .int
  | 1 => .long
  | 2 => .long
  | 3 => .object "NinePence$Ledger"
  | 4 => .object "NinePence$Slips"
  | 5 => .object "NinePence$Singles"
  | 6 => .array .int
  | 7 => .array .int
  | _ => .array .int
abbrev cX3_init : ByteArray := prog_5_method_1_code
def yX3_init : MethodName := ⟨RX3, "<init>", "(LNinePence$Ledger;LNinePence$Slips;LNinePence$Singles;)V"⟩
abbrev cX3_entryAt : ByteArray := prog_5_method_2_code
def yX3_entryAt : MethodName := ⟨RX3, "entryAt", "(I)I"⟩
abbrev cX3_build : ByteArray := prog_5_method_3_code
def yX3_build : MethodName := ⟨RX3, "build", "()V"⟩
abbrev cX3_insert : ByteArray := prog_5_method_4_code
def yX3_insert : MethodName := ⟨RX3, "insert", "(I)V"⟩
abbrev cX3_isSooner : ByteArray := prog_5_method_5_code
def yX3_isSooner : MethodName := ⟨RX3, "isSooner", "(II)Z"⟩
abbrev cX3_sumUp : ByteArray := prog_5_method_6_code
def yX3_sumUp : MethodName := ⟨RX3, "sumUp", "()V"⟩
def RX4 : String := "NinePence$OtherBook"
def TX4 : u_T := fun k => match k with
  | 0 => ("NinePence$OtherBook", "size", "I", false)
  | 1 => ("NinePence$OtherBook", "ledger", "LNinePence$Ledger;", true)
  | 2 => ("NinePence$OtherBook", "sums", "[I", true)
  | 3 => ("NinePence$OtherBook", "costs", "[I", true)
  | _ => ("NinePence$OtherBook", "pairCosts", "[I", true)
def tyX4 : Nat → FieldType := fun k => match k with
  | 0 => .int
  | 1 => .object "NinePence$Ledger"
  | 2 => .array .int
  | 3 => .array .int
  | _ => .array .int
abbrev cX4_init : ByteArray := prog_6_method_1_code
def yX4_init : MethodName := ⟨RX4, "<init>", "(LNinePence$Ledger;)V"⟩
abbrev cX4_add : ByteArray := prog_6_method_2_code
def yX4_add : MethodName := ⟨RX4, "add", "(I)V"⟩
abbrev cX4_leastCost : ByteArray := prog_6_method_3_code
def yX4_leastCost : MethodName := ⟨RX4, "leastCost", "()I"⟩
abbrev cX4_findLeastCosts : ByteArray := prog_6_method_4_code
def yX4_findLeastCosts : MethodName := ⟨RX4, "findLeastCosts", "(I)V"⟩
abbrev cX4_lineOf : ByteArray := prog_6_method_5_code
def yX4_lineOf : MethodName := ⟨RX4, "lineOf", "(II)I"⟩
abbrev cX4_leastLine : ByteArray := prog_6_method_6_code
def yX4_leastLine : MethodName := ⟨RX4, "leastLine", "(II)I"⟩
abbrev cX4_costFrom : ByteArray := prog_6_method_7_code
def yX4_costFrom : MethodName := ⟨RX4, "costFrom", "(II)I"⟩
abbrev cX4_pairCost : ByteArray := prog_6_method_8_code
def yX4_pairCost : MethodName := ⟨RX4, "pairCost", "(II)I"⟩
def RX5 : String := "NinePence$Pairs"
def TX5 : u_T := fun k => match k with
  | 0 => ("NinePence$Pairs", "many", "J", false)
  | 1 => ("NinePence$Pairs", "weights", "J", false)
  | 2 => ("NinePence$Pairs", "first", "I", false)
  | 3 => ("NinePence$Pairs", "second", "I", false)
  | 4 => ("NinePence$Pairs", "greatest", "J", false)
  | _ => ("NinePence$Pairs", "slips", "LNinePence$Slips;", true)
def tyX5 : Nat → FieldType := fun k => match k with
  | 0 => .long
  | 1 => .long
  | 2 => .int
  | 3 => .int
  | 4 => .long
  | _ => .object "NinePence$Slips"
abbrev cX5_init : ByteArray := prog_7_method_1_code
def yX5_init : MethodName := ⟨RX5, "<init>", "(LNinePence$Slips;)V"⟩
abbrev cX5_find : ByteArray := prog_7_method_2_code
def yX5_find : MethodName := ⟨RX5, "find", "(I)V"⟩
abbrev cX5_findWith : ByteArray := prog_7_method_3_code
def yX5_findWith : MethodName := ⟨RX5, "findWith", "(II)V"⟩
abbrev cX5_take : ByteArray := prog_7_method_4_code
def yX5_take : MethodName := ⟨RX5, "take", "(II)V"⟩
def RX6 : String := "NinePence$Rows"
def TX6 : u_T := fun k => match k with
  | _ => ("", "", "", false)
def tyX6 : Nat → FieldType := fun k => match k with
  | _ => .int
abbrev cX6_at : ByteArray := prog_8_method_2_code
def yX6_at : MethodName := ⟨RX6, "at", "([II)I"⟩
abbrev cX6_set : ByteArray := prog_8_method_3_code
def yX6_set : MethodName := ⟨RX6, "set", "([III)V"⟩
def RX7 : String := "NinePence$Singles"
def TX7 : u_T := fun k => match k with
  | 0 => ("NinePence$Singles", "size", "I", false)
  | 1 => ("NinePence$Singles", "weights", "J", false)
  | 2 => ("NinePence$Singles", "ledger", "LNinePence$Ledger;", true)
  | 3 => ("NinePence$Singles", "slips", "LNinePence$Slips;", true)
  | 4 => ("NinePence$Singles", "narrow", "Z", true)
  | 5 => ("NinePence$Singles", "rows", "[I", true)
  | _ => ("NinePence$Singles", "outs", "[I", true)
def tyX7 : Nat → FieldType := fun k => match k with
  | 0 => .int
  | 1 => .long
  | 2 => .object "NinePence$Ledger"
  | 3 => .object "NinePence$Slips"
  | 4 => .boolean
  | 5 => .array .int
  | _ => .array .int
abbrev cX7_init : ByteArray := prog_9_method_1_code
def yX7_init : MethodName := ⟨RX7, "<init>", "(LNinePence$Ledger;LNinePence$Slips;Z)V"⟩
abbrev cX7_slip : ByteArray := prog_9_method_2_code
def yX7_slip : MethodName := ⟨RX7, "slip", "(I)I"⟩
abbrev cX7_build : ByteArray := prog_9_method_3_code
def yX7_build : MethodName := ⟨RX7, "build", "()V"⟩
abbrev cX7_manyOf : ByteArray := prog_9_method_4_code
def yX7_manyOf : MethodName := ⟨RX7, "manyOf", "(I)I"⟩
abbrev cX7_weightsOfHand : ByteArray := prog_9_method_5_code
def yX7_weightsOfHand : MethodName := ⟨RX7, "weightsOfHand", "(I)J"⟩
abbrev cX7_leavesNoPageOff : ByteArray := prog_9_method_6_code
def yX7_leavesNoPageOff : MethodName := ⟨RX7, "leavesNoPageOff", "(I)Z"⟩
def RX8 : String := "NinePence$Slips"
def TX8 : u_T := fun k => match k with
  | 0 => ("NinePence$Slips", "size", "I", false)
  | 1 => ("NinePence$Slips", "ledger", "LNinePence$Ledger;", true)
  | 2 => ("NinePence$Slips", "kinds", "[I", true)
  | 3 => ("NinePence$Slips", "places", "[I", true)
  | 4 => ("NinePence$Slips", "shoulds", "[I", true)
  | 5 => ("NinePence$Slips", "changes", "[I", true)
  | 6 => ("NinePence$Slips", "weights", "[I", true)
  | 7 => ("NinePence$Slips", "heads", "[I", true)
  | _ => ("NinePence$Slips", "nexts", "[I", true)
def tyX8 : Nat → FieldType := fun k => match k with
  | 0 => .int
  | 1 => .object "NinePence$Ledger"
  | 2 => .array .int
  | 3 => .array .int
  | 4 => .array .int
  | 5 => .array .int
  | 6 => .array .int
  | 7 => .array .int
  | _ => .array .int
abbrev cX8_init : ByteArray := prog_10_method_1_code
def yX8_init : MethodName := ⟨RX8, "<init>", "(LNinePence$Ledger;)V"⟩
abbrev cX8_kind : ByteArray := prog_10_method_2_code
def yX8_kind : MethodName := ⟨RX8, "kind", "(I)I"⟩
abbrev cX8_place : ByteArray := prog_10_method_3_code
def yX8_place : MethodName := ⟨RX8, "place", "(I)I"⟩
abbrev cX8_change : ByteArray := prog_10_method_4_code
def yX8_change : MethodName := ⟨RX8, "change", "(I)I"⟩
abbrev cX8_weight : ByteArray := prog_10_method_5_code
def yX8_weight : MethodName := ⟨RX8, "weight", "(I)I"⟩
abbrev cX8_told : ByteArray := prog_10_method_6_code
def yX8_told : MethodName := ⟨RX8, "told", "(II)I"⟩
abbrev cX8_pageOf : ByteArray := prog_10_method_7_code
def yX8_pageOf : MethodName := ⟨RX8, "pageOf", "(I)I"⟩
abbrev cX8_standApart : ByteArray := prog_10_method_8_code
def yX8_standApart : MethodName := ⟨RX8, "standApart", "(II)Z"⟩
abbrev cX8_chainOf : ByteArray := prog_10_method_9_code
def yX8_chainOf : MethodName := ⟨RX8, "chainOf", "(I)I"⟩
abbrev cX8_nextInChain : ByteArray := prog_10_method_10_code
def yX8_nextInChain : MethodName := ⟨RX8, "nextInChain", "(I)I"⟩
abbrev cX8_build : ByteArray := prog_10_method_11_code
def yX8_build : MethodName := ⟨RX8, "build", "()V"⟩
abbrev cX8_oddsAt : ByteArray := prog_10_method_12_code
def yX8_oddsAt : MethodName := ⟨RX8, "oddsAt", "(II)I"⟩
abbrev cX8_putTurns : ByteArray := prog_10_method_13_code
def yX8_putTurns : MethodName := ⟨RX8, "putTurns", "(III)V"⟩
abbrev cX8_putFigures : ByteArray := prog_10_method_14_code
def yX8_putFigures : MethodName := ⟨RX8, "putFigures", "(III)V"⟩
abbrev cX8_putMissed : ByteArray := prog_10_method_15_code
def yX8_putMissed : MethodName := ⟨RX8, "putMissed", "(I)V"⟩
abbrev cX8_putCarries : ByteArray := prog_10_method_16_code
def yX8_putCarries : MethodName := ⟨RX8, "putCarries", "(I)V"⟩
abbrev cX8_putSum : ByteArray := prog_10_method_17_code
def yX8_putSum : MethodName := ⟨RX8, "putSum", "(IIII)V"⟩
abbrev cX8_put : ByteArray := prog_10_method_18_code
def yX8_put : MethodName := ⟨RX8, "put", "(IIIII)V"⟩
abbrev cX8_chain : ByteArray := prog_10_method_19_code
def yX8_chain : MethodName := ⟨RX8, "chain", "()V"⟩
def RX9 : String := "NinePence$Text"
def TX9 : u_T := fun k => match k with
  | 0 => ("NinePence$Text", "length", "I", false)
  | 1 => ("NinePence$Text", "lines", "I", false)
  | 2 => ("NinePence$Text", "bytes", "[I", true)
  | 3 => ("NinePence$Text", "tokens", "[I", true)
  | 4 => ("NinePence$Text", "begins", "[I", true)
  | 5 => ("NinePence$Text", "values", "[I", true)
  | 6 => ("NinePence$Text", "words", "[I", true)
  | 7 => ("NinePence$Text", "numbers", "[I", true)
  | _ => ("NinePence$Text", "next", "I", false)
def tyX9 : Nat → FieldType := fun k => match k with
  | 0 => .int
  | 1 => .int
  | 2 => .array .int
  | 3 => .array .int
  | 4 => .array .int
  | 5 => .array .int
  | 6 => .array .int
  | 7 => .array .int
  | _ => .int
abbrev cX9_init : ByteArray := prog_11_method_1_code
def yX9_init : MethodName := ⟨RX9, "<init>", "()V"⟩
abbrev cX9_append : ByteArray := prog_11_method_2_code
def yX9_append : MethodName := ⟨RX9, "append", "(I)V"⟩
abbrev cX9_word : ByteArray := prog_11_method_3_code
def yX9_word : MethodName := ⟨RX9, "word", "(I)I"⟩
abbrev cX9_number : ByteArray := prog_11_method_4_code
def yX9_number : MethodName := ⟨RX9, "number", "(II)I"⟩
abbrev cX9_read : ByteArray := prog_11_method_5_code
def yX9_read : MethodName := ⟨RX9, "read", "()I"⟩
abbrev cX9_readLine : ByteArray := prog_11_method_6_code
def yX9_readLine : MethodName := ⟨RX9, "readLine", "(I)Z"⟩
abbrev cX9_readDue : ByteArray := prog_11_method_7_code
def yX9_readDue : MethodName := ⟨RX9, "readDue", "(I)Z"⟩
abbrev cX9_takeNumber : ByteArray := prog_11_method_8_code
def yX9_takeNumber : MethodName := ⟨RX9, "takeNumber", "(IIII)Z"⟩
abbrev cX9_split : ByteArray := prog_11_method_9_code
def yX9_split : MethodName := ⟨RX9, "split", "()V"⟩
abbrev cX9_isBegin : ByteArray := prog_11_method_10_code
def yX9_isBegin : MethodName := ⟨RX9, "isBegin", "(I)Z"⟩
abbrev cX9_setToken : ByteArray := prog_11_method_11_code
def yX9_setToken : MethodName := ⟨RX9, "setToken", "(II)V"⟩
abbrev cX9_isRow : ByteArray := prog_11_method_12_code
def yX9_isRow : MethodName := ⟨RX9, "isRow", "(I)Z"⟩
abbrev cX9_sortAt : ByteArray := prog_11_method_13_code
def yX9_sortAt : MethodName := ⟨RX9, "sortAt", "(I)I"⟩
abbrev cX9_valueOf : ByteArray := prog_11_method_14_code
def yX9_valueOf : MethodName := ⟨RX9, "valueOf", "(II)I"⟩
abbrev cX9_wordOf : ByteArray := prog_11_method_15_code
def yX9_wordOf : MethodName := ⟨RX9, "wordOf", "(II)I"⟩
abbrev cX9_is : ByteArray := prog_11_method_16_code
def yX9_is : MethodName := ⟨RX9, "is", "(Ljava/lang/String;II)Z"⟩
def RX10 : String := "NinePence"
def TX10 : u_T := fun k => match k with
  | 0 => ("NinePence", "text", "LNinePence$Text;", true)
  | 1 => ("NinePence", "ledger", "LNinePence$Ledger;", true)
  | 2 => ("NinePence", "slips", "LNinePence$Slips;", true)
  | 3 => ("NinePence", "singles", "LNinePence$Singles;", true)
  | 4 => ("NinePence", "narrowed", "LNinePence$Singles;", true)
  | 5 => ("NinePence", "outPairs", "LNinePence$Pairs;", true)
  | 6 => ("NinePence", "hidden", "LNinePence$Pairs;", true)
  | 7 => ("NinePence", "wideLook", "LNinePence$Look;", true)
  | 8 => ("NinePence", "narrowLook", "LNinePence$Look;", true)
  | 9 => ("NinePence", "otherBook", "LNinePence$OtherBook;", true)
  | _ => ("NinePence", "workedOutAt", "I", false)
def tyX10 : Nat → FieldType := fun k => match k with
  | 0 => .object "NinePence$Text"
  | 1 => .object "NinePence$Ledger"
  | 2 => .object "NinePence$Slips"
  | 3 => .object "NinePence$Singles"
  | 4 => .object "NinePence$Singles"
  | 5 => .object "NinePence$Pairs"
  | 6 => .object "NinePence$Pairs"
  | 7 => .object "NinePence$Look"
  | 8 => .object "NinePence$Look"
  | 9 => .object "NinePence$OtherBook"
  | _ => .int
abbrev cX10_init : ByteArray := prog_1_method_1_code
def yX10_init : MethodName := ⟨RX10, "<init>", "()V"⟩
abbrev cX10_write : ByteArray := prog_1_method_2_code
def yX10_write : MethodName := ⟨RX10, "write", "(JI)I"⟩
abbrev cX10_erase : ByteArray := prog_1_method_3_code
def yX10_erase : MethodName := ⟨RX10, "erase", "()I"⟩
abbrev cX10_fault : ByteArray := prog_1_method_4_code
def yX10_fault : MethodName := ⟨RX10, "fault", "()I"⟩
abbrev cX10_book : ByteArray := prog_1_method_5_code
def yX10_book : MethodName := ⟨RX10, "book", "()I"⟩
abbrev cX10_entry : ByteArray := prog_1_method_6_code
def yX10_entry : MethodName := ⟨RX10, "entry", "(II)I"⟩
abbrev cX10_out : ByteArray := prog_1_method_7_code
def yX10_out : MethodName := ⟨RX10, "out", "(I)I"⟩
abbrev cX10_off : ByteArray := prog_1_method_8_code
def yX10_off : MethodName := ⟨RX10, "off", "(I)I"⟩
abbrev cX10_odds : ByteArray := prog_1_method_9_code
def yX10_odds : MethodName := ⟨RX10, "odds", "(II)I"⟩
abbrev cX10_learn : ByteArray := prog_1_method_10_code
def yX10_learn : MethodName := ⟨RX10, "learn", "(II)I"⟩
abbrev cX10_mend : ByteArray := prog_1_method_11_code
def yX10_mend : MethodName := ⟨RX10, "mend", "(III)I"⟩
abbrev cX10_strike : ByteArray := prog_1_method_12_code
def yX10_strike : MethodName := ⟨RX10, "strike", "(I)I"⟩
abbrev cX10_signs : ByteArray := prog_1_method_13_code
def yX10_signs : MethodName := ⟨RX10, "signs", "()I"⟩
abbrev cX10_one : ByteArray := prog_1_method_14_code
def yX10_one : MethodName := ⟨RX10, "one", "(IIZ)I"⟩
abbrev cX10_ofKind : ByteArray := prog_1_method_15_code
def yX10_ofKind : MethodName := ⟨RX10, "ofKind", "(I)I"⟩
abbrev cX10_two : ByteArray := prog_1_method_16_code
def yX10_two : MethodName := ⟨RX10, "two", "(I)J"⟩
abbrev cX10_hide : ByteArray := prog_1_method_17_code
def yX10_hide : MethodName := ⟨RX10, "hide", "(I)J"⟩
abbrev cX10_pair : ByteArray := prog_1_method_18_code
def yX10_pair : MethodName := ⟨RX10, "pair", "(ZI)I"⟩
abbrev cX10_chance : ByteArray := prog_1_method_19_code
def yX10_chance : MethodName := ⟨RX10, "chance", "(II)J"⟩
abbrev cX10_whose : ByteArray := prog_1_method_20_code
def yX10_whose : MethodName := ⟨RX10, "whose", "(II)I"⟩
abbrev cX10_look : ByteArray := prog_1_method_21_code
def yX10_look : MethodName := ⟨RX10, "look", "(IZ)I"⟩
abbrev cX10_mean : ByteArray := prog_1_method_22_code
def yX10_mean : MethodName := ⟨RX10, "mean", "(ZI)I"⟩
abbrev cX10_judge : ByteArray := prog_1_method_23_code
def yX10_judge : MethodName := ⟨RX10, "judge", "(III)I"⟩
abbrev cX10_other : ByteArray := prog_1_method_24_code
def yX10_other : MethodName := ⟨RX10, "other", "(I)I"⟩
abbrev cX10_match : ByteArray := prog_1_method_25_code
def yX10_match : MethodName := ⟨RX10, "match", "(II)I"⟩
abbrev cX10_count : ByteArray := prog_1_method_26_code
def yX10_count : MethodName := ⟨RX10, "count", "(I)I"⟩
abbrev cX10_isSide : ByteArray := prog_1_method_27_code
def yX10_isSide : MethodName := ⟨RX10, "isSide", "(I)Z"⟩
abbrev cX10_isSum : ByteArray := prog_1_method_28_code
def yX10_isSum : MethodName := ⟨RX10, "isSum", "(I)Z"⟩
abbrev cX10_isHand : ByteArray := prog_1_method_29_code
def yX10_isHand : MethodName := ⟨RX10, "isHand", "(I)Z"⟩
abbrev cX10_isPage : ByteArray := prog_1_method_30_code
def yX10_isPage : MethodName := ⟨RX10, "isPage", "(I)Z"⟩
abbrev cX10_isEntryKind : ByteArray := prog_1_method_31_code
def yX10_isEntryKind : MethodName := ⟨RX10, "isEntryKind", "(I)Z"⟩
abbrev cX10_isPart : ByteArray := prog_1_method_32_code
def yX10_isPart : MethodName := ⟨RX10, "isPart", "(I)Z"⟩
abbrev cX10_isNineTimesOrTenths : ByteArray := prog_1_method_33_code
def yX10_isNineTimesOrTenths : MethodName := ⟨RX10, "isNineTimesOrTenths", "(I)Z"⟩
abbrev cX10_workOut : ByteArray := prog_1_method_34_code
def yX10_workOut : MethodName := ⟨RX10, "workOut", "()V"⟩
def RX11 : String := "NinePenceModel"
def TX11 : u_T := fun k => match k with
  | 0 => ("NinePenceModel", "text", "[I", true)
  | 1 => ("NinePenceModel", "length", "I", false)
  | 2 => ("NinePenceModel", "read", "[I", true)
  | 3 => ("NinePenceModel", "readMany", "I", false)
  | 4 => ("NinePenceModel", "entries", "[I", true)
  | 5 => ("NinePenceModel", "entryMany", "I", false)
  | 6 => ("NinePenceModel", "dues", "[I", true)
  | 7 => ("NinePenceModel", "dueSet", "I", false)
  | 8 => ("NinePenceModel", "odds", "[I", true)
  | 9 => ("NinePenceModel", "reads", "[I", true)
  | 10 => ("NinePenceModel", "missing", "I", false)
  | 11 => ("NinePenceModel", "carrying", "I", false)
  | 12 => ("NinePenceModel", "second", "I", false)
  | 13 => ("NinePenceModel", "others", "[I", true)
  | 14 => ("NinePenceModel", "otherMany", "I", false)
  | 15 => ("NinePenceModel", "at", "I", false)
  | 16 => ("NinePenceModel", "place", "I", false)
  | 17 => ("NinePenceModel", "end", "I", false)
  | 18 => ("NinePenceModel", "kinds", "[I", true)
  | 19 => ("NinePenceModel", "places", "[I", true)
  | 20 => ("NinePenceModel", "shoulds", "[I", true)
  | 21 => ("NinePenceModel", "changes", "[I", true)
  | 22 => ("NinePenceModel", "weights", "[I", true)
  | 23 => ("NinePenceModel", "slips", "I", false)
  | 24 => ("NinePenceModel", "ones", "[I", true)
  | 25 => ("NinePenceModel", "oneMany", "I", false)
  | 26 => ("NinePenceModel", "pairMany", "J", false)
  | 27 => ("NinePenceModel", "pairWeights", "J", false)
  | 28 => ("NinePenceModel", "bestFirst", "I", false)
  | 29 => ("NinePenceModel", "bestSecond", "I", false)
  | 30 => ("NinePenceModel", "owned", "[I", true)
  | 31 => ("NinePenceModel", "looks", "[I", true)
  | 32 => ("NinePenceModel", "lookMany", "I", false)
  | _ => ("NinePenceModel", "rest", "[I", true)
def tyX11 : Nat → FieldType := fun k => match k with
  | 0 => .array .int
  | 1 => .int
  | 2 => .array .int
  | 3 => .int
  | 4 => .array .int
  | 5 => .int
  | 6 => .array .int
  | 7 => .int
  | 8 => .array .int
  | 9 => .array .int
  | 10 => .int
  | 11 => .int
  | 12 => .int
  | 13 => .array .int
  | 14 => .int
  | 15 => .int
  | 16 => .int
  | 17 => .int
  | 18 => .array .int
  | 19 => .array .int
  | 20 => .array .int
  | 21 => .array .int
  | 22 => .array .int
  | 23 => .int
  | 24 => .array .int
  | 25 => .int
  | 26 => .long
  | 27 => .long
  | 28 => .int
  | 29 => .int
  | 30 => .array .int
  | 31 => .array .int
  | 32 => .int
  | _ => .array .int
abbrev cX11_init : ByteArray := prog_13_method_1_code
def yX11_init : MethodName := ⟨RX11, "<init>", "()V"⟩
abbrev cX11_in : ByteArray := prog_13_method_2_code
def yX11_in : MethodName := ⟨RX11, "in", "(JJJ)Z"⟩
abbrev cX11_write : ByteArray := prog_13_method_3_code
def yX11_write : MethodName := ⟨RX11, "write", "(JI)I"⟩
abbrev cX11_erase : ByteArray := prog_13_method_4_code
def yX11_erase : MethodName := ⟨RX11, "erase", "()I"⟩
abbrev cX11_sort : ByteArray := prog_13_method_5_code
def yX11_sort : MethodName := ⟨RX11, "sort", "(I)I"⟩
abbrev cX11_token : ByteArray := prog_13_method_6_code
def yX11_token : MethodName := ⟨RX11, "token", "()V"⟩
abbrev cX11_isWord : ByteArray := prog_13_method_7_code
def yX11_isWord : MethodName := ⟨RX11, "isWord", "(II)Z"⟩
abbrev cX11_value : ByteArray := prog_13_method_8_code
def yX11_value : MethodName := ⟨RX11, "value", "()I"⟩
abbrev cX11_isNumber : ByteArray := prog_13_method_9_code
def yX11_isNumber : MethodName := ⟨RX11, "isNumber", "()Z"⟩
abbrev cX11_reads : ByteArray := prog_13_method_10_code
def yX11_reads : MethodName := ⟨RX11, "reads", "(III)Z"⟩
abbrev cX11_readsPage : ByteArray := prog_13_method_11_code
def yX11_readsPage : MethodName := ⟨RX11, "readsPage", "()Z"⟩
abbrev cX11_readsRest : ByteArray := prog_13_method_12_code
def yX11_readsRest : MethodName := ⟨RX11, "readsRest", "(I)Z"⟩
abbrev cX11_readsLine : ByteArray := prog_13_method_13_code
def yX11_readsLine : MethodName := ⟨RX11, "readsLine", "()Z"⟩
abbrev cX11_fault : ByteArray := prog_13_method_14_code
def yX11_fault : MethodName := ⟨RX11, "fault", "()I"⟩
abbrev cX11_lay : ByteArray := prog_13_method_15_code
def yX11_lay : MethodName := ⟨RX11, "lay", "(I)V"⟩
abbrev cX11_book : ByteArray := prog_13_method_16_code
def yX11_book : MethodName := ⟨RX11, "book", "()I"⟩
abbrev cX11_isEntry : ByteArray := prog_13_method_17_code
def yX11_isEntry : MethodName := ⟨RX11, "isEntry", "(I)Z"⟩
abbrev cX11_entry : ByteArray := prog_13_method_18_code
def yX11_entry : MethodName := ⟨RX11, "entry", "(II)I"⟩
abbrev cX11_outOf : ByteArray := prog_13_method_19_code
def yX11_outOf : MethodName := ⟨RX11, "outOf", "(I)I"⟩
abbrev cX11_out : ByteArray := prog_13_method_20_code
def yX11_out : MethodName := ⟨RX11, "out", "(I)I"⟩
abbrev cX11_hasDue : ByteArray := prog_13_method_21_code
def yX11_hasDue : MethodName := ⟨RX11, "hasDue", "(I)Z"⟩
abbrev cX11_offOf : ByteArray := prog_13_method_22_code
def yX11_offOf : MethodName := ⟨RX11, "offOf", "(I)I"⟩
abbrev cX11_off : ByteArray := prog_13_method_23_code
def yX11_off : MethodName := ⟨RX11, "off", "(I)I"⟩
abbrev cX11_isHand : ByteArray := prog_13_method_24_code
def yX11_isHand : MethodName := ⟨RX11, "isHand", "(I)Z"⟩
abbrev cX11_odds : ByteArray := prog_13_method_25_code
def yX11_odds : MethodName := ⟨RX11, "odds", "(II)I"⟩
abbrev cX11_learn : ByteArray := prog_13_method_26_code
def yX11_learn : MethodName := ⟨RX11, "learn", "(II)I"⟩
abbrev cX11_mend : ByteArray := prog_13_method_27_code
def yX11_mend : MethodName := ⟨RX11, "mend", "(III)I"⟩
abbrev cX11_strike : ByteArray := prog_13_method_28_code
def yX11_strike : MethodName := ⟨RX11, "strike", "(I)I"⟩
abbrev cX11_add : ByteArray := prog_13_method_29_code
def yX11_add : MethodName := ⟨RX11, "add", "(IIIII)V"⟩
abbrev cX11_changeBy : ByteArray := prog_13_method_30_code
def yX11_changeBy : MethodName := ⟨RX11, "changeBy", "(II)I"⟩
abbrev cX11_power : ByteArray := prog_13_method_31_code
def yX11_power : MethodName := ⟨RX11, "power", "(I)I"⟩
abbrev cX11_figures : ByteArray := prog_13_method_32_code
def yX11_figures : MethodName := ⟨RX11, "figures", "(I)I"⟩
abbrev cX11_figure : ByteArray := prog_13_method_33_code
def yX11_figure : MethodName := ⟨RX11, "figure", "(II)I"⟩
abbrev cX11_turned : ByteArray := prog_13_method_34_code
def yX11_turned : MethodName := ⟨RX11, "turned", "(II)I"⟩
abbrev cX11_isTwice : ByteArray := prog_13_method_35_code
def yX11_isTwice : MethodName := ⟨RX11, "isTwice", "(I)Z"⟩
abbrev cX11_oddsOf : ByteArray := prog_13_method_36_code
def yX11_oddsOf : MethodName := ⟨RX11, "oddsOf", "(II)I"⟩
abbrev cX11_layFigures : ByteArray := prog_13_method_37_code
def yX11_layFigures : MethodName := ⟨RX11, "layFigures", "(I)V"⟩
abbrev cX11_layKind : ByteArray := prog_13_method_38_code
def yX11_layKind : MethodName := ⟨RX11, "layKind", "(II)V"⟩
abbrev cX11_isUsed : ByteArray := prog_13_method_39_code
def yX11_isUsed : MethodName := ⟨RX11, "isUsed", "(I)Z"⟩
abbrev cX11_size : ByteArray := prog_13_method_40_code
def yX11_size : MethodName := ⟨RX11, "size", "(I)I"⟩
abbrev cX11_laySlips : ByteArray := prog_13_method_41_code
def yX11_laySlips : MethodName := ⟨RX11, "laySlips", "()V"⟩
abbrev cX11_isNarrow : ByteArray := prog_13_method_42_code
def yX11_isNarrow : MethodName := ⟨RX11, "isNarrow", "(I)Z"⟩
abbrev cX11_layOnes : ByteArray := prog_13_method_43_code
def yX11_layOnes : MethodName := ⟨RX11, "layOnes", "(Z)V"⟩
abbrev cX11_oneWeights : ByteArray := prog_13_method_44_code
def yX11_oneWeights : MethodName := ⟨RX11, "oneWeights", "()J"⟩
abbrev cX11_signs : ByteArray := prog_13_method_45_code
def yX11_signs : MethodName := ⟨RX11, "signs", "()I"⟩
abbrev cX11_one : ByteArray := prog_13_method_46_code
def yX11_one : MethodName := ⟨RX11, "one", "(IIZ)I"⟩
abbrev cX11_ofKind : ByteArray := prog_13_method_47_code
def yX11_ofKind : MethodName := ⟨RX11, "ofKind", "(I)I"⟩
abbrev cX11_arePair : ByteArray := prog_13_method_48_code
def yX11_arePair : MethodName := ⟨RX11, "arePair", "(II)Z"⟩
abbrev cX11_layPairs : ByteArray := prog_13_method_49_code
def yX11_layPairs : MethodName := ⟨RX11, "layPairs", "(I)V"⟩
abbrev cX11_layTwo : ByteArray := prog_13_method_50_code
def yX11_layTwo : MethodName := ⟨RX11, "layTwo", "(Z)V"⟩
abbrev cX11_two : ByteArray := prog_13_method_51_code
def yX11_two : MethodName := ⟨RX11, "two", "(I)J"⟩
abbrev cX11_hide : ByteArray := prog_13_method_52_code
def yX11_hide : MethodName := ⟨RX11, "hide", "(I)J"⟩
abbrev cX11_pair : ByteArray := prog_13_method_53_code
def yX11_pair : MethodName := ⟨RX11, "pair", "(ZI)I"⟩
abbrev cX11_divisor : ByteArray := prog_13_method_54_code
def yX11_divisor : MethodName := ⟨RX11, "divisor", "(JJ)J"⟩
abbrev cX11_lowest : ByteArray := prog_13_method_55_code
def yX11_lowest : MethodName := ⟨RX11, "lowest", "(JJI)J"⟩
abbrev cX11_isPart : ByteArray := prog_13_method_56_code
def yX11_isPart : MethodName := ⟨RX11, "isPart", "(I)Z"⟩
abbrev cX11_chance : ByteArray := prog_13_method_57_code
def yX11_chance : MethodName := ⟨RX11, "chance", "(II)J"⟩
abbrev cX11_whose : ByteArray := prog_13_method_58_code
def yX11_whose : MethodName := ⟨RX11, "whose", "(II)I"⟩
abbrev cX11_isAhead : ByteArray := prog_13_method_59_code
def yX11_isAhead : MethodName := ⟨RX11, "isAhead", "(II)Z"⟩
abbrev cX11_layLooks : ByteArray := prog_13_method_60_code
def yX11_layLooks : MethodName := ⟨RX11, "layLooks", "(Z)V"⟩
abbrev cX11_look : ByteArray := prog_13_method_61_code
def yX11_look : MethodName := ⟨RX11, "look", "(IZ)I"⟩
abbrev cX11_mean : ByteArray := prog_13_method_62_code
def yX11_mean : MethodName := ⟨RX11, "mean", "(ZI)I"⟩
abbrev cX11_isTurned : ByteArray := prog_13_method_63_code
def yX11_isTurned : MethodName := ⟨RX11, "isTurned", "(II)Z"⟩
abbrev cX11_isFigure : ByteArray := prog_13_method_64_code
def yX11_isFigure : MethodName := ⟨RX11, "isFigure", "(II)Z"⟩
abbrev cX11_judge : ByteArray := prog_13_method_65_code
def yX11_judge : MethodName := ⟨RX11, "judge", "(III)I"⟩
abbrev cX11_other : ByteArray := prog_13_method_66_code
def yX11_other : MethodName := ⟨RX11, "other", "(I)I"⟩
abbrev cX11_cost : ByteArray := prog_13_method_67_code
def yX11_cost : MethodName := ⟨RX11, "cost", "(II)I"⟩
abbrev cX11_costWith : ByteArray := prog_13_method_68_code
def yX11_costWith : MethodName := ⟨RX11, "costWith", "(III)I"⟩
abbrev cX11_layRest : ByteArray := prog_13_method_69_code
def yX11_layRest : MethodName := ⟨RX11, "layRest", "(I)V"⟩
abbrev cX11_match : ByteArray := prog_13_method_70_code
def yX11_match : MethodName := ⟨RX11, "match", "(II)I"⟩
abbrev cX11_count : ByteArray := prog_13_method_71_code
def yX11_count : MethodName := ⟨RX11, "count", "(I)I"⟩
def RJx145de : String := "java/io/Serializable"
def RJx9f9b0 : String := "java/lang/CharSequence"
def RJxb160c : String := "java/lang/Comparable"
def RJ9 : String := "java/lang/Math"
abbrev cJ9_floorMod_7cf53 : ByteArray := prog_14_method_50_code
def yJ9_floorMod_7cf53 : MethodName := ⟨RJ9, "floorMod", "(II)I"⟩
abbrev cJ9_abs_0f7a4 : ByteArray := prog_14_method_59_code
def yJ9_abs_0f7a4 : MethodName := ⟨RJ9, "abs", "(I)I"⟩
abbrev cJ9_min_7cf53 : ByteArray := prog_14_method_69_code
def yJ9_min_7cf53 : MethodName := ⟨RJ9, "min", "(II)I"⟩
def RJ0 : String := "java/lang/String"
abbrev cJ0_length_8abf5 : ByteArray := prog_15_method_54_code
def yJ0_length_8abf5 : MethodName := ⟨RJ0, "length", "()I"⟩
abbrev cJ0_charAt_5068e : ByteArray := prog_15_method_56_code
def yJ0_charAt_5068e : MethodName := ⟨RJ0, "charAt", "(I)C"⟩
abbrev cJ0_coder_7d493 : ByteArray := prog_15_method_152_code
def yJ0_coder_7d493 : MethodName := ⟨RJ0, "coder", "()B"⟩
abbrev cJ0_isLatin1_aae02 : ByteArray := prog_15_method_154_code
def yJ0_isLatin1_aae02 : MethodName := ⟨RJ0, "isLatin1", "()Z"⟩
abbrev cJ0_checkIndex_df160 : ByteArray := prog_15_method_155_code
def yJ0_checkIndex_df160 : MethodName := ⟨RJ0, "checkIndex", "(II)V"⟩
def RJ1 : String := "java/lang/StringLatin1"
abbrev cJ1_charAt_3b067 : ByteArray := prog_16_method_2_code
def yJ1_charAt_3b067 : MethodName := ⟨RJ1, "charAt", "([BI)C"⟩
def RJ2 : String := "java/lang/StringUTF16"
abbrev cJ2_getChar_3b067 : ByteArray := prog_17_method_5_code
def yJ2_getChar_3b067 : MethodName := ⟨RJ2, "getChar", "([BI)C"⟩
abbrev cJ2_length_9d52b : ByteArray := prog_17_method_6_code
def yJ2_length_9d52b : MethodName := ⟨RJ2, "length", "([B)I"⟩
abbrev cJ2_charAt_3b067 : ByteArray := prog_17_method_83_code
def yJ2_charAt_3b067 : MethodName := ⟨RJ2, "charAt", "([BI)C"⟩
abbrev cJ2_checkIndex_2214a : ByteArray := prog_17_method_91_code
def yJ2_checkIndex_2214a : MethodName := ⟨RJ2, "checkIndex", "(I[B)V"⟩
def RJxfd54e : String := "java/lang/constant/Constable"
def RJx3cf43 : String := "java/lang/constant/ConstantDesc"
def RJ7 : String := "java/util/Arrays"
abbrev cJ7_fill_53178 : ByteArray := prog_18_method_103_code
def yJ7_fill_53178 : MethodName := ⟨RJ7, "fill", "([II)V"⟩
def RJ3 : String := "jdk/internal/util/Preconditions"
abbrev cJ3_checkIndex_8e157 : ByteArray := prog_19_method_11_code
def yJ3_checkIndex_8e157 : MethodName := ⟨RJ3, "checkIndex", "(IILjava/util/function/BiFunction;)I"⟩
def RL : String := "NinePenceLaw"
abbrev cL_law : ByteArray := code
abbrev vwCl : List vw_C := [(RX2, TX2, 10), (RX3, TX3, 9), (RX4, TX4, 5), (RX5, TX5, 6), (RX7, TX7, 7), (RX8, TX8, 9), (RX9, TX9, 9), (RX10, TX10, 11), (RX11, TX11, 34)]
