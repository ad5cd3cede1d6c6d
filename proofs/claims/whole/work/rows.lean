section
-- ===== PART A: goes FIRST, ahead of the names: the tables' words, and 'selects' of the private methods out of them =====
/-- a private method of a class that the tables say can be made, by its rows of tables_1 -/
def lw_okq (q : MethodName × Nat) : Prop := (q.1.cls ≠ "java/lang/invoke/MethodHandle" ∧ q.1.cls ≠ "java/lang/invoke/VarHandle") ∧ Cond.instantiable q.1.cls q.2 ∈ tables_1 ∧ Cond.privateMethod q.1 ∈ tables_1 ∧ Cond.instanceMethod q.1 ∈ tables_1
theorem lw_p0 : lw_okq (⟨"NinePence$Text", "split", "()V"⟩, 9) := ⟨⟨by decide +kernel, by decide +kernel⟩, List.mem_of_getElem? (i := 28) (by decide +kernel), List.mem_of_getElem? (i := 330) (by decide +kernel), List.mem_of_getElem? (i := 331) (by decide +kernel)⟩
theorem lw_p1 : lw_okq (⟨"NinePence$Text", "isBegin", "(I)Z"⟩, 9) := ⟨⟨by decide +kernel, by decide +kernel⟩, List.mem_of_getElem? (i := 28) (by decide +kernel), List.mem_of_getElem? (i := 334) (by decide +kernel), List.mem_of_getElem? (i := 335) (by decide +kernel)⟩
theorem lw_p2 : lw_okq (⟨"NinePence$Text", "sortAt", "(I)I"⟩, 9) := ⟨⟨by decide +kernel, by decide +kernel⟩, List.mem_of_getElem? (i := 28) (by decide +kernel), List.mem_of_getElem? (i := 338) (by decide +kernel), List.mem_of_getElem? (i := 339) (by decide +kernel)⟩
theorem lw_p3 : lw_okq (⟨"NinePence$Text", "setToken", "(II)V"⟩, 9) := ⟨⟨by decide +kernel, by decide +kernel⟩, List.mem_of_getElem? (i := 28) (by decide +kernel), List.mem_of_getElem? (i := 348) (by decide +kernel), List.mem_of_getElem? (i := 349) (by decide +kernel)⟩
theorem lw_p4 : lw_okq (⟨"NinePence$Text", "valueOf", "(II)I"⟩, 9) := ⟨⟨by decide +kernel, by decide +kernel⟩, List.mem_of_getElem? (i := 28) (by decide +kernel), List.mem_of_getElem? (i := 352) (by decide +kernel), List.mem_of_getElem? (i := 353) (by decide +kernel)⟩
theorem lw_p5 : lw_okq (⟨"NinePence$Text", "wordOf", "(II)I"⟩, 9) := ⟨⟨by decide +kernel, by decide +kernel⟩, List.mem_of_getElem? (i := 28) (by decide +kernel), List.mem_of_getElem? (i := 356) (by decide +kernel), List.mem_of_getElem? (i := 357) (by decide +kernel)⟩
theorem lw_p6 : lw_okq (⟨"NinePence$Text", "is", "(Ljava/lang/String;II)Z"⟩, 9) := ⟨⟨by decide +kernel, by decide +kernel⟩, List.mem_of_getElem? (i := 28) (by decide +kernel), List.mem_of_getElem? (i := 361) (by decide +kernel), List.mem_of_getElem? (i := 362) (by decide +kernel)⟩
theorem lw_p7 : lw_okq (⟨"NinePence$Text", "readLine", "(I)Z"⟩, 9) := ⟨⟨by decide +kernel, by decide +kernel⟩, List.mem_of_getElem? (i := 28) (by decide +kernel), List.mem_of_getElem? (i := 421) (by decide +kernel), List.mem_of_getElem? (i := 422) (by decide +kernel)⟩
theorem lw_p8 : lw_okq (⟨"NinePence$Text", "takeNumber", "(IIII)Z"⟩, 9) := ⟨⟨by decide +kernel, by decide +kernel⟩, List.mem_of_getElem? (i := 28) (by decide +kernel), List.mem_of_getElem? (i := 426) (by decide +kernel), List.mem_of_getElem? (i := 427) (by decide +kernel)⟩
theorem lw_p9 : lw_okq (⟨"NinePence$Text", "readDue", "(I)Z"⟩, 9) := ⟨⟨by decide +kernel, by decide +kernel⟩, List.mem_of_getElem? (i := 28) (by decide +kernel), List.mem_of_getElem? (i := 434) (by decide +kernel), List.mem_of_getElem? (i := 435) (by decide +kernel)⟩
theorem lw_p10 : lw_okq (⟨"NinePence$Ledger", "takeLine", "(LNinePence$Text;I)V"⟩, 10) := ⟨⟨by decide +kernel, by decide +kernel⟩, List.mem_of_getElem? (i := 66) (by decide +kernel), List.mem_of_getElem? (i := 447) (by decide +kernel), List.mem_of_getElem? (i := 448) (by decide +kernel)⟩
theorem lw_p11 : lw_okq (⟨"NinePence$Ledger", "add", "(ILNinePence$Text;I)V"⟩, 10) := ⟨⟨by decide +kernel, by decide +kernel⟩, List.mem_of_getElem? (i := 66) (by decide +kernel), List.mem_of_getElem? (i := 456) (by decide +kernel), List.mem_of_getElem? (i := 457) (by decide +kernel)⟩
theorem lw_p12 : lw_okq (⟨"NinePence$Ledger", "setPart", "(III)V"⟩, 10) := ⟨⟨by decide +kernel, by decide +kernel⟩, List.mem_of_getElem? (i := 66) (by decide +kernel), List.mem_of_getElem? (i := 460) (by decide +kernel), List.mem_of_getElem? (i := 461) (by decide +kernel)⟩
theorem lw_p13 : lw_okq (⟨"NinePence$Ledger", "setDue", "(III)V"⟩, 10) := ⟨⟨by decide +kernel, by decide +kernel⟩, List.mem_of_getElem? (i := 66) (by decide +kernel), List.mem_of_getElem? (i := 469) (by decide +kernel), List.mem_of_getElem? (i := 470) (by decide +kernel)⟩
theorem lw_p14 : lw_okq (⟨"NinePence", "isNineTimesOrTenths", "(I)Z"⟩, 11) := ⟨⟨by decide +kernel, by decide +kernel⟩, List.mem_of_getElem? (i := 20) (by decide +kernel), List.mem_of_getElem? (i := 577) (by decide +kernel), List.mem_of_getElem? (i := 578) (by decide +kernel)⟩
theorem lw_p15 : lw_okq (⟨"NinePence", "workOut", "()V"⟩, 11) := ⟨⟨by decide +kernel, by decide +kernel⟩, List.mem_of_getElem? (i := 20) (by decide +kernel), List.mem_of_getElem? (i := 585) (by decide +kernel), List.mem_of_getElem? (i := 586) (by decide +kernel)⟩
def lw_privs_1 : List (MethodName × Nat) := [(⟨"NinePence$Text", "split", "()V"⟩, 9), (⟨"NinePence$Text", "isBegin", "(I)Z"⟩, 9), (⟨"NinePence$Text", "sortAt", "(I)I"⟩, 9), (⟨"NinePence$Text", "setToken", "(II)V"⟩, 9), (⟨"NinePence$Text", "valueOf", "(II)I"⟩, 9), (⟨"NinePence$Text", "wordOf", "(II)I"⟩, 9), (⟨"NinePence$Text", "is", "(Ljava/lang/String;II)Z"⟩, 9), (⟨"NinePence$Text", "readLine", "(I)Z"⟩, 9), (⟨"NinePence$Text", "takeNumber", "(IIII)Z"⟩, 9), (⟨"NinePence$Text", "readDue", "(I)Z"⟩, 9), (⟨"NinePence$Ledger", "takeLine", "(LNinePence$Text;I)V"⟩, 10), (⟨"NinePence$Ledger", "add", "(ILNinePence$Text;I)V"⟩, 10), (⟨"NinePence$Ledger", "setPart", "(III)V"⟩, 10), (⟨"NinePence$Ledger", "setDue", "(III)V"⟩, 10), (⟨"NinePence", "isNineTimesOrTenths", "(I)Z"⟩, 11), (⟨"NinePence", "workOut", "()V"⟩, 11)]
theorem lw_r1 : ∀ q ∈ lw_privs_1, lw_okq q := List.forall_mem_cons.mpr ⟨lw_p0, List.forall_mem_cons.mpr ⟨lw_p1, List.forall_mem_cons.mpr ⟨lw_p2, List.forall_mem_cons.mpr ⟨lw_p3, List.forall_mem_cons.mpr ⟨lw_p4, List.forall_mem_cons.mpr ⟨lw_p5, List.forall_mem_cons.mpr ⟨lw_p6, List.forall_mem_cons.mpr ⟨lw_p7, List.forall_mem_cons.mpr ⟨lw_p8, List.forall_mem_cons.mpr ⟨lw_p9, List.forall_mem_cons.mpr ⟨lw_p10, List.forall_mem_cons.mpr ⟨lw_p11, List.forall_mem_cons.mpr ⟨lw_p12, List.forall_mem_cons.mpr ⟨lw_p13, List.forall_mem_cons.mpr ⟨lw_p14, List.forall_mem_cons.mpr ⟨lw_p15, fun _ h => absurd h List.not_mem_nil⟩⟩⟩⟩⟩⟩⟩⟩⟩⟩⟩⟩⟩⟩⟩⟩
theorem lw_p16 : lw_okq (⟨"NinePence$Slips", "oddsAt", "(II)I"⟩, 9) := ⟨⟨by decide +kernel, by decide +kernel⟩, List.mem_of_getElem? (i := 116) (by decide +kernel), List.mem_of_getElem? (i := 594) (by decide +kernel), List.mem_of_getElem? (i := 595) (by decide +kernel)⟩
theorem lw_p17 : lw_okq (⟨"NinePence$Slips", "putTurns", "(III)V"⟩, 9) := ⟨⟨by decide +kernel, by decide +kernel⟩, List.mem_of_getElem? (i := 116) (by decide +kernel), List.mem_of_getElem? (i := 599) (by decide +kernel), List.mem_of_getElem? (i := 600) (by decide +kernel)⟩
theorem lw_p18 : lw_okq (⟨"NinePence$Slips", "putSum", "(IIII)V"⟩, 9) := ⟨⟨by decide +kernel, by decide +kernel⟩, List.mem_of_getElem? (i := 116) (by decide +kernel), List.mem_of_getElem? (i := 609) (by decide +kernel), List.mem_of_getElem? (i := 610) (by decide +kernel)⟩
theorem lw_p19 : lw_okq (⟨"NinePence$Slips", "put", "(IIIII)V"⟩, 9) := ⟨⟨by decide +kernel, by decide +kernel⟩, List.mem_of_getElem? (i := 116) (by decide +kernel), List.mem_of_getElem? (i := 613) (by decide +kernel), List.mem_of_getElem? (i := 614) (by decide +kernel)⟩
theorem lw_p20 : lw_okq (⟨"NinePence$Slips", "putFigures", "(III)V"⟩, 9) := ⟨⟨by decide +kernel, by decide +kernel⟩, List.mem_of_getElem? (i := 116) (by decide +kernel), List.mem_of_getElem? (i := 618) (by decide +kernel), List.mem_of_getElem? (i := 619) (by decide +kernel)⟩
theorem lw_p21 : lw_okq (⟨"NinePence$Slips", "putMissed", "(I)V"⟩, 9) := ⟨⟨by decide +kernel, by decide +kernel⟩, List.mem_of_getElem? (i := 116) (by decide +kernel), List.mem_of_getElem? (i := 645) (by decide +kernel), List.mem_of_getElem? (i := 646) (by decide +kernel)⟩
theorem lw_p22 : lw_okq (⟨"NinePence$Slips", "putCarries", "(I)V"⟩, 9) := ⟨⟨by decide +kernel, by decide +kernel⟩, List.mem_of_getElem? (i := 116) (by decide +kernel), List.mem_of_getElem? (i := 651) (by decide +kernel), List.mem_of_getElem? (i := 652) (by decide +kernel)⟩
theorem lw_p23 : lw_okq (⟨"NinePence$Slips", "chain", "()V"⟩, 9) := ⟨⟨by decide +kernel, by decide +kernel⟩, List.mem_of_getElem? (i := 116) (by decide +kernel), List.mem_of_getElem? (i := 659) (by decide +kernel), List.mem_of_getElem? (i := 660) (by decide +kernel)⟩
theorem lw_p24 : lw_okq (⟨"NinePence$Singles", "leavesNoPageOff", "(I)Z"⟩, 7) := ⟨⟨by decide +kernel, by decide +kernel⟩, List.mem_of_getElem? (i := 152) (by decide +kernel), List.mem_of_getElem? (i := 679) (by decide +kernel), List.mem_of_getElem? (i := 680) (by decide +kernel)⟩
theorem lw_p25 : lw_okq (⟨"NinePence$Pairs", "findWith", "(II)V"⟩, 6) := ⟨⟨by decide +kernel, by decide +kernel⟩, List.mem_of_getElem? (i := 183) (by decide +kernel), List.mem_of_getElem? (i := 708) (by decide +kernel), List.mem_of_getElem? (i := 709) (by decide +kernel)⟩
theorem lw_p26 : lw_okq (⟨"NinePence$Pairs", "take", "(II)V"⟩, 6) := ⟨⟨by decide +kernel, by decide +kernel⟩, List.mem_of_getElem? (i := 183) (by decide +kernel), List.mem_of_getElem? (i := 720) (by decide +kernel), List.mem_of_getElem? (i := 721) (by decide +kernel)⟩
theorem lw_p27 : lw_okq (⟨"NinePence$Look", "insert", "(I)V"⟩, 9) := ⟨⟨by decide +kernel, by decide +kernel⟩, List.mem_of_getElem? (i := 212) (by decide +kernel), List.mem_of_getElem? (i := 745) (by decide +kernel), List.mem_of_getElem? (i := 746) (by decide +kernel)⟩
theorem lw_p28 : lw_okq (⟨"NinePence$Look", "isSooner", "(II)Z"⟩, 9) := ⟨⟨by decide +kernel, by decide +kernel⟩, List.mem_of_getElem? (i := 212) (by decide +kernel), List.mem_of_getElem? (i := 749) (by decide +kernel), List.mem_of_getElem? (i := 750) (by decide +kernel)⟩
theorem lw_p29 : lw_okq (⟨"NinePence$Look", "sumUp", "()V"⟩, 9) := ⟨⟨by decide +kernel, by decide +kernel⟩, List.mem_of_getElem? (i := 212) (by decide +kernel), List.mem_of_getElem? (i := 753) (by decide +kernel), List.mem_of_getElem? (i := 754) (by decide +kernel)⟩
theorem lw_p30 : lw_okq (⟨"NinePence$OtherBook", "costFrom", "(II)I"⟩, 5) := ⟨⟨by decide +kernel, by decide +kernel⟩, List.mem_of_getElem? (i := 249) (by decide +kernel), List.mem_of_getElem? (i := 868) (by decide +kernel), List.mem_of_getElem? (i := 869) (by decide +kernel)⟩
theorem lw_p31 : lw_okq (⟨"NinePence$OtherBook", "leastLine", "(II)I"⟩, 5) := ⟨⟨by decide +kernel, by decide +kernel⟩, List.mem_of_getElem? (i := 249) (by decide +kernel), List.mem_of_getElem? (i := 881) (by decide +kernel), List.mem_of_getElem? (i := 882) (by decide +kernel)⟩
def lw_privs_2 : List (MethodName × Nat) := [(⟨"NinePence$Slips", "oddsAt", "(II)I"⟩, 9), (⟨"NinePence$Slips", "putTurns", "(III)V"⟩, 9), (⟨"NinePence$Slips", "putSum", "(IIII)V"⟩, 9), (⟨"NinePence$Slips", "put", "(IIIII)V"⟩, 9), (⟨"NinePence$Slips", "putFigures", "(III)V"⟩, 9), (⟨"NinePence$Slips", "putMissed", "(I)V"⟩, 9), (⟨"NinePence$Slips", "putCarries", "(I)V"⟩, 9), (⟨"NinePence$Slips", "chain", "()V"⟩, 9), (⟨"NinePence$Singles", "leavesNoPageOff", "(I)Z"⟩, 7), (⟨"NinePence$Pairs", "findWith", "(II)V"⟩, 6), (⟨"NinePence$Pairs", "take", "(II)V"⟩, 6), (⟨"NinePence$Look", "insert", "(I)V"⟩, 9), (⟨"NinePence$Look", "isSooner", "(II)Z"⟩, 9), (⟨"NinePence$Look", "sumUp", "()V"⟩, 9), (⟨"NinePence$OtherBook", "costFrom", "(II)I"⟩, 5), (⟨"NinePence$OtherBook", "leastLine", "(II)I"⟩, 5)]
theorem lw_r2 : ∀ q ∈ lw_privs_2, lw_okq q := List.forall_mem_cons.mpr ⟨lw_p16, List.forall_mem_cons.mpr ⟨lw_p17, List.forall_mem_cons.mpr ⟨lw_p18, List.forall_mem_cons.mpr ⟨lw_p19, List.forall_mem_cons.mpr ⟨lw_p20, List.forall_mem_cons.mpr ⟨lw_p21, List.forall_mem_cons.mpr ⟨lw_p22, List.forall_mem_cons.mpr ⟨lw_p23, List.forall_mem_cons.mpr ⟨lw_p24, List.forall_mem_cons.mpr ⟨lw_p25, List.forall_mem_cons.mpr ⟨lw_p26, List.forall_mem_cons.mpr ⟨lw_p27, List.forall_mem_cons.mpr ⟨lw_p28, List.forall_mem_cons.mpr ⟨lw_p29, List.forall_mem_cons.mpr ⟨lw_p30, List.forall_mem_cons.mpr ⟨lw_p31, fun _ h => absurd h List.not_mem_nil⟩⟩⟩⟩⟩⟩⟩⟩⟩⟩⟩⟩⟩⟩⟩⟩
theorem lw_p32 : lw_okq (⟨"NinePenceModel", "token", "()V"⟩, 34) := ⟨⟨by decide +kernel, by decide +kernel⟩, List.mem_of_getElem? (i := 889) (by decide +kernel), List.mem_of_getElem? (i := 1015) (by decide +kernel), List.mem_of_getElem? (i := 1016) (by decide +kernel)⟩
theorem lw_p33 : lw_okq (⟨"NinePenceModel", "readsLine", "()Z"⟩, 34) := ⟨⟨by decide +kernel, by decide +kernel⟩, List.mem_of_getElem? (i := 889) (by decide +kernel), List.mem_of_getElem? (i := 1022) (by decide +kernel), List.mem_of_getElem? (i := 1023) (by decide +kernel)⟩
theorem lw_p34 : lw_okq (⟨"NinePenceModel", "isWord", "(II)Z"⟩, 34) := ⟨⟨by decide +kernel, by decide +kernel⟩, List.mem_of_getElem? (i := 889) (by decide +kernel), List.mem_of_getElem? (i := 1027) (by decide +kernel), List.mem_of_getElem? (i := 1028) (by decide +kernel)⟩
theorem lw_p35 : lw_okq (⟨"NinePenceModel", "readsRest", "(I)Z"⟩, 34) := ⟨⟨by decide +kernel, by decide +kernel⟩, List.mem_of_getElem? (i := 889) (by decide +kernel), List.mem_of_getElem? (i := 1038) (by decide +kernel), List.mem_of_getElem? (i := 1039) (by decide +kernel)⟩
theorem lw_p36 : lw_okq (⟨"NinePenceModel", "reads", "(III)Z"⟩, 34) := ⟨⟨by decide +kernel, by decide +kernel⟩, List.mem_of_getElem? (i := 889) (by decide +kernel), List.mem_of_getElem? (i := 1043) (by decide +kernel), List.mem_of_getElem? (i := 1044) (by decide +kernel)⟩
theorem lw_p37 : lw_okq (⟨"NinePenceModel", "isNumber", "()Z"⟩, 34) := ⟨⟨by decide +kernel, by decide +kernel⟩, List.mem_of_getElem? (i := 889) (by decide +kernel), List.mem_of_getElem? (i := 1047) (by decide +kernel), List.mem_of_getElem? (i := 1048) (by decide +kernel)⟩
theorem lw_p38 : lw_okq (⟨"NinePenceModel", "value", "()I"⟩, 34) := ⟨⟨by decide +kernel, by decide +kernel⟩, List.mem_of_getElem? (i := 889) (by decide +kernel), List.mem_of_getElem? (i := 1051) (by decide +kernel), List.mem_of_getElem? (i := 1052) (by decide +kernel)⟩
theorem lw_p39 : lw_okq (⟨"NinePenceModel", "readsPage", "()Z"⟩, 34) := ⟨⟨by decide +kernel, by decide +kernel⟩, List.mem_of_getElem? (i := 889) (by decide +kernel), List.mem_of_getElem? (i := 1055) (by decide +kernel), List.mem_of_getElem? (i := 1056) (by decide +kernel)⟩
theorem lw_p40 : lw_okq (⟨"NinePenceModel", "lay", "(I)V"⟩, 34) := ⟨⟨by decide +kernel, by decide +kernel⟩, List.mem_of_getElem? (i := 889) (by decide +kernel), List.mem_of_getElem? (i := 1065) (by decide +kernel), List.mem_of_getElem? (i := 1066) (by decide +kernel)⟩
theorem lw_p41 : lw_okq (⟨"NinePenceModel", "isEntry", "(I)Z"⟩, 34) := ⟨⟨by decide +kernel, by decide +kernel⟩, List.mem_of_getElem? (i := 889) (by decide +kernel), List.mem_of_getElem? (i := 1073) (by decide +kernel), List.mem_of_getElem? (i := 1074) (by decide +kernel)⟩
theorem lw_p42 : lw_okq (⟨"NinePenceModel", "outOf", "(I)I"⟩, 34) := ⟨⟨by decide +kernel, by decide +kernel⟩, List.mem_of_getElem? (i := 889) (by decide +kernel), List.mem_of_getElem? (i := 1084) (by decide +kernel), List.mem_of_getElem? (i := 1085) (by decide +kernel)⟩
theorem lw_p43 : lw_okq (⟨"NinePenceModel", "hasDue", "(I)Z"⟩, 34) := ⟨⟨by decide +kernel, by decide +kernel⟩, List.mem_of_getElem? (i := 889) (by decide +kernel), List.mem_of_getElem? (i := 1093) (by decide +kernel), List.mem_of_getElem? (i := 1094) (by decide +kernel)⟩
theorem lw_p44 : lw_okq (⟨"NinePenceModel", "offOf", "(I)I"⟩, 34) := ⟨⟨by decide +kernel, by decide +kernel⟩, List.mem_of_getElem? (i := 889) (by decide +kernel), List.mem_of_getElem? (i := 1097) (by decide +kernel), List.mem_of_getElem? (i := 1098) (by decide +kernel)⟩
theorem lw_p45 : lw_okq (⟨"NinePenceModel", "layOnes", "(Z)V"⟩, 34) := ⟨⟨by decide +kernel, by decide +kernel⟩, List.mem_of_getElem? (i := 889) (by decide +kernel), List.mem_of_getElem? (i := 1138) (by decide +kernel), List.mem_of_getElem? (i := 1139) (by decide +kernel)⟩
theorem lw_p46 : lw_okq (⟨"NinePenceModel", "laySlips", "()V"⟩, 34) := ⟨⟨by decide +kernel, by decide +kernel⟩, List.mem_of_getElem? (i := 889) (by decide +kernel), List.mem_of_getElem? (i := 1142) (by decide +kernel), List.mem_of_getElem? (i := 1143) (by decide +kernel)⟩
theorem lw_p47 : lw_okq (⟨"NinePenceModel", "layKind", "(II)V"⟩, 34) := ⟨⟨by decide +kernel, by decide +kernel⟩, List.mem_of_getElem? (i := 889) (by decide +kernel), List.mem_of_getElem? (i := 1146) (by decide +kernel), List.mem_of_getElem? (i := 1147) (by decide +kernel)⟩
def lw_privs_3 : List (MethodName × Nat) := [(⟨"NinePenceModel", "token", "()V"⟩, 34), (⟨"NinePenceModel", "readsLine", "()Z"⟩, 34), (⟨"NinePenceModel", "isWord", "(II)Z"⟩, 34), (⟨"NinePenceModel", "readsRest", "(I)Z"⟩, 34), (⟨"NinePenceModel", "reads", "(III)Z"⟩, 34), (⟨"NinePenceModel", "isNumber", "()Z"⟩, 34), (⟨"NinePenceModel", "value", "()I"⟩, 34), (⟨"NinePenceModel", "readsPage", "()Z"⟩, 34), (⟨"NinePenceModel", "lay", "(I)V"⟩, 34), (⟨"NinePenceModel", "isEntry", "(I)Z"⟩, 34), (⟨"NinePenceModel", "outOf", "(I)I"⟩, 34), (⟨"NinePenceModel", "hasDue", "(I)Z"⟩, 34), (⟨"NinePenceModel", "offOf", "(I)I"⟩, 34), (⟨"NinePenceModel", "layOnes", "(Z)V"⟩, 34), (⟨"NinePenceModel", "laySlips", "()V"⟩, 34), (⟨"NinePenceModel", "layKind", "(II)V"⟩, 34)]
theorem lw_r3 : ∀ q ∈ lw_privs_3, lw_okq q := List.forall_mem_cons.mpr ⟨lw_p32, List.forall_mem_cons.mpr ⟨lw_p33, List.forall_mem_cons.mpr ⟨lw_p34, List.forall_mem_cons.mpr ⟨lw_p35, List.forall_mem_cons.mpr ⟨lw_p36, List.forall_mem_cons.mpr ⟨lw_p37, List.forall_mem_cons.mpr ⟨lw_p38, List.forall_mem_cons.mpr ⟨lw_p39, List.forall_mem_cons.mpr ⟨lw_p40, List.forall_mem_cons.mpr ⟨lw_p41, List.forall_mem_cons.mpr ⟨lw_p42, List.forall_mem_cons.mpr ⟨lw_p43, List.forall_mem_cons.mpr ⟨lw_p44, List.forall_mem_cons.mpr ⟨lw_p45, List.forall_mem_cons.mpr ⟨lw_p46, List.forall_mem_cons.mpr ⟨lw_p47, fun _ h => absurd h List.not_mem_nil⟩⟩⟩⟩⟩⟩⟩⟩⟩⟩⟩⟩⟩⟩⟩⟩
theorem lw_p48 : lw_okq (⟨"NinePenceModel", "changeBy", "(II)I"⟩, 34) := ⟨⟨by decide +kernel, by decide +kernel⟩, List.mem_of_getElem? (i := 889) (by decide +kernel), List.mem_of_getElem? (i := 1159) (by decide +kernel), List.mem_of_getElem? (i := 1160) (by decide +kernel)⟩
theorem lw_p49 : lw_okq (⟨"NinePenceModel", "oddsOf", "(II)I"⟩, 34) := ⟨⟨by decide +kernel, by decide +kernel⟩, List.mem_of_getElem? (i := 889) (by decide +kernel), List.mem_of_getElem? (i := 1163) (by decide +kernel), List.mem_of_getElem? (i := 1164) (by decide +kernel)⟩
theorem lw_p50 : lw_okq (⟨"NinePenceModel", "add", "(IIIII)V"⟩, 34) := ⟨⟨by decide +kernel, by decide +kernel⟩, List.mem_of_getElem? (i := 889) (by decide +kernel), List.mem_of_getElem? (i := 1167) (by decide +kernel), List.mem_of_getElem? (i := 1168) (by decide +kernel)⟩
theorem lw_p51 : lw_okq (⟨"NinePenceModel", "layFigures", "(I)V"⟩, 34) := ⟨⟨by decide +kernel, by decide +kernel⟩, List.mem_of_getElem? (i := 889) (by decide +kernel), List.mem_of_getElem? (i := 1171) (by decide +kernel), List.mem_of_getElem? (i := 1172) (by decide +kernel)⟩
theorem lw_p52 : lw_okq (⟨"NinePenceModel", "isTwice", "(I)Z"⟩, 34) := ⟨⟨by decide +kernel, by decide +kernel⟩, List.mem_of_getElem? (i := 889) (by decide +kernel), List.mem_of_getElem? (i := 1175) (by decide +kernel), List.mem_of_getElem? (i := 1176) (by decide +kernel)⟩
theorem lw_p53 : lw_okq (⟨"NinePenceModel", "isUsed", "(I)Z"⟩, 34) := ⟨⟨by decide +kernel, by decide +kernel⟩, List.mem_of_getElem? (i := 889) (by decide +kernel), List.mem_of_getElem? (i := 1179) (by decide +kernel), List.mem_of_getElem? (i := 1180) (by decide +kernel)⟩
theorem lw_p54 : lw_okq (⟨"NinePenceModel", "isNarrow", "(I)Z"⟩, 34) := ⟨⟨by decide +kernel, by decide +kernel⟩, List.mem_of_getElem? (i := 889) (by decide +kernel), List.mem_of_getElem? (i := 1183) (by decide +kernel), List.mem_of_getElem? (i := 1184) (by decide +kernel)⟩
theorem lw_p55 : lw_okq (⟨"NinePenceModel", "layTwo", "(Z)V"⟩, 34) := ⟨⟨by decide +kernel, by decide +kernel⟩, List.mem_of_getElem? (i := 889) (by decide +kernel), List.mem_of_getElem? (i := 1197) (by decide +kernel), List.mem_of_getElem? (i := 1198) (by decide +kernel)⟩
theorem lw_p56 : lw_okq (⟨"NinePenceModel", "layPairs", "(I)V"⟩, 34) := ⟨⟨by decide +kernel, by decide +kernel⟩, List.mem_of_getElem? (i := 889) (by decide +kernel), List.mem_of_getElem? (i := 1201) (by decide +kernel), List.mem_of_getElem? (i := 1202) (by decide +kernel)⟩
theorem lw_p57 : lw_okq (⟨"NinePenceModel", "arePair", "(II)Z"⟩, 34) := ⟨⟨by decide +kernel, by decide +kernel⟩, List.mem_of_getElem? (i := 889) (by decide +kernel), List.mem_of_getElem? (i := 1205) (by decide +kernel), List.mem_of_getElem? (i := 1206) (by decide +kernel)⟩
theorem lw_p58 : lw_okq (⟨"NinePenceModel", "oneWeights", "()J"⟩, 34) := ⟨⟨by decide +kernel, by decide +kernel⟩, List.mem_of_getElem? (i := 889) (by decide +kernel), List.mem_of_getElem? (i := 1226) (by decide +kernel), List.mem_of_getElem? (i := 1227) (by decide +kernel)⟩
theorem lw_p59 : lw_okq (⟨"NinePenceModel", "layLooks", "(Z)V"⟩, 34) := ⟨⟨by decide +kernel, by decide +kernel⟩, List.mem_of_getElem? (i := 889) (by decide +kernel), List.mem_of_getElem? (i := 1244) (by decide +kernel), List.mem_of_getElem? (i := 1245) (by decide +kernel)⟩
theorem lw_p60 : lw_okq (⟨"NinePenceModel", "isAhead", "(II)Z"⟩, 34) := ⟨⟨by decide +kernel, by decide +kernel⟩, List.mem_of_getElem? (i := 889) (by decide +kernel), List.mem_of_getElem? (i := 1248) (by decide +kernel), List.mem_of_getElem? (i := 1249) (by decide +kernel)⟩
theorem lw_p61 : lw_okq (⟨"NinePenceModel", "layRest", "(I)V"⟩, 34) := ⟨⟨by decide +kernel, by decide +kernel⟩, List.mem_of_getElem? (i := 889) (by decide +kernel), List.mem_of_getElem? (i := 1275) (by decide +kernel), List.mem_of_getElem? (i := 1276) (by decide +kernel)⟩
theorem lw_p62 : lw_okq (⟨"NinePenceModel", "costWith", "(III)I"⟩, 34) := ⟨⟨by decide +kernel, by decide +kernel⟩, List.mem_of_getElem? (i := 889) (by decide +kernel), List.mem_of_getElem? (i := 1279) (by decide +kernel), List.mem_of_getElem? (i := 1280) (by decide +kernel)⟩
def lw_privs_4 : List (MethodName × Nat) := [(⟨"NinePenceModel", "changeBy", "(II)I"⟩, 34), (⟨"NinePenceModel", "oddsOf", "(II)I"⟩, 34), (⟨"NinePenceModel", "add", "(IIIII)V"⟩, 34), (⟨"NinePenceModel", "layFigures", "(I)V"⟩, 34), (⟨"NinePenceModel", "isTwice", "(I)Z"⟩, 34), (⟨"NinePenceModel", "isUsed", "(I)Z"⟩, 34), (⟨"NinePenceModel", "isNarrow", "(I)Z"⟩, 34), (⟨"NinePenceModel", "layTwo", "(Z)V"⟩, 34), (⟨"NinePenceModel", "layPairs", "(I)V"⟩, 34), (⟨"NinePenceModel", "arePair", "(II)Z"⟩, 34), (⟨"NinePenceModel", "oneWeights", "()J"⟩, 34), (⟨"NinePenceModel", "layLooks", "(Z)V"⟩, 34), (⟨"NinePenceModel", "isAhead", "(II)Z"⟩, 34), (⟨"NinePenceModel", "layRest", "(I)V"⟩, 34), (⟨"NinePenceModel", "costWith", "(III)I"⟩, 34)]
theorem lw_r4 : ∀ q ∈ lw_privs_4, lw_okq q := List.forall_mem_cons.mpr ⟨lw_p48, List.forall_mem_cons.mpr ⟨lw_p49, List.forall_mem_cons.mpr ⟨lw_p50, List.forall_mem_cons.mpr ⟨lw_p51, List.forall_mem_cons.mpr ⟨lw_p52, List.forall_mem_cons.mpr ⟨lw_p53, List.forall_mem_cons.mpr ⟨lw_p54, List.forall_mem_cons.mpr ⟨lw_p55, List.forall_mem_cons.mpr ⟨lw_p56, List.forall_mem_cons.mpr ⟨lw_p57, List.forall_mem_cons.mpr ⟨lw_p58, List.forall_mem_cons.mpr ⟨lw_p59, List.forall_mem_cons.mpr ⟨lw_p60, List.forall_mem_cons.mpr ⟨lw_p61, List.forall_mem_cons.mpr ⟨lw_p62, fun _ h => absurd h List.not_mem_nil⟩⟩⟩⟩⟩⟩⟩⟩⟩⟩⟩⟩⟩⟩⟩
def lw_privs : List (MethodName × Nat) := lw_privs_1 ++ (lw_privs_2 ++ (lw_privs_3 ++ (lw_privs_4)))
def lw_tbl : List Cond := k2_sels lw_privs ++ tables_1
theorem lw_privs_ok : ∀ q ∈ lw_privs, lw_okq q := by
  show ∀ q ∈ lw_privs_1 ++ (lw_privs_2 ++ (lw_privs_3 ++ (lw_privs_4))), lw_okq q
  exact List.forall_mem_append.mpr ⟨lw_r1, List.forall_mem_append.mpr ⟨lw_r2, List.forall_mem_append.mpr ⟨lw_r3, lw_r4⟩⟩⟩

/-! ===== BEGIN words of one list among another's, by their places ===== -/
theorem goodIn_r {big : List Cond} (ws : List Cond) (ps : List Nat) (hp : ws = ps.filterMap (fun i => big[i]?)) (h : ws.all goodWord = true) : GoodIn big ws := by
  intro w hw
  have h1 := List.all_eq_true.mp h w hw
  rw [hp] at hw
  obtain ⟨i, -, hi⟩ := List.mem_filterMap.mp hw
  have hm : w ∈ big := by first | exact List.mem_of_getElem? hi | exact List.getElem?_mem hi
  exact ⟨hm, good_of_word h1⟩
theorem goodIn_app {big a b : List Cond} (ha : GoodIn big a) (hb : GoodIn big b) : GoodIn big (a ++ b) := fun w h => (List.mem_append.mp h).elim (ha w) (hb w)
theorem goodIn_ca {big a b : List Cond} {c : Cond} (ha : GoodIn big (c :: a)) (hb : GoodIn big b) : GoodIn big (c :: (a ++ b)) := fun w h => (List.mem_cons.mp h).elim (fun e => ha w (List.mem_cons.mpr (Or.inl e))) (fun h => (List.mem_append.mp h).elim (fun h => ha w (List.mem_cons.mpr (Or.inr h))) (hb w))
theorem goodIn_sub {big ws : List Cond} (hm : ∀ w ∈ ws, w ∈ big) (h : ws.all goodWord = true) : GoodIn big ws := fun w hw => ⟨hm w hw, good_of_word (List.all_eq_true.mp h w hw)⟩

def RX0 : String := "NinePence$Figures"
def TX0 : u_T := fun k => match k with
  | _ => ("", "", "", false)
def tyX0 : Nat → FieldType := fun k => match k with
  | _ => .int
abbrev cX0_tens : ByteArray := prog_2_method_2_code
def yX0_tens : MethodName := ⟨RX0, "tens", "(I)I"⟩
abbrev cX0_many : ByteArray := prog_2_method_3_code
def yX0_many : MethodName := ⟨RX0, "many", "(I)I"⟩
abbrev cX0_at : ByteArray := prog_2_method_4_code
def yX0_at : MethodName := ⟨RX0, "at", "(II)I"⟩
abbrev cX0_turned : ByteArray := prog_2_method_5_code
def yX0_turned : MethodName := ⟨RX0, "turned", "(II)I"⟩
abbrev cX0_shorter : ByteArray := prog_2_method_6_code
def yX0_shorter : MethodName := ⟨RX0, "shorter", "(I)I"⟩
abbrev cX0_longer : ByteArray := prog_2_method_7_code
def yX0_longer : MethodName := ⟨RX0, "longer", "(I)I"⟩
abbrev cX0_kindBetween : ByteArray := prog_2_method_8_code
def yX0_kindBetween : MethodName := ⟨RX0, "kindBetween", "(II)I"⟩
abbrev cX0_isTens : ByteArray := prog_2_method_9_code
def yX0_isTens : MethodName := ⟨RX0, "isTens", "(I)Z"⟩
abbrev cX0_isTurn : ByteArray := prog_2_method_10_code
def yX0_isTurn : MethodName := ⟨RX0, "isTurn", "(II)Z"⟩
abbrev cX0_isOneFigure : ByteArray := prog_2_method_11_code
def yX0_isOneFigure : MethodName := ⟨RX0, "isOneFigure", "(II)Z"⟩
def RX1 : String := "NinePence$Fractions"
def TX1 : u_T := fun k => match k with
  | _ => ("", "", "", false)
def tyX1 : Nat → FieldType := fun k => match k with
  | _ => .int
abbrev cX1_lowest : ByteArray := prog_3_method_2_code
def yX1_lowest : MethodName := ⟨RX1, "lowest", "(JJI)J"⟩
abbrev cX1_greatestDivisor : ByteArray := prog_3_method_3_code
def yX1_greatestDivisor : MethodName := ⟨RX1, "greatestDivisor", "(JJ)J"⟩
def RX2 : String := "NinePence$Ledger"
def TX2 : u_T := fun k => match k with
  | 0 => ("NinePence$Ledger", "size", "I", false)
  | 1 => ("NinePence$Ledger", "missed", "I", false)
  | 2 => ("NinePence$Ledger", "carry", "I", false)
  | 3 => ("NinePence$Ledger", "second", "I", false)
  | 4 => ("NinePence$Ledger", "changes", "I", false)
  | 5 => ("NinePence$Ledger", "parts", "[I", true)
  | 6 => ("NinePence$Ledger", "odds", "[I", true)
  | 7 => ("NinePence$Ledger", "reads", "[I", true)
  | 8 => ("NinePence$Ledger", "dues", "[I", true)
  | _ => ("NinePence$Ledger", "dueTold", "[Z", true)
def tyX2 : Nat → FieldType := fun k => match k with
  | 0 => .int
  | 1 => .int
  | 2 => .int
  | 3 => .int
  | 4 => .int
  | 5 => .array .int
  | 6 => .array .int
  | 7 => .array .int
  | 8 => .array .int
  | _ => .array .boolean
abbrev cX2_init : ByteArray := prog_4_method_1_code
def yX2_init : MethodName := ⟨RX2, "<init>", "()V"⟩
abbrev cX2_holds : ByteArray := prog_4_method_2_code
def yX2_holds : MethodName := ⟨RX2, "holds", "(I)Z"⟩
abbrev cX2_told : ByteArray := prog_4_method_3_code
def yX2_told : MethodName := ⟨RX2, "told", "(II)I"⟩
abbrev cX2_setPart : ByteArray := prog_4_method_4_code
def yX2_setPart : MethodName := ⟨RX2, "setPart", "(III)V"⟩
abbrev cX2_outOf : ByteArray := prog_4_method_5_code
def yX2_outOf : MethodName := ⟨RX2, "outOf", "(I)I"⟩
abbrev cX2_outBy : ByteArray := prog_4_method_6_code
def yX2_outBy : MethodName := ⟨RX2, "outBy", "(I)I"⟩
abbrev cX2_hasDue : ByteArray := prog_4_method_7_code
def yX2_hasDue : MethodName := ⟨RX2, "hasDue", "(I)Z"⟩
abbrev cX2_dueOf : ByteArray := prog_4_method_8_code
def yX2_dueOf : MethodName := ⟨RX2, "dueOf", "(I)I"⟩
abbrev cX2_hasEntryOn : ByteArray := prog_4_method_9_code
def yX2_hasEntryOn : MethodName := ⟨RX2, "hasEntryOn", "(I)Z"⟩
abbrev cX2_hasSum : ByteArray := prog_4_method_10_code
def yX2_hasSum : MethodName := ⟨RX2, "hasSum", "(II)Z"⟩
abbrev cX2_hasTwinAhead : ByteArray := prog_4_method_11_code
def yX2_hasTwinAhead : MethodName := ⟨RX2, "hasTwinAhead", "(I)Z"⟩
abbrev cX2_oddsOf : ByteArray := prog_4_method_12_code
def yX2_oddsOf : MethodName := ⟨RX2, "oddsOf", "(II)I"⟩
abbrev cX2_setOdds : ByteArray := prog_4_method_13_code
def yX2_setOdds : MethodName := ⟨RX2, "setOdds", "(III)V"⟩
abbrev cX2_readOf : ByteArray := prog_4_method_14_code
def yX2_readOf : MethodName := ⟨RX2, "readOf", "(II)I"⟩
abbrev cX2_change : ByteArray := prog_4_method_15_code
def yX2_change : MethodName := ⟨RX2, "change", "(III)V"⟩
abbrev cX2_remove : ByteArray := prog_4_method_16_code
def yX2_remove : MethodName := ⟨RX2, "remove", "(I)V"⟩
abbrev cX2_take : ByteArray := prog_4_method_17_code
def yX2_take : MethodName := ⟨RX2, "take", "(LNinePence$Text;)V"⟩
abbrev cX2_takeLine : ByteArray := prog_4_method_18_code
def yX2_takeLine : MethodName := ⟨RX2, "takeLine", "(LNinePence$Text;I)V"⟩
abbrev cX2_add : ByteArray := prog_4_method_19_code
def yX2_add : MethodName := ⟨RX2, "add", "(ILNinePence$Text;I)V"⟩
abbrev cX2_setDue : ByteArray := prog_4_method_20_code
def yX2_setDue : MethodName := ⟨RX2, "setDue", "(III)V"⟩
def RX3 : String := "NinePence$Look"
def TX3 : u_T := fun k => match k with
  | 0 => ("NinePence$Look", "size", "I", false)
  | 1 => ("NinePence$Look", "figuresByWeight", "J", false)
  | 2 => ("NinePence$Look", "allWeights", "J", false)
  | 3 => ("NinePence$Look", "ledger", "LNinePence$Ledger;", true)
  | 4 => ("NinePence$Look", "slips", "LNinePence$Slips;", true)
  | 5 => ("NinePence$Look", "singles", "LNinePence$Singles;", true)
  | 6 => ("NinePence$Look", "weights", "[I", true)
  | 7 => ("NinePence$Look", "figures", "[I", true)
  | _ => ("NinePence$Look", "order", "[I", true)
def tyX3 : Nat → FieldType := fun k => match k with
  | 0 => .int
  | 1 => .long
  | 2 => .long
  | 3 => .object "NinePence$Ledger"
  | 4 => .object "NinePence$Slips"
  | 5 => .object "NinePence$Singles"
  | 6 => .array .int
  | 7 => .array .int
  | _ => .array .int
abbrev cX3_init : ByteArray := prog_5_method_1_code
def yX3_init : MethodName := ⟨RX3, "<init>", "(LNinePence$Ledger;LNinePence$Slips;LNinePence$Singles;)V"⟩
abbrev cX3_entryAt : ByteArray := prog_5_method_2_code
def yX3_entryAt : MethodName := ⟨RX3, "entryAt", "(I)I"⟩
abbrev cX3_build : ByteArray := prog_5_method_3_code
def yX3_build : MethodName := ⟨RX3, "build", "()V"⟩
abbrev cX3_insert : ByteArray := prog_5_method_4_code
def yX3_insert : MethodName := ⟨RX3, "insert", "(I)V"⟩
abbrev cX3_isSooner : ByteArray := prog_5_method_5_code
def yX3_isSooner : MethodName := ⟨RX3, "isSooner", "(II)Z"⟩
abbrev cX3_sumUp : ByteArray := prog_5_method_6_code
def yX3_sumUp : MethodName := ⟨RX3, "sumUp", "()V"⟩
def RX4 : String := "NinePence$OtherBook"
def TX4 : u_T := fun k => match k with
  | 0 => ("NinePence$OtherBook", "size", "I", false)
  | 1 => ("NinePence$OtherBook", "ledger", "LNinePence$Ledger;", true)
  | 2 => ("NinePence$OtherBook", "sums", "[I", true)
  | 3 => ("NinePence$OtherBook", "costs", "[I", true)
  | _ => ("NinePence$OtherBook", "pairCosts", "[I", true)
def tyX4 : Nat → FieldType := fun k => match k with
  | 0 => .int
  | 1 => .object "NinePence$Ledger"
  | 2 => .array .int
  | 3 => .array .int
  | _ => .array .int
abbrev cX4_init : ByteArray := prog_6_method_1_code
def yX4_init : MethodName := ⟨RX4, "<init>", "(LNinePence$Ledger;)V"⟩
abbrev cX4_add : ByteArray := prog_6_method_2_code
def yX4_add : MethodName := ⟨RX4, "add", "(I)V"⟩
abbrev cX4_leastCost : ByteArray := prog_6_method_3_code
def yX4_leastCost : MethodName := ⟨RX4, "leastCost", "()I"⟩
abbrev cX4_findLeastCosts : ByteArray := prog_6_method_4_code
def yX4_findLeastCosts : MethodName := ⟨RX4, "findLeastCosts", "(I)V"⟩
abbrev cX4_lineOf : ByteArray := prog_6_method_5_code
def yX4_lineOf : MethodName := ⟨RX4, "lineOf", "(II)I"⟩
abbrev cX4_leastLine : ByteArray := prog_6_method_6_code
def yX4_leastLine : MethodName := ⟨RX4, "leastLine", "(II)I"⟩
abbrev cX4_costFrom : ByteArray := prog_6_method_7_code
def yX4_costFrom : MethodName := ⟨RX4, "costFrom", "(II)I"⟩
abbrev cX4_pairCost : ByteArray := prog_6_method_8_code
def yX4_pairCost : MethodName := ⟨RX4, "pairCost", "(II)I"⟩
def RX5 : String := "NinePence$Pairs"
def TX5 : u_T := fun k => match k with
  | 0 => ("NinePence$Pairs", "many", "J", false)
  | 1 => ("NinePence$Pairs", "weights", "J", false)
  | 2 => ("NinePence$Pairs", "first", "I", false)
  | 3 => ("NinePence$Pairs", "second", "I", false)
  | 4 => ("NinePence$Pairs", "greatest", "J", false)
  | _ => ("NinePence$Pairs", "slips", "LNinePence$Slips;", true)
def tyX5 : Nat → FieldType := fun k => match k with
  | 0 => .long
  | 1 => .long
  | 2 => .int
  | 3 => .int
  | 4 => .long
  | _ => .object "NinePence$Slips"
abbrev cX5_init : ByteArray := prog_7_method_1_code
def yX5_init : MethodName := ⟨RX5, "<init>", "(LNinePence$Slips;)V"⟩
abbrev cX5_find : ByteArray := prog_7_method_2_code
def yX5_find : MethodName := ⟨RX5, "find", "(I)V"⟩
abbrev cX5_findWith : ByteArray := prog_7_method_3_code
def yX5_findWith : MethodName := ⟨RX5, "findWith", "(II)V"⟩
abbrev cX5_take : ByteArray := prog_7_method_4_code
def yX5_take : MethodName := ⟨RX5, "take", "(II)V"⟩
def RX6 : String := "NinePence$Rows"
def TX6 : u_T := fun k => match k with
  | _ => ("", "", "", false)
def tyX6 : Nat → FieldType := fun k => match k with
  | _ => .int
abbrev cX6_at : ByteArray := prog_8_method_2_code
def yX6_at : MethodName := ⟨RX6, "at", "([II)I"⟩
abbrev cX6_set : ByteArray := prog_8_method_3_code
def yX6_set : MethodName := ⟨RX6, "set", "([III)V"⟩
def RX7 : String := "NinePence$Singles"
def TX7 : u_T := fun k => match k with
  | 0 => ("NinePence$Singles", "size", "I", false)
  | 1 => ("NinePence$Singles", "weights", "J", false)
  | 2 => ("NinePence$Singles", "ledger", "LNinePence$Ledger;", true)
  | 3 => ("NinePence$Singles", "slips", "LNinePence$Slips;", true)
  | 4 => ("NinePence$Singles", "narrow", "Z", true)
  | 5 => ("NinePence$Singles", "rows", "[I", true)
  | _ => ("NinePence$Singles", "outs", "[I", true)
def tyX7 : Nat → FieldType := fun k => match k with
  | 0 => .int
  | 1 => .long
  | 2 => .object "NinePence$Ledger"
  | 3 => .object "NinePence$Slips"
  | 4 => .boolean
  | 5 => .array .int
  | _ => .array .int
abbrev cX7_init : ByteArray := prog_9_method_1_code
def yX7_init : MethodName := ⟨RX7, "<init>", "(LNinePence$Ledger;LNinePence$Slips;Z)V"⟩
abbrev cX7_slip : ByteArray := prog_9_method_2_code
def yX7_slip : MethodName := ⟨RX7, "slip", "(I)I"⟩
abbrev cX7_build : ByteArray := prog_9_method_3_code
def yX7_build : MethodName := ⟨RX7, "build", "()V"⟩
abbrev cX7_manyOf : ByteArray := prog_9_method_4_code
def yX7_manyOf : MethodName := ⟨RX7, "manyOf", "(I)I"⟩
abbrev cX7_weightsOfHand : ByteArray := prog_9_method_5_code
def yX7_weightsOfHand : MethodName := ⟨RX7, "weightsOfHand", "(I)J"⟩
abbrev cX7_leavesNoPageOff : ByteArray := prog_9_method_6_code
def yX7_leavesNoPageOff : MethodName := ⟨RX7, "leavesNoPageOff", "(I)Z"⟩
def RX8 : String := "NinePence$Slips"
def TX8 : u_T := fun k => match k with
  | 0 => ("NinePence$Slips", "size", "I", false)
  | 1 => ("NinePence$Slips", "ledger", "LNinePence$Ledger;", true)
  | 2 => ("NinePence$Slips", "kinds", "[I", true)
  | 3 => ("NinePence$Slips", "places", "[I", true)
  | 4 => ("NinePence$Slips", "shoulds", "[I", true)
  | 5 => ("NinePence$Slips", "changes", "[I", true)
  | 6 => ("NinePence$Slips", "weights", "[I", true)
  | 7 => ("NinePence$Slips", "heads", "[I", true)
  | _ => ("NinePence$Slips", "nexts", "[I", true)
def tyX8 : Nat → FieldType := fun k => match k with
  | 0 => .int
  | 1 => .object "NinePence$Ledger"
  | 2 => .array .int
  | 3 => .array .int
  | 4 => .array .int
  | 5 => .array .int
  | 6 => .array .int
  | 7 => .array .int
  | _ => .array .int
abbrev cX8_init : ByteArray := prog_10_method_1_code
def yX8_init : MethodName := ⟨RX8, "<init>", "(LNinePence$Ledger;)V"⟩
abbrev cX8_kind : ByteArray := prog_10_method_2_code
def yX8_kind : MethodName := ⟨RX8, "kind", "(I)I"⟩
abbrev cX8_place : ByteArray := prog_10_method_3_code
def yX8_place : MethodName := ⟨RX8, "place", "(I)I"⟩
abbrev cX8_change : ByteArray := prog_10_method_4_code
def yX8_change : MethodName := ⟨RX8, "change", "(I)I"⟩
abbrev cX8_weight : ByteArray := prog_10_method_5_code
def yX8_weight : MethodName := ⟨RX8, "weight", "(I)I"⟩
abbrev cX8_told : ByteArray := prog_10_method_6_code
def yX8_told : MethodName := ⟨RX8, "told", "(II)I"⟩
abbrev cX8_pageOf : ByteArray := prog_10_method_7_code
def yX8_pageOf : MethodName := ⟨RX8, "pageOf", "(I)I"⟩
abbrev cX8_standApart : ByteArray := prog_10_method_8_code
def yX8_standApart : MethodName := ⟨RX8, "standApart", "(II)Z"⟩
abbrev cX8_chainOf : ByteArray := prog_10_method_9_code
def yX8_chainOf : MethodName := ⟨RX8, "chainOf", "(I)I"⟩
abbrev cX8_nextInChain : ByteArray := prog_10_method_10_code
def yX8_nextInChain : MethodName := ⟨RX8, "nextInChain", "(I)I"⟩
abbrev cX8_build : ByteArray := prog_10_method_11_code
def yX8_build : MethodName := ⟨RX8, "build", "()V"⟩
abbrev cX8_oddsAt : ByteArray := prog_10_method_12_code
def yX8_oddsAt : MethodName := ⟨RX8, "oddsAt", "(II)I"⟩
abbrev cX8_putTurns : ByteArray := prog_10_method_13_code
def yX8_putTurns : MethodName := ⟨RX8, "putTurns", "(III)V"⟩
abbrev cX8_putFigures : ByteArray := prog_10_method_14_code
def yX8_putFigures : MethodName := ⟨RX8, "putFigures", "(III)V"⟩
abbrev cX8_putMissed : ByteArray := prog_10_method_15_code
def yX8_putMissed : MethodName := ⟨RX8, "putMissed", "(I)V"⟩
abbrev cX8_putCarries : ByteArray := prog_10_method_16_code
def yX8_putCarries : MethodName := ⟨RX8, "putCarries", "(I)V"⟩
abbrev cX8_putSum : ByteArray := prog_10_method_17_code
def yX8_putSum : MethodName := ⟨RX8, "putSum", "(IIII)V"⟩
abbrev cX8_put : ByteArray := prog_10_method_18_code
def yX8_put : MethodName := ⟨RX8, "put", "(IIIII)V"⟩
abbrev cX8_chain : ByteArray := prog_10_method_19_code
def yX8_chain : MethodName := ⟨RX8, "chain", "()V"⟩
def RX9 : String := "NinePence$Text"
def TX9 : u_T := fun k => match k with
  | 0 => ("NinePence$Text", "length", "I", false)
  | 1 => ("NinePence$Text", "lines", "I", false)
  | 2 => ("NinePence$Text", "bytes", "[I", true)
  | 3 => ("NinePence$Text", "tokens", "[I", true)
  | 4 => ("NinePence$Text", "begins", "[I", true)
  | 5 => ("NinePence$Text", "values", "[I", true)
  | 6 => ("NinePence$Text", "words", "[I", true)
  | 7 => ("NinePence$Text", "numbers", "[I", true)
  | _ => ("NinePence$Text", "next", "I", false)
def tyX9 : Nat → FieldType := fun k => match k with
  | 0 => .int
  | 1 => .int
  | 2 => .array .int
  | 3 => .array .int
  | 4 => .array .int
  | 5 => .array .int
  | 6 => .array .int
  | 7 => .array .int
  | _ => .int
abbrev cX9_init : ByteArray := prog_11_method_1_code
def yX9_init : MethodName := ⟨RX9, "<init>", "()V"⟩
abbrev cX9_append : ByteArray := prog_11_method_2_code
def yX9_append : MethodName := ⟨RX9, "append", "(I)V"⟩
abbrev cX9_word : ByteArray := prog_11_method_3_code
def yX9_word : MethodName := ⟨RX9, "word", "(I)I"⟩
abbrev cX9_number : ByteArray := prog_11_method_4_code
def yX9_number : MethodName := ⟨RX9, "number", "(II)I"⟩
abbrev cX9_read : ByteArray := prog_11_method_5_code
def yX9_read : MethodName := ⟨RX9, "read", "()I"⟩
abbrev cX9_readLine : ByteArray := prog_11_method_6_code
def yX9_readLine : MethodName := ⟨RX9, "readLine", "(I)Z"⟩
abbrev cX9_readDue : ByteArray := prog_11_method_7_code
def yX9_readDue : MethodName := ⟨RX9, "readDue", "(I)Z"⟩
abbrev cX9_takeNumber : ByteArray := prog_11_method_8_code
def yX9_takeNumber : MethodName := ⟨RX9, "takeNumber", "(IIII)Z"⟩
abbrev cX9_split : ByteArray := prog_11_method_9_code
def yX9_split : MethodName := ⟨RX9, "split", "()V"⟩
abbrev cX9_isBegin : ByteArray := prog_11_method_10_code
def yX9_isBegin : MethodName := ⟨RX9, "isBegin", "(I)Z"⟩
abbrev cX9_setToken : ByteArray := prog_11_method_11_code
def yX9_setToken : MethodName := ⟨RX9, "setToken", "(II)V"⟩
abbrev cX9_isRow : ByteArray := prog_11_method_12_code
def yX9_isRow : MethodName := ⟨RX9, "isRow", "(I)Z"⟩
abbrev cX9_sortAt : ByteArray := prog_11_method_13_code
def yX9_sortAt : MethodName := ⟨RX9, "sortAt", "(I)I"⟩
abbrev cX9_valueOf : ByteArray := prog_11_method_14_code
def yX9_valueOf : MethodName := ⟨RX9, "valueOf", "(II)I"⟩
abbrev cX9_wordOf : ByteArray := prog_11_method_15_code
def yX9_wordOf : MethodName := ⟨RX9, "wordOf", "(II)I"⟩
abbrev cX9_is : ByteArray := prog_11_method_16_code
def yX9_is : MethodName := ⟨RX9, "is", "(Ljava/lang/String;II)Z"⟩
def RX10 : String := "NinePence"
def TX10 : u_T := fun k => match k with
  | 0 => ("NinePence", "text", "LNinePence$Text;", true)
  | 1 => ("NinePence", "ledger", "LNinePence$Ledger;", true)
  | 2 => ("NinePence", "slips", "LNinePence$Slips;", true)
  | 3 => ("NinePence", "singles", "LNinePence$Singles;", true)
  | 4 => ("NinePence", "narrowed", "LNinePence$Singles;", true)
  | 5 => ("NinePence", "outPairs", "LNinePence$Pairs;", true)
  | 6 => ("NinePence", "hidden", "LNinePence$Pairs;", true)
  | 7 => ("NinePence", "wideLook", "LNinePence$Look;", true)
  | 8 => ("NinePence", "narrowLook", "LNinePence$Look;", true)
  | 9 => ("NinePence", "otherBook", "LNinePence$OtherBook;", true)
  | _ => ("NinePence", "workedOutAt", "I", false)
def tyX10 : Nat → FieldType := fun k => match k with
  | 0 => .object "NinePence$Text"
  | 1 => .object "NinePence$Ledger"
  | 2 => .object "NinePence$Slips"
  | 3 => .object "NinePence$Singles"
  | 4 => .object "NinePence$Singles"
  | 5 => .object "NinePence$Pairs"
  | 6 => .object "NinePence$Pairs"
  | 7 => .object "NinePence$Look"
  | 8 => .object "NinePence$Look"
  | 9 => .object "NinePence$OtherBook"
  | _ => .int
abbrev cX10_init : ByteArray := prog_1_method_1_code
def yX10_init : MethodName := ⟨RX10, "<init>", "()V"⟩
abbrev cX10_write : ByteArray := prog_1_method_2_code
def yX10_write : MethodName := ⟨RX10, "write", "(JI)I"⟩
abbrev cX10_erase : ByteArray := prog_1_method_3_code
def yX10_erase : MethodName := ⟨RX10, "erase", "()I"⟩
abbrev cX10_fault : ByteArray := prog_1_method_4_code
def yX10_fault : MethodName := ⟨RX10, "fault", "()I"⟩
abbrev cX10_book : ByteArray := prog_1_method_5_code
def yX10_book : MethodName := ⟨RX10, "book", "()I"⟩
abbrev cX10_entry : ByteArray := prog_1_method_6_code
def yX10_entry : MethodName := ⟨RX10, "entry", "(II)I"⟩
abbrev cX10_out : ByteArray := prog_1_method_7_code
def yX10_out : MethodName := ⟨RX10, "out", "(I)I"⟩
abbrev cX10_off : ByteArray := prog_1_method_8_code
def yX10_off : MethodName := ⟨RX10, "off", "(I)I"⟩
abbrev cX10_odds : ByteArray := prog_1_method_9_code
def yX10_odds : MethodName := ⟨RX10, "odds", "(II)I"⟩
abbrev cX10_learn : ByteArray := prog_1_method_10_code
def yX10_learn : MethodName := ⟨RX10, "learn", "(II)I"⟩
abbrev cX10_mend : ByteArray := prog_1_method_11_code
def yX10_mend : MethodName := ⟨RX10, "mend", "(III)I"⟩
abbrev cX10_strike : ByteArray := prog_1_method_12_code
def yX10_strike : MethodName := ⟨RX10, "strike", "(I)I"⟩
abbrev cX10_signs : ByteArray := prog_1_method_13_code
def yX10_signs : MethodName := ⟨RX10, "signs", "()I"⟩
abbrev cX10_one : ByteArray := prog_1_method_14_code
def yX10_one : MethodName := ⟨RX10, "one", "(IIZ)I"⟩
abbrev cX10_ofKind : ByteArray := prog_1_method_15_code
def yX10_ofKind : MethodName := ⟨RX10, "ofKind", "(I)I"⟩
abbrev cX10_two : ByteArray := prog_1_method_16_code
def yX10_two : MethodName := ⟨RX10, "two", "(I)J"⟩
abbrev cX10_hide : ByteArray := prog_1_method_17_code
def yX10_hide : MethodName := ⟨RX10, "hide", "(I)J"⟩
abbrev cX10_pair : ByteArray := prog_1_method_18_code
def yX10_pair : MethodName := ⟨RX10, "pair", "(ZI)I"⟩
abbrev cX10_chance : ByteArray := prog_1_method_19_code
def yX10_chance : MethodName := ⟨RX10, "chance", "(II)J"⟩
abbrev cX10_whose : ByteArray := prog_1_method_20_code
def yX10_whose : MethodName := ⟨RX10, "whose", "(II)I"⟩
abbrev cX10_look : ByteArray := prog_1_method_21_code
def yX10_look : MethodName := ⟨RX10, "look", "(IZ)I"⟩
abbrev cX10_mean : ByteArray := prog_1_method_22_code
def yX10_mean : MethodName := ⟨RX10, "mean", "(ZI)I"⟩
abbrev cX10_judge : ByteArray := prog_1_method_23_code
def yX10_judge : MethodName := ⟨RX10, "judge", "(III)I"⟩
abbrev cX10_other : ByteArray := prog_1_method_24_code
def yX10_other : MethodName := ⟨RX10, "other", "(I)I"⟩
abbrev cX10_match : ByteArray := prog_1_method_25_code
def yX10_match : MethodName := ⟨RX10, "match", "(II)I"⟩
abbrev cX10_count : ByteArray := prog_1_method_26_code
def yX10_count : MethodName := ⟨RX10, "count", "(I)I"⟩
abbrev cX10_isSide : ByteArray := prog_1_method_27_code
def yX10_isSide : MethodName := ⟨RX10, "isSide", "(I)Z"⟩
abbrev cX10_isSum : ByteArray := prog_1_method_28_code
def yX10_isSum : MethodName := ⟨RX10, "isSum", "(I)Z"⟩
abbrev cX10_isHand : ByteArray := prog_1_method_29_code
def yX10_isHand : MethodName := ⟨RX10, "isHand", "(I)Z"⟩
abbrev cX10_isPage : ByteArray := prog_1_method_30_code
def yX10_isPage : MethodName := ⟨RX10, "isPage", "(I)Z"⟩
abbrev cX10_isEntryKind : ByteArray := prog_1_method_31_code
def yX10_isEntryKind : MethodName := ⟨RX10, "isEntryKind", "(I)Z"⟩
abbrev cX10_isPart : ByteArray := prog_1_method_32_code
def yX10_isPart : MethodName := ⟨RX10, "isPart", "(I)Z"⟩
abbrev cX10_isNineTimesOrTenths : ByteArray := prog_1_method_33_code
def yX10_isNineTimesOrTenths : MethodName := ⟨RX10, "isNineTimesOrTenths", "(I)Z"⟩
abbrev cX10_workOut : ByteArray := prog_1_method_34_code
def yX10_workOut : MethodName := ⟨RX10, "workOut", "()V"⟩
def RX11 : String := "NinePenceModel"
def TX11 : u_T := fun k => match k with
  | 0 => ("NinePenceModel", "text", "[I", true)
  | 1 => ("NinePenceModel", "length", "I", false)
  | 2 => ("NinePenceModel", "read", "[I", true)
  | 3 => ("NinePenceModel", "readMany", "I", false)
  | 4 => ("NinePenceModel", "entries", "[I", true)
  | 5 => ("NinePenceModel", "entryMany", "I", false)
  | 6 => ("NinePenceModel", "dues", "[I", true)
  | 7 => ("NinePenceModel", "dueSet", "I", false)
  | 8 => ("NinePenceModel", "odds", "[I", true)
  | 9 => ("NinePenceModel", "reads", "[I", true)
  | 10 => ("NinePenceModel", "missing", "I", false)
  | 11 => ("NinePenceModel", "carrying", "I", false)
  | 12 => ("NinePenceModel", "second", "I", false)
  | 13 => ("NinePenceModel", "others", "[I", true)
  | 14 => ("NinePenceModel", "otherMany", "I", false)
  | 15 => ("NinePenceModel", "at", "I", false)
  | 16 => ("NinePenceModel", "place", "I", false)
  | 17 => ("NinePenceModel", "end", "I", false)
  | 18 => ("NinePenceModel", "kinds", "[I", true)
  | 19 => ("NinePenceModel", "places", "[I", true)
  | 20 => ("NinePenceModel", "shoulds", "[I", true)
  | 21 => ("NinePenceModel", "changes", "[I", true)
  | 22 => ("NinePenceModel", "weights", "[I", true)
  | 23 => ("NinePenceModel", "slips", "I", false)
  | 24 => ("NinePenceModel", "ones", "[I", true)
  | 25 => ("NinePenceModel", "oneMany", "I", false)
  | 26 => ("NinePenceModel", "pairMany", "J", false)
  | 27 => ("NinePenceModel", "pairWeights", "J", false)
  | 28 => ("NinePenceModel", "bestFirst", "I", false)
  | 29 => ("NinePenceModel", "bestSecond", "I", false)
  | 30 => ("NinePenceModel", "owned", "[I", true)
  | 31 => ("NinePenceModel", "looks", "[I", true)
  | 32 => ("NinePenceModel", "lookMany", "I", false)
  | _ => ("NinePenceModel", "rest", "[I", true)
def tyX11 : Nat → FieldType := fun k => match k with
  | 0 => .array .int
  | 1 => .int
  | 2 => .array .int
  | 3 => .int
  | 4 => .array .int
  | 5 => .int
  | 6 => .array .int
  | 7 => .int
  | 8 => .array .int
  | 9 => .array .int
  | 10 => .int
  | 11 => .int
  | 12 => .int
  | 13 => .array .int
  | 14 => .int
  | 15 => .int
  | 16 => .int
  | 17 => .int
  | 18 => .array .int
  | 19 => .array .int
  | 20 => .array .int
  | 21 => .array .int
  | 22 => .array .int
  | 23 => .int
  | 24 => .array .int
  | 25 => .int
  | 26 => .long
  | 27 => .long
  | 28 => .int
  | 29 => .int
  | 30 => .array .int
  | 31 => .array .int
  | 32 => .int
  | _ => .array .int
abbrev cX11_init : ByteArray := prog_13_method_1_code
def yX11_init : MethodName := ⟨RX11, "<init>", "()V"⟩
abbrev cX11_in : ByteArray := prog_13_method_2_code
def yX11_in : MethodName := ⟨RX11, "in", "(JJJ)Z"⟩
abbrev cX11_write : ByteArray := prog_13_method_3_code
def yX11_write : MethodName := ⟨RX11, "write", "(JI)I"⟩
abbrev cX11_erase : ByteArray := prog_13_method_4_code
def yX11_erase : MethodName := ⟨RX11, "erase", "()I"⟩
abbrev cX11_sort : ByteArray := prog_13_method_5_code
def yX11_sort : MethodName := ⟨RX11, "sort", "(I)I"⟩
abbrev cX11_token : ByteArray := prog_13_method_6_code
def yX11_token : MethodName := ⟨RX11, "token", "()V"⟩
abbrev cX11_isWord : ByteArray := prog_13_method_7_code
def yX11_isWord : MethodName := ⟨RX11, "isWord", "(II)Z"⟩
abbrev cX11_value : ByteArray := prog_13_method_8_code
def yX11_value : MethodName := ⟨RX11, "value", "()I"⟩
abbrev cX11_isNumber : ByteArray := prog_13_method_9_code
def yX11_isNumber : MethodName := ⟨RX11, "isNumber", "()Z"⟩
abbrev cX11_reads : ByteArray := prog_13_method_10_code
def yX11_reads : MethodName := ⟨RX11, "reads", "(III)Z"⟩
abbrev cX11_readsPage : ByteArray := prog_13_method_11_code
def yX11_readsPage : MethodName := ⟨RX11, "readsPage", "()Z"⟩
abbrev cX11_readsRest : ByteArray := prog_13_method_12_code
def yX11_readsRest : MethodName := ⟨RX11, "readsRest", "(I)Z"⟩
abbrev cX11_readsLine : ByteArray := prog_13_method_13_code
def yX11_readsLine : MethodName := ⟨RX11, "readsLine", "()Z"⟩
abbrev cX11_fault : ByteArray := prog_13_method_14_code
def yX11_fault : MethodName := ⟨RX11, "fault", "()I"⟩
abbrev cX11_lay : ByteArray := prog_13_method_15_code
def yX11_lay : MethodName := ⟨RX11, "lay", "(I)V"⟩
abbrev cX11_book : ByteArray := prog_13_method_16_code
def yX11_book : MethodName := ⟨RX11, "book", "()I"⟩
abbrev cX11_isEntry : ByteArray := prog_13_method_17_code
def yX11_isEntry : MethodName := ⟨RX11, "isEntry", "(I)Z"⟩
abbrev cX11_entry : ByteArray := prog_13_method_18_code
def yX11_entry : MethodName := ⟨RX11, "entry", "(II)I"⟩
abbrev cX11_outOf : ByteArray := prog_13_method_19_code
def yX11_outOf : MethodName := ⟨RX11, "outOf", "(I)I"⟩
abbrev cX11_out : ByteArray := prog_13_method_20_code
def yX11_out : MethodName := ⟨RX11, "out", "(I)I"⟩
abbrev cX11_hasDue : ByteArray := prog_13_method_21_code
def yX11_hasDue : MethodName := ⟨RX11, "hasDue", "(I)Z"⟩
abbrev cX11_offOf : ByteArray := prog_13_method_22_code
def yX11_offOf : MethodName := ⟨RX11, "offOf", "(I)I"⟩
abbrev cX11_off : ByteArray := prog_13_method_23_code
def yX11_off : MethodName := ⟨RX11, "off", "(I)I"⟩
abbrev cX11_isHand : ByteArray := prog_13_method_24_code
def yX11_isHand : MethodName := ⟨RX11, "isHand", "(I)Z"⟩
abbrev cX11_odds : ByteArray := prog_13_method_25_code
def yX11_odds : MethodName := ⟨RX11, "odds", "(II)I"⟩
abbrev cX11_learn : ByteArray := prog_13_method_26_code
def yX11_learn : MethodName := ⟨RX11, "learn", "(II)I"⟩
abbrev cX11_mend : ByteArray := prog_13_method_27_code
def yX11_mend : MethodName := ⟨RX11, "mend", "(III)I"⟩
abbrev cX11_strike : ByteArray := prog_13_method_28_code
def yX11_strike : MethodName := ⟨RX11, "strike", "(I)I"⟩
abbrev cX11_add : ByteArray := prog_13_method_29_code
def yX11_add : MethodName := ⟨RX11, "add", "(IIIII)V"⟩
abbrev cX11_changeBy : ByteArray := prog_13_method_30_code
def yX11_changeBy : MethodName := ⟨RX11, "changeBy", "(II)I"⟩
abbrev cX11_power : ByteArray := prog_13_method_31_code
def yX11_power : MethodName := ⟨RX11, "power", "(I)I"⟩
abbrev cX11_figures : ByteArray := prog_13_method_32_code
def yX11_figures : MethodName := ⟨RX11, "figures", "(I)I"⟩
abbrev cX11_figure : ByteArray := prog_13_method_33_code
def yX11_figure : MethodName := ⟨RX11, "figure", "(II)I"⟩
abbrev cX11_turned : ByteArray := prog_13_method_34_code
def yX11_turned : MethodName := ⟨RX11, "turned", "(II)I"⟩
abbrev cX11_isTwice : ByteArray := prog_13_method_35_code
def yX11_isTwice : MethodName := ⟨RX11, "isTwice", "(I)Z"⟩
abbrev cX11_oddsOf : ByteArray := prog_13_method_36_code
def yX11_oddsOf : MethodName := ⟨RX11, "oddsOf", "(II)I"⟩
abbrev cX11_layFigures : ByteArray := prog_13_method_37_code
def yX11_layFigures : MethodName := ⟨RX11, "layFigures", "(I)V"⟩
abbrev cX11_layKind : ByteArray := prog_13_method_38_code
def yX11_layKind : MethodName := ⟨RX11, "layKind", "(II)V"⟩
abbrev cX11_isUsed : ByteArray := prog_13_method_39_code
def yX11_isUsed : MethodName := ⟨RX11, "isUsed", "(I)Z"⟩
abbrev cX11_size : ByteArray := prog_13_method_40_code
def yX11_size : MethodName := ⟨RX11, "size", "(I)I"⟩
abbrev cX11_laySlips : ByteArray := prog_13_method_41_code
def yX11_laySlips : MethodName := ⟨RX11, "laySlips", "()V"⟩
abbrev cX11_isNarrow : ByteArray := prog_13_method_42_code
def yX11_isNarrow : MethodName := ⟨RX11, "isNarrow", "(I)Z"⟩
abbrev cX11_layOnes : ByteArray := prog_13_method_43_code
def yX11_layOnes : MethodName := ⟨RX11, "layOnes", "(Z)V"⟩
abbrev cX11_oneWeights : ByteArray := prog_13_method_44_code
def yX11_oneWeights : MethodName := ⟨RX11, "oneWeights", "()J"⟩
abbrev cX11_signs : ByteArray := prog_13_method_45_code
def yX11_signs : MethodName := ⟨RX11, "signs", "()I"⟩
abbrev cX11_one : ByteArray := prog_13_method_46_code
def yX11_one : MethodName := ⟨RX11, "one", "(IIZ)I"⟩
abbrev cX11_ofKind : ByteArray := prog_13_method_47_code
def yX11_ofKind : MethodName := ⟨RX11, "ofKind", "(I)I"⟩
abbrev cX11_arePair : ByteArray := prog_13_method_48_code
def yX11_arePair : MethodName := ⟨RX11, "arePair", "(II)Z"⟩
abbrev cX11_layPairs : ByteArray := prog_13_method_49_code
def yX11_layPairs : MethodName := ⟨RX11, "layPairs", "(I)V"⟩
abbrev cX11_layTwo : ByteArray := prog_13_method_50_code
def yX11_layTwo : MethodName := ⟨RX11, "layTwo", "(Z)V"⟩
abbrev cX11_two : ByteArray := prog_13_method_51_code
def yX11_two : MethodName := ⟨RX11, "two", "(I)J"⟩
abbrev cX11_hide : ByteArray := prog_13_method_52_code
def yX11_hide : MethodName := ⟨RX11, "hide", "(I)J"⟩
abbrev cX11_pair : ByteArray := prog_13_method_53_code
def yX11_pair : MethodName := ⟨RX11, "pair", "(ZI)I"⟩
abbrev cX11_divisor : ByteArray := prog_13_method_54_code
def yX11_divisor : MethodName := ⟨RX11, "divisor", "(JJ)J"⟩
abbrev cX11_lowest : ByteArray := prog_13_method_55_code
def yX11_lowest : MethodName := ⟨RX11, "lowest", "(JJI)J"⟩
abbrev cX11_isPart : ByteArray := prog_13_method_56_code
def yX11_isPart : MethodName := ⟨RX11, "isPart", "(I)Z"⟩
abbrev cX11_chance : ByteArray := prog_13_method_57_code
def yX11_chance : MethodName := ⟨RX11, "chance", "(II)J"⟩
abbrev cX11_whose : ByteArray := prog_13_method_58_code
def yX11_whose : MethodName := ⟨RX11, "whose", "(II)I"⟩
abbrev cX11_isAhead : ByteArray := prog_13_method_59_code
def yX11_isAhead : MethodName := ⟨RX11, "isAhead", "(II)Z"⟩
abbrev cX11_layLooks : ByteArray := prog_13_method_60_code
def yX11_layLooks : MethodName := ⟨RX11, "layLooks", "(Z)V"⟩
abbrev cX11_look : ByteArray := prog_13_method_61_code
def yX11_look : MethodName := ⟨RX11, "look", "(IZ)I"⟩
abbrev cX11_mean : ByteArray := prog_13_method_62_code
def yX11_mean : MethodName := ⟨RX11, "mean", "(ZI)I"⟩
abbrev cX11_isTurned : ByteArray := prog_13_method_63_code
def yX11_isTurned : MethodName := ⟨RX11, "isTurned", "(II)Z"⟩
abbrev cX11_isFigure : ByteArray := prog_13_method_64_code
def yX11_isFigure : MethodName := ⟨RX11, "isFigure", "(II)Z"⟩
abbrev cX11_judge : ByteArray := prog_13_method_65_code
def yX11_judge : MethodName := ⟨RX11, "judge", "(III)I"⟩
abbrev cX11_other : ByteArray := prog_13_method_66_code
def yX11_other : MethodName := ⟨RX11, "other", "(I)I"⟩
abbrev cX11_cost : ByteArray := prog_13_method_67_code
def yX11_cost : MethodName := ⟨RX11, "cost", "(II)I"⟩
abbrev cX11_costWith : ByteArray := prog_13_method_68_code
def yX11_costWith : MethodName := ⟨RX11, "costWith", "(III)I"⟩
abbrev cX11_layRest : ByteArray := prog_13_method_69_code
def yX11_layRest : MethodName := ⟨RX11, "layRest", "(I)V"⟩
abbrev cX11_match : ByteArray := prog_13_method_70_code
def yX11_match : MethodName := ⟨RX11, "match", "(II)I"⟩
abbrev cX11_count : ByteArray := prog_13_method_71_code
def yX11_count : MethodName := ⟨RX11, "count", "(I)I"⟩
def RJx145de : String := "java/io/Serializable"
def RJx9f9b0 : String := "java/lang/CharSequence"
def RJxb160c : String := "java/lang/Comparable"
def RJ9 : String := "java/lang/Math"
abbrev cJ9_floorMod_7cf53 : ByteArray := prog_14_method_50_code
def yJ9_floorMod_7cf53 : MethodName := ⟨RJ9, "floorMod", "(II)I"⟩
abbrev cJ9_abs_0f7a4 : ByteArray := prog_14_method_59_code
def yJ9_abs_0f7a4 : MethodName := ⟨RJ9, "abs", "(I)I"⟩
abbrev cJ9_min_7cf53 : ByteArray := prog_14_method_69_code
def yJ9_min_7cf53 : MethodName := ⟨RJ9, "min", "(II)I"⟩
def RJ0 : String := "java/lang/String"
abbrev cJ0_length_8abf5 : ByteArray := prog_15_method_54_code
def yJ0_length_8abf5 : MethodName := ⟨RJ0, "length", "()I"⟩
abbrev cJ0_charAt_5068e : ByteArray := prog_15_method_56_code
def yJ0_charAt_5068e : MethodName := ⟨RJ0, "charAt", "(I)C"⟩
abbrev cJ0_coder_7d493 : ByteArray := prog_15_method_152_code
def yJ0_coder_7d493 : MethodName := ⟨RJ0, "coder", "()B"⟩
abbrev cJ0_isLatin1_aae02 : ByteArray := prog_15_method_154_code
def yJ0_isLatin1_aae02 : MethodName := ⟨RJ0, "isLatin1", "()Z"⟩
abbrev cJ0_checkIndex_df160 : ByteArray := prog_15_method_155_code
def yJ0_checkIndex_df160 : MethodName := ⟨RJ0, "checkIndex", "(II)V"⟩
def RJ1 : String := "java/lang/StringLatin1"
abbrev cJ1_charAt_3b067 : ByteArray := prog_16_method_2_code
def yJ1_charAt_3b067 : MethodName := ⟨RJ1, "charAt", "([BI)C"⟩
def RJ2 : String := "java/lang/StringUTF16"
abbrev cJ2_getChar_3b067 : ByteArray := prog_17_method_5_code
def yJ2_getChar_3b067 : MethodName := ⟨RJ2, "getChar", "([BI)C"⟩
abbrev cJ2_length_9d52b : ByteArray := prog_17_method_6_code
def yJ2_length_9d52b : MethodName := ⟨RJ2, "length", "([B)I"⟩
abbrev cJ2_charAt_3b067 : ByteArray := prog_17_method_83_code
def yJ2_charAt_3b067 : MethodName := ⟨RJ2, "charAt", "([BI)C"⟩
abbrev cJ2_checkIndex_2214a : ByteArray := prog_17_method_91_code
def yJ2_checkIndex_2214a : MethodName := ⟨RJ2, "checkIndex", "(I[B)V"⟩
def RJxfd54e : String := "java/lang/constant/Constable"
def RJx3cf43 : String := "java/lang/constant/ConstantDesc"
def RJ7 : String := "java/util/Arrays"
abbrev cJ7_fill_53178 : ByteArray := prog_18_method_103_code
def yJ7_fill_53178 : MethodName := ⟨RJ7, "fill", "([II)V"⟩
def RJ3 : String := "jdk/internal/util/Preconditions"
abbrev cJ3_checkIndex_8e157 : ByteArray := prog_19_method_11_code
def yJ3_checkIndex_8e157 : MethodName := ⟨RJ3, "checkIndex", "(IILjava/util/function/BiFunction;)I"⟩
def RL : String := "NinePenceLaw"
abbrev cL_law : ByteArray := code
abbrev vwCl : List vw_C := [(RX2, TX2, 10), (RX3, TX3, 9), (RX4, TX4, 5), (RX5, TX5, 6), (RX7, TX7, 7), (RX8, TX8, 9), (RX9, TX9, 9), (RX10, TX10, 11), (RX11, TX11, 34)]
end
section
/-! THE ABSTRACT MACHINE: a configuration is pc, locals, operand stack, layout, contents. A reference is a place: below 1000 a cell that the law's run makes (in the order of making), from 1000 on a cell that was there before. -/
abbrev aSt : Type := (Nat → Nat → Int32) × (Nat → Nat → Int64) × (Nat → Nat → Int32)
/-- a cell's shape: an array (kind of elements, length), or an object (its class's place, its fields: (0,0) null, (0,r+1) the place r, (1,_) an int, (2,_) a long) -/
abbrev aSh : Type := (Nat × Nat) ⊕ (Nat × List (Nat × Nat))
abbrev aLay : Type := List aSh
abbrev aCf : Type := Nat × List (Nat × Value) × List Value × aLay × aSt
/-- where all lies: slots of classes, array classes by kind, the address of place 0, the addresses of the old cells -/
abbrev aWg : Type := va_G × (Nat → ClassId) × Nat × (Nat → Nat)
def aI (S : aSt) (k j : Nat) (v : Int32) : aSt := (fun a => if a = k then (fun b => if b = j then v else S.1 k b) else S.1 a, S.2.1, S.2.2)
def aL (S : aSt) (k j : Nat) (v : Int64) : aSt := (S.1, fun a => if a = k then (fun b => if b = j then v else S.2.1 k b) else S.2.1 a, S.2.2)
def aA (S : aSt) (k : Nat) (f : Nat → Int32) : aSt := (S.1, S.2.1, fun a => if a = k then f else S.2.2 a)
def aClr (S : aSt) (k : Nat) : aSt := (fun a => if a = k then (fun _ => 0) else S.1 a, fun a => if a = k then (fun _ => 0) else S.2.1 a, fun a => if a = k then (fun _ => 0) else S.2.2 a)
def aFv (S : aSt) (k j : Nat) (f : Nat × Nat) : Value := match f.1, f.2 with
  | 0, 0 => .null
  | 0, r + 1 => .ref r
  | 1, _ => .int (S.1 k j)
  | _, _ => .long (S.2.1 k j)
def aCv (g : aWg) (v : Value) : Value := match v with
  | .ref k => .ref (if k < 1000 then g.2.2.1 + k else g.2.2.2 (k - 1000))
  | .retAddr _ => if g.2.2.2 20 = 0 then .null else .ref (g.2.2.2 20 - 1)
  | v => v
def aCq (g : aWg) (q : Nat × Value) : Nat × Value := (q.1, aCv g q.2)
def aCell (g : aWg) (S : aSt) (k : Nat) (o : aSh) : va_E := match o with
  | .inl a => .inl (g.2.1 a.1, a.2, .inl (S.2.2 k))
  | .inr a => .inr (a.1, a.2.mapIdx (fun j f => aCv g (aFv S k j f)))
def aWs (g : aWg) (lay : aLay) (S : aSt) : va_W := lay.mapIdx (fun k o => (g.2.2.1 + k, aCell g S k o))
def aAg (g : aWg) : Nat → Prop := fun q => g.2.2.1 ≤ q
def aTy (g : aWg) : List (ClassId × FieldType) := [(g.2.1 0, .int), (g.2.1 1, .boolean)]
theorem aCv_cat (g : aWg) (v : Value) : (aCv g v).category = v.category := by
  cases v <;> first | rfl | (unfold aCv; dsimp only; split <;> rfl)
theorem aWs_get (g : aWg) (lay : aLay) (S : aSt) (k : Nat) : (aWs g lay S)[k]? = lay[k]?.map (fun o => (g.2.2.1 + k, aCell g S k o)) := by
  simp [aWs, List.getElem?_mapIdx]
theorem aWs_at {g : aWg} {lay : aLay} {S : aSt} {k : Nat} {o : aSh} (h : lay[k]? = some o) : (aWs g lay S)[k]? = some (g.2.2.1 + k, aCell g S k o) := by
  rw [aWs_get, h]; rfl
theorem aWs_len (g : aWg) (lay : aLay) (S : aSt) : (aWs g lay S).length = lay.length := by simp [aWs]
theorem aWs_set {g : aWg} {lay : aLay} {S S' : aSt} {k : Nat} {o : aSh} (hk : k < lay.length) (h : ∀ a o', a ≠ k → aCell g S a o' = aCell g S' a o') : (aWs g lay S).set k (g.2.2.1 + k, aCell g S' k o) = aWs g (lay.set k o) S' := by
  apply List.ext_getElem?
  intro i
  rw [aWs_get]
  by_cases hi : i = k
  · subst hi
    rw [List.getElem?_set_self (by rw [aWs_len]; exact hk), List.getElem?_set_self hk]; rfl
  · rw [List.getElem?_set_ne (Ne.symm hi), List.getElem?_set_ne (Ne.symm hi), aWs_get]
    cases lay[i]? with
    | none => rfl
    | some o' => simp only [Option.map_some, h i o' hi]
theorem aLay_set {lay : aLay} {k : Nat} {o : aSh} (h : lay[k]? = some o) : lay.set k o = lay := by
  apply List.ext_getElem?
  intro i
  by_cases hi : i = k
  · subst hi
    rw [List.getElem?_set_self (List.getElem?_eq_some_iff.mp h).1, h]
  · rw [List.getElem?_set_ne (Ne.symm hi)]
theorem aLay_lt {lay : aLay} {k : Nat} {o : aSh} (h : lay[k]? = some o) : k < lay.length := (List.getElem?_eq_some_iff.mp h).1
theorem aD (g : aWg) (lay : aLay) (S : aSt) : va_D (aAg g) (aWs g lay S) := by
  refine ⟨fun i j p q hi hj hpq => ?_, fun k q hk => ?_⟩
  · rw [aWs_get] at hi hj
    cases hli : lay[i]? with
    | none => rw [hli] at hi; cases hi
    | some oi =>
      cases hlj : lay[j]? with
      | none => rw [hlj] at hj; cases hj
      | some oj =>
        rw [hli] at hi; rw [hlj] at hj
        cases hi; cases hj
        have : g.2.2.1 + i = g.2.2.1 + j := hpq
        omega
  · rw [aWs_get] at hk
    cases hl : lay[k]? with
    | none => rw [hl] at hk; cases hk
    | some o =>
      rw [hl] at hk
      cases hk
      exact Nat.le_add_right _ _
/-! the old cells: the table of tens, nine words -/
def aTENS : List Int32 := [1, 10, 100, 1000, 10000, 100000, 1000000]

def aLen : List Nat := [4, 5, 4, 4, 6, 5, 6, 4, 4]
def aByt : List (List Int32) := [[108, 101, 102, 116], [114, 105, 103, 104, 116], [104, 97, 110, 100], [114, 101, 97, 100], [109, 105, 115, 115, 101, 100], [99, 97, 114, 114, 121], [115, 101, 99, 111, 110, 100], [112, 97, 103, 101], [102, 114, 101, 101]]
def aSix : List Nat := [89, 95, 97, 99, 101, 103, 105, 107, 109]
def aStx : List String := ["left", "right", "hand", "read", "missed", "carry", "second", "page", "free"]
/-- the words that hold wherever the tables are as warm -/
def aBase : List Cond := lw_tbl.filter goodWord
def aRo (g : aWg) (U : State) (H : Heap) : Prop :=
  va_T .int (g.2.2.2 1) 7 (fun j => .int (aTENS.getD j 0)) (aAg g) U H ∧ va_Z "NinePence$Figures" "TENS" "[I" (.ref (g.2.2.2 1)) (aAg g) U H ∧ va_Z "java/lang/String" "COMPACT_STRINGS" "Z" (.int 1) (aAg g) U H ∧
  vk_S 9 aLen aByt (fun i => g.2.2.2 (2 + i)) (fun i => g.2.2.2 (11 + i)) (aAg g) U H ∧ (∀ i : Nat, i < 9 → vk_R "NinePence$Text" (aSix.getD i 0) (aStx.getD i "") (g.2.2.2 (2 + i)) U) ∧ va_Nw (.methodLinkNest "NinePence" 11 ⟨"NinePence$Text", "<init>", "()V"⟩ "NinePence") U ∧ va_Z "jdk/internal/util/Preconditions" "SIOOBE_FORMATTER" "Ljava/util/function/BiFunction;" (aCv g (.retAddr 0)) (aAg g) U H
theorem aRo.on {g : aWg} {s U : State} {H : Heap} {locs : List Loc} (h : aRo g s s.heap) (hS : va_S (aAg g) s.heap H locs) (hW : s.WarmedH U.vm) : aRo g U H := by
  obtain ⟨h1, h2, h3, h4, h5, h6, h7⟩ := h
  exact ⟨(h1.kept hS.2.1).moved hW.alike, (h2.kept hS.2.1).moved hW.alike, (h3.kept hS.2.1).moved hW.alike, (h4.kept hS.2.1).moved hW.alike, fun i hi => (h5 i hi).warm hW, h6.warmM hW, (h7.kept hS.2.1).moved hW.alike⟩
theorem aRo.same {g : aWg} {u U : State} {H : Heap} (h : aRo g u H) (hv : U.vm = u.vm) : aRo g U H := by
  obtain ⟨h1, h2, h3, h4, h5, h6, h7⟩ := h
  have hA : u.vm.Alike U.vm := by rw [hv]; exact Vm.Alike.refl _
  exact ⟨h1.moved hA, h2.moved hA, h3.moved hA, h4.moved hA, fun i hi => (h5 i hi).same hv, h6.same rfl hv.symm, h7.moved hA⟩
/-! a method: its class, code, how many locals, whether it is a constructor, its result's type, its room; its tables: instructions; fields (pool number, place of the word, class, field, type); constants; statics (pool number, place of the word, which) -/
abbrev aTab : Type := List (Nat × Instr × Nat) × List (Nat × Nat × Nat × Nat × FieldType) × List (Nat × Nat × Value) × List (Nat × Nat × Nat)
abbrev aM : Type := String × ByteArray × Nat × Bool × Option FieldType × Room × aTab
def aLk {α : Type} : List (Nat × α) → Nat → Option α
  | [], _ => none
  | q :: l, i => if i = q.1 then some q.2 else aLk l i
theorem aLk_mem {α : Type} : ∀ {l : List (Nat × α)} {i : Nat} {a : α}, aLk l i = some a → (i, a) ∈ l
  | [], _, _, h => by cases h
  | q :: l, i, a, h => by
    unfold aLk at h
    split at h
    · rename_i e
      cases h
      subst e
      exact List.mem_cons_self
    · exact List.mem_cons_of_mem _ (aLk_mem h)
def aStr (v : Nat) : Value := .ref (1002 + v)
def aOKd (M : aM) : Bool := M.2.2.2.2.2.2.1.all (fun q => decide (decode M.2.1 q.1 = .ok (q.2.1, q.2.2)))
/-- the fields of the class at a place; 100 is String -/
def aCl (ci : Nat) : Option vw_C := vwCl[ci]?
def aOKf (M : aM) : Bool := M.2.2.2.2.2.2.2.1.all (fun q =>
  (decide (q.2.2.1 = 100) && ((decide (q.2.2.2.1 = 0) && decide (lw_tbl[q.2.1]? = some (.fieldLink M.1 q.1 "java/lang/String" "coder" "B"))) || (decide (q.2.2.2.1 = 1) && decide (lw_tbl[q.2.1]? = some (.fieldLink M.1 q.1 "java/lang/String" "value" "[B"))))) ||
  (match vwCl[q.2.2.1]? with
    | some r => decide (q.2.2.2.1 < r.2.2) && decide (lw_tbl[q.2.1]? = some (.fieldLink M.1 q.1 (r.2.1 q.2.2.2.1).1 (r.2.1 q.2.2.2.1).2.1 (r.2.1 q.2.2.2.1).2.2.1)) && decide (parseFieldDescriptor (r.2.1 q.2.2.2.1).2.2.1 = some q.2.2.2.2)
    | none => false))
def aOKc (M : aM) : Bool := M.2.2.2.2.2.2.2.2.1.all (fun q => match q.2.2 with
  | .int v => decide (lw_tbl[q.2.1]? = some (.constant M.1 q.1 v))
  | .long v => decide (lw_tbl[q.2.1]? = some (.constantLong M.1 q.1 v))
  | .ref v => decide (1002 ≤ v) && decide (v - 1002 < 9) && decide (M.1 = "NinePence$Text") && decide (q.1 = aSix.getD (v - 1002) 0)
  | _ => false)
def aOKs (M : aM) : Bool := M.2.2.2.2.2.2.2.2.2.all (fun q => (decide (q.2.2 = 0) && decide (lw_tbl[q.2.1]? = some (.fieldLink M.1 q.1 "NinePence$Figures" "TENS" "[I"))) || (decide (q.2.2 = 1) && decide (lw_tbl[q.2.1]? = some (.fieldLink M.1 q.1 "java/lang/String" "COMPACT_STRINGS" "Z"))) || (decide (q.2.2 = 2) && decide (lw_tbl[q.2.1]? = some (.fieldLink M.1 q.1 "jdk/internal/util/Preconditions" "SIOOBE_FORMATTER" "Ljava/util/function/BiFunction;"))))
def aOK (M : aM) : Prop := (aOKd M && aOKf M && aOKc M && aOKs M) = true
theorem aOK.d {M : aM} (h : aOK M) : ∀ q ∈ M.2.2.2.2.2.2.1, decode M.2.1 q.1 = .ok (q.2.1, q.2.2) := by
  unfold aOK at h
  simp only [Bool.and_eq_true] at h
  intro q hq
  exact of_decide_eq_true (List.all_eq_true.mp h.1.1.1 q hq)
theorem aOK.f {M : aM} (h : aOK M) : ∀ q ∈ M.2.2.2.2.2.2.2.1,
    (q.2.2.1 = 100 ∧ ((q.2.2.2.1 = 0 ∧ lw_tbl[q.2.1]? = some (.fieldLink M.1 q.1 "java/lang/String" "coder" "B")) ∨ (q.2.2.2.1 = 1 ∧ lw_tbl[q.2.1]? = some (.fieldLink M.1 q.1 "java/lang/String" "value" "[B")))) ∨
    (∃ r, vwCl[q.2.2.1]? = some r ∧ q.2.2.2.1 < r.2.2 ∧ lw_tbl[q.2.1]? = some (.fieldLink M.1 q.1 (r.2.1 q.2.2.2.1).1 (r.2.1 q.2.2.2.1).2.1 (r.2.1 q.2.2.2.1).2.2.1) ∧ parseFieldDescriptor (r.2.1 q.2.2.2.1).2.2.1 = some q.2.2.2.2) := by
  unfold aOK at h
  simp only [Bool.and_eq_true] at h
  intro q hq
  have h1 := List.all_eq_true.mp h.1.1.2 q hq
  rcases (Bool.or_eq_true _ _).mp h1 with h2 | h2
  · left
    simp only [Bool.and_eq_true, Bool.or_eq_true, decide_eq_true_eq] at h2
    exact h2
  · right
    split at h2
    · rename_i r hr
      simp only [Bool.and_eq_true, decide_eq_true_eq] at h2
      exact ⟨r, hr, h2.1.1, h2.1.2, h2.2⟩
    · cases h2
theorem aOK.c {M : aM} (h : aOK M) : ∀ q ∈ M.2.2.2.2.2.2.2.2.1,
    (∃ v, q.2.2 = .int v ∧ lw_tbl[q.2.1]? = some (.constant M.1 q.1 v)) ∨ (∃ v, q.2.2 = .long v ∧ lw_tbl[q.2.1]? = some (.constantLong M.1 q.1 v)) ∨ (∃ v : Nat, v < 9 ∧ q.2.2 = .ref (1002 + v) ∧ M.1 = "NinePence$Text" ∧ q.1 = aSix.getD v 0) := by
  unfold aOK at h
  simp only [Bool.and_eq_true] at h
  intro q hq
  have h1 := List.all_eq_true.mp h.1.2 q hq
  split at h1
  · rename_i v hv
    exact Or.inl ⟨v, hv, of_decide_eq_true h1⟩
  · rename_i v hv
    exact Or.inr (Or.inl ⟨v, hv, of_decide_eq_true h1⟩)
  · rename_i v hv
    simp only [Bool.and_eq_true, decide_eq_true_eq] at h1
    obtain ⟨⟨⟨a1, a2⟩, a3⟩, a4⟩ := h1
    exact Or.inr (Or.inr ⟨v - 1002, a2, by rw [hv, Nat.add_sub_cancel' a1], a3, a4⟩)
  · cases h1
theorem aOK.s {M : aM} (h : aOK M) : ∀ q ∈ M.2.2.2.2.2.2.2.2.2, (q.2.2 = 0 ∧ lw_tbl[q.2.1]? = some (.fieldLink M.1 q.1 "NinePence$Figures" "TENS" "[I")) ∨ (q.2.2 = 1 ∧ lw_tbl[q.2.1]? = some (.fieldLink M.1 q.1 "java/lang/String" "COMPACT_STRINGS" "Z")) ∨ (q.2.2 = 2 ∧ lw_tbl[q.2.1]? = some (.fieldLink M.1 q.1 "jdk/internal/util/Preconditions" "SIOOBE_FORMATTER" "Ljava/util/function/BiFunction;")) := by
  unfold aOK at h
  simp only [Bool.and_eq_true] at h
  intro q hq
  have h1 := List.all_eq_true.mp h.2 q hq
  simp only [Bool.and_eq_true, Bool.or_eq_true, decide_eq_true_eq] at h1
  rcases h1 with (h1 | h1) | h1
  · exact Or.inl h1
  · exact Or.inr (Or.inl h1)
  · exact Or.inr (Or.inr h1)
/-! what stands around a method's run -/
abbrev aC : Type := aWg × Program × Launch × Env × Room × State × MethodId × Array Value × List Frame × Method × Code × (State → Prop)
def aCx (C : aC) (M : aM) : Prop := match C with
  | (g, p, _l, _e, R, s, m, args, _below, meth, c, _Q) =>
    p.tables.exec = Jvm.exec ∧ c.code = M.2.1 ∧ c.maxLocals = M.2.2.1 ∧ s.vm.findClass M.1 = some m.cls ∧ (∀ w ∈ aBase, w.before args s = true) ∧ va_K g.1 vwCl (aTy g) s ∧ aRo g s s.heap ∧ g.2.2.1 ≤ s.heap.size ∧ (M.2.2.2.1 = true → meth.name = "<init>") ∧ meth.locks = false ∧ meth.sig.returnType = M.2.2.2.2.1 ∧ R = M.2.2.2.2.2.1
def aX (C : aC) (M : aM) (k n : Nat) (cf : aCf) : Prop := match C with
  | (g, p, l, e, R, s, m, args, below, meth, c, Q) =>
    ∀ (H : Heap) (ls : Array Slot) (locs : List Loc), va_P g.1 vwCl (aWs g cf.2.2.2.1 cf.2.2.2.2) H → H.size = g.2.2.1 + cf.2.2.2.1.length → lv_has ls M.2.2.1 (cf.2.1.map (aCq g)) → va_S (aAg g) s.heap H locs →
      W p l e R s m args below meth c H locs k n Q (F0 m cf.1 ls (cf.2.2.1.map (aCv g)))
theorem aDc {M : aM} (h : aOK M) {pc : Nat} {ins : Instr} {len : Nat} (hq : aLk M.2.2.2.2.2.2.1 pc = some (ins, len)) : decode M.2.1 pc = .ok (ins, len) := h.d (pc, ins, len) (aLk_mem hq)
theorem aLoc {g : aWg} {ls : Array Slot} {nL : Nat} {lv : List (Nat × Value)} (h : lv_has ls nL (lv.map (aCq g))) {i : Nat} {v : Value} (hv : aLk lv i = some v) : ls[i]? = some (.val (aCv g v)) :=
  h.2.2 (aCq g (i, v)) (List.mem_map.mpr ⟨_, aLk_mem hv, rfl⟩)
theorem aFil1 (g : aWg) (i : Nat) (lv : List (Nat × Value)) : (lv.map (aCq g)).filter (fun q => !(q.1 == i) && !(q.1 + 1 == i && q.2.category == 2)) = (lv.filter (fun q => !(q.1 == i) && !(q.1 + 1 == i && q.2.category == 2))).map (aCq g) := by
  rw [List.filter_map]
  congr 1
  apply List.filter_congr
  intro q _
  simp [aCq, aCv_cat]
theorem aFil2 (g : aWg) (i : Nat) (lv : List (Nat × Value)) : (lv.map (aCq g)).filter (fun q => !(q.1 == i) && (!(q.1 == i + 1) && !(q.1 + 1 == i && q.2.category == 2))) = (lv.filter (fun q => !(q.1 == i) && (!(q.1 == i + 1) && !(q.1 + 1 == i && q.2.category == 2)))).map (aCq g) := by
  rw [List.filter_map]
  congr 1
  apply List.filter_congr
  intro q _
  simp [aCq, aCv_cat]
def aSt1 (i : Nat) (v : Value) (lv : List (Nat × Value)) : List (Nat × Value) := (i, v) :: lv.filter (fun q => !(q.1 == i) && !(q.1 + 1 == i && q.2.category == 2))
def aSt2 (i : Nat) (v : Value) (lv : List (Nat × Value)) : List (Nat × Value) := (i, v) :: lv.filter (fun q => !(q.1 == i) && (!(q.1 == i + 1) && !(q.1 + 1 == i && q.2.category == 2)))
theorem aSt1_map (g : aWg) (i : Nat) (v : Value) (lv : List (Nat × Value)) : (i, aCv g v) :: (lv.map (aCq g)).filter (fun q => !(q.1 == i) && !(q.1 + 1 == i && q.2.category == 2)) = (aSt1 i v lv).map (aCq g) := by
  rw [aFil1]; rfl
theorem aSt2_map (g : aWg) (i : Nat) (v : Value) (lv : List (Nat × Value)) : (i, aCv g v) :: (lv.map (aCq g)).filter (fun q => !(q.1 == i) && (!(q.1 == i + 1) && !(q.1 + 1 == i && q.2.category == 2))) = (aSt2 i v lv).map (aCq g) := by
  rw [aFil2]; rfl
def aPutOK (ty : FieldType) (v : Value) : Bool := match ty, v with
  | .int, .int _ => true
  | .long, .long _ => true
  | .boolean, .int x => x == 0 || x == 1
  | .object _, .ref _ => true
  | .array _, .ref _ => true
  | _, _ => false
theorem aPut_ok {ty : FieldType} {v : Value} (g : aWg) (h : aPutOK ty v = true) : narrow ty (aCv g v) = aCv g v ∧ fits ty (aCv g v) = true := by
  cases ty <;> cases v <;> first | (cases h; done) | exact ⟨rfl, rfl⟩ | skip
  rename_i x
  have hx : x = 0 ∨ x = 1 := by simpa [aPutOK] using h
  rcases hx with rfl | rfl
  · exact ⟨show narrow .boolean (.int 0) = .int 0 by decide, show fits .boolean (.int 0) = true by decide⟩
  · exact ⟨show narrow .boolean (.int 1) = .int 1 by decide, show fits .boolean (.int 1) = true by decide⟩
/-- a field's new value: the layout and the contents behind it -/
def aPut (lay : aLay) (S : aSt) (k ci j : Nat) (fs : List (Nat × Nat)) (v : Value) : Option (aLay × aSt) := match fs[j]?, v with
  | some (1, _), .int x => some (lay, aI S k j x)
  | some (2, _), .long x => some (lay, aL S k j x)
  | some (0, _), .ref r => some (lay.set k (.inr (ci, fs.set j (0, r + 1))), S)
  | _, _ => none
/-- one step of the straight kind -/
def aIns (M : aM) (ins : Instr) (len pc : Nat) (lv : List (Nat × Value)) (st : List Value) (lay : aLay) (S : aSt) : Option aCf := match ins with
  | .iconst i => if len = 1 then some (pc + 1, lv, .int (Int32.ofInt i) :: st, lay, S) else none
  | .bipush i => if len = 2 then some (pc + 2, lv, .int (Int8.ofInt i).toInt32 :: st, lay, S) else none
  | .sipush i => if len = 3 then some (pc + 3, lv, .int (Int16.ofInt i).toInt32 :: st, lay, S) else none
  | .lconst i => if len = 1 then some (pc + 1, lv, .long (Int64.ofNat i.val) :: st, lay, S) else none
  | .iload_n i => match aLk lv i.val with
    | some (.int x) => if len = 1 then some (pc + 1, lv, .int x :: st, lay, S) else none
    | _ => none
  | .iload i => match aLk lv i with
    | some (.int x) => if len = 2 then some (pc + 2, lv, .int x :: st, lay, S) else none
    | _ => none
  | .lload_n i => match aLk lv i.val with
    | some (.long x) => if len = 1 then some (pc + 1, lv, .long x :: st, lay, S) else none
    | _ => none
  | .lload i => match aLk lv i with
    | some (.long x) => if len = 2 then some (pc + 2, lv, .long x :: st, lay, S) else none
    | _ => none
  | .aload_n i => match aLk lv i.val with
    | some (.ref x) => if len = 1 then some (pc + 1, lv, .ref x :: st, lay, S) else none
    | _ => none
  | .aload i => match aLk lv i with
    | some (.ref x) => if len = 2 then some (pc + 2, lv, .ref x :: st, lay, S) else none
    | _ => none
  | .istore_n i => match st with
    | .int x :: r => if len = 1 ∧ i.val < M.2.2.1 then some (pc + 1, aSt1 i.val (.int x) lv, r, lay, S) else none
    | _ => none
  | .istore i => match st with
    | .int x :: r => if len = 2 ∧ i < M.2.2.1 then some (pc + 2, aSt1 i (.int x) lv, r, lay, S) else none
    | _ => none
  | .lstore_n i => match st with
    | .long x :: r => if len = 1 ∧ i.val + 1 < M.2.2.1 then some (pc + 1, aSt2 i.val (.long x) lv, r, lay, S) else none
    | _ => none
  | .lstore i => match st with
    | .long x :: r => if len = 2 ∧ i + 1 < M.2.2.1 then some (pc + 2, aSt2 i (.long x) lv, r, lay, S) else none
    | _ => none
  | .astore_n i => match st with
    | .ref x :: r => if len = 1 ∧ i.val < M.2.2.1 then some (pc + 1, aSt1 i.val (.ref x) lv, r, lay, S) else none
    | _ => none
  | .astore i => match st with
    | .ref x :: r => if len = 2 ∧ i < M.2.2.1 then some (pc + 2, aSt1 i (.ref x) lv, r, lay, S) else none
    | _ => none
  | .iinc i d => match aLk lv i with
    | some (.int x) => if len = 3 ∧ i < M.2.2.1 then some (pc + 3, aSt1 i (.int (x + Int32.ofInt d)) lv, st, lay, S) else none
    | _ => none
  | .iadd => match st with
    | .int y :: .int x :: r => if len = 1 then some (pc + 1, lv, .int (x + y) :: r, lay, S) else none
    | _ => none
  | .isub => match st with
    | .int y :: .int x :: r => if len = 1 then some (pc + 1, lv, .int (x - y) :: r, lay, S) else none
    | _ => none
  | .imul => match st with
    | .int y :: .int x :: r => if len = 1 then some (pc + 1, lv, .int (x * y) :: r, lay, S) else none
    | _ => none
  | .iand => match st with
    | .int y :: .int x :: r => if len = 1 then some (pc + 1, lv, .int (x &&& y) :: r, lay, S) else none
    | _ => none
  | .ior => match st with
    | .int y :: .int x :: r => if len = 1 then some (pc + 1, lv, .int (x ||| y) :: r, lay, S) else none
    | _ => none
  | .ixor => match st with
    | .int y :: .int x :: r => if len = 1 then some (pc + 1, lv, .int (x ^^^ y) :: r, lay, S) else none
    | _ => none
  | .ishl => match st with
    | .int y :: .int x :: r => if len = 1 then some (pc + 1, lv, .int (x <<< (y &&& 31)) :: r, lay, S) else none
    | _ => none
  | .ishr => match st with
    | .int y :: .int x :: r => if len = 1 then some (pc + 1, lv, .int (x >>> (y &&& 31)) :: r, lay, S) else none
    | _ => none
  | .idiv => match st with
    | .int y :: .int x :: r => if len = 1 ∧ ¬ y = 0 then some (pc + 1, lv, .int (x / y) :: r, lay, S) else none
    | _ => none
  | .irem => match st with
    | .int y :: .int x :: r => if len = 1 ∧ ¬ y = 0 then some (pc + 1, lv, .int (x - x / y * y) :: r, lay, S) else none
    | _ => none
  | .ineg => match st with
    | .int x :: r => if len = 1 then some (pc + 1, lv, .int (-x) :: r, lay, S) else none
    | _ => none
  | .i2l => match st with
    | .int x :: r => if len = 1 then some (pc + 1, lv, .long x.toInt64 :: r, lay, S) else none
    | _ => none
  | .l2i => match st with
    | .long x :: r => if len = 1 then some (pc + 1, lv, .int x.toInt32 :: r, lay, S) else none
    | _ => none
  | .i2c => match st with
    | .int x :: r => if len = 1 then some (pc + 1, lv, .int (x.toUInt32 % 65536).toInt32 :: r, lay, S) else none
    | _ => none
  | .ladd => match st with
    | .long y :: .long x :: r => if len = 1 then some (pc + 1, lv, .long (x + y) :: r, lay, S) else none
    | _ => none
  | .lmul => match st with
    | .long y :: .long x :: r => if len = 1 then some (pc + 1, lv, .long (x * y) :: r, lay, S) else none
    | _ => none
  | .land => match st with
    | .long y :: .long x :: r => if len = 1 then some (pc + 1, lv, .long (x &&& y) :: r, lay, S) else none
    | _ => none
  | .lor => match st with
    | .long y :: .long x :: r => if len = 1 then some (pc + 1, lv, .long (x ||| y) :: r, lay, S) else none
    | _ => none
  | .lshl => match st with
    | .int y :: .long x :: r => if len = 1 then some (pc + 1, lv, .long (x <<< (y.toInt64 &&& 63)) :: r, lay, S) else none
    | _ => none
  | .lshr => match st with
    | .int y :: .long x :: r => if len = 1 then some (pc + 1, lv, .long (x >>> (y.toInt64 &&& 63)) :: r, lay, S) else none
    | _ => none
  | .lcmp => match st with
    | .long y :: .long x :: r => if len = 1 then some (pc + 1, lv, .int (lg_cmp x y) :: r, lay, S) else none
    | _ => none
  | .dup => match st with
    | v :: r => if len = 1 ∧ v.category = 1 then some (pc + 1, lv, v :: v :: r, lay, S) else none
    | _ => none
  | .pop => match st with
    | v :: r => if len = 1 ∧ v.category = 1 then some (pc + 1, lv, r, lay, S) else none
    | _ => none
  | .dup2 => match st with
    | v :: u :: r => if len = 1 ∧ v.category = 1 ∧ u.category = 1 then some (pc + 1, lv, v :: u :: v :: u :: r, lay, S) else none
    | _ => none
  | .goto off => if len = 3 ∧ 0 ≤ (pc : Int) + off then some (((pc : Int) + off).toNat, lv, st, lay, S) else none
  | .ldc i => match aLk M.2.2.2.2.2.2.2.2.1 i with
    | some (_, .int v) => if len = 2 then some (pc + 2, lv, .int v :: st, lay, S) else none
    | some (_, .ref v) => if len = 2 then some (pc + 2, lv, .ref v :: st, lay, S) else none
    | _ => none
  | .ldc2_w i => match aLk M.2.2.2.2.2.2.2.2.1 i with
    | some (_, .long v) => if len = 3 then some (pc + 3, lv, .long v :: st, lay, S) else none
    | _ => none
  | .getstatic i => match aLk M.2.2.2.2.2.2.2.2.2 i with
    | some (_, 0) => if len = 3 then some (pc + 3, lv, .ref 1001 :: st, lay, S) else none
    | some (_, 1) => if len = 3 then some (pc + 3, lv, .int 1 :: st, lay, S) else none
    | some (_, 2) => if len = 3 then some (pc + 3, lv, .retAddr 0 :: st, lay, S) else none
    | _ => none
  | .getfield i => match aLk M.2.2.2.2.2.2.2.1 i, st with
    | some (_, ci, j, _), .ref k :: r => if len = 3 then
        (if k < 1000 then (match lay[k]? with
          | some (.inr (cj, fs)) => if ci = cj then (match fs[j]? with
            | some f => some (pc + 3, lv, aFv S k j f :: r, lay, S)
            | none => none) else none
          | _ => none)
        else if ci = 100 ∧ 1002 ≤ k ∧ k < 1011 then some (pc + 3, lv, (if j = 0 then .int 0 else .ref (k + 9)) :: r, lay, S) else none)
      else none
    | _, _ => none
  | .putfield i => match aLk M.2.2.2.2.2.2.2.1 i, st with
    | some (_, ci, j, ty), v :: .ref k :: r => if len = 3 ∧ k < 1000 ∧ aPutOK ty v = true then
        (match lay[k]?, aCl ci with
          | some (.inr (cj, fs)), some (_, T, _) => if ci = cj ∧ ((T j).2.2.2 = false ∨ (M.2.2.2.1 = true ∧ (T j).1 = M.1)) then (match aPut lay S k ci j fs v with
            | some q => some (pc + 3, lv, r, q.1, q.2)
            | none => none) else none
          | _, _ => none)
      else none
    | _, _ => none
  | .arraylength => match st with
    | .ref k :: r => if len = 1 then
        (if k < 1000 then (match lay[k]? with
          | some (.inl a) => if a.1 < 2 then some (pc + 1, lv, .int (Int32.ofNat a.2) :: r, lay, S) else none
          | _ => none)
        else if k = 1001 then some (pc + 1, lv, .int 7 :: r, lay, S)
        else if 1011 ≤ k ∧ k < 1020 then some (pc + 1, lv, .int (Int32.ofNat (aLen.getD (k - 1011) 0)) :: r, lay, S) else none) else none
    | _ => none
  | _ => none
def aStep (M : aM) (cf : aCf) : Option aCf := match aLk M.2.2.2.2.2.2.1 cf.1 with
  | none => none
  | some q => aIns M q.1 q.2 cf.1 cf.2.1 cf.2.2.1 cf.2.2.2.1 cf.2.2.2.2
def aRun : Nat → aM → aCf → Option aCf
  | 0, _, cf => some cf
  | n + 1, M, cf => match aStep M cf with
    | none => none
    | some cf' => aRun n M cf'
theorem aTb {i : Nat} {w : Cond} (h : lw_tbl[i]? = some w) (hg : goodWord w = true) : w ∈ aBase := List.mem_filter.mpr ⟨List.mem_of_getElem? h, hg⟩
theorem aTw {args : Array Value} {s : State} (hts : ∀ w ∈ aBase, w.before args s = true) {i : Nat} {w : Cond} (h : lw_tbl[i]? = some w) (hg : goodWord w = true := by rfl) : w.before args s = true := hts w (aTb h hg)
theorem aCls : ∀ q ∈ vwCl, (∀ w ∈ u_ws q.1 q.2.1 q.2.2, w ∈ aBase) ∧ (∀ k, k < q.2.2 → parseFieldDescriptor (q.2.1 k).2.2.1 = some ((parseFieldDescriptor (q.2.1 k).2.2.1).getD .int)) ∧ (∀ a, a < q.2.2 → ∀ b, b < q.2.2 → a ≠ b → (q.2.1 a).2.1 ≠ (q.2.1 b).2.1) := by decide +kernel
theorem aCvR (g : aWg) {k : Nat} (h : k < 1000) : aCv g (.ref k) = .ref (g.2.2.1 + k) := by
  show Value.ref (if k < 1000 then _ else _) = _
  rw [if_pos h]
theorem aCvO (g : aWg) {k : Nat} (h : 1000 ≤ k) : aCv g (.ref k) = .ref (g.2.2.2 (k - 1000)) := by
  show Value.ref (if k < 1000 then _ else _) = _
  rw [if_neg (by omega)]
theorem aRef2 (g : aWg) (v : Nat) : aCv g (.ref (1002 + v)) = .ref (g.2.2.2 (2 + v)) := by
  rw [aCvO g (by omega), show 1002 + v - 1000 = 2 + v by omega]
theorem aRefS (g : aWg) (k : Nat) (h2 : 1002 ≤ k) (h3 : k < 1011) : k - 1002 < 9 ∧ aCv g (.ref k) = .ref (g.2.2.2 (2 + (k - 1002))) ∧ aCv g (.ref (k + 9)) = .ref (g.2.2.2 (11 + (k - 1002))) := by
  refine ⟨by omega, ?_, ?_⟩
  · rw [aCvO g (by omega), show k - 1000 = 2 + (k - 1002) by omega]
  · rw [aCvO g (by omega), show k + 9 - 1000 = 11 + (k - 1002) by omega]
theorem aRefB (g : aWg) (k : Nat) (h2 : 1011 ≤ k) (h3 : k < 1020) : k - 1011 < 9 ∧ aCv g (.ref k) = .ref (g.2.2.2 (11 + (k - 1011))) := by
  refine ⟨by omega, ?_⟩
  rw [aCvO g (by omega), show k - 1000 = 11 + (k - 1011) by omega]
theorem aFv_eq {S S' : aSt} {k : Nat} (h1 : S.1 k = S'.1 k) (h2 : S.2.1 k = S'.2.1 k) (j : Nat) (f : Nat × Nat) : aFv S k j f = aFv S' k j f := by
  unfold aFv
  rw [h1, h2]
theorem aCell_eq {g : aWg} {S S' : aSt} {k : Nat} {o : aSh} (h1 : S.1 k = S'.1 k) (h2 : S.2.1 k = S'.2.1 k) (h3 : S.2.2 k = S'.2.2 k) : aCell g S k o = aCell g S' k o := by
  unfold aCell
  cases o with
  | inl x => simp only [h3]
  | inr x => simp only [aFv_eq h1 h2]
theorem aI_ne (S : aSt) {k a : Nat} (j : Nat) (v : Int32) (h : a ≠ k) : S.1 a = (aI S k j v).1 a := by simp [aI, h]
theorem aI_at (S : aSt) (k j b : Nat) (v : Int32) : (aI S k j v).1 k b = if b = j then v else S.1 k b := by simp [aI]
theorem aL_ne (S : aSt) {k a : Nat} (j : Nat) (v : Int64) (h : a ≠ k) : S.2.1 a = (aL S k j v).2.1 a := by simp [aL, h]
theorem aL_at (S : aSt) (k j b : Nat) (v : Int64) : (aL S k j v).2.1 k b = if b = j then v else S.2.1 k b := by simp [aL]
theorem aA_ne (S : aSt) {k a : Nat} (f : Nat → Int32) (h : a ≠ k) : S.2.2 a = (aA S k f).2.2 a := by simp [aA, h]
theorem aA_at (S : aSt) (k : Nat) (f : Nat → Int32) : (aA S k f).2.2 k = f := by simp [aA]
theorem aObj_get {g : aWg} {S : aSt} {k j : Nat} {fs : List (Nat × Nat)} {f : Nat × Nat} (h : fs[j]? = some f) : (fs.mapIdx (fun j f => aCv g (aFv S k j f)))[j]? = some (aCv g (aFv S k j f)) := by
  rw [List.getElem?_mapIdx, h]; rfl
theorem aObj_set {g : aWg} {S S' : aSt} {k j : Nat} {fs : List (Nat × Nat)} {f' : Nat × Nat} {v : Value} (hj : j < fs.length) (hv : aFv S' k j f' = v) (ho : ∀ b, b ≠ j → ∀ f, aFv S k b f = aFv S' k b f) :
    (fs.mapIdx (fun j f => aCv g (aFv S k j f))).set j (aCv g v) = (fs.set j f').mapIdx (fun j f => aCv g (aFv S' k j f)) := by
  apply List.ext_getElem?
  intro i
  rw [List.getElem?_mapIdx]
  by_cases hi : i = j
  · subst hi
    rw [List.getElem?_set_self (by simpa using hj), List.getElem?_set_self hj]
    simp [hv]
  · rw [List.getElem?_set_ne (Ne.symm hi), List.getElem?_set_ne (Ne.symm hi), List.getElem?_mapIdx]
    cases fs[i]? with
    | none => rfl
    | some f => simp [ho i hi f]
theorem aPut_ws {g : aWg} {lay : aLay} {S : aSt} {k ci j : Nat} {fs : List (Nat × Nat)} {v : Value} {q : aLay × aSt} (hl : lay[k]? = some (.inr (ci, fs))) (h : aPut lay S k ci j fs v = some q) :
    j < fs.length ∧ (aWs g lay S).set k (g.2.2.1 + k, .inr (ci, (fs.mapIdx (fun j f => aCv g (aFv S k j f))).set j (aCv g v))) = aWs g q.1 q.2 ∧ q.1.length = lay.length := by
  unfold aPut at h
  split at h
  · rename_i z x hf
    cases h
    have hj : j < fs.length := (List.getElem?_eq_some_iff.mp hf).1
    refine ⟨hj, ?_, rfl⟩
    have e := aObj_set (g := g) (S := S) (S' := aI S k j x) (k := k) (f' := (1, z)) (v := .int x) hj (by simp [aFv, aI_at]) (fun b hb f => by simp [aFv, aI, hb])
    have hs : fs.set j (1, z) = fs := by
      apply List.ext_getElem?
      intro i
      by_cases hi : i = j
      · subst hi; rw [List.getElem?_set_self hj, hf]
      · rw [List.getElem?_set_ne (Ne.symm hi)]
    rw [e, hs]
    have h2 := aWs_set (g := g) (S := S) (S' := aI S k j x) (k := k) (o := .inr (ci, fs)) (aLay_lt hl) (fun a o' ha => aCell_eq (aI_ne S j x ha) rfl rfl)
    rw [aLay_set hl] at h2
    exact h2
  · rename_i z x hf
    cases h
    have hj : j < fs.length := (List.getElem?_eq_some_iff.mp hf).1
    refine ⟨hj, ?_, rfl⟩
    have e := aObj_set (g := g) (S := S) (S' := aL S k j x) (k := k) (f' := (2, z)) (v := .long x) hj (by simp [aFv, aL_at]) (fun b hb f => by simp [aFv, aL, hb])
    have hs : fs.set j (2, z) = fs := by
      apply List.ext_getElem?
      intro i
      by_cases hi : i = j
      · subst hi; rw [List.getElem?_set_self hj, hf]
      · rw [List.getElem?_set_ne (Ne.symm hi)]
    rw [e, hs]
    have h2 := aWs_set (g := g) (S := S) (S' := aL S k j x) (k := k) (o := .inr (ci, fs)) (aLay_lt hl) (fun a o' ha => aCell_eq rfl (aL_ne S j x ha) rfl)
    rw [aLay_set hl] at h2
    exact h2
  · rename_i z r hf
    cases h
    have hj : j < fs.length := (List.getElem?_eq_some_iff.mp hf).1
    refine ⟨hj, ?_, by simp⟩
    have e := aObj_set (g := g) (S := S) (S' := S) (k := k) (f' := (0, r + 1)) (v := .ref r) hj (by simp [aFv]) (fun b hb f => rfl)
    rw [e]
    exact aWs_set (g := g) (S := S) (S' := S) (k := k) (o := .inr (ci, fs.set j (0, r + 1))) (aLay_lt hl) (fun a o' ha => rfl)
  · cases h
section AW
variable {p : Program} {l : Launch} {e : Env} {R : Room} {s : State} {m : MethodId} {args : Array Value} {below : List Frame} {meth : Method} {c : Code} {H : Heap} {locs : List Loc} {cells slots : Nat} {Q : State → Prop}
variable {cc : ByteArray} {pc : Nat} {ls : Array Slot} {rest : List Value} {D : va_G} {cl : List vw_C} {tys : List (ClassId × FieldType)} {ws : va_W} {A : Nat → Prop} {H0 : Heap} {a : Nat}
/-- a field is written: what the heap holds then, and that it has its size still -/
theorem aPutW (hx : p.tables.exec = Jvm.exec) (hb : c.code = cc) {own C : String} {T : u_T} {N ci idx : Nat} {Ts : List Cond} (hts : ∀ w ∈ Ts, w.before args s = true) (hin : ∀ w ∈ u_ws C T N, w ∈ Ts) (ty0 : Nat → FieldType) (hty : ∀ k, k < N → parseFieldDescriptor (T k).2.2.1 = some (ty0 k)) (hnm : ∀ a, a < N → ∀ b, b < N → a ≠ b → (T a).2.1 ≠ (T b).2.1)
    (hown : s.vm.findClass own = some m.cls) (hK : va_K D cl tys s) (hP : va_P D cl ws H) (hD : va_D A ws) (hS0 : va_S A H0 H locs) (q0 : Nat) {fs : List Value} (he : ws[q0]? = some (a, .inr (ci, fs))) (hc : cl[ci]? = some (C, T, N)) (k : Nat) (hk : k < N) (hlink : (Cond.fieldLink own idx (T k).1 (T k).2.1 (T k).2.2.1).before args s = true)
    (hfin : (T k).2.2.2 = false ∨ (meth.name = "<init>" ∧ (T k).1 = own)) {ty : FieldType} {v : Value} (hd : parseFieldDescriptor (T k).2.2.1 = some ty) (hn : narrow ty v = v) (hfit : fits ty v = true) (hl : k < fs.length) (hdg : decode cc pc = .ok (.putfield idx, 3))
    (kk : ∀ (H1 : Heap) (locs1 : List Loc), va_P D cl (ws.set q0 (a, .inr (ci, fs.set k v))) H1 → H1.size = H.size → va_S A H0 H1 locs1 → W p l e R s m args below meth c H1 locs1 cells slots Q (F0 m (pc + 3) ls rest)) : W p l e R s m args below meth c H locs cells slots Q (F0 m pc ls (v :: .ref a :: rest)) := by
  have hap := va_apart (own := own) hts hin ty0 hty hnm hK hc
  obtain ⟨r, h1, cell, q1, q2, q3, q4⟩ := hP q0 _ he
  cases Option.some.inj (h1.symm.trans hc)
  obtain ⟨hS, hfc, kC, hkC, hkind⟩ := hK.1 ci _ hc
  obtain ⟨cf, kf, fi, f, hi, hsl⟩ := hS k hk
  have hlays := u_lays hts hin hk
  have hst := (u_facts hfc hkC hlays hi).1
  obtain ⟨hnr, hft⟩ := u_fits hfc hkC hkind hlays hi hd hn hfit
  have hlt : f.slot < cell.slots.size := by rw [hsl]; exact k2_hasslot (q4 k hk)
  have hfn : hasFlag f.accessFlags Acc.final = false ∨ (m.cls = cf ∧ meth.name = "<init>") := by
    by_cases hff : (T k).2.2.2 = false
    · have hlay := hts _ (hin _ (u_in_lay hk))
      unfold u_lay at hlay
      rw [if_neg (by rw [hff]; decide)] at hlay
      exact Or.inl (u_store hfc hkC hkind hlay hi hd hn hfit).1
    · rcases hfin with h | ⟨hini, hdecl⟩
      · exact absurd h hff
      · have hlay := hts _ (hin _ (u_in_lay hk))
        unfold u_lay at hlay
        rw [if_pos (by cases hq : (T k).2.2.2 with | true => rfl | false => exact absurd hq hff)] at hlay
        refine Or.inr ⟨?_, hini⟩
        obtain ⟨_, _, c', _, _, _, -, -, hf', -, -, -, hown2, -⟩ := Cond.laysFinal_spec hlay
        have e1 : c' = cf := by have := hi.symm.trans hf'; simp at this; exact this.1.symm
        rw [hdecl] at hown2
        rw [← e1]; exact Option.some.inj (hown.symm.trans hown2)
  have ha : a < H.size := (Array.getElem?_eq_some_iff.mp q1).1
  refine W.putf hx hb hown hlink hi hst hfn q1 (by rw [q3]; exact fun h => by cases h) hlt hnr (by rw [q2, q3]; exact hft) rfl rfl hdg ?_
  have e1 : (H.setIfInBounds a (cell.setSlot f.slot v))[a]? = some (cell.setSlot f.slot v) := by simp [ha]
  have e2 : (H.setIfInBounds a (cell.setSlot f.slot v)).size = H.size := by simp
  have e3 : ∀ q, q ≠ a → (H.setIfInBounds a (cell.setSlot f.slot v))[q]? = H[q]? := fun q hq => Array.getElem?_setIfInBounds_ne (Ne.symm hq)
  generalize H.setIfInBounds a (cell.setSlot f.slot v) = H' at e1 e2 e3
  rw [hsl] at e1 ⊢
  exact kk H' _ (hP.set hD he ⟨_, hc, t_OB.to (V := updV (vp_V fs) k v) ⟨_, e1, q2, q3, t_set q4 hap hk v⟩ (fun j _ => vp_updV_set hl v j)⟩ e3) e2 (hS0.put e2 e3 (hD.2 q0 _ he))
theorem aIastW (hx : p.tables.exec = Jvm.exec) (hb : c.code = cc) (hK : va_K D cl tys s) (hP : va_P D cl ws H) (hD : va_D A ws) (hS : va_S A H0 H locs) (q0 t0 : Nat) {cA : ClassId} {n : Nat} {f : Nat → Int32} (ha : ws[q0]? = some (a, .inl (cA, n, .inl f))) (ht : tys[t0]? = some (cA, .int)) {i : Int32} {x : Int32} (hin : vp_in i n) (hdg : decode cc pc = .ok (.iastore, 1))
    (kk : ∀ (H1 : Heap) (locs1 : List Loc), va_P D cl (ws.set q0 (a, .inl (cA, n, .inl (upd f i.toNatClampNeg x)))) H1 → H1.size = H.size → va_S A H0 H1 locs1 → W p l e R s m args below meth c H1 locs1 cells slots Q (F0 m (pc + 1) ls rest)) : W p l e R s m args below meth c H locs cells slots Q (F0 m pc ls (.int x :: .int i :: .ref a :: rest)) := by
  refine W.iast hx hb (hP q0 _ ha) ((hK.2 t0 _ ht).1 n (fun j => .int (f j))) (fun q => by cases q) (by show ¬ (i < 0 ∨ (arrV _ _ _).slots.size ≤ _); rw [arrV_size]; exact hin) rfl rfl hdg fun H1 e1 z oq => ?_
  refine kk H1 _ (hP.set hD ha ?_ oq) z (hS.put z oq (hD.2 q0 _ ha))
  show H1[a]? = some (vp_cell _ _)
  rw [e1, vp_cell_i, vp_cell_i, arrV_store]
  congr 2
  funext q
  by_cases hq : q = i.toNatClampNeg
  · subst hq
    simp [updV, upd]
  · simp [updV, upd, hq]
theorem aZastW (hx : p.tables.exec = Jvm.exec) (hb : c.code = cc) (hK : va_K D cl tys s) (hP : va_P D cl ws H) (hD : va_D A ws) (hS : va_S A H0 H locs) (q0 t0 : Nat) {cA : ClassId} {n : Nat} {f : Nat → Int32} (ha : ws[q0]? = some (a, .inl (cA, n, .inl f))) (ht : tys[t0]? = some (cA, .boolean)) {i : Int32} {x : Int32} (hin : vp_in i n) (hxx : narrow .boolean (.int x) = .int x) (hdg : decode cc pc = .ok (.bastore, 1))
    (kk : ∀ (H1 : Heap) (locs1 : List Loc), va_P D cl (ws.set q0 (a, .inl (cA, n, .inl (upd f i.toNatClampNeg x)))) H1 → H1.size = H.size → va_S A H0 H1 locs1 → W p l e R s m args below meth c H1 locs1 cells slots Q (F0 m (pc + 1) ls rest)) : W p l e R s m args below meth c H locs cells slots Q (F0 m pc ls (.int x :: .int i :: .ref a :: rest)) := by
  refine W.zast hx hb (hP q0 _ ha) ((hK.2 t0 _ ht).1 n (fun j => .int (f j))) (fun q => by cases q) (by show ¬ (i < 0 ∨ (arrV _ _ _).slots.size ≤ _); rw [arrV_size]; exact hin) rfl rfl hdg fun H1 e1 z oq => ?_
  refine kk H1 _ (hP.set hD ha ?_ oq) z (hS.put z oq (hD.2 q0 _ ha))
  show H1[a]? = some (vp_cell _ _)
  rw [e1, hxx, vp_cell_i, vp_cell_i, arrV_store]
  congr 2
  funext q
  by_cases hq : q = i.toNatClampNeg
  · subst hq
    simp [updV, upd]
  · simp [updV, upd, hq]
end AW
set_option maxHeartbeats 4000000 in
set_option maxRecDepth 100000 in
theorem aIns_ok {C : aC} {M : aM} {k n : Nat} {ins : Instr} {len pc : Nat} {lv : List (Nat × Value)} {st : List Value} {lay : aLay} {S : aSt} {cf' : aCf} (hC : aCx C M) (hT : aOK M) (hd : decode M.2.1 pc = .ok (ins, len))
    (h : aIns M ins len pc lv st lay S = some cf') (kk : aX C M k n cf') : aX C M k n (pc, lv, st, lay, S) := by
  obtain ⟨g, p, l, e, R, s, m, args, below, meth, c, Q⟩ := C
  obtain ⟨hx, hb, hml, hown, hts, hK, hRo, hbs, hini, hlk, hret, hR⟩ := hC
  intro H ls locs hP hz hl hS
  dsimp only at hP hz hl
  show W p l e R s m args below meth c H locs k n Q (F0 m pc ls (st.map (aCv g)))
  cases ins
  case iconst i =>
    simp only [aIns] at h
    split at h
    · rename_i hc
      cases h
      subst hc
      exact lv_iconst hx hb hd rfl (kk H ls locs hP hz hl hS)
    · cases h
  case bipush i =>
    simp only [aIns] at h
    split at h
    · rename_i hc
      cases h
      subst hc
      exact lv_bipush hx hb hd rfl (kk H ls locs hP hz hl hS)
    · cases h
  case sipush i =>
    simp only [aIns] at h
    split at h
    · rename_i hc
      cases h
      subst hc
      exact lv_sipush hx hb hd rfl (kk H ls locs hP hz hl hS)
    · cases h
  case lconst i =>
    simp only [aIns] at h
    split at h
    · rename_i hc
      cases h
      subst hc
      exact lv_lconst hx hb hd rfl (kk H ls locs hP hz hl hS)
    · cases h
  case iload_n i =>
    simp only [aIns] at h
    split at h
    · rename_i x hq
      split at h
      · rename_i hc
        cases h
        subst hc
        exact lv_iload_n hx hb hd rfl (aLoc hl hq) (kk H ls locs hP hz hl hS)
      · cases h
    · cases h
  case iload i =>
    simp only [aIns] at h
    split at h
    · rename_i x hq
      split at h
      · rename_i hc
        cases h
        subst hc
        exact lv_iload hx hb hd (aLoc hl hq) (kk H ls locs hP hz hl hS)
      · cases h
    · cases h
  case lload_n i =>
    simp only [aIns] at h
    split at h
    · rename_i x hq
      split at h
      · rename_i hc
        cases h
        subst hc
        exact lv_lload_n hx hb hd rfl (aLoc hl hq) (kk H ls locs hP hz hl hS)
      · cases h
    · cases h
  case lload i =>
    simp only [aIns] at h
    split at h
    · rename_i x hq
      split at h
      · rename_i hc
        cases h
        subst hc
        exact lv_lload hx hb hd (aLoc hl hq) (kk H ls locs hP hz hl hS)
      · cases h
    · cases h
  case aload_n i =>
    simp only [aIns] at h
    split at h
    · rename_i x hq
      split at h
      · rename_i hc
        cases h
        subst hc
        exact lv_aload_n hx hb hd rfl (aLoc hl hq) (kk H ls locs hP hz hl hS)
      · cases h
    · cases h
  case aload i =>
    simp only [aIns] at h
    split at h
    · rename_i x hq
      split at h
      · rename_i hc
        cases h
        subst hc
        exact lv_aload hx hb hd (aLoc hl hq) (kk H ls locs hP hz hl hS)
      · cases h
    · cases h
  case istore_n i =>
    simp only [aIns] at h
    split at h
    · rename_i x r
      split at h
      · rename_i hc
        cases h
        obtain ⟨hc, hn⟩ := hc
        subst hc
        exact lv_istore_n hx hb hd rfl hl hn (aSt1_map g i.val (.int x) lv) (fun ls' hl' => kk H ls' locs hP hz hl' hS)
      · cases h
    · cases h
  case istore i =>
    simp only [aIns] at h
    split at h
    · rename_i x r
      split at h
      · rename_i hc
        cases h
        obtain ⟨hc, hn⟩ := hc
        subst hc
        exact lv_istore hx hb hd hl hn (aSt1_map g i (.int x) lv) (fun ls' hl' => kk H ls' locs hP hz hl' hS)
      · cases h
    · cases h
  case lstore_n i =>
    simp only [aIns] at h
    split at h
    · rename_i x r
      split at h
      · rename_i hc
        cases h
        obtain ⟨hc, hn⟩ := hc
        subst hc
        exact lv_lstore_n hx hb hd rfl hl hn (aSt2_map g i.val (.long x) lv) (fun ls' hl' => kk H ls' locs hP hz hl' hS)
      · cases h
    · cases h
  case lstore i =>
    simp only [aIns] at h
    split at h
    · rename_i x r
      split at h
      · rename_i hc
        cases h
        obtain ⟨hc, hn⟩ := hc
        subst hc
        exact lv_lstore hx hb hd hl hn (aSt2_map g i (.long x) lv) (fun ls' hl' => kk H ls' locs hP hz hl' hS)
      · cases h
    · cases h
  case astore_n i =>
    simp only [aIns] at h
    split at h
    · rename_i x r
      split at h
      · rename_i hc
        cases h
        obtain ⟨hc, hn⟩ := hc
        subst hc
        exact lv_astore_n hx hb hd rfl hl hn (aSt1_map g i.val (.ref x) lv) (fun ls' hl' => kk H ls' locs hP hz hl' hS)
      · cases h
    · cases h
  case astore i =>
    simp only [aIns] at h
    split at h
    · rename_i x r
      split at h
      · rename_i hc
        cases h
        obtain ⟨hc, hn⟩ := hc
        subst hc
        exact lv_astore hx hb hd hl hn (aSt1_map g i (.ref x) lv) (fun ls' hl' => kk H ls' locs hP hz hl' hS)
      · cases h
    · cases h
  case iinc i d =>
    simp only [aIns] at h
    split at h
    · rename_i x hq
      split at h
      · rename_i hc
        cases h
        obtain ⟨hc, hn⟩ := hc
        subst hc
        obtain ⟨k0, hk0⟩ := List.getElem?_of_mem (List.mem_map.mpr ⟨_, aLk_mem hq, rfl⟩ : aCq g (i, .int x) ∈ lv.map (aCq g))
        exact lv_iinc hx hb hd hl (k := k0) hk0 rfl hn (aSt1_map g i (.int (x + Int32.ofInt d)) lv) (fun ls' hl' => kk H ls' locs hP hz hl' hS)
      · cases h
    · cases h
  case iadd =>
    simp only [aIns] at h
    split at h
    · split at h
      · rename_i hc
        cases h
        subst hc
        exact lv_iadd hx hb hd (kk H ls locs hP hz hl hS)
      · cases h
    · cases h
  case isub =>
    simp only [aIns] at h
    split at h
    · split at h
      · rename_i hc
        cases h
        subst hc
        exact lv_isub hx hb hd (kk H ls locs hP hz hl hS)
      · cases h
    · cases h
  case imul =>
    simp only [aIns] at h
    split at h
    · split at h
      · rename_i hc
        cases h
        subst hc
        exact lv_imul hx hb hd (kk H ls locs hP hz hl hS)
      · cases h
    · cases h
  case iand =>
    simp only [aIns] at h
    split at h
    · split at h
      · rename_i hc
        cases h
        subst hc
        exact lv_iand hx hb hd (kk H ls locs hP hz hl hS)
      · cases h
    · cases h
  case ior =>
    simp only [aIns] at h
    split at h
    · split at h
      · rename_i hc
        cases h
        subst hc
        exact lv_ior hx hb hd (kk H ls locs hP hz hl hS)
      · cases h
    · cases h
  case ixor =>
    simp only [aIns] at h
    split at h
    · split at h
      · rename_i hc
        cases h
        subst hc
        exact lv_ixor hx hb hd (kk H ls locs hP hz hl hS)
      · cases h
    · cases h
  case ishl =>
    simp only [aIns] at h
    split at h
    · split at h
      · rename_i hc
        cases h
        subst hc
        exact lv_ishl hx hb hd (kk H ls locs hP hz hl hS)
      · cases h
    · cases h
  case ishr =>
    simp only [aIns] at h
    split at h
    · split at h
      · rename_i hc
        cases h
        subst hc
        exact lv_ishr hx hb hd (kk H ls locs hP hz hl hS)
      · cases h
    · cases h
  case idiv =>
    simp only [aIns] at h
    split at h
    · split at h
      · rename_i hc
        cases h
        have hc0 := hc.1
        subst hc0
        exact lv_idiv hx hb hd hc.2 (kk H ls locs hP hz hl hS)
      · cases h
    · cases h
  case irem =>
    simp only [aIns] at h
    split at h
    · split at h
      · rename_i hc
        cases h
        have hc0 := hc.1
        subst hc0
        exact lv_irem hx hb hd hc.2 (kk H ls locs hP hz hl hS)
      · cases h
    · cases h
  case ineg =>
    simp only [aIns] at h
    split at h
    · split at h
      · rename_i hc
        cases h
        subst hc
        exact lv_ineg hx hb hd (kk H ls locs hP hz hl hS)
      · cases h
    · cases h
  case i2l =>
    simp only [aIns] at h
    split at h
    · split at h
      · rename_i hc
        cases h
        subst hc
        exact lv_i2l hx hb hd rfl (kk H ls locs hP hz hl hS)
      · cases h
    · cases h
  case l2i =>
    simp only [aIns] at h
    split at h
    · split at h
      · rename_i hc
        cases h
        subst hc
        exact lv_l2i hx hb hd rfl (kk H ls locs hP hz hl hS)
      · cases h
    · cases h
  case i2c =>
    simp only [aIns] at h
    split at h
    · split at h
      · rename_i hc
        cases h
        subst hc
        exact lv_i2c hx hb hd rfl (kk H ls locs hP hz hl hS)
      · cases h
    · cases h
  case ladd =>
    simp only [aIns] at h
    split at h
    · split at h
      · rename_i hc
        cases h
        subst hc
        exact lv_ladd hx hb hd (kk H ls locs hP hz hl hS)
      · cases h
    · cases h
  case lmul =>
    simp only [aIns] at h
    split at h
    · split at h
      · rename_i hc
        cases h
        subst hc
        exact lv_lmul hx hb hd (kk H ls locs hP hz hl hS)
      · cases h
    · cases h
  case land =>
    simp only [aIns] at h
    split at h
    · split at h
      · rename_i hc
        cases h
        subst hc
        exact lv_land hx hb hd (kk H ls locs hP hz hl hS)
      · cases h
    · cases h
  case lor =>
    simp only [aIns] at h
    split at h
    · split at h
      · rename_i hc
        cases h
        subst hc
        exact lv_lor hx hb hd (kk H ls locs hP hz hl hS)
      · cases h
    · cases h
  case lshl =>
    simp only [aIns] at h
    split at h
    · split at h
      · rename_i hc
        cases h
        subst hc
        exact lv_lshl hx hb hd rfl (kk H ls locs hP hz hl hS)
      · cases h
    · cases h
  case lshr =>
    simp only [aIns] at h
    split at h
    · split at h
      · rename_i hc
        cases h
        subst hc
        exact lv_lshr hx hb hd rfl (kk H ls locs hP hz hl hS)
      · cases h
    · cases h
  case lcmp =>
    simp only [aIns] at h
    split at h
    · split at h
      · rename_i hc
        cases h
        subst hc
        exact W.lcmp hx hb hd (kk H ls locs hP hz hl hS)
      · cases h
    · cases h
  case dup =>
    simp only [aIns] at h
    split at h
    · split at h
      · rename_i hc
        cases h
        have hc0 := hc.1
        subst hc0
        exact lv_dup hx hb hd (by rw [aCv_cat]; exact hc.2) (kk H ls locs hP hz hl hS)
      · cases h
    · cases h
  case pop =>
    simp only [aIns] at h
    split at h
    · split at h
      · rename_i hc
        cases h
        have hc0 := hc.1
        subst hc0
        exact lv_pop hx hb hd (by rw [aCv_cat]; exact hc.2) (kk H ls locs hP hz hl hS)
      · cases h
    · cases h
  case dup2 =>
    simp only [aIns] at h
    split at h
    · split at h
      · rename_i hc
        cases h
        have hc0 := hc.1
        subst hc0
        exact lv_dup2_11 hx hb hd (by rw [aCv_cat]; exact hc.2.1) (by rw [aCv_cat]; exact hc.2.2) (kk H ls locs hP hz hl hS)
      · cases h
    · cases h
  case goto off =>
    simp only [aIns] at h
    split at h
    · rename_i hc
      cases h
      obtain ⟨hc, hn⟩ := hc
      subst hc
      exact lv_goto hx hb hd (Int.toNat_of_nonneg hn).symm (kk H ls locs hP hz hl hS)
    · cases h
  case ldc i =>
    simp only [aIns] at h
    split at h
    · rename_i pl v hq
      split at h
      · rename_i hc
        cases h
        subst hc
        rcases hT.c _ (aLk_mem hq) with ⟨v', e, hw⟩ | ⟨v', e, hw⟩ | ⟨v', -, e, -⟩
        · cases e
          exact lv_ldc hx hb hown (aTw hts hw) hd (kk H ls locs hP hz hl hS)
        · cases e
        · cases e
      · cases h
    · rename_i pl v hq
      split at h
      · rename_i hc
        cases h
        subst hc
        rcases hT.c _ (aLk_mem hq) with ⟨v', e, hw⟩ | ⟨v', e, hw⟩ | ⟨v', hv, e, ho, hi⟩
        · cases e
        · cases e
        · cases e
          have hz1 := hRo.2.2.2.2.1 v' hv
          have hk1 := kk H ls locs hP hz hl hS
          dsimp only at hk1
          rw [List.map_cons, aRef2 g v'] at hk1
          have hown2 : s.vm.findClass "NinePence$Text" = some m.cls := by rw [← ho]; exact hown
          rw [show i = aSix.getD v' 0 from hi] at hd
          exact va_ldcS hx hb hown2 hz1 hd hk1
      · cases h
    · cases h
  case ldc2_w i =>
    simp only [aIns] at h
    split at h
    · rename_i pl v hq
      split at h
      · rename_i hc
        cases h
        subst hc
        rcases hT.c _ (aLk_mem hq) with ⟨v', e, hw⟩ | ⟨v', e, hw⟩ | ⟨v', -, e, -⟩
        · cases e
        · cases e
          exact lv_ldc2 hx hb hown (aTw hts hw) hd (kk H ls locs hP hz hl hS)
        · cases e
      · cases h
    · cases h
  case getstatic i =>
    simp only [aIns] at h
    split at h
    · rename_i pl hq
      split at h
      · rename_i hc
        cases h
        subst hc
        rcases hT.s _ (aLk_mem hq) with ⟨-, hw⟩ | ⟨e, -⟩ | ⟨e, -⟩
        · exact va_gets hx hb hRo.2.1 hS hown (aTw hts hw) (fun _ h => h) hd (kk H ls locs hP hz hl hS)
        · cases e
        · cases e
      · cases h
    · rename_i pl hq
      split at h
      · rename_i hc
        cases h
        subst hc
        rcases hT.s _ (aLk_mem hq) with ⟨e, -⟩ | ⟨-, hw⟩ | ⟨e, -⟩
        · cases e
        · exact va_gets hx hb hRo.2.2.1 hS hown (aTw hts hw) (fun _ h => h) hd (kk H ls locs hP hz hl hS)
        · cases e
      · cases h
    · rename_i pl hq
      split at h
      · rename_i hc
        cases h
        subst hc
        rcases hT.s _ (aLk_mem hq) with ⟨e, -⟩ | ⟨e, -⟩ | ⟨-, hw⟩
        · cases e
        · cases e
        · exact va_gets hx hb hRo.2.2.2.2.2.2 hS hown (aTw hts hw) (fun _ h => h) hd (kk H ls locs hP hz hl hS)
      · cases h
    · cases h
  case getfield i =>
    simp only [aIns] at h
    split at h
    · rename_i pl ci j ty k r hq
      split at h
      · rename_i hc
        subst hc
        split at h
        · rename_i hk
          split at h
          · rename_i cj fs hly
            split at h
            · rename_i hcc
              subst hcc
              split at h
              · rename_i f hf
                cases h
                rcases hT.f _ (aLk_mem hq) with ⟨e0, -⟩ | ⟨⟨C, T, N⟩, hr, hj, hw, -⟩
                · exfalso
                  obtain ⟨q9, h9, -⟩ := hP k _ (aWs_at hly)
                  dsimp only at e0 h9
                  rw [e0] at h9
                  have : vwCl.length ≤ 100 := by decide
                  rw [List.getElem?_eq_none this] at h9
                  cases h9
                · dsimp only at hr hj hw
                  have hcm := aCls _ (List.mem_of_getElem? hr)
                  show W p l e R s m args below meth c H locs _ _ Q (F0 m pc ls (aCv g (.ref k) :: r.map (aCv g)))
                  rw [aCvR g hk]
                  exact va_get hx hb hts hcm.1 hown hK hP k (aWs_at hly) hr j hj (aTw hts hw) (fun _ h => h) (aObj_get hf) hd (kk H ls locs hP hz hl hS)
              · cases h
            · cases h
          · cases h
        · rename_i hk
          split at h
          · rename_i hcc
            cases h
            obtain ⟨e1, h2, h3⟩ := hcc
            subst e1
            show W p l e R s m args below meth c H locs _ _ Q (F0 m pc ls (aCv g (.ref k) :: r.map (aCv g)))
            obtain ⟨hb9, ek, ek9⟩ := aRefS g k h2 h3
            have hs4 := hRo.2.2.2.1.1 (k - 1002) hb9
            rw [ek]
            have hk1 := kk H ls locs hP hz hl hS
            dsimp only at hk1
            rcases hT.f _ (aLk_mem hq) with ⟨-, ⟨e0, hw⟩ | ⟨e0, hw⟩⟩ | ⟨⟨C, T, N⟩, hr, -⟩
            · dsimp only at e0
              rw [if_pos e0] at hk1
              exact vk_getf hx hb hs4.2.1 hS hown (aTw hts hw) (fun _ h => h) hd hk1
            · dsimp only at e0
              rw [if_neg (by rw [e0]; decide), List.map_cons, ek9] at hk1
              exact vk_getf hx hb hs4.2.2.1 hS hown (aTw hts hw) (fun _ h => h) hd hk1
            · exfalso
              have : vwCl.length ≤ 100 := by decide
              dsimp only at hr
              rw [List.getElem?_eq_none this] at hr
              cases hr
          · cases h
      · cases h
    · cases h
  case putfield i =>
    simp only [aIns] at h
    split at h
    · rename_i pl ci j ty v k r hq
      split at h
      · rename_i hc
        obtain ⟨hc, hk, hpo⟩ := hc
        subst hc
        split at h
        · rename_i cj fs C T N hly hcl
          split at h
          · rename_i hcc
            obtain ⟨hcc, hfn⟩ := hcc
            subst hcc
            split at h
            · rename_i q hpq
              cases h
              rcases hT.f _ (aLk_mem hq) with ⟨e0, -⟩ | ⟨⟨C2, T2, N2⟩, hr, hj, hw, hty⟩
              · exfalso
                obtain ⟨q9, h9, -⟩ := hP k _ (aWs_at hly)
                dsimp only at e0 h9
                rw [e0] at h9
                have : vwCl.length ≤ 100 := by decide
                rw [List.getElem?_eq_none this] at h9
                cases h9
              · dsimp only at hr hj hw hty
                cases (hr : vwCl[ci]? = some (C2, T2, N2)).symm.trans (hcl : vwCl[ci]? = some (C, T, N))
                have hcm := aCls _ (List.mem_of_getElem? hr)
                show W p l e R s m args below meth c H locs _ _ Q (F0 m pc ls (aCv g v :: aCv g (.ref k) :: r.map (aCv g)))
                rw [aCvR g hk]
                obtain ⟨hjl, hws, hll⟩ := aPut_ws (g := g) hly hpq
                obtain ⟨hnr, hft⟩ := aPut_ok g hpo
                have hjl2 : j < (fs.mapIdx (fun j f => aCv g (aFv S k j f))).length := by simpa using hjl
                have hfn2 : (T j).2.2.2 = false ∨ (meth.name = "<init>" ∧ (T j).1 = M.1) := hfn.imp (fun h => h) (fun h => ⟨hini h.1, h.2⟩)
                refine aPutW hx hb hts hcm.1 _ hcm.2.1 hcm.2.2 hown hK hP (aD g lay S) hS k (aWs_at hly) hr j hj (aTw hts hw) hfn2 hty hnr hft hjl2 hd (fun H1 locs1 hP1 hz1 hS1 => ?_)
                rw [hws] at hP1
                exact kk H1 ls locs1 hP1 (by rw [hz1, hz]; dsimp only; rw [hll]) hl hS1
            · cases h
          · cases h
        · cases h
      · cases h
    · cases h
  case arraylength =>
    simp only [aIns] at h
    split at h
    · rename_i k r
      split at h
      · rename_i hc
        subst hc
        split at h
        · rename_i hk
          split at h
          · rename_i a hly
            split at h
            · rename_i ha2
              cases h
              show W p l e R s m args below meth c H locs _ _ Q (F0 m pc ls (aCv g (.ref k) :: r.map (aCv g)))
              rw [aCvR g hk]
              have ht : ∃ ty, (aTy g)[a.1]? = some (g.2.1 a.1, ty) := by
                obtain ⟨t, nn⟩ := a
                rcases t with _ | _ | t
                · exact ⟨_, rfl⟩
                · exact ⟨_, rfl⟩
                · exact absurd (show t + 1 + 1 < 2 from ha2) (by omega)
              obtain ⟨ty, ht⟩ := ht
              exact va_alen hx hb hK hP k a.1 (aWs_at hly) ht rfl hd (kk H ls locs hP hz hl hS)
            · cases h
          · cases h
        · rename_i hk
          split at h
          · rename_i hk2
            cases h
            subst hk2
            exact va_tlen hx hb hRo.1 hS (v := 7) rfl hd (kk H ls locs hP hz hl hS)
          · split at h
            · rename_i hk3
              cases h
              show W p l e R s m args below meth c H locs _ _ Q (F0 m pc ls (aCv g (.ref k) :: r.map (aCv g)))
              obtain ⟨hb9, ek⟩ := aRefB g k hk3.1 hk3.2
              rw [ek]
              exact va_tlen hx hb (hRo.2.2.2.1.1 (k - 1011) hb9).2.2.2 hS rfl hd (kk H ls locs hP hz hl hS)
            · cases h
      · cases h
    · cases h
  all_goals exact absurd (show (none : Option aCf) = some cf' from h) (by simp)
end
section
/-! the rules by which contracts are proved: straight runs, branches, array cells, results, calls, new cells -/
theorem aRun_ok {C : aC} {M : aM} {k n : Nat} (hC : aCx C M) (hT : aOK M) : ∀ (q : Nat) {cf cf' : aCf}, aRun q M cf = some cf' → aX C M k n cf' → aX C M k n cf
  | 0, cf, cf', h, kk => by cases h; exact kk
  | q + 1, cf, cf', h, kk => by
    unfold aRun at h
    split at h
    · cases h
    · rename_i c1 h1
      have k1 := aRun_ok hC hT q h kk
      unfold aStep at h1
      split at h1
      · cases h1
      · rename_i w hw
        exact aIns_ok hC hT (aDc hT hw) h1 k1
/-- other locals, in another order: each that is listed now was listed -/
theorem aLocs {C : aC} {M : aM} {k n pc : Nat} {lv lv' : List (Nat × Value)} {st : List Value} {lay : aLay} {S : aSt} (ks : List Nat) (hks : ks.filterMap (fun i => lv[i]?) = lv') (kk : aX C M k n (pc, lv', st, lay, S)) : aX C M k n (pc, lv, st, lay, S) := by
  obtain ⟨g, p, l, e, R, s, m, args, below, meth, c, Q⟩ := C
  intro H ls locs hP hz hl hS
  refine kk H ls locs hP hz ⟨hl.1, hl.2.1, fun q hq => ?_⟩ hS
  obtain ⟨q0, hq0, rfl⟩ := List.mem_map.mp hq
  refine hl.2.2 _ (List.mem_map.mpr ⟨q0, ?_, rfl⟩)
  have hq1 : q0 ∈ lv' := hq0
  rw [← hks] at hq1
  obtain ⟨i, -, hi⟩ := List.mem_filterMap.mp hq1
  exact List.mem_of_getElem? hi
section AB
variable {C : aC} {M : aM} {k n pc : Nat} {lv : List (Nat × Value)} {st : List Value} {lay : aLay} {S : aSt}
theorem aIf_eq (hC : aCx C M) (hT : aOK M) {x : Int32} {off : Int} {tgt : Nat} (hq : aLk M.2.2.2.2.2.2.1 pc = some (.ifCond .eq off, 3)) (ht : (pc : Int) + off = (tgt : Int)) (kt : x = 0 → aX C M k n (tgt, lv, st, lay, S)) (kf : ¬ x = 0 → aX C M k n (pc + 3, lv, st, lay, S)) : aX C M k n (pc, lv, .int x :: st, lay, S) := by
  obtain ⟨g, p, l, e, R, s, m, args, below, meth, c, Q⟩ := C
  obtain ⟨hx, hb, -⟩ := hC
  intro H ls locs hP hz hl hS
  exact lv_if_eq hx hb (aDc hT hq) ht (fun h => kt h H ls locs hP hz hl hS) (fun h => kf h H ls locs hP hz hl hS)
theorem aIf_ne (hC : aCx C M) (hT : aOK M) {x : Int32} {off : Int} {tgt : Nat} (hq : aLk M.2.2.2.2.2.2.1 pc = some (.ifCond .ne off, 3)) (ht : (pc : Int) + off = (tgt : Int)) (kt : ¬ x = 0 → aX C M k n (tgt, lv, st, lay, S)) (kf : x = 0 → aX C M k n (pc + 3, lv, st, lay, S)) : aX C M k n (pc, lv, .int x :: st, lay, S) := by
  obtain ⟨g, p, l, e, R, s, m, args, below, meth, c, Q⟩ := C
  obtain ⟨hx, hb, -⟩ := hC
  intro H ls locs hP hz hl hS
  exact lv_if_ne hx hb (aDc hT hq) ht (fun h => kt h H ls locs hP hz hl hS) (fun h => kf h H ls locs hP hz hl hS)
theorem aIf_lt (hC : aCx C M) (hT : aOK M) {x : Int32} {off : Int} {tgt : Nat} (hq : aLk M.2.2.2.2.2.2.1 pc = some (.ifCond .lt off, 3)) (ht : (pc : Int) + off = (tgt : Int)) (kt : x < 0 → aX C M k n (tgt, lv, st, lay, S)) (kf : ¬ x < 0 → aX C M k n (pc + 3, lv, st, lay, S)) : aX C M k n (pc, lv, .int x :: st, lay, S) := by
  obtain ⟨g, p, l, e, R, s, m, args, below, meth, c, Q⟩ := C
  obtain ⟨hx, hb, -⟩ := hC
  intro H ls locs hP hz hl hS
  exact lv_if_lt hx hb (aDc hT hq) ht (fun h => kt h H ls locs hP hz hl hS) (fun h => kf h H ls locs hP hz hl hS)
theorem aIf_ge (hC : aCx C M) (hT : aOK M) {x : Int32} {off : Int} {tgt : Nat} (hq : aLk M.2.2.2.2.2.2.1 pc = some (.ifCond .ge off, 3)) (ht : (pc : Int) + off = (tgt : Int)) (kt : 0 ≤ x → aX C M k n (tgt, lv, st, lay, S)) (kf : ¬ 0 ≤ x → aX C M k n (pc + 3, lv, st, lay, S)) : aX C M k n (pc, lv, .int x :: st, lay, S) := by
  obtain ⟨g, p, l, e, R, s, m, args, below, meth, c, Q⟩ := C
  obtain ⟨hx, hb, -⟩ := hC
  intro H ls locs hP hz hl hS
  exact lv_if_ge hx hb (aDc hT hq) ht (fun h => kt h H ls locs hP hz hl hS) (fun h => kf h H ls locs hP hz hl hS)
theorem aIf_gt (hC : aCx C M) (hT : aOK M) {x : Int32} {off : Int} {tgt : Nat} (hq : aLk M.2.2.2.2.2.2.1 pc = some (.ifCond .gt off, 3)) (ht : (pc : Int) + off = (tgt : Int)) (kt : 0 < x → aX C M k n (tgt, lv, st, lay, S)) (kf : ¬ 0 < x → aX C M k n (pc + 3, lv, st, lay, S)) : aX C M k n (pc, lv, .int x :: st, lay, S) := by
  obtain ⟨g, p, l, e, R, s, m, args, below, meth, c, Q⟩ := C
  obtain ⟨hx, hb, -⟩ := hC
  intro H ls locs hP hz hl hS
  exact lv_if_gt hx hb (aDc hT hq) ht (fun h => kt h H ls locs hP hz hl hS) (fun h => kf h H ls locs hP hz hl hS)
theorem aIf_le (hC : aCx C M) (hT : aOK M) {x : Int32} {off : Int} {tgt : Nat} (hq : aLk M.2.2.2.2.2.2.1 pc = some (.ifCond .le off, 3)) (ht : (pc : Int) + off = (tgt : Int)) (kt : x ≤ 0 → aX C M k n (tgt, lv, st, lay, S)) (kf : ¬ x ≤ 0 → aX C M k n (pc + 3, lv, st, lay, S)) : aX C M k n (pc, lv, .int x :: st, lay, S) := by
  obtain ⟨g, p, l, e, R, s, m, args, below, meth, c, Q⟩ := C
  obtain ⟨hx, hb, -⟩ := hC
  intro H ls locs hP hz hl hS
  exact lv_if_le hx hb (aDc hT hq) ht (fun h => kt h H ls locs hP hz hl hS) (fun h => kf h H ls locs hP hz hl hS)
theorem aCmp_eq (hC : aCx C M) (hT : aOK M) {x y : Int32} {off : Int} {tgt : Nat} (hq : aLk M.2.2.2.2.2.2.1 pc = some (.if_icmp .eq off, 3)) (ht : (pc : Int) + off = (tgt : Int)) (kt : x = y → aX C M k n (tgt, lv, st, lay, S)) (kf : ¬ x = y → aX C M k n (pc + 3, lv, st, lay, S)) : aX C M k n (pc, lv, .int y :: .int x :: st, lay, S) := by
  obtain ⟨g, p, l, e, R, s, m, args, below, meth, c, Q⟩ := C
  obtain ⟨hx, hb, -⟩ := hC
  intro H ls locs hP hz hl hS
  exact lv_icmp_eq hx hb (aDc hT hq) ht (fun h => kt h H ls locs hP hz hl hS) (fun h => kf h H ls locs hP hz hl hS)
theorem aCmp_ne (hC : aCx C M) (hT : aOK M) {x y : Int32} {off : Int} {tgt : Nat} (hq : aLk M.2.2.2.2.2.2.1 pc = some (.if_icmp .ne off, 3)) (ht : (pc : Int) + off = (tgt : Int)) (kt : ¬ x = y → aX C M k n (tgt, lv, st, lay, S)) (kf : x = y → aX C M k n (pc + 3, lv, st, lay, S)) : aX C M k n (pc, lv, .int y :: .int x :: st, lay, S) := by
  obtain ⟨g, p, l, e, R, s, m, args, below, meth, c, Q⟩ := C
  obtain ⟨hx, hb, -⟩ := hC
  intro H ls locs hP hz hl hS
  exact lv_icmp_ne hx hb (aDc hT hq) ht (fun h => kt h H ls locs hP hz hl hS) (fun h => kf h H ls locs hP hz hl hS)
theorem aCmp_lt (hC : aCx C M) (hT : aOK M) {x y : Int32} {off : Int} {tgt : Nat} (hq : aLk M.2.2.2.2.2.2.1 pc = some (.if_icmp .lt off, 3)) (ht : (pc : Int) + off = (tgt : Int)) (kt : x < y → aX C M k n (tgt, lv, st, lay, S)) (kf : ¬ x < y → aX C M k n (pc + 3, lv, st, lay, S)) : aX C M k n (pc, lv, .int y :: .int x :: st, lay, S) := by
  obtain ⟨g, p, l, e, R, s, m, args, below, meth, c, Q⟩ := C
  obtain ⟨hx, hb, -⟩ := hC
  intro H ls locs hP hz hl hS
  exact lv_icmp_lt hx hb (aDc hT hq) ht (fun h => kt h H ls locs hP hz hl hS) (fun h => kf h H ls locs hP hz hl hS)
theorem aCmp_ge (hC : aCx C M) (hT : aOK M) {x y : Int32} {off : Int} {tgt : Nat} (hq : aLk M.2.2.2.2.2.2.1 pc = some (.if_icmp .ge off, 3)) (ht : (pc : Int) + off = (tgt : Int)) (kt : y ≤ x → aX C M k n (tgt, lv, st, lay, S)) (kf : ¬ y ≤ x → aX C M k n (pc + 3, lv, st, lay, S)) : aX C M k n (pc, lv, .int y :: .int x :: st, lay, S) := by
  obtain ⟨g, p, l, e, R, s, m, args, below, meth, c, Q⟩ := C
  obtain ⟨hx, hb, -⟩ := hC
  intro H ls locs hP hz hl hS
  exact lv_icmp_ge hx hb (aDc hT hq) ht (fun h => kt h H ls locs hP hz hl hS) (fun h => kf h H ls locs hP hz hl hS)
theorem aCmp_gt (hC : aCx C M) (hT : aOK M) {x y : Int32} {off : Int} {tgt : Nat} (hq : aLk M.2.2.2.2.2.2.1 pc = some (.if_icmp .gt off, 3)) (ht : (pc : Int) + off = (tgt : Int)) (kt : y < x → aX C M k n (tgt, lv, st, lay, S)) (kf : ¬ y < x → aX C M k n (pc + 3, lv, st, lay, S)) : aX C M k n (pc, lv, .int y :: .int x :: st, lay, S) := by
  obtain ⟨g, p, l, e, R, s, m, args, below, meth, c, Q⟩ := C
  obtain ⟨hx, hb, -⟩ := hC
  intro H ls locs hP hz hl hS
  exact lv_icmp_gt hx hb (aDc hT hq) ht (fun h => kt h H ls locs hP hz hl hS) (fun h => kf h H ls locs hP hz hl hS)
theorem aCmp_le (hC : aCx C M) (hT : aOK M) {x y : Int32} {off : Int} {tgt : Nat} (hq : aLk M.2.2.2.2.2.2.1 pc = some (.if_icmp .le off, 3)) (ht : (pc : Int) + off = (tgt : Int)) (kt : x ≤ y → aX C M k n (tgt, lv, st, lay, S)) (kf : ¬ x ≤ y → aX C M k n (pc + 3, lv, st, lay, S)) : aX C M k n (pc, lv, .int y :: .int x :: st, lay, S) := by
  obtain ⟨g, p, l, e, R, s, m, args, below, meth, c, Q⟩ := C
  obtain ⟨hx, hb, -⟩ := hC
  intro H ls locs hP hz hl hS
  exact lv_icmp_le hx hb (aDc hT hq) ht (fun h => kt h H ls locs hP hz hl hS) (fun h => kf h H ls locs hP hz hl hS)
theorem aTsw (hC : aCx C M) (hT : aOK M) {x : Int32} {d lo hi : Int} {offs : Array Int} {len : Nat} {off : Int} {tgt : Nat} (hq : aLk M.2.2.2.2.2.2.1 pc = some (.tableswitch d lo hi offs, len)) (v : Int32) (hv : x = v) (h1 : ¬ v.toInt < lo) (h2 : ¬ hi < v.toInt) (ho : offs[(v.toInt - lo).toNat]? = some off) (ht : (pc : Int) + off = (tgt : Int)) (kk : aX C M k n (tgt, lv, st, lay, S)) : aX C M k n (pc, lv, .int x :: st, lay, S) := by
  obtain ⟨g, p, l, e, R, s, m, args, below, meth, c, Q⟩ := C
  obtain ⟨hx, hb, -⟩ := hC
  intro H ls locs hP hz hl hS
  subst hv
  exact lv_tableIn hx hb (aDc hT hq) h1 h2 ho ht (kk H ls locs hP hz hl hS)
theorem aTswD (hC : aCx C M) (hT : aOK M) {x : Int32} {d lo hi : Int} {offs : Array Int} {len : Nat} {tgt : Nat} (hq : aLk M.2.2.2.2.2.2.1 pc = some (.tableswitch d lo hi offs, len)) (h : x.toInt < lo ∨ hi < x.toInt) (ht : (pc : Int) + d = (tgt : Int)) (kk : aX C M k n (tgt, lv, st, lay, S)) : aX C M k n (pc, lv, .int x :: st, lay, S) := by
  obtain ⟨g, p, l, e, R, s, m, args, below, meth, c, Q⟩ := C
  obtain ⟨hx, hb, -⟩ := hC
  intro H ls locs hP hz hl hS
  exact lv_tableOut hx hb (aDc hT hq) h ht (kk H ls locs hP hz hl hS)
theorem aLsw (hC : aCx C M) (hT : aOK M) {x : Int32} {d : Int} {ps : Array (Int × Int)} {len : Nat} {off : Int} {tgt : Nat} (hq : aLk M.2.2.2.2.2.2.1 pc = some (.lookupswitch d ps, len)) (hp : (ps.toList.zip (ps.toList.drop 1)).all (fun (a, next) => a.1 < next.1) = true) (ho : Op.lookupswitch.offset ps.toList d x.toInt = off) (ht : (pc : Int) + off = (tgt : Int)) (kk : aX C M k n (tgt, lv, st, lay, S)) : aX C M k n (pc, lv, .int x :: st, lay, S) := by
  obtain ⟨g, p, l, e, R, s, m, args, below, meth, c, Q⟩ := C
  obtain ⟨hx, hb, -⟩ := hC
  intro H ls locs hP hz hl hS
  exact lv_lookup hx hb (aDc hT hq) hp ho ht (kk H ls locs hP hz hl hS)
/-- a place of an array -/
def aIx (i : Int32) (N : Nat) : Bool := decide (¬ (i < 0 ∨ N ≤ i.toNatClampNeg))
theorem aIx_in {i : Int32} {N : Nat} (h : aIx i N = true) : vp_in i N := by
  have h1 : ¬ (i < 0 ∨ N ≤ i.toNatClampNeg) := by simpa [aIx] using h
  exact h1
theorem aIald (hC : aCx C M) (hT : aOK M) {i : Int32} {q N : Nat} (hq : aLk M.2.2.2.2.2.2.1 pc = some (.iaload, 1)) (hk : q < 1000) (hly : lay[q]? = some (.inl (0, N))) (hin : aIx i N = true) (kk : aX C M k n (pc + 1, lv, .int (S.2.2 q i.toNatClampNeg) :: st, lay, S)) : aX C M k n (pc, lv, .int i :: .ref q :: st, lay, S) := by
  obtain ⟨g, p, l, e, R, s, m, args, below, meth, c, Q⟩ := C
  obtain ⟨hx, hb, hml, hown, hts, hK, hRo, hbs, hini, hlk, hret, hR⟩ := hC
  intro H ls locs hP hz hl hS
  show W p l e R s m args below meth c H locs k n Q (F0 m pc ls (.int i :: aCv g (.ref q) :: st.map (aCv g)))
  rw [aCvR g hk]
  exact va_iald hx hb hK hP q 0 (aWs_at hly) rfl (aIx_in hin) (aDc hT hq) (kk H ls locs hP hz hl hS)
theorem aIaldT (hC : aCx C M) (hT : aOK M) {i : Int32} (hq : aLk M.2.2.2.2.2.2.1 pc = some (.iaload, 1)) (hin : aIx i 7 = true) (kk : aX C M k n (pc + 1, lv, .int (aTENS.getD i.toNatClampNeg 0) :: st, lay, S)) : aX C M k n (pc, lv, .int i :: .ref 1001 :: st, lay, S) := by
  obtain ⟨g, p, l, e, R, s, m, args, below, meth, c, Q⟩ := C
  obtain ⟨hx, hb, hml, hown, hts, hK, hRo, hbs, hini, hlk, hret, hR⟩ := hC
  intro H ls locs hP hz hl hS
  exact va_ti hx hb hRo.1 hS (aIx_in hin) rfl (aDc hT hq) (kk H ls locs hP hz hl hS)
theorem aZald (hC : aCx C M) (hT : aOK M) {i : Int32} {q N : Nat} (hq : aLk M.2.2.2.2.2.2.1 pc = some (.baload, 1)) (hk : q < 1000) (hly : lay[q]? = some (.inl (1, N))) (hin : aIx i N = true) (kk : aX C M k n (pc + 1, lv, .int (S.2.2 q i.toNatClampNeg) :: st, lay, S)) : aX C M k n (pc, lv, .int i :: .ref q :: st, lay, S) := by
  obtain ⟨g, p, l, e, R, s, m, args, below, meth, c, Q⟩ := C
  obtain ⟨hx, hb, hml, hown, hts, hK, hRo, hbs, hini, hlk, hret, hR⟩ := hC
  intro H ls locs hP hz hl hS
  show W p l e R s m args below meth c H locs k n Q (F0 m pc ls (.int i :: aCv g (.ref q) :: st.map (aCv g)))
  rw [aCvR g hk]
  exact va_zald hx hb hK hP q 1 (aWs_at hly) rfl (aIx_in hin) (aDc hT hq) (kk H ls locs hP hz hl hS)
theorem aBald (hC : aCx C M) (hT : aOK M) {i : Int32} {q : Nat} (hq : aLk M.2.2.2.2.2.2.1 pc = some (.baload, 1)) (h1 : 1011 ≤ q) (h2 : q < 1020) (hin : aIx i (aLen.getD (q - 1011) 0) = true) (kk : aX C M k n (pc + 1, lv, .int ((aByt.getD (q - 1011) []).getD i.toNatClampNeg 0) :: st, lay, S)) : aX C M k n (pc, lv, .int i :: .ref q :: st, lay, S) := by
  obtain ⟨g, p, l, e, R, s, m, args, below, meth, c, Q⟩ := C
  obtain ⟨hx, hb, hml, hown, hts, hK, hRo, hbs, hini, hlk, hret, hR⟩ := hC
  intro H ls locs hP hz hl hS
  show W p l e R s m args below meth c H locs k n Q (F0 m pc ls (.int i :: aCv g (.ref q) :: st.map (aCv g)))
  obtain ⟨hb9, ek⟩ := aRefB g q h1 h2
  rw [ek]
  exact va_tb hx hb (hRo.2.2.2.1.1 (q - 1011) hb9).2.2.2 hS (aIx_in hin) rfl (aDc hT hq) (kk H ls locs hP hz hl hS)
theorem aArr_ws {g : aWg} {lay : aLay} {S : aSt} {q t N : Nat} {f : Nat → Int32} (hly : lay[q]? = some (.inl (t, N))) : (aWs g lay S).set q (g.2.2.1 + q, .inl (g.2.1 t, N, .inl f)) = aWs g lay (aA S q f) := by
  have h2 := aWs_set (g := g) (S := S) (S' := aA S q f) (k := q) (o := .inl (t, N)) (aLay_lt hly) (fun a o' ha => aCell_eq rfl rfl (aA_ne S f ha))
  rw [aLay_set hly] at h2
  have e : aCell g (aA S q f) q (.inl (t, N)) = .inl (g.2.1 t, N, .inl f) := by
    unfold aCell
    rw [aA_at]
  rw [e] at h2
  exact h2
theorem aIast (hC : aCx C M) (hT : aOK M) {i x : Int32} {q N : Nat} (hq : aLk M.2.2.2.2.2.2.1 pc = some (.iastore, 1)) (hk : q < 1000) (hly : lay[q]? = some (.inl (0, N))) (hin : aIx i N = true) (kk : aX C M k n (pc + 1, lv, st, lay, aA S q (upd (S.2.2 q) i.toNatClampNeg x))) : aX C M k n (pc, lv, .int x :: .int i :: .ref q :: st, lay, S) := by
  obtain ⟨g, p, l, e, R, s, m, args, below, meth, c, Q⟩ := C
  obtain ⟨hx, hb, hml, hown, hts, hK, hRo, hbs, hini, hlk, hret, hR⟩ := hC
  intro H ls locs hP hz hl hS
  show W p l e R s m args below meth c H locs k n Q (F0 m pc ls (.int x :: .int i :: aCv g (.ref q) :: st.map (aCv g)))
  rw [aCvR g hk]
  refine aIastW hx hb hK hP (aD g lay S) hS q 0 (aWs_at hly) rfl (aIx_in hin) (aDc hT hq) (fun H1 locs1 hP1 hz1 hS1 => ?_)
  rw [aArr_ws hly] at hP1
  exact kk H1 ls locs1 hP1 (hz1.trans hz) hl hS1
theorem aZast (hC : aCx C M) (hT : aOK M) {i x : Int32} {q N : Nat} (hq : aLk M.2.2.2.2.2.2.1 pc = some (.bastore, 1)) (hk : q < 1000) (hly : lay[q]? = some (.inl (1, N))) (hin : aIx i N = true) (hxx : x = 0 ∨ x = 1) (kk : aX C M k n (pc + 1, lv, st, lay, aA S q (upd (S.2.2 q) i.toNatClampNeg x))) : aX C M k n (pc, lv, .int x :: .int i :: .ref q :: st, lay, S) := by
  obtain ⟨g, p, l, e, R, s, m, args, below, meth, c, Q⟩ := C
  obtain ⟨hx, hb, hml, hown, hts, hK, hRo, hbs, hini, hlk, hret, hR⟩ := hC
  intro H ls locs hP hz hl hS
  show W p l e R s m args below meth c H locs k n Q (F0 m pc ls (.int x :: .int i :: aCv g (.ref q) :: st.map (aCv g)))
  rw [aCvR g hk]
  refine aZastW hx hb hK hP (aD g lay S) hS q 1 (aWs_at hly) rfl (aIx_in hin) (by rcases hxx with rfl | rfl <;> decide) (aDc hT hq) (fun H1 locs1 hP1 hz1 hS1 => ?_)
  rw [aArr_ws hly] at hP1
  exact kk H1 ls locs1 hP1 (hz1.trans hz) hl hS1
theorem aLdiv (hC : aCx C M) (hT : aOK M) {x y : Int64} (hq : aLk M.2.2.2.2.2.2.1 pc = some (.ldiv, 1)) (hy : ¬ y = 0) (kk : aX C M k n (pc + 1, lv, .long (x / y) :: st, lay, S)) : aX C M k n (pc, lv, .long y :: .long x :: st, lay, S) := by
  obtain ⟨g, p, l, e, R, s, m, args, below, meth, c, Q⟩ := C
  obtain ⟨hx, hb, -⟩ := hC
  intro H ls locs hP hz hl hS
  exact lv_ldiv hx hb (aDc hT hq) hy (kk H ls locs hP hz hl hS)
theorem aLrem (hC : aCx C M) (hT : aOK M) {x y : Int64} (hq : aLk M.2.2.2.2.2.2.1 pc = some (.lrem, 1)) (hy : ¬ y = 0) (kk : aX C M k n (pc + 1, lv, .long (x - x / y * y) :: st, lay, S)) : aX C M k n (pc, lv, .long y :: .long x :: st, lay, S) := by
  obtain ⟨g, p, l, e, R, s, m, args, below, meth, c, Q⟩ := C
  obtain ⟨hx, hb, -⟩ := hC
  intro H ls locs hP hz hl hS
  exact lv_lrem hx hb (aDc hT hq) hy (kk H ls locs hP hz hl hS)
theorem aIdiv (hC : aCx C M) (hT : aOK M) {x y : Int32} (hq : aLk M.2.2.2.2.2.2.1 pc = some (.idiv, 1)) (hy : ¬ y = 0) (kk : aX C M k n (pc + 1, lv, .int (x / y) :: st, lay, S)) : aX C M k n (pc, lv, .int y :: .int x :: st, lay, S) := by
  obtain ⟨g, p, l, e, R, s, m, args, below, meth, c, Q⟩ := C
  obtain ⟨hx, hb, -⟩ := hC
  intro H ls locs hP hz hl hS
  exact lv_idiv hx hb (aDc hT hq) hy (kk H ls locs hP hz hl hS)
theorem aIrem (hC : aCx C M) (hT : aOK M) {x y : Int32} (hq : aLk M.2.2.2.2.2.2.1 pc = some (.irem, 1)) (hy : ¬ y = 0) (kk : aX C M k n (pc + 1, lv, .int (x - x / y * y) :: st, lay, S)) : aX C M k n (pc, lv, .int y :: .int x :: st, lay, S) := by
  obtain ⟨g, p, l, e, R, s, m, args, below, meth, c, Q⟩ := C
  obtain ⟨hx, hb, -⟩ := hC
  intro H ls locs hP hz hl hS
  exact lv_irem hx hb (aDc hT hq) hy (kk H ls locs hP hz hl hS)
end AB
/-! results -/
def aQc (g : aWg) (r : Option Value) (lay : aLay) (S : aSt) : Array Value → State → Outcome → State → Prop := fun _ st o t => o = .returned (r.map (aCv g)) ∧ va_P g.1 vwCl (aWs g lay S) t.heap ∧ t.heap.size = g.2.2.1 + lay.length ∧ va_F (aAg g) st t
def aFin (C : aC) (r : Option Value) (lay : aLay) (S : aSt) (k n : Nat) : Prop := match C with
  | (g, _p, _l, _e, _R, s, _m, args, below, _meth, _c, Q) => Q = MQ below (aQc g r lay S) args s k n (aAg g)
section AR
variable {C : aC} {M : aM} {k n pc : Nat} {lv : List (Nat × Value)} {lay : aLay} {S : aSt}
theorem aRetV (hC : aCx C M) (hT : aOK M) (hF : aFin C none lay S k n) (hr : M.2.2.2.2.1 = none) (hq : aLk M.2.2.2.2.2.2.1 pc = some (.return_, 1)) : aX C M k n (pc, lv, [], lay, S) := by
  obtain ⟨g, p, l, e, R, s, m, args, below, meth, c, Q⟩ := C
  obtain ⟨hx, hb, hml, hown, hts, hK, hRo, hbs, hini, hlk, hret, hR⟩ := hC
  intro H ls locs hP hz hl hS
  cases hF
  exact W.vret hx hb (hret.trans hr) (fun t ht hW => ⟨rfl, by rw [ht]; exact hP, by rw [ht]; exact hz, hS.F ht⟩) hS.2.2 (aDc hT hq) hlk
theorem aRetI (hC : aCx C M) (hT : aOK M) {v : Int32} (hF : aFin C (some (.int v)) lay S k n) (hr : M.2.2.2.2.1 = some .int) (hq : aLk M.2.2.2.2.2.2.1 pc = some (.ireturn, 1)) : aX C M k n (pc, lv, [.int v], lay, S) := by
  obtain ⟨g, p, l, e, R, s, m, args, below, meth, c, Q⟩ := C
  obtain ⟨hx, hb, hml, hown, hts, hK, hRo, hbs, hini, hlk, hret, hR⟩ := hC
  intro H ls locs hP hz hl hS
  cases hF
  exact W.iret hx hb (hret.trans hr) (fun t ht hW => ⟨rfl, by rw [ht]; exact hP, by rw [ht]; exact hz, hS.F ht⟩) hS.2.2 (aDc hT hq) hlk
theorem aRetL (hC : aCx C M) (hT : aOK M) {v : Int64} (hF : aFin C (some (.long v)) lay S k n) (hr : M.2.2.2.2.1 = some .long) (hq : aLk M.2.2.2.2.2.2.1 pc = some (.lreturn, 1)) : aX C M k n (pc, lv, [.long v], lay, S) := by
  obtain ⟨g, p, l, e, R, s, m, args, below, meth, c, Q⟩ := C
  obtain ⟨hx, hb, hml, hown, hts, hK, hRo, hbs, hini, hlk, hret, hR⟩ := hC
  intro H ls locs hP hz hl hS
  cases hF
  exact W.lret hx hb (hret.trans hr) (fun t ht hW => ⟨rfl, by rw [ht]; exact hP, by rw [ht]; exact hz, hS.F ht⟩) hS.2.2 (aDc hT hq) hlk
theorem aRetZ (hC : aCx C M) (hT : aOK M) {v : Int32} {ty : FieldType} (hF : aFin C (some (.int v)) lay S k n) (hr : M.2.2.2.2.1 = some ty) (hn : narrow ty (.int v) = .int v) (hq : aLk M.2.2.2.2.2.2.1 pc = some (.ireturn, 1)) : aX C M k n (pc, lv, [.int v], lay, S) := by
  obtain ⟨g, p, l, e, R, s, m, args, below, meth, c, Q⟩ := C
  obtain ⟨hx, hb, hml, hown, hts, hK, hRo, hbs, hini, hlk, hret, hR⟩ := hC
  intro H ls locs hP hz hl hS
  cases hF
  exact W.zret hx hb (hret.trans hr) hn (fun t ht hW => ⟨rfl, by rw [ht]; exact hP, by rw [ht]; exact hz, hS.F ht⟩) hS.2.2 (aDc hT hq) hlk
theorem aRetB (hC : aCx C M) (hT : aOK M) {v : Int32} (hF : aFin C (some (.int v)) lay S k n) (hr : M.2.2.2.2.1 = some .boolean) (hv : v = 0 ∨ v = 1) (hq : aLk M.2.2.2.2.2.2.1 pc = some (.ireturn, 1)) : aX C M k n (pc, lv, [.int v], lay, S) :=
  aRetZ hC hT hF hr (by rcases hv with rfl | rfl <;> decide) hq
end AR
/-! a contract: from layout and contents, with these arguments, the method returns this and leaves these -/
def aPc (g : aWg) (as : List Value) (lay : aLay) (S : aSt) : Array Value → State → Prop := va_Pc (as.map (aCv g)) (fun U => va_P g.1 vwCl (aWs g lay S) U.heap ∧ U.heap.size = g.2.2.1 + lay.length ∧ va_K g.1 vwCl (aTy g) U ∧ aRo g U U.heap)
def aJ (l : Launch) (g : aWg) (y : MethodName) (M : aM) (as : List Value) (lay : aLay) (S : aSt) (r : Option Value) (lay' : aLay) (S' : aSt) (k n : Nat) : Prop :=
  Met l y (Cond.code y M.2.1 M.2.2.1 M.2.2.2.2.1 :: aBase) M.2.2.2.2.2.1 (aPc g as lay S) (aQc g r lay' S') k n (aAg g)
theorem aCvArgs (g : aWg) (as : List Value) : ∀ i : Nat, lv_args i (as.map (aCv g)) = (lv_args i as).map (aCq g) := by
  induction as with
  | nil => intro i; rfl
  | cons v as ih =>
    intro i
    simp only [List.map_cons, lv_args, aCv_cat, ih]
    rfl
theorem aSlLen (g : aWg) (as : List Value) : (lg_sl (as.map (aCv g))).length = (lg_sl as).length := by
  induction as with
  | nil => rfl
  | cons v as ih =>
    simp only [lg_sl, List.map_cons, List.flatMap_cons, List.length_append, aCv_cat] at ih ⊢
    rw [ih]
    split <;> rfl
def aSz (C : aC) (len : Nat) : Prop := C.2.2.2.2.2.1.heap.size = C.1.2.2.1 + len
theorem aJ_of {l : Launch} {g : aWg} {y : MethodName} {M : aM} {as : List Value} {lay lay' : aLay} {S S' : aSt} {r : Option Value} {k n : Nat} (hy : plainName y.cls = true) (hMy : y.cls = M.1) (hsl : (lg_sl as).length ≤ M.2.2.1) (hini : M.2.2.2.1 = true → y.name = "<init>")
    (body : ∀ C : aC, C.1 = g → C.2.2.1 = l → aCx C M → aSz C lay.length → aFin C r lay' S' k n → aX C M 0 0 (0, lv_args 0 as, [], lay, S)) : aJ l g y M as lay S r lay' S' k n := by
  refine Met.ofW (cc := M.2.1) (maxL := M.2.2.1) (ret := M.2.2.2.2.1) hy rfl ?_
  intro p e s m args below meth c s₁ B hml hv
  obtain ⟨rfl, hP, hz, hK, hRo⟩ := hv
  have hts0 := atoms_spec (ws := Cond.code y M.2.1 M.2.2.1 M.2.2.2.2.1 :: aBase) B.pre
  have hts : ∀ w ∈ aBase, w.before (as.map (aCv g)).toArray s = true := fun w hw => hts0 w (List.mem_cons_of_mem _ hw)
  have hown : s.vm.findClass M.1 = some m.cls := by rw [← hMy]; exact findClass_of_methodNamed B.named
  have hin : meth.name = y.name := (name_of_methodNamed B.named B.method).1
  have hl := lv_entry (as.map (aCv g)) (n := M.2.2.1) (by rw [aSlLen]; exact hsl)
  rw [lg_entry_eq]
  rw [aCvArgs] at hl
  exact body (g, p, l, e, M.2.2.2.2.2.1, s, m, (as.map (aCv g)).toArray, below, meth, c, _) rfl rfl ⟨B.exec, B.bytes, hml, hown, hts, hK, hRo, by rw [hz]; exact Nat.le_add_right _ _, fun h => hin.trans (hini h), B.notSynchronized, B.returns, rfl⟩ hz rfl s.heap _ [] hP hz hl va_S.rf
/-! calls -/
theorem aGoodIn {y : MethodName} {cc : ByteArray} {nL : Nat} {ret : Option FieldType} (h : Cond.code y cc nL ret ∈ aBase) : GoodIn aBase (Cond.code y cc nL ret :: aBase) := by
  intro w hw
  have hm : w ∈ aBase := by
    rcases List.mem_cons.mp hw with rfl | hw
    · exact h
    · exact hw
  exact ⟨hm, good_of_word (List.mem_filter.mp hm).2⟩
/-- what the tables say of a call: places of methodLink, initialized, code; the callee's arguments; room -/
def aCO (M M' : aM) (idx : Nat) (y : MethodName) (p1 p2 p3 na : Nat) : Prop :=
  lw_tbl[p1]? = some (.methodLink M.1 idx y) ∧ lw_tbl[p2]? = some (.initialized y.cls) ∧ lw_tbl[p3]? = some (.code y M'.2.1 M'.2.2.1 M'.2.2.2.2.1) ∧
  (y.cls ≠ "java/lang/invoke/MethodHandle" ∧ y.cls ≠ "java/lang/invoke/VarHandle" ∧ (parseMethodDescriptor y.desc).map (fun d => d.parameters.length) = some na) ∧
  (M'.2.2.2.2.2.1.frames + 1 ≤ M.2.2.2.2.2.1.frames ∧ 8 + (M'.2.2.1 + 11) + M'.2.2.2.2.2.1.locals ≤ M.2.2.2.2.2.1.locals)
theorem aBlind (g : aWg) (as : List Value) (lay : aLay) (S : aSt) : FrameBlind (aPc g as lay S) := by
  intro a U fr mk h
  obtain ⟨q, hP, hz, hK, hRo⟩ := h
  exact ⟨q, hP, hz, va_K.moved (u := U) (U := U.calling fr mk a) (Vm.Alike.refl U.vm) hK, hRo.same rfl⟩
section AC
variable {C : aC} {M M' : aM} {k n k' n' pc idx p1 p2 p3 na : Nat} {y : MethodName} {lv : List (Nat × Value)} {lay lay' : aLay} {S S' : aSt} {r : Option Value} {rest As : List Value} {b : Nat}
theorem aFromRun {g : aWg} {p : Program} {l : Launch} {e : Env} {R : Room} {s : State} {m : MethodId} {args : Array Value} {below : List Frame} {meth : Method} {c : Code} {Q : State → Prop} {H : Heap} {ls : Array Slot} {locs : List Loc} {st : List Value}
    (hr : va_Run p l e R s m args below meth c H locs k n k' n' (F0 m pc ls st) (rest.map (aCv g)) (aQc g r lay' S' #[]) (aAg g)) (hS : va_S (aAg g) s.heap H locs) (hl : lv_has ls M.2.2.1 (lv.map (aCq g)))
    (kk : aX (g, p, l, e, R, s, m, args, below, meth, c, Q) M (k + k') (n + n') (pc + 3, lv, r.toList ++ rest, lay', S')) : W p l e R s m args below meth c H locs k n Q (F0 m pc ls st) := by
  intro T hT X
  obtain ⟨v, st₀, t, T', L, h0, X', hL, e1, e2, ⟨hv, hP, hz, hF⟩, hst⟩ := hr T hT X
  cases hv
  obtain ⟨hz0, hk0⟩ := hF
  rw [h0] at hz0 hk0
  have hS1 : va_S (aAg g) s.heap T'.heap (locs ++ L) := ⟨Nat.le_trans hS.1 (by rw [e1]; exact hz0), fun q h1 h2 => by rw [e1, hk0 q (Nat.lt_of_lt_of_le h1 hS.1) h2]; exact hS.2.1 q h1 h2, fun q hq => by
      rcases List.mem_append.mp hq with h | h
      · exact hS.2.2 q h
      · exact hL q h⟩
  have k1 := kk T'.heap ls (locs ++ L) (by rw [e1]; exact hP) (by rw [e1]; exact hz) hl hS1
  have est : (r.toList ++ rest).map (aCv g) = (r.map (aCv g)).toList ++ rest.map (aCv g) := by cases r <;> rfl
  dsimp only at k1
  rw [est] at k1
  obtain ⟨t2, a1, b1⟩ := k1 T' rfl X'
  exact ⟨t2, hst t2 a1, b1⟩
theorem aCat (g : aWg) (rest : List Value) : ((rest.map (aCv g)).map fun v => v.category) = rest.map fun v => v.category := by
  simp [List.map_map, Function.comp_def, aCv_cat]
/-- a static method of any class -/
theorem aCallS (hC : aCx C M) (hT : aOK M) (hq : aLk M.2.2.2.2.2.2.1 pc = some (.invokestatic idx, 3)) (hO : aCO M M' idx y p1 p2 p3 na) (p4 : Nat) (h4 : lw_tbl[p4]? = some (.static y)) (hn : As.length = na) (hrs : (rest.map fun v => v.category).sum ≤ 8)
    (hrm : M'.2.2.2.2.2.1.cells = k' ∧ M'.2.2.2.2.2.1.slots = n' ∧ k + k' ≤ M.2.2.2.2.2.1.cells ∧ n + n' ≤ M.2.2.2.2.2.1.slots)
    (hJ : aJ C.2.2.1 C.1 y M' As lay S r lay' S' k' n') (kk : aX C M (k + k') (n + n') (pc + 3, lv, r.toList ++ rest, lay', S')) : aX C M k n (pc, lv, As.reverse ++ rest, lay, S) := by
  obtain ⟨g, p, l, e, R, s, m, args, below, meth, c, Q⟩ := C
  obtain ⟨hx, hb, hml, hown, hts, hK, hRo, hbs, hini, hlk, hret, hR⟩ := hC
  obtain ⟨o1, o2, o3, o4, o5⟩ := hO
  intro H ls locs hP hz hl hS
  subst hR
  have hcode := aTb o3 rfl
  have hst : (As.reverse ++ rest).map (aCv g) = (As.map (aCv g)).reverse ++ rest.map (aCv g) := by rw [List.map_append, List.map_reverse]
  dsimp only
  rw [hst]
  have cb := callB_of (R := M.2.2.2.2.2.1) (mc := k') (ms := n') na hts (aGoodIn hcode) rfl hrm.1 hrm.2.1 (aTw hts o2) (aTw hts o1) o4 o5
  refine aFromRun (M := M) (lay' := lay') (S' := S') (va_runS (As := As.map (aCv g)) (rest := rest.map (aCv g)) ⟨hx, hb, hml, hown, hts⟩ hJ ⟨cb, aTw hts h4⟩ ⟨aBlind g As lay S, fun U hU hW => ⟨rfl, by rw [hU]; exact hP, by rw [hU]; exact hz, va_K.moved hW.alike hK, by rw [hU]; exact hRo.on hS hW⟩⟩ rfl (by rw [List.length_map]; exact hn) hl.1 rfl (lv_room (by rw [aCat]; exact hrs)) (aDc hT hq) ⟨hrm.2.2.1, hrm.2.2.2⟩) hS hl kk
/-- an instance method, private or not, of an object of the run's -/
theorem aCallV (hC : aCx C M) (hT : aOK M) (hq : aLk M.2.2.2.2.2.2.1 pc = some (.invokevirtual idx, 3)) (hO : aCO M M' idx y p1 p2 p3 na) (p4 p5 : Nat) (h4 : lw_tbl[p4]? = some (.instanceMethod y) ∧ lw_tbl[p5]? = some (.selects y.cls y y)) {ci : Nat} {fs : List (Nat × Nat)} (hb1 : b < 1000) (hrc : lay[b]? = some (.inr (ci, fs))) (hcl : (vwCl[ci]?).map (fun q => q.1) = some y.cls) (hn : As.length = na) (hrs : (rest.map fun v => v.category).sum ≤ 8)
    (hrm : M'.2.2.2.2.2.1.cells = k' ∧ M'.2.2.2.2.2.1.slots = n' ∧ k + k' ≤ M.2.2.2.2.2.1.cells ∧ n + n' ≤ M.2.2.2.2.2.1.slots)
    (hJ : aJ C.2.2.1 C.1 y M' (.ref b :: As) lay S r lay' S' k' n') (kk : aX C M (k + k') (n + n') (pc + 3, lv, r.toList ++ rest, lay', S')) : aX C M k n (pc, lv, As.reverse ++ .ref b :: rest, lay, S) := by
  obtain ⟨g, p, l, e, R, s, m, args, below, meth, c, Q⟩ := C
  obtain ⟨hx, hb, hml, hown, hts, hK, hRo, hbs, hini, hlk, hret, hR⟩ := hC
  obtain ⟨o1, o2, o3, o4, o5⟩ := hO
  intro H ls locs hP hz hl hS
  subst hR
  have hcode := aTb o3 rfl
  have hst : (As.reverse ++ .ref b :: rest).map (aCv g) = (As.map (aCv g)).reverse ++ .ref (g.2.2.1 + b) :: rest.map (aCv g) := by rw [List.map_append, List.map_reverse, List.map_cons, aCvR g hb1]
  dsimp only
  rw [hst]
  obtain ⟨⟨cn, cT, cN⟩, hcq, hce⟩ : ∃ q, vwCl[ci]? = some q ∧ q.1 = y.cls := by
    cases hq2 : vwCl[ci]? with
    | none => rw [hq2] at hcl; cases hcl
    | some q => rw [hq2] at hcl; exact ⟨q, rfl, Option.some.inj hcl⟩
  have hrv := va_recv hK hP hcq (aWs_at hrc)
  rw [show ((cn, cT, cN) : vw_C).1 = y.cls from hce] at hrv
  have cb := callB_of (R := M.2.2.2.2.2.1) (mc := k') (ms := n') na hts (aGoodIn hcode) rfl hrm.1 hrm.2.1 (aTw hts o2) (aTw hts o1) o4 o5
  have hpc : ∀ U : State, U.heap = H → s.WarmedH U.vm → aPc g (.ref b :: As) lay S (Value.ref (g.2.2.1 + b) :: As.map (aCv g)).toArray U := fun U hU hW => ⟨by rw [List.map_cons, aCvR g hb1], by rw [hU]; exact hP, by rw [hU]; exact hz, va_K.moved hW.alike hK, by rw [hU]; exact hRo.on hS hW⟩
  refine aFromRun (M := M) (lay' := lay') (S' := S') (va_runV (As := As.map (aCv g)) (rest := rest.map (aCv g)) ⟨hx, hb, hml, hown, hts⟩ hJ ⟨cb, aTw hts h4.1, aTw hts h4.2⟩ ⟨aBlind g _ lay S, hrv, hpc⟩ rfl (by rw [List.length_map]; exact hn) hl.1 rfl (lv_room (by rw [aCat]; exact hrs)) (aDc hT hq) ⟨hrm.2.2.1, hrm.2.2.2⟩) hS hl kk
/-- an instance method of one of the nine words -/
theorem aCallW (hC : aCx C M) (hT : aOK M) (hq : aLk M.2.2.2.2.2.2.1 pc = some (.invokevirtual idx, 3)) (hO : aCO M M' idx y p1 p2 p3 na) (p4 p5 : Nat) (h4 : lw_tbl[p4]? = some (.instanceMethod y) ∧ lw_tbl[p5]? = some (.selects y.cls y y)) (hb1 : 1002 ≤ b ∧ b < 1011) (hcl : y.cls = "java/lang/String") (hn : As.length = na) (hrs : (rest.map fun v => v.category).sum ≤ 8)
    (hrm : M'.2.2.2.2.2.1.cells = k' ∧ M'.2.2.2.2.2.1.slots = n' ∧ k + k' ≤ M.2.2.2.2.2.1.cells ∧ n + n' ≤ M.2.2.2.2.2.1.slots)
    (hJ : aJ C.2.2.1 C.1 y M' (.ref b :: As) lay S r lay' S' k' n') (kk : aX C M (k + k') (n + n') (pc + 3, lv, r.toList ++ rest, lay', S')) : aX C M k n (pc, lv, As.reverse ++ .ref b :: rest, lay, S) := by
  obtain ⟨g, p, l, e, R, s, m, args, below, meth, c, Q⟩ := C
  obtain ⟨hx, hb, hml, hown, hts, hK, hRo, hbs, hini, hlk, hret, hR⟩ := hC
  obtain ⟨o1, o2, o3, o4, o5⟩ := hO
  intro H ls locs hP hz hl hS
  subst hR
  have hcode := aTb o3 rfl
  obtain ⟨hb9, ek, -⟩ := aRefS g b hb1.1 hb1.2
  have hst : (As.reverse ++ .ref b :: rest).map (aCv g) = (As.map (aCv g)).reverse ++ .ref (g.2.2.2 (2 + (b - 1002))) :: rest.map (aCv g) := by rw [List.map_append, List.map_reverse, List.map_cons, ek]
  dsimp only
  rw [hst]
  have hrv := vk_recv hRo.2.2.2.1 hb9 hS
  rw [← hcl] at hrv
  have cb := callB_of (R := M.2.2.2.2.2.1) (mc := k') (ms := n') na hts (aGoodIn hcode) rfl hrm.1 hrm.2.1 (aTw hts o2) (aTw hts o1) o4 o5
  have hpc : ∀ U : State, U.heap = H → s.WarmedH U.vm → aPc g (.ref b :: As) lay S (Value.ref (g.2.2.2 (2 + (b - 1002))) :: As.map (aCv g)).toArray U := fun U hU hW => ⟨by rw [List.map_cons, ek], by rw [hU]; exact hP, by rw [hU]; exact hz, va_K.moved hW.alike hK, by rw [hU]; exact hRo.on hS hW⟩
  refine aFromRun (M := M) (lay' := lay') (S' := S') (va_runV (As := As.map (aCv g)) (rest := rest.map (aCv g)) ⟨hx, hb, hml, hown, hts⟩ hJ ⟨cb, aTw hts h4.1, aTw hts h4.2⟩ ⟨aBlind g _ lay S, hrv, hpc⟩ rfl (by rw [List.length_map]; exact hn) hl.1 rfl (lv_room (by rw [aCat]; exact hrs)) (aDc hT hq) ⟨hrm.2.2.1, hrm.2.2.2⟩) hS hl kk
/-- a constructor -/
theorem aCallI (hC : aCx C M) (hT : aOK M) (hq : aLk M.2.2.2.2.2.2.1 pc = some (.invokespecial idx, 3)) (hO : aCO M M' idx y p1 p2 p3 na) (p4 : Nat) (h4 : lw_tbl[p4]? = some (.instanceMethod y)) (hyn : y.name = "<init>") (hret2 : M'.2.2.2.2.1 = none) (hb1 : b < 1000) (hn : As.length = na) (hrs : (rest.map fun v => v.category).sum ≤ 8)
    (hrm : M'.2.2.2.2.2.1.cells = k' ∧ M'.2.2.2.2.2.1.slots = n' ∧ k + k' ≤ M.2.2.2.2.2.1.cells ∧ n + n' ≤ M.2.2.2.2.2.1.slots)
    (hJ : aJ C.2.2.1 C.1 y M' (.ref b :: As) lay S r lay' S' k' n') (kk : aX C M (k + k') (n + n') (pc + 3, lv, r.toList ++ rest, lay', S')) : aX C M k n (pc, lv, As.reverse ++ .ref b :: rest, lay, S) := by
  obtain ⟨g, p, l, e, R, s, m, args, below, meth, c, Q⟩ := C
  obtain ⟨hx, hb, hml, hown, hts, hK, hRo, hbs, hini, hlk, hret, hR⟩ := hC
  obtain ⟨o1, o2, o3, o4, o5⟩ := hO
  intro H ls locs hP hz hl hS
  subst hR
  rw [hret2] at o3
  unfold aJ at hJ
  rw [hret2] at hJ
  have hcode := aTb o3 rfl
  have hst : (As.reverse ++ .ref b :: rest).map (aCv g) = (As.map (aCv g)).reverse ++ .ref (g.2.2.1 + b) :: rest.map (aCv g) := by rw [List.map_append, List.map_reverse, List.map_cons, aCvR g hb1]
  dsimp only
  rw [hst]
  have cb := callB_of (R := M.2.2.2.2.2.1) (mc := k') (ms := n') na hts (aGoodIn hcode) rfl hrm.1 hrm.2.1 (aTw hts o2) (aTw hts o1) o4 o5
  have hpc : ∀ U : State, U.heap = H → s.WarmedH U.vm → aPc g (.ref b :: As) lay S (Value.ref (g.2.2.1 + b) :: As.map (aCv g)).toArray U := fun U hU hW => ⟨by rw [List.map_cons, aCvR g hb1], by rw [hU]; exact hP, by rw [hU]; exact hz, va_K.moved hW.alike hK, by rw [hU]; exact hRo.on hS hW⟩
  refine aFromRun (M := M) (lay' := lay') (S' := S') (va_runI (As := As.map (aCv g)) (rest := rest.map (aCv g)) ⟨hx, hb, hml, hown, hts⟩ hJ ⟨cb, hyn, aTw hts h4⟩ ⟨aBlind g _ lay S, hpc⟩ rfl (by rw [List.length_map]; exact hn) hl.1 rfl (lv_room (by rw [aCat]; exact hrs)) (aDc hT hq) ⟨hrm.2.2.1, hrm.2.2.2⟩) hS hl kk
end AC
/-! new cells -/
def aKd (ty : FieldType) : Nat × Nat := match ty with
  | .long => (2, 0)
  | .object _ => (0, 0)
  | .array _ => (0, 0)
  | _ => (1, 0)
def aFt (T : u_T) (j : Nat) : FieldType := (parseFieldDescriptor (T j).2.2.1).getD .int
def aKinds (T : u_T) (N : Nat) : List (Nat × Nat) := (List.range N).map (fun j => aKd (aFt T j))
theorem aClr_ne (S : aSt) {k a : Nat} (h : a ≠ k) : (aClr S k).1 a = S.1 a ∧ (aClr S k).2.1 a = S.2.1 a ∧ (aClr S k).2.2 a = S.2.2 a := by simp [aClr, h]
theorem aWs_push (g : aWg) (lay : aLay) (S : aSt) (o : aSh) : aWs g (lay ++ [o]) (aClr S lay.length) = aWs g lay S ++ [(g.2.2.1 + lay.length, aCell g (aClr S lay.length) lay.length o)] := by
  apply List.ext_getElem?
  intro i
  rw [aWs_get]
  by_cases hi : i < lay.length
  · rw [List.getElem?_append_left hi, List.getElem?_append_left (by rw [aWs_len]; exact hi), aWs_get]
    obtain ⟨h1, h2, h3⟩ := aClr_ne S (k := lay.length) (a := i) (by omega)
    cases lay[i]? with
    | none => rfl
    | some o' => simp only [Option.map_some, aCell_eq (g := g) (o := o') h1 h2 h3]
  · rw [List.getElem?_append_right (by omega), List.getElem?_append_right (by rw [aWs_len]; omega), aWs_len]
    by_cases hj : i = lay.length
    · subst hj
      simp
    · have h0 : i - lay.length = (i - lay.length - 1) + 1 := by omega
      rw [h0]
      simp
theorem aP_push {g : aWg} {lay : aLay} {S : aSt} {H H1 : Heap} {o : aSh} (hP : va_P g.1 vwCl (aWs g lay S) H) (hz : H.size = g.2.2.1 + lay.length) (hk : ∀ q, q < H.size → H1[q]? = H[q]?) (hn : va_at g.1 vwCl (g.2.2.1 + lay.length, aCell g (aClr S lay.length) lay.length o) H1) : va_P g.1 vwCl (aWs g (lay ++ [o]) (aClr S lay.length)) H1 := by
  rw [aWs_push]
  refine va_P.app (hP.kept (fun k x hx => hk x.1 (hP k x hx).lt)) (fun k x hx => ?_)
  have hz1 : k < 1 := (List.getElem?_eq_some_iff.mp hx).1
  rw [show k = 0 by omega] at hx
  cases hx
  exact hn
section AN
variable {C : aC} {M : aM} {k n pc idx p1 p2 p3 : Nat} {lv : List (Nat × Value)} {st : List Value} {lay : aLay} {S : aSt}
theorem aNew (hC : aCx C M) (hT : aOK M) (hq : aLk M.2.2.2.2.2.2.1 pc = some (.new idx, 3)) {ci : Nat} {cn : String} {T : u_T} {N : Nat} (hc : vwCl[ci]? = some (cn, T, N)) (h1 : lw_tbl[p1]? = some (.classLink M.1 idx cn)) (h2 : lw_tbl[p2]? = some (.instantiable cn N)) (h3 : lw_tbl[p3]? = some (.initialized cn))
    (hf : (List.range N).all (fun j => defaultValue (aFt T j) == aFv ((fun _ _ => 0, fun _ _ => 0, fun _ _ => 0) : aSt) 0 j (aKd (aFt T j))) = true) (hrm : k + 1 ≤ M.2.2.2.2.2.1.cells ∧ n + N ≤ M.2.2.2.2.2.1.slots) (hlen : lay.length < 1000)
    (kk : aX C M (k + 1) (n + N) (pc + 3, lv, .ref lay.length :: st, lay ++ [.inr (ci, aKinds T N)], aClr S lay.length)) : aX C M k n (pc, lv, st, lay, S) := by
  obtain ⟨g, p, l, e, R, s, m, args, below, meth, c, Q⟩ := C
  obtain ⟨hx, hb, hml, hown, hts, hK, hRo, hbs, hini, hlk, hret, hR⟩ := hC
  intro H ls locs hP hz hl hS
  subst hR
  have hKn := hK.1 ci _ hc
  have hcm := aCls _ (List.mem_of_getElem? hc)
  refine W.newcK hx hb hown (aTw hts h1) (aTw hts h2) (aTw hts h3) rfl (aDc hT hq) hrm.1 hrm.2 hKn.2.1 hz fun H1 kC hkC e1 z1 o1 => ?_
  have hP1 : va_P g.1 vwCl (aWs g (lay ++ [.inr (ci, aKinds T N)]) (aClr S lay.length)) H1 := by
    refine aP_push hP hz (fun q hq => o1 q (by rw [← hz]; exact hq)) ⟨_, hc, (u_born (aFt T) hts hcm.1 hKn hkC e1 hcm.2.1).to (fun j hj => ?_)⟩
    have hf1 := List.all_eq_true.mp hf j (List.mem_range.mpr hj)
    have hf2 : defaultValue (aFt T j) = aFv ((fun _ _ => 0, fun _ _ => 0, fun _ _ => 0) : aSt) 0 j (aKd (aFt T j)) := by simpa using hf1
    have hg1 : (aKinds T N)[j]? = some (aKd (aFt T j)) := by simp [aKinds, hj]
    have hg2 := aObj_get (g := g) (S := aClr S lay.length) (k := lay.length) hg1
    show _ = vp_V _ j
    unfold vp_V
    rw [List.getD_eq_getElem?_getD]
    rw [hg2, hf2]
    generalize hkd : aKd (aFt T j) = kd
    cases hty : aFt T j <;> rw [hty] at hkd <;> subst hkd <;> simp [aKd, aFv, aCv, aClr]
  have k1 := kk H1 ls locs hP1 (by rw [z1]; simp [Nat.add_assoc]) hl ⟨Nat.le_trans hS.1 (by rw [z1, hz]; exact Nat.le_succ _), fun x h4 h5 => (o1 x (by have h6 := hS.1; rw [hz] at h6; exact Nat.lt_of_lt_of_le h4 h6)).trans (hS.2.1 x h4 h5), hS.2.2⟩
  dsimp only at k1
  rw [List.map_cons, aCvR g hlen] at k1
  exact k1
theorem aNewA (hC : aCx C M) (hT : aOK M) {at_ : ArrayType} (hq : aLk M.2.2.2.2.2.2.1 pc = some (.newarray at_, 2)) (h1 : lw_tbl[p1]? = some (.arrayClass (newarray.typeOf at_))) (tag : Nat) (htag : (tag = 0 ∧ at_ = .int) ∨ (tag = 1 ∧ at_ = .boolean)) {v : Int32} {N : Nat} (hv : ¬ v < 0) (hN : v.toNatClampNeg = N) (hby : N * componentBytes (newarray.typeOf at_) ≤ 536870912) (hrm : k + 1 ≤ M.2.2.2.2.2.1.cells ∧ n + N ≤ M.2.2.2.2.2.1.slots) (hlen : lay.length < 1000)
    (kk : aX C M (k + 1) (n + N) (pc + 2, lv, .ref lay.length :: st, lay ++ [.inl (tag, N)], aClr S lay.length)) : aX C M k n (pc, lv, .int v :: st, lay, S) := by
  obtain ⟨g, p, l, e, R, s, m, args, below, meth, c, Q⟩ := C
  obtain ⟨hx, hb, hml, hown, hts, hK, hRo, hbs, hini, hlk, hret, hR⟩ := hC
  intro H ls locs hP hz hl hS
  subst hR
  refine va_newaK hx hb (aTw hts h1 (by rcases htag with ⟨-, rfl⟩ | ⟨-, rfl⟩ <;> rfl)) rfl (aDc hT hq) rfl hv hN hby hrm.1 hrm.2 hz fun H1 cA e1 z1 o1 hAr hNm => ?_
  have hcA : cA = g.2.1 tag ∧ defaultValue (newarray.typeOf at_) = .int 0 := by
    rcases htag with ⟨rfl, rfl⟩ | ⟨rfl, rfl⟩
    · exact ⟨Option.some.inj (hNm.symm.trans (hK.2 0 (g.2.1 0, .int) rfl).2), rfl⟩
    · exact ⟨Option.some.inj (hNm.symm.trans (hK.2 1 (g.2.1 1, .boolean) rfl).2), rfl⟩
  obtain ⟨hcA, hdf⟩ := hcA
  have hP1 : va_P g.1 vwCl (aWs g (lay ++ [.inl (tag, N)]) (aClr S lay.length)) H1 := by
    refine aP_push hP hz (fun q hq => o1 q (by rw [← hz]; exact hq)) ?_
    show H1[g.2.2.1 + lay.length]? = some (vp_cell (g.2.1 tag) (N, .inl ((aClr S lay.length).2.2 lay.length)))
    rw [e1, vp_cell_i, hcA, hdf]
    simp [aClr]
  have k1 := kk H1 ls locs hP1 (by rw [z1]; simp [Nat.add_assoc]) hl ⟨Nat.le_trans hS.1 (by rw [z1, hz]; exact Nat.le_succ _), fun x h4 h5 => (o1 x (by have h6 := hS.1; rw [hz] at h6; exact Nat.lt_of_lt_of_le h4 h6)).trans (hS.2.1 x h4 h5), hS.2.2⟩
  dsimp only at k1
  rw [List.map_cons, aCvR g hlen] at k1
  exact k1
/-- Object's own constructor -/
theorem aObjI (hC : aCx C M) (hT : aOK M) {b : Nat} (hq : aLk M.2.2.2.2.2.2.1 pc = some (.invokespecial idx, 3)) (h1 : lw_tbl[p1]? = some (.methodLink M.1 idx Lib.objectInit)) (h2 : lw_tbl[p2]? = some (.instanceMethod Lib.objectInit)) (h3 : lw_tbl[p3]? = some (.code Lib.objectInit ⟨#[0xb1]⟩ 1 none)) (hb1 : b < 1000) (hrm : 1 ≤ M.2.2.2.2.2.1.frames ∧ (st.map fun v => v.category).sum + 12 ≤ M.2.2.2.2.2.1.locals)
    (kk : aX C M k n (pc + 3, lv, st, lay, S)) : aX C M k n (pc, lv, .ref b :: st, lay, S) := by
  obtain ⟨g, p, l, e, R, s, m, args, below, meth, c, Q⟩ := C
  obtain ⟨hx, hb, hml, hown, hts, hK, hRo, hbs, hini, hlk, hret, hR⟩ := hC
  intro H ls locs hP hz hl hS
  subst hR
  dsimp only
  rw [List.map_cons, aCvR g hb1]
  exact W.objInit hx hb hown (aTw hts h1) (aTw hts h2) (aTw hts h3) rfl (by rw [hml]; exact hl.1) rfl (aDc hT hq) hrm.1 (by rw [aCat]; show 2 * 0 + _ + 12 ≤ _; have := hrm.2; omega) (kk H ls locs hP hz hl hS)
end AN
/-! how the printed functions are read -/
def aLet {α β : Type} (x : α) (f : α → β) : β := f x
theorem aLetE {α β : Type} {x : α} {f : α → β} {r : β} (h : aLet x f = r) : ∃ y, x = y ∧ f y = r := ⟨x, rfl, h⟩
theorem aBnE {α β : Type} {x : Option α} {f : α → Option β} {r : β} (h : x.bind f = some r) : ∃ y, x = some y ∧ f y = some r := by
  cases x with
  | none => cases h
  | some y => exact ⟨y, rfl, h⟩
theorem aGdE {α : Type} {c : Prop} [Decidable c] {x : Option α} {r : α} (h : (if c then x else none) = some r) : c ∧ x = some r := by
  split at h
  · rename_i hc; exact ⟨hc, h⟩
  · cases h
theorem aIfT {α : Type} {c : Prop} [Decidable c] {x y r : α} (h : (if c then x else y) = r) (hc : c) : x = r := by
  rw [if_pos hc] at h; exact h
theorem aIfF {α : Type} {c : Prop} [Decidable c] {x y r : α} (h : (if c then x else y) = r) (hc : ¬ c) : y = r := by
  rw [if_neg hc] at h; exact h
/-- the contents behind a call; the answer -/
theorem aRetSub {α : Type} {x r : α} (h : x = r) : r = x := h.symm
end
