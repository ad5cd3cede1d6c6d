section
-- ===== PART A: goes FIRST, ahead of the names: the tables' words, and 'selects' of the private methods out of them =====
/-- a private method of a class that the tables say can be made, by its rows of tables_1 -/
def lw_okq (q : MethodName × Nat) : Prop := (q.1.cls ≠ "java/lang/invoke/MethodHandle" ∧ q.1.cls ≠ "java/lang/invoke/VarHandle") ∧ Cond.instantiable q.1.cls q.2 ∈ tables_1 ∧ Cond.privateMethod q.1 ∈ tables_1 ∧ Cond.instanceMethod q.1 ∈ tables_1
theorem lw_p0 : lw_okq (⟨"NinePence$Text", "split", "()V"⟩, 9) := ⟨⟨by decide +kernel, by decide +kernel⟩, List.mem_of_getElem? (i := 28) (by decide +kernel), List.mem_of_getElem? (i := 330) (by decide +kernel), List.mem_of_getElem? (i := 331) (by decide +kernel)⟩
theorem lw_p1 : lw_okq (⟨"NinePence$Text", "isBegin", "(I)Z"⟩, 9) := ⟨⟨by decide +kernel, by decide +kernel⟩, List.mem_of_getElem? (i := 28) (by decide +kernel), List.mem_of_getElem? (i := 334) (by decide +kernel), List.mem_of_getElem? (i := 335) (by decide +kernel)⟩
theorem lw_p2 : lw_okq (⟨"NinePence$Text", "sortAt", "(I)I"⟩, 9) := ⟨⟨by decide +kernel, by decide +kernel⟩, List.mem_of_getElem? (i := 28) (by decide +kernel), List.mem_of_getElem? (i := 338) (by decide +kernel), List.mem_of_getElem? (i := 339) (by decide +kernel)⟩
theorem lw_p3 : lw_okq (⟨"NinePence$Text", "setToken", "(II)V"⟩, 9) := ⟨⟨by decide +kernel, by decide +kernel⟩, List.mem_of_getElem? (i := 28) (by decide +kernel), List.mem_of_getElem? (i := 348) (by decide +kernel), List.mem_of_getElem? (i := 349) (by decide +kernel)⟩
theorem lw_p4 : lw_okq (⟨"NinePence$Text", "valueOf", "(II)I"⟩, 9) := ⟨⟨by decide +kernel, by decide +kernel⟩, List.mem_of_getElem? (i := 28) (by decide +kernel), List.mem_of_getElem? (i := 352) (by decide +kernel), List.mem_of_getElem? (i := 353) (by decide +kernel)⟩
theorem lw_p5 : lw_okq (⟨"NinePence$Text", "wordOf", "(II)I"⟩, 9) := ⟨⟨by decide +kernel, by decide +kernel⟩, List.mem_of_getElem? (i := 28) (by decide +kernel), List.mem_of_getElem? (i := 356) (by decide +kernel), List.mem_of_getElem? (i := 357) (by decide +kernel)⟩
theorem lw_p6 : lw_okq (⟨"NinePence$Text", "is", "(Ljava/lang/String;II)Z"⟩, 9) := ⟨⟨by decide +kernel, by decide +kernel⟩, List.mem_of_getElem? (i := 28) (by decide +kernel), List.mem_of_getElem? (i := 361) (by decide +kernel), List.mem_of_getElem? (i := 362) (by decide +kernel)⟩
theorem lw_p7 : lw_okq (⟨"NinePence$Text", "readLine", "(I)Z"⟩, 9) := ⟨⟨by decide +kernel, by decide +kernel⟩, List.mem_of_getElem? (i := 28) (by decide +kernel), List.mem_of_getElem? (i := 421) (by decide +kernel), List.mem_of_getElem? (i := 422) (by decide +kernel)⟩
theorem lw_p8 : lw_okq (⟨"NinePence$Text", "takeNumber", "(IIII)Z"⟩, 9) := ⟨⟨by decide +kernel, by decide +kernel⟩, List.mem_of_getElem? (i := 28) (by decide +kernel), List.mem_of_getElem? (i := 426) (by decide +kernel), List.mem_of_getElem? (i := 427) (by decide +kernel)⟩
theorem lw_p9 : lw_okq (⟨"NinePence$Text", "readDue", "(I)Z"⟩, 9) := ⟨⟨by decide +kernel, by decide +kernel⟩, List.mem_of_getElem? (i := 28) (by decide +kernel), List.mem_of_getElem? (i := 434) (by decide +kernel), List.mem_of_getElem? (i := 435) (by decide +kernel)⟩
theorem lw_p10 : lw_okq (⟨"NinePence$Ledger", "takeLine", "(LNinePence$Text;I)V"⟩, 10) := ⟨⟨by decide +kernel, by decide +kernel⟩, List.mem_of_getElem? (i := 66) (by decide +kernel), List.mem_of_getElem? (i := 447) (by decide +kernel), List.mem_of_getElem? (i := 448) (by decide +kernel)⟩
theorem lw_p11 : lw_okq (⟨"NinePence$Ledger", "add", "(ILNinePence$Text;I)V"⟩, 10) := ⟨⟨by decide +kernel, by decide +kernel⟩, List.mem_of_getElem? (i := 66) (by decide +kernel), List.mem_of_getElem? (i := 456) (by decide +kernel), List.mem_of_getElem? (i := 457) (by decide +kernel)⟩
theorem lw_p12 : lw_okq (⟨"NinePence$Ledger", "setPart", "(III)V"⟩, 10) := ⟨⟨by decide +kernel, by decide +kernel⟩, List.mem_of_getElem? (i := 66) (by decide +kernel), List.mem_of_getElem? (i := 460) (by decide +kernel), List.mem_of_getElem? (i := 461) (by decide +kernel)⟩
theorem lw_p13 : lw_okq (⟨"NinePence$Ledger", "setDue", "(III)V"⟩, 10) := ⟨⟨by decide +kernel, by decide +kernel⟩, List.mem_of_getElem? (i := 66) (by decide +kernel), List.mem_of_getElem? (i := 469) (by decide +kernel), List.mem_of_getElem? (i := 470) (by decide +kernel)⟩
theorem lw_p14 : lw_okq (⟨"NinePence", "isNineTimesOrTenths", "(I)Z"⟩, 11) := ⟨⟨by decide +kernel, by decide +kernel⟩, List.mem_of_getElem? (i := 20) (by decide +kernel), List.mem_of_getElem? (i := 577) (by decide +kernel), List.mem_of_getElem? (i := 578) (by decide +kernel)⟩
theorem lw_p15 : lw_okq (⟨"NinePence", "workOut", "()V"⟩, 11) := ⟨⟨by decide +kernel, by decide +kernel⟩, List.mem_of_getElem? (i := 20) (by decide +kernel), List.mem_of_getElem? (i := 585) (by decide +kernel), List.mem_of_getElem? (i := 586) (by decide +kernel)⟩
def lw_privs_1 : List (MethodName × Nat) := [(⟨"NinePence$Text", "split", "()V"⟩, 9), (⟨"NinePence$Text", "isBegin", "(I)Z"⟩, 9), (⟨"NinePence$Text", "sortAt", "(I)I"⟩, 9), (⟨"NinePence$Text", "setToken", "(II)V"⟩, 9), (⟨"NinePence$Text", "valueOf", "(II)I"⟩, 9), (⟨"NinePence$Text", "wordOf", "(II)I"⟩, 9), (⟨"NinePence$Text", "is", "(Ljava/lang/String;II)Z"⟩, 9), (⟨"NinePence$Text", "readLine", "(I)Z"⟩, 9), (⟨"NinePence$Text", "takeNumber", "(IIII)Z"⟩, 9), (⟨"NinePence$Text", "readDue", "(I)Z"⟩, 9), (⟨"NinePence$Ledger", "takeLine", "(LNinePence$Text;I)V"⟩, 10), (⟨"NinePence$Ledger", "add", "(ILNinePence$Text;I)V"⟩, 10), (⟨"NinePence$Ledger", "setPart", "(III)V"⟩, 10), (⟨"NinePence$Ledger", "setDue", "(III)V"⟩, 10), (⟨"NinePence", "isNineTimesOrTenths", "(I)Z"⟩, 11), (⟨"NinePence", "workOut", "()V"⟩, 11)]
theorem lw_r1 : ∀ q ∈ lw_privs_1, lw_okq q := List.forall_mem_cons.mpr ⟨lw_p0, List.forall_mem_cons.mpr ⟨lw_p1, List.forall_mem_cons.mpr ⟨lw_p2, List.forall_mem_cons.mpr ⟨lw_p3, List.forall_mem_cons.mpr ⟨lw_p4, List.forall_mem_cons.mpr ⟨lw_p5, List.forall_mem_cons.mpr ⟨lw_p6, List.forall_mem_cons.mpr ⟨lw_p7, List.forall_mem_cons.mpr ⟨lw_p8, List.forall_mem_cons.mpr ⟨lw_p9, List.forall_mem_cons.mpr ⟨lw_p10, List.forall_mem_cons.mpr ⟨lw_p11, List.forall_mem_cons.mpr ⟨lw_p12, List.forall_mem_cons.mpr ⟨lw_p13, List.forall_mem_cons.mpr ⟨lw_p14, List.forall_mem_cons.mpr ⟨lw_p15, fun _ h => absurd h List.not_mem_nil⟩⟩⟩⟩⟩⟩⟩⟩⟩⟩⟩⟩⟩⟩⟩⟩
theorem lw_p16 : lw_okq (⟨"NinePence$Slips", "oddsAt", "(II)I"⟩, 9) := ⟨⟨by decide +kernel, by decide +kernel⟩, List.mem_of_getElem? (i := 116) (by decide +kernel), List.mem_of_getElem? (i := 594) (by decide +kernel), List.mem_of_getElem? (i := 595) (by decide +kernel)⟩
theorem lw_p17 : lw_okq (⟨"NinePence$Slips", "putTurns", "(III)V"⟩, 9) := ⟨⟨by decide +kernel, by decide +kernel⟩, List.mem_of_getElem? (i := 116) (by decide +kernel), List.mem_of_getElem? (i := 599) (by decide +kernel), List.mem_of_getElem? (i := 600) (by decide +kernel)⟩
theorem lw_p18 : lw_okq (⟨"NinePence$Slips", "putSum", "(IIII)V"⟩, 9) := ⟨⟨by decide +kernel, by decide +kernel⟩, List.mem_of_getElem? (i := 116) (by decide +kernel), List.mem_of_getElem? (i := 609) (by decide +kernel), List.mem_of_getElem? (i := 610) (by decide +kernel)⟩
theorem lw_p19 : lw_okq (⟨"NinePence$Slips", "put", "(IIIII)V"⟩, 9) := ⟨⟨by decide +kernel, by decide +kernel⟩, List.mem_of_getElem? (i := 116) (by decide +kernel), List.mem_of_getElem? (i := 613) (by decide +kernel), List.mem_of_getElem? (i := 614) (by decide +kernel)⟩
theorem lw_p20 : lw_okq (⟨"NinePence$Slips", "putFigures", "(III)V"⟩, 9) := ⟨⟨by decide +kernel, by decide +kernel⟩, List.mem_of_getElem? (i := 116) (by decide +kernel), List.mem_of_getElem? (i := 618) (by decide +kernel), List.mem_of_getElem? (i := 619) (by decide +kernel)⟩
theorem lw_p21 : lw_okq (⟨"NinePence$Slips", "putMissed", "(I)V"⟩, 9) := ⟨⟨by decide +kernel, by decide +kernel⟩, List.mem_of_getElem? (i := 116) (by decide +kernel), List.mem_of_getElem? (i := 645) (by decide +kernel), List.mem_of_getElem? (i := 646) (by decide +kernel)⟩
theorem lw_p22 : lw_okq (⟨"NinePence$Slips", "putCarries", "(I)V"⟩, 9) := ⟨⟨by decide +kernel, by decide +kernel⟩, List.mem_of_getElem? (i := 116) (by decide +kernel), List.mem_of_getElem? (i := 651) (by decide +kernel), List.mem_of_getElem? (i := 652) (by decide +kernel)⟩
theorem lw_p23 : lw_okq (⟨"NinePence$Slips", "chain", "()V"⟩, 9) := ⟨⟨by decide +kernel, by decide +kernel⟩, List.mem_of_getElem? (i := 116) (by decide +kernel), List.mem_of_getElem? (i := 659) (by decide +kernel), List.mem_of_getElem? (i := 660) (by decide +kernel)⟩
theorem lw_p24 : lw_okq (⟨"NinePence$Singles", "leavesNoPageOff", "(I)Z"⟩, 7) := ⟨⟨by decide +kernel, by decide +kernel⟩, List.mem_of_getElem? (i := 152) (by decide +kernel), List.mem_of_getElem? (i := 679) (by decide +kernel), List.mem_of_getElem? (i := 680) (by decide +kernel)⟩
theorem lw_p25 : lw_okq (⟨"NinePence$Pairs", "findWith", "(II)V"⟩, 6) := ⟨⟨by decide +kernel, by decide +kernel⟩, List.mem_of_getElem? (i := 183) (by decide +kernel), List.mem_of_getElem? (i := 708) (by decide +kernel), List.mem_of_getElem? (i := 709) (by decide +kernel)⟩
theorem lw_p26 : lw_okq (⟨"NinePence$Pairs", "take", "(II)V"⟩, 6) := ⟨⟨by decide +kernel, by decide +kernel⟩, List.mem_of_getElem? (i := 183) (by decide +kernel), List.mem_of_getElem? (i := 720) (by decide +kernel), List.mem_of_getElem? (i := 721) (by decide +kernel)⟩
theorem lw_p27 : lw_okq (⟨"NinePence$Look", "insert", "(I)V"⟩, 9) := ⟨⟨by decide +kernel, by decide +kernel⟩, List.mem_of_getElem? (i := 212) (by decide +kernel), List.mem_of_getElem? (i := 745) (by decide +kernel), List.mem_of_getElem? (i := 746) (by decide +kernel)⟩
theorem lw_p28 : lw_okq (⟨"NinePence$Look", "isSooner", "(II)Z"⟩, 9) := ⟨⟨by decide +kernel, by decide +kernel⟩, List.mem_of_getElem? (i := 212) (by decide +kernel), List.mem_of_getElem? (i := 749) (by decide +kernel), List.mem_of_getElem? (i := 750) (by decide +kernel)⟩
theorem lw_p29 : lw_okq (⟨"NinePence$Look", "sumUp", "()V"⟩, 9) := ⟨⟨by decide +kernel, by decide +kernel⟩, List.mem_of_getElem? (i := 212) (by decide +kernel), List.mem_of_getElem? (i := 753) (by decide +kernel), List.mem_of_getElem? (i := 754) (by decide +kernel)⟩
theorem lw_p30 : lw_okq (⟨"NinePence$OtherBook", "costFrom", "(II)I"⟩, 5) := ⟨⟨by decide +kernel, by decide +kernel⟩, List.mem_of_getElem? (i := 249) (by decide +kernel), List.mem_of_getElem? (i := 868) (by decide +kernel), List.mem_of_getElem? (i := 869) (by decide +kernel)⟩
theorem lw_p31 : lw_okq (⟨"NinePence$OtherBook", "leastLine", "(II)I"⟩, 5) := ⟨⟨by decide +kernel, by decide +kernel⟩, List.mem_of_getElem? (i := 249) (by decide +kernel), List.mem_of_getElem? (i := 881) (by decide +kernel), List.mem_of_getElem? (i := 882) (by decide +kernel)⟩
def lw_privs_2 : List (MethodName × Nat) := [(⟨"NinePence$Slips", "oddsAt", "(II)I"⟩, 9), (⟨"NinePence$Slips", "putTurns", "(III)V"⟩, 9), (⟨"NinePence$Slips", "putSum", "(IIII)V"⟩, 9), (⟨"NinePence$Slips", "put", "(IIIII)V"⟩, 9), (⟨"NinePence$Slips", "putFigures", "(III)V"⟩, 9), (⟨"NinePence$Slips", "putMissed", "(I)V"⟩, 9), (⟨"NinePence$Slips", "putCarries", "(I)V"⟩, 9), (⟨"NinePence$Slips", "chain", "()V"⟩, 9), (⟨"NinePence$Singles", "leavesNoPageOff", "(I)Z"⟩, 7), (⟨"NinePence$Pairs", "findWith", "(II)V"⟩, 6), (⟨"NinePence$Pairs", "take", "(II)V"⟩, 6), (⟨"NinePence$Look", "insert", "(I)V"⟩, 9), (⟨"NinePence$Look", "isSooner", "(II)Z"⟩, 9), (⟨"NinePence$Look", "sumUp", "()V"⟩, 9), (⟨"NinePence$OtherBook", "costFrom", "(II)I"⟩, 5), (⟨"NinePence$OtherBook", "leastLine", "(II)I"⟩, 5)]
theorem lw_r2 : ∀ q ∈ lw_privs_2, lw_okq q := List.forall_mem_cons.mpr ⟨lw_p16, List.forall_mem_cons.mpr ⟨lw_p17, List.forall_mem_cons.mpr ⟨lw_p18, List.forall_mem_cons.mpr ⟨lw_p19, List.forall_mem_cons.mpr ⟨lw_p20, List.forall_mem_cons.mpr ⟨lw_p21, List.forall_mem_cons.mpr ⟨lw_p22, List.forall_mem_cons.mpr ⟨lw_p23, List.forall_mem_cons.mpr ⟨lw_p24, List.forall_mem_cons.mpr ⟨lw_p25, List.forall_mem_cons.mpr ⟨lw_p26, List.forall_mem_cons.mpr ⟨lw_p27, List.forall_mem_cons.mpr ⟨lw_p28, List.forall_mem_cons.mpr ⟨lw_p29, List.forall_mem_cons.mpr ⟨lw_p30, List.forall_mem_cons.mpr ⟨lw_p31, fun _ h => absurd h List.not_mem_nil⟩⟩⟩⟩⟩⟩⟩⟩⟩⟩⟩⟩⟩⟩⟩⟩
theorem lw_p32 : lw_okq (⟨"NinePenceModel", "token", "()V"⟩, 34) := ⟨⟨by decide +kernel, by decide +kernel⟩, List.mem_of_getElem? (i := 889) (by decide +kernel), List.mem_of_getElem? (i := 1015) (by decide +kernel), List.mem_of_getElem? (i := 1016) (by decide +kernel)⟩
theorem lw_p33 : lw_okq (⟨"NinePenceModel", "readsLine", "()Z"⟩, 34) := ⟨⟨by decide +kernel, by decide +kernel⟩, List.mem_of_getElem? (i := 889) (by decide +kernel), List.mem_of_getElem? (i := 1022) (by decide +kernel), List.mem_of_getElem? (i := 1023) (by decide +kernel)⟩
theorem lw_p34 : lw_okq (⟨"NinePenceModel", "isWord", "(II)Z"⟩, 34) := ⟨⟨by decide +kernel, by decide +kernel⟩, List.mem_of_getElem? (i := 889) (by decide +kernel), List.mem_of_getElem? (i := 1027) (by decide +kernel), List.mem_of_getElem? (i := 1028) (by decide +kernel)⟩
theorem lw_p35 : lw_okq (⟨"NinePenceModel", "readsRest", "(I)Z"⟩, 34) := ⟨⟨by decide +kernel, by decide +kernel⟩, List.mem_of_getElem? (i := 889) (by decide +kernel), List.mem_of_getElem? (i := 1038) (by decide +kernel), List.mem_of_getElem? (i := 1039) (by decide +kernel)⟩
theorem lw_p36 : lw_okq (⟨"NinePenceModel", "reads", "(III)Z"⟩, 34) := ⟨⟨by decide +kernel, by decide +kernel⟩, List.mem_of_getElem? (i := 889) (by decide +kernel), List.mem_of_getElem? (i := 1043) (by decide +kernel), List.mem_of_getElem? (i := 1044) (by decide +kernel)⟩
theorem lw_p37 : lw_okq (⟨"NinePenceModel", "isNumber", "()Z"⟩, 34) := ⟨⟨by decide +kernel, by decide +kernel⟩, List.mem_of_getElem? (i := 889) (by decide +kernel), List.mem_of_getElem? (i := 1047) (by decide +kernel), List.mem_of_getElem? (i := 1048) (by decide +kernel)⟩
theorem lw_p38 : lw_okq (⟨"NinePenceModel", "value", "()I"⟩, 34) := ⟨⟨by decide +kernel, by decide +kernel⟩, List.mem_of_getElem? (i := 889) (by decide +kernel), List.mem_of_getElem? (i := 1051) (by decide +kernel), List.mem_of_getElem? (i := 1052) (by decide +kernel)⟩
theorem lw_p39 : lw_okq (⟨"NinePenceModel", "readsPage", "()Z"⟩, 34) := ⟨⟨by decide +kernel, by decide +kernel⟩, List.mem_of_getElem? (i := 889) (by decide +kernel), List.mem_of_getElem? (i := 1055) (by decide +kernel), List.mem_of_getElem? (i := 1056) (by decide +kernel)⟩
theorem lw_p40 : lw_okq (⟨"NinePenceModel", "lay", "(I)V"⟩, 34) := ⟨⟨by decide +kernel, by decide +kernel⟩, List.mem_of_getElem? (i := 889) (by decide +kernel), List.mem_of_getElem? (i := 1065) (by decide +kernel), List.mem_of_getElem? (i := 1066) (by decide +kernel)⟩
theorem lw_p41 : lw_okq (⟨"NinePenceModel", "isEntry", "(I)Z"⟩, 34) := ⟨⟨by decide +kernel, by decide +kernel⟩, List.mem_of_getElem? (i := 889) (by decide +kernel), List.mem_of_getElem? (i := 1073) (by decide +kernel), List.mem_of_getElem? (i := 1074) (by decide +kernel)⟩
theorem lw_p42 : lw_okq (⟨"NinePenceModel", "outOf", "(I)I"⟩, 34) := ⟨⟨by decide +kernel, by decide +kernel⟩, List.mem_of_getElem? (i := 889) (by decide +kernel), List.mem_of_getElem? (i := 1084) (by decide +kernel), List.mem_of_getElem? (i := 1085) (by decide +kernel)⟩
theorem lw_p43 : lw_okq (⟨"NinePenceModel", "hasDue", "(I)Z"⟩, 34) := ⟨⟨by decide +kernel, by decide +kernel⟩, List.mem_of_getElem? (i := 889) (by decide +kernel), List.mem_of_getElem? (i := 1093) (by decide +kernel), List.mem_of_getElem? (i := 1094) (by decide +kernel)⟩
theorem lw_p44 : lw_okq (⟨"NinePenceModel", "offOf", "(I)I"⟩, 34) := ⟨⟨by decide +kernel, by decide +kernel⟩, List.mem_of_getElem? (i := 889) (by decide +kernel), List.mem_of_getElem? (i := 1097) (by decide +kernel), List.mem_of_getElem? (i := 1098) (by decide +kernel)⟩
theorem lw_p45 : lw_okq (⟨"NinePenceModel", "layOnes", "(Z)V"⟩, 34) := ⟨⟨by decide +kernel, by decide +kernel⟩, List.mem_of_getElem? (i := 889) (by decide +kernel), List.mem_of_getElem? (i := 1138) (by decide +kernel), List.mem_of_getElem? (i := 1139) (by decide +kernel)⟩
theorem lw_p46 : lw_okq (⟨"NinePenceModel", "laySlips", "()V"⟩, 34) := ⟨⟨by decide +kernel, by decide +kernel⟩, List.mem_of_getElem? (i := 889) (by decide +kernel), List.mem_of_getElem? (i := 1142) (by decide +kernel), List.mem_of_getElem? (i := 1143) (by decide +kernel)⟩
theorem lw_p47 : lw_okq (⟨"NinePenceModel", "layKind", "(II)V"⟩, 34) := ⟨⟨by decide +kernel, by decide +kernel⟩, List.mem_of_getElem? (i := 889) (by decide +kernel), List.mem_of_getElem? (i := 1146) (by decide +kernel), List.mem_of_getElem? (i := 1147) (by decide +kernel)⟩
def lw_privs_3 : List (MethodName × Nat) := [(⟨"NinePenceModel", "token", "()V"⟩, 34), (⟨"NinePenceModel", "readsLine", "()Z"⟩, 34), (⟨"NinePenceModel", "isWord", "(II)Z"⟩, 34), (⟨"NinePenceModel", "readsRest", "(I)Z"⟩, 34), (⟨"NinePenceModel", "reads", "(III)Z"⟩, 34), (⟨"NinePenceModel", "isNumber", "()Z"⟩, 34), (⟨"NinePenceModel", "value", "()I"⟩, 34), (⟨"NinePenceModel", "readsPage", "()Z"⟩, 34), (⟨"NinePenceModel", "lay", "(I)V"⟩, 34), (⟨"NinePenceModel", "isEntry", "(I)Z"⟩, 34), (⟨"NinePenceModel", "outOf", "(I)I"⟩, 34), (⟨"NinePenceModel", "hasDue", "(I)Z"⟩, 34), (⟨"NinePenceModel", "offOf", "(I)I"⟩, 34), (⟨"NinePenceModel", "layOnes", "(Z)V"⟩, 34), (⟨"NinePenceModel", "laySlips", "()V"⟩, 34), (⟨"NinePenceModel", "layKind", "(II)V"⟩, 34)]
theorem lw_r3 : ∀ q ∈ lw_privs_3, lw_okq q := List.forall_mem_cons.mpr ⟨lw_p32, List.forall_mem_cons.mpr ⟨lw_p33, List.forall_mem_cons.mpr ⟨lw_p34, List.forall_mem_cons.mpr ⟨lw_p35, List.forall_mem_cons.mpr ⟨lw_p36, List.forall_mem_cons.mpr ⟨lw_p37, List.forall_mem_cons.mpr ⟨lw_p38, List.forall_mem_cons.mpr ⟨lw_p39, List.forall_mem_cons.mpr ⟨lw_p40, List.forall_mem_cons.mpr ⟨lw_p41, List.forall_mem_cons.mpr ⟨lw_p42, List.forall_mem_cons.mpr ⟨lw_p43, List.forall_mem_cons.mpr ⟨lw_p44, List.forall_mem_cons.mpr ⟨lw_p45, List.forall_mem_cons.mpr ⟨lw_p46, List.forall_mem_cons.mpr ⟨lw_p47, fun _ h => absurd h List.not_mem_nil⟩⟩⟩⟩⟩⟩⟩⟩⟩⟩⟩⟩⟩⟩⟩⟩
theorem lw_p48 : lw_okq (⟨"NinePenceModel", "changeBy", "(II)I"⟩, 34) := ⟨⟨by decide +kernel, by decide +kernel⟩, List.mem_of_getElem? (i := 889) (by decide +kernel), List.mem_of_getElem? (i := 1159) (by decide +kernel), List.mem_of_getElem? (i := 1160) (by decide +kernel)⟩
theorem lw_p49 : lw_okq (⟨"NinePenceModel", "oddsOf", "(II)I"⟩, 34) := ⟨⟨by decide +kernel, by decide +kernel⟩, List.mem_of_getElem? (i := 889) (by decide +kernel), List.mem_of_getElem? (i := 1163) (by decide +kernel), List.mem_of_getElem? (i := 1164) (by decide +kernel)⟩
theorem lw_p50 : lw_okq (⟨"NinePenceModel", "add", "(IIIII)V"⟩, 34) := ⟨⟨by decide +kernel, by decide +kernel⟩, List.mem_of_getElem? (i := 889) (by decide +kernel), List.mem_of_getElem? (i := 1167) (by decide +kernel), List.mem_of_getElem? (i := 1168) (by decide +kernel)⟩
theorem lw_p51 : lw_okq (⟨"NinePenceModel", "layFigures", "(I)V"⟩, 34) := ⟨⟨by decide +kernel, by decide +kernel⟩, List.mem_of_getElem? (i := 889) (by decide +kernel), List.mem_of_getElem? (i := 1171) (by decide +kernel), List.mem_of_getElem? (i := 1172) (by decide +kernel)⟩
theorem lw_p52 : lw_okq (⟨"NinePenceModel", "isTwice", "(I)Z"⟩, 34) := ⟨⟨by decide +kernel, by decide +kernel⟩, List.mem_of_getElem? (i := 889) (by decide +kernel), List.mem_of_getElem? (i := 1175) (by decide +kernel), List.mem_of_getElem? (i := 1176) (by decide +kernel)⟩
theorem lw_p53 : lw_okq (⟨"NinePenceModel", "isUsed", "(I)Z"⟩, 34) := ⟨⟨by decide +kernel, by decide +kernel⟩, List.mem_of_getElem? (i := 889) (by decide +kernel), List.mem_of_getElem? (i := 1179) (by decide +kernel), List.mem_of_getElem? (i := 1180) (by decide +kernel)⟩
theorem lw_p54 : lw_okq (⟨"NinePenceModel", "isNarrow", "(I)Z"⟩, 34) := ⟨⟨by decide +kernel, by decide +kernel⟩, List.mem_of_getElem? (i := 889) (by decide +kernel), List.mem_of_getElem? (i := 1183) (by decide +kernel), List.mem_of_getElem? (i := 1184) (by decide +kernel)⟩
theorem lw_p55 : lw_okq (⟨"NinePenceModel", "layTwo", "(Z)V"⟩, 34) := ⟨⟨by decide +kernel, by decide +kernel⟩, List.mem_of_getElem? (i := 889) (by decide +kernel), List.mem_of_getElem? (i := 1197) (by decide +kernel), List.mem_of_getElem? (i := 1198) (by decide +kernel)⟩
theorem lw_p56 : lw_okq (⟨"NinePenceModel", "layPairs", "(I)V"⟩, 34) := ⟨⟨by decide +kernel, by decide +kernel⟩, List.mem_of_getElem? (i := 889) (by decide +kernel), List.mem_of_getElem? (i := 1201) (by decide +kernel), List.mem_of_getElem? (i := 1202) (by decide +kernel)⟩
theorem lw_p57 : lw_okq (⟨"NinePenceModel", "arePair", "(II)Z"⟩, 34) := ⟨⟨by decide +kernel, by decide +kernel⟩, List.mem_of_getElem? (i := 889) (by decide +kernel), List.mem_of_getElem? (i := 1205) (by decide +kernel), List.mem_of_getElem? (i := 1206) (by decide +kernel)⟩
theorem lw_p58 : lw_okq (⟨"NinePenceModel", "oneWeights", "()J"⟩, 34) := ⟨⟨by decide +kernel, by decide +kernel⟩, List.mem_of_getElem? (i := 889) (by decide +kernel), List.mem_of_getElem? (i := 1226) (by decide +kernel), List.mem_of_getElem? (i := 1227) (by decide +kernel)⟩
theorem lw_p59 : lw_okq (⟨"NinePenceModel", "layLooks", "(Z)V"⟩, 34) := ⟨⟨by decide +kernel, by decide +kernel⟩, List.mem_of_getElem? (i := 889) (by decide +kernel), List.mem_of_getElem? (i := 1244) (by decide +kernel), List.mem_of_getElem? (i := 1245) (by decide +kernel)⟩
theorem lw_p60 : lw_okq (⟨"NinePenceModel", "isAhead", "(II)Z"⟩, 34) := ⟨⟨by decide +kernel, by decide +kernel⟩, List.mem_of_getElem? (i := 889) (by decide +kernel), List.mem_of_getElem? (i := 1248) (by decide +kernel), List.mem_of_getElem? (i := 1249) (by decide +kernel)⟩
theorem lw_p61 : lw_okq (⟨"NinePenceModel", "layRest", "(I)V"⟩, 34) := ⟨⟨by decide +kernel, by decide +kernel⟩, List.mem_of_getElem? (i := 889) (by decide +kernel), List.mem_of_getElem? (i := 1275) (by decide +kernel), List.mem_of_getElem? (i := 1276) (by decide +kernel)⟩
theorem lw_p62 : lw_okq (⟨"NinePenceModel", "costWith", "(III)I"⟩, 34) := ⟨⟨by decide +kernel, by decide +kernel⟩, List.mem_of_getElem? (i := 889) (by decide +kernel), List.mem_of_getElem? (i := 1279) (by decide +kernel), List.mem_of_getElem? (i := 1280) (by decide +kernel)⟩
def lw_privs_4 : List (MethodName × Nat) := [(⟨"NinePenceModel", "changeBy", "(II)I"⟩, 34), (⟨"NinePenceModel", "oddsOf", "(II)I"⟩, 34), (⟨"NinePenceModel", "add", "(IIIII)V"⟩, 34), (⟨"NinePenceModel", "layFigures", "(I)V"⟩, 34), (⟨"NinePenceModel", "isTwice", "(I)Z"⟩, 34), (⟨"NinePenceModel", "isUsed", "(I)Z"⟩, 34), (⟨"NinePenceModel", "isNarrow", "(I)Z"⟩, 34), (⟨"NinePenceModel", "layTwo", "(Z)V"⟩, 34), (⟨"NinePenceModel", "layPairs", "(I)V"⟩, 34), (⟨"NinePenceModel", "arePair", "(II)Z"⟩, 34), (⟨"NinePenceModel", "oneWeights", "()J"⟩, 34), (⟨"NinePenceModel", "layLooks", "(Z)V"⟩, 34), (⟨"NinePenceModel", "isAhead", "(II)Z"⟩, 34), (⟨"NinePenceModel", "layRest", "(I)V"⟩, 34), (⟨"NinePenceModel", "costWith", "(III)I"⟩, 34)]
theorem lw_r4 : ∀ q ∈ lw_privs_4, lw_okq q := List.forall_mem_cons.mpr ⟨lw_p48, List.forall_mem_cons.mpr ⟨lw_p49, List.forall_mem_cons.mpr ⟨lw_p50, List.forall_mem_cons.mpr ⟨lw_p51, List.forall_mem_cons.mpr ⟨lw_p52, List.forall_mem_cons.mpr ⟨lw_p53, List.forall_mem_cons.mpr ⟨lw_p54, List.forall_mem_cons.mpr ⟨lw_p55, List.forall_mem_cons.mpr ⟨lw_p56, List.forall_mem_cons.mpr ⟨lw_p57, List.forall_mem_cons.mpr ⟨lw_p58, List.forall_mem_cons.mpr ⟨lw_p59, List.forall_mem_cons.mpr ⟨lw_p60, List.forall_mem_cons.mpr ⟨lw_p61, List.forall_mem_cons.mpr ⟨lw_p62, fun _ h => absurd h List.not_mem_nil⟩⟩⟩⟩⟩⟩⟩⟩⟩⟩⟩⟩⟩⟩⟩
def lw_privs : List (MethodName × Nat) := lw_privs_1 ++ (lw_privs_2 ++ (lw_privs_3 ++ (lw_privs_4)))
def lw_tbl : List Cond := k2_sels lw_privs ++ tables_1
theorem lw_privs_ok : ∀ q ∈ lw_privs, lw_okq q := by
  show ∀ q ∈ lw_privs_1 ++ (lw_privs_2 ++ (lw_privs_3 ++ (lw_privs_4))), lw_okq q
  exact List.forall_mem_append.mpr ⟨lw_r1, List.forall_mem_append.mpr ⟨lw_r2, List.forall_mem_append.mpr ⟨lw_r3, lw_r4⟩⟩⟩

/-! ===== BEGIN words of one list among another's, by their places ===== -/
theorem goodIn_r {big : List Cond} (ws : List Cond) (ps : List Nat) (hp : ws = ps.filterMap (fun i => big[i]?)) (h : ws.all goodWord = true) : GoodIn big ws := by
  intro w hw
  have h1 := List.all_eq_true.mp h w hw
  rw [hp] at hw
  obtain ⟨i, -, hi⟩ := List.mem_filterMap.mp hw
  have hm : w ∈ big := by first | exact List.mem_of_getElem? hi | exact List.getElem?_mem hi
  exact ⟨hm, good_of_word h1⟩
theorem goodIn_app {big a b : List Cond} (ha : GoodIn big a) (hb : GoodIn big b) : GoodIn big (a ++ b) := fun w h => (List.mem_append.mp h).elim (ha w) (hb w)
theorem goodIn_ca {big a b : List Cond} {c : Cond} (ha : GoodIn big (c :: a)) (hb : GoodIn big b) : GoodIn big (c :: (a ++ b)) := fun w h => (List.mem_cons.mp h).elim (fun e => ha w (List.mem_cons.mpr (Or.inl e))) (fun h => (List.mem_append.mp h).elim (fun h => ha w (List.mem_cons.mpr (Or.inr h))) (hb w))
theorem goodIn_sub {big ws : List Cond} (hm : ∀ w ∈ ws, w ∈ big) (h : ws.all goodWord = true) : GoodIn big ws := fun w hw => ⟨hm w hw, good_of_word (List.all_eq_true.mp h w hw)⟩

def RX0 : String := "NinePence$Figures"
def TX0 : u_T := fun k => match k with
  | _ => ("", "", "", false)
def tyX0 : Nat → FieldType := fun k => match k with
  | _ => .int
abbrev cX0_tens : ByteArray := prog_2_method_2_code
def yX0_tens : MethodName := ⟨RX0, "tens", "(I)I"⟩
abbrev cX0_many : ByteArray := prog_2_method_3_code
def yX0_many : MethodName := ⟨RX0, "many", "(I)I"⟩
abbrev cX0_at : ByteArray := prog_2_method_4_code
def yX0_at : MethodName := ⟨RX0, "at", "(II)I"⟩
abbrev cX0_turned : ByteArray := prog_2_method_5_code
def yX0_turned : MethodName := ⟨RX0, "turned", "(II)I"⟩
abbrev cX0_shorter : ByteArray := prog_2_method_6_code
def yX0_shorter : MethodName := ⟨RX0, "shorter", "(I)I"⟩
abbrev cX0_longer : ByteArray := prog_2_method_7_code
def yX0_longer : MethodName := ⟨RX0, "longer", "(I)I"⟩
abbrev cX0_kindBetween : ByteArray := prog_2_method_8_code
def yX0_kindBetween : MethodName := ⟨RX0, "kindBetween", "(II)I"⟩
abbrev cX0_isTens : ByteArray := prog_2_method_9_code
def yX0_isTens : MethodName := ⟨RX0, "isTens", "(I)Z"⟩
abbrev cX0_isTurn : ByteArray := prog_2_method_10_code
def yX0_isTurn : MethodName := ⟨RX0, "isTurn", "(II)Z"⟩
abbrev cX0_isOneFigure : ByteArray := prog_2_method_11_code
def yX0_isOneFigure : MethodName := ⟨RX0, "isOneFigure", "(II)Z"⟩
def RX1 : String := "NinePence$Fractions"
def TX1 : u_T := fun k => match k with
  | _ => ("", "", "", false)
def tyX1 : Nat → FieldType := fun k => match k with
  | _ => .int
abbrev cX1_lowest : ByteArray := prog_3_method_2_code
def yX1_lowest : MethodName := ⟨RX1, "lowest", "(JJI)J"⟩
abbrev cX1_greatestDivisor : ByteArray := prog_3_method_3_code
def yX1_greatestDivisor : MethodName := ⟨RX1, "greatestDivisor", "(JJ)J"⟩
def RX2 : String := "NinePence$Ledger"
def TX2 : u_T := fun k => match k with
  | 0 => ("NinePence$Ledger", "size", "I", false)
  | 1 => ("NinePence$Ledger", "missed", "I", false)
  | 2 => ("NinePence$Ledger", "carry", "I", false)
  | 3 => ("NinePence$Ledger", "second", "I", false)
  | 4 => ("NinePence$Ledger", "changes", "I", false)
  | 5 => ("NinePence$Ledger", "parts", "[I", true)
  | 6 => ("NinePence$Ledger", "odds", "[I", true)
  | 7 => ("NinePence$Ledger", "reads", "[I", true)
  | 8 => ("NinePence$Ledger", "dues", "[I", true)
  | _ => ("NinePence$Ledger", "dueTold", "[Z", true)
def tyX2 : Nat → FieldType := fun k => match k with
  | 0 => .int
  | 1 => .int
  | 2 => .int
  | 3 => .int
  | 4 => .int
  | 5 => .array .int
  | 6 => .array .int
  | 7 => .array .int
  | 8 => .array .int
  | _ => .array .boolean
abbrev cX2_init : ByteArray := prog_4_method_1_code
def yX2_init : MethodName := ⟨RX2, "<init>", "()V"⟩
abbrev cX2_holds : ByteArray := prog_4_method_2_code
def yX2_holds : MethodName := ⟨RX2, "holds", "(I)Z"⟩
abbrev cX2_told : ByteArray := prog_4_method_3_code
def yX2_told : MethodName := ⟨RX2, "told", "(II)I"⟩
abbrev cX2_setPart : ByteArray := prog_4_method_4_code
def yX2_setPart : MethodName := ⟨RX2, "setPart", "(III)V"⟩
abbrev cX2_outOf : ByteArray := prog_4_method_5_code
def yX2_outOf : MethodName := ⟨RX2, "outOf", "(I)I"⟩
abbrev cX2_outBy : ByteArray := prog_4_method_6_code
def yX2_outBy : MethodName := ⟨RX2, "outBy", "(I)I"⟩
abbrev cX2_hasDue : ByteArray := prog_4_method_7_code
def yX2_hasDue : MethodName := ⟨RX2, "hasDue", "(I)Z"⟩
abbrev cX2_dueOf : ByteArray := prog_4_method_8_code
def yX2_dueOf : MethodName := ⟨RX2, "dueOf", "(I)I"⟩
abbrev cX2_hasEntryOn : ByteArray := prog_4_method_9_code
def yX2_hasEntryOn : MethodName := ⟨RX2, "hasEntryOn", "(I)Z"⟩
abbrev cX2_hasSum : ByteArray := prog_4_method_10_code
def yX2_hasSum : MethodName := ⟨RX2, "hasSum", "(II)Z"⟩
abbrev cX2_hasTwinAhead : ByteArray := prog_4_method_11_code
def yX2_hasTwinAhead : MethodName := ⟨RX2, "hasTwinAhead", "(I)Z"⟩
abbrev cX2_oddsOf : ByteArray := prog_4_method_12_code
def yX2_oddsOf : MethodName := ⟨RX2, "oddsOf", "(II)I"⟩
abbrev cX2_setOdds : ByteArray := prog_4_method_13_code
def yX2_setOdds : MethodName := ⟨RX2, "setOdds", "(III)V"⟩
abbrev cX2_readOf : ByteArray := prog_4_method_14_code
def yX2_readOf : MethodName := ⟨RX2, "readOf", "(II)I"⟩
abbrev cX2_change : ByteArray := prog_4_method_15_code
def yX2_change : MethodName := ⟨RX2, "change", "(III)V"⟩
abbrev cX2_remove : ByteArray := prog_4_method_16_code
def yX2_remove : MethodName := ⟨RX2, "remove", "(I)V"⟩
abbrev cX2_take : ByteArray := prog_4_method_17_code
def yX2_take : MethodName := ⟨RX2, "take", "(LNinePence$Text;)V"⟩
abbrev cX2_takeLine : ByteArray := prog_4_method_18_code
def yX2_takeLine : MethodName := ⟨RX2, "takeLine", "(LNinePence$Text;I)V"⟩
abbrev cX2_add : ByteArray := prog_4_method_19_code
def yX2_add : MethodName := ⟨RX2, "add", "(ILNinePence$Text;I)V"⟩
abbrev cX2_setDue : ByteArray := prog_4_method_20_code
def yX2_setDue : MethodName := ⟨RX2, "setDue", "(III)V"⟩
def RX3 : String := "NinePence$Look"
def TX3 : u_T := fun k => match k with
  | 0 => ("NinePence$Look", "size", "I", false)
  | 1 => ("NinePence$Look", "figuresByWeight", "J", false)
  | 2 => ("NinePence$Look", "allWeights", "J", false)
  | 3 => ("NinePence$Look", "ledger", "LNinePence$Ledger;", true)
  | 4 => ("NinePence$Look", "slips", "LNinePence$Slips;", true)
  | 5 => ("NinePence$Look", "singles", "LNinePence$Singles;", true)
  | 6 => ("NinePence$Look", "weights", "[I", true)
  | 7 => ("NinePence$Look", "figures", "[I", true)
  | _ => ("NinePence$Look", "order", "[I", true)
def tyX3 : Nat → FieldType := fun k => match k with
  | 0 => .int
  | 1 => .long
  | 2 => .long
  | 3 => .object "NinePence$Ledger"
  | 4 => .object "NinePence$Slips"
  | 5 => .object "NinePence$Singles"
  | 6 => .array .int
  | 7 => .array .int
  | _ => .array .int
abbrev cX3_init : ByteArray := prog_5_method_1_code
def yX3_init : MethodName := ⟨RX3, "<init>", "(LNinePence$Ledger;LNinePence$Slips;LNinePence$Singles;)V"⟩
abbrev cX3_entryAt : ByteArray := prog_5_method_2_code
def yX3_entryAt : MethodName := ⟨RX3, "entryAt", "(I)I"⟩
abbrev cX3_build : ByteArray := prog_5_method_3_code
def yX3_build : MethodName := ⟨RX3, "build", "()V"⟩
abbrev cX3_insert : ByteArray := prog_5_method_4_code
def yX3_insert : MethodName := ⟨RX3, "insert", "(I)V"⟩
abbrev cX3_isSooner : ByteArray := prog_5_method_5_code
def yX3_isSooner : MethodName := ⟨RX3, "isSooner", "(II)Z"⟩
abbrev cX3_sumUp : ByteArray := prog_5_method_6_code
def yX3_sumUp : MethodName := ⟨RX3, "sumUp", "()V"⟩
def RX4 : String := "NinePence$OtherBook"
def TX4 : u_T := fun k => match k with
  | 0 => ("NinePence$OtherBook", "size", "I", false)
  | 1 => ("NinePence$OtherBook", "ledger", "LNinePence$Ledger;", true)
  | 2 => ("NinePence$OtherBook", "sums", "[I", true)
  | 3 => ("NinePence$OtherBook", "costs", "[I", true)
  | _ => ("NinePence$OtherBook", "pairCosts", "[I", true)
def tyX4 : Nat → FieldType := fun k => match k with
  | 0 => .int
  | 1 => .object "NinePence$Ledger"
  | 2 => .array .int
  | 3 => .array .int
  | _ => .array .int
abbrev cX4_init : ByteArray := prog_6_method_1_code
def yX4_init : MethodName := ⟨RX4, "<init>", "(LNinePence$Ledger;)V"⟩
abbrev cX4_add : ByteArray := prog_6_method_2_code
def yX4_add : MethodName := ⟨RX4, "add", "(I)V"⟩
abbrev cX4_leastCost : ByteArray := prog_6_method_3_code
def yX4_leastCost : MethodName := ⟨RX4, "leastCost", "()I"⟩
abbrev cX4_findLeastCosts : ByteArray := prog_6_method_4_code
def yX4_findLeastCosts : MethodName := ⟨RX4, "findLeastCosts", "(I)V"⟩
abbrev cX4_lineOf : ByteArray := prog_6_method_5_code
def yX4_lineOf : MethodName := ⟨RX4, "lineOf", "(II)I"⟩
abbrev cX4_leastLine : ByteArray := prog_6_method_6_code
def yX4_leastLine : MethodName := ⟨RX4, "leastLine", "(II)I"⟩
abbrev cX4_costFrom : ByteArray := prog_6_method_7_code
def yX4_costFrom : MethodName := ⟨RX4, "costFrom", "(II)I"⟩
abbrev cX4_pairCost : ByteArray := prog_6_method_8_code
def yX4_pairCost : MethodName := ⟨RX4, "pairCost", "(II)I"⟩
def RX5 : String := "NinePence$Pairs"
def TX5 : u_T := fun k => match k with
  | 0 => ("NinePence$Pairs", "many", "J", false)
  | 1 => ("NinePence$Pairs", "weights", "J", false)
  | 2 => ("NinePence$Pairs", "first", "I", false)
  | 3 => ("NinePence$Pairs", "second", "I", false)
  | 4 => ("NinePence$Pairs", "greatest", "J", false)
  | _ => ("NinePence$Pairs", "slips", "LNinePence$Slips;", true)
def tyX5 : Nat → FieldType := fun k => match k with
  | 0 => .long
  | 1 => .long
  | 2 => .int
  | 3 => .int
  | 4 => .long
  | _ => .object "NinePence$Slips"
abbrev cX5_init : ByteArray := prog_7_method_1_code
def yX5_init : MethodName := ⟨RX5, "<init>", "(LNinePence$Slips;)V"⟩
abbrev cX5_find : ByteArray := prog_7_method_2_code
def yX5_find : MethodName := ⟨RX5, "find", "(I)V"⟩
abbrev cX5_findWith : ByteArray := prog_7_method_3_code
def yX5_findWith : MethodName := ⟨RX5, "findWith", "(II)V"⟩
abbrev cX5_take : ByteArray := prog_7_method_4_code
def yX5_take : MethodName := ⟨RX5, "take", "(II)V"⟩
def RX6 : String := "NinePence$Rows"
def TX6 : u_T := fun k => match k with
  | _ => ("", "", "", false)
def tyX6 : Nat → FieldType := fun k => match k with
  | _ => .int
abbrev cX6_at : ByteArray := prog_8_method_2_code
def yX6_at : MethodName := ⟨RX6, "at", "([II)I"⟩
abbrev cX6_set : ByteArray := prog_8_method_3_code
def yX6_set : MethodName := ⟨RX6, "set", "([III)V"⟩
def RX7 : String := "NinePence$Singles"
def TX7 : u_T := fun k => match k with
  | 0 => ("NinePence$Singles", "size", "I", false)
  | 1 => ("NinePence$Singles", "weights", "J", false)
  | 2 => ("NinePence$Singles", "ledger", "LNinePence$Ledger;", true)
  | 3 => ("NinePence$Singles", "slips", "LNinePence$Slips;", true)
  | 4 => ("NinePence$Singles", "narrow", "Z", true)
  | 5 => ("NinePence$Singles", "rows", "[I", true)
  | _ => ("NinePence$Singles", "outs", "[I", true)
def tyX7 : Nat → FieldType := fun k => match k with
  | 0 => .int
  | 1 => .long
  | 2 => .object "NinePence$Ledger"
  | 3 => .object "NinePence$Slips"
  | 4 => .boolean
  | 5 => .array .int
  | _ => .array .int
abbrev cX7_init : ByteArray := prog_9_method_1_code
def yX7_init : MethodName := ⟨RX7, "<init>", "(LNinePence$Ledger;LNinePence$Slips;Z)V"⟩
abbrev cX7_slip : ByteArray := prog_9_method_2_code
def yX7_slip : MethodName := ⟨RX7, "slip", "(I)I"⟩
abbrev cX7_build : ByteArray := prog_9_method_3_code
def yX7_build : MethodName := ⟨RX7, "build", "()V"⟩
abbrev cX7_manyOf : ByteArray := prog_9_method_4_code
def yX7_manyOf : MethodName := ⟨RX7, "manyOf", "(I)I"⟩
abbrev cX7_weightsOfHand : ByteArray := prog_9_method_5_code
def yX7_weightsOfHand : MethodName := ⟨RX7, "weightsOfHand", "(I)J"⟩
abbrev cX7_leavesNoPageOff : ByteArray := prog_9_method_6_code
def yX7_leavesNoPageOff : MethodName := ⟨RX7, "leavesNoPageOff", "(I)Z"⟩
def RX8 : String := "NinePence$Slips"
def TX8 : u_T := fun k => match k with
  | 0 => ("NinePence$Slips", "size", "I", false)
  | 1 => ("NinePence$Slips", "ledger", "LNinePence$Ledger;", true)
  | 2 => ("NinePence$Slips", "kinds", "[I", true)
  | 3 => ("NinePence$Slips", "places", "[I", true)
  | 4 => ("NinePence$Slips", "shoulds", "[I", true)
  | 5 => ("NinePence$Slips", "changes", "[I", true)
  | 6 => ("NinePence$Slips", "weights", "[I", true)
  | 7 => ("NinePence$Slips", "heads", "[I", true)
  | _ => ("NinePence$Slips", "nexts", "[I", true)
def tyX8 : Nat → FieldType := fun k => match k with
  | 0 => .int
  | 1 => .object "NinePence$Ledger"
  | 2 => .array .int
  | 3 => .array .int
  | 4 => .array .int
  | 5 => .array .int
  | 6 => .array .int
  | 7 => .array .int
  | _ => .array .int
abbrev cX8_init : ByteArray := prog_10_method_1_code
def yX8_init : MethodName := ⟨RX8, "<init>", "(LNinePence$Ledger;)V"⟩
abbrev cX8_kind : ByteArray := prog_10_method_2_code
def yX8_kind : MethodName := ⟨RX8, "kind", "(I)I"⟩
abbrev cX8_place : ByteArray := prog_10_method_3_code
def yX8_place : MethodName := ⟨RX8, "place", "(I)I"⟩
abbrev cX8_change : ByteArray := prog_10_method_4_code
def yX8_change : MethodName := ⟨RX8, "change", "(I)I"⟩
abbrev cX8_weight : ByteArray := prog_10_method_5_code
def yX8_weight : MethodName := ⟨RX8, "weight", "(I)I"⟩
abbrev cX8_told : ByteArray := prog_10_method_6_code
def yX8_told : MethodName := ⟨RX8, "told", "(II)I"⟩
abbrev cX8_pageOf : ByteArray := prog_10_method_7_code
def yX8_pageOf : MethodName := ⟨RX8, "pageOf", "(I)I"⟩
abbrev cX8_standApart : ByteArray := prog_10_method_8_code
def yX8_standApart : MethodName := ⟨RX8, "standApart", "(II)Z"⟩
abbrev cX8_chainOf : ByteArray := prog_10_method_9_code
def yX8_chainOf : MethodName := ⟨RX8, "chainOf", "(I)I"⟩
abbrev cX8_nextInChain : ByteArray := prog_10_method_10_code
def yX8_nextInChain : MethodName := ⟨RX8, "nextInChain", "(I)I"⟩
abbrev cX8_build : ByteArray := prog_10_method_11_code
def yX8_build : MethodName := ⟨RX8, "build", "()V"⟩
abbrev cX8_oddsAt : ByteArray := prog_10_method_12_code
def yX8_oddsAt : MethodName := ⟨RX8, "oddsAt", "(II)I"⟩
abbrev cX8_putTurns : ByteArray := prog_10_method_13_code
def yX8_putTurns : MethodName := ⟨RX8, "putTurns", "(III)V"⟩
abbrev cX8_putFigures : ByteArray := prog_10_method_14_code
def yX8_putFigures : MethodName := ⟨RX8, "putFigures", "(III)V"⟩
abbrev cX8_putMissed : ByteArray := prog_10_method_15_code
def yX8_putMissed : MethodName := ⟨RX8, "putMissed", "(I)V"⟩
abbrev cX8_putCarries : ByteArray := prog_10_method_16_code
def yX8_putCarries : MethodName := ⟨RX8, "putCarries", "(I)V"⟩
abbrev cX8_putSum : ByteArray := prog_10_method_17_code
def yX8_putSum : MethodName := ⟨RX8, "putSum", "(IIII)V"⟩
abbrev cX8_put : ByteArray := prog_10_method_18_code
def yX8_put : MethodName := ⟨RX8, "put", "(IIIII)V"⟩
abbrev cX8_chain : ByteArray := prog_10_method_19_code
def yX8_chain : MethodName := ⟨RX8, "chain", "()V"⟩
def RX9 : String := "NinePence$Text"
def TX9 : u_T := fun k => match k with
  | 0 => ("NinePence$Text", "length", "I", false)
  | 1 => ("NinePence$Text", "lines", "I", false)
  | 2 => ("NinePence$Text", "bytes", "[I", true)
  | 3 => ("NinePence$Text", "tokens", "[I", true)
  | 4 => ("NinePence$Text", "begins", "[I", true)
  | 5 => ("NinePence$Text", "values", "[I", true)
  | 6 => ("NinePence$Text", "words", "[I", true)
  | 7 => ("NinePence$Text", "numbers", "[I", true)
  | _ => ("NinePence$Text", "next", "I", false)
def tyX9 : Nat → FieldType := fun k => match k with
  | 0 => .int
  | 1 => .int
  | 2 => .array .int
  | 3 => .array .int
  | 4 => .array .int
  | 5 => .array .int
  | 6 => .array .int
  | 7 => .array .int
  | _ => .int
abbrev cX9_init : ByteArray := prog_11_method_1_code
def yX9_init : MethodName := ⟨RX9, "<init>", "()V"⟩
abbrev cX9_append : ByteArray := prog_11_method_2_code
def yX9_append : MethodName := ⟨RX9, "append", "(I)V"⟩
abbrev cX9_word : ByteArray := prog_11_method_3_code
def yX9_word : MethodName := ⟨RX9, "word", "(I)I"⟩
abbrev cX9_number : ByteArray := prog_11_method_4_code
def yX9_number : MethodName := ⟨RX9, "number", "(II)I"⟩
abbrev cX9_read : ByteArray := prog_11_method_5_code
def yX9_read : MethodName := ⟨RX9, "read", "()I"⟩
abbrev cX9_readLine : ByteArray := prog_11_method_6_code
def yX9_readLine : MethodName := ⟨RX9, "readLine", "(I)Z"⟩
abbrev cX9_readDue : ByteArray := prog_11_method_7_code
def yX9_readDue : MethodName := ⟨RX9, "readDue", "(I)Z"⟩
abbrev cX9_takeNumber : ByteArray := prog_11_method_8_code
def yX9_takeNumber : MethodName := ⟨RX9, "takeNumber", "(IIII)Z"⟩
abbrev cX9_split : ByteArray := prog_11_method_9_code
def yX9_split : MethodName := ⟨RX9, "split", "()V"⟩
abbrev cX9_isBegin : ByteArray := prog_11_method_10_code
def yX9_isBegin : MethodName := ⟨RX9, "isBegin", "(I)Z"⟩
abbrev cX9_setToken : ByteArray := prog_11_method_11_code
def yX9_setToken : MethodName := ⟨RX9, "setToken", "(II)V"⟩
abbrev cX9_isRow : ByteArray := prog_11_method_12_code
def yX9_isRow : MethodName := ⟨RX9, "isRow", "(I)Z"⟩
abbrev cX9_sortAt : ByteArray := prog_11_method_13_code
def yX9_sortAt : MethodName := ⟨RX9, "sortAt", "(I)I"⟩
abbrev cX9_valueOf : ByteArray := prog_11_method_14_code
def yX9_valueOf : MethodName := ⟨RX9, "valueOf", "(II)I"⟩
abbrev cX9_wordOf : ByteArray := prog_11_method_15_code
def yX9_wordOf : MethodName := ⟨RX9, "wordOf", "(II)I"⟩
abbrev cX9_is : ByteArray := prog_11_method_16_code
def yX9_is : MethodName := ⟨RX9, "is", "(Ljava/lang/String;II)Z"⟩
def RX10 : String := "NinePence"
def TX10 : u_T := fun k => match k with
  | 0 => ("NinePence", "text", "LNinePence$Text;", true)
  | 1 => ("NinePence", "ledger", "LNinePence$Ledger;", true)
  | 2 => ("NinePence", "slips", "LNinePence$Slips;", true)
  | 3 => ("NinePence", "singles", "LNinePence$Singles;", true)
  | 4 => ("NinePence", "narrowed", "LNinePence$Singles;", true)
  | 5 => ("NinePence", "outPairs", "LNinePence$Pairs;", true)
  | 6 => ("NinePence", "hidden", "LNinePence$Pairs;", true)
  | 7 => ("NinePence", "wideLook", "LNinePence$Look;", true)
  | 8 => ("NinePence", "narrowLook", "LNinePence$Look;", true)
  | 9 => ("NinePence", "otherBook", "LNinePence$OtherBook;", true)
  | _ => ("NinePence", "workedOutAt", "I", false)
def tyX10 : Nat → FieldType := fun k => match k with
  | 0 => .object "NinePence$Text"
  | 1 => .object "NinePence$Ledger"
  | 2 => .object "NinePence$Slips"
  | 3 => .object "NinePence$Singles"
  | 4 => .object "NinePence$Singles"
  | 5 => .object "NinePence$Pairs"
  | 6 => .object "NinePence$Pairs"
  | 7 => .object "NinePence$Look"
  | 8 => .object "NinePence$Look"
  | 9 => .object "NinePence$OtherBook"
  | _ => .int
abbrev cX10_init : ByteArray := prog_1_method_1_code
def yX10_init : MethodName := ⟨RX10, "<init>", "()V"⟩
abbrev cX10_write : ByteArray := prog_1_method_2_code
def yX10_write : MethodName := ⟨RX10, "write", "(JI)I"⟩
abbrev cX10_erase : ByteArray := prog_1_method_3_code
def yX10_erase : MethodName := ⟨RX10, "erase", "()I"⟩
abbrev cX10_fault : ByteArray := prog_1_method_4_code
def yX10_fault : MethodName := ⟨RX10, "fault", "()I"⟩
abbrev cX10_book : ByteArray := prog_1_method_5_code
def yX10_book : MethodName := ⟨RX10, "book", "()I"⟩
abbrev cX10_entry : ByteArray := prog_1_method_6_code
def yX10_entry : MethodName := ⟨RX10, "entry", "(II)I"⟩
abbrev cX10_out : ByteArray := prog_1_method_7_code
def yX10_out : MethodName := ⟨RX10, "out", "(I)I"⟩
abbrev cX10_off : ByteArray := prog_1_method_8_code
def yX10_off : MethodName := ⟨RX10, "off", "(I)I"⟩
abbrev cX10_odds : ByteArray := prog_1_method_9_code
def yX10_odds : MethodName := ⟨RX10, "odds", "(II)I"⟩
abbrev cX10_learn : ByteArray := prog_1_method_10_code
def yX10_learn : MethodName := ⟨RX10, "learn", "(II)I"⟩
abbrev cX10_mend : ByteArray := prog_1_method_11_code
def yX10_mend : MethodName := ⟨RX10, "mend", "(III)I"⟩
abbrev cX10_strike : ByteArray := prog_1_method_12_code
def yX10_strike : MethodName := ⟨RX10, "strike", "(I)I"⟩
abbrev cX10_signs : ByteArray := prog_1_method_13_code
def yX10_signs : MethodName := ⟨RX10, "signs", "()I"⟩
abbrev cX10_one : ByteArray := prog_1_method_14_code
def yX10_one : MethodName := ⟨RX10, "one", "(IIZ)I"⟩
abbrev cX10_ofKind : ByteArray := prog_1_method_15_code
def yX10_ofKind : MethodName := ⟨RX10, "ofKind", "(I)I"⟩
abbrev cX10_two : ByteArray := prog_1_method_16_code
def yX10_two : MethodName := ⟨RX10, "two", "(I)J"⟩
abbrev cX10_hide : ByteArray := prog_1_method_17_code
def yX10_hide : MethodName := ⟨RX10, "hide", "(I)J"⟩
abbrev cX10_pair : ByteArray := prog_1_method_18_code
def yX10_pair : MethodName := ⟨RX10, "pair", "(ZI)I"⟩
abbrev cX10_chance : ByteArray := prog_1_method_19_code
def yX10_chance : MethodName := ⟨RX10, "chance", "(II)J"⟩
abbrev cX10_whose : ByteArray := prog_1_method_20_code
def yX10_whose : MethodName := ⟨RX10, "whose", "(II)I"⟩
abbrev cX10_look : ByteArray := prog_1_method_21_code
def yX10_look : MethodName := ⟨RX10, "look", "(IZ)I"⟩
abbrev cX10_mean : ByteArray := prog_1_method_22_code
def yX10_mean : MethodName := ⟨RX10, "mean", "(ZI)I"⟩
abbrev cX10_judge : ByteArray := prog_1_method_23_code
def yX10_judge : MethodName := ⟨RX10, "judge", "(III)I"⟩
abbrev cX10_other : ByteArray := prog_1_method_24_code
def yX10_other : MethodName := ⟨RX10, "other", "(I)I"⟩
abbrev cX10_match : ByteArray := prog_1_method_25_code
def yX10_match : MethodName := ⟨RX10, "match", "(II)I"⟩
abbrev cX10_count : ByteArray := prog_1_method_26_code
def yX10_count : MethodName := ⟨RX10, "count", "(I)I"⟩
abbrev cX10_isSide : ByteArray := prog_1_method_27_code
def yX10_isSide : MethodName := ⟨RX10, "isSide", "(I)Z"⟩
abbrev cX10_isSum : ByteArray := prog_1_method_28_code
def yX10_isSum : MethodName := ⟨RX10, "isSum", "(I)Z"⟩
abbrev cX10_isHand : ByteArray := prog_1_method_29_code
def yX10_isHand : MethodName := ⟨RX10, "isHand", "(I)Z"⟩
abbrev cX10_isPage : ByteArray := prog_1_method_30_code
def yX10_isPage : MethodName := ⟨RX10, "isPage", "(I)Z"⟩
abbrev cX10_isEntryKind : ByteArray := prog_1_method_31_code
def yX10_isEntryKind : MethodName := ⟨RX10, "isEntryKind", "(I)Z"⟩
abbrev cX10_isPart : ByteArray := prog_1_method_32_code
def yX10_isPart : MethodName := ⟨RX10, "isPart", "(I)Z"⟩
abbrev cX10_isNineTimesOrTenths : ByteArray := prog_1_method_33_code
def yX10_isNineTimesOrTenths : MethodName := ⟨RX10, "isNineTimesOrTenths", "(I)Z"⟩
abbrev cX10_workOut : ByteArray := prog_1_method_34_code
def yX10_workOut : MethodName := ⟨RX10, "workOut", "()V"⟩
def RX11 : String := "NinePenceModel"
def TX11 : u_T := fun k => match k with
  | 0 => ("NinePenceModel", "text", "[I", true)
  | 1 => ("NinePenceModel", "length", "I", false)
  | 2 => ("NinePenceModel", "read", "[I", true)
  | 3 => ("NinePenceModel", "readMany", "I", false)
  | 4 => ("NinePenceModel", "entries", "[I", true)
  | 5 => ("NinePenceModel", "entryMany", "I", false)
  | 6 => ("NinePenceModel", "dues", "[I", true)
  | 7 => ("NinePenceModel", "dueSet", "I", false)
  | 8 => ("NinePenceModel", "odds", "[I", true)
  | 9 => ("NinePenceModel", "reads", "[I", true)
  | 10 => ("NinePenceModel", "missing", "I", false)
  | 11 => ("NinePenceModel", "carrying", "I", false)
  | 12 => ("NinePenceModel", "second", "I", false)
  | 13 => ("NinePenceModel", "others", "[I", true)
  | 14 => ("NinePenceModel", "otherMany", "I", false)
  | 15 => ("NinePenceModel", "at", "I", false)
  | 16 => ("NinePenceModel", "place", "I", false)
  | 17 => ("NinePenceModel", "end", "I", false)
  | 18 => ("NinePenceModel", "kinds", "[I", true)
  | 19 => ("NinePenceModel", "places", "[I", true)
  | 20 => ("NinePenceModel", "shoulds", "[I", true)
  | 21 => ("NinePenceModel", "changes", "[I", true)
  | 22 => ("NinePenceModel", "weights", "[I", true)
  | 23 => ("NinePenceModel", "slips", "I", false)
  | 24 => ("NinePenceModel", "ones", "[I", true)
  | 25 => ("NinePenceModel", "oneMany", "I", false)
  | 26 => ("NinePenceModel", "pairMany", "J", false)
  | 27 => ("NinePenceModel", "pairWeights", "J", false)
  | 28 => ("NinePenceModel", "bestFirst", "I", false)
  | 29 => ("NinePenceModel", "bestSecond", "I", false)
  | 30 => ("NinePenceModel", "owned", "[I", true)
  | 31 => ("NinePenceModel", "looks", "[I", true)
  | 32 => ("NinePenceModel", "lookMany", "I", false)
  | _ => ("NinePenceModel", "rest", "[I", true)
def tyX11 : Nat → FieldType := fun k => match k with
  | 0 => .array .int
  | 1 => .int
  | 2 => .array .int
  | 3 => .int
  | 4 => .array .int
  | 5 => .int
  | 6 => .array .int
  | 7 => .int
  | 8 => .array .int
  | 9 => .array .int
  | 10 => .int
  | 11 => .int
  | 12 => .int
  | 13 => .array .int
  | 14 => .int
  | 15 => .int
  | 16 => .int
  | 17 => .int
  | 18 => .array .int
  | 19 => .array .int
  | 20 => .array .int
  | 21 => .array .int
  | 22 => .array .int
  | 23 => .int
  | 24 => .array .int
  | 25 => .int
  | 26 => .long
  | 27 => .long
  | 28 => .int
  | 29 => .int
  | 30 => .array .int
  | 31 => .array .int
  | 32 => .int
  | _ => .array .int
abbrev cX11_init : ByteArray := prog_13_method_1_code
def yX11_init : MethodName := ⟨RX11, "<init>", "()V"⟩
abbrev cX11_in : ByteArray := prog_13_method_2_code
def yX11_in : MethodName := ⟨RX11, "in", "(JJJ)Z"⟩
abbrev cX11_write : ByteArray := prog_13_method_3_code
def yX11_write : MethodName := ⟨RX11, "write", "(JI)I"⟩
abbrev cX11_erase : ByteArray := prog_13_method_4_code
def yX11_erase : MethodName := ⟨RX11, "erase", "()I"⟩
abbrev cX11_sort : ByteArray := prog_13_method_5_code
def yX11_sort : MethodName := ⟨RX11, "sort", "(I)I"⟩
abbrev cX11_token : ByteArray := prog_13_method_6_code
def yX11_token : MethodName := ⟨RX11, "token", "()V"⟩
abbrev cX11_isWord : ByteArray := prog_13_method_7_code
def yX11_isWord : MethodName := ⟨RX11, "isWord", "(II)Z"⟩
abbrev cX11_value : ByteArray := prog_13_method_8_code
def yX11_value : MethodName := ⟨RX11, "value", "()I"⟩
abbrev cX11_isNumber : ByteArray := prog_13_method_9_code
def yX11_isNumber : MethodName := ⟨RX11, "isNumber", "()Z"⟩
abbrev cX11_reads : ByteArray := prog_13_method_10_code
def yX11_reads : MethodName := ⟨RX11, "reads", "(III)Z"⟩
abbrev cX11_readsPage : ByteArray := prog_13_method_11_code
def yX11_readsPage : MethodName := ⟨RX11, "readsPage", "()Z"⟩
abbrev cX11_readsRest : ByteArray := prog_13_method_12_code
def yX11_readsRest : MethodName := ⟨RX11, "readsRest", "(I)Z"⟩
abbrev cX11_readsLine : ByteArray := prog_13_method_13_code
def yX11_readsLine : MethodName := ⟨RX11, "readsLine", "()Z"⟩
abbrev cX11_fault : ByteArray := prog_13_method_14_code
def yX11_fault : MethodName := ⟨RX11, "fault", "()I"⟩
abbrev cX11_lay : ByteArray := prog_13_method_15_code
def yX11_lay : MethodName := ⟨RX11, "lay", "(I)V"⟩
abbrev cX11_book : ByteArray := prog_13_method_16_code
def yX11_book : MethodName := ⟨RX11, "book", "()I"⟩
abbrev cX11_isEntry : ByteArray := prog_13_method_17_code
def yX11_isEntry : MethodName := ⟨RX11, "isEntry", "(I)Z"⟩
abbrev cX11_entry : ByteArray := prog_13_method_18_code
def yX11_entry : MethodName := ⟨RX11, "entry", "(II)I"⟩
abbrev cX11_outOf : ByteArray := prog_13_method_19_code
def yX11_outOf : MethodName := ⟨RX11, "outOf", "(I)I"⟩
abbrev cX11_out : ByteArray := prog_13_method_20_code
def yX11_out : MethodName := ⟨RX11, "out", "(I)I"⟩
abbrev cX11_hasDue : ByteArray := prog_13_method_21_code
def yX11_hasDue : MethodName := ⟨RX11, "hasDue", "(I)Z"⟩
abbrev cX11_offOf : ByteArray := prog_13_method_22_code
def yX11_offOf : MethodName := ⟨RX11, "offOf", "(I)I"⟩
abbrev cX11_off : ByteArray := prog_13_method_23_code
def yX11_off : MethodName := ⟨RX11, "off", "(I)I"⟩
abbrev cX11_isHand : ByteArray := prog_13_method_24_code
def yX11_isHand : MethodName := ⟨RX11, "isHand", "(I)Z"⟩
abbrev cX11_odds : ByteArray := prog_13_method_25_code
def yX11_odds : MethodName := ⟨RX11, "odds", "(II)I"⟩
abbrev cX11_learn : ByteArray := prog_13_method_26_code
def yX11_learn : MethodName := ⟨RX11, "learn", "(II)I"⟩
abbrev cX11_mend : ByteArray := prog_13_method_27_code
def yX11_mend : MethodName := ⟨RX11, "mend", "(III)I"⟩
abbrev cX11_strike : ByteArray := prog_13_method_28_code
def yX11_strike : MethodName := ⟨RX11, "strike", "(I)I"⟩
abbrev cX11_add : ByteArray := prog_13_method_29_code
def yX11_add : MethodName := ⟨RX11, "add", "(IIIII)V"⟩
abbrev cX11_changeBy : ByteArray := prog_13_method_30_code
def yX11_changeBy : MethodName := ⟨RX11, "changeBy", "(II)I"⟩
abbrev cX11_power : ByteArray := prog_13_method_31_code
def yX11_power : MethodName := ⟨RX11, "power", "(I)I"⟩
abbrev cX11_figures : ByteArray := prog_13_method_32_code
def yX11_figures : MethodName := ⟨RX11, "figures", "(I)I"⟩
abbrev cX11_figure : ByteArray := prog_13_method_33_code
def yX11_figure : MethodName := ⟨RX11, "figure", "(II)I"⟩
abbrev cX11_turned : ByteArray := prog_13_method_34_code
def yX11_turned : MethodName := ⟨RX11, "turned", "(II)I"⟩
abbrev cX11_isTwice : ByteArray := prog_13_method_35_code
def yX11_isTwice : MethodName := ⟨RX11, "isTwice", "(I)Z"⟩
abbrev cX11_oddsOf : ByteArray := prog_13_method_36_code
def yX11_oddsOf : MethodName := ⟨RX11, "oddsOf", "(II)I"⟩
abbrev cX11_layFigures : ByteArray := prog_13_method_37_code
def yX11_layFigures : MethodName := ⟨RX11, "layFigures", "(I)V"⟩
abbrev cX11_layKind : ByteArray := prog_13_method_38_code
def yX11_layKind : MethodName := ⟨RX11, "layKind", "(II)V"⟩
abbrev cX11_isUsed : ByteArray := prog_13_method_39_code
def yX11_isUsed : MethodName := ⟨RX11, "isUsed", "(I)Z"⟩
abbrev cX11_size : ByteArray := prog_13_method_40_code
def yX11_size : MethodName := ⟨RX11, "size", "(I)I"⟩
abbrev cX11_laySlips : ByteArray := prog_13_method_41_code
def yX11_laySlips : MethodName := ⟨RX11, "laySlips", "()V"⟩
abbrev cX11_isNarrow : ByteArray := prog_13_method_42_code
def yX11_isNarrow : MethodName := ⟨RX11, "isNarrow", "(I)Z"⟩
abbrev cX11_layOnes : ByteArray := prog_13_method_43_code
def yX11_layOnes : MethodName := ⟨RX11, "layOnes", "(Z)V"⟩
abbrev cX11_oneWeights : ByteArray := prog_13_method_44_code
def yX11_oneWeights : MethodName := ⟨RX11, "oneWeights", "()J"⟩
abbrev cX11_signs : ByteArray := prog_13_method_45_code
def yX11_signs : MethodName := ⟨RX11, "signs", "()I"⟩
abbrev cX11_one : ByteArray := prog_13_method_46_code
def yX11_one : MethodName := ⟨RX11, "one", "(IIZ)I"⟩
abbrev cX11_ofKind : ByteArray := prog_13_method_47_code
def yX11_ofKind : MethodName := ⟨RX11, "ofKind", "(I)I"⟩
abbrev cX11_arePair : ByteArray := prog_13_method_48_code
def yX11_arePair : MethodName := ⟨RX11, "arePair", "(II)Z"⟩
abbrev cX11_layPairs : ByteArray := prog_13_method_49_code
def yX11_layPairs : MethodName := ⟨RX11, "layPairs", "(I)V"⟩
abbrev cX11_layTwo : ByteArray := prog_13_method_50_code
def yX11_layTwo : MethodName := ⟨RX11, "layTwo", "(Z)V"⟩
abbrev cX11_two : ByteArray := prog_13_method_51_code
def yX11_two : MethodName := ⟨RX11, "two", "(I)J"⟩
abbrev cX11_hide : ByteArray := prog_13_method_52_code
def yX11_hide : MethodName := ⟨RX11, "hide", "(I)J"⟩
abbrev cX11_pair : ByteArray := prog_13_method_53_code
def yX11_pair : MethodName := ⟨RX11, "pair", "(ZI)I"⟩
abbrev cX11_divisor : ByteArray := prog_13_method_54_code
def yX11_divisor : MethodName := ⟨RX11, "divisor", "(JJ)J"⟩
abbrev cX11_lowest : ByteArray := prog_13_method_55_code
def yX11_lowest : MethodName := ⟨RX11, "lowest", "(JJI)J"⟩
abbrev cX11_isPart : ByteArray := prog_13_method_56_code
def yX11_isPart : MethodName := ⟨RX11, "isPart", "(I)Z"⟩
abbrev cX11_chance : ByteArray := prog_13_method_57_code
def yX11_chance : MethodName := ⟨RX11, "chance", "(II)J"⟩
abbrev cX11_whose : ByteArray := prog_13_method_58_code
def yX11_whose : MethodName := ⟨RX11, "whose", "(II)I"⟩
abbrev cX11_isAhead : ByteArray := prog_13_method_59_code
def yX11_isAhead : MethodName := ⟨RX11, "isAhead", "(II)Z"⟩
abbrev cX11_layLooks : ByteArray := prog_13_method_60_code
def yX11_layLooks : MethodName := ⟨RX11, "layLooks", "(Z)V"⟩
abbrev cX11_look : ByteArray := prog_13_method_61_code
def yX11_look : MethodName := ⟨RX11, "look", "(IZ)I"⟩
abbrev cX11_mean : ByteArray := prog_13_method_62_code
def yX11_mean : MethodName := ⟨RX11, "mean", "(ZI)I"⟩
abbrev cX11_isTurned : ByteArray := prog_13_method_63_code
def yX11_isTurned : MethodName := ⟨RX11, "isTurned", "(II)Z"⟩
abbrev cX11_isFigure : ByteArray := prog_13_method_64_code
def yX11_isFigure : MethodName := ⟨RX11, "isFigure", "(II)Z"⟩
abbrev cX11_judge : ByteArray := prog_13_method_65_code
def yX11_judge : MethodName := ⟨RX11, "judge", "(III)I"⟩
abbrev cX11_other : ByteArray := prog_13_method_66_code
def yX11_other : MethodName := ⟨RX11, "other", "(I)I"⟩
abbrev cX11_cost : ByteArray := prog_13_method_67_code
def yX11_cost : MethodName := ⟨RX11, "cost", "(II)I"⟩
abbrev cX11_costWith : ByteArray := prog_13_method_68_code
def yX11_costWith : MethodName := ⟨RX11, "costWith", "(III)I"⟩
abbrev cX11_layRest : ByteArray := prog_13_method_69_code
def yX11_layRest : MethodName := ⟨RX11, "layRest", "(I)V"⟩
abbrev cX11_match : ByteArray := prog_13_method_70_code
def yX11_match : MethodName := ⟨RX11, "match", "(II)I"⟩
abbrev cX11_count : ByteArray := prog_13_method_71_code
def yX11_count : MethodName := ⟨RX11, "count", "(I)I"⟩
def RJx145de : String := "java/io/Serializable"
def RJx9f9b0 : String := "java/lang/CharSequence"
def RJxb160c : String := "java/lang/Comparable"
def RJ9 : String := "java/lang/Math"
abbrev cJ9_floorMod_7cf53 : ByteArray := prog_14_method_50_code
def yJ9_floorMod_7cf53 : MethodName := ⟨RJ9, "floorMod", "(II)I"⟩
abbrev cJ9_abs_0f7a4 : ByteArray := prog_14_method_59_code
def yJ9_abs_0f7a4 : MethodName := ⟨RJ9, "abs", "(I)I"⟩
abbrev cJ9_min_7cf53 : ByteArray := prog_14_method_69_code
def yJ9_min_7cf53 : MethodName := ⟨RJ9, "min", "(II)I"⟩
def RJ0 : String := "java/lang/String"
abbrev cJ0_length_8abf5 : ByteArray := prog_15_method_54_code
def yJ0_length_8abf5 : MethodName := ⟨RJ0, "length", "()I"⟩
abbrev cJ0_charAt_5068e : ByteArray := prog_15_method_56_code
def yJ0_charAt_5068e : MethodName := ⟨RJ0, "charAt", "(I)C"⟩
abbrev cJ0_coder_7d493 : ByteArray := prog_15_method_152_code
def yJ0_coder_7d493 : MethodName := ⟨RJ0, "coder", "()B"⟩
abbrev cJ0_isLatin1_aae02 : ByteArray := prog_15_method_154_code
def yJ0_isLatin1_aae02 : MethodName := ⟨RJ0, "isLatin1", "()Z"⟩
abbrev cJ0_checkIndex_df160 : ByteArray := prog_15_method_155_code
def yJ0_checkIndex_df160 : MethodName := ⟨RJ0, "checkIndex", "(II)V"⟩
def RJ1 : String := "java/lang/StringLatin1"
abbrev cJ1_charAt_3b067 : ByteArray := prog_16_method_2_code
def yJ1_charAt_3b067 : MethodName := ⟨RJ1, "charAt", "([BI)C"⟩
def RJ2 : String := "java/lang/StringUTF16"
abbrev cJ2_getChar_3b067 : ByteArray := prog_17_method_5_code
def yJ2_getChar_3b067 : MethodName := ⟨RJ2, "getChar", "([BI)C"⟩
abbrev cJ2_length_9d52b : ByteArray := prog_17_method_6_code
def yJ2_length_9d52b : MethodName := ⟨RJ2, "length", "([B)I"⟩
abbrev cJ2_charAt_3b067 : ByteArray := prog_17_method_83_code
def yJ2_charAt_3b067 : MethodName := ⟨RJ2, "charAt", "([BI)C"⟩
abbrev cJ2_checkIndex_2214a : ByteArray := prog_17_method_91_code
def yJ2_checkIndex_2214a : MethodName := ⟨RJ2, "checkIndex", "(I[B)V"⟩
def RJxfd54e : String := "java/lang/constant/Constable"
def RJx3cf43 : String := "java/lang/constant/ConstantDesc"
def RJ7 : String := "java/util/Arrays"
abbrev cJ7_fill_53178 : ByteArray := prog_18_method_103_code
def yJ7_fill_53178 : MethodName := ⟨RJ7, "fill", "([II)V"⟩
def RJ3 : String := "jdk/internal/util/Preconditions"
abbrev cJ3_checkIndex_8e157 : ByteArray := prog_19_method_11_code
def yJ3_checkIndex_8e157 : MethodName := ⟨RJ3, "checkIndex", "(IILjava/util/function/BiFunction;)I"⟩
def RL : String := "NinePenceLaw"
abbrev cL_law : ByteArray := code
abbrev vwCl : List vw_C := [(RX2, TX2, 10), (RX3, TX3, 9), (RX4, TX4, 5), (RX5, TX5, 6), (RX7, TX7, 7), (RX8, TX8, 9), (RX9, TX9, 9), (RX10, TX10, 11), (RX11, TX11, 34)]
end
section
/-! THE ABSTRACT MACHINE: a configuration is pc, locals, operand stack, layout, contents. A reference is a place: below 1000 a cell that the law's run makes (in the order of making), from 1000 on a cell that was there before. -/
abbrev aSt : Type := (Nat → Nat → Int32) × (Nat → Nat → Int64) × (Nat → Nat → Int32)
/-- a cell's shape: an array (kind of elements, length), or an object (its class's place, its fields: (0,0) null, (0,r+1) the place r, (1,_) an int, (2,_) a long) -/
abbrev aSh : Type := (Nat × Nat) ⊕ (Nat × List (Nat × Nat))
abbrev aLay : Type := List aSh
abbrev aCf : Type := Nat × List (Nat × Value) × List Value × aLay × aSt
/-- where all lies: slots of classes, array classes by kind, the address of place 0, the addresses of the old cells -/
abbrev aWg : Type := va_G × (Nat → ClassId) × Nat × (Nat → Nat)
def aI (S : aSt) (k j : Nat) (v : Int32) : aSt := (fun a => if a = k then (fun b => if b = j then v else S.1 k b) else S.1 a, S.2.1, S.2.2)
def aL (S : aSt) (k j : Nat) (v : Int64) : aSt := (S.1, fun a => if a = k then (fun b => if b = j then v else S.2.1 k b) else S.2.1 a, S.2.2)
def aA (S : aSt) (k : Nat) (f : Nat → Int32) : aSt := (S.1, S.2.1, fun a => if a = k then f else S.2.2 a)
def aClr (S : aSt) (k : Nat) : aSt := (fun a => if a = k then (fun _ => 0) else S.1 a, fun a => if a = k then (fun _ => 0) else S.2.1 a, fun a => if a = k then (fun _ => 0) else S.2.2 a)
def aFv (S : aSt) (k j : Nat) (f : Nat × Nat) : Value := match f.1, f.2 with
  | 0, 0 => .null
  | 0, r + 1 => .ref r
  | 1, _ => .int (S.1 k j)
  | _, _ => .long (S.2.1 k j)
def aCv (g : aWg) (v : Value) : Value := match v with
  | .ref k => .ref (if k < 1000 then g.2.2.1 + k else g.2.2.2 (k - 1000))
  | .retAddr _ => if g.2.2.2 20 = 0 then .null else .ref (g.2.2.2 20 - 1)
  | v => v
def aCq (g : aWg) (q : Nat × Value) : Nat × Value := (q.1, aCv g q.2)
def aCell (g : aWg) (S : aSt) (k : Nat) (o : aSh) : va_E := match o with
  | .inl a => .inl (g.2.1 a.1, a.2, .inl (S.2.2 k))
  | .inr a => .inr (a.1, a.2.mapIdx (fun j f => aCv g (aFv S k j f)))
def aWs (g : aWg) (lay : aLay) (S : aSt) : va_W := lay.mapIdx (fun k o => (g.2.2.1 + k, aCell g S k o))
def aAg (g : aWg) : Nat → Prop := fun q => g.2.2.1 ≤ q
def aTy (g : aWg) : List (ClassId × FieldType) := [(g.2.1 0, .int), (g.2.1 1, .boolean)]
theorem aCv_cat (g : aWg) (v : Value) : (aCv g v).category = v.category := by
  cases v <;> first | rfl | (unfold aCv; dsimp only; split <;> rfl)
theorem aWs_get (g : aWg) (lay : aLay) (S : aSt) (k : Nat) : (aWs g lay S)[k]? = lay[k]?.map (fun o => (g.2.2.1 + k, aCell g S k o)) := by
  simp [aWs, List.getElem?_mapIdx]
theorem aWs_at {g : aWg} {lay : aLay} {S : aSt} {k : Nat} {o : aSh} (h : lay[k]? = some o) : (aWs g lay S)[k]? = some (g.2.2.1 + k, aCell g S k o) := by
  rw [aWs_get, h]; rfl
theorem aWs_len (g : aWg) (lay : aLay) (S : aSt) : (aWs g lay S).length = lay.length := by simp [aWs]
theorem aWs_set {g : aWg} {lay : aLay} {S S' : aSt} {k : Nat} {o : aSh} (hk : k < lay.length) (h : ∀ a o', a ≠ k → aCell g S a o' = aCell g S' a o') : (aWs g lay S).set k (g.2.2.1 + k, aCell g S' k o) = aWs g (lay.set k o) S' := by
  apply List.ext_getElem?
  intro i
  rw [aWs_get]
  by_cases hi : i = k
  · subst hi
    rw [List.getElem?_set_self (by rw [aWs_len]; exact hk), List.getElem?_set_self hk]; rfl
  · rw [List.getElem?_set_ne (Ne.symm hi), List.getElem?_set_ne (Ne.symm hi), aWs_get]
    cases lay[i]? with
    | none => rfl
    | some o' => simp only [Option.map_some, h i o' hi]
theorem aLay_set {lay : aLay} {k : Nat} {o : aSh} (h : lay[k]? = some o) : lay.set k o = lay := by
  apply List.ext_getElem?
  intro i
  by_cases hi : i = k
  · subst hi
    rw [List.getElem?_set_self (List.getElem?_eq_some_iff.mp h).1, h]
  · rw [List.getElem?_set_ne (Ne.symm hi)]
theorem aLay_lt {lay : aLay} {k : Nat} {o : aSh} (h : lay[k]? = some o) : k < lay.length := (List.getElem?_eq_some_iff.mp h).1
theorem aD (g : aWg) (lay : aLay) (S : aSt) : va_D (aAg g) (aWs g lay S) := by
  refine ⟨fun i j p q hi hj hpq => ?_, fun k q hk => ?_⟩
  · rw [aWs_get] at hi hj
    cases hli : lay[i]? with
    | none => rw [hli] at hi; cases hi
    | some oi =>
      cases hlj : lay[j]? with
      | none => rw [hlj] at hj; cases hj
      | some oj =>
        rw [hli] at hi; rw [hlj] at hj
        cases hi; cases hj
        have : g.2.2.1 + i = g.2.2.1 + j := hpq
        omega
  · rw [aWs_get] at hk
    cases hl : lay[k]? with
    | none => rw [hl] at hk; cases hk
    | some o =>
      rw [hl] at hk
      cases hk
      exact Nat.le_add_right _ _
/-! the old cells: the table of tens, nine words -/
def aTENS : List Int32 := [1, 10, 100, 1000, 10000, 100000, 1000000]

def aLen : List Nat := [4, 5, 4, 4, 6, 5, 6, 4, 4]
def aByt : List (List Int32) := [[108, 101, 102, 116], [114, 105, 103, 104, 116], [104, 97, 110, 100], [114, 101, 97, 100], [109, 105, 115, 115, 101, 100], [99, 97, 114, 114, 121], [115, 101, 99, 111, 110, 100], [112, 97, 103, 101], [102, 114, 101, 101]]
def aSix : List Nat := [89, 95, 97, 99, 101, 103, 105, 107, 109]
def aStx : List String := ["left", "right", "hand", "read", "missed", "carry", "second", "page", "free"]
/-- the words that hold wherever the tables are as warm -/
def aBase : List Cond := lw_tbl.filter goodWord
def aRo (g : aWg) (U : State) (H : Heap) : Prop :=
  va_T .int (g.2.2.2 1) 7 (fun j => .int (aTENS.getD j 0)) (aAg g) U H ∧ va_Z "NinePence$Figures" "TENS" "[I" (.ref (g.2.2.2 1)) (aAg g) U H ∧ va_Z "java/lang/String" "COMPACT_STRINGS" "Z" (.int 1) (aAg g) U H ∧
  vk_S 9 aLen aByt (fun i => g.2.2.2 (2 + i)) (fun i => g.2.2.2 (11 + i)) (aAg g) U H ∧ (∀ i : Nat, i < 9 → vk_R "NinePence$Text" (aSix.getD i 0) (aStx.getD i "") (g.2.2.2 (2 + i)) U) ∧ va_Nw (.methodLinkNest "NinePence" 11 ⟨"NinePence$Text", "<init>", "()V"⟩ "NinePence") U ∧ va_Z "jdk/internal/util/Preconditions" "SIOOBE_FORMATTER" "Ljava/util/function/BiFunction;" (aCv g (.retAddr 0)) (aAg g) U H
theorem aRo.on {g : aWg} {s U : State} {H : Heap} {locs : List Loc} (h : aRo g s s.heap) (hS : va_S (aAg g) s.heap H locs) (hW : s.WarmedH U.vm) : aRo g U H := by
  obtain ⟨h1, h2, h3, h4, h5, h6, h7⟩ := h
  exact ⟨(h1.kept hS.2.1).moved hW.alike, (h2.kept hS.2.1).moved hW.alike, (h3.kept hS.2.1).moved hW.alike, (h4.kept hS.2.1).moved hW.alike, fun i hi => (h5 i hi).warm hW, h6.warmM hW, (h7.kept hS.2.1).moved hW.alike⟩
theorem aRo.same {g : aWg} {u U : State} {H : Heap} (h : aRo g u H) (hv : U.vm = u.vm) : aRo g U H := by
  obtain ⟨h1, h2, h3, h4, h5, h6, h7⟩ := h
  have hA : u.vm.Alike U.vm := by rw [hv]; exact Vm.Alike.refl _
  exact ⟨h1.moved hA, h2.moved hA, h3.moved hA, h4.moved hA, fun i hi => (h5 i hi).same hv, h6.same rfl hv.symm, h7.moved hA⟩
/-! a method: its class, code, how many locals, whether it is a constructor, its result's type, its room; its tables: instructions; fields (pool number, place of the word, class, field, type); constants; statics (pool number, place of the word, which) -/
abbrev aTab : Type := List (Nat × Instr × Nat) × List (Nat × Nat × Nat × Nat × FieldType) × List (Nat × Nat × Value) × List (Nat × Nat × Nat)
abbrev aM : Type := String × ByteArray × Nat × Bool × Option FieldType × Room × aTab
def aLk {α : Type} : List (Nat × α) → Nat → Option α
  | [], _ => none
  | q :: l, i => if i = q.1 then some q.2 else aLk l i
theorem aLk_mem {α : Type} : ∀ {l : List (Nat × α)} {i : Nat} {a : α}, aLk l i = some a → (i, a) ∈ l
  | [], _, _, h => by cases h
  | q :: l, i, a, h => by
    unfold aLk at h
    split at h
    · rename_i e
      cases h
      subst e
      exact List.mem_cons_self
    · exact List.mem_cons_of_mem _ (aLk_mem h)
def aStr (v : Nat) : Value := .ref (1002 + v)
def aOKd (M : aM) : Bool := M.2.2.2.2.2.2.1.all (fun q => decide (decode M.2.1 q.1 = .ok (q.2.1, q.2.2)))
/-- the fields of the class at a place; 100 is String -/
def aCl (ci : Nat) : Option vw_C := vwCl[ci]?
def aOKf (M : aM) : Bool := M.2.2.2.2.2.2.2.1.all (fun q =>
  (decide (q.2.2.1 = 100) && ((decide (q.2.2.2.1 = 0) && decide (lw_tbl[q.2.1]? = some (.fieldLink M.1 q.1 "java/lang/String" "coder" "B"))) || (decide (q.2.2.2.1 = 1) && decide (lw_tbl[q.2.1]? = some (.fieldLink M.1 q.1 "java/lang/String" "value" "[B"))))) ||
  (match vwCl[q.2.2.1]? with
    | some r => decide (q.2.2.2.1 < r.2.2) && decide (lw_tbl[q.2.1]? = some (.fieldLink M.1 q.1 (r.2.1 q.2.2.2.1).1 (r.2.1 q.2.2.2.1).2.1 (r.2.1 q.2.2.2.1).2.2.1)) && decide (parseFieldDescriptor (r.2.1 q.2.2.2.1).2.2.1 = some q.2.2.2.2)
    | none => false))
def aOKc (M : aM) : Bool := M.2.2.2.2.2.2.2.2.1.all (fun q => match q.2.2 with
  | .int v => decide (lw_tbl[q.2.1]? = some (.constant M.1 q.1 v))
  | .long v => decide (lw_tbl[q.2.1]? = some (.constantLong M.1 q.1 v))
  | .ref v => decide (1002 ≤ v) && decide (v - 1002 < 9) && decide (M.1 = "NinePence$Text") && decide (q.1 = aSix.getD (v - 1002) 0)
  | _ => false)
def aOKs (M : aM) : Bool := M.2.2.2.2.2.2.2.2.2.all (fun q => (decide (q.2.2 = 0) && decide (lw_tbl[q.2.1]? = some (.fieldLink M.1 q.1 "NinePence$Figures" "TENS" "[I"))) || (decide (q.2.2 = 1) && decide (lw_tbl[q.2.1]? = some (.fieldLink M.1 q.1 "java/lang/String" "COMPACT_STRINGS" "Z"))) || (decide (q.2.2 = 2) && decide (lw_tbl[q.2.1]? = some (.fieldLink M.1 q.1 "jdk/internal/util/Preconditions" "SIOOBE_FORMATTER" "Ljava/util/function/BiFunction;"))))
def aOK (M : aM) : Prop := (aOKd M && aOKf M && aOKc M && aOKs M) = true
theorem aOK.d {M : aM} (h : aOK M) : ∀ q ∈ M.2.2.2.2.2.2.1, decode M.2.1 q.1 = .ok (q.2.1, q.2.2) := by
  unfold aOK at h
  simp only [Bool.and_eq_true] at h
  intro q hq
  exact of_decide_eq_true (List.all_eq_true.mp h.1.1.1 q hq)
theorem aOK.f {M : aM} (h : aOK M) : ∀ q ∈ M.2.2.2.2.2.2.2.1,
    (q.2.2.1 = 100 ∧ ((q.2.2.2.1 = 0 ∧ lw_tbl[q.2.1]? = some (.fieldLink M.1 q.1 "java/lang/String" "coder" "B")) ∨ (q.2.2.2.1 = 1 ∧ lw_tbl[q.2.1]? = some (.fieldLink M.1 q.1 "java/lang/String" "value" "[B")))) ∨
    (∃ r, vwCl[q.2.2.1]? = some r ∧ q.2.2.2.1 < r.2.2 ∧ lw_tbl[q.2.1]? = some (.fieldLink M.1 q.1 (r.2.1 q.2.2.2.1).1 (r.2.1 q.2.2.2.1).2.1 (r.2.1 q.2.2.2.1).2.2.1) ∧ parseFieldDescriptor (r.2.1 q.2.2.2.1).2.2.1 = some q.2.2.2.2) := by
  unfold aOK at h
  simp only [Bool.and_eq_true] at h
  intro q hq
  have h1 := List.all_eq_true.mp h.1.1.2 q hq
  rcases (Bool.or_eq_true _ _).mp h1 with h2 | h2
  · left
    simp only [Bool.and_eq_true, Bool.or_eq_true, decide_eq_true_eq] at h2
    exact h2
  · right
    split at h2
    · rename_i r hr
      simp only [Bool.and_eq_true, decide_eq_true_eq] at h2
      exact ⟨r, hr, h2.1.1, h2.1.2, h2.2⟩
    · cases h2
theorem aOK.c {M : aM} (h : aOK M) : ∀ q ∈ M.2.2.2.2.2.2.2.2.1,
    (∃ v, q.2.2 = .int v ∧ lw_tbl[q.2.1]? = some (.constant M.1 q.1 v)) ∨ (∃ v, q.2.2 = .long v ∧ lw_tbl[q.2.1]? = some (.constantLong M.1 q.1 v)) ∨ (∃ v : Nat, v < 9 ∧ q.2.2 = .ref (1002 + v) ∧ M.1 = "NinePence$Text" ∧ q.1 = aSix.getD v 0) := by
  unfold aOK at h
  simp only [Bool.and_eq_true] at h
  intro q hq
  have h1 := List.all_eq_true.mp h.1.2 q hq
  split at h1
  · rename_i v hv
    exact Or.inl ⟨v, hv, of_decide_eq_true h1⟩
  · rename_i v hv
    exact Or.inr (Or.inl ⟨v, hv, of_decide_eq_true h1⟩)
  · rename_i v hv
    simp only [Bool.and_eq_true, decide_eq_true_eq] at h1
    obtain ⟨⟨⟨a1, a2⟩, a3⟩, a4⟩ := h1
    exact Or.inr (Or.inr ⟨v - 1002, a2, by rw [hv, Nat.add_sub_cancel' a1], a3, a4⟩)
  · cases h1
theorem aOK.s {M : aM} (h : aOK M) : ∀ q ∈ M.2.2.2.2.2.2.2.2.2, (q.2.2 = 0 ∧ lw_tbl[q.2.1]? = some (.fieldLink M.1 q.1 "NinePence$Figures" "TENS" "[I")) ∨ (q.2.2 = 1 ∧ lw_tbl[q.2.1]? = some (.fieldLink M.1 q.1 "java/lang/String" "COMPACT_STRINGS" "Z")) ∨ (q.2.2 = 2 ∧ lw_tbl[q.2.1]? = some (.fieldLink M.1 q.1 "jdk/internal/util/Preconditions" "SIOOBE_FORMATTER" "Ljava/util/function/BiFunction;")) := by
  unfold aOK at h
  simp only [Bool.and_eq_true] at h
  intro q hq
  have h1 := List.all_eq_true.mp h.2 q hq
  simp only [Bool.and_eq_true, Bool.or_eq_true, decide_eq_true_eq] at h1
  rcases h1 with (h1 | h1) | h1
  · exact Or.inl h1
  · exact Or.inr (Or.inl h1)
  · exact Or.inr (Or.inr h1)
/-! what stands around a method's run -/
abbrev aC : Type := aWg × Program × Launch × Env × Room × State × MethodId × Array Value × List Frame × Method × Code × (State → Prop)
def aCx (C : aC) (M : aM) : Prop := match C with
  | (g, p, _l, _e, R, s, m, args, _below, meth, c, _Q) =>
    p.tables.exec = Jvm.exec ∧ c.code = M.2.1 ∧ c.maxLocals = M.2.2.1 ∧ s.vm.findClass M.1 = some m.cls ∧ (∀ w ∈ aBase, w.before args s = true) ∧ va_K g.1 vwCl (aTy g) s ∧ aRo g s s.heap ∧ g.2.2.1 ≤ s.heap.size ∧ (M.2.2.2.1 = true → meth.name = "<init>") ∧ meth.locks = false ∧ meth.sig.returnType = M.2.2.2.2.1 ∧ R = M.2.2.2.2.2.1
def aX (C : aC) (M : aM) (k n : Nat) (cf : aCf) : Prop := match C with
  | (g, p, l, e, R, s, m, args, below, meth, c, Q) =>
    ∀ (H : Heap) (ls : Array Slot) (locs : List Loc), va_P g.1 vwCl (aWs g cf.2.2.2.1 cf.2.2.2.2) H → H.size = g.2.2.1 + cf.2.2.2.1.length → lv_has ls M.2.2.1 (cf.2.1.map (aCq g)) → va_S (aAg g) s.heap H locs →
      W p l e R s m args below meth c H locs k n Q (F0 m cf.1 ls (cf.2.2.1.map (aCv g)))
theorem aDc {M : aM} (h : aOK M) {pc : Nat} {ins : Instr} {len : Nat} (hq : aLk M.2.2.2.2.2.2.1 pc = some (ins, len)) : decode M.2.1 pc = .ok (ins, len) := h.d (pc, ins, len) (aLk_mem hq)
theorem aLoc {g : aWg} {ls : Array Slot} {nL : Nat} {lv : List (Nat × Value)} (h : lv_has ls nL (lv.map (aCq g))) {i : Nat} {v : Value} (hv : aLk lv i = some v) : ls[i]? = some (.val (aCv g v)) :=
  h.2.2 (aCq g (i, v)) (List.mem_map.mpr ⟨_, aLk_mem hv, rfl⟩)
theorem aFil1 (g : aWg) (i : Nat) (lv : List (Nat × Value)) : (lv.map (aCq g)).filter (fun q => !(q.1 == i) && !(q.1 + 1 == i && q.2.category == 2)) = (lv.filter (fun q => !(q.1 == i) && !(q.1 + 1 == i && q.2.category == 2))).map (aCq g) := by
  rw [List.filter_map]
  congr 1
  apply List.filter_congr
  intro q _
  simp [aCq, aCv_cat]
theorem aFil2 (g : aWg) (i : Nat) (lv : List (Nat × Value)) : (lv.map (aCq g)).filter (fun q => !(q.1 == i) && (!(q.1 == i + 1) && !(q.1 + 1 == i && q.2.category == 2))) = (lv.filter (fun q => !(q.1 == i) && (!(q.1 == i + 1) && !(q.1 + 1 == i && q.2.category == 2)))).map (aCq g) := by
  rw [List.filter_map]
  congr 1
  apply List.filter_congr
  intro q _
  simp [aCq, aCv_cat]
def aSt1 (i : Nat) (v : Value) (lv : List (Nat × Value)) : List (Nat × Value) := (i, v) :: lv.filter (fun q => !(q.1 == i) && !(q.1 + 1 == i && q.2.category == 2))
def aSt2 (i : Nat) (v : Value) (lv : List (Nat × Value)) : List (Nat × Value) := (i, v) :: lv.filter (fun q => !(q.1 == i) && (!(q.1 == i + 1) && !(q.1 + 1 == i && q.2.category == 2)))
theorem aSt1_map (g : aWg) (i : Nat) (v : Value) (lv : List (Nat × Value)) : (i, aCv g v) :: (lv.map (aCq g)).filter (fun q => !(q.1 == i) && !(q.1 + 1 == i && q.2.category == 2)) = (aSt1 i v lv).map (aCq g) := by
  rw [aFil1]; rfl
theorem aSt2_map (g : aWg) (i : Nat) (v : Value) (lv : List (Nat × Value)) : (i, aCv g v) :: (lv.map (aCq g)).filter (fun q => !(q.1 == i) && (!(q.1 == i + 1) && !(q.1 + 1 == i && q.2.category == 2))) = (aSt2 i v lv).map (aCq g) := by
  rw [aFil2]; rfl
def aPutOK (ty : FieldType) (v : Value) : Bool := match ty, v with
  | .int, .int _ => true
  | .long, .long _ => true
  | .boolean, .int x => x == 0 || x == 1
  | .object _, .ref _ => true
  | .array _, .ref _ => true
  | _, _ => false
theorem aPut_ok {ty : FieldType} {v : Value} (g : aWg) (h : aPutOK ty v = true) : narrow ty (aCv g v) = aCv g v ∧ fits ty (aCv g v) = true := by
  cases ty <;> cases v <;> first | (cases h; done) | exact ⟨rfl, rfl⟩ | skip
  rename_i x
  have hx : x = 0 ∨ x = 1 := by simpa [aPutOK] using h
  rcases hx with rfl | rfl
  · exact ⟨show narrow .boolean (.int 0) = .int 0 by decide, show fits .boolean (.int 0) = true by decide⟩
  · exact ⟨show narrow .boolean (.int 1) = .int 1 by decide, show fits .boolean (.int 1) = true by decide⟩
/-- a field's new value: the layout and the contents behind it -/
def aPut (lay : aLay) (S : aSt) (k ci j : Nat) (fs : List (Nat × Nat)) (v : Value) : Option (aLay × aSt) := match fs[j]?, v with
  | some (1, _), .int x => some (lay, aI S k j x)
  | some (2, _), .long x => some (lay, aL S k j x)
  | some (0, _), .ref r => some (lay.set k (.inr (ci, fs.set j (0, r + 1))), S)
  | _, _ => none
/-- one step of the straight kind -/
def aIns (M : aM) (ins : Instr) (len pc : Nat) (lv : List (Nat × Value)) (st : List Value) (lay : aLay) (S : aSt) : Option aCf := match ins with
  | .iconst i => if len = 1 then some (pc + 1, lv, .int (Int32.ofInt i) :: st, lay, S) else none
  | .bipush i => if len = 2 then some (pc + 2, lv, .int (Int8.ofInt i).toInt32 :: st, lay, S) else none
  | .sipush i => if len = 3 then some (pc + 3, lv, .int (Int16.ofInt i).toInt32 :: st, lay, S) else none
  | .lconst i => if len = 1 then some (pc + 1, lv, .long (Int64.ofNat i.val) :: st, lay, S) else none
  | .iload_n i => match aLk lv i.val with
    | some (.int x) => if len = 1 then some (pc + 1, lv, .int x :: st, lay, S) else none
    | _ => none
  | .iload i => match aLk lv i with
    | some (.int x) => if len = 2 then some (pc + 2, lv, .int x :: st, lay, S) else none
    | _ => none
  | .lload_n i => match aLk lv i.val with
    | some (.long x) => if len = 1 then some (pc + 1, lv, .long x :: st, lay, S) else none
    | _ => none
  | .lload i => match aLk lv i with
    | some (.long x) => if len = 2 then some (pc + 2, lv, .long x :: st, lay, S) else none
    | _ => none
  | .aload_n i => match aLk lv i.val with
    | some (.ref x) => if len = 1 then some (pc + 1, lv, .ref x :: st, lay, S) else none
    | _ => none
  | .aload i => match aLk lv i with
    | some (.ref x) => if len = 2 then some (pc + 2, lv, .ref x :: st, lay, S) else none
    | _ => none
  | .istore_n i => match st with
    | .int x :: r => if len = 1 ∧ i.val < M.2.2.1 then some (pc + 1, aSt1 i.val (.int x) lv, r, lay, S) else none
    | _ => none
  | .istore i => match st with
    | .int x :: r => if len = 2 ∧ i < M.2.2.1 then some (pc + 2, aSt1 i (.int x) lv, r, lay, S) else none
    | _ => none
  | .lstore_n i => match st with
    | .long x :: r => if len = 1 ∧ i.val + 1 < M.2.2.1 then some (pc + 1, aSt2 i.val (.long x) lv, r, lay, S) else none
    | _ => none
  | .lstore i => match st with
    | .long x :: r => if len = 2 ∧ i + 1 < M.2.2.1 then some (pc + 2, aSt2 i (.long x) lv, r, lay, S) else none
    | _ => none
  | .astore_n i => match st with
    | .ref x :: r => if len = 1 ∧ i.val < M.2.2.1 then some (pc + 1, aSt1 i.val (.ref x) lv, r, lay, S) else none
    | _ => none
  | .astore i => match st with
    | .ref x :: r => if len = 2 ∧ i < M.2.2.1 then some (pc + 2, aSt1 i (.ref x) lv, r, lay, S) else none
    | _ => none
  | .iinc i d => match aLk lv i with
    | some (.int x) => if len = 3 ∧ i < M.2.2.1 then some (pc + 3, aSt1 i (.int (x + Int32.ofInt d)) lv, st, lay, S) else none
    | _ => none
  | .iadd => match st with
    | .int y :: .int x :: r => if len = 1 then some (pc + 1, lv, .int (x + y) :: r, lay, S) else none
    | _ => none
  | .isub => match st with
    | .int y :: .int x :: r => if len = 1 then some (pc + 1, lv, .int (x - y) :: r, lay, S) else none
    | _ => none
  | .imul => match st with
    | .int y :: .int x :: r => if len = 1 then some (pc + 1, lv, .int (x * y) :: r, lay, S) else none
    | _ => none
  | .iand => match st with
    | .int y :: .int x :: r => if len = 1 then some (pc + 1, lv, .int (x &&& y) :: r, lay, S) else none
    | _ => none
  | .ior => match st with
    | .int y :: .int x :: r => if len = 1 then some (pc + 1, lv, .int (x ||| y) :: r, lay, S) else none
    | _ => none
  | .ixor => match st with
    | .int y :: .int x :: r => if len = 1 then some (pc + 1, lv, .int (x ^^^ y) :: r, lay, S) else none
    | _ => none
  | .ishl => match st with
    | .int y :: .int x :: r => if len = 1 then some (pc + 1, lv, .int (x <<< (y &&& 31)) :: r, lay, S) else none
    | _ => none
  | .ishr => match st with
    | .int y :: .int x :: r => if len = 1 then some (pc + 1, lv, .int (x >>> (y &&& 31)) :: r, lay, S) else none
    | _ => none
  | .idiv => match st with
    | .int y :: .int x :: r => if len = 1 ∧ ¬ y = 0 then some (pc + 1, lv, .int (x / y) :: r, lay, S) else none
    | _ => none
  | .irem => match st with
    | .int y :: .int x :: r => if len = 1 ∧ ¬ y = 0 then some (pc + 1, lv, .int (x - x / y * y) :: r, lay, S) else none
    | _ => none
  | .ineg => match st with
    | .int x :: r => if len = 1 then some (pc + 1, lv, .int (-x) :: r, lay, S) else none
    | _ => none
  | .i2l => match st with
    | .int x :: r => if len = 1 then some (pc + 1, lv, .long x.toInt64 :: r, lay, S) else none
    | _ => none
  | .l2i => match st with
    | .long x :: r => if len = 1 then some (pc + 1, lv, .int x.toInt32 :: r, lay, S) else none
    | _ => none
  | .i2c => match st with
    | .int x :: r => if len = 1 then some (pc + 1, lv, .int (x.toUInt32 % 65536).toInt32 :: r, lay, S) else none
    | _ => none
  | .ladd => match st with
    | .long y :: .long x :: r => if len = 1 then some (pc + 1, lv, .long (x + y) :: r, lay, S) else none
    | _ => none
  | .lmul => match st with
    | .long y :: .long x :: r => if len = 1 then some (pc + 1, lv, .long (x * y) :: r, lay, S) else none
    | _ => none
  | .land => match st with
    | .long y :: .long x :: r => if len = 1 then some (pc + 1, lv, .long (x &&& y) :: r, lay, S) else none
    | _ => none
  | .lor => match st with
    | .long y :: .long x :: r => if len = 1 then some (pc + 1, lv, .long (x ||| y) :: r, lay, S) else none
    | _ => none
  | .lshl => match st with
    | .int y :: .long x :: r => if len = 1 then some (pc + 1, lv, .long (x <<< (y.toInt64 &&& 63)) :: r, lay, S) else none
    | _ => none
  | .lshr => match st with
    | .int y :: .long x :: r => if len = 1 then some (pc + 1, lv, .long (x >>> (y.toInt64 &&& 63)) :: r, lay, S) else none
    | _ => none
  | .lcmp => match st with
    | .long y :: .long x :: r => if len = 1 then some (pc + 1, lv, .int (lg_cmp x y) :: r, lay, S) else none
    | _ => none
  | .dup => match st with
    | v :: r => if len = 1 ∧ v.category = 1 then some (pc + 1, lv, v :: v :: r, lay, S) else none
    | _ => none
  | .pop => match st with
    | v :: r => if len = 1 ∧ v.category = 1 then some (pc + 1, lv, r, lay, S) else none
    | _ => none
  | .dup2 => match st with
    | v :: u :: r => if len = 1 ∧ v.category = 1 ∧ u.category = 1 then some (pc + 1, lv, v :: u :: v :: u :: r, lay, S) else none
    | _ => none
  | .goto off => if len = 3 ∧ 0 ≤ (pc : Int) + off then some (((pc : Int) + off).toNat, lv, st, lay, S) else none
  | .ldc i => match aLk M.2.2.2.2.2.2.2.2.1 i with
    | some (_, .int v) => if len = 2 then some (pc + 2, lv, .int v :: st, lay, S) else none
    | some (_, .ref v) => if len = 2 then some (pc + 2, lv, .ref v :: st, lay, S) else none
    | _ => none
  | .ldc2_w i => match aLk M.2.2.2.2.2.2.2.2.1 i with
    | some (_, .long v) => if len = 3 then some (pc + 3, lv, .long v :: st, lay, S) else none
    | _ => none
  | .getstatic i => match aLk M.2.2.2.2.2.2.2.2.2 i with
    | some (_, 0) => if len = 3 then some (pc + 3, lv, .ref 1001 :: st, lay, S) else none
    | some (_, 1) => if len = 3 then some (pc + 3, lv, .int 1 :: st, lay, S) else none
    | some (_, 2) => if len = 3 then some (pc + 3, lv, .retAddr 0 :: st, lay, S) else none
    | _ => none
  | .getfield i => match aLk M.2.2.2.2.2.2.2.1 i, st with
    | some (_, ci, j, _), .ref k :: r => if len = 3 then
        (if k < 1000 then (match lay[k]? with
          | some (.inr (cj, fs)) => if ci = cj then (match fs[j]? with
            | some f => some (pc + 3, lv, aFv S k j f :: r, lay, S)
            | none => none) else none
          | _ => none)
        else if ci = 100 ∧ 1002 ≤ k ∧ k < 1011 then some (pc + 3, lv, (if j = 0 then .int 0 else .ref (k + 9)) :: r, lay, S) else none)
      else none
    | _, _ => none
  | .putfield i => match aLk M.2.2.2.2.2.2.2.1 i, st with
    | some (_, ci, j, ty), v :: .ref k :: r => if len = 3 ∧ k < 1000 ∧ aPutOK ty v = true then
        (match lay[k]?, aCl ci with
          | some (.inr (cj, fs)), some (_, T, _) => if ci = cj ∧ ((T j).2.2.2 = false ∨ (M.2.2.2.1 = true ∧ (T j).1 = M.1)) then (match aPut lay S k ci j fs v with
            | some q => some (pc + 3, lv, r, q.1, q.2)
            | none => none) else none
          | _, _ => none)
      else none
    | _, _ => none
  | .arraylength => match st with
    | .ref k :: r => if len = 1 then
        (if k < 1000 then (match lay[k]? with
          | some (.inl a) => if a.1 < 2 then some (pc + 1, lv, .int (Int32.ofNat a.2) :: r, lay, S) else none
          | _ => none)
        else if k = 1001 then some (pc + 1, lv, .int 7 :: r, lay, S)
        else if 1011 ≤ k ∧ k < 1020 then some (pc + 1, lv, .int (Int32.ofNat (aLen.getD (k - 1011) 0)) :: r, lay, S) else none) else none
    | _ => none
  | _ => none
def aStep (M : aM) (cf : aCf) : Option aCf := match aLk M.2.2.2.2.2.2.1 cf.1 with
  | none => none
  | some q => aIns M q.1 q.2 cf.1 cf.2.1 cf.2.2.1 cf.2.2.2.1 cf.2.2.2.2
def aRun : Nat → aM → aCf → Option aCf
  | 0, _, cf => some cf
  | n + 1, M, cf => match aStep M cf with
    | none => none
    | some cf' => aRun n M cf'
theorem aTb {i : Nat} {w : Cond} (h : lw_tbl[i]? = some w) (hg : goodWord w = true) : w ∈ aBase := List.mem_filter.mpr ⟨List.mem_of_getElem? h, hg⟩
theorem aTw {args : Array Value} {s : State} (hts : ∀ w ∈ aBase, w.before args s = true) {i : Nat} {w : Cond} (h : lw_tbl[i]? = some w) (hg : goodWord w = true := by rfl) : w.before args s = true := hts w (aTb h hg)
theorem aCls : ∀ q ∈ vwCl, (∀ w ∈ u_ws q.1 q.2.1 q.2.2, w ∈ aBase) ∧ (∀ k, k < q.2.2 → parseFieldDescriptor (q.2.1 k).2.2.1 = some ((parseFieldDescriptor (q.2.1 k).2.2.1).getD .int)) ∧ (∀ a, a < q.2.2 → ∀ b, b < q.2.2 → a ≠ b → (q.2.1 a).2.1 ≠ (q.2.1 b).2.1) := by decide +kernel
theorem aCvR (g : aWg) {k : Nat} (h : k < 1000) : aCv g (.ref k) = .ref (g.2.2.1 + k) := by
  show Value.ref (if k < 1000 then _ else _) = _
  rw [if_pos h]
theorem aCvO (g : aWg) {k : Nat} (h : 1000 ≤ k) : aCv g (.ref k) = .ref (g.2.2.2 (k - 1000)) := by
  show Value.ref (if k < 1000 then _ else _) = _
  rw [if_neg (by omega)]
theorem aRef2 (g : aWg) (v : Nat) : aCv g (.ref (1002 + v)) = .ref (g.2.2.2 (2 + v)) := by
  rw [aCvO g (by omega), show 1002 + v - 1000 = 2 + v by omega]
theorem aRefS (g : aWg) (k : Nat) (h2 : 1002 ≤ k) (h3 : k < 1011) : k - 1002 < 9 ∧ aCv g (.ref k) = .ref (g.2.2.2 (2 + (k - 1002))) ∧ aCv g (.ref (k + 9)) = .ref (g.2.2.2 (11 + (k - 1002))) := by
  refine ⟨by omega, ?_, ?_⟩
  · rw [aCvO g (by omega), show k - 1000 = 2 + (k - 1002) by omega]
  · rw [aCvO g (by omega), show k + 9 - 1000 = 11 + (k - 1002) by omega]
theorem aRefB (g : aWg) (k : Nat) (h2 : 1011 ≤ k) (h3 : k < 1020) : k - 1011 < 9 ∧ aCv g (.ref k) = .ref (g.2.2.2 (11 + (k - 1011))) := by
  refine ⟨by omega, ?_⟩
  rw [aCvO g (by omega), show k - 1000 = 11 + (k - 1011) by omega]
theorem aFv_eq {S S' : aSt} {k : Nat} (h1 : S.1 k = S'.1 k) (h2 : S.2.1 k = S'.2.1 k) (j : Nat) (f : Nat × Nat) : aFv S k j f = aFv S' k j f := by
  unfold aFv
  rw [h1, h2]
theorem aCell_eq {g : aWg} {S S' : aSt} {k : Nat} {o : aSh} (h1 : S.1 k = S'.1 k) (h2 : S.2.1 k = S'.2.1 k) (h3 : S.2.2 k = S'.2.2 k) : aCell g S k o = aCell g S' k o := by
  unfold aCell
  cases o with
  | inl x => simp only [h3]
  | inr x => simp only [aFv_eq h1 h2]
theorem aI_ne (S : aSt) {k a : Nat} (j : Nat) (v : Int32) (h : a ≠ k) : S.1 a = (aI S k j v).1 a := by simp [aI, h]
theorem aI_at (S : aSt) (k j b : Nat) (v : Int32) : (aI S k j v).1 k b = if b = j then v else S.1 k b := by simp [aI]
theorem aL_ne (S : aSt) {k a : Nat} (j : Nat) (v : Int64) (h : a ≠ k) : S.2.1 a = (aL S k j v).2.1 a := by simp [aL, h]
theorem aL_at (S : aSt) (k j b : Nat) (v : Int64) : (aL S k j v).2.1 k b = if b = j then v else S.2.1 k b := by simp [aL]
theorem aA_ne (S : aSt) {k a : Nat} (f : Nat → Int32) (h : a ≠ k) : S.2.2 a = (aA S k f).2.2 a := by simp [aA, h]
theorem aA_at (S : aSt) (k : Nat) (f : Nat → Int32) : (aA S k f).2.2 k = f := by simp [aA]
theorem aObj_get {g : aWg} {S : aSt} {k j : Nat} {fs : List (Nat × Nat)} {f : Nat × Nat} (h : fs[j]? = some f) : (fs.mapIdx (fun j f => aCv g (aFv S k j f)))[j]? = some (aCv g (aFv S k j f)) := by
  rw [List.getElem?_mapIdx, h]; rfl
theorem aObj_set {g : aWg} {S S' : aSt} {k j : Nat} {fs : List (Nat × Nat)} {f' : Nat × Nat} {v : Value} (hj : j < fs.length) (hv : aFv S' k j f' = v) (ho : ∀ b, b ≠ j → ∀ f, aFv S k b f = aFv S' k b f) :
    (fs.mapIdx (fun j f => aCv g (aFv S k j f))).set j (aCv g v) = (fs.set j f').mapIdx (fun j f => aCv g (aFv S' k j f)) := by
  apply List.ext_getElem?
  intro i
  rw [List.getElem?_mapIdx]
  by_cases hi : i = j
  · subst hi
    rw [List.getElem?_set_self (by simpa using hj), List.getElem?_set_self hj]
    simp [hv]
  · rw [List.getElem?_set_ne (Ne.symm hi), List.getElem?_set_ne (Ne.symm hi), List.getElem?_mapIdx]
    cases fs[i]? with
    | none => rfl
    | some f => simp [ho i hi f]
theorem aPut_ws {g : aWg} {lay : aLay} {S : aSt} {k ci j : Nat} {fs : List (Nat × Nat)} {v : Value} {q : aLay × aSt} (hl : lay[k]? = some (.inr (ci, fs))) (h : aPut lay S k ci j fs v = some q) :
    j < fs.length ∧ (aWs g lay S).set k (g.2.2.1 + k, .inr (ci, (fs.mapIdx (fun j f => aCv g (aFv S k j f))).set j (aCv g v))) = aWs g q.1 q.2 ∧ q.1.length = lay.length := by
  unfold aPut at h
  split at h
  · rename_i z x hf
    cases h
    have hj : j < fs.length := (List.getElem?_eq_some_iff.mp hf).1
    refine ⟨hj, ?_, rfl⟩
    have e := aObj_set (g := g) (S := S) (S' := aI S k j x) (k := k) (f' := (1, z)) (v := .int x) hj (by simp [aFv, aI_at]) (fun b hb f => by simp [aFv, aI, hb])
    have hs : fs.set j (1, z) = fs := by
      apply List.ext_getElem?
      intro i
      by_cases hi : i = j
      · subst hi; rw [List.getElem?_set_self hj, hf]
      · rw [List.getElem?_set_ne (Ne.symm hi)]
    rw [e, hs]
    have h2 := aWs_set (g := g) (S := S) (S' := aI S k j x) (k := k) (o := .inr (ci, fs)) (aLay_lt hl) (fun a o' ha => aCell_eq (aI_ne S j x ha) rfl rfl)
    rw [aLay_set hl] at h2
    exact h2
  · rename_i z x hf
    cases h
    have hj : j < fs.length := (List.getElem?_eq_some_iff.mp hf).1
    refine ⟨hj, ?_, rfl⟩
    have e := aObj_set (g := g) (S := S) (S' := aL S k j x) (k := k) (f' := (2, z)) (v := .long x) hj (by simp [aFv, aL_at]) (fun b hb f => by simp [aFv, aL, hb])
    have hs : fs.set j (2, z) = fs := by
      apply List.ext_getElem?
      intro i
      by_cases hi : i = j
      · subst hi; rw [List.getElem?_set_self hj, hf]
      · rw [List.getElem?_set_ne (Ne.symm hi)]
    rw [e, hs]
    have h2 := aWs_set (g := g) (S := S) (S' := aL S k j x) (k := k) (o := .inr (ci, fs)) (aLay_lt hl) (fun a o' ha => aCell_eq rfl (aL_ne S j x ha) rfl)
    rw [aLay_set hl] at h2
    exact h2
  · rename_i z r hf
    cases h
    have hj : j < fs.length := (List.getElem?_eq_some_iff.mp hf).1
    refine ⟨hj, ?_, by simp⟩
    have e := aObj_set (g := g) (S := S) (S' := S) (k := k) (f' := (0, r + 1)) (v := .ref r) hj (by simp [aFv]) (fun b hb f => rfl)
    rw [e]
    exact aWs_set (g := g) (S := S) (S' := S) (k := k) (o := .inr (ci, fs.set j (0, r + 1))) (aLay_lt hl) (fun a o' ha => rfl)
  · cases h
section AW
variable {p : Program} {l : Launch} {e : Env} {R : Room} {s : State} {m : MethodId} {args : Array Value} {below : List Frame} {meth : Method} {c : Code} {H : Heap} {locs : List Loc} {cells slots : Nat} {Q : State → Prop}
variable {cc : ByteArray} {pc : Nat} {ls : Array Slot} {rest : List Value} {D : va_G} {cl : List vw_C} {tys : List (ClassId × FieldType)} {ws : va_W} {A : Nat → Prop} {H0 : Heap} {a : Nat}
/-- a field is written: what the heap holds then, and that it has its size still -/
theorem aPutW (hx : p.tables.exec = Jvm.exec) (hb : c.code = cc) {own C : String} {T : u_T} {N ci idx : Nat} {Ts : List Cond} (hts : ∀ w ∈ Ts, w.before args s = true) (hin : ∀ w ∈ u_ws C T N, w ∈ Ts) (ty0 : Nat → FieldType) (hty : ∀ k, k < N → parseFieldDescriptor (T k).2.2.1 = some (ty0 k)) (hnm : ∀ a, a < N → ∀ b, b < N → a ≠ b → (T a).2.1 ≠ (T b).2.1)
    (hown : s.vm.findClass own = some m.cls) (hK : va_K D cl tys s) (hP : va_P D cl ws H) (hD : va_D A ws) (hS0 : va_S A H0 H locs) (q0 : Nat) {fs : List Value} (he : ws[q0]? = some (a, .inr (ci, fs))) (hc : cl[ci]? = some (C, T, N)) (k : Nat) (hk : k < N) (hlink : (Cond.fieldLink own idx (T k).1 (T k).2.1 (T k).2.2.1).before args s = true)
    (hfin : (T k).2.2.2 = false ∨ (meth.name = "<init>" ∧ (T k).1 = own)) {ty : FieldType} {v : Value} (hd : parseFieldDescriptor (T k).2.2.1 = some ty) (hn : narrow ty v = v) (hfit : fits ty v = true) (hl : k < fs.length) (hdg : decode cc pc = .ok (.putfield idx, 3))
    (kk : ∀ (H1 : Heap) (locs1 : List Loc), va_P D cl (ws.set q0 (a, .inr (ci, fs.set k v))) H1 → H1.size = H.size → va_S A H0 H1 locs1 → W p l e R s m args below meth c H1 locs1 cells slots Q (F0 m (pc + 3) ls rest)) : W p l e R s m args below meth c H locs cells slots Q (F0 m pc ls (v :: .ref a :: rest)) := by
  have hap := va_apart (own := own) hts hin ty0 hty hnm hK hc
  obtain ⟨r, h1, cell, q1, q2, q3, q4⟩ := hP q0 _ he
  cases Option.some.inj (h1.symm.trans hc)
  obtain ⟨hS, hfc, kC, hkC, hkind⟩ := hK.1 ci _ hc
  obtain ⟨cf, kf, fi, f, hi, hsl⟩ := hS k hk
  have hlays := u_lays hts hin hk
  have hst := (u_facts hfc hkC hlays hi).1
  obtain ⟨hnr, hft⟩ := u_fits hfc hkC hkind hlays hi hd hn hfit
  have hlt : f.slot < cell.slots.size := by rw [hsl]; exact k2_hasslot (q4 k hk)
  have hfn : hasFlag f.accessFlags Acc.final = false ∨ (m.cls = cf ∧ meth.name = "<init>") := by
    by_cases hff : (T k).2.2.2 = false
    · have hlay := hts _ (hin _ (u_in_lay hk))
      unfold u_lay at hlay
      rw [if_neg (by rw [hff]; decide)] at hlay
      exact Or.inl (u_store hfc hkC hkind hlay hi hd hn hfit).1
    · rcases hfin with h | ⟨hini, hdecl⟩
      · exact absurd h hff
      · have hlay := hts _ (hin _ (u_in_lay hk))
        unfold u_lay at hlay
        rw [if_pos (by cases hq : (T k).2.2.2 with | true => rfl | false => exact absurd hq hff)] at hlay
        refine Or.inr ⟨?_, hini⟩
        obtain ⟨_, _, c', _, _, _, -, -, hf', -, -, -, hown2, -⟩ := Cond.laysFinal_spec hlay
        have e1 : c' = cf := by have := hi.symm.trans hf'; simp at this; exact this.1.symm
        rw [hdecl] at hown2
        rw [← e1]; exact Option.some.inj (hown.symm.trans hown2)
  have ha : a < H.size := (Array.getElem?_eq_some_iff.mp q1).1
  refine W.putf hx hb hown hlink hi hst hfn q1 (by rw [q3]; exact fun h => by cases h) hlt hnr (by rw [q2, q3]; exact hft) rfl rfl hdg ?_
  have e1 : (H.setIfInBounds a (cell.setSlot f.slot v))[a]? = some (cell.setSlot f.slot v) := by simp [ha]
  have e2 : (H.setIfInBounds a (cell.setSlot f.slot v)).size = H.size := by simp
  have e3 : ∀ q, q ≠ a → (H.setIfInBounds a (cell.setSlot f.slot v))[q]? = H[q]? := fun q hq => Array.getElem?_setIfInBounds_ne (Ne.symm hq)
  generalize H.setIfInBounds a (cell.setSlot f.slot v) = H' at e1 e2 e3
  rw [hsl] at e1 ⊢
  exact kk H' _ (hP.set hD he ⟨_, hc, t_OB.to (V := updV (vp_V fs) k v) ⟨_, e1, q2, q3, t_set q4 hap hk v⟩ (fun j _ => vp_updV_set hl v j)⟩ e3) e2 (hS0.put e2 e3 (hD.2 q0 _ he))
theorem aIastW (hx : p.tables.exec = Jvm.exec) (hb : c.code = cc) (hK : va_K D cl tys s) (hP : va_P D cl ws H) (hD : va_D A ws) (hS : va_S A H0 H locs) (q0 t0 : Nat) {cA : ClassId} {n : Nat} {f : Nat → Int32} (ha : ws[q0]? = some (a, .inl (cA, n, .inl f))) (ht : tys[t0]? = some (cA, .int)) {i : Int32} {x : Int32} (hin : vp_in i n) (hdg : decode cc pc = .ok (.iastore, 1))
    (kk : ∀ (H1 : Heap) (locs1 : List Loc), va_P D cl (ws.set q0 (a, .inl (cA, n, .inl (upd f i.toNatClampNeg x)))) H1 → H1.size = H.size → va_S A H0 H1 locs1 → W p l e R s m args below meth c H1 locs1 cells slots Q (F0 m (pc + 1) ls rest)) : W p l e R s m args below meth c H locs cells slots Q (F0 m pc ls (.int x :: .int i :: .ref a :: rest)) := by
  refine W.iast hx hb (hP q0 _ ha) ((hK.2 t0 _ ht).1 n (fun j => .int (f j))) (fun q => by cases q) (by show ¬ (i < 0 ∨ (arrV _ _ _).slots.size ≤ _); rw [arrV_size]; exact hin) rfl rfl hdg fun H1 e1 z oq => ?_
  refine kk H1 _ (hP.set hD ha ?_ oq) z (hS.put z oq (hD.2 q0 _ ha))
  show H1[a]? = some (vp_cell _ _)
  rw [e1, vp_cell_i, vp_cell_i, arrV_store]
  congr 2
  funext q
  by_cases hq : q = i.toNatClampNeg
  · subst hq
    simp [updV, upd]
  · simp [updV, upd, hq]
theorem aZastW (hx : p.tables.exec = Jvm.exec) (hb : c.code = cc) (hK : va_K D cl tys s) (hP : va_P D cl ws H) (hD : va_D A ws) (hS : va_S A H0 H locs) (q0 t0 : Nat) {cA : ClassId} {n : Nat} {f : Nat → Int32} (ha : ws[q0]? = some (a, .inl (cA, n, .inl f))) (ht : tys[t0]? = some (cA, .boolean)) {i : Int32} {x : Int32} (hin : vp_in i n) (hxx : narrow .boolean (.int x) = .int x) (hdg : decode cc pc = .ok (.bastore, 1))
    (kk : ∀ (H1 : Heap) (locs1 : List Loc), va_P D cl (ws.set q0 (a, .inl (cA, n, .inl (upd f i.toNatClampNeg x)))) H1 → H1.size = H.size → va_S A H0 H1 locs1 → W p l e R s m args below meth c H1 locs1 cells slots Q (F0 m (pc + 1) ls rest)) : W p l e R s m args below meth c H locs cells slots Q (F0 m pc ls (.int x :: .int i :: .ref a :: rest)) := by
  refine W.zast hx hb (hP q0 _ ha) ((hK.2 t0 _ ht).1 n (fun j => .int (f j))) (fun q => by cases q) (by show ¬ (i < 0 ∨ (arrV _ _ _).slots.size ≤ _); rw [arrV_size]; exact hin) rfl rfl hdg fun H1 e1 z oq => ?_
  refine kk H1 _ (hP.set hD ha ?_ oq) z (hS.put z oq (hD.2 q0 _ ha))
  show H1[a]? = some (vp_cell _ _)
  rw [e1, hxx, vp_cell_i, vp_cell_i, arrV_store]
  congr 2
  funext q
  by_cases hq : q = i.toNatClampNeg
  · subst hq
    simp [updV, upd]
  · simp [updV, upd, hq]
end AW
set_option maxHeartbeats 4000000 in
set_option maxRecDepth 100000 in
theorem aIns_ok {C : aC} {M : aM} {k n : Nat} {ins : Instr} {len pc : Nat} {lv : List (Nat × Value)} {st : List Value} {lay : aLay} {S : aSt} {cf' : aCf} (hC : aCx C M) (hT : aOK M) (hd : decode M.2.1 pc = .ok (ins, len))
    (h : aIns M ins len pc lv st lay S = some cf') (kk : aX C M k n cf') : aX C M k n (pc, lv, st, lay, S) := by
  obtain ⟨g, p, l, e, R, s, m, args, below, meth, c, Q⟩ := C
  obtain ⟨hx, hb, hml, hown, hts, hK, hRo, hbs, hini, hlk, hret, hR⟩ := hC
  intro H ls locs hP hz hl hS
  dsimp only at hP hz hl
  show W p l e R s m args below meth c H locs k n Q (F0 m pc ls (st.map (aCv g)))
  cases ins
  case iconst i =>
    simp only [aIns] at h
    split at h
    · rename_i hc
      cases h
      subst hc
      exact lv_iconst hx hb hd rfl (kk H ls locs hP hz hl hS)
    · cases h
  case bipush i =>
    simp only [aIns] at h
    split at h
    · rename_i hc
      cases h
      subst hc
      exact lv_bipush hx hb hd rfl (kk H ls locs hP hz hl hS)
    · cases h
  case sipush i =>
    simp only [aIns] at h
    split at h
    · rename_i hc
      cases h
      subst hc
      exact lv_sipush hx hb hd rfl (kk H ls locs hP hz hl hS)
    · cases h
  case lconst i =>
    simp only [aIns] at h
    split at h
    · rename_i hc
      cases h
      subst hc
      exact lv_lconst hx hb hd rfl (kk H ls locs hP hz hl hS)
    · cases h
  case iload_n i =>
    simp only [aIns] at h
    split at h
    · rename_i x hq
      split at h
      · rename_i hc
        cases h
        subst hc
        exact lv_iload_n hx hb hd rfl (aLoc hl hq) (kk H ls locs hP hz hl hS)
      · cases h
    · cases h
  case iload i =>
    simp only [aIns] at h
    split at h
    · rename_i x hq
      split at h
      · rename_i hc
        cases h
        subst hc
        exact lv_iload hx hb hd (aLoc hl hq) (kk H ls locs hP hz hl hS)
      · cases h
    · cases h
  case lload_n i =>
    simp only [aIns] at h
    split at h
    · rename_i x hq
      split at h
      · rename_i hc
        cases h
        subst hc
        exact lv_lload_n hx hb hd rfl (aLoc hl hq) (kk H ls locs hP hz hl hS)
      · cases h
    · cases h
  case lload i =>
    simp only [aIns] at h
    split at h
    · rename_i x hq
      split at h
      · rename_i hc
        cases h
        subst hc
        exact lv_lload hx hb hd (aLoc hl hq) (kk H ls locs hP hz hl hS)
      · cases h
    · cases h
  case aload_n i =>
    simp only [aIns] at h
    split at h
    · rename_i x hq
      split at h
      · rename_i hc
        cases h
        subst hc
        exact lv_aload_n hx hb hd rfl (aLoc hl hq) (kk H ls locs hP hz hl hS)
      · cases h
    · cases h
  case aload i =>
    simp only [aIns] at h
    split at h
    · rename_i x hq
      split at h
      · rename_i hc
        cases h
        subst hc
        exact lv_aload hx hb hd (aLoc hl hq) (kk H ls locs hP hz hl hS)
      · cases h
    · cases h
  case istore_n i =>
    simp only [aIns] at h
    split at h
    · rename_i x r
      split at h
      · rename_i hc
        cases h
        obtain ⟨hc, hn⟩ := hc
        subst hc
        exact lv_istore_n hx hb hd rfl hl hn (aSt1_map g i.val (.int x) lv) (fun ls' hl' => kk H ls' locs hP hz hl' hS)
      · cases h
    · cases h
  case istore i =>
    simp only [aIns] at h
    split at h
    · rename_i x r
      split at h
      · rename_i hc
        cases h
        obtain ⟨hc, hn⟩ := hc
        subst hc
        exact lv_istore hx hb hd hl hn (aSt1_map g i (.int x) lv) (fun ls' hl' => kk H ls' locs hP hz hl' hS)
      · cases h
    · cases h
  case lstore_n i =>
    simp only [aIns] at h
    split at h
    · rename_i x r
      split at h
      · rename_i hc
        cases h
        obtain ⟨hc, hn⟩ := hc
        subst hc
        exact lv_lstore_n hx hb hd rfl hl hn (aSt2_map g i.val (.long x) lv) (fun ls' hl' => kk H ls' locs hP hz hl' hS)
      · cases h
    · cases h
  case lstore i =>
    simp only [aIns] at h
    split at h
    · rename_i x r
      split at h
      · rename_i hc
        cases h
        obtain ⟨hc, hn⟩ := hc
        subst hc
        exact lv_lstore hx hb hd hl hn (aSt2_map g i (.long x) lv) (fun ls' hl' => kk H ls' locs hP hz hl' hS)
      · cases h
    · cases h
  case astore_n i =>
    simp only [aIns] at h
    split at h
    · rename_i x r
      split at h
      · rename_i hc
        cases h
        obtain ⟨hc, hn⟩ := hc
        subst hc
        exact lv_astore_n hx hb hd rfl hl hn (aSt1_map g i.val (.ref x) lv) (fun ls' hl' => kk H ls' locs hP hz hl' hS)
      · cases h
    · cases h
  case astore i =>
    simp only [aIns] at h
    split at h
    · rename_i x r
      split at h
      · rename_i hc
        cases h
        obtain ⟨hc, hn⟩ := hc
        subst hc
        exact lv_astore hx hb hd hl hn (aSt1_map g i (.ref x) lv) (fun ls' hl' => kk H ls' locs hP hz hl' hS)
      · cases h
    · cases h
  case iinc i d =>
    simp only [aIns] at h
    split at h
    · rename_i x hq
      split at h
      · rename_i hc
        cases h
        obtain ⟨hc, hn⟩ := hc
        subst hc
        obtain ⟨k0, hk0⟩ := List.getElem?_of_mem (List.mem_map.mpr ⟨_, aLk_mem hq, rfl⟩ : aCq g (i, .int x) ∈ lv.map (aCq g))
        exact lv_iinc hx hb hd hl (k := k0) hk0 rfl hn (aSt1_map g i (.int (x + Int32.ofInt d)) lv) (fun ls' hl' => kk H ls' locs hP hz hl' hS)
      · cases h
    · cases h
  case iadd =>
    simp only [aIns] at h
    split at h
    · split at h
      · rename_i hc
        cases h
        subst hc
        exact lv_iadd hx hb hd (kk H ls locs hP hz hl hS)
      · cases h
    · cases h
  case isub =>
    simp only [aIns] at h
    split at h
    · split at h
      · rename_i hc
        cases h
        subst hc
        exact lv_isub hx hb hd (kk H ls locs hP hz hl hS)
      · cases h
    · cases h
  case imul =>
    simp only [aIns] at h
    split at h
    · split at h
      · rename_i hc
        cases h
        subst hc
        exact lv_imul hx hb hd (kk H ls locs hP hz hl hS)
      · cases h
    · cases h
  case iand =>
    simp only [aIns] at h
    split at h
    · split at h
      · rename_i hc
        cases h
        subst hc
        exact lv_iand hx hb hd (kk H ls locs hP hz hl hS)
      · cases h
    · cases h
  case ior =>
    simp only [aIns] at h
    split at h
    · split at h
      · rename_i hc
        cases h
        subst hc
        exact lv_ior hx hb hd (kk H ls locs hP hz hl hS)
      · cases h
    · cases h
  case ixor =>
    simp only [aIns] at h
    split at h
    · split at h
      · rename_i hc
        cases h
        subst hc
        exact lv_ixor hx hb hd (kk H ls locs hP hz hl hS)
      · cases h
    · cases h
  case ishl =>
    simp only [aIns] at h
    split at h
    · split at h
      · rename_i hc
        cases h
        subst hc
        exact lv_ishl hx hb hd (kk H ls locs hP hz hl hS)
      · cases h
    · cases h
  case ishr =>
    simp only [aIns] at h
    split at h
    · split at h
      · rename_i hc
        cases h
        subst hc
        exact lv_ishr hx hb hd (kk H ls locs hP hz hl hS)
      · cases h
    · cases h
  case idiv =>
    simp only [aIns] at h
    split at h
    · split at h
      · rename_i hc
        cases h
        have hc0 := hc.1
        subst hc0
        exact lv_idiv hx hb hd hc.2 (kk H ls locs hP hz hl hS)
      · cases h
    · cases h
  case irem =>
    simp only [aIns] at h
    split at h
    · split at h
      · rename_i hc
        cases h
        have hc0 := hc.1
        subst hc0
        exact lv_irem hx hb hd hc.2 (kk H ls locs hP hz hl hS)
      · cases h
    · cases h
  case ineg =>
    simp only [aIns] at h
    split at h
    · split at h
      · rename_i hc
        cases h
        subst hc
        exact lv_ineg hx hb hd (kk H ls locs hP hz hl hS)
      · cases h
    · cases h
  case i2l =>
    simp only [aIns] at h
    split at h
    · split at h
      · rename_i hc
        cases h
        subst hc
        exact lv_i2l hx hb hd rfl (kk H ls locs hP hz hl hS)
      · cases h
    · cases h
  case l2i =>
    simp only [aIns] at h
    split at h
    · split at h
      · rename_i hc
        cases h
        subst hc
        exact lv_l2i hx hb hd rfl (kk H ls locs hP hz hl hS)
      · cases h
    · cases h
  case i2c =>
    simp only [aIns] at h
    split at h
    · split at h
      · rename_i hc
        cases h
        subst hc
        exact lv_i2c hx hb hd rfl (kk H ls locs hP hz hl hS)
      · cases h
    · cases h
  case ladd =>
    simp only [aIns] at h
    split at h
    · split at h
      · rename_i hc
        cases h
        subst hc
        exact lv_ladd hx hb hd (kk H ls locs hP hz hl hS)
      · cases h
    · cases h
  case lmul =>
    simp only [aIns] at h
    split at h
    · split at h
      · rename_i hc
        cases h
        subst hc
        exact lv_lmul hx hb hd (kk H ls locs hP hz hl hS)
      · cases h
    · cases h
  case land =>
    simp only [aIns] at h
    split at h
    · split at h
      · rename_i hc
        cases h
        subst hc
        exact lv_land hx hb hd (kk H ls locs hP hz hl hS)
      · cases h
    · cases h
  case lor =>
    simp only [aIns] at h
    split at h
    · split at h
      · rename_i hc
        cases h
        subst hc
        exact lv_lor hx hb hd (kk H ls locs hP hz hl hS)
      · cases h
    · cases h
  case lshl =>
    simp only [aIns] at h
    split at h
    · split at h
      · rename_i hc
        cases h
        subst hc
        exact lv_lshl hx hb hd rfl (kk H ls locs hP hz hl hS)
      · cases h
    · cases h
  case lshr =>
    simp only [aIns] at h
    split at h
    · split at h
      · rename_i hc
        cases h
        subst hc
        exact lv_lshr hx hb hd rfl (kk H ls locs hP hz hl hS)
      · cases h
    · cases h
  case lcmp =>
    simp only [aIns] at h
    split at h
    · split at h
      · rename_i hc
        cases h
        subst hc
        exact W.lcmp hx hb hd (kk H ls locs hP hz hl hS)
      · cases h
    · cases h
  case dup =>
    simp only [aIns] at h
    split at h
    · split at h
      · rename_i hc
        cases h
        have hc0 := hc.1
        subst hc0
        exact lv_dup hx hb hd (by rw [aCv_cat]; exact hc.2) (kk H ls locs hP hz hl hS)
      · cases h
    · cases h
  case pop =>
    simp only [aIns] at h
    split at h
    · split at h
      · rename_i hc
        cases h
        have hc0 := hc.1
        subst hc0
        exact lv_pop hx hb hd (by rw [aCv_cat]; exact hc.2) (kk H ls locs hP hz hl hS)
      · cases h
    · cases h
  case dup2 =>
    simp only [aIns] at h
    split at h
    · split at h
      · rename_i hc
        cases h
        have hc0 := hc.1
        subst hc0
        exact lv_dup2_11 hx hb hd (by rw [aCv_cat]; exact hc.2.1) (by rw [aCv_cat]; exact hc.2.2) (kk H ls locs hP hz hl hS)
      · cases h
    · cases h
  case goto off =>
    simp only [aIns] at h
    split at h
    · rename_i hc
      cases h
      obtain ⟨hc, hn⟩ := hc
      subst hc
      exact lv_goto hx hb hd (Int.toNat_of_nonneg hn).symm (kk H ls locs hP hz hl hS)
    · cases h
  case ldc i =>
    simp only [aIns] at h
    split at h
    · rename_i pl v hq
      split at h
      · rename_i hc
        cases h
        subst hc
        rcases hT.c _ (aLk_mem hq) with ⟨v', e, hw⟩ | ⟨v', e, hw⟩ | ⟨v', -, e, -⟩
        · cases e
          exact lv_ldc hx hb hown (aTw hts hw) hd (kk H ls locs hP hz hl hS)
        · cases e
        · cases e
      · cases h
    · rename_i pl v hq
      split at h
      · rename_i hc
        cases h
        subst hc
        rcases hT.c _ (aLk_mem hq) with ⟨v', e, hw⟩ | ⟨v', e, hw⟩ | ⟨v', hv, e, ho, hi⟩
        · cases e
        · cases e
        · cases e
          have hz1 := hRo.2.2.2.2.1 v' hv
          have hk1 := kk H ls locs hP hz hl hS
          dsimp only at hk1
          rw [List.map_cons, aRef2 g v'] at hk1
          have hown2 : s.vm.findClass "NinePence$Text" = some m.cls := by rw [← ho]; exact hown
          rw [show i = aSix.getD v' 0 from hi] at hd
          exact va_ldcS hx hb hown2 hz1 hd hk1
      · cases h
    · cases h
  case ldc2_w i =>
    simp only [aIns] at h
    split at h
    · rename_i pl v hq
      split at h
      · rename_i hc
        cases h
        subst hc
        rcases hT.c _ (aLk_mem hq) with ⟨v', e, hw⟩ | ⟨v', e, hw⟩ | ⟨v', -, e, -⟩
        · cases e
        · cases e
          exact lv_ldc2 hx hb hown (aTw hts hw) hd (kk H ls locs hP hz hl hS)
        · cases e
      · cases h
    · cases h
  case getstatic i =>
    simp only [aIns] at h
    split at h
    · rename_i pl hq
      split at h
      · rename_i hc
        cases h
        subst hc
        rcases hT.s _ (aLk_mem hq) with ⟨-, hw⟩ | ⟨e, -⟩ | ⟨e, -⟩
        · exact va_gets hx hb hRo.2.1 hS hown (aTw hts hw) (fun _ h => h) hd (kk H ls locs hP hz hl hS)
        · cases e
        · cases e
      · cases h
    · rename_i pl hq
      split at h
      · rename_i hc
        cases h
        subst hc
        rcases hT.s _ (aLk_mem hq) with ⟨e, -⟩ | ⟨-, hw⟩ | ⟨e, -⟩
        · cases e
        · exact va_gets hx hb hRo.2.2.1 hS hown (aTw hts hw) (fun _ h => h) hd (kk H ls locs hP hz hl hS)
        · cases e
      · cases h
    · rename_i pl hq
      split at h
      · rename_i hc
        cases h
        subst hc
        rcases hT.s _ (aLk_mem hq) with ⟨e, -⟩ | ⟨e, -⟩ | ⟨-, hw⟩
        · cases e
        · cases e
        · exact va_gets hx hb hRo.2.2.2.2.2.2 hS hown (aTw hts hw) (fun _ h => h) hd (kk H ls locs hP hz hl hS)
      · cases h
    · cases h
  case getfield i =>
    simp only [aIns] at h
    split at h
    · rename_i pl ci j ty k r hq
      split at h
      · rename_i hc
        subst hc
        split at h
        · rename_i hk
          split at h
          · rename_i cj fs hly
            split at h
            · rename_i hcc
              subst hcc
              split at h
              · rename_i f hf
                cases h
                rcases hT.f _ (aLk_mem hq) with ⟨e0, -⟩ | ⟨⟨C, T, N⟩, hr, hj, hw, -⟩
                · exfalso
                  obtain ⟨q9, h9, -⟩ := hP k _ (aWs_at hly)
                  dsimp only at e0 h9
                  rw [e0] at h9
                  have : vwCl.length ≤ 100 := by decide
                  rw [List.getElem?_eq_none this] at h9
                  cases h9
                · dsimp only at hr hj hw
                  have hcm := aCls _ (List.mem_of_getElem? hr)
                  show W p l e R s m args below meth c H locs _ _ Q (F0 m pc ls (aCv g (.ref k) :: r.map (aCv g)))
                  rw [aCvR g hk]
                  exact va_get hx hb hts hcm.1 hown hK hP k (aWs_at hly) hr j hj (aTw hts hw) (fun _ h => h) (aObj_get hf) hd (kk H ls locs hP hz hl hS)
              · cases h
            · cases h
          · cases h
        · rename_i hk
          split at h
          · rename_i hcc
            cases h
            obtain ⟨e1, h2, h3⟩ := hcc
            subst e1
            show W p l e R s m args below meth c H locs _ _ Q (F0 m pc ls (aCv g (.ref k) :: r.map (aCv g)))
            obtain ⟨hb9, ek, ek9⟩ := aRefS g k h2 h3
            have hs4 := hRo.2.2.2.1.1 (k - 1002) hb9
            rw [ek]
            have hk1 := kk H ls locs hP hz hl hS
            dsimp only at hk1
            rcases hT.f _ (aLk_mem hq) with ⟨-, ⟨e0, hw⟩ | ⟨e0, hw⟩⟩ | ⟨⟨C, T, N⟩, hr, -⟩
            · dsimp only at e0
              rw [if_pos e0] at hk1
              exact vk_getf hx hb hs4.2.1 hS hown (aTw hts hw) (fun _ h => h) hd hk1
            · dsimp only at e0
              rw [if_neg (by rw [e0]; decide), List.map_cons, ek9] at hk1
              exact vk_getf hx hb hs4.2.2.1 hS hown (aTw hts hw) (fun _ h => h) hd hk1
            · exfalso
              have : vwCl.length ≤ 100 := by decide
              dsimp only at hr
              rw [List.getElem?_eq_none this] at hr
              cases hr
          · cases h
      · cases h
    · cases h
  case putfield i =>
    simp only [aIns] at h
    split at h
    · rename_i pl ci j ty v k r hq
      split at h
      · rename_i hc
        obtain ⟨hc, hk, hpo⟩ := hc
        subst hc
        split at h
        · rename_i cj fs C T N hly hcl
          split at h
          · rename_i hcc
            obtain ⟨hcc, hfn⟩ := hcc
            subst hcc
            split at h
            · rename_i q hpq
              cases h
              rcases hT.f _ (aLk_mem hq) with ⟨e0, -⟩ | ⟨⟨C2, T2, N2⟩, hr, hj, hw, hty⟩
              · exfalso
                obtain ⟨q9, h9, -⟩ := hP k _ (aWs_at hly)
                dsimp only at e0 h9
                rw [e0] at h9
                have : vwCl.length ≤ 100 := by decide
                rw [List.getElem?_eq_none this] at h9
                cases h9
              · dsimp only at hr hj hw hty
                cases (hr : vwCl[ci]? = some (C2, T2, N2)).symm.trans (hcl : vwCl[ci]? = some (C, T, N))
                have hcm := aCls _ (List.mem_of_getElem? hr)
                show W p l e R s m args below meth c H locs _ _ Q (F0 m pc ls (aCv g v :: aCv g (.ref k) :: r.map (aCv g)))
                rw [aCvR g hk]
                obtain ⟨hjl, hws, hll⟩ := aPut_ws (g := g) hly hpq
                obtain ⟨hnr, hft⟩ := aPut_ok g hpo
                have hjl2 : j < (fs.mapIdx (fun j f => aCv g (aFv S k j f))).length := by simpa using hjl
                have hfn2 : (T j).2.2.2 = false ∨ (meth.name = "<init>" ∧ (T j).1 = M.1) := hfn.imp (fun h => h) (fun h => ⟨hini h.1, h.2⟩)
                refine aPutW hx hb hts hcm.1 _ hcm.2.1 hcm.2.2 hown hK hP (aD g lay S) hS k (aWs_at hly) hr j hj (aTw hts hw) hfn2 hty hnr hft hjl2 hd (fun H1 locs1 hP1 hz1 hS1 => ?_)
                rw [hws] at hP1
                exact kk H1 ls locs1 hP1 (by rw [hz1, hz]; dsimp only; rw [hll]) hl hS1
            · cases h
          · cases h
        · cases h
      · cases h
    · cases h
  case arraylength =>
    simp only [aIns] at h
    split at h
    · rename_i k r
      split at h
      · rename_i hc
        subst hc
        split at h
        · rename_i hk
          split at h
          · rename_i a hly
            split at h
            · rename_i ha2
              cases h
              show W p l e R s m args below meth c H locs _ _ Q (F0 m pc ls (aCv g (.ref k) :: r.map (aCv g)))
              rw [aCvR g hk]
              have ht : ∃ ty, (aTy g)[a.1]? = some (g.2.1 a.1, ty) := by
                obtain ⟨t, nn⟩ := a
                rcases t with _ | _ | t
                · exact ⟨_, rfl⟩
                · exact ⟨_, rfl⟩
                · exact absurd (show t + 1 + 1 < 2 from ha2) (by omega)
              obtain ⟨ty, ht⟩ := ht
              exact va_alen hx hb hK hP k a.1 (aWs_at hly) ht rfl hd (kk H ls locs hP hz hl hS)
            · cases h
          · cases h
        · rename_i hk
          split at h
          · rename_i hk2
            cases h
            subst hk2
            exact va_tlen hx hb hRo.1 hS (v := 7) rfl hd (kk H ls locs hP hz hl hS)
          · split at h
            · rename_i hk3
              cases h
              show W p l e R s m args below meth c H locs _ _ Q (F0 m pc ls (aCv g (.ref k) :: r.map (aCv g)))
              obtain ⟨hb9, ek⟩ := aRefB g k hk3.1 hk3.2
              rw [ek]
              exact va_tlen hx hb (hRo.2.2.2.1.1 (k - 1011) hb9).2.2.2 hS rfl hd (kk H ls locs hP hz hl hS)
            · cases h
      · cases h
    · cases h
  all_goals exact absurd (show (none : Option aCf) = some cf' from h) (by simp)
end
section
/-! the rules by which contracts are proved: straight runs, branches, array cells, results, calls, new cells -/
theorem aRun_ok {C : aC} {M : aM} {k n : Nat} (hC : aCx C M) (hT : aOK M) : ∀ (q : Nat) {cf cf' : aCf}, aRun q M cf = some cf' → aX C M k n cf' → aX C M k n cf
  | 0, cf, cf', h, kk => by cases h; exact kk
  | q + 1, cf, cf', h, kk => by
    unfold aRun at h
    split at h
    · cases h
    · rename_i c1 h1
      have k1 := aRun_ok hC hT q h kk
      unfold aStep at h1
      split at h1
      · cases h1
      · rename_i w hw
        exact aIns_ok hC hT (aDc hT hw) h1 k1
/-- other locals, in another order: each that is listed now was listed -/
theorem aLocs {C : aC} {M : aM} {k n pc : Nat} {lv lv' : List (Nat × Value)} {st : List Value} {lay : aLay} {S : aSt} (ks : List Nat) (hks : ks.filterMap (fun i => lv[i]?) = lv') (kk : aX C M k n (pc, lv', st, lay, S)) : aX C M k n (pc, lv, st, lay, S) := by
  obtain ⟨g, p, l, e, R, s, m, args, below, meth, c, Q⟩ := C
  intro H ls locs hP hz hl hS
  refine kk H ls locs hP hz ⟨hl.1, hl.2.1, fun q hq => ?_⟩ hS
  obtain ⟨q0, hq0, rfl⟩ := List.mem_map.mp hq
  refine hl.2.2 _ (List.mem_map.mpr ⟨q0, ?_, rfl⟩)
  have hq1 : q0 ∈ lv' := hq0
  rw [← hks] at hq1
  obtain ⟨i, -, hi⟩ := List.mem_filterMap.mp hq1
  exact List.mem_of_getElem? hi
section AB
variable {C : aC} {M : aM} {k n pc : Nat} {lv : List (Nat × Value)} {st : List Value} {lay : aLay} {S : aSt}
theorem aIf_eq (hC : aCx C M) (hT : aOK M) {x : Int32} {off : Int} {tgt : Nat} (hq : aLk M.2.2.2.2.2.2.1 pc = some (.ifCond .eq off, 3)) (ht : (pc : Int) + off = (tgt : Int)) (kt : x = 0 → aX C M k n (tgt, lv, st, lay, S)) (kf : ¬ x = 0 → aX C M k n (pc + 3, lv, st, lay, S)) : aX C M k n (pc, lv, .int x :: st, lay, S) := by
  obtain ⟨g, p, l, e, R, s, m, args, below, meth, c, Q⟩ := C
  obtain ⟨hx, hb, -⟩ := hC
  intro H ls locs hP hz hl hS
  exact lv_if_eq hx hb (aDc hT hq) ht (fun h => kt h H ls locs hP hz hl hS) (fun h => kf h H ls locs hP hz hl hS)
theorem aIf_ne (hC : aCx C M) (hT : aOK M) {x : Int32} {off : Int} {tgt : Nat} (hq : aLk M.2.2.2.2.2.2.1 pc = some (.ifCond .ne off, 3)) (ht : (pc : Int) + off = (tgt : Int)) (kt : ¬ x = 0 → aX C M k n (tgt, lv, st, lay, S)) (kf : x = 0 → aX C M k n (pc + 3, lv, st, lay, S)) : aX C M k n (pc, lv, .int x :: st, lay, S) := by
  obtain ⟨g, p, l, e, R, s, m, args, below, meth, c, Q⟩ := C
  obtain ⟨hx, hb, -⟩ := hC
  intro H ls locs hP hz hl hS
  exact lv_if_ne hx hb (aDc hT hq) ht (fun h => kt h H ls locs hP hz hl hS) (fun h => kf h H ls locs hP hz hl hS)
theorem aIf_lt (hC : aCx C M) (hT : aOK M) {x : Int32} {off : Int} {tgt : Nat} (hq : aLk M.2.2.2.2.2.2.1 pc = some (.ifCond .lt off, 3)) (ht : (pc : Int) + off = (tgt : Int)) (kt : x < 0 → aX C M k n (tgt, lv, st, lay, S)) (kf : ¬ x < 0 → aX C M k n (pc + 3, lv, st, lay, S)) : aX C M k n (pc, lv, .int x :: st, lay, S) := by
  obtain ⟨g, p, l, e, R, s, m, args, below, meth, c, Q⟩ := C
  obtain ⟨hx, hb, -⟩ := hC
  intro H ls locs hP hz hl hS
  exact lv_if_lt hx hb (aDc hT hq) ht (fun h => kt h H ls locs hP hz hl hS) (fun h => kf h H ls locs hP hz hl hS)
theorem aIf_ge (hC : aCx C M) (hT : aOK M) {x : Int32} {off : Int} {tgt : Nat} (hq : aLk M.2.2.2.2.2.2.1 pc = some (.ifCond .ge off, 3)) (ht : (pc : Int) + off = (tgt : Int)) (kt : 0 ≤ x → aX C M k n (tgt, lv, st, lay, S)) (kf : ¬ 0 ≤ x → aX C M k n (pc + 3, lv, st, lay, S)) : aX C M k n (pc, lv, .int x :: st, lay, S) := by
  obtain ⟨g, p, l, e, R, s, m, args, below, meth, c, Q⟩ := C
  obtain ⟨hx, hb, -⟩ := hC
  intro H ls locs hP hz hl hS
  exact lv_if_ge hx hb (aDc hT hq) ht (fun h => kt h H ls locs hP hz hl hS) (fun h => kf h H ls locs hP hz hl hS)
theorem aIf_gt (hC : aCx C M) (hT : aOK M) {x : Int32} {off : Int} {tgt : Nat} (hq : aLk M.2.2.2.2.2.2.1 pc = some (.ifCond .gt off, 3)) (ht : (pc : Int) + off = (tgt : Int)) (kt : 0 < x → aX C M k n (tgt, lv, st, lay, S)) (kf : ¬ 0 < x → aX C M k n (pc + 3, lv, st, lay, S)) : aX C M k n (pc, lv, .int x :: st, lay, S) := by
  obtain ⟨g, p, l, e, R, s, m, args, below, meth, c, Q⟩ := C
  obtain ⟨hx, hb, -⟩ := hC
  intro H ls locs hP hz hl hS
  exact lv_if_gt hx hb (aDc hT hq) ht (fun h => kt h H ls locs hP hz hl hS) (fun h => kf h H ls locs hP hz hl hS)
theorem aIf_le (hC : aCx C M) (hT : aOK M) {x : Int32} {off : Int} {tgt : Nat} (hq : aLk M.2.2.2.2.2.2.1 pc = some (.ifCond .le off, 3)) (ht : (pc : Int) + off = (tgt : Int)) (kt : x ≤ 0 → aX C M k n (tgt, lv, st, lay, S)) (kf : ¬ x ≤ 0 → aX C M k n (pc + 3, lv, st, lay, S)) : aX C M k n (pc, lv, .int x :: st, lay, S) := by
  obtain ⟨g, p, l, e, R, s, m, args, below, meth, c, Q⟩ := C
  obtain ⟨hx, hb, -⟩ := hC
  intro H ls locs hP hz hl hS
  exact lv_if_le hx hb (aDc hT hq) ht (fun h => kt h H ls locs hP hz hl hS) (fun h => kf h H ls locs hP hz hl hS)
theorem aCmp_eq (hC : aCx C M) (hT : aOK M) {x y : Int32} {off : Int} {tgt : Nat} (hq : aLk M.2.2.2.2.2.2.1 pc = some (.if_icmp .eq off, 3)) (ht : (pc : Int) + off = (tgt : Int)) (kt : x = y → aX C M k n (tgt, lv, st, lay, S)) (kf : ¬ x = y → aX C M k n (pc + 3, lv, st, lay, S)) : aX C M k n (pc, lv, .int y :: .int x :: st, lay, S) := by
  obtain ⟨g, p, l, e, R, s, m, args, below, meth, c, Q⟩ := C
  obtain ⟨hx, hb, -⟩ := hC
  intro H ls locs hP hz hl hS
  exact lv_icmp_eq hx hb (aDc hT hq) ht (fun h => kt h H ls locs hP hz hl hS) (fun h => kf h H ls locs hP hz hl hS)
theorem aCmp_ne (hC : aCx C M) (hT : aOK M) {x y : Int32} {off : Int} {tgt : Nat} (hq : aLk M.2.2.2.2.2.2.1 pc = some (.if_icmp .ne off, 3)) (ht : (pc : Int) + off = (tgt : Int)) (kt : ¬ x = y → aX C M k n (tgt, lv, st, lay, S)) (kf : x = y → aX C M k n (pc + 3, lv, st, lay, S)) : aX C M k n (pc, lv, .int y :: .int x :: st, lay, S) := by
  obtain ⟨g, p, l, e, R, s, m, args, below, meth, c, Q⟩ := C
  obtain ⟨hx, hb, -⟩ := hC
  intro H ls locs hP hz hl hS
  exact lv_icmp_ne hx hb (aDc hT hq) ht (fun h => kt h H ls locs hP hz hl hS) (fun h => kf h H ls locs hP hz hl hS)
theorem aCmp_lt (hC : aCx C M) (hT : aOK M) {x y : Int32} {off : Int} {tgt : Nat} (hq : aLk M.2.2.2.2.2.2.1 pc = some (.if_icmp .lt off, 3)) (ht : (pc : Int) + off = (tgt : Int)) (kt : x < y → aX C M k n (tgt, lv, st, lay, S)) (kf : ¬ x < y → aX C M k n (pc + 3, lv, st, lay, S)) : aX C M k n (pc, lv, .int y :: .int x :: st, lay, S) := by
  obtain ⟨g, p, l, e, R, s, m, args, below, meth, c, Q⟩ := C
  obtain ⟨hx, hb, -⟩ := hC
  intro H ls locs hP hz hl hS
  exact lv_icmp_lt hx hb (aDc hT hq) ht (fun h => kt h H ls locs hP hz hl hS) (fun h => kf h H ls locs hP hz hl hS)
theorem aCmp_ge (hC : aCx C M) (hT : aOK M) {x y : Int32} {off : Int} {tgt : Nat} (hq : aLk M.2.2.2.2.2.2.1 pc = some (.if_icmp .ge off, 3)) (ht : (pc : Int) + off = (tgt : Int)) (kt : y ≤ x → aX C M k n (tgt, lv, st, lay, S)) (kf : ¬ y ≤ x → aX C M k n (pc + 3, lv, st, lay, S)) : aX C M k n (pc, lv, .int y :: .int x :: st, lay, S) := by
  obtain ⟨g, p, l, e, R, s, m, args, below, meth, c, Q⟩ := C
  obtain ⟨hx, hb, -⟩ := hC
  intro H ls locs hP hz hl hS
  exact lv_icmp_ge hx hb (aDc hT hq) ht (fun h => kt h H ls locs hP hz hl hS) (fun h => kf h H ls locs hP hz hl hS)
theorem aCmp_gt (hC : aCx C M) (hT : aOK M) {x y : Int32} {off : Int} {tgt : Nat} (hq : aLk M.2.2.2.2.2.2.1 pc = some (.if_icmp .gt off, 3)) (ht : (pc : Int) + off = (tgt : Int)) (kt : y < x → aX C M k n (tgt, lv, st, lay, S)) (kf : ¬ y < x → aX C M k n (pc + 3, lv, st, lay, S)) : aX C M k n (pc, lv, .int y :: .int x :: st, lay, S) := by
  obtain ⟨g, p, l, e, R, s, m, args, below, meth, c, Q⟩ := C
  obtain ⟨hx, hb, -⟩ := hC
  intro H ls locs hP hz hl hS
  exact lv_icmp_gt hx hb (aDc hT hq) ht (fun h => kt h H ls locs hP hz hl hS) (fun h => kf h H ls locs hP hz hl hS)
theorem aCmp_le (hC : aCx C M) (hT : aOK M) {x y : Int32} {off : Int} {tgt : Nat} (hq : aLk M.2.2.2.2.2.2.1 pc = some (.if_icmp .le off, 3)) (ht : (pc : Int) + off = (tgt : Int)) (kt : x ≤ y → aX C M k n (tgt, lv, st, lay, S)) (kf : ¬ x ≤ y → aX C M k n (pc + 3, lv, st, lay, S)) : aX C M k n (pc, lv, .int y :: .int x :: st, lay, S) := by
  obtain ⟨g, p, l, e, R, s, m, args, below, meth, c, Q⟩ := C
  obtain ⟨hx, hb, -⟩ := hC
  intro H ls locs hP hz hl hS
  exact lv_icmp_le hx hb (aDc hT hq) ht (fun h => kt h H ls locs hP hz hl hS) (fun h => kf h H ls locs hP hz hl hS)
theorem aTsw (hC : aCx C M) (hT : aOK M) {x : Int32} {d lo hi : Int} {offs : Array Int} {len : Nat} {off : Int} {tgt : Nat} (hq : aLk M.2.2.2.2.2.2.1 pc = some (.tableswitch d lo hi offs, len)) (v : Int32) (hv : x = v) (h1 : ¬ v.toInt < lo) (h2 : ¬ hi < v.toInt) (ho : offs[(v.toInt - lo).toNat]? = some off) (ht : (pc : Int) + off = (tgt : Int)) (kk : aX C M k n (tgt, lv, st, lay, S)) : aX C M k n (pc, lv, .int x :: st, lay, S) := by
  obtain ⟨g, p, l, e, R, s, m, args, below, meth, c, Q⟩ := C
  obtain ⟨hx, hb, -⟩ := hC
  intro H ls locs hP hz hl hS
  subst hv
  exact lv_tableIn hx hb (aDc hT hq) h1 h2 ho ht (kk H ls locs hP hz hl hS)
theorem aTswD (hC : aCx C M) (hT : aOK M) {x : Int32} {d lo hi : Int} {offs : Array Int} {len : Nat} {tgt : Nat} (hq : aLk M.2.2.2.2.2.2.1 pc = some (.tableswitch d lo hi offs, len)) (h : x.toInt < lo ∨ hi < x.toInt) (ht : (pc : Int) + d = (tgt : Int)) (kk : aX C M k n (tgt, lv, st, lay, S)) : aX C M k n (pc, lv, .int x :: st, lay, S) := by
  obtain ⟨g, p, l, e, R, s, m, args, below, meth, c, Q⟩ := C
  obtain ⟨hx, hb, -⟩ := hC
  intro H ls locs hP hz hl hS
  exact lv_tableOut hx hb (aDc hT hq) h ht (kk H ls locs hP hz hl hS)
theorem aLsw (hC : aCx C M) (hT : aOK M) {x : Int32} {d : Int} {ps : Array (Int × Int)} {len : Nat} {off : Int} {tgt : Nat} (hq : aLk M.2.2.2.2.2.2.1 pc = some (.lookupswitch d ps, len)) (hp : (ps.toList.zip (ps.toList.drop 1)).all (fun (a, next) => a.1 < next.1) = true) (ho : Op.lookupswitch.offset ps.toList d x.toInt = off) (ht : (pc : Int) + off = (tgt : Int)) (kk : aX C M k n (tgt, lv, st, lay, S)) : aX C M k n (pc, lv, .int x :: st, lay, S) := by
  obtain ⟨g, p, l, e, R, s, m, args, below, meth, c, Q⟩ := C
  obtain ⟨hx, hb, -⟩ := hC
  intro H ls locs hP hz hl hS
  exact lv_lookup hx hb (aDc hT hq) hp ho ht (kk H ls locs hP hz hl hS)
/-- a place of an array -/
def aIx (i : Int32) (N : Nat) : Bool := decide (¬ (i < 0 ∨ N ≤ i.toNatClampNeg))
theorem aIx_in {i : Int32} {N : Nat} (h : aIx i N = true) : vp_in i N := by
  have h1 : ¬ (i < 0 ∨ N ≤ i.toNatClampNeg) := by simpa [aIx] using h
  exact h1
theorem aIald (hC : aCx C M) (hT : aOK M) {i : Int32} {q N : Nat} (hq : aLk M.2.2.2.2.2.2.1 pc = some (.iaload, 1)) (hk : q < 1000) (hly : lay[q]? = some (.inl (0, N))) (hin : aIx i N = true) (kk : aX C M k n (pc + 1, lv, .int (S.2.2 q i.toNatClampNeg) :: st, lay, S)) : aX C M k n (pc, lv, .int i :: .ref q :: st, lay, S) := by
  obtain ⟨g, p, l, e, R, s, m, args, below, meth, c, Q⟩ := C
  obtain ⟨hx, hb, hml, hown, hts, hK, hRo, hbs, hini, hlk, hret, hR⟩ := hC
  intro H ls locs hP hz hl hS
  show W p l e R s m args below meth c H locs k n Q (F0 m pc ls (.int i :: aCv g (.ref q) :: st.map (aCv g)))
  rw [aCvR g hk]
  exact va_iald hx hb hK hP q 0 (aWs_at hly) rfl (aIx_in hin) (aDc hT hq) (kk H ls locs hP hz hl hS)
theorem aIaldT (hC : aCx C M) (hT : aOK M) {i : Int32} (hq : aLk M.2.2.2.2.2.2.1 pc = some (.iaload, 1)) (hin : aIx i 7 = true) (kk : aX C M k n (pc + 1, lv, .int (aTENS.getD i.toNatClampNeg 0) :: st, lay, S)) : aX C M k n (pc, lv, .int i :: .ref 1001 :: st, lay, S) := by
  obtain ⟨g, p, l, e, R, s, m, args, below, meth, c, Q⟩ := C
  obtain ⟨hx, hb, hml, hown, hts, hK, hRo, hbs, hini, hlk, hret, hR⟩ := hC
  intro H ls locs hP hz hl hS
  exact va_ti hx hb hRo.1 hS (aIx_in hin) rfl (aDc hT hq) (kk H ls locs hP hz hl hS)
theorem aZald (hC : aCx C M) (hT : aOK M) {i : Int32} {q N : Nat} (hq : aLk M.2.2.2.2.2.2.1 pc = some (.baload, 1)) (hk : q < 1000) (hly : lay[q]? = some (.inl (1, N))) (hin : aIx i N = true) (kk : aX C M k n (pc + 1, lv, .int (S.2.2 q i.toNatClampNeg) :: st, lay, S)) : aX C M k n (pc, lv, .int i :: .ref q :: st, lay, S) := by
  obtain ⟨g, p, l, e, R, s, m, args, below, meth, c, Q⟩ := C
  obtain ⟨hx, hb, hml, hown, hts, hK, hRo, hbs, hini, hlk, hret, hR⟩ := hC
  intro H ls locs hP hz hl hS
  show W p l e R s m args below meth c H locs k n Q (F0 m pc ls (.int i :: aCv g (.ref q) :: st.map (aCv g)))
  rw [aCvR g hk]
  exact va_zald hx hb hK hP q 1 (aWs_at hly) rfl (aIx_in hin) (aDc hT hq) (kk H ls locs hP hz hl hS)
theorem aBald (hC : aCx C M) (hT : aOK M) {i : Int32} {q : Nat} (hq : aLk M.2.2.2.2.2.2.1 pc = some (.baload, 1)) (h1 : 1011 ≤ q) (h2 : q < 1020) (hin : aIx i (aLen.getD (q - 1011) 0) = true) (kk : aX C M k n (pc + 1, lv, .int ((aByt.getD (q - 1011) []).getD i.toNatClampNeg 0) :: st, lay, S)) : aX C M k n (pc, lv, .int i :: .ref q :: st, lay, S) := by
  obtain ⟨g, p, l, e, R, s, m, args, below, meth, c, Q⟩ := C
  obtain ⟨hx, hb, hml, hown, hts, hK, hRo, hbs, hini, hlk, hret, hR⟩ := hC
  intro H ls locs hP hz hl hS
  show W p l e R s m args below meth c H locs k n Q (F0 m pc ls (.int i :: aCv g (.ref q) :: st.map (aCv g)))
  obtain ⟨hb9, ek⟩ := aRefB g q h1 h2
  rw [ek]
  exact va_tb hx hb (hRo.2.2.2.1.1 (q - 1011) hb9).2.2.2 hS (aIx_in hin) rfl (aDc hT hq) (kk H ls locs hP hz hl hS)
theorem aArr_ws {g : aWg} {lay : aLay} {S : aSt} {q t N : Nat} {f : Nat → Int32} (hly : lay[q]? = some (.inl (t, N))) : (aWs g lay S).set q (g.2.2.1 + q, .inl (g.2.1 t, N, .inl f)) = aWs g lay (aA S q f) := by
  have h2 := aWs_set (g := g) (S := S) (S' := aA S q f) (k := q) (o := .inl (t, N)) (aLay_lt hly) (fun a o' ha => aCell_eq rfl rfl (aA_ne S f ha))
  rw [aLay_set hly] at h2
  have e : aCell g (aA S q f) q (.inl (t, N)) = .inl (g.2.1 t, N, .inl f) := by
    unfold aCell
    rw [aA_at]
  rw [e] at h2
  exact h2
theorem aIast (hC : aCx C M) (hT : aOK M) {i x : Int32} {q N : Nat} (hq : aLk M.2.2.2.2.2.2.1 pc = some (.iastore, 1)) (hk : q < 1000) (hly : lay[q]? = some (.inl (0, N))) (hin : aIx i N = true) (kk : aX C M k n (pc + 1, lv, st, lay, aA S q (upd (S.2.2 q) i.toNatClampNeg x))) : aX C M k n (pc, lv, .int x :: .int i :: .ref q :: st, lay, S) := by
  obtain ⟨g, p, l, e, R, s, m, args, below, meth, c, Q⟩ := C
  obtain ⟨hx, hb, hml, hown, hts, hK, hRo, hbs, hini, hlk, hret, hR⟩ := hC
  intro H ls locs hP hz hl hS
  show W p l e R s m args below meth c H locs k n Q (F0 m pc ls (.int x :: .int i :: aCv g (.ref q) :: st.map (aCv g)))
  rw [aCvR g hk]
  refine aIastW hx hb hK hP (aD g lay S) hS q 0 (aWs_at hly) rfl (aIx_in hin) (aDc hT hq) (fun H1 locs1 hP1 hz1 hS1 => ?_)
  rw [aArr_ws hly] at hP1
  exact kk H1 ls locs1 hP1 (hz1.trans hz) hl hS1
theorem aZast (hC : aCx C M) (hT : aOK M) {i x : Int32} {q N : Nat} (hq : aLk M.2.2.2.2.2.2.1 pc = some (.bastore, 1)) (hk : q < 1000) (hly : lay[q]? = some (.inl (1, N))) (hin : aIx i N = true) (hxx : x = 0 ∨ x = 1) (kk : aX C M k n (pc + 1, lv, st, lay, aA S q (upd (S.2.2 q) i.toNatClampNeg x))) : aX C M k n (pc, lv, .int x :: .int i :: .ref q :: st, lay, S) := by
  obtain ⟨g, p, l, e, R, s, m, args, below, meth, c, Q⟩ := C
  obtain ⟨hx, hb, hml, hown, hts, hK, hRo, hbs, hini, hlk, hret, hR⟩ := hC
  intro H ls locs hP hz hl hS
  show W p l e R s m args below meth c H locs k n Q (F0 m pc ls (.int x :: .int i :: aCv g (.ref q) :: st.map (aCv g)))
  rw [aCvR g hk]
  refine aZastW hx hb hK hP (aD g lay S) hS q 1 (aWs_at hly) rfl (aIx_in hin) (by rcases hxx with rfl | rfl <;> decide) (aDc hT hq) (fun H1 locs1 hP1 hz1 hS1 => ?_)
  rw [aArr_ws hly] at hP1
  exact kk H1 ls locs1 hP1 (hz1.trans hz) hl hS1
theorem aLdiv (hC : aCx C M) (hT : aOK M) {x y : Int64} (hq : aLk M.2.2.2.2.2.2.1 pc = some (.ldiv, 1)) (hy : ¬ y = 0) (kk : aX C M k n (pc + 1, lv, .long (x / y) :: st, lay, S)) : aX C M k n (pc, lv, .long y :: .long x :: st, lay, S) := by
  obtain ⟨g, p, l, e, R, s, m, args, below, meth, c, Q⟩ := C
  obtain ⟨hx, hb, -⟩ := hC
  intro H ls locs hP hz hl hS
  exact lv_ldiv hx hb (aDc hT hq) hy (kk H ls locs hP hz hl hS)
theorem aLrem (hC : aCx C M) (hT : aOK M) {x y : Int64} (hq : aLk M.2.2.2.2.2.2.1 pc = some (.lrem, 1)) (hy : ¬ y = 0) (kk : aX C M k n (pc + 1, lv, .long (x - x / y * y) :: st, lay, S)) : aX C M k n (pc, lv, .long y :: .long x :: st, lay, S) := by
  obtain ⟨g, p, l, e, R, s, m, args, below, meth, c, Q⟩ := C
  obtain ⟨hx, hb, -⟩ := hC
  intro H ls locs hP hz hl hS
  exact lv_lrem hx hb (aDc hT hq) hy (kk H ls locs hP hz hl hS)
theorem aIdiv (hC : aCx C M) (hT : aOK M) {x y : Int32} (hq : aLk M.2.2.2.2.2.2.1 pc = some (.idiv, 1)) (hy : ¬ y = 0) (kk : aX C M k n (pc + 1, lv, .int (x / y) :: st, lay, S)) : aX C M k n (pc, lv, .int y :: .int x :: st, lay, S) := by
  obtain ⟨g, p, l, e, R, s, m, args, below, meth, c, Q⟩ := C
  obtain ⟨hx, hb, -⟩ := hC
  intro H ls locs hP hz hl hS
  exact lv_idiv hx hb (aDc hT hq) hy (kk H ls locs hP hz hl hS)
theorem aIrem (hC : aCx C M) (hT : aOK M) {x y : Int32} (hq : aLk M.2.2.2.2.2.2.1 pc = some (.irem, 1)) (hy : ¬ y = 0) (kk : aX C M k n (pc + 1, lv, .int (x - x / y * y) :: st, lay, S)) : aX C M k n (pc, lv, .int y :: .int x :: st, lay, S) := by
  obtain ⟨g, p, l, e, R, s, m, args, below, meth, c, Q⟩ := C
  obtain ⟨hx, hb, -⟩ := hC
  intro H ls locs hP hz hl hS
  exact lv_irem hx hb (aDc hT hq) hy (kk H ls locs hP hz hl hS)
end AB
/-! results -/
def aQc (g : aWg) (r : Option Value) (lay : aLay) (S : aSt) : Array Value → State → Outcome → State → Prop := fun _ st o t => o = .returned (r.map (aCv g)) ∧ va_P g.1 vwCl (aWs g lay S) t.heap ∧ t.heap.size = g.2.2.1 + lay.length ∧ va_F (aAg g) st t
def aFin (C : aC) (r : Option Value) (lay : aLay) (S : aSt) (k n : Nat) : Prop := match C with
  | (g, _p, _l, _e, _R, s, _m, args, below, _meth, _c, Q) => Q = MQ below (aQc g r lay S) args s k n (aAg g)
section AR
variable {C : aC} {M : aM} {k n pc : Nat} {lv : List (Nat × Value)} {lay : aLay} {S : aSt}
theorem aRetV (hC : aCx C M) (hT : aOK M) (hF : aFin C none lay S k n) (hr : M.2.2.2.2.1 = none) (hq : aLk M.2.2.2.2.2.2.1 pc = some (.return_, 1)) : aX C M k n (pc, lv, [], lay, S) := by
  obtain ⟨g, p, l, e, R, s, m, args, below, meth, c, Q⟩ := C
  obtain ⟨hx, hb, hml, hown, hts, hK, hRo, hbs, hini, hlk, hret, hR⟩ := hC
  intro H ls locs hP hz hl hS
  cases hF
  exact W.vret hx hb (hret.trans hr) (fun t ht hW => ⟨rfl, by rw [ht]; exact hP, by rw [ht]; exact hz, hS.F ht⟩) hS.2.2 (aDc hT hq) hlk
theorem aRetI (hC : aCx C M) (hT : aOK M) {v : Int32} (hF : aFin C (some (.int v)) lay S k n) (hr : M.2.2.2.2.1 = some .int) (hq : aLk M.2.2.2.2.2.2.1 pc = some (.ireturn, 1)) : aX C M k n (pc, lv, [.int v], lay, S) := by
  obtain ⟨g, p, l, e, R, s, m, args, below, meth, c, Q⟩ := C
  obtain ⟨hx, hb, hml, hown, hts, hK, hRo, hbs, hini, hlk, hret, hR⟩ := hC
  intro H ls locs hP hz hl hS
  cases hF
  exact W.iret hx hb (hret.trans hr) (fun t ht hW => ⟨rfl, by rw [ht]; exact hP, by rw [ht]; exact hz, hS.F ht⟩) hS.2.2 (aDc hT hq) hlk
theorem aRetL (hC : aCx C M) (hT : aOK M) {v : Int64} (hF : aFin C (some (.long v)) lay S k n) (hr : M.2.2.2.2.1 = some .long) (hq : aLk M.2.2.2.2.2.2.1 pc = some (.lreturn, 1)) : aX C M k n (pc, lv, [.long v], lay, S) := by
  obtain ⟨g, p, l, e, R, s, m, args, below, meth, c, Q⟩ := C
  obtain ⟨hx, hb, hml, hown, hts, hK, hRo, hbs, hini, hlk, hret, hR⟩ := hC
  intro H ls locs hP hz hl hS
  cases hF
  exact W.lret hx hb (hret.trans hr) (fun t ht hW => ⟨rfl, by rw [ht]; exact hP, by rw [ht]; exact hz, hS.F ht⟩) hS.2.2 (aDc hT hq) hlk
theorem aRetZ (hC : aCx C M) (hT : aOK M) {v : Int32} {ty : FieldType} (hF : aFin C (some (.int v)) lay S k n) (hr : M.2.2.2.2.1 = some ty) (hn : narrow ty (.int v) = .int v) (hq : aLk M.2.2.2.2.2.2.1 pc = some (.ireturn, 1)) : aX C M k n (pc, lv, [.int v], lay, S) := by
  obtain ⟨g, p, l, e, R, s, m, args, below, meth, c, Q⟩ := C
  obtain ⟨hx, hb, hml, hown, hts, hK, hRo, hbs, hini, hlk, hret, hR⟩ := hC
  intro H ls locs hP hz hl hS
  cases hF
  exact W.zret hx hb (hret.trans hr) hn (fun t ht hW => ⟨rfl, by rw [ht]; exact hP, by rw [ht]; exact hz, hS.F ht⟩) hS.2.2 (aDc hT hq) hlk
theorem aRetB (hC : aCx C M) (hT : aOK M) {v : Int32} (hF : aFin C (some (.int v)) lay S k n) (hr : M.2.2.2.2.1 = some .boolean) (hv : v = 0 ∨ v = 1) (hq : aLk M.2.2.2.2.2.2.1 pc = some (.ireturn, 1)) : aX C M k n (pc, lv, [.int v], lay, S) :=
  aRetZ hC hT hF hr (by rcases hv with rfl | rfl <;> decide) hq
end AR
/-! a contract: from layout and contents, with these arguments, the method returns this and leaves these -/
def aPc (g : aWg) (as : List Value) (lay : aLay) (S : aSt) : Array Value → State → Prop := va_Pc (as.map (aCv g)) (fun U => va_P g.1 vwCl (aWs g lay S) U.heap ∧ U.heap.size = g.2.2.1 + lay.length ∧ va_K g.1 vwCl (aTy g) U ∧ aRo g U U.heap)
def aJ (l : Launch) (g : aWg) (y : MethodName) (M : aM) (as : List Value) (lay : aLay) (S : aSt) (r : Option Value) (lay' : aLay) (S' : aSt) (k n : Nat) : Prop :=
  Met l y (Cond.code y M.2.1 M.2.2.1 M.2.2.2.2.1 :: aBase) M.2.2.2.2.2.1 (aPc g as lay S) (aQc g r lay' S') k n (aAg g)
theorem aCvArgs (g : aWg) (as : List Value) : ∀ i : Nat, lv_args i (as.map (aCv g)) = (lv_args i as).map (aCq g) := by
  induction as with
  | nil => intro i; rfl
  | cons v as ih =>
    intro i
    simp only [List.map_cons, lv_args, aCv_cat, ih]
    rfl
theorem aSlLen (g : aWg) (as : List Value) : (lg_sl (as.map (aCv g))).length = (lg_sl as).length := by
  induction as with
  | nil => rfl
  | cons v as ih =>
    simp only [lg_sl, List.map_cons, List.flatMap_cons, List.length_append, aCv_cat] at ih ⊢
    rw [ih]
    split <;> rfl
def aSz (C : aC) (len : Nat) : Prop := C.2.2.2.2.2.1.heap.size = C.1.2.2.1 + len
theorem aJ_of {l : Launch} {g : aWg} {y : MethodName} {M : aM} {as : List Value} {lay lay' : aLay} {S S' : aSt} {r : Option Value} {k n : Nat} (hy : plainName y.cls = true) (hMy : y.cls = M.1) (hsl : (lg_sl as).length ≤ M.2.2.1) (hini : M.2.2.2.1 = true → y.name = "<init>")
    (body : ∀ C : aC, C.1 = g → C.2.2.1 = l → aCx C M → aSz C lay.length → aFin C r lay' S' k n → aX C M 0 0 (0, lv_args 0 as, [], lay, S)) : aJ l g y M as lay S r lay' S' k n := by
  refine Met.ofW (cc := M.2.1) (maxL := M.2.2.1) (ret := M.2.2.2.2.1) hy rfl ?_
  intro p e s m args below meth c s₁ B hml hv
  obtain ⟨rfl, hP, hz, hK, hRo⟩ := hv
  have hts0 := atoms_spec (ws := Cond.code y M.2.1 M.2.2.1 M.2.2.2.2.1 :: aBase) B.pre
  have hts : ∀ w ∈ aBase, w.before (as.map (aCv g)).toArray s = true := fun w hw => hts0 w (List.mem_cons_of_mem _ hw)
  have hown : s.vm.findClass M.1 = some m.cls := by rw [← hMy]; exact findClass_of_methodNamed B.named
  have hin : meth.name = y.name := (name_of_methodNamed B.named B.method).1
  have hl := lv_entry (as.map (aCv g)) (n := M.2.2.1) (by rw [aSlLen]; exact hsl)
  rw [lg_entry_eq]
  rw [aCvArgs] at hl
  exact body (g, p, l, e, M.2.2.2.2.2.1, s, m, (as.map (aCv g)).toArray, below, meth, c, _) rfl rfl ⟨B.exec, B.bytes, hml, hown, hts, hK, hRo, by rw [hz]; exact Nat.le_add_right _ _, fun h => hin.trans (hini h), B.notSynchronized, B.returns, rfl⟩ hz rfl s.heap _ [] hP hz hl va_S.rf
/-! calls -/
theorem aGoodIn {y : MethodName} {cc : ByteArray} {nL : Nat} {ret : Option FieldType} (h : Cond.code y cc nL ret ∈ aBase) : GoodIn aBase (Cond.code y cc nL ret :: aBase) := by
  intro w hw
  have hm : w ∈ aBase := by
    rcases List.mem_cons.mp hw with rfl | hw
    · exact h
    · exact hw
  exact ⟨hm, good_of_word (List.mem_filter.mp hm).2⟩
/-- what the tables say of a call: places of methodLink, initialized, code; the callee's arguments; room -/
def aCO (M M' : aM) (idx : Nat) (y : MethodName) (p1 p2 p3 na : Nat) : Prop :=
  lw_tbl[p1]? = some (.methodLink M.1 idx y) ∧ lw_tbl[p2]? = some (.initialized y.cls) ∧ lw_tbl[p3]? = some (.code y M'.2.1 M'.2.2.1 M'.2.2.2.2.1) ∧
  (y.cls ≠ "java/lang/invoke/MethodHandle" ∧ y.cls ≠ "java/lang/invoke/VarHandle" ∧ (parseMethodDescriptor y.desc).map (fun d => d.parameters.length) = some na) ∧
  (M'.2.2.2.2.2.1.frames + 1 ≤ M.2.2.2.2.2.1.frames ∧ 8 + (M'.2.2.1 + 11) + M'.2.2.2.2.2.1.locals ≤ M.2.2.2.2.2.1.locals)
theorem aBlind (g : aWg) (as : List Value) (lay : aLay) (S : aSt) : FrameBlind (aPc g as lay S) := by
  intro a U fr mk h
  obtain ⟨q, hP, hz, hK, hRo⟩ := h
  exact ⟨q, hP, hz, va_K.moved (u := U) (U := U.calling fr mk a) (Vm.Alike.refl U.vm) hK, hRo.same rfl⟩
section AC
variable {C : aC} {M M' : aM} {k n k' n' pc idx p1 p2 p3 na : Nat} {y : MethodName} {lv : List (Nat × Value)} {lay lay' : aLay} {S S' : aSt} {r : Option Value} {rest As : List Value} {b : Nat}
theorem aFromRun {g : aWg} {p : Program} {l : Launch} {e : Env} {R : Room} {s : State} {m : MethodId} {args : Array Value} {below : List Frame} {meth : Method} {c : Code} {Q : State → Prop} {H : Heap} {ls : Array Slot} {locs : List Loc} {st : List Value}
    (hr : va_Run p l e R s m args below meth c H locs k n k' n' (F0 m pc ls st) (rest.map (aCv g)) (aQc g r lay' S' #[]) (aAg g)) (hS : va_S (aAg g) s.heap H locs) (hl : lv_has ls M.2.2.1 (lv.map (aCq g)))
    (kk : aX (g, p, l, e, R, s, m, args, below, meth, c, Q) M (k + k') (n + n') (pc + 3, lv, r.toList ++ rest, lay', S')) : W p l e R s m args below meth c H locs k n Q (F0 m pc ls st) := by
  intro T hT X
  obtain ⟨v, st₀, t, T', L, h0, X', hL, e1, e2, ⟨hv, hP, hz, hF⟩, hst⟩ := hr T hT X
  cases hv
  obtain ⟨hz0, hk0⟩ := hF
  rw [h0] at hz0 hk0
  have hS1 : va_S (aAg g) s.heap T'.heap (locs ++ L) := ⟨Nat.le_trans hS.1 (by rw [e1]; exact hz0), fun q h1 h2 => by rw [e1, hk0 q (Nat.lt_of_lt_of_le h1 hS.1) h2]; exact hS.2.1 q h1 h2, fun q hq => by
      rcases List.mem_append.mp hq with h | h
      · exact hS.2.2 q h
      · exact hL q h⟩
  have k1 := kk T'.heap ls (locs ++ L) (by rw [e1]; exact hP) (by rw [e1]; exact hz) hl hS1
  have est : (r.toList ++ rest).map (aCv g) = (r.map (aCv g)).toList ++ rest.map (aCv g) := by cases r <;> rfl
  dsimp only at k1
  rw [est] at k1
  obtain ⟨t2, a1, b1⟩ := k1 T' rfl X'
  exact ⟨t2, hst t2 a1, b1⟩
theorem aCat (g : aWg) (rest : List Value) : ((rest.map (aCv g)).map fun v => v.category) = rest.map fun v => v.category := by
  simp [List.map_map, Function.comp_def, aCv_cat]
/-- a static method of any class -/
theorem aCallS (hC : aCx C M) (hT : aOK M) (hq : aLk M.2.2.2.2.2.2.1 pc = some (.invokestatic idx, 3)) (hO : aCO M M' idx y p1 p2 p3 na) (p4 : Nat) (h4 : lw_tbl[p4]? = some (.static y)) (hn : As.length = na) (hrs : (rest.map fun v => v.category).sum ≤ 8)
    (hrm : M'.2.2.2.2.2.1.cells = k' ∧ M'.2.2.2.2.2.1.slots = n' ∧ k + k' ≤ M.2.2.2.2.2.1.cells ∧ n + n' ≤ M.2.2.2.2.2.1.slots)
    (hJ : aJ C.2.2.1 C.1 y M' As lay S r lay' S' k' n') (kk : aX C M (k + k') (n + n') (pc + 3, lv, r.toList ++ rest, lay', S')) : aX C M k n (pc, lv, As.reverse ++ rest, lay, S) := by
  obtain ⟨g, p, l, e, R, s, m, args, below, meth, c, Q⟩ := C
  obtain ⟨hx, hb, hml, hown, hts, hK, hRo, hbs, hini, hlk, hret, hR⟩ := hC
  obtain ⟨o1, o2, o3, o4, o5⟩ := hO
  intro H ls locs hP hz hl hS
  subst hR
  have hcode := aTb o3 rfl
  have hst : (As.reverse ++ rest).map (aCv g) = (As.map (aCv g)).reverse ++ rest.map (aCv g) := by rw [List.map_append, List.map_reverse]
  dsimp only
  rw [hst]
  have cb := callB_of (R := M.2.2.2.2.2.1) (mc := k') (ms := n') na hts (aGoodIn hcode) rfl hrm.1 hrm.2.1 (aTw hts o2) (aTw hts o1) o4 o5
  refine aFromRun (M := M) (lay' := lay') (S' := S') (va_runS (As := As.map (aCv g)) (rest := rest.map (aCv g)) ⟨hx, hb, hml, hown, hts⟩ hJ ⟨cb, aTw hts h4⟩ ⟨aBlind g As lay S, fun U hU hW => ⟨rfl, by rw [hU]; exact hP, by rw [hU]; exact hz, va_K.moved hW.alike hK, by rw [hU]; exact hRo.on hS hW⟩⟩ rfl (by rw [List.length_map]; exact hn) hl.1 rfl (lv_room (by rw [aCat]; exact hrs)) (aDc hT hq) ⟨hrm.2.2.1, hrm.2.2.2⟩) hS hl kk
/-- an instance method, private or not, of an object of the run's -/
theorem aCallV (hC : aCx C M) (hT : aOK M) (hq : aLk M.2.2.2.2.2.2.1 pc = some (.invokevirtual idx, 3)) (hO : aCO M M' idx y p1 p2 p3 na) (p4 p5 : Nat) (h4 : lw_tbl[p4]? = some (.instanceMethod y) ∧ lw_tbl[p5]? = some (.selects y.cls y y)) {ci : Nat} {fs : List (Nat × Nat)} (hb1 : b < 1000) (hrc : lay[b]? = some (.inr (ci, fs))) (hcl : (vwCl[ci]?).map (fun q => q.1) = some y.cls) (hn : As.length = na) (hrs : (rest.map fun v => v.category).sum ≤ 8)
    (hrm : M'.2.2.2.2.2.1.cells = k' ∧ M'.2.2.2.2.2.1.slots = n' ∧ k + k' ≤ M.2.2.2.2.2.1.cells ∧ n + n' ≤ M.2.2.2.2.2.1.slots)
    (hJ : aJ C.2.2.1 C.1 y M' (.ref b :: As) lay S r lay' S' k' n') (kk : aX C M (k + k') (n + n') (pc + 3, lv, r.toList ++ rest, lay', S')) : aX C M k n (pc, lv, As.reverse ++ .ref b :: rest, lay, S) := by
  obtain ⟨g, p, l, e, R, s, m, args, below, meth, c, Q⟩ := C
  obtain ⟨hx, hb, hml, hown, hts, hK, hRo, hbs, hini, hlk, hret, hR⟩ := hC
  obtain ⟨o1, o2, o3, o4, o5⟩ := hO
  intro H ls locs hP hz hl hS
  subst hR
  have hcode := aTb o3 rfl
  have hst : (As.reverse ++ .ref b :: rest).map (aCv g) = (As.map (aCv g)).reverse ++ .ref (g.2.2.1 + b) :: rest.map (aCv g) := by rw [List.map_append, List.map_reverse, List.map_cons, aCvR g hb1]
  dsimp only
  rw [hst]
  obtain ⟨⟨cn, cT, cN⟩, hcq, hce⟩ : ∃ q, vwCl[ci]? = some q ∧ q.1 = y.cls := by
    cases hq2 : vwCl[ci]? with
    | none => rw [hq2] at hcl; cases hcl
    | some q => rw [hq2] at hcl; exact ⟨q, rfl, Option.some.inj hcl⟩
  have hrv := va_recv hK hP hcq (aWs_at hrc)
  rw [show ((cn, cT, cN) : vw_C).1 = y.cls from hce] at hrv
  have cb := callB_of (R := M.2.2.2.2.2.1) (mc := k') (ms := n') na hts (aGoodIn hcode) rfl hrm.1 hrm.2.1 (aTw hts o2) (aTw hts o1) o4 o5
  have hpc : ∀ U : State, U.heap = H → s.WarmedH U.vm → aPc g (.ref b :: As) lay S (Value.ref (g.2.2.1 + b) :: As.map (aCv g)).toArray U := fun U hU hW => ⟨by rw [List.map_cons, aCvR g hb1], by rw [hU]; exact hP, by rw [hU]; exact hz, va_K.moved hW.alike hK, by rw [hU]; exact hRo.on hS hW⟩
  refine aFromRun (M := M) (lay' := lay') (S' := S') (va_runV (As := As.map (aCv g)) (rest := rest.map (aCv g)) ⟨hx, hb, hml, hown, hts⟩ hJ ⟨cb, aTw hts h4.1, aTw hts h4.2⟩ ⟨aBlind g _ lay S, hrv, hpc⟩ rfl (by rw [List.length_map]; exact hn) hl.1 rfl (lv_room (by rw [aCat]; exact hrs)) (aDc hT hq) ⟨hrm.2.2.1, hrm.2.2.2⟩) hS hl kk
/-- an instance method of one of the nine words -/
theorem aCallW (hC : aCx C M) (hT : aOK M) (hq : aLk M.2.2.2.2.2.2.1 pc = some (.invokevirtual idx, 3)) (hO : aCO M M' idx y p1 p2 p3 na) (p4 p5 : Nat) (h4 : lw_tbl[p4]? = some (.instanceMethod y) ∧ lw_tbl[p5]? = some (.selects y.cls y y)) (hb1 : 1002 ≤ b ∧ b < 1011) (hcl : y.cls = "java/lang/String") (hn : As.length = na) (hrs : (rest.map fun v => v.category).sum ≤ 8)
    (hrm : M'.2.2.2.2.2.1.cells = k' ∧ M'.2.2.2.2.2.1.slots = n' ∧ k + k' ≤ M.2.2.2.2.2.1.cells ∧ n + n' ≤ M.2.2.2.2.2.1.slots)
    (hJ : aJ C.2.2.1 C.1 y M' (.ref b :: As) lay S r lay' S' k' n') (kk : aX C M (k + k') (n + n') (pc + 3, lv, r.toList ++ rest, lay', S')) : aX C M k n (pc, lv, As.reverse ++ .ref b :: rest, lay, S) := by
  obtain ⟨g, p, l, e, R, s, m, args, below, meth, c, Q⟩ := C
  obtain ⟨hx, hb, hml, hown, hts, hK, hRo, hbs, hini, hlk, hret, hR⟩ := hC
  obtain ⟨o1, o2, o3, o4, o5⟩ := hO
  intro H ls locs hP hz hl hS
  subst hR
  have hcode := aTb o3 rfl
  obtain ⟨hb9, ek, -⟩ := aRefS g b hb1.1 hb1.2
  have hst : (As.reverse ++ .ref b :: rest).map (aCv g) = (As.map (aCv g)).reverse ++ .ref (g.2.2.2 (2 + (b - 1002))) :: rest.map (aCv g) := by rw [List.map_append, List.map_reverse, List.map_cons, ek]
  dsimp only
  rw [hst]
  have hrv := vk_recv hRo.2.2.2.1 hb9 hS
  rw [← hcl] at hrv
  have cb := callB_of (R := M.2.2.2.2.2.1) (mc := k') (ms := n') na hts (aGoodIn hcode) rfl hrm.1 hrm.2.1 (aTw hts o2) (aTw hts o1) o4 o5
  have hpc : ∀ U : State, U.heap = H → s.WarmedH U.vm → aPc g (.ref b :: As) lay S (Value.ref (g.2.2.2 (2 + (b - 1002))) :: As.map (aCv g)).toArray U := fun U hU hW => ⟨by rw [List.map_cons, ek], by rw [hU]; exact hP, by rw [hU]; exact hz, va_K.moved hW.alike hK, by rw [hU]; exact hRo.on hS hW⟩
  refine aFromRun (M := M) (lay' := lay') (S' := S') (va_runV (As := As.map (aCv g)) (rest := rest.map (aCv g)) ⟨hx, hb, hml, hown, hts⟩ hJ ⟨cb, aTw hts h4.1, aTw hts h4.2⟩ ⟨aBlind g _ lay S, hrv, hpc⟩ rfl (by rw [List.length_map]; exact hn) hl.1 rfl (lv_room (by rw [aCat]; exact hrs)) (aDc hT hq) ⟨hrm.2.2.1, hrm.2.2.2⟩) hS hl kk
/-- a constructor -/
theorem aCallI (hC : aCx C M) (hT : aOK M) (hq : aLk M.2.2.2.2.2.2.1 pc = some (.invokespecial idx, 3)) (hO : aCO M M' idx y p1 p2 p3 na) (p4 : Nat) (h4 : lw_tbl[p4]? = some (.instanceMethod y)) (hyn : y.name = "<init>") (hret2 : M'.2.2.2.2.1 = none) (hb1 : b < 1000) (hn : As.length = na) (hrs : (rest.map fun v => v.category).sum ≤ 8)
    (hrm : M'.2.2.2.2.2.1.cells = k' ∧ M'.2.2.2.2.2.1.slots = n' ∧ k + k' ≤ M.2.2.2.2.2.1.cells ∧ n + n' ≤ M.2.2.2.2.2.1.slots)
    (hJ : aJ C.2.2.1 C.1 y M' (.ref b :: As) lay S r lay' S' k' n') (kk : aX C M (k + k') (n + n') (pc + 3, lv, r.toList ++ rest, lay', S')) : aX C M k n (pc, lv, As.reverse ++ .ref b :: rest, lay, S) := by
  obtain ⟨g, p, l, e, R, s, m, args, below, meth, c, Q⟩ := C
  obtain ⟨hx, hb, hml, hown, hts, hK, hRo, hbs, hini, hlk, hret, hR⟩ := hC
  obtain ⟨o1, o2, o3, o4, o5⟩ := hO
  intro H ls locs hP hz hl hS
  subst hR
  rw [hret2] at o3
  unfold aJ at hJ
  rw [hret2] at hJ
  have hcode := aTb o3 rfl
  have hst : (As.reverse ++ .ref b :: rest).map (aCv g) = (As.map (aCv g)).reverse ++ .ref (g.2.2.1 + b) :: rest.map (aCv g) := by rw [List.map_append, List.map_reverse, List.map_cons, aCvR g hb1]
  dsimp only
  rw [hst]
  have cb := callB_of (R := M.2.2.2.2.2.1) (mc := k') (ms := n') na hts (aGoodIn hcode) rfl hrm.1 hrm.2.1 (aTw hts o2) (aTw hts o1) o4 o5
  have hpc : ∀ U : State, U.heap = H → s.WarmedH U.vm → aPc g (.ref b :: As) lay S (Value.ref (g.2.2.1 + b) :: As.map (aCv g)).toArray U := fun U hU hW => ⟨by rw [List.map_cons, aCvR g hb1], by rw [hU]; exact hP, by rw [hU]; exact hz, va_K.moved hW.alike hK, by rw [hU]; exact hRo.on hS hW⟩
  refine aFromRun (M := M) (lay' := lay') (S' := S') (va_runI (As := As.map (aCv g)) (rest := rest.map (aCv g)) ⟨hx, hb, hml, hown, hts⟩ hJ ⟨cb, hyn, aTw hts h4⟩ ⟨aBlind g _ lay S, hpc⟩ rfl (by rw [List.length_map]; exact hn) hl.1 rfl (lv_room (by rw [aCat]; exact hrs)) (aDc hT hq) ⟨hrm.2.2.1, hrm.2.2.2⟩) hS hl kk
end AC
/-! new cells -/
def aKd (ty : FieldType) : Nat × Nat := match ty with
  | .long => (2, 0)
  | .object _ => (0, 0)
  | .array _ => (0, 0)
  | _ => (1, 0)
def aFt (T : u_T) (j : Nat) : FieldType := (parseFieldDescriptor (T j).2.2.1).getD .int
def aKinds (T : u_T) (N : Nat) : List (Nat × Nat) := (List.range N).map (fun j => aKd (aFt T j))
theorem aClr_ne (S : aSt) {k a : Nat} (h : a ≠ k) : (aClr S k).1 a = S.1 a ∧ (aClr S k).2.1 a = S.2.1 a ∧ (aClr S k).2.2 a = S.2.2 a := by simp [aClr, h]
theorem aWs_push (g : aWg) (lay : aLay) (S : aSt) (o : aSh) : aWs g (lay ++ [o]) (aClr S lay.length) = aWs g lay S ++ [(g.2.2.1 + lay.length, aCell g (aClr S lay.length) lay.length o)] := by
  apply List.ext_getElem?
  intro i
  rw [aWs_get]
  by_cases hi : i < lay.length
  · rw [List.getElem?_append_left hi, List.getElem?_append_left (by rw [aWs_len]; exact hi), aWs_get]
    obtain ⟨h1, h2, h3⟩ := aClr_ne S (k := lay.length) (a := i) (by omega)
    cases lay[i]? with
    | none => rfl
    | some o' => simp only [Option.map_some, aCell_eq (g := g) (o := o') h1 h2 h3]
  · rw [List.getElem?_append_right (by omega), List.getElem?_append_right (by rw [aWs_len]; omega), aWs_len]
    by_cases hj : i = lay.length
    · subst hj
      simp
    · have h0 : i - lay.length = (i - lay.length - 1) + 1 := by omega
      rw [h0]
      simp
theorem aP_push {g : aWg} {lay : aLay} {S : aSt} {H H1 : Heap} {o : aSh} (hP : va_P g.1 vwCl (aWs g lay S) H) (hz : H.size = g.2.2.1 + lay.length) (hk : ∀ q, q < H.size → H1[q]? = H[q]?) (hn : va_at g.1 vwCl (g.2.2.1 + lay.length, aCell g (aClr S lay.length) lay.length o) H1) : va_P g.1 vwCl (aWs g (lay ++ [o]) (aClr S lay.length)) H1 := by
  rw [aWs_push]
  refine va_P.app (hP.kept (fun k x hx => hk x.1 (hP k x hx).lt)) (fun k x hx => ?_)
  have hz1 : k < 1 := (List.getElem?_eq_some_iff.mp hx).1
  rw [show k = 0 by omega] at hx
  cases hx
  exact hn
section AN
variable {C : aC} {M : aM} {k n pc idx p1 p2 p3 : Nat} {lv : List (Nat × Value)} {st : List Value} {lay : aLay} {S : aSt}
theorem aNew (hC : aCx C M) (hT : aOK M) (hq : aLk M.2.2.2.2.2.2.1 pc = some (.new idx, 3)) {ci : Nat} {cn : String} {T : u_T} {N : Nat} (hc : vwCl[ci]? = some (cn, T, N)) (h1 : lw_tbl[p1]? = some (.classLink M.1 idx cn)) (h2 : lw_tbl[p2]? = some (.instantiable cn N)) (h3 : lw_tbl[p3]? = some (.initialized cn))
    (hf : (List.range N).all (fun j => defaultValue (aFt T j) == aFv ((fun _ _ => 0, fun _ _ => 0, fun _ _ => 0) : aSt) 0 j (aKd (aFt T j))) = true) (hrm : k + 1 ≤ M.2.2.2.2.2.1.cells ∧ n + N ≤ M.2.2.2.2.2.1.slots) {len : Nat} (hll : lay.length = len) (hlen : len < 1000) {kinds : List (Nat × Nat)} (hkd : aKinds T N = kinds) {lay' : aLay} (hly : lay ++ [.inr (ci, kinds)] = lay')
    (kk : aX C M (k + 1) (n + N) (pc + 3, lv, .ref len :: st, lay', aClr S len)) : aX C M k n (pc, lv, st, lay, S) := by
  obtain ⟨g, p, l, e, R, s, m, args, below, meth, c, Q⟩ := C
  subst hly; subst hkd; subst hll
  obtain ⟨hx, hb, hml, hown, hts, hK, hRo, hbs, hini, hlk, hret, hR⟩ := hC
  intro H ls locs hP hz hl hS
  subst hR
  have hKn := hK.1 ci _ hc
  have hcm := aCls _ (List.mem_of_getElem? hc)
  refine W.newcK hx hb hown (aTw hts h1) (aTw hts h2) (aTw hts h3) rfl (aDc hT hq) hrm.1 hrm.2 hKn.2.1 hz fun H1 kC hkC e1 z1 o1 => ?_
  have hP1 : va_P g.1 vwCl (aWs g (lay ++ [.inr (ci, aKinds T N)]) (aClr S lay.length)) H1 := by
    refine aP_push hP hz (fun q hq => o1 q (by rw [← hz]; exact hq)) ⟨_, hc, (u_born (aFt T) hts hcm.1 hKn hkC e1 hcm.2.1).to (fun j hj => ?_)⟩
    have hf1 := List.all_eq_true.mp hf j (List.mem_range.mpr hj)
    have hf2 : defaultValue (aFt T j) = aFv ((fun _ _ => 0, fun _ _ => 0, fun _ _ => 0) : aSt) 0 j (aKd (aFt T j)) := by simpa using hf1
    have hg1 : (aKinds T N)[j]? = some (aKd (aFt T j)) := by simp [aKinds, hj]
    have hg2 := aObj_get (g := g) (S := aClr S lay.length) (k := lay.length) hg1
    show _ = vp_V _ j
    unfold vp_V
    rw [List.getD_eq_getElem?_getD]
    rw [hg2, hf2]
    generalize hkd : aKd (aFt T j) = kd
    cases hty : aFt T j <;> rw [hty] at hkd <;> subst hkd <;> simp [aKd, aFv, aCv, aClr]
  have k1 := kk H1 ls locs hP1 (by rw [z1]; simp [Nat.add_assoc]) hl ⟨Nat.le_trans hS.1 (by rw [z1, hz]; exact Nat.le_succ _), fun x h4 h5 => (o1 x (by have h6 := hS.1; rw [hz] at h6; exact Nat.lt_of_lt_of_le h4 h6)).trans (hS.2.1 x h4 h5), hS.2.2⟩
  dsimp only at k1
  rw [List.map_cons, aCvR g hlen] at k1
  exact k1
theorem aNewA (hC : aCx C M) (hT : aOK M) {at_ : ArrayType} (hq : aLk M.2.2.2.2.2.2.1 pc = some (.newarray at_, 2)) (h1 : lw_tbl[p1]? = some (.arrayClass (newarray.typeOf at_))) (tag : Nat) (htag : (tag = 0 ∧ at_ = .int) ∨ (tag = 1 ∧ at_ = .boolean)) {v : Int32} {N : Nat} (hv : ¬ v < 0) (hN : v.toNatClampNeg = N) (hby : N * componentBytes (newarray.typeOf at_) ≤ 536870912) (hrm : k + 1 ≤ M.2.2.2.2.2.1.cells ∧ n + N ≤ M.2.2.2.2.2.1.slots) {len : Nat} (hll : lay.length = len) (hlen : len < 1000) {lay' : aLay} (hly : lay ++ [.inl (tag, N)] = lay')
    (kk : aX C M (k + 1) (n + N) (pc + 2, lv, .ref len :: st, lay', aClr S len)) : aX C M k n (pc, lv, .int v :: st, lay, S) := by
  obtain ⟨g, p, l, e, R, s, m, args, below, meth, c, Q⟩ := C
  subst hly; subst hll
  obtain ⟨hx, hb, hml, hown, hts, hK, hRo, hbs, hini, hlk, hret, hR⟩ := hC
  intro H ls locs hP hz hl hS
  subst hR
  refine va_newaK hx hb (aTw hts h1 (by rcases htag with ⟨-, rfl⟩ | ⟨-, rfl⟩ <;> rfl)) rfl (aDc hT hq) rfl hv hN hby hrm.1 hrm.2 hz fun H1 cA e1 z1 o1 hAr hNm => ?_
  have hcA : cA = g.2.1 tag ∧ defaultValue (newarray.typeOf at_) = .int 0 := by
    rcases htag with ⟨rfl, rfl⟩ | ⟨rfl, rfl⟩
    · exact ⟨Option.some.inj (hNm.symm.trans (hK.2 0 (g.2.1 0, .int) rfl).2), rfl⟩
    · exact ⟨Option.some.inj (hNm.symm.trans (hK.2 1 (g.2.1 1, .boolean) rfl).2), rfl⟩
  obtain ⟨hcA, hdf⟩ := hcA
  have hP1 : va_P g.1 vwCl (aWs g (lay ++ [.inl (tag, N)]) (aClr S lay.length)) H1 := by
    refine aP_push hP hz (fun q hq => o1 q (by rw [← hz]; exact hq)) ?_
    show H1[g.2.2.1 + lay.length]? = some (vp_cell (g.2.1 tag) (N, .inl ((aClr S lay.length).2.2 lay.length)))
    rw [e1, vp_cell_i, hcA, hdf]
    simp [aClr]
  have k1 := kk H1 ls locs hP1 (by rw [z1]; simp [Nat.add_assoc]) hl ⟨Nat.le_trans hS.1 (by rw [z1, hz]; exact Nat.le_succ _), fun x h4 h5 => (o1 x (by have h6 := hS.1; rw [hz] at h6; exact Nat.lt_of_lt_of_le h4 h6)).trans (hS.2.1 x h4 h5), hS.2.2⟩
  dsimp only at k1
  rw [List.map_cons, aCvR g hlen] at k1
  exact k1
/-- Object's own constructor -/
theorem aObjI (hC : aCx C M) (hT : aOK M) {b : Nat} (hq : aLk M.2.2.2.2.2.2.1 pc = some (.invokespecial idx, 3)) (h1 : lw_tbl[p1]? = some (.methodLink M.1 idx Lib.objectInit)) (h2 : lw_tbl[p2]? = some (.instanceMethod Lib.objectInit)) (h3 : lw_tbl[p3]? = some (.code Lib.objectInit ⟨#[0xb1]⟩ 1 none)) (hb1 : b < 1000) (hrm : 1 ≤ M.2.2.2.2.2.1.frames ∧ (st.map fun v => v.category).sum + 12 ≤ M.2.2.2.2.2.1.locals)
    (kk : aX C M k n (pc + 3, lv, st, lay, S)) : aX C M k n (pc, lv, .ref b :: st, lay, S) := by
  obtain ⟨g, p, l, e, R, s, m, args, below, meth, c, Q⟩ := C
  obtain ⟨hx, hb, hml, hown, hts, hK, hRo, hbs, hini, hlk, hret, hR⟩ := hC
  intro H ls locs hP hz hl hS
  subst hR
  dsimp only
  rw [List.map_cons, aCvR g hb1]
  exact W.objInit hx hb hown (aTw hts h1) (aTw hts h2) (aTw hts h3) rfl (by rw [hml]; exact hl.1) rfl (aDc hT hq) hrm.1 (by rw [aCat]; show 2 * 0 + _ + 12 ≤ _; have := hrm.2; omega) (kk H ls locs hP hz hl hS)
end AN
/-! how the printed functions are read -/
def aLet {α β : Type} (x : α) (f : α → β) : β := f x
theorem aLetE {α β : Type} {x : α} {f : α → β} {r : β} (h : aLet x f = r) : ∃ y, x = y ∧ f y = r := ⟨x, rfl, h⟩
theorem aBnE {α β : Type} {x : Option α} {f : α → Option β} {r : β} (h : x.bind f = some r) : ∃ y, x = some y ∧ f y = some r := by
  cases x with
  | none => cases h
  | some y => exact ⟨y, rfl, h⟩
theorem aGdE {α : Type} {c : Prop} [Decidable c] {x : Option α} {r : α} (h : (if c then x else none) = some r) : c ∧ x = some r := by
  split at h
  · rename_i hc; exact ⟨hc, h⟩
  · cases h
theorem aIfT {α : Type} {c : Prop} [Decidable c] {x y r : α} (h : (if c then x else y) = r) (hc : c) : x = r := by
  rw [if_pos hc] at h; exact h
theorem aIfF {α : Type} {c : Prop} [Decidable c] {x y r : α} (h : (if c then x else y) = r) (hc : ¬ c) : y = r := by
  rw [if_neg hc] at h; exact h
/-- the contents behind a call; the answer -/
theorem aRetSub {α : Type} {x r : α} (h : x = r) : r = x := h.symm
theorem aIfE {α : Type} {c : Prop} [Decidable c] {x y r : α} (h : (if c then x else y) = r) : (c ∧ x = r) ∨ (¬ c ∧ y = r) := by
  by_cases hc : c
  · rw [if_pos hc] at h; exact Or.inl ⟨hc, h⟩
  · rw [if_neg hc] at h; exact Or.inr ⟨hc, h⟩
theorem aTswE {α : Type} {c : Prop} [Decidable c] {x y r : α} (h : (if c then x else y) = r) : (c ∧ x = r) ∨ (¬ c ∧ y = r) := aIfE h
theorem aIx_of {i : Int32} {N : Nat} (h1 : ¬ i < 0) (h2 : ¬ Int32.ofNat N ≤ i) (hN : N < 2 ^ 31) : aIx i N = true := by
  obtain ⟨j, hj, rfl⟩ := nI_of h1
  have h3 : ¬ N ≤ j := fun h => h2 (nI_le h hj)
  unfold aIx
  rw [nI_clamp hj]
  simp only [decide_eq_true_eq, not_or]
  exact ⟨nI_pos hj, h3⟩
/-- a call by a nest mate's word -/
def aCON (M M' : aM) (idx : Nat) (y : MethodName) (_p1 p2 p3 na : Nat) : Prop :=
  lw_tbl[p2]? = some (.initialized y.cls) ∧ lw_tbl[p3]? = some (.code y M'.2.1 M'.2.2.1 M'.2.2.2.2.1) ∧
  (y.cls ≠ "java/lang/invoke/MethodHandle" ∧ y.cls ≠ "java/lang/invoke/VarHandle" ∧ (parseMethodDescriptor y.desc).map (fun d => d.parameters.length) = some na) ∧
  (M'.2.2.2.2.2.1.frames + 1 ≤ M.2.2.2.2.2.1.frames ∧ 8 + (M'.2.2.1 + 11) + M'.2.2.2.2.2.1.locals ≤ M.2.2.2.2.2.1.locals) ∧ (M.1 = "NinePence" ∧ idx = 11 ∧ y = ⟨"NinePence$Text", "<init>", "()V"⟩)
theorem aCallIN {C : aC} {M M' : aM} {k n k' n' pc idx p1 p2 p3 na : Nat} {y : MethodName} {lv : List (Nat × Value)} {lay lay' : aLay} {S S' : aSt} {r : Option Value} {rest As : List Value} {b : Nat}
    (hC : aCx C M) (hT : aOK M) (hq : aLk M.2.2.2.2.2.2.1 pc = some (.invokespecial idx, 3)) (hO : aCON M M' idx y p1 p2 p3 na) (p4 : Nat) (h4 : lw_tbl[p4]? = some (.instanceMethod y)) (hyn : y.name = "<init>") (hret2 : M'.2.2.2.2.1 = none) (hb1 : b < 1000) (hn : As.length = na) (hrs : (rest.map fun v => v.category).sum ≤ 8)
    (hrm : M'.2.2.2.2.2.1.cells = k' ∧ M'.2.2.2.2.2.1.slots = n' ∧ k + k' ≤ M.2.2.2.2.2.1.cells ∧ n + n' ≤ M.2.2.2.2.2.1.slots)
    (hJ : aJ C.2.2.1 C.1 y M' (.ref b :: As) lay S r lay' S' k' n') (kk : aX C M (k + k') (n + n') (pc + 3, lv, r.toList ++ rest, lay', S')) : aX C M k n (pc, lv, As.reverse ++ .ref b :: rest, lay, S) := by
  obtain ⟨g, p, l, e, R, s, m, args, below, meth, c, Q⟩ := C
  obtain ⟨hx, hb, hml, hown, hts, hK, hRo, hbs, hini, hlk, hret, hR⟩ := hC
  obtain ⟨o2, o3, o4, o5, om, oi, oy⟩ := hO
  intro H ls locs hP hz hl hS
  subst hR
  rw [hret2] at o3
  unfold aJ at hJ
  rw [hret2] at hJ
  have hcode := aTb o3 rfl
  have hst : (As.reverse ++ .ref b :: rest).map (aCv g) = (As.map (aCv g)).reverse ++ .ref (g.2.2.1 + b) :: rest.map (aCv g) := by rw [List.map_append, List.map_reverse, List.map_cons, aCvR g hb1]
  dsimp only
  rw [hst]
  have hnw : va_Nw (.methodLinkNest M.1 idx y "NinePence") s := by rw [om, oi, oy]; exact hRo.2.2.2.2.2.1
  have cb := va_cnB (R := M.2.2.2.2.2.1) (args := args) (mc := k') (ms := n') na hts (aGoodIn hcode) rfl hrm.1 hrm.2.1 hnw (aTw hts o2) o4 o5
  have hpc : ∀ U : State, U.heap = H → s.WarmedH U.vm → aPc g (.ref b :: As) lay S (Value.ref (g.2.2.1 + b) :: As.map (aCv g)).toArray U := fun U hU hW => ⟨by rw [List.map_cons, aCvR g hb1], by rw [hU]; exact hP, by rw [hU]; exact hz, va_K.moved hW.alike hK, by rw [hU]; exact hRo.on hS hW⟩
  refine aFromRun (M := M) (lay' := lay') (S' := S') (va_runIN (As := As.map (aCv g)) (rest := rest.map (aCv g)) ⟨hx, hb, hml, hown, hts⟩ hJ ⟨cb, hyn, aTw hts h4⟩ ⟨aBlind g _ lay S, hpc⟩ rfl (by rw [List.length_map]; exact hn) hl.1 rfl (lv_room (by rw [aCat]; exact hrs)) (aDc hT hq) ⟨hrm.2.2.1, hrm.2.2.2⟩) hS hl kk
end
section
/-! by wip/whole/gen -/
def LAY : aLay := [.inr (7, [(0, 2), (0, 9), (0, 15), (0, 23), (0, 26), (0, 29), (0, 30), (0, 31), (0, 35), (0, 39), (1, 0)]), .inr (6, [(1, 0), (1, 0), (0, 3), (0, 4), (0, 5), (0, 6), (0, 7), (0, 8), (1, 0)]), .inl (0, 200), .inl (0, 201), .inl (0, 201), .inl (0, 201), .inl (0, 10), .inl (0, 40), .inr (0, [(1, 0), (1, 0), (1, 0), (1, 0), (1, 0), (0, 10), (0, 11), (0, 12), (0, 13), (0, 14)]), .inl (0, 150), .inl (0, 20), .inl (0, 100), .inl (0, 6), .inl (1, 6), .inr (5, [(1, 0), (0, 9), (0, 16), (0, 17), (0, 18), (0, 19), (0, 20), (0, 21), (0, 22)]), .inl (0, 1921), .inl (0, 1921), .inl (0, 1921), .inl (0, 1921), .inl (0, 1921), .inl (0, 1021), .inl (0, 1921), .inr (4, [(1, 0), (2, 0), (0, 9), (0, 15), (1, 0), (0, 24), (0, 25)]), .inl (0, 157), .inl (0, 6), .inr (4, [(1, 0), (2, 0), (0, 9), (0, 15), (1, 0), (0, 27), (0, 28)]), .inl (0, 157), .inl (0, 6), .inr (3, [(2, 0), (2, 0), (1, 0), (1, 0), (2, 0), (0, 15)]), .inr (3, [(2, 0), (2, 0), (1, 0), (1, 0), (2, 0), (0, 15)]), .inr (1, [(1, 0), (2, 0), (2, 0), (0, 9), (0, 15), (0, 23), (0, 32), (0, 33), (0, 34)]), .inl (0, 30), .inl (0, 30), .inl (0, 30), .inr (1, [(1, 0), (2, 0), (2, 0), (0, 9), (0, 15), (0, 26), (0, 36), (0, 37), (0, 38)]), .inl (0, 30), .inl (0, 30), .inl (0, 30), .inr (2, [(1, 0), (0, 9), (0, 40), (0, 41), (0, 42)]), .inl (0, 12), .inl (0, 169), .inl (0, 169), .inr (8, [(0, 44), (1, 0), (0, 45), (1, 0), (0, 46), (1, 0), (0, 47), (1, 0), (0, 48), (0, 49), (1, 0), (1, 0), (1, 0), (0, 50), (1, 0), (1, 0), (1, 0), (1, 0), (0, 51), (0, 52), (0, 53), (0, 54), (0, 55), (1, 0), (0, 56), (1, 0), (2, 0), (2, 0), (1, 0), (1, 0), (0, 57), (0, 58), (1, 0), (0, 59)]), .inl (0, 200), .inl (0, 50), .inl (0, 150), .inl (0, 6), .inl (0, 20), .inl (0, 100), .inl (0, 12), .inl (0, 2048), .inl (0, 2048), .inl (0, 2048), .inl (0, 2048), .inl (0, 2048), .inl (0, 2048), .inl (0, 30), .inl (0, 30), .inl (0, 169)]
def Ly0 : aLay := [.inr (7, [(0, 0), (0, 0), (0, 0), (0, 0), (0, 0), (0, 0), (0, 0), (0, 0), (0, 0), (0, 0), (1, 0)])]
def Ly1 : aLay := [.inr (7, [(0, 0), (0, 0), (0, 0), (0, 0), (0, 0), (0, 0), (0, 0), (0, 0), (0, 0), (0, 0), (1, 0)]), .inr (6, [(1, 0), (1, 0), (0, 0), (0, 0), (0, 0), (0, 0), (0, 0), (0, 0), (1, 0)])]
def Ly2 : aLay := [.inr (7, [(0, 0), (0, 0), (0, 0), (0, 0), (0, 0), (0, 0), (0, 0), (0, 0), (0, 0), (0, 0), (1, 0)]), .inr (6, [(1, 0), (1, 0), (0, 0), (0, 0), (0, 0), (0, 0), (0, 0), (0, 0), (1, 0)]), .inl (0, 200)]
def Ly3 : aLay := [.inr (7, [(0, 0), (0, 0), (0, 0), (0, 0), (0, 0), (0, 0), (0, 0), (0, 0), (0, 0), (0, 0), (1, 0)]), .inr (6, [(1, 0), (1, 0), (0, 3), (0, 0), (0, 0), (0, 0), (0, 0), (0, 0), (1, 0)]), .inl (0, 200)]
def Ly4 : aLay := [.inr (7, [(0, 0), (0, 0), (0, 0), (0, 0), (0, 0), (0, 0), (0, 0), (0, 0), (0, 0), (0, 0), (1, 0)]), .inr (6, [(1, 0), (1, 0), (0, 3), (0, 0), (0, 0), (0, 0), (0, 0), (0, 0), (1, 0)]), .inl (0, 200), .inl (0, 201)]
def Ly5 : aLay := [.inr (7, [(0, 0), (0, 0), (0, 0), (0, 0), (0, 0), (0, 0), (0, 0), (0, 0), (0, 0), (0, 0), (1, 0)]), .inr (6, [(1, 0), (1, 0), (0, 3), (0, 4), (0, 0), (0, 0), (0, 0), (0, 0), (1, 0)]), .inl (0, 200), .inl (0, 201)]
def Ly6 : aLay := [.inr (7, [(0, 0), (0, 0), (0, 0), (0, 0), (0, 0), (0, 0), (0, 0), (0, 0), (0, 0), (0, 0), (1, 0)]), .inr (6, [(1, 0), (1, 0), (0, 3), (0, 4), (0, 0), (0, 0), (0, 0), (0, 0), (1, 0)]), .inl (0, 200), .inl (0, 201), .inl (0, 201)]
def Ly7 : aLay := [.inr (7, [(0, 0), (0, 0), (0, 0), (0, 0), (0, 0), (0, 0), (0, 0), (0, 0), (0, 0), (0, 0), (1, 0)]), .inr (6, [(1, 0), (1, 0), (0, 3), (0, 4), (0, 5), (0, 0), (0, 0), (0, 0), (1, 0)]), .inl (0, 200), .inl (0, 201), .inl (0, 201)]
def Ly8 : aLay := [.inr (7, [(0, 0), (0, 0), (0, 0), (0, 0), (0, 0), (0, 0), (0, 0), (0, 0), (0, 0), (0, 0), (1, 0)]), .inr (6, [(1, 0), (1, 0), (0, 3), (0, 4), (0, 5), (0, 0), (0, 0), (0, 0), (1, 0)]), .inl (0, 200), .inl (0, 201), .inl (0, 201), .inl (0, 201)]
def Ly9 : aLay := [.inr (7, [(0, 0), (0, 0), (0, 0), (0, 0), (0, 0), (0, 0), (0, 0), (0, 0), (0, 0), (0, 0), (1, 0)]), .inr (6, [(1, 0), (1, 0), (0, 3), (0, 4), (0, 5), (0, 6), (0, 0), (0, 0), (1, 0)]), .inl (0, 200), .inl (0, 201), .inl (0, 201), .inl (0, 201)]
def Ly10 : aLay := [.inr (7, [(0, 0), (0, 0), (0, 0), (0, 0), (0, 0), (0, 0), (0, 0), (0, 0), (0, 0), (0, 0), (1, 0)]), .inr (6, [(1, 0), (1, 0), (0, 3), (0, 4), (0, 5), (0, 6), (0, 0), (0, 0), (1, 0)]), .inl (0, 200), .inl (0, 201), .inl (0, 201), .inl (0, 201), .inl (0, 10)]
def Ly11 : aLay := [.inr (7, [(0, 0), (0, 0), (0, 0), (0, 0), (0, 0), (0, 0), (0, 0), (0, 0), (0, 0), (0, 0), (1, 0)]), .inr (6, [(1, 0), (1, 0), (0, 3), (0, 4), (0, 5), (0, 6), (0, 7), (0, 0), (1, 0)]), .inl (0, 200), .inl (0, 201), .inl (0, 201), .inl (0, 201), .inl (0, 10)]
def Ly12 : aLay := [.inr (7, [(0, 0), (0, 0), (0, 0), (0, 0), (0, 0), (0, 0), (0, 0), (0, 0), (0, 0), (0, 0), (1, 0)]), .inr (6, [(1, 0), (1, 0), (0, 3), (0, 4), (0, 5), (0, 6), (0, 7), (0, 0), (1, 0)]), .inl (0, 200), .inl (0, 201), .inl (0, 201), .inl (0, 201), .inl (0, 10), .inl (0, 40)]
def Ly13 : aLay := [.inr (7, [(0, 0), (0, 0), (0, 0), (0, 0), (0, 0), (0, 0), (0, 0), (0, 0), (0, 0), (0, 0), (1, 0)]), .inr (6, [(1, 0), (1, 0), (0, 3), (0, 4), (0, 5), (0, 6), (0, 7), (0, 8), (1, 0)]), .inl (0, 200), .inl (0, 201), .inl (0, 201), .inl (0, 201), .inl (0, 10), .inl (0, 40)]
def Ly14 : aLay := [.inr (7, [(0, 2), (0, 0), (0, 0), (0, 0), (0, 0), (0, 0), (0, 0), (0, 0), (0, 0), (0, 0), (1, 0)]), .inr (6, [(1, 0), (1, 0), (0, 3), (0, 4), (0, 5), (0, 6), (0, 7), (0, 8), (1, 0)]), .inl (0, 200), .inl (0, 201), .inl (0, 201), .inl (0, 201), .inl (0, 10), .inl (0, 40)]
def Ly15 : aLay := [.inr (7, [(0, 2), (0, 0), (0, 0), (0, 0), (0, 0), (0, 0), (0, 0), (0, 0), (0, 0), (0, 0), (1, 0)]), .inr (6, [(1, 0), (1, 0), (0, 3), (0, 4), (0, 5), (0, 6), (0, 7), (0, 8), (1, 0)]), .inl (0, 200), .inl (0, 201), .inl (0, 201), .inl (0, 201), .inl (0, 10), .inl (0, 40), .inr (0, [(1, 0), (1, 0), (1, 0), (1, 0), (1, 0), (0, 0), (0, 0), (0, 0), (0, 0), (0, 0)])]
def Ly16 : aLay := [.inr (7, [(0, 2), (0, 0), (0, 0), (0, 0), (0, 0), (0, 0), (0, 0), (0, 0), (0, 0), (0, 0), (1, 0)]), .inr (6, [(1, 0), (1, 0), (0, 3), (0, 4), (0, 5), (0, 6), (0, 7), (0, 8), (1, 0)]), .inl (0, 200), .inl (0, 201), .inl (0, 201), .inl (0, 201), .inl (0, 10), .inl (0, 40), .inr (0, [(1, 0), (1, 0), (1, 0), (1, 0), (1, 0), (0, 0), (0, 0), (0, 0), (0, 0), (0, 0)]), .inl (0, 150)]
def Ly17 : aLay := [.inr (7, [(0, 2), (0, 0), (0, 0), (0, 0), (0, 0), (0, 0), (0, 0), (0, 0), (0, 0), (0, 0), (1, 0)]), .inr (6, [(1, 0), (1, 0), (0, 3), (0, 4), (0, 5), (0, 6), (0, 7), (0, 8), (1, 0)]), .inl (0, 200), .inl (0, 201), .inl (0, 201), .inl (0, 201), .inl (0, 10), .inl (0, 40), .inr (0, [(1, 0), (1, 0), (1, 0), (1, 0), (1, 0), (0, 10), (0, 0), (0, 0), (0, 0), (0, 0)]), .inl (0, 150)]
def Ly18 : aLay := [.inr (7, [(0, 2), (0, 0), (0, 0), (0, 0), (0, 0), (0, 0), (0, 0), (0, 0), (0, 0), (0, 0), (1, 0)]), .inr (6, [(1, 0), (1, 0), (0, 3), (0, 4), (0, 5), (0, 6), (0, 7), (0, 8), (1, 0)]), .inl (0, 200), .inl (0, 201), .inl (0, 201), .inl (0, 201), .inl (0, 10), .inl (0, 40), .inr (0, [(1, 0), (1, 0), (1, 0), (1, 0), (1, 0), (0, 10), (0, 0), (0, 0), (0, 0), (0, 0)]), .inl (0, 150), .inl (0, 20)]
def Ly19 : aLay := [.inr (7, [(0, 2), (0, 0), (0, 0), (0, 0), (0, 0), (0, 0), (0, 0), (0, 0), (0, 0), (0, 0), (1, 0)]), .inr (6, [(1, 0), (1, 0), (0, 3), (0, 4), (0, 5), (0, 6), (0, 7), (0, 8), (1, 0)]), .inl (0, 200), .inl (0, 201), .inl (0, 201), .inl (0, 201), .inl (0, 10), .inl (0, 40), .inr (0, [(1, 0), (1, 0), (1, 0), (1, 0), (1, 0), (0, 10), (0, 11), (0, 0), (0, 0), (0, 0)]), .inl (0, 150), .inl (0, 20)]
def Ly20 : aLay := [.inr (7, [(0, 2), (0, 0), (0, 0), (0, 0), (0, 0), (0, 0), (0, 0), (0, 0), (0, 0), (0, 0), (1, 0)]), .inr (6, [(1, 0), (1, 0), (0, 3), (0, 4), (0, 5), (0, 6), (0, 7), (0, 8), (1, 0)]), .inl (0, 200), .inl (0, 201), .inl (0, 201), .inl (0, 201), .inl (0, 10), .inl (0, 40), .inr (0, [(1, 0), (1, 0), (1, 0), (1, 0), (1, 0), (0, 10), (0, 11), (0, 0), (0, 0), (0, 0)]), .inl (0, 150), .inl (0, 20), .inl (0, 100)]
def Ly21 : aLay := [.inr (7, [(0, 2), (0, 0), (0, 0), (0, 0), (0, 0), (0, 0), (0, 0), (0, 0), (0, 0), (0, 0), (1, 0)]), .inr (6, [(1, 0), (1, 0), (0, 3), (0, 4), (0, 5), (0, 6), (0, 7), (0, 8), (1, 0)]), .inl (0, 200), .inl (0, 201), .inl (0, 201), .inl (0, 201), .inl (0, 10), .inl (0, 40), .inr (0, [(1, 0), (1, 0), (1, 0), (1, 0), (1, 0), (0, 10), (0, 11), (0, 12), (0, 0), (0, 0)]), .inl (0, 150), .inl (0, 20), .inl (0, 100)]
def Ly22 : aLay := [.inr (7, [(0, 2), (0, 0), (0, 0), (0, 0), (0, 0), (0, 0), (0, 0), (0, 0), (0, 0), (0, 0), (1, 0)]), .inr (6, [(1, 0), (1, 0), (0, 3), (0, 4), (0, 5), (0, 6), (0, 7), (0, 8), (1, 0)]), .inl (0, 200), .inl (0, 201), .inl (0, 201), .inl (0, 201), .inl (0, 10), .inl (0, 40), .inr (0, [(1, 0), (1, 0), (1, 0), (1, 0), (1, 0), (0, 10), (0, 11), (0, 12), (0, 0), (0, 0)]), .inl (0, 150), .inl (0, 20), .inl (0, 100), .inl (0, 6)]
def Ly23 : aLay := [.inr (7, [(0, 2), (0, 0), (0, 0), (0, 0), (0, 0), (0, 0), (0, 0), (0, 0), (0, 0), (0, 0), (1, 0)]), .inr (6, [(1, 0), (1, 0), (0, 3), (0, 4), (0, 5), (0, 6), (0, 7), (0, 8), (1, 0)]), .inl (0, 200), .inl (0, 201), .inl (0, 201), .inl (0, 201), .inl (0, 10), .inl (0, 40), .inr (0, [(1, 0), (1, 0), (1, 0), (1, 0), (1, 0), (0, 10), (0, 11), (0, 12), (0, 13), (0, 0)]), .inl (0, 150), .inl (0, 20), .inl (0, 100), .inl (0, 6)]
def Ly24 : aLay := [.inr (7, [(0, 2), (0, 0), (0, 0), (0, 0), (0, 0), (0, 0), (0, 0), (0, 0), (0, 0), (0, 0), (1, 0)]), .inr (6, [(1, 0), (1, 0), (0, 3), (0, 4), (0, 5), (0, 6), (0, 7), (0, 8), (1, 0)]), .inl (0, 200), .inl (0, 201), .inl (0, 201), .inl (0, 201), .inl (0, 10), .inl (0, 40), .inr (0, [(1, 0), (1, 0), (1, 0), (1, 0), (1, 0), (0, 10), (0, 11), (0, 12), (0, 13), (0, 0)]), .inl (0, 150), .inl (0, 20), .inl (0, 100), .inl (0, 6), .inl (1, 6)]
def Ly25 : aLay := [.inr (7, [(0, 2), (0, 0), (0, 0), (0, 0), (0, 0), (0, 0), (0, 0), (0, 0), (0, 0), (0, 0), (1, 0)]), .inr (6, [(1, 0), (1, 0), (0, 3), (0, 4), (0, 5), (0, 6), (0, 7), (0, 8), (1, 0)]), .inl (0, 200), .inl (0, 201), .inl (0, 201), .inl (0, 201), .inl (0, 10), .inl (0, 40), .inr (0, [(1, 0), (1, 0), (1, 0), (1, 0), (1, 0), (0, 10), (0, 11), (0, 12), (0, 13), (0, 14)]), .inl (0, 150), .inl (0, 20), .inl (0, 100), .inl (0, 6), .inl (1, 6)]
def Ly26 : aLay := [.inr (7, [(0, 2), (0, 9), (0, 0), (0, 0), (0, 0), (0, 0), (0, 0), (0, 0), (0, 0), (0, 0), (1, 0)]), .inr (6, [(1, 0), (1, 0), (0, 3), (0, 4), (0, 5), (0, 6), (0, 7), (0, 8), (1, 0)]), .inl (0, 200), .inl (0, 201), .inl (0, 201), .inl (0, 201), .inl (0, 10), .inl (0, 40), .inr (0, [(1, 0), (1, 0), (1, 0), (1, 0), (1, 0), (0, 10), (0, 11), (0, 12), (0, 13), (0, 14)]), .inl (0, 150), .inl (0, 20), .inl (0, 100), .inl (0, 6), .inl (1, 6)]
def Ly27 : aLay := [.inr (7, [(0, 2), (0, 9), (0, 0), (0, 0), (0, 0), (0, 0), (0, 0), (0, 0), (0, 0), (0, 0), (1, 0)]), .inr (6, [(1, 0), (1, 0), (0, 3), (0, 4), (0, 5), (0, 6), (0, 7), (0, 8), (1, 0)]), .inl (0, 200), .inl (0, 201), .inl (0, 201), .inl (0, 201), .inl (0, 10), .inl (0, 40), .inr (0, [(1, 0), (1, 0), (1, 0), (1, 0), (1, 0), (0, 10), (0, 11), (0, 12), (0, 13), (0, 14)]), .inl (0, 150), .inl (0, 20), .inl (0, 100), .inl (0, 6), .inl (1, 6), .inr (5, [(1, 0), (0, 0), (0, 0), (0, 0), (0, 0), (0, 0), (0, 0), (0, 0), (0, 0)])]
def Ly28 : aLay := [.inr (7, [(0, 2), (0, 9), (0, 0), (0, 0), (0, 0), (0, 0), (0, 0), (0, 0), (0, 0), (0, 0), (1, 0)]), .inr (6, [(1, 0), (1, 0), (0, 3), (0, 4), (0, 5), (0, 6), (0, 7), (0, 8), (1, 0)]), .inl (0, 200), .inl (0, 201), .inl (0, 201), .inl (0, 201), .inl (0, 10), .inl (0, 40), .inr (0, [(1, 0), (1, 0), (1, 0), (1, 0), (1, 0), (0, 10), (0, 11), (0, 12), (0, 13), (0, 14)]), .inl (0, 150), .inl (0, 20), .inl (0, 100), .inl (0, 6), .inl (1, 6), .inr (5, [(1, 0), (0, 0), (0, 0), (0, 0), (0, 0), (0, 0), (0, 0), (0, 0), (0, 0)]), .inl (0, 1921)]
def Ly29 : aLay := [.inr (7, [(0, 2), (0, 9), (0, 0), (0, 0), (0, 0), (0, 0), (0, 0), (0, 0), (0, 0), (0, 0), (1, 0)]), .inr (6, [(1, 0), (1, 0), (0, 3), (0, 4), (0, 5), (0, 6), (0, 7), (0, 8), (1, 0)]), .inl (0, 200), .inl (0, 201), .inl (0, 201), .inl (0, 201), .inl (0, 10), .inl (0, 40), .inr (0, [(1, 0), (1, 0), (1, 0), (1, 0), (1, 0), (0, 10), (0, 11), (0, 12), (0, 13), (0, 14)]), .inl (0, 150), .inl (0, 20), .inl (0, 100), .inl (0, 6), .inl (1, 6), .inr (5, [(1, 0), (0, 0), (0, 16), (0, 0), (0, 0), (0, 0), (0, 0), (0, 0), (0, 0)]), .inl (0, 1921)]
def Ly30 : aLay := [.inr (7, [(0, 2), (0, 9), (0, 0), (0, 0), (0, 0), (0, 0), (0, 0), (0, 0), (0, 0), (0, 0), (1, 0)]), .inr (6, [(1, 0), (1, 0), (0, 3), (0, 4), (0, 5), (0, 6), (0, 7), (0, 8), (1, 0)]), .inl (0, 200), .inl (0, 201), .inl (0, 201), .inl (0, 201), .inl (0, 10), .inl (0, 40), .inr (0, [(1, 0), (1, 0), (1, 0), (1, 0), (1, 0), (0, 10), (0, 11), (0, 12), (0, 13), (0, 14)]), .inl (0, 150), .inl (0, 20), .inl (0, 100), .inl (0, 6), .inl (1, 6), .inr (5, [(1, 0), (0, 0), (0, 16), (0, 0), (0, 0), (0, 0), (0, 0), (0, 0), (0, 0)]), .inl (0, 1921), .inl (0, 1921)]
def Ly31 : aLay := [.inr (7, [(0, 2), (0, 9), (0, 0), (0, 0), (0, 0), (0, 0), (0, 0), (0, 0), (0, 0), (0, 0), (1, 0)]), .inr (6, [(1, 0), (1, 0), (0, 3), (0, 4), (0, 5), (0, 6), (0, 7), (0, 8), (1, 0)]), .inl (0, 200), .inl (0, 201), .inl (0, 201), .inl (0, 201), .inl (0, 10), .inl (0, 40), .inr (0, [(1, 0), (1, 0), (1, 0), (1, 0), (1, 0), (0, 10), (0, 11), (0, 12), (0, 13), (0, 14)]), .inl (0, 150), .inl (0, 20), .inl (0, 100), .inl (0, 6), .inl (1, 6), .inr (5, [(1, 0), (0, 0), (0, 16), (0, 17), (0, 0), (0, 0), (0, 0), (0, 0), (0, 0)]), .inl (0, 1921), .inl (0, 1921)]
def Ly32 : aLay := [.inr (7, [(0, 2), (0, 9), (0, 0), (0, 0), (0, 0), (0, 0), (0, 0), (0, 0), (0, 0), (0, 0), (1, 0)]), .inr (6, [(1, 0), (1, 0), (0, 3), (0, 4), (0, 5), (0, 6), (0, 7), (0, 8), (1, 0)]), .inl (0, 200), .inl (0, 201), .inl (0, 201), .inl (0, 201), .inl (0, 10), .inl (0, 40), .inr (0, [(1, 0), (1, 0), (1, 0), (1, 0), (1, 0), (0, 10), (0, 11), (0, 12), (0, 13), (0, 14)]), .inl (0, 150), .inl (0, 20), .inl (0, 100), .inl (0, 6), .inl (1, 6), .inr (5, [(1, 0), (0, 0), (0, 16), (0, 17), (0, 0), (0, 0), (0, 0), (0, 0), (0, 0)]), .inl (0, 1921), .inl (0, 1921), .inl (0, 1921)]
def Ly33 : aLay := [.inr (7, [(0, 2), (0, 9), (0, 0), (0, 0), (0, 0), (0, 0), (0, 0), (0, 0), (0, 0), (0, 0), (1, 0)]), .inr (6, [(1, 0), (1, 0), (0, 3), (0, 4), (0, 5), (0, 6), (0, 7), (0, 8), (1, 0)]), .inl (0, 200), .inl (0, 201), .inl (0, 201), .inl (0, 201), .inl (0, 10), .inl (0, 40), .inr (0, [(1, 0), (1, 0), (1, 0), (1, 0), (1, 0), (0, 10), (0, 11), (0, 12), (0, 13), (0, 14)]), .inl (0, 150), .inl (0, 20), .inl (0, 100), .inl (0, 6), .inl (1, 6), .inr (5, [(1, 0), (0, 0), (0, 16), (0, 17), (0, 18), (0, 0), (0, 0), (0, 0), (0, 0)]), .inl (0, 1921), .inl (0, 1921), .inl (0, 1921)]
def Ly34 : aLay := [.inr (7, [(0, 2), (0, 9), (0, 0), (0, 0), (0, 0), (0, 0), (0, 0), (0, 0), (0, 0), (0, 0), (1, 0)]), .inr (6, [(1, 0), (1, 0), (0, 3), (0, 4), (0, 5), (0, 6), (0, 7), (0, 8), (1, 0)]), .inl (0, 200), .inl (0, 201), .inl (0, 201), .inl (0, 201), .inl (0, 10), .inl (0, 40), .inr (0, [(1, 0), (1, 0), (1, 0), (1, 0), (1, 0), (0, 10), (0, 11), (0, 12), (0, 13), (0, 14)]), .inl (0, 150), .inl (0, 20), .inl (0, 100), .inl (0, 6), .inl (1, 6), .inr (5, [(1, 0), (0, 0), (0, 16), (0, 17), (0, 18), (0, 0), (0, 0), (0, 0), (0, 0)]), .inl (0, 1921), .inl (0, 1921), .inl (0, 1921), .inl (0, 1921)]
def Ly35 : aLay := [.inr (7, [(0, 2), (0, 9), (0, 0), (0, 0), (0, 0), (0, 0), (0, 0), (0, 0), (0, 0), (0, 0), (1, 0)]), .inr (6, [(1, 0), (1, 0), (0, 3), (0, 4), (0, 5), (0, 6), (0, 7), (0, 8), (1, 0)]), .inl (0, 200), .inl (0, 201), .inl (0, 201), .inl (0, 201), .inl (0, 10), .inl (0, 40), .inr (0, [(1, 0), (1, 0), (1, 0), (1, 0), (1, 0), (0, 10), (0, 11), (0, 12), (0, 13), (0, 14)]), .inl (0, 150), .inl (0, 20), .inl (0, 100), .inl (0, 6), .inl (1, 6), .inr (5, [(1, 0), (0, 0), (0, 16), (0, 17), (0, 18), (0, 19), (0, 0), (0, 0), (0, 0)]), .inl (0, 1921), .inl (0, 1921), .inl (0, 1921), .inl (0, 1921)]
def Ly36 : aLay := [.inr (7, [(0, 2), (0, 9), (0, 0), (0, 0), (0, 0), (0, 0), (0, 0), (0, 0), (0, 0), (0, 0), (1, 0)]), .inr (6, [(1, 0), (1, 0), (0, 3), (0, 4), (0, 5), (0, 6), (0, 7), (0, 8), (1, 0)]), .inl (0, 200), .inl (0, 201), .inl (0, 201), .inl (0, 201), .inl (0, 10), .inl (0, 40), .inr (0, [(1, 0), (1, 0), (1, 0), (1, 0), (1, 0), (0, 10), (0, 11), (0, 12), (0, 13), (0, 14)]), .inl (0, 150), .inl (0, 20), .inl (0, 100), .inl (0, 6), .inl (1, 6), .inr (5, [(1, 0), (0, 0), (0, 16), (0, 17), (0, 18), (0, 19), (0, 0), (0, 0), (0, 0)]), .inl (0, 1921), .inl (0, 1921), .inl (0, 1921), .inl (0, 1921), .inl (0, 1921)]
def Ly37 : aLay := [.inr (7, [(0, 2), (0, 9), (0, 0), (0, 0), (0, 0), (0, 0), (0, 0), (0, 0), (0, 0), (0, 0), (1, 0)]), .inr (6, [(1, 0), (1, 0), (0, 3), (0, 4), (0, 5), (0, 6), (0, 7), (0, 8), (1, 0)]), .inl (0, 200), .inl (0, 201), .inl (0, 201), .inl (0, 201), .inl (0, 10), .inl (0, 40), .inr (0, [(1, 0), (1, 0), (1, 0), (1, 0), (1, 0), (0, 10), (0, 11), (0, 12), (0, 13), (0, 14)]), .inl (0, 150), .inl (0, 20), .inl (0, 100), .inl (0, 6), .inl (1, 6), .inr (5, [(1, 0), (0, 0), (0, 16), (0, 17), (0, 18), (0, 19), (0, 20), (0, 0), (0, 0)]), .inl (0, 1921), .inl (0, 1921), .inl (0, 1921), .inl (0, 1921), .inl (0, 1921)]
def Ly38 : aLay := [.inr (7, [(0, 2), (0, 9), (0, 0), (0, 0), (0, 0), (0, 0), (0, 0), (0, 0), (0, 0), (0, 0), (1, 0)]), .inr (6, [(1, 0), (1, 0), (0, 3), (0, 4), (0, 5), (0, 6), (0, 7), (0, 8), (1, 0)]), .inl (0, 200), .inl (0, 201), .inl (0, 201), .inl (0, 201), .inl (0, 10), .inl (0, 40), .inr (0, [(1, 0), (1, 0), (1, 0), (1, 0), (1, 0), (0, 10), (0, 11), (0, 12), (0, 13), (0, 14)]), .inl (0, 150), .inl (0, 20), .inl (0, 100), .inl (0, 6), .inl (1, 6), .inr (5, [(1, 0), (0, 0), (0, 16), (0, 17), (0, 18), (0, 19), (0, 20), (0, 0), (0, 0)]), .inl (0, 1921), .inl (0, 1921), .inl (0, 1921), .inl (0, 1921), .inl (0, 1921), .inl (0, 1021)]
def Ly39 : aLay := [.inr (7, [(0, 2), (0, 9), (0, 0), (0, 0), (0, 0), (0, 0), (0, 0), (0, 0), (0, 0), (0, 0), (1, 0)]), .inr (6, [(1, 0), (1, 0), (0, 3), (0, 4), (0, 5), (0, 6), (0, 7), (0, 8), (1, 0)]), .inl (0, 200), .inl (0, 201), .inl (0, 201), .inl (0, 201), .inl (0, 10), .inl (0, 40), .inr (0, [(1, 0), (1, 0), (1, 0), (1, 0), (1, 0), (0, 10), (0, 11), (0, 12), (0, 13), (0, 14)]), .inl (0, 150), .inl (0, 20), .inl (0, 100), .inl (0, 6), .inl (1, 6), .inr (5, [(1, 0), (0, 0), (0, 16), (0, 17), (0, 18), (0, 19), (0, 20), (0, 21), (0, 0)]), .inl (0, 1921), .inl (0, 1921), .inl (0, 1921), .inl (0, 1921), .inl (0, 1921), .inl (0, 1021)]
def Ly40 : aLay := [.inr (7, [(0, 2), (0, 9), (0, 0), (0, 0), (0, 0), (0, 0), (0, 0), (0, 0), (0, 0), (0, 0), (1, 0)]), .inr (6, [(1, 0), (1, 0), (0, 3), (0, 4), (0, 5), (0, 6), (0, 7), (0, 8), (1, 0)]), .inl (0, 200), .inl (0, 201), .inl (0, 201), .inl (0, 201), .inl (0, 10), .inl (0, 40), .inr (0, [(1, 0), (1, 0), (1, 0), (1, 0), (1, 0), (0, 10), (0, 11), (0, 12), (0, 13), (0, 14)]), .inl (0, 150), .inl (0, 20), .inl (0, 100), .inl (0, 6), .inl (1, 6), .inr (5, [(1, 0), (0, 0), (0, 16), (0, 17), (0, 18), (0, 19), (0, 20), (0, 21), (0, 0)]), .inl (0, 1921), .inl (0, 1921), .inl (0, 1921), .inl (0, 1921), .inl (0, 1921), .inl (0, 1021), .inl (0, 1921)]
def Ly41 : aLay := [.inr (7, [(0, 2), (0, 9), (0, 0), (0, 0), (0, 0), (0, 0), (0, 0), (0, 0), (0, 0), (0, 0), (1, 0)]), .inr (6, [(1, 0), (1, 0), (0, 3), (0, 4), (0, 5), (0, 6), (0, 7), (0, 8), (1, 0)]), .inl (0, 200), .inl (0, 201), .inl (0, 201), .inl (0, 201), .inl (0, 10), .inl (0, 40), .inr (0, [(1, 0), (1, 0), (1, 0), (1, 0), (1, 0), (0, 10), (0, 11), (0, 12), (0, 13), (0, 14)]), .inl (0, 150), .inl (0, 20), .inl (0, 100), .inl (0, 6), .inl (1, 6), .inr (5, [(1, 0), (0, 9), (0, 16), (0, 17), (0, 18), (0, 19), (0, 20), (0, 21), (0, 22)]), .inl (0, 1921), .inl (0, 1921), .inl (0, 1921), .inl (0, 1921), .inl (0, 1921), .inl (0, 1021), .inl (0, 1921)]
def Ly42 : aLay := [.inr (7, [(0, 2), (0, 9), (0, 15), (0, 0), (0, 0), (0, 0), (0, 0), (0, 0), (0, 0), (0, 0), (1, 0)]), .inr (6, [(1, 0), (1, 0), (0, 3), (0, 4), (0, 5), (0, 6), (0, 7), (0, 8), (1, 0)]), .inl (0, 200), .inl (0, 201), .inl (0, 201), .inl (0, 201), .inl (0, 10), .inl (0, 40), .inr (0, [(1, 0), (1, 0), (1, 0), (1, 0), (1, 0), (0, 10), (0, 11), (0, 12), (0, 13), (0, 14)]), .inl (0, 150), .inl (0, 20), .inl (0, 100), .inl (0, 6), .inl (1, 6), .inr (5, [(1, 0), (0, 9), (0, 16), (0, 17), (0, 18), (0, 19), (0, 20), (0, 21), (0, 22)]), .inl (0, 1921), .inl (0, 1921), .inl (0, 1921), .inl (0, 1921), .inl (0, 1921), .inl (0, 1021), .inl (0, 1921)]
def Ly43 : aLay := [.inr (7, [(0, 2), (0, 9), (0, 15), (0, 0), (0, 0), (0, 0), (0, 0), (0, 0), (0, 0), (0, 0), (1, 0)]), .inr (6, [(1, 0), (1, 0), (0, 3), (0, 4), (0, 5), (0, 6), (0, 7), (0, 8), (1, 0)]), .inl (0, 200), .inl (0, 201), .inl (0, 201), .inl (0, 201), .inl (0, 10), .inl (0, 40), .inr (0, [(1, 0), (1, 0), (1, 0), (1, 0), (1, 0), (0, 10), (0, 11), (0, 12), (0, 13), (0, 14)]), .inl (0, 150), .inl (0, 20), .inl (0, 100), .inl (0, 6), .inl (1, 6), .inr (5, [(1, 0), (0, 9), (0, 16), (0, 17), (0, 18), (0, 19), (0, 20), (0, 21), (0, 22)]), .inl (0, 1921), .inl (0, 1921), .inl (0, 1921), .inl (0, 1921), .inl (0, 1921), .inl (0, 1021), .inl (0, 1921), .inr (4, [(1, 0), (2, 0), (0, 0), (0, 0), (1, 0), (0, 0), (0, 0)])]
def Ly44 : aLay := [.inr (7, [(0, 2), (0, 9), (0, 15), (0, 0), (0, 0), (0, 0), (0, 0), (0, 0), (0, 0), (0, 0), (1, 0)]), .inr (6, [(1, 0), (1, 0), (0, 3), (0, 4), (0, 5), (0, 6), (0, 7), (0, 8), (1, 0)]), .inl (0, 200), .inl (0, 201), .inl (0, 201), .inl (0, 201), .inl (0, 10), .inl (0, 40), .inr (0, [(1, 0), (1, 0), (1, 0), (1, 0), (1, 0), (0, 10), (0, 11), (0, 12), (0, 13), (0, 14)]), .inl (0, 150), .inl (0, 20), .inl (0, 100), .inl (0, 6), .inl (1, 6), .inr (5, [(1, 0), (0, 9), (0, 16), (0, 17), (0, 18), (0, 19), (0, 20), (0, 21), (0, 22)]), .inl (0, 1921), .inl (0, 1921), .inl (0, 1921), .inl (0, 1921), .inl (0, 1921), .inl (0, 1021), .inl (0, 1921), .inr (4, [(1, 0), (2, 0), (0, 0), (0, 0), (1, 0), (0, 0), (0, 0)]), .inl (0, 157)]
def Ly45 : aLay := [.inr (7, [(0, 2), (0, 9), (0, 15), (0, 0), (0, 0), (0, 0), (0, 0), (0, 0), (0, 0), (0, 0), (1, 0)]), .inr (6, [(1, 0), (1, 0), (0, 3), (0, 4), (0, 5), (0, 6), (0, 7), (0, 8), (1, 0)]), .inl (0, 200), .inl (0, 201), .inl (0, 201), .inl (0, 201), .inl (0, 10), .inl (0, 40), .inr (0, [(1, 0), (1, 0), (1, 0), (1, 0), (1, 0), (0, 10), (0, 11), (0, 12), (0, 13), (0, 14)]), .inl (0, 150), .inl (0, 20), .inl (0, 100), .inl (0, 6), .inl (1, 6), .inr (5, [(1, 0), (0, 9), (0, 16), (0, 17), (0, 18), (0, 19), (0, 20), (0, 21), (0, 22)]), .inl (0, 1921), .inl (0, 1921), .inl (0, 1921), .inl (0, 1921), .inl (0, 1921), .inl (0, 1021), .inl (0, 1921), .inr (4, [(1, 0), (2, 0), (0, 0), (0, 0), (1, 0), (0, 24), (0, 0)]), .inl (0, 157)]
def Ly46 : aLay := [.inr (7, [(0, 2), (0, 9), (0, 15), (0, 0), (0, 0), (0, 0), (0, 0), (0, 0), (0, 0), (0, 0), (1, 0)]), .inr (6, [(1, 0), (1, 0), (0, 3), (0, 4), (0, 5), (0, 6), (0, 7), (0, 8), (1, 0)]), .inl (0, 200), .inl (0, 201), .inl (0, 201), .inl (0, 201), .inl (0, 10), .inl (0, 40), .inr (0, [(1, 0), (1, 0), (1, 0), (1, 0), (1, 0), (0, 10), (0, 11), (0, 12), (0, 13), (0, 14)]), .inl (0, 150), .inl (0, 20), .inl (0, 100), .inl (0, 6), .inl (1, 6), .inr (5, [(1, 0), (0, 9), (0, 16), (0, 17), (0, 18), (0, 19), (0, 20), (0, 21), (0, 22)]), .inl (0, 1921), .inl (0, 1921), .inl (0, 1921), .inl (0, 1921), .inl (0, 1921), .inl (0, 1021), .inl (0, 1921), .inr (4, [(1, 0), (2, 0), (0, 0), (0, 0), (1, 0), (0, 24), (0, 0)]), .inl (0, 157), .inl (0, 6)]
def Ly47 : aLay := [.inr (7, [(0, 2), (0, 9), (0, 15), (0, 0), (0, 0), (0, 0), (0, 0), (0, 0), (0, 0), (0, 0), (1, 0)]), .inr (6, [(1, 0), (1, 0), (0, 3), (0, 4), (0, 5), (0, 6), (0, 7), (0, 8), (1, 0)]), .inl (0, 200), .inl (0, 201), .inl (0, 201), .inl (0, 201), .inl (0, 10), .inl (0, 40), .inr (0, [(1, 0), (1, 0), (1, 0), (1, 0), (1, 0), (0, 10), (0, 11), (0, 12), (0, 13), (0, 14)]), .inl (0, 150), .inl (0, 20), .inl (0, 100), .inl (0, 6), .inl (1, 6), .inr (5, [(1, 0), (0, 9), (0, 16), (0, 17), (0, 18), (0, 19), (0, 20), (0, 21), (0, 22)]), .inl (0, 1921), .inl (0, 1921), .inl (0, 1921), .inl (0, 1921), .inl (0, 1921), .inl (0, 1021), .inl (0, 1921), .inr (4, [(1, 0), (2, 0), (0, 9), (0, 15), (1, 0), (0, 24), (0, 25)]), .inl (0, 157), .inl (0, 6)]
def Ly48 : aLay := [.inr (7, [(0, 2), (0, 9), (0, 15), (0, 23), (0, 0), (0, 0), (0, 0), (0, 0), (0, 0), (0, 0), (1, 0)]), .inr (6, [(1, 0), (1, 0), (0, 3), (0, 4), (0, 5), (0, 6), (0, 7), (0, 8), (1, 0)]), .inl (0, 200), .inl (0, 201), .inl (0, 201), .inl (0, 201), .inl (0, 10), .inl (0, 40), .inr (0, [(1, 0), (1, 0), (1, 0), (1, 0), (1, 0), (0, 10), (0, 11), (0, 12), (0, 13), (0, 14)]), .inl (0, 150), .inl (0, 20), .inl (0, 100), .inl (0, 6), .inl (1, 6), .inr (5, [(1, 0), (0, 9), (0, 16), (0, 17), (0, 18), (0, 19), (0, 20), (0, 21), (0, 22)]), .inl (0, 1921), .inl (0, 1921), .inl (0, 1921), .inl (0, 1921), .inl (0, 1921), .inl (0, 1021), .inl (0, 1921), .inr (4, [(1, 0), (2, 0), (0, 9), (0, 15), (1, 0), (0, 24), (0, 25)]), .inl (0, 157), .inl (0, 6)]
def Ly49 : aLay := [.inr (7, [(0, 2), (0, 9), (0, 15), (0, 23), (0, 0), (0, 0), (0, 0), (0, 0), (0, 0), (0, 0), (1, 0)]), .inr (6, [(1, 0), (1, 0), (0, 3), (0, 4), (0, 5), (0, 6), (0, 7), (0, 8), (1, 0)]), .inl (0, 200), .inl (0, 201), .inl (0, 201), .inl (0, 201), .inl (0, 10), .inl (0, 40), .inr (0, [(1, 0), (1, 0), (1, 0), (1, 0), (1, 0), (0, 10), (0, 11), (0, 12), (0, 13), (0, 14)]), .inl (0, 150), .inl (0, 20), .inl (0, 100), .inl (0, 6), .inl (1, 6), .inr (5, [(1, 0), (0, 9), (0, 16), (0, 17), (0, 18), (0, 19), (0, 20), (0, 21), (0, 22)]), .inl (0, 1921), .inl (0, 1921), .inl (0, 1921), .inl (0, 1921), .inl (0, 1921), .inl (0, 1021), .inl (0, 1921), .inr (4, [(1, 0), (2, 0), (0, 9), (0, 15), (1, 0), (0, 24), (0, 25)]), .inl (0, 157), .inl (0, 6), .inr (4, [(1, 0), (2, 0), (0, 0), (0, 0), (1, 0), (0, 0), (0, 0)])]
def Ly50 : aLay := [.inr (7, [(0, 2), (0, 9), (0, 15), (0, 23), (0, 0), (0, 0), (0, 0), (0, 0), (0, 0), (0, 0), (1, 0)]), .inr (6, [(1, 0), (1, 0), (0, 3), (0, 4), (0, 5), (0, 6), (0, 7), (0, 8), (1, 0)]), .inl (0, 200), .inl (0, 201), .inl (0, 201), .inl (0, 201), .inl (0, 10), .inl (0, 40), .inr (0, [(1, 0), (1, 0), (1, 0), (1, 0), (1, 0), (0, 10), (0, 11), (0, 12), (0, 13), (0, 14)]), .inl (0, 150), .inl (0, 20), .inl (0, 100), .inl (0, 6), .inl (1, 6), .inr (5, [(1, 0), (0, 9), (0, 16), (0, 17), (0, 18), (0, 19), (0, 20), (0, 21), (0, 22)]), .inl (0, 1921), .inl (0, 1921), .inl (0, 1921), .inl (0, 1921), .inl (0, 1921), .inl (0, 1021), .inl (0, 1921), .inr (4, [(1, 0), (2, 0), (0, 9), (0, 15), (1, 0), (0, 24), (0, 25)]), .inl (0, 157), .inl (0, 6), .inr (4, [(1, 0), (2, 0), (0, 0), (0, 0), (1, 0), (0, 0), (0, 0)]), .inl (0, 157)]
def Ly51 : aLay := [.inr (7, [(0, 2), (0, 9), (0, 15), (0, 23), (0, 0), (0, 0), (0, 0), (0, 0), (0, 0), (0, 0), (1, 0)]), .inr (6, [(1, 0), (1, 0), (0, 3), (0, 4), (0, 5), (0, 6), (0, 7), (0, 8), (1, 0)]), .inl (0, 200), .inl (0, 201), .inl (0, 201), .inl (0, 201), .inl (0, 10), .inl (0, 40), .inr (0, [(1, 0), (1, 0), (1, 0), (1, 0), (1, 0), (0, 10), (0, 11), (0, 12), (0, 13), (0, 14)]), .inl (0, 150), .inl (0, 20), .inl (0, 100), .inl (0, 6), .inl (1, 6), .inr (5, [(1, 0), (0, 9), (0, 16), (0, 17), (0, 18), (0, 19), (0, 20), (0, 21), (0, 22)]), .inl (0, 1921), .inl (0, 1921), .inl (0, 1921), .inl (0, 1921), .inl (0, 1921), .inl (0, 1021), .inl (0, 1921), .inr (4, [(1, 0), (2, 0), (0, 9), (0, 15), (1, 0), (0, 24), (0, 25)]), .inl (0, 157), .inl (0, 6), .inr (4, [(1, 0), (2, 0), (0, 0), (0, 0), (1, 0), (0, 27), (0, 0)]), .inl (0, 157)]
def Ly52 : aLay := [.inr (7, [(0, 2), (0, 9), (0, 15), (0, 23), (0, 0), (0, 0), (0, 0), (0, 0), (0, 0), (0, 0), (1, 0)]), .inr (6, [(1, 0), (1, 0), (0, 3), (0, 4), (0, 5), (0, 6), (0, 7), (0, 8), (1, 0)]), .inl (0, 200), .inl (0, 201), .inl (0, 201), .inl (0, 201), .inl (0, 10), .inl (0, 40), .inr (0, [(1, 0), (1, 0), (1, 0), (1, 0), (1, 0), (0, 10), (0, 11), (0, 12), (0, 13), (0, 14)]), .inl (0, 150), .inl (0, 20), .inl (0, 100), .inl (0, 6), .inl (1, 6), .inr (5, [(1, 0), (0, 9), (0, 16), (0, 17), (0, 18), (0, 19), (0, 20), (0, 21), (0, 22)]), .inl (0, 1921), .inl (0, 1921), .inl (0, 1921), .inl (0, 1921), .inl (0, 1921), .inl (0, 1021), .inl (0, 1921), .inr (4, [(1, 0), (2, 0), (0, 9), (0, 15), (1, 0), (0, 24), (0, 25)]), .inl (0, 157), .inl (0, 6), .inr (4, [(1, 0), (2, 0), (0, 0), (0, 0), (1, 0), (0, 27), (0, 0)]), .inl (0, 157), .inl (0, 6)]
def Ly53 : aLay := [.inr (7, [(0, 2), (0, 9), (0, 15), (0, 23), (0, 0), (0, 0), (0, 0), (0, 0), (0, 0), (0, 0), (1, 0)]), .inr (6, [(1, 0), (1, 0), (0, 3), (0, 4), (0, 5), (0, 6), (0, 7), (0, 8), (1, 0)]), .inl (0, 200), .inl (0, 201), .inl (0, 201), .inl (0, 201), .inl (0, 10), .inl (0, 40), .inr (0, [(1, 0), (1, 0), (1, 0), (1, 0), (1, 0), (0, 10), (0, 11), (0, 12), (0, 13), (0, 14)]), .inl (0, 150), .inl (0, 20), .inl (0, 100), .inl (0, 6), .inl (1, 6), .inr (5, [(1, 0), (0, 9), (0, 16), (0, 17), (0, 18), (0, 19), (0, 20), (0, 21), (0, 22)]), .inl (0, 1921), .inl (0, 1921), .inl (0, 1921), .inl (0, 1921), .inl (0, 1921), .inl (0, 1021), .inl (0, 1921), .inr (4, [(1, 0), (2, 0), (0, 9), (0, 15), (1, 0), (0, 24), (0, 25)]), .inl (0, 157), .inl (0, 6), .inr (4, [(1, 0), (2, 0), (0, 9), (0, 15), (1, 0), (0, 27), (0, 28)]), .inl (0, 157), .inl (0, 6)]
def Ly54 : aLay := [.inr (7, [(0, 2), (0, 9), (0, 15), (0, 23), (0, 26), (0, 0), (0, 0), (0, 0), (0, 0), (0, 0), (1, 0)]), .inr (6, [(1, 0), (1, 0), (0, 3), (0, 4), (0, 5), (0, 6), (0, 7), (0, 8), (1, 0)]), .inl (0, 200), .inl (0, 201), .inl (0, 201), .inl (0, 201), .inl (0, 10), .inl (0, 40), .inr (0, [(1, 0), (1, 0), (1, 0), (1, 0), (1, 0), (0, 10), (0, 11), (0, 12), (0, 13), (0, 14)]), .inl (0, 150), .inl (0, 20), .inl (0, 100), .inl (0, 6), .inl (1, 6), .inr (5, [(1, 0), (0, 9), (0, 16), (0, 17), (0, 18), (0, 19), (0, 20), (0, 21), (0, 22)]), .inl (0, 1921), .inl (0, 1921), .inl (0, 1921), .inl (0, 1921), .inl (0, 1921), .inl (0, 1021), .inl (0, 1921), .inr (4, [(1, 0), (2, 0), (0, 9), (0, 15), (1, 0), (0, 24), (0, 25)]), .inl (0, 157), .inl (0, 6), .inr (4, [(1, 0), (2, 0), (0, 9), (0, 15), (1, 0), (0, 27), (0, 28)]), .inl (0, 157), .inl (0, 6)]
def Ly55 : aLay := [.inr (7, [(0, 2), (0, 9), (0, 15), (0, 23), (0, 26), (0, 0), (0, 0), (0, 0), (0, 0), (0, 0), (1, 0)]), .inr (6, [(1, 0), (1, 0), (0, 3), (0, 4), (0, 5), (0, 6), (0, 7), (0, 8), (1, 0)]), .inl (0, 200), .inl (0, 201), .inl (0, 201), .inl (0, 201), .inl (0, 10), .inl (0, 40), .inr (0, [(1, 0), (1, 0), (1, 0), (1, 0), (1, 0), (0, 10), (0, 11), (0, 12), (0, 13), (0, 14)]), .inl (0, 150), .inl (0, 20), .inl (0, 100), .inl (0, 6), .inl (1, 6), .inr (5, [(1, 0), (0, 9), (0, 16), (0, 17), (0, 18), (0, 19), (0, 20), (0, 21), (0, 22)]), .inl (0, 1921), .inl (0, 1921), .inl (0, 1921), .inl (0, 1921), .inl (0, 1921), .inl (0, 1021), .inl (0, 1921), .inr (4, [(1, 0), (2, 0), (0, 9), (0, 15), (1, 0), (0, 24), (0, 25)]), .inl (0, 157), .inl (0, 6), .inr (4, [(1, 0), (2, 0), (0, 9), (0, 15), (1, 0), (0, 27), (0, 28)]), .inl (0, 157), .inl (0, 6), .inr (3, [(2, 0), (2, 0), (1, 0), (1, 0), (2, 0), (0, 0)])]
def Ly56 : aLay := [.inr (7, [(0, 2), (0, 9), (0, 15), (0, 23), (0, 26), (0, 0), (0, 0), (0, 0), (0, 0), (0, 0), (1, 0)]), .inr (6, [(1, 0), (1, 0), (0, 3), (0, 4), (0, 5), (0, 6), (0, 7), (0, 8), (1, 0)]), .inl (0, 200), .inl (0, 201), .inl (0, 201), .inl (0, 201), .inl (0, 10), .inl (0, 40), .inr (0, [(1, 0), (1, 0), (1, 0), (1, 0), (1, 0), (0, 10), (0, 11), (0, 12), (0, 13), (0, 14)]), .inl (0, 150), .inl (0, 20), .inl (0, 100), .inl (0, 6), .inl (1, 6), .inr (5, [(1, 0), (0, 9), (0, 16), (0, 17), (0, 18), (0, 19), (0, 20), (0, 21), (0, 22)]), .inl (0, 1921), .inl (0, 1921), .inl (0, 1921), .inl (0, 1921), .inl (0, 1921), .inl (0, 1021), .inl (0, 1921), .inr (4, [(1, 0), (2, 0), (0, 9), (0, 15), (1, 0), (0, 24), (0, 25)]), .inl (0, 157), .inl (0, 6), .inr (4, [(1, 0), (2, 0), (0, 9), (0, 15), (1, 0), (0, 27), (0, 28)]), .inl (0, 157), .inl (0, 6), .inr (3, [(2, 0), (2, 0), (1, 0), (1, 0), (2, 0), (0, 15)])]
def Ly57 : aLay := [.inr (7, [(0, 2), (0, 9), (0, 15), (0, 23), (0, 26), (0, 29), (0, 0), (0, 0), (0, 0), (0, 0), (1, 0)]), .inr (6, [(1, 0), (1, 0), (0, 3), (0, 4), (0, 5), (0, 6), (0, 7), (0, 8), (1, 0)]), .inl (0, 200), .inl (0, 201), .inl (0, 201), .inl (0, 201), .inl (0, 10), .inl (0, 40), .inr (0, [(1, 0), (1, 0), (1, 0), (1, 0), (1, 0), (0, 10), (0, 11), (0, 12), (0, 13), (0, 14)]), .inl (0, 150), .inl (0, 20), .inl (0, 100), .inl (0, 6), .inl (1, 6), .inr (5, [(1, 0), (0, 9), (0, 16), (0, 17), (0, 18), (0, 19), (0, 20), (0, 21), (0, 22)]), .inl (0, 1921), .inl (0, 1921), .inl (0, 1921), .inl (0, 1921), .inl (0, 1921), .inl (0, 1021), .inl (0, 1921), .inr (4, [(1, 0), (2, 0), (0, 9), (0, 15), (1, 0), (0, 24), (0, 25)]), .inl (0, 157), .inl (0, 6), .inr (4, [(1, 0), (2, 0), (0, 9), (0, 15), (1, 0), (0, 27), (0, 28)]), .inl (0, 157), .inl (0, 6), .inr (3, [(2, 0), (2, 0), (1, 0), (1, 0), (2, 0), (0, 15)])]
def Ly58 : aLay := [.inr (7, [(0, 2), (0, 9), (0, 15), (0, 23), (0, 26), (0, 29), (0, 0), (0, 0), (0, 0), (0, 0), (1, 0)]), .inr (6, [(1, 0), (1, 0), (0, 3), (0, 4), (0, 5), (0, 6), (0, 7), (0, 8), (1, 0)]), .inl (0, 200), .inl (0, 201), .inl (0, 201), .inl (0, 201), .inl (0, 10), .inl (0, 40), .inr (0, [(1, 0), (1, 0), (1, 0), (1, 0), (1, 0), (0, 10), (0, 11), (0, 12), (0, 13), (0, 14)]), .inl (0, 150), .inl (0, 20), .inl (0, 100), .inl (0, 6), .inl (1, 6), .inr (5, [(1, 0), (0, 9), (0, 16), (0, 17), (0, 18), (0, 19), (0, 20), (0, 21), (0, 22)]), .inl (0, 1921), .inl (0, 1921), .inl (0, 1921), .inl (0, 1921), .inl (0, 1921), .inl (0, 1021), .inl (0, 1921), .inr (4, [(1, 0), (2, 0), (0, 9), (0, 15), (1, 0), (0, 24), (0, 25)]), .inl (0, 157), .inl (0, 6), .inr (4, [(1, 0), (2, 0), (0, 9), (0, 15), (1, 0), (0, 27), (0, 28)]), .inl (0, 157), .inl (0, 6), .inr (3, [(2, 0), (2, 0), (1, 0), (1, 0), (2, 0), (0, 15)]), .inr (3, [(2, 0), (2, 0), (1, 0), (1, 0), (2, 0), (0, 0)])]
def Ly59 : aLay := [.inr (7, [(0, 2), (0, 9), (0, 15), (0, 23), (0, 26), (0, 29), (0, 0), (0, 0), (0, 0), (0, 0), (1, 0)]), .inr (6, [(1, 0), (1, 0), (0, 3), (0, 4), (0, 5), (0, 6), (0, 7), (0, 8), (1, 0)]), .inl (0, 200), .inl (0, 201), .inl (0, 201), .inl (0, 201), .inl (0, 10), .inl (0, 40), .inr (0, [(1, 0), (1, 0), (1, 0), (1, 0), (1, 0), (0, 10), (0, 11), (0, 12), (0, 13), (0, 14)]), .inl (0, 150), .inl (0, 20), .inl (0, 100), .inl (0, 6), .inl (1, 6), .inr (5, [(1, 0), (0, 9), (0, 16), (0, 17), (0, 18), (0, 19), (0, 20), (0, 21), (0, 22)]), .inl (0, 1921), .inl (0, 1921), .inl (0, 1921), .inl (0, 1921), .inl (0, 1921), .inl (0, 1021), .inl (0, 1921), .inr (4, [(1, 0), (2, 0), (0, 9), (0, 15), (1, 0), (0, 24), (0, 25)]), .inl (0, 157), .inl (0, 6), .inr (4, [(1, 0), (2, 0), (0, 9), (0, 15), (1, 0), (0, 27), (0, 28)]), .inl (0, 157), .inl (0, 6), .inr (3, [(2, 0), (2, 0), (1, 0), (1, 0), (2, 0), (0, 15)]), .inr (3, [(2, 0), (2, 0), (1, 0), (1, 0), (2, 0), (0, 15)])]
def Ly60 : aLay := [.inr (7, [(0, 2), (0, 9), (0, 15), (0, 23), (0, 26), (0, 29), (0, 30), (0, 0), (0, 0), (0, 0), (1, 0)]), .inr (6, [(1, 0), (1, 0), (0, 3), (0, 4), (0, 5), (0, 6), (0, 7), (0, 8), (1, 0)]), .inl (0, 200), .inl (0, 201), .inl (0, 201), .inl (0, 201), .inl (0, 10), .inl (0, 40), .inr (0, [(1, 0), (1, 0), (1, 0), (1, 0), (1, 0), (0, 10), (0, 11), (0, 12), (0, 13), (0, 14)]), .inl (0, 150), .inl (0, 20), .inl (0, 100), .inl (0, 6), .inl (1, 6), .inr (5, [(1, 0), (0, 9), (0, 16), (0, 17), (0, 18), (0, 19), (0, 20), (0, 21), (0, 22)]), .inl (0, 1921), .inl (0, 1921), .inl (0, 1921), .inl (0, 1921), .inl (0, 1921), .inl (0, 1021), .inl (0, 1921), .inr (4, [(1, 0), (2, 0), (0, 9), (0, 15), (1, 0), (0, 24), (0, 25)]), .inl (0, 157), .inl (0, 6), .inr (4, [(1, 0), (2, 0), (0, 9), (0, 15), (1, 0), (0, 27), (0, 28)]), .inl (0, 157), .inl (0, 6), .inr (3, [(2, 0), (2, 0), (1, 0), (1, 0), (2, 0), (0, 15)]), .inr (3, [(2, 0), (2, 0), (1, 0), (1, 0), (2, 0), (0, 15)])]
def Ly61 : aLay := [.inr (7, [(0, 2), (0, 9), (0, 15), (0, 23), (0, 26), (0, 29), (0, 30), (0, 0), (0, 0), (0, 0), (1, 0)]), .inr (6, [(1, 0), (1, 0), (0, 3), (0, 4), (0, 5), (0, 6), (0, 7), (0, 8), (1, 0)]), .inl (0, 200), .inl (0, 201), .inl (0, 201), .inl (0, 201), .inl (0, 10), .inl (0, 40), .inr (0, [(1, 0), (1, 0), (1, 0), (1, 0), (1, 0), (0, 10), (0, 11), (0, 12), (0, 13), (0, 14)]), .inl (0, 150), .inl (0, 20), .inl (0, 100), .inl (0, 6), .inl (1, 6), .inr (5, [(1, 0), (0, 9), (0, 16), (0, 17), (0, 18), (0, 19), (0, 20), (0, 21), (0, 22)]), .inl (0, 1921), .inl (0, 1921), .inl (0, 1921), .inl (0, 1921), .inl (0, 1921), .inl (0, 1021), .inl (0, 1921), .inr (4, [(1, 0), (2, 0), (0, 9), (0, 15), (1, 0), (0, 24), (0, 25)]), .inl (0, 157), .inl (0, 6), .inr (4, [(1, 0), (2, 0), (0, 9), (0, 15), (1, 0), (0, 27), (0, 28)]), .inl (0, 157), .inl (0, 6), .inr (3, [(2, 0), (2, 0), (1, 0), (1, 0), (2, 0), (0, 15)]), .inr (3, [(2, 0), (2, 0), (1, 0), (1, 0), (2, 0), (0, 15)]), .inr (1, [(1, 0), (2, 0), (2, 0), (0, 0), (0, 0), (0, 0), (0, 0), (0, 0), (0, 0)])]
def Ly62 : aLay := [.inr (7, [(0, 2), (0, 9), (0, 15), (0, 23), (0, 26), (0, 29), (0, 30), (0, 0), (0, 0), (0, 0), (1, 0)]), .inr (6, [(1, 0), (1, 0), (0, 3), (0, 4), (0, 5), (0, 6), (0, 7), (0, 8), (1, 0)]), .inl (0, 200), .inl (0, 201), .inl (0, 201), .inl (0, 201), .inl (0, 10), .inl (0, 40), .inr (0, [(1, 0), (1, 0), (1, 0), (1, 0), (1, 0), (0, 10), (0, 11), (0, 12), (0, 13), (0, 14)]), .inl (0, 150), .inl (0, 20), .inl (0, 100), .inl (0, 6), .inl (1, 6), .inr (5, [(1, 0), (0, 9), (0, 16), (0, 17), (0, 18), (0, 19), (0, 20), (0, 21), (0, 22)]), .inl (0, 1921), .inl (0, 1921), .inl (0, 1921), .inl (0, 1921), .inl (0, 1921), .inl (0, 1021), .inl (0, 1921), .inr (4, [(1, 0), (2, 0), (0, 9), (0, 15), (1, 0), (0, 24), (0, 25)]), .inl (0, 157), .inl (0, 6), .inr (4, [(1, 0), (2, 0), (0, 9), (0, 15), (1, 0), (0, 27), (0, 28)]), .inl (0, 157), .inl (0, 6), .inr (3, [(2, 0), (2, 0), (1, 0), (1, 0), (2, 0), (0, 15)]), .inr (3, [(2, 0), (2, 0), (1, 0), (1, 0), (2, 0), (0, 15)]), .inr (1, [(1, 0), (2, 0), (2, 0), (0, 0), (0, 0), (0, 0), (0, 0), (0, 0), (0, 0)]), .inl (0, 30)]
def Ly63 : aLay := [.inr (7, [(0, 2), (0, 9), (0, 15), (0, 23), (0, 26), (0, 29), (0, 30), (0, 0), (0, 0), (0, 0), (1, 0)]), .inr (6, [(1, 0), (1, 0), (0, 3), (0, 4), (0, 5), (0, 6), (0, 7), (0, 8), (1, 0)]), .inl (0, 200), .inl (0, 201), .inl (0, 201), .inl (0, 201), .inl (0, 10), .inl (0, 40), .inr (0, [(1, 0), (1, 0), (1, 0), (1, 0), (1, 0), (0, 10), (0, 11), (0, 12), (0, 13), (0, 14)]), .inl (0, 150), .inl (0, 20), .inl (0, 100), .inl (0, 6), .inl (1, 6), .inr (5, [(1, 0), (0, 9), (0, 16), (0, 17), (0, 18), (0, 19), (0, 20), (0, 21), (0, 22)]), .inl (0, 1921), .inl (0, 1921), .inl (0, 1921), .inl (0, 1921), .inl (0, 1921), .inl (0, 1021), .inl (0, 1921), .inr (4, [(1, 0), (2, 0), (0, 9), (0, 15), (1, 0), (0, 24), (0, 25)]), .inl (0, 157), .inl (0, 6), .inr (4, [(1, 0), (2, 0), (0, 9), (0, 15), (1, 0), (0, 27), (0, 28)]), .inl (0, 157), .inl (0, 6), .inr (3, [(2, 0), (2, 0), (1, 0), (1, 0), (2, 0), (0, 15)]), .inr (3, [(2, 0), (2, 0), (1, 0), (1, 0), (2, 0), (0, 15)]), .inr (1, [(1, 0), (2, 0), (2, 0), (0, 0), (0, 0), (0, 0), (0, 32), (0, 0), (0, 0)]), .inl (0, 30)]
def Ly64 : aLay := [.inr (7, [(0, 2), (0, 9), (0, 15), (0, 23), (0, 26), (0, 29), (0, 30), (0, 0), (0, 0), (0, 0), (1, 0)]), .inr (6, [(1, 0), (1, 0), (0, 3), (0, 4), (0, 5), (0, 6), (0, 7), (0, 8), (1, 0)]), .inl (0, 200), .inl (0, 201), .inl (0, 201), .inl (0, 201), .inl (0, 10), .inl (0, 40), .inr (0, [(1, 0), (1, 0), (1, 0), (1, 0), (1, 0), (0, 10), (0, 11), (0, 12), (0, 13), (0, 14)]), .inl (0, 150), .inl (0, 20), .inl (0, 100), .inl (0, 6), .inl (1, 6), .inr (5, [(1, 0), (0, 9), (0, 16), (0, 17), (0, 18), (0, 19), (0, 20), (0, 21), (0, 22)]), .inl (0, 1921), .inl (0, 1921), .inl (0, 1921), .inl (0, 1921), .inl (0, 1921), .inl (0, 1021), .inl (0, 1921), .inr (4, [(1, 0), (2, 0), (0, 9), (0, 15), (1, 0), (0, 24), (0, 25)]), .inl (0, 157), .inl (0, 6), .inr (4, [(1, 0), (2, 0), (0, 9), (0, 15), (1, 0), (0, 27), (0, 28)]), .inl (0, 157), .inl (0, 6), .inr (3, [(2, 0), (2, 0), (1, 0), (1, 0), (2, 0), (0, 15)]), .inr (3, [(2, 0), (2, 0), (1, 0), (1, 0), (2, 0), (0, 15)]), .inr (1, [(1, 0), (2, 0), (2, 0), (0, 0), (0, 0), (0, 0), (0, 32), (0, 0), (0, 0)]), .inl (0, 30), .inl (0, 30)]
def Ly65 : aLay := [.inr (7, [(0, 2), (0, 9), (0, 15), (0, 23), (0, 26), (0, 29), (0, 30), (0, 0), (0, 0), (0, 0), (1, 0)]), .inr (6, [(1, 0), (1, 0), (0, 3), (0, 4), (0, 5), (0, 6), (0, 7), (0, 8), (1, 0)]), .inl (0, 200), .inl (0, 201), .inl (0, 201), .inl (0, 201), .inl (0, 10), .inl (0, 40), .inr (0, [(1, 0), (1, 0), (1, 0), (1, 0), (1, 0), (0, 10), (0, 11), (0, 12), (0, 13), (0, 14)]), .inl (0, 150), .inl (0, 20), .inl (0, 100), .inl (0, 6), .inl (1, 6), .inr (5, [(1, 0), (0, 9), (0, 16), (0, 17), (0, 18), (0, 19), (0, 20), (0, 21), (0, 22)]), .inl (0, 1921), .inl (0, 1921), .inl (0, 1921), .inl (0, 1921), .inl (0, 1921), .inl (0, 1021), .inl (0, 1921), .inr (4, [(1, 0), (2, 0), (0, 9), (0, 15), (1, 0), (0, 24), (0, 25)]), .inl (0, 157), .inl (0, 6), .inr (4, [(1, 0), (2, 0), (0, 9), (0, 15), (1, 0), (0, 27), (0, 28)]), .inl (0, 157), .inl (0, 6), .inr (3, [(2, 0), (2, 0), (1, 0), (1, 0), (2, 0), (0, 15)]), .inr (3, [(2, 0), (2, 0), (1, 0), (1, 0), (2, 0), (0, 15)]), .inr (1, [(1, 0), (2, 0), (2, 0), (0, 0), (0, 0), (0, 0), (0, 32), (0, 33), (0, 0)]), .inl (0, 30), .inl (0, 30)]
def Ly66 : aLay := [.inr (7, [(0, 2), (0, 9), (0, 15), (0, 23), (0, 26), (0, 29), (0, 30), (0, 0), (0, 0), (0, 0), (1, 0)]), .inr (6, [(1, 0), (1, 0), (0, 3), (0, 4), (0, 5), (0, 6), (0, 7), (0, 8), (1, 0)]), .inl (0, 200), .inl (0, 201), .inl (0, 201), .inl (0, 201), .inl (0, 10), .inl (0, 40), .inr (0, [(1, 0), (1, 0), (1, 0), (1, 0), (1, 0), (0, 10), (0, 11), (0, 12), (0, 13), (0, 14)]), .inl (0, 150), .inl (0, 20), .inl (0, 100), .inl (0, 6), .inl (1, 6), .inr (5, [(1, 0), (0, 9), (0, 16), (0, 17), (0, 18), (0, 19), (0, 20), (0, 21), (0, 22)]), .inl (0, 1921), .inl (0, 1921), .inl (0, 1921), .inl (0, 1921), .inl (0, 1921), .inl (0, 1021), .inl (0, 1921), .inr (4, [(1, 0), (2, 0), (0, 9), (0, 15), (1, 0), (0, 24), (0, 25)]), .inl (0, 157), .inl (0, 6), .inr (4, [(1, 0), (2, 0), (0, 9), (0, 15), (1, 0), (0, 27), (0, 28)]), .inl (0, 157), .inl (0, 6), .inr (3, [(2, 0), (2, 0), (1, 0), (1, 0), (2, 0), (0, 15)]), .inr (3, [(2, 0), (2, 0), (1, 0), (1, 0), (2, 0), (0, 15)]), .inr (1, [(1, 0), (2, 0), (2, 0), (0, 0), (0, 0), (0, 0), (0, 32), (0, 33), (0, 0)]), .inl (0, 30), .inl (0, 30), .inl (0, 30)]
def Ly67 : aLay := [.inr (7, [(0, 2), (0, 9), (0, 15), (0, 23), (0, 26), (0, 29), (0, 30), (0, 0), (0, 0), (0, 0), (1, 0)]), .inr (6, [(1, 0), (1, 0), (0, 3), (0, 4), (0, 5), (0, 6), (0, 7), (0, 8), (1, 0)]), .inl (0, 200), .inl (0, 201), .inl (0, 201), .inl (0, 201), .inl (0, 10), .inl (0, 40), .inr (0, [(1, 0), (1, 0), (1, 0), (1, 0), (1, 0), (0, 10), (0, 11), (0, 12), (0, 13), (0, 14)]), .inl (0, 150), .inl (0, 20), .inl (0, 100), .inl (0, 6), .inl (1, 6), .inr (5, [(1, 0), (0, 9), (0, 16), (0, 17), (0, 18), (0, 19), (0, 20), (0, 21), (0, 22)]), .inl (0, 1921), .inl (0, 1921), .inl (0, 1921), .inl (0, 1921), .inl (0, 1921), .inl (0, 1021), .inl (0, 1921), .inr (4, [(1, 0), (2, 0), (0, 9), (0, 15), (1, 0), (0, 24), (0, 25)]), .inl (0, 157), .inl (0, 6), .inr (4, [(1, 0), (2, 0), (0, 9), (0, 15), (1, 0), (0, 27), (0, 28)]), .inl (0, 157), .inl (0, 6), .inr (3, [(2, 0), (2, 0), (1, 0), (1, 0), (2, 0), (0, 15)]), .inr (3, [(2, 0), (2, 0), (1, 0), (1, 0), (2, 0), (0, 15)]), .inr (1, [(1, 0), (2, 0), (2, 0), (0, 9), (0, 15), (0, 23), (0, 32), (0, 33), (0, 34)]), .inl (0, 30), .inl (0, 30), .inl (0, 30)]
def Ly68 : aLay := [.inr (7, [(0, 2), (0, 9), (0, 15), (0, 23), (0, 26), (0, 29), (0, 30), (0, 31), (0, 0), (0, 0), (1, 0)]), .inr (6, [(1, 0), (1, 0), (0, 3), (0, 4), (0, 5), (0, 6), (0, 7), (0, 8), (1, 0)]), .inl (0, 200), .inl (0, 201), .inl (0, 201), .inl (0, 201), .inl (0, 10), .inl (0, 40), .inr (0, [(1, 0), (1, 0), (1, 0), (1, 0), (1, 0), (0, 10), (0, 11), (0, 12), (0, 13), (0, 14)]), .inl (0, 150), .inl (0, 20), .inl (0, 100), .inl (0, 6), .inl (1, 6), .inr (5, [(1, 0), (0, 9), (0, 16), (0, 17), (0, 18), (0, 19), (0, 20), (0, 21), (0, 22)]), .inl (0, 1921), .inl (0, 1921), .inl (0, 1921), .inl (0, 1921), .inl (0, 1921), .inl (0, 1021), .inl (0, 1921), .inr (4, [(1, 0), (2, 0), (0, 9), (0, 15), (1, 0), (0, 24), (0, 25)]), .inl (0, 157), .inl (0, 6), .inr (4, [(1, 0), (2, 0), (0, 9), (0, 15), (1, 0), (0, 27), (0, 28)]), .inl (0, 157), .inl (0, 6), .inr (3, [(2, 0), (2, 0), (1, 0), (1, 0), (2, 0), (0, 15)]), .inr (3, [(2, 0), (2, 0), (1, 0), (1, 0), (2, 0), (0, 15)]), .inr (1, [(1, 0), (2, 0), (2, 0), (0, 9), (0, 15), (0, 23), (0, 32), (0, 33), (0, 34)]), .inl (0, 30), .inl (0, 30), .inl (0, 30)]
def Ly69 : aLay := [.inr (7, [(0, 2), (0, 9), (0, 15), (0, 23), (0, 26), (0, 29), (0, 30), (0, 31), (0, 0), (0, 0), (1, 0)]), .inr (6, [(1, 0), (1, 0), (0, 3), (0, 4), (0, 5), (0, 6), (0, 7), (0, 8), (1, 0)]), .inl (0, 200), .inl (0, 201), .inl (0, 201), .inl (0, 201), .inl (0, 10), .inl (0, 40), .inr (0, [(1, 0), (1, 0), (1, 0), (1, 0), (1, 0), (0, 10), (0, 11), (0, 12), (0, 13), (0, 14)]), .inl (0, 150), .inl (0, 20), .inl (0, 100), .inl (0, 6), .inl (1, 6), .inr (5, [(1, 0), (0, 9), (0, 16), (0, 17), (0, 18), (0, 19), (0, 20), (0, 21), (0, 22)]), .inl (0, 1921), .inl (0, 1921), .inl (0, 1921), .inl (0, 1921), .inl (0, 1921), .inl (0, 1021), .inl (0, 1921), .inr (4, [(1, 0), (2, 0), (0, 9), (0, 15), (1, 0), (0, 24), (0, 25)]), .inl (0, 157), .inl (0, 6), .inr (4, [(1, 0), (2, 0), (0, 9), (0, 15), (1, 0), (0, 27), (0, 28)]), .inl (0, 157), .inl (0, 6), .inr (3, [(2, 0), (2, 0), (1, 0), (1, 0), (2, 0), (0, 15)]), .inr (3, [(2, 0), (2, 0), (1, 0), (1, 0), (2, 0), (0, 15)]), .inr (1, [(1, 0), (2, 0), (2, 0), (0, 9), (0, 15), (0, 23), (0, 32), (0, 33), (0, 34)]), .inl (0, 30), .inl (0, 30), .inl (0, 30), .inr (1, [(1, 0), (2, 0), (2, 0), (0, 0), (0, 0), (0, 0), (0, 0), (0, 0), (0, 0)])]
def Ly70 : aLay := [.inr (7, [(0, 2), (0, 9), (0, 15), (0, 23), (0, 26), (0, 29), (0, 30), (0, 31), (0, 0), (0, 0), (1, 0)]), .inr (6, [(1, 0), (1, 0), (0, 3), (0, 4), (0, 5), (0, 6), (0, 7), (0, 8), (1, 0)]), .inl (0, 200), .inl (0, 201), .inl (0, 201), .inl (0, 201), .inl (0, 10), .inl (0, 40), .inr (0, [(1, 0), (1, 0), (1, 0), (1, 0), (1, 0), (0, 10), (0, 11), (0, 12), (0, 13), (0, 14)]), .inl (0, 150), .inl (0, 20), .inl (0, 100), .inl (0, 6), .inl (1, 6), .inr (5, [(1, 0), (0, 9), (0, 16), (0, 17), (0, 18), (0, 19), (0, 20), (0, 21), (0, 22)]), .inl (0, 1921), .inl (0, 1921), .inl (0, 1921), .inl (0, 1921), .inl (0, 1921), .inl (0, 1021), .inl (0, 1921), .inr (4, [(1, 0), (2, 0), (0, 9), (0, 15), (1, 0), (0, 24), (0, 25)]), .inl (0, 157), .inl (0, 6), .inr (4, [(1, 0), (2, 0), (0, 9), (0, 15), (1, 0), (0, 27), (0, 28)]), .inl (0, 157), .inl (0, 6), .inr (3, [(2, 0), (2, 0), (1, 0), (1, 0), (2, 0), (0, 15)]), .inr (3, [(2, 0), (2, 0), (1, 0), (1, 0), (2, 0), (0, 15)]), .inr (1, [(1, 0), (2, 0), (2, 0), (0, 9), (0, 15), (0, 23), (0, 32), (0, 33), (0, 34)]), .inl (0, 30), .inl (0, 30), .inl (0, 30), .inr (1, [(1, 0), (2, 0), (2, 0), (0, 0), (0, 0), (0, 0), (0, 0), (0, 0), (0, 0)]), .inl (0, 30)]
def Ly71 : aLay := [.inr (7, [(0, 2), (0, 9), (0, 15), (0, 23), (0, 26), (0, 29), (0, 30), (0, 31), (0, 0), (0, 0), (1, 0)]), .inr (6, [(1, 0), (1, 0), (0, 3), (0, 4), (0, 5), (0, 6), (0, 7), (0, 8), (1, 0)]), .inl (0, 200), .inl (0, 201), .inl (0, 201), .inl (0, 201), .inl (0, 10), .inl (0, 40), .inr (0, [(1, 0), (1, 0), (1, 0), (1, 0), (1, 0), (0, 10), (0, 11), (0, 12), (0, 13), (0, 14)]), .inl (0, 150), .inl (0, 20), .inl (0, 100), .inl (0, 6), .inl (1, 6), .inr (5, [(1, 0), (0, 9), (0, 16), (0, 17), (0, 18), (0, 19), (0, 20), (0, 21), (0, 22)]), .inl (0, 1921), .inl (0, 1921), .inl (0, 1921), .inl (0, 1921), .inl (0, 1921), .inl (0, 1021), .inl (0, 1921), .inr (4, [(1, 0), (2, 0), (0, 9), (0, 15), (1, 0), (0, 24), (0, 25)]), .inl (0, 157), .inl (0, 6), .inr (4, [(1, 0), (2, 0), (0, 9), (0, 15), (1, 0), (0, 27), (0, 28)]), .inl (0, 157), .inl (0, 6), .inr (3, [(2, 0), (2, 0), (1, 0), (1, 0), (2, 0), (0, 15)]), .inr (3, [(2, 0), (2, 0), (1, 0), (1, 0), (2, 0), (0, 15)]), .inr (1, [(1, 0), (2, 0), (2, 0), (0, 9), (0, 15), (0, 23), (0, 32), (0, 33), (0, 34)]), .inl (0, 30), .inl (0, 30), .inl (0, 30), .inr (1, [(1, 0), (2, 0), (2, 0), (0, 0), (0, 0), (0, 0), (0, 36), (0, 0), (0, 0)]), .inl (0, 30)]
def Ly72 : aLay := [.inr (7, [(0, 2), (0, 9), (0, 15), (0, 23), (0, 26), (0, 29), (0, 30), (0, 31), (0, 0), (0, 0), (1, 0)]), .inr (6, [(1, 0), (1, 0), (0, 3), (0, 4), (0, 5), (0, 6), (0, 7), (0, 8), (1, 0)]), .inl (0, 200), .inl (0, 201), .inl (0, 201), .inl (0, 201), .inl (0, 10), .inl (0, 40), .inr (0, [(1, 0), (1, 0), (1, 0), (1, 0), (1, 0), (0, 10), (0, 11), (0, 12), (0, 13), (0, 14)]), .inl (0, 150), .inl (0, 20), .inl (0, 100), .inl (0, 6), .inl (1, 6), .inr (5, [(1, 0), (0, 9), (0, 16), (0, 17), (0, 18), (0, 19), (0, 20), (0, 21), (0, 22)]), .inl (0, 1921), .inl (0, 1921), .inl (0, 1921), .inl (0, 1921), .inl (0, 1921), .inl (0, 1021), .inl (0, 1921), .inr (4, [(1, 0), (2, 0), (0, 9), (0, 15), (1, 0), (0, 24), (0, 25)]), .inl (0, 157), .inl (0, 6), .inr (4, [(1, 0), (2, 0), (0, 9), (0, 15), (1, 0), (0, 27), (0, 28)]), .inl (0, 157), .inl (0, 6), .inr (3, [(2, 0), (2, 0), (1, 0), (1, 0), (2, 0), (0, 15)]), .inr (3, [(2, 0), (2, 0), (1, 0), (1, 0), (2, 0), (0, 15)]), .inr (1, [(1, 0), (2, 0), (2, 0), (0, 9), (0, 15), (0, 23), (0, 32), (0, 33), (0, 34)]), .inl (0, 30), .inl (0, 30), .inl (0, 30), .inr (1, [(1, 0), (2, 0), (2, 0), (0, 0), (0, 0), (0, 0), (0, 36), (0, 0), (0, 0)]), .inl (0, 30), .inl (0, 30)]
def Ly73 : aLay := [.inr (7, [(0, 2), (0, 9), (0, 15), (0, 23), (0, 26), (0, 29), (0, 30), (0, 31), (0, 0), (0, 0), (1, 0)]), .inr (6, [(1, 0), (1, 0), (0, 3), (0, 4), (0, 5), (0, 6), (0, 7), (0, 8), (1, 0)]), .inl (0, 200), .inl (0, 201), .inl (0, 201), .inl (0, 201), .inl (0, 10), .inl (0, 40), .inr (0, [(1, 0), (1, 0), (1, 0), (1, 0), (1, 0), (0, 10), (0, 11), (0, 12), (0, 13), (0, 14)]), .inl (0, 150), .inl (0, 20), .inl (0, 100), .inl (0, 6), .inl (1, 6), .inr (5, [(1, 0), (0, 9), (0, 16), (0, 17), (0, 18), (0, 19), (0, 20), (0, 21), (0, 22)]), .inl (0, 1921), .inl (0, 1921), .inl (0, 1921), .inl (0, 1921), .inl (0, 1921), .inl (0, 1021), .inl (0, 1921), .inr (4, [(1, 0), (2, 0), (0, 9), (0, 15), (1, 0), (0, 24), (0, 25)]), .inl (0, 157), .inl (0, 6), .inr (4, [(1, 0), (2, 0), (0, 9), (0, 15), (1, 0), (0, 27), (0, 28)]), .inl (0, 157), .inl (0, 6), .inr (3, [(2, 0), (2, 0), (1, 0), (1, 0), (2, 0), (0, 15)]), .inr (3, [(2, 0), (2, 0), (1, 0), (1, 0), (2, 0), (0, 15)]), .inr (1, [(1, 0), (2, 0), (2, 0), (0, 9), (0, 15), (0, 23), (0, 32), (0, 33), (0, 34)]), .inl (0, 30), .inl (0, 30), .inl (0, 30), .inr (1, [(1, 0), (2, 0), (2, 0), (0, 0), (0, 0), (0, 0), (0, 36), (0, 37), (0, 0)]), .inl (0, 30), .inl (0, 30)]
def Ly74 : aLay := [.inr (7, [(0, 2), (0, 9), (0, 15), (0, 23), (0, 26), (0, 29), (0, 30), (0, 31), (0, 0), (0, 0), (1, 0)]), .inr (6, [(1, 0), (1, 0), (0, 3), (0, 4), (0, 5), (0, 6), (0, 7), (0, 8), (1, 0)]), .inl (0, 200), .inl (0, 201), .inl (0, 201), .inl (0, 201), .inl (0, 10), .inl (0, 40), .inr (0, [(1, 0), (1, 0), (1, 0), (1, 0), (1, 0), (0, 10), (0, 11), (0, 12), (0, 13), (0, 14)]), .inl (0, 150), .inl (0, 20), .inl (0, 100), .inl (0, 6), .inl (1, 6), .inr (5, [(1, 0), (0, 9), (0, 16), (0, 17), (0, 18), (0, 19), (0, 20), (0, 21), (0, 22)]), .inl (0, 1921), .inl (0, 1921), .inl (0, 1921), .inl (0, 1921), .inl (0, 1921), .inl (0, 1021), .inl (0, 1921), .inr (4, [(1, 0), (2, 0), (0, 9), (0, 15), (1, 0), (0, 24), (0, 25)]), .inl (0, 157), .inl (0, 6), .inr (4, [(1, 0), (2, 0), (0, 9), (0, 15), (1, 0), (0, 27), (0, 28)]), .inl (0, 157), .inl (0, 6), .inr (3, [(2, 0), (2, 0), (1, 0), (1, 0), (2, 0), (0, 15)]), .inr (3, [(2, 0), (2, 0), (1, 0), (1, 0), (2, 0), (0, 15)]), .inr (1, [(1, 0), (2, 0), (2, 0), (0, 9), (0, 15), (0, 23), (0, 32), (0, 33), (0, 34)]), .inl (0, 30), .inl (0, 30), .inl (0, 30), .inr (1, [(1, 0), (2, 0), (2, 0), (0, 0), (0, 0), (0, 0), (0, 36), (0, 37), (0, 0)]), .inl (0, 30), .inl (0, 30), .inl (0, 30)]
def Ly75 : aLay := [.inr (7, [(0, 2), (0, 9), (0, 15), (0, 23), (0, 26), (0, 29), (0, 30), (0, 31), (0, 0), (0, 0), (1, 0)]), .inr (6, [(1, 0), (1, 0), (0, 3), (0, 4), (0, 5), (0, 6), (0, 7), (0, 8), (1, 0)]), .inl (0, 200), .inl (0, 201), .inl (0, 201), .inl (0, 201), .inl (0, 10), .inl (0, 40), .inr (0, [(1, 0), (1, 0), (1, 0), (1, 0), (1, 0), (0, 10), (0, 11), (0, 12), (0, 13), (0, 14)]), .inl (0, 150), .inl (0, 20), .inl (0, 100), .inl (0, 6), .inl (1, 6), .inr (5, [(1, 0), (0, 9), (0, 16), (0, 17), (0, 18), (0, 19), (0, 20), (0, 21), (0, 22)]), .inl (0, 1921), .inl (0, 1921), .inl (0, 1921), .inl (0, 1921), .inl (0, 1921), .inl (0, 1021), .inl (0, 1921), .inr (4, [(1, 0), (2, 0), (0, 9), (0, 15), (1, 0), (0, 24), (0, 25)]), .inl (0, 157), .inl (0, 6), .inr (4, [(1, 0), (2, 0), (0, 9), (0, 15), (1, 0), (0, 27), (0, 28)]), .inl (0, 157), .inl (0, 6), .inr (3, [(2, 0), (2, 0), (1, 0), (1, 0), (2, 0), (0, 15)]), .inr (3, [(2, 0), (2, 0), (1, 0), (1, 0), (2, 0), (0, 15)]), .inr (1, [(1, 0), (2, 0), (2, 0), (0, 9), (0, 15), (0, 23), (0, 32), (0, 33), (0, 34)]), .inl (0, 30), .inl (0, 30), .inl (0, 30), .inr (1, [(1, 0), (2, 0), (2, 0), (0, 9), (0, 15), (0, 26), (0, 36), (0, 37), (0, 38)]), .inl (0, 30), .inl (0, 30), .inl (0, 30)]
def Ly76 : aLay := [.inr (7, [(0, 2), (0, 9), (0, 15), (0, 23), (0, 26), (0, 29), (0, 30), (0, 31), (0, 35), (0, 0), (1, 0)]), .inr (6, [(1, 0), (1, 0), (0, 3), (0, 4), (0, 5), (0, 6), (0, 7), (0, 8), (1, 0)]), .inl (0, 200), .inl (0, 201), .inl (0, 201), .inl (0, 201), .inl (0, 10), .inl (0, 40), .inr (0, [(1, 0), (1, 0), (1, 0), (1, 0), (1, 0), (0, 10), (0, 11), (0, 12), (0, 13), (0, 14)]), .inl (0, 150), .inl (0, 20), .inl (0, 100), .inl (0, 6), .inl (1, 6), .inr (5, [(1, 0), (0, 9), (0, 16), (0, 17), (0, 18), (0, 19), (0, 20), (0, 21), (0, 22)]), .inl (0, 1921), .inl (0, 1921), .inl (0, 1921), .inl (0, 1921), .inl (0, 1921), .inl (0, 1021), .inl (0, 1921), .inr (4, [(1, 0), (2, 0), (0, 9), (0, 15), (1, 0), (0, 24), (0, 25)]), .inl (0, 157), .inl (0, 6), .inr (4, [(1, 0), (2, 0), (0, 9), (0, 15), (1, 0), (0, 27), (0, 28)]), .inl (0, 157), .inl (0, 6), .inr (3, [(2, 0), (2, 0), (1, 0), (1, 0), (2, 0), (0, 15)]), .inr (3, [(2, 0), (2, 0), (1, 0), (1, 0), (2, 0), (0, 15)]), .inr (1, [(1, 0), (2, 0), (2, 0), (0, 9), (0, 15), (0, 23), (0, 32), (0, 33), (0, 34)]), .inl (0, 30), .inl (0, 30), .inl (0, 30), .inr (1, [(1, 0), (2, 0), (2, 0), (0, 9), (0, 15), (0, 26), (0, 36), (0, 37), (0, 38)]), .inl (0, 30), .inl (0, 30), .inl (0, 30)]
def Ly77 : aLay := [.inr (7, [(0, 2), (0, 9), (0, 15), (0, 23), (0, 26), (0, 29), (0, 30), (0, 31), (0, 35), (0, 0), (1, 0)]), .inr (6, [(1, 0), (1, 0), (0, 3), (0, 4), (0, 5), (0, 6), (0, 7), (0, 8), (1, 0)]), .inl (0, 200), .inl (0, 201), .inl (0, 201), .inl (0, 201), .inl (0, 10), .inl (0, 40), .inr (0, [(1, 0), (1, 0), (1, 0), (1, 0), (1, 0), (0, 10), (0, 11), (0, 12), (0, 13), (0, 14)]), .inl (0, 150), .inl (0, 20), .inl (0, 100), .inl (0, 6), .inl (1, 6), .inr (5, [(1, 0), (0, 9), (0, 16), (0, 17), (0, 18), (0, 19), (0, 20), (0, 21), (0, 22)]), .inl (0, 1921), .inl (0, 1921), .inl (0, 1921), .inl (0, 1921), .inl (0, 1921), .inl (0, 1021), .inl (0, 1921), .inr (4, [(1, 0), (2, 0), (0, 9), (0, 15), (1, 0), (0, 24), (0, 25)]), .inl (0, 157), .inl (0, 6), .inr (4, [(1, 0), (2, 0), (0, 9), (0, 15), (1, 0), (0, 27), (0, 28)]), .inl (0, 157), .inl (0, 6), .inr (3, [(2, 0), (2, 0), (1, 0), (1, 0), (2, 0), (0, 15)]), .inr (3, [(2, 0), (2, 0), (1, 0), (1, 0), (2, 0), (0, 15)]), .inr (1, [(1, 0), (2, 0), (2, 0), (0, 9), (0, 15), (0, 23), (0, 32), (0, 33), (0, 34)]), .inl (0, 30), .inl (0, 30), .inl (0, 30), .inr (1, [(1, 0), (2, 0), (2, 0), (0, 9), (0, 15), (0, 26), (0, 36), (0, 37), (0, 38)]), .inl (0, 30), .inl (0, 30), .inl (0, 30), .inr (2, [(1, 0), (0, 0), (0, 0), (0, 0), (0, 0)])]
def Ly78 : aLay := [.inr (7, [(0, 2), (0, 9), (0, 15), (0, 23), (0, 26), (0, 29), (0, 30), (0, 31), (0, 35), (0, 0), (1, 0)]), .inr (6, [(1, 0), (1, 0), (0, 3), (0, 4), (0, 5), (0, 6), (0, 7), (0, 8), (1, 0)]), .inl (0, 200), .inl (0, 201), .inl (0, 201), .inl (0, 201), .inl (0, 10), .inl (0, 40), .inr (0, [(1, 0), (1, 0), (1, 0), (1, 0), (1, 0), (0, 10), (0, 11), (0, 12), (0, 13), (0, 14)]), .inl (0, 150), .inl (0, 20), .inl (0, 100), .inl (0, 6), .inl (1, 6), .inr (5, [(1, 0), (0, 9), (0, 16), (0, 17), (0, 18), (0, 19), (0, 20), (0, 21), (0, 22)]), .inl (0, 1921), .inl (0, 1921), .inl (0, 1921), .inl (0, 1921), .inl (0, 1921), .inl (0, 1021), .inl (0, 1921), .inr (4, [(1, 0), (2, 0), (0, 9), (0, 15), (1, 0), (0, 24), (0, 25)]), .inl (0, 157), .inl (0, 6), .inr (4, [(1, 0), (2, 0), (0, 9), (0, 15), (1, 0), (0, 27), (0, 28)]), .inl (0, 157), .inl (0, 6), .inr (3, [(2, 0), (2, 0), (1, 0), (1, 0), (2, 0), (0, 15)]), .inr (3, [(2, 0), (2, 0), (1, 0), (1, 0), (2, 0), (0, 15)]), .inr (1, [(1, 0), (2, 0), (2, 0), (0, 9), (0, 15), (0, 23), (0, 32), (0, 33), (0, 34)]), .inl (0, 30), .inl (0, 30), .inl (0, 30), .inr (1, [(1, 0), (2, 0), (2, 0), (0, 9), (0, 15), (0, 26), (0, 36), (0, 37), (0, 38)]), .inl (0, 30), .inl (0, 30), .inl (0, 30), .inr (2, [(1, 0), (0, 0), (0, 0), (0, 0), (0, 0)]), .inl (0, 12)]
def Ly79 : aLay := [.inr (7, [(0, 2), (0, 9), (0, 15), (0, 23), (0, 26), (0, 29), (0, 30), (0, 31), (0, 35), (0, 0), (1, 0)]), .inr (6, [(1, 0), (1, 0), (0, 3), (0, 4), (0, 5), (0, 6), (0, 7), (0, 8), (1, 0)]), .inl (0, 200), .inl (0, 201), .inl (0, 201), .inl (0, 201), .inl (0, 10), .inl (0, 40), .inr (0, [(1, 0), (1, 0), (1, 0), (1, 0), (1, 0), (0, 10), (0, 11), (0, 12), (0, 13), (0, 14)]), .inl (0, 150), .inl (0, 20), .inl (0, 100), .inl (0, 6), .inl (1, 6), .inr (5, [(1, 0), (0, 9), (0, 16), (0, 17), (0, 18), (0, 19), (0, 20), (0, 21), (0, 22)]), .inl (0, 1921), .inl (0, 1921), .inl (0, 1921), .inl (0, 1921), .inl (0, 1921), .inl (0, 1021), .inl (0, 1921), .inr (4, [(1, 0), (2, 0), (0, 9), (0, 15), (1, 0), (0, 24), (0, 25)]), .inl (0, 157), .inl (0, 6), .inr (4, [(1, 0), (2, 0), (0, 9), (0, 15), (1, 0), (0, 27), (0, 28)]), .inl (0, 157), .inl (0, 6), .inr (3, [(2, 0), (2, 0), (1, 0), (1, 0), (2, 0), (0, 15)]), .inr (3, [(2, 0), (2, 0), (1, 0), (1, 0), (2, 0), (0, 15)]), .inr (1, [(1, 0), (2, 0), (2, 0), (0, 9), (0, 15), (0, 23), (0, 32), (0, 33), (0, 34)]), .inl (0, 30), .inl (0, 30), .inl (0, 30), .inr (1, [(1, 0), (2, 0), (2, 0), (0, 9), (0, 15), (0, 26), (0, 36), (0, 37), (0, 38)]), .inl (0, 30), .inl (0, 30), .inl (0, 30), .inr (2, [(1, 0), (0, 0), (0, 40), (0, 0), (0, 0)]), .inl (0, 12)]
def Ly80 : aLay := [.inr (7, [(0, 2), (0, 9), (0, 15), (0, 23), (0, 26), (0, 29), (0, 30), (0, 31), (0, 35), (0, 0), (1, 0)]), .inr (6, [(1, 0), (1, 0), (0, 3), (0, 4), (0, 5), (0, 6), (0, 7), (0, 8), (1, 0)]), .inl (0, 200), .inl (0, 201), .inl (0, 201), .inl (0, 201), .inl (0, 10), .inl (0, 40), .inr (0, [(1, 0), (1, 0), (1, 0), (1, 0), (1, 0), (0, 10), (0, 11), (0, 12), (0, 13), (0, 14)]), .inl (0, 150), .inl (0, 20), .inl (0, 100), .inl (0, 6), .inl (1, 6), .inr (5, [(1, 0), (0, 9), (0, 16), (0, 17), (0, 18), (0, 19), (0, 20), (0, 21), (0, 22)]), .inl (0, 1921), .inl (0, 1921), .inl (0, 1921), .inl (0, 1921), .inl (0, 1921), .inl (0, 1021), .inl (0, 1921), .inr (4, [(1, 0), (2, 0), (0, 9), (0, 15), (1, 0), (0, 24), (0, 25)]), .inl (0, 157), .inl (0, 6), .inr (4, [(1, 0), (2, 0), (0, 9), (0, 15), (1, 0), (0, 27), (0, 28)]), .inl (0, 157), .inl (0, 6), .inr (3, [(2, 0), (2, 0), (1, 0), (1, 0), (2, 0), (0, 15)]), .inr (3, [(2, 0), (2, 0), (1, 0), (1, 0), (2, 0), (0, 15)]), .inr (1, [(1, 0), (2, 0), (2, 0), (0, 9), (0, 15), (0, 23), (0, 32), (0, 33), (0, 34)]), .inl (0, 30), .inl (0, 30), .inl (0, 30), .inr (1, [(1, 0), (2, 0), (2, 0), (0, 9), (0, 15), (0, 26), (0, 36), (0, 37), (0, 38)]), .inl (0, 30), .inl (0, 30), .inl (0, 30), .inr (2, [(1, 0), (0, 0), (0, 40), (0, 0), (0, 0)]), .inl (0, 12), .inl (0, 169)]
def Ly81 : aLay := [.inr (7, [(0, 2), (0, 9), (0, 15), (0, 23), (0, 26), (0, 29), (0, 30), (0, 31), (0, 35), (0, 0), (1, 0)]), .inr (6, [(1, 0), (1, 0), (0, 3), (0, 4), (0, 5), (0, 6), (0, 7), (0, 8), (1, 0)]), .inl (0, 200), .inl (0, 201), .inl (0, 201), .inl (0, 201), .inl (0, 10), .inl (0, 40), .inr (0, [(1, 0), (1, 0), (1, 0), (1, 0), (1, 0), (0, 10), (0, 11), (0, 12), (0, 13), (0, 14)]), .inl (0, 150), .inl (0, 20), .inl (0, 100), .inl (0, 6), .inl (1, 6), .inr (5, [(1, 0), (0, 9), (0, 16), (0, 17), (0, 18), (0, 19), (0, 20), (0, 21), (0, 22)]), .inl (0, 1921), .inl (0, 1921), .inl (0, 1921), .inl (0, 1921), .inl (0, 1921), .inl (0, 1021), .inl (0, 1921), .inr (4, [(1, 0), (2, 0), (0, 9), (0, 15), (1, 0), (0, 24), (0, 25)]), .inl (0, 157), .inl (0, 6), .inr (4, [(1, 0), (2, 0), (0, 9), (0, 15), (1, 0), (0, 27), (0, 28)]), .inl (0, 157), .inl (0, 6), .inr (3, [(2, 0), (2, 0), (1, 0), (1, 0), (2, 0), (0, 15)]), .inr (3, [(2, 0), (2, 0), (1, 0), (1, 0), (2, 0), (0, 15)]), .inr (1, [(1, 0), (2, 0), (2, 0), (0, 9), (0, 15), (0, 23), (0, 32), (0, 33), (0, 34)]), .inl (0, 30), .inl (0, 30), .inl (0, 30), .inr (1, [(1, 0), (2, 0), (2, 0), (0, 9), (0, 15), (0, 26), (0, 36), (0, 37), (0, 38)]), .inl (0, 30), .inl (0, 30), .inl (0, 30), .inr (2, [(1, 0), (0, 0), (0, 40), (0, 41), (0, 0)]), .inl (0, 12), .inl (0, 169)]
def Ly82 : aLay := [.inr (7, [(0, 2), (0, 9), (0, 15), (0, 23), (0, 26), (0, 29), (0, 30), (0, 31), (0, 35), (0, 0), (1, 0)]), .inr (6, [(1, 0), (1, 0), (0, 3), (0, 4), (0, 5), (0, 6), (0, 7), (0, 8), (1, 0)]), .inl (0, 200), .inl (0, 201), .inl (0, 201), .inl (0, 201), .inl (0, 10), .inl (0, 40), .inr (0, [(1, 0), (1, 0), (1, 0), (1, 0), (1, 0), (0, 10), (0, 11), (0, 12), (0, 13), (0, 14)]), .inl (0, 150), .inl (0, 20), .inl (0, 100), .inl (0, 6), .inl (1, 6), .inr (5, [(1, 0), (0, 9), (0, 16), (0, 17), (0, 18), (0, 19), (0, 20), (0, 21), (0, 22)]), .inl (0, 1921), .inl (0, 1921), .inl (0, 1921), .inl (0, 1921), .inl (0, 1921), .inl (0, 1021), .inl (0, 1921), .inr (4, [(1, 0), (2, 0), (0, 9), (0, 15), (1, 0), (0, 24), (0, 25)]), .inl (0, 157), .inl (0, 6), .inr (4, [(1, 0), (2, 0), (0, 9), (0, 15), (1, 0), (0, 27), (0, 28)]), .inl (0, 157), .inl (0, 6), .inr (3, [(2, 0), (2, 0), (1, 0), (1, 0), (2, 0), (0, 15)]), .inr (3, [(2, 0), (2, 0), (1, 0), (1, 0), (2, 0), (0, 15)]), .inr (1, [(1, 0), (2, 0), (2, 0), (0, 9), (0, 15), (0, 23), (0, 32), (0, 33), (0, 34)]), .inl (0, 30), .inl (0, 30), .inl (0, 30), .inr (1, [(1, 0), (2, 0), (2, 0), (0, 9), (0, 15), (0, 26), (0, 36), (0, 37), (0, 38)]), .inl (0, 30), .inl (0, 30), .inl (0, 30), .inr (2, [(1, 0), (0, 0), (0, 40), (0, 41), (0, 0)]), .inl (0, 12), .inl (0, 169), .inl (0, 169)]
def Ly83 : aLay := [.inr (7, [(0, 2), (0, 9), (0, 15), (0, 23), (0, 26), (0, 29), (0, 30), (0, 31), (0, 35), (0, 0), (1, 0)]), .inr (6, [(1, 0), (1, 0), (0, 3), (0, 4), (0, 5), (0, 6), (0, 7), (0, 8), (1, 0)]), .inl (0, 200), .inl (0, 201), .inl (0, 201), .inl (0, 201), .inl (0, 10), .inl (0, 40), .inr (0, [(1, 0), (1, 0), (1, 0), (1, 0), (1, 0), (0, 10), (0, 11), (0, 12), (0, 13), (0, 14)]), .inl (0, 150), .inl (0, 20), .inl (0, 100), .inl (0, 6), .inl (1, 6), .inr (5, [(1, 0), (0, 9), (0, 16), (0, 17), (0, 18), (0, 19), (0, 20), (0, 21), (0, 22)]), .inl (0, 1921), .inl (0, 1921), .inl (0, 1921), .inl (0, 1921), .inl (0, 1921), .inl (0, 1021), .inl (0, 1921), .inr (4, [(1, 0), (2, 0), (0, 9), (0, 15), (1, 0), (0, 24), (0, 25)]), .inl (0, 157), .inl (0, 6), .inr (4, [(1, 0), (2, 0), (0, 9), (0, 15), (1, 0), (0, 27), (0, 28)]), .inl (0, 157), .inl (0, 6), .inr (3, [(2, 0), (2, 0), (1, 0), (1, 0), (2, 0), (0, 15)]), .inr (3, [(2, 0), (2, 0), (1, 0), (1, 0), (2, 0), (0, 15)]), .inr (1, [(1, 0), (2, 0), (2, 0), (0, 9), (0, 15), (0, 23), (0, 32), (0, 33), (0, 34)]), .inl (0, 30), .inl (0, 30), .inl (0, 30), .inr (1, [(1, 0), (2, 0), (2, 0), (0, 9), (0, 15), (0, 26), (0, 36), (0, 37), (0, 38)]), .inl (0, 30), .inl (0, 30), .inl (0, 30), .inr (2, [(1, 0), (0, 9), (0, 40), (0, 41), (0, 42)]), .inl (0, 12), .inl (0, 169), .inl (0, 169)]
def Ly84 : aLay := [.inr (7, [(0, 2), (0, 9), (0, 15), (0, 23), (0, 26), (0, 29), (0, 30), (0, 31), (0, 35), (0, 39), (1, 0)]), .inr (6, [(1, 0), (1, 0), (0, 3), (0, 4), (0, 5), (0, 6), (0, 7), (0, 8), (1, 0)]), .inl (0, 200), .inl (0, 201), .inl (0, 201), .inl (0, 201), .inl (0, 10), .inl (0, 40), .inr (0, [(1, 0), (1, 0), (1, 0), (1, 0), (1, 0), (0, 10), (0, 11), (0, 12), (0, 13), (0, 14)]), .inl (0, 150), .inl (0, 20), .inl (0, 100), .inl (0, 6), .inl (1, 6), .inr (5, [(1, 0), (0, 9), (0, 16), (0, 17), (0, 18), (0, 19), (0, 20), (0, 21), (0, 22)]), .inl (0, 1921), .inl (0, 1921), .inl (0, 1921), .inl (0, 1921), .inl (0, 1921), .inl (0, 1021), .inl (0, 1921), .inr (4, [(1, 0), (2, 0), (0, 9), (0, 15), (1, 0), (0, 24), (0, 25)]), .inl (0, 157), .inl (0, 6), .inr (4, [(1, 0), (2, 0), (0, 9), (0, 15), (1, 0), (0, 27), (0, 28)]), .inl (0, 157), .inl (0, 6), .inr (3, [(2, 0), (2, 0), (1, 0), (1, 0), (2, 0), (0, 15)]), .inr (3, [(2, 0), (2, 0), (1, 0), (1, 0), (2, 0), (0, 15)]), .inr (1, [(1, 0), (2, 0), (2, 0), (0, 9), (0, 15), (0, 23), (0, 32), (0, 33), (0, 34)]), .inl (0, 30), .inl (0, 30), .inl (0, 30), .inr (1, [(1, 0), (2, 0), (2, 0), (0, 9), (0, 15), (0, 26), (0, 36), (0, 37), (0, 38)]), .inl (0, 30), .inl (0, 30), .inl (0, 30), .inr (2, [(1, 0), (0, 9), (0, 40), (0, 41), (0, 42)]), .inl (0, 12), .inl (0, 169), .inl (0, 169)]
def Ly85 : aLay := [.inr (7, [(0, 2), (0, 9), (0, 15), (0, 23), (0, 26), (0, 29), (0, 30), (0, 31), (0, 35), (0, 39), (1, 0)]), .inr (6, [(1, 0), (1, 0), (0, 3), (0, 4), (0, 5), (0, 6), (0, 7), (0, 8), (1, 0)]), .inl (0, 200), .inl (0, 201), .inl (0, 201), .inl (0, 201), .inl (0, 10), .inl (0, 40), .inr (0, [(1, 0), (1, 0), (1, 0), (1, 0), (1, 0), (0, 10), (0, 11), (0, 12), (0, 13), (0, 14)]), .inl (0, 150), .inl (0, 20), .inl (0, 100), .inl (0, 6), .inl (1, 6), .inr (5, [(1, 0), (0, 9), (0, 16), (0, 17), (0, 18), (0, 19), (0, 20), (0, 21), (0, 22)]), .inl (0, 1921), .inl (0, 1921), .inl (0, 1921), .inl (0, 1921), .inl (0, 1921), .inl (0, 1021), .inl (0, 1921), .inr (4, [(1, 0), (2, 0), (0, 9), (0, 15), (1, 0), (0, 24), (0, 25)]), .inl (0, 157), .inl (0, 6), .inr (4, [(1, 0), (2, 0), (0, 9), (0, 15), (1, 0), (0, 27), (0, 28)]), .inl (0, 157), .inl (0, 6), .inr (3, [(2, 0), (2, 0), (1, 0), (1, 0), (2, 0), (0, 15)]), .inr (3, [(2, 0), (2, 0), (1, 0), (1, 0), (2, 0), (0, 15)]), .inr (1, [(1, 0), (2, 0), (2, 0), (0, 9), (0, 15), (0, 23), (0, 32), (0, 33), (0, 34)]), .inl (0, 30), .inl (0, 30), .inl (0, 30), .inr (1, [(1, 0), (2, 0), (2, 0), (0, 9), (0, 15), (0, 26), (0, 36), (0, 37), (0, 38)]), .inl (0, 30), .inl (0, 30), .inl (0, 30), .inr (2, [(1, 0), (0, 9), (0, 40), (0, 41), (0, 42)]), .inl (0, 12), .inl (0, 169), .inl (0, 169), .inr (8, [(0, 0), (1, 0), (0, 0), (1, 0), (0, 0), (1, 0), (0, 0), (1, 0), (0, 0), (0, 0), (1, 0), (1, 0), (1, 0), (0, 0), (1, 0), (1, 0), (1, 0), (1, 0), (0, 0), (0, 0), (0, 0), (0, 0), (0, 0), (1, 0), (0, 0), (1, 0), (2, 0), (2, 0), (1, 0), (1, 0), (0, 0), (0, 0), (1, 0), (0, 0)])]
def Ly86 : aLay := [.inr (7, [(0, 2), (0, 9), (0, 15), (0, 23), (0, 26), (0, 29), (0, 30), (0, 31), (0, 35), (0, 39), (1, 0)]), .inr (6, [(1, 0), (1, 0), (0, 3), (0, 4), (0, 5), (0, 6), (0, 7), (0, 8), (1, 0)]), .inl (0, 200), .inl (0, 201), .inl (0, 201), .inl (0, 201), .inl (0, 10), .inl (0, 40), .inr (0, [(1, 0), (1, 0), (1, 0), (1, 0), (1, 0), (0, 10), (0, 11), (0, 12), (0, 13), (0, 14)]), .inl (0, 150), .inl (0, 20), .inl (0, 100), .inl (0, 6), .inl (1, 6), .inr (5, [(1, 0), (0, 9), (0, 16), (0, 17), (0, 18), (0, 19), (0, 20), (0, 21), (0, 22)]), .inl (0, 1921), .inl (0, 1921), .inl (0, 1921), .inl (0, 1921), .inl (0, 1921), .inl (0, 1021), .inl (0, 1921), .inr (4, [(1, 0), (2, 0), (0, 9), (0, 15), (1, 0), (0, 24), (0, 25)]), .inl (0, 157), .inl (0, 6), .inr (4, [(1, 0), (2, 0), (0, 9), (0, 15), (1, 0), (0, 27), (0, 28)]), .inl (0, 157), .inl (0, 6), .inr (3, [(2, 0), (2, 0), (1, 0), (1, 0), (2, 0), (0, 15)]), .inr (3, [(2, 0), (2, 0), (1, 0), (1, 0), (2, 0), (0, 15)]), .inr (1, [(1, 0), (2, 0), (2, 0), (0, 9), (0, 15), (0, 23), (0, 32), (0, 33), (0, 34)]), .inl (0, 30), .inl (0, 30), .inl (0, 30), .inr (1, [(1, 0), (2, 0), (2, 0), (0, 9), (0, 15), (0, 26), (0, 36), (0, 37), (0, 38)]), .inl (0, 30), .inl (0, 30), .inl (0, 30), .inr (2, [(1, 0), (0, 9), (0, 40), (0, 41), (0, 42)]), .inl (0, 12), .inl (0, 169), .inl (0, 169), .inr (8, [(0, 0), (1, 0), (0, 0), (1, 0), (0, 0), (1, 0), (0, 0), (1, 0), (0, 0), (0, 0), (1, 0), (1, 0), (1, 0), (0, 0), (1, 0), (1, 0), (1, 0), (1, 0), (0, 0), (0, 0), (0, 0), (0, 0), (0, 0), (1, 0), (0, 0), (1, 0), (2, 0), (2, 0), (1, 0), (1, 0), (0, 0), (0, 0), (1, 0), (0, 0)]), .inl (0, 200)]
def Ly87 : aLay := [.inr (7, [(0, 2), (0, 9), (0, 15), (0, 23), (0, 26), (0, 29), (0, 30), (0, 31), (0, 35), (0, 39), (1, 0)]), .inr (6, [(1, 0), (1, 0), (0, 3), (0, 4), (0, 5), (0, 6), (0, 7), (0, 8), (1, 0)]), .inl (0, 200), .inl (0, 201), .inl (0, 201), .inl (0, 201), .inl (0, 10), .inl (0, 40), .inr (0, [(1, 0), (1, 0), (1, 0), (1, 0), (1, 0), (0, 10), (0, 11), (0, 12), (0, 13), (0, 14)]), .inl (0, 150), .inl (0, 20), .inl (0, 100), .inl (0, 6), .inl (1, 6), .inr (5, [(1, 0), (0, 9), (0, 16), (0, 17), (0, 18), (0, 19), (0, 20), (0, 21), (0, 22)]), .inl (0, 1921), .inl (0, 1921), .inl (0, 1921), .inl (0, 1921), .inl (0, 1921), .inl (0, 1021), .inl (0, 1921), .inr (4, [(1, 0), (2, 0), (0, 9), (0, 15), (1, 0), (0, 24), (0, 25)]), .inl (0, 157), .inl (0, 6), .inr (4, [(1, 0), (2, 0), (0, 9), (0, 15), (1, 0), (0, 27), (0, 28)]), .inl (0, 157), .inl (0, 6), .inr (3, [(2, 0), (2, 0), (1, 0), (1, 0), (2, 0), (0, 15)]), .inr (3, [(2, 0), (2, 0), (1, 0), (1, 0), (2, 0), (0, 15)]), .inr (1, [(1, 0), (2, 0), (2, 0), (0, 9), (0, 15), (0, 23), (0, 32), (0, 33), (0, 34)]), .inl (0, 30), .inl (0, 30), .inl (0, 30), .inr (1, [(1, 0), (2, 0), (2, 0), (0, 9), (0, 15), (0, 26), (0, 36), (0, 37), (0, 38)]), .inl (0, 30), .inl (0, 30), .inl (0, 30), .inr (2, [(1, 0), (0, 9), (0, 40), (0, 41), (0, 42)]), .inl (0, 12), .inl (0, 169), .inl (0, 169), .inr (8, [(0, 44), (1, 0), (0, 0), (1, 0), (0, 0), (1, 0), (0, 0), (1, 0), (0, 0), (0, 0), (1, 0), (1, 0), (1, 0), (0, 0), (1, 0), (1, 0), (1, 0), (1, 0), (0, 0), (0, 0), (0, 0), (0, 0), (0, 0), (1, 0), (0, 0), (1, 0), (2, 0), (2, 0), (1, 0), (1, 0), (0, 0), (0, 0), (1, 0), (0, 0)]), .inl (0, 200)]
def Ly88 : aLay := [.inr (7, [(0, 2), (0, 9), (0, 15), (0, 23), (0, 26), (0, 29), (0, 30), (0, 31), (0, 35), (0, 39), (1, 0)]), .inr (6, [(1, 0), (1, 0), (0, 3), (0, 4), (0, 5), (0, 6), (0, 7), (0, 8), (1, 0)]), .inl (0, 200), .inl (0, 201), .inl (0, 201), .inl (0, 201), .inl (0, 10), .inl (0, 40), .inr (0, [(1, 0), (1, 0), (1, 0), (1, 0), (1, 0), (0, 10), (0, 11), (0, 12), (0, 13), (0, 14)]), .inl (0, 150), .inl (0, 20), .inl (0, 100), .inl (0, 6), .inl (1, 6), .inr (5, [(1, 0), (0, 9), (0, 16), (0, 17), (0, 18), (0, 19), (0, 20), (0, 21), (0, 22)]), .inl (0, 1921), .inl (0, 1921), .inl (0, 1921), .inl (0, 1921), .inl (0, 1921), .inl (0, 1021), .inl (0, 1921), .inr (4, [(1, 0), (2, 0), (0, 9), (0, 15), (1, 0), (0, 24), (0, 25)]), .inl (0, 157), .inl (0, 6), .inr (4, [(1, 0), (2, 0), (0, 9), (0, 15), (1, 0), (0, 27), (0, 28)]), .inl (0, 157), .inl (0, 6), .inr (3, [(2, 0), (2, 0), (1, 0), (1, 0), (2, 0), (0, 15)]), .inr (3, [(2, 0), (2, 0), (1, 0), (1, 0), (2, 0), (0, 15)]), .inr (1, [(1, 0), (2, 0), (2, 0), (0, 9), (0, 15), (0, 23), (0, 32), (0, 33), (0, 34)]), .inl (0, 30), .inl (0, 30), .inl (0, 30), .inr (1, [(1, 0), (2, 0), (2, 0), (0, 9), (0, 15), (0, 26), (0, 36), (0, 37), (0, 38)]), .inl (0, 30), .inl (0, 30), .inl (0, 30), .inr (2, [(1, 0), (0, 9), (0, 40), (0, 41), (0, 42)]), .inl (0, 12), .inl (0, 169), .inl (0, 169), .inr (8, [(0, 44), (1, 0), (0, 0), (1, 0), (0, 0), (1, 0), (0, 0), (1, 0), (0, 0), (0, 0), (1, 0), (1, 0), (1, 0), (0, 0), (1, 0), (1, 0), (1, 0), (1, 0), (0, 0), (0, 0), (0, 0), (0, 0), (0, 0), (1, 0), (0, 0), (1, 0), (2, 0), (2, 0), (1, 0), (1, 0), (0, 0), (0, 0), (1, 0), (0, 0)]), .inl (0, 200), .inl (0, 50)]
def Ly89 : aLay := [.inr (7, [(0, 2), (0, 9), (0, 15), (0, 23), (0, 26), (0, 29), (0, 30), (0, 31), (0, 35), (0, 39), (1, 0)]), .inr (6, [(1, 0), (1, 0), (0, 3), (0, 4), (0, 5), (0, 6), (0, 7), (0, 8), (1, 0)]), .inl (0, 200), .inl (0, 201), .inl (0, 201), .inl (0, 201), .inl (0, 10), .inl (0, 40), .inr (0, [(1, 0), (1, 0), (1, 0), (1, 0), (1, 0), (0, 10), (0, 11), (0, 12), (0, 13), (0, 14)]), .inl (0, 150), .inl (0, 20), .inl (0, 100), .inl (0, 6), .inl (1, 6), .inr (5, [(1, 0), (0, 9), (0, 16), (0, 17), (0, 18), (0, 19), (0, 20), (0, 21), (0, 22)]), .inl (0, 1921), .inl (0, 1921), .inl (0, 1921), .inl (0, 1921), .inl (0, 1921), .inl (0, 1021), .inl (0, 1921), .inr (4, [(1, 0), (2, 0), (0, 9), (0, 15), (1, 0), (0, 24), (0, 25)]), .inl (0, 157), .inl (0, 6), .inr (4, [(1, 0), (2, 0), (0, 9), (0, 15), (1, 0), (0, 27), (0, 28)]), .inl (0, 157), .inl (0, 6), .inr (3, [(2, 0), (2, 0), (1, 0), (1, 0), (2, 0), (0, 15)]), .inr (3, [(2, 0), (2, 0), (1, 0), (1, 0), (2, 0), (0, 15)]), .inr (1, [(1, 0), (2, 0), (2, 0), (0, 9), (0, 15), (0, 23), (0, 32), (0, 33), (0, 34)]), .inl (0, 30), .inl (0, 30), .inl (0, 30), .inr (1, [(1, 0), (2, 0), (2, 0), (0, 9), (0, 15), (0, 26), (0, 36), (0, 37), (0, 38)]), .inl (0, 30), .inl (0, 30), .inl (0, 30), .inr (2, [(1, 0), (0, 9), (0, 40), (0, 41), (0, 42)]), .inl (0, 12), .inl (0, 169), .inl (0, 169), .inr (8, [(0, 44), (1, 0), (0, 45), (1, 0), (0, 0), (1, 0), (0, 0), (1, 0), (0, 0), (0, 0), (1, 0), (1, 0), (1, 0), (0, 0), (1, 0), (1, 0), (1, 0), (1, 0), (0, 0), (0, 0), (0, 0), (0, 0), (0, 0), (1, 0), (0, 0), (1, 0), (2, 0), (2, 0), (1, 0), (1, 0), (0, 0), (0, 0), (1, 0), (0, 0)]), .inl (0, 200), .inl (0, 50)]
def Ly90 : aLay := [.inr (7, [(0, 2), (0, 9), (0, 15), (0, 23), (0, 26), (0, 29), (0, 30), (0, 31), (0, 35), (0, 39), (1, 0)]), .inr (6, [(1, 0), (1, 0), (0, 3), (0, 4), (0, 5), (0, 6), (0, 7), (0, 8), (1, 0)]), .inl (0, 200), .inl (0, 201), .inl (0, 201), .inl (0, 201), .inl (0, 10), .inl (0, 40), .inr (0, [(1, 0), (1, 0), (1, 0), (1, 0), (1, 0), (0, 10), (0, 11), (0, 12), (0, 13), (0, 14)]), .inl (0, 150), .inl (0, 20), .inl (0, 100), .inl (0, 6), .inl (1, 6), .inr (5, [(1, 0), (0, 9), (0, 16), (0, 17), (0, 18), (0, 19), (0, 20), (0, 21), (0, 22)]), .inl (0, 1921), .inl (0, 1921), .inl (0, 1921), .inl (0, 1921), .inl (0, 1921), .inl (0, 1021), .inl (0, 1921), .inr (4, [(1, 0), (2, 0), (0, 9), (0, 15), (1, 0), (0, 24), (0, 25)]), .inl (0, 157), .inl (0, 6), .inr (4, [(1, 0), (2, 0), (0, 9), (0, 15), (1, 0), (0, 27), (0, 28)]), .inl (0, 157), .inl (0, 6), .inr (3, [(2, 0), (2, 0), (1, 0), (1, 0), (2, 0), (0, 15)]), .inr (3, [(2, 0), (2, 0), (1, 0), (1, 0), (2, 0), (0, 15)]), .inr (1, [(1, 0), (2, 0), (2, 0), (0, 9), (0, 15), (0, 23), (0, 32), (0, 33), (0, 34)]), .inl (0, 30), .inl (0, 30), .inl (0, 30), .inr (1, [(1, 0), (2, 0), (2, 0), (0, 9), (0, 15), (0, 26), (0, 36), (0, 37), (0, 38)]), .inl (0, 30), .inl (0, 30), .inl (0, 30), .inr (2, [(1, 0), (0, 9), (0, 40), (0, 41), (0, 42)]), .inl (0, 12), .inl (0, 169), .inl (0, 169), .inr (8, [(0, 44), (1, 0), (0, 45), (1, 0), (0, 0), (1, 0), (0, 0), (1, 0), (0, 0), (0, 0), (1, 0), (1, 0), (1, 0), (0, 0), (1, 0), (1, 0), (1, 0), (1, 0), (0, 0), (0, 0), (0, 0), (0, 0), (0, 0), (1, 0), (0, 0), (1, 0), (2, 0), (2, 0), (1, 0), (1, 0), (0, 0), (0, 0), (1, 0), (0, 0)]), .inl (0, 200), .inl (0, 50), .inl (0, 150)]
def Ly91 : aLay := [.inr (7, [(0, 2), (0, 9), (0, 15), (0, 23), (0, 26), (0, 29), (0, 30), (0, 31), (0, 35), (0, 39), (1, 0)]), .inr (6, [(1, 0), (1, 0), (0, 3), (0, 4), (0, 5), (0, 6), (0, 7), (0, 8), (1, 0)]), .inl (0, 200), .inl (0, 201), .inl (0, 201), .inl (0, 201), .inl (0, 10), .inl (0, 40), .inr (0, [(1, 0), (1, 0), (1, 0), (1, 0), (1, 0), (0, 10), (0, 11), (0, 12), (0, 13), (0, 14)]), .inl (0, 150), .inl (0, 20), .inl (0, 100), .inl (0, 6), .inl (1, 6), .inr (5, [(1, 0), (0, 9), (0, 16), (0, 17), (0, 18), (0, 19), (0, 20), (0, 21), (0, 22)]), .inl (0, 1921), .inl (0, 1921), .inl (0, 1921), .inl (0, 1921), .inl (0, 1921), .inl (0, 1021), .inl (0, 1921), .inr (4, [(1, 0), (2, 0), (0, 9), (0, 15), (1, 0), (0, 24), (0, 25)]), .inl (0, 157), .inl (0, 6), .inr (4, [(1, 0), (2, 0), (0, 9), (0, 15), (1, 0), (0, 27), (0, 28)]), .inl (0, 157), .inl (0, 6), .inr (3, [(2, 0), (2, 0), (1, 0), (1, 0), (2, 0), (0, 15)]), .inr (3, [(2, 0), (2, 0), (1, 0), (1, 0), (2, 0), (0, 15)]), .inr (1, [(1, 0), (2, 0), (2, 0), (0, 9), (0, 15), (0, 23), (0, 32), (0, 33), (0, 34)]), .inl (0, 30), .inl (0, 30), .inl (0, 30), .inr (1, [(1, 0), (2, 0), (2, 0), (0, 9), (0, 15), (0, 26), (0, 36), (0, 37), (0, 38)]), .inl (0, 30), .inl (0, 30), .inl (0, 30), .inr (2, [(1, 0), (0, 9), (0, 40), (0, 41), (0, 42)]), .inl (0, 12), .inl (0, 169), .inl (0, 169), .inr (8, [(0, 44), (1, 0), (0, 45), (1, 0), (0, 46), (1, 0), (0, 0), (1, 0), (0, 0), (0, 0), (1, 0), (1, 0), (1, 0), (0, 0), (1, 0), (1, 0), (1, 0), (1, 0), (0, 0), (0, 0), (0, 0), (0, 0), (0, 0), (1, 0), (0, 0), (1, 0), (2, 0), (2, 0), (1, 0), (1, 0), (0, 0), (0, 0), (1, 0), (0, 0)]), .inl (0, 200), .inl (0, 50), .inl (0, 150)]
def Ly92 : aLay := [.inr (7, [(0, 2), (0, 9), (0, 15), (0, 23), (0, 26), (0, 29), (0, 30), (0, 31), (0, 35), (0, 39), (1, 0)]), .inr (6, [(1, 0), (1, 0), (0, 3), (0, 4), (0, 5), (0, 6), (0, 7), (0, 8), (1, 0)]), .inl (0, 200), .inl (0, 201), .inl (0, 201), .inl (0, 201), .inl (0, 10), .inl (0, 40), .inr (0, [(1, 0), (1, 0), (1, 0), (1, 0), (1, 0), (0, 10), (0, 11), (0, 12), (0, 13), (0, 14)]), .inl (0, 150), .inl (0, 20), .inl (0, 100), .inl (0, 6), .inl (1, 6), .inr (5, [(1, 0), (0, 9), (0, 16), (0, 17), (0, 18), (0, 19), (0, 20), (0, 21), (0, 22)]), .inl (0, 1921), .inl (0, 1921), .inl (0, 1921), .inl (0, 1921), .inl (0, 1921), .inl (0, 1021), .inl (0, 1921), .inr (4, [(1, 0), (2, 0), (0, 9), (0, 15), (1, 0), (0, 24), (0, 25)]), .inl (0, 157), .inl (0, 6), .inr (4, [(1, 0), (2, 0), (0, 9), (0, 15), (1, 0), (0, 27), (0, 28)]), .inl (0, 157), .inl (0, 6), .inr (3, [(2, 0), (2, 0), (1, 0), (1, 0), (2, 0), (0, 15)]), .inr (3, [(2, 0), (2, 0), (1, 0), (1, 0), (2, 0), (0, 15)]), .inr (1, [(1, 0), (2, 0), (2, 0), (0, 9), (0, 15), (0, 23), (0, 32), (0, 33), (0, 34)]), .inl (0, 30), .inl (0, 30), .inl (0, 30), .inr (1, [(1, 0), (2, 0), (2, 0), (0, 9), (0, 15), (0, 26), (0, 36), (0, 37), (0, 38)]), .inl (0, 30), .inl (0, 30), .inl (0, 30), .inr (2, [(1, 0), (0, 9), (0, 40), (0, 41), (0, 42)]), .inl (0, 12), .inl (0, 169), .inl (0, 169), .inr (8, [(0, 44), (1, 0), (0, 45), (1, 0), (0, 46), (1, 0), (0, 0), (1, 0), (0, 0), (0, 0), (1, 0), (1, 0), (1, 0), (0, 0), (1, 0), (1, 0), (1, 0), (1, 0), (0, 0), (0, 0), (0, 0), (0, 0), (0, 0), (1, 0), (0, 0), (1, 0), (2, 0), (2, 0), (1, 0), (1, 0), (0, 0), (0, 0), (1, 0), (0, 0)]), .inl (0, 200), .inl (0, 50), .inl (0, 150), .inl (0, 6)]
def Ly93 : aLay := [.inr (7, [(0, 2), (0, 9), (0, 15), (0, 23), (0, 26), (0, 29), (0, 30), (0, 31), (0, 35), (0, 39), (1, 0)]), .inr (6, [(1, 0), (1, 0), (0, 3), (0, 4), (0, 5), (0, 6), (0, 7), (0, 8), (1, 0)]), .inl (0, 200), .inl (0, 201), .inl (0, 201), .inl (0, 201), .inl (0, 10), .inl (0, 40), .inr (0, [(1, 0), (1, 0), (1, 0), (1, 0), (1, 0), (0, 10), (0, 11), (0, 12), (0, 13), (0, 14)]), .inl (0, 150), .inl (0, 20), .inl (0, 100), .inl (0, 6), .inl (1, 6), .inr (5, [(1, 0), (0, 9), (0, 16), (0, 17), (0, 18), (0, 19), (0, 20), (0, 21), (0, 22)]), .inl (0, 1921), .inl (0, 1921), .inl (0, 1921), .inl (0, 1921), .inl (0, 1921), .inl (0, 1021), .inl (0, 1921), .inr (4, [(1, 0), (2, 0), (0, 9), (0, 15), (1, 0), (0, 24), (0, 25)]), .inl (0, 157), .inl (0, 6), .inr (4, [(1, 0), (2, 0), (0, 9), (0, 15), (1, 0), (0, 27), (0, 28)]), .inl (0, 157), .inl (0, 6), .inr (3, [(2, 0), (2, 0), (1, 0), (1, 0), (2, 0), (0, 15)]), .inr (3, [(2, 0), (2, 0), (1, 0), (1, 0), (2, 0), (0, 15)]), .inr (1, [(1, 0), (2, 0), (2, 0), (0, 9), (0, 15), (0, 23), (0, 32), (0, 33), (0, 34)]), .inl (0, 30), .inl (0, 30), .inl (0, 30), .inr (1, [(1, 0), (2, 0), (2, 0), (0, 9), (0, 15), (0, 26), (0, 36), (0, 37), (0, 38)]), .inl (0, 30), .inl (0, 30), .inl (0, 30), .inr (2, [(1, 0), (0, 9), (0, 40), (0, 41), (0, 42)]), .inl (0, 12), .inl (0, 169), .inl (0, 169), .inr (8, [(0, 44), (1, 0), (0, 45), (1, 0), (0, 46), (1, 0), (0, 47), (1, 0), (0, 0), (0, 0), (1, 0), (1, 0), (1, 0), (0, 0), (1, 0), (1, 0), (1, 0), (1, 0), (0, 0), (0, 0), (0, 0), (0, 0), (0, 0), (1, 0), (0, 0), (1, 0), (2, 0), (2, 0), (1, 0), (1, 0), (0, 0), (0, 0), (1, 0), (0, 0)]), .inl (0, 200), .inl (0, 50), .inl (0, 150), .inl (0, 6)]
def Ly94 : aLay := [.inr (7, [(0, 2), (0, 9), (0, 15), (0, 23), (0, 26), (0, 29), (0, 30), (0, 31), (0, 35), (0, 39), (1, 0)]), .inr (6, [(1, 0), (1, 0), (0, 3), (0, 4), (0, 5), (0, 6), (0, 7), (0, 8), (1, 0)]), .inl (0, 200), .inl (0, 201), .inl (0, 201), .inl (0, 201), .inl (0, 10), .inl (0, 40), .inr (0, [(1, 0), (1, 0), (1, 0), (1, 0), (1, 0), (0, 10), (0, 11), (0, 12), (0, 13), (0, 14)]), .inl (0, 150), .inl (0, 20), .inl (0, 100), .inl (0, 6), .inl (1, 6), .inr (5, [(1, 0), (0, 9), (0, 16), (0, 17), (0, 18), (0, 19), (0, 20), (0, 21), (0, 22)]), .inl (0, 1921), .inl (0, 1921), .inl (0, 1921), .inl (0, 1921), .inl (0, 1921), .inl (0, 1021), .inl (0, 1921), .inr (4, [(1, 0), (2, 0), (0, 9), (0, 15), (1, 0), (0, 24), (0, 25)]), .inl (0, 157), .inl (0, 6), .inr (4, [(1, 0), (2, 0), (0, 9), (0, 15), (1, 0), (0, 27), (0, 28)]), .inl (0, 157), .inl (0, 6), .inr (3, [(2, 0), (2, 0), (1, 0), (1, 0), (2, 0), (0, 15)]), .inr (3, [(2, 0), (2, 0), (1, 0), (1, 0), (2, 0), (0, 15)]), .inr (1, [(1, 0), (2, 0), (2, 0), (0, 9), (0, 15), (0, 23), (0, 32), (0, 33), (0, 34)]), .inl (0, 30), .inl (0, 30), .inl (0, 30), .inr (1, [(1, 0), (2, 0), (2, 0), (0, 9), (0, 15), (0, 26), (0, 36), (0, 37), (0, 38)]), .inl (0, 30), .inl (0, 30), .inl (0, 30), .inr (2, [(1, 0), (0, 9), (0, 40), (0, 41), (0, 42)]), .inl (0, 12), .inl (0, 169), .inl (0, 169), .inr (8, [(0, 44), (1, 0), (0, 45), (1, 0), (0, 46), (1, 0), (0, 47), (1, 0), (0, 0), (0, 0), (1, 0), (1, 0), (1, 0), (0, 0), (1, 0), (1, 0), (1, 0), (1, 0), (0, 0), (0, 0), (0, 0), (0, 0), (0, 0), (1, 0), (0, 0), (1, 0), (2, 0), (2, 0), (1, 0), (1, 0), (0, 0), (0, 0), (1, 0), (0, 0)]), .inl (0, 200), .inl (0, 50), .inl (0, 150), .inl (0, 6), .inl (0, 20)]
def Ly95 : aLay := [.inr (7, [(0, 2), (0, 9), (0, 15), (0, 23), (0, 26), (0, 29), (0, 30), (0, 31), (0, 35), (0, 39), (1, 0)]), .inr (6, [(1, 0), (1, 0), (0, 3), (0, 4), (0, 5), (0, 6), (0, 7), (0, 8), (1, 0)]), .inl (0, 200), .inl (0, 201), .inl (0, 201), .inl (0, 201), .inl (0, 10), .inl (0, 40), .inr (0, [(1, 0), (1, 0), (1, 0), (1, 0), (1, 0), (0, 10), (0, 11), (0, 12), (0, 13), (0, 14)]), .inl (0, 150), .inl (0, 20), .inl (0, 100), .inl (0, 6), .inl (1, 6), .inr (5, [(1, 0), (0, 9), (0, 16), (0, 17), (0, 18), (0, 19), (0, 20), (0, 21), (0, 22)]), .inl (0, 1921), .inl (0, 1921), .inl (0, 1921), .inl (0, 1921), .inl (0, 1921), .inl (0, 1021), .inl (0, 1921), .inr (4, [(1, 0), (2, 0), (0, 9), (0, 15), (1, 0), (0, 24), (0, 25)]), .inl (0, 157), .inl (0, 6), .inr (4, [(1, 0), (2, 0), (0, 9), (0, 15), (1, 0), (0, 27), (0, 28)]), .inl (0, 157), .inl (0, 6), .inr (3, [(2, 0), (2, 0), (1, 0), (1, 0), (2, 0), (0, 15)]), .inr (3, [(2, 0), (2, 0), (1, 0), (1, 0), (2, 0), (0, 15)]), .inr (1, [(1, 0), (2, 0), (2, 0), (0, 9), (0, 15), (0, 23), (0, 32), (0, 33), (0, 34)]), .inl (0, 30), .inl (0, 30), .inl (0, 30), .inr (1, [(1, 0), (2, 0), (2, 0), (0, 9), (0, 15), (0, 26), (0, 36), (0, 37), (0, 38)]), .inl (0, 30), .inl (0, 30), .inl (0, 30), .inr (2, [(1, 0), (0, 9), (0, 40), (0, 41), (0, 42)]), .inl (0, 12), .inl (0, 169), .inl (0, 169), .inr (8, [(0, 44), (1, 0), (0, 45), (1, 0), (0, 46), (1, 0), (0, 47), (1, 0), (0, 48), (0, 0), (1, 0), (1, 0), (1, 0), (0, 0), (1, 0), (1, 0), (1, 0), (1, 0), (0, 0), (0, 0), (0, 0), (0, 0), (0, 0), (1, 0), (0, 0), (1, 0), (2, 0), (2, 0), (1, 0), (1, 0), (0, 0), (0, 0), (1, 0), (0, 0)]), .inl (0, 200), .inl (0, 50), .inl (0, 150), .inl (0, 6), .inl (0, 20)]
def Ly96 : aLay := [.inr (7, [(0, 2), (0, 9), (0, 15), (0, 23), (0, 26), (0, 29), (0, 30), (0, 31), (0, 35), (0, 39), (1, 0)]), .inr (6, [(1, 0), (1, 0), (0, 3), (0, 4), (0, 5), (0, 6), (0, 7), (0, 8), (1, 0)]), .inl (0, 200), .inl (0, 201), .inl (0, 201), .inl (0, 201), .inl (0, 10), .inl (0, 40), .inr (0, [(1, 0), (1, 0), (1, 0), (1, 0), (1, 0), (0, 10), (0, 11), (0, 12), (0, 13), (0, 14)]), .inl (0, 150), .inl (0, 20), .inl (0, 100), .inl (0, 6), .inl (1, 6), .inr (5, [(1, 0), (0, 9), (0, 16), (0, 17), (0, 18), (0, 19), (0, 20), (0, 21), (0, 22)]), .inl (0, 1921), .inl (0, 1921), .inl (0, 1921), .inl (0, 1921), .inl (0, 1921), .inl (0, 1021), .inl (0, 1921), .inr (4, [(1, 0), (2, 0), (0, 9), (0, 15), (1, 0), (0, 24), (0, 25)]), .inl (0, 157), .inl (0, 6), .inr (4, [(1, 0), (2, 0), (0, 9), (0, 15), (1, 0), (0, 27), (0, 28)]), .inl (0, 157), .inl (0, 6), .inr (3, [(2, 0), (2, 0), (1, 0), (1, 0), (2, 0), (0, 15)]), .inr (3, [(2, 0), (2, 0), (1, 0), (1, 0), (2, 0), (0, 15)]), .inr (1, [(1, 0), (2, 0), (2, 0), (0, 9), (0, 15), (0, 23), (0, 32), (0, 33), (0, 34)]), .inl (0, 30), .inl (0, 30), .inl (0, 30), .inr (1, [(1, 0), (2, 0), (2, 0), (0, 9), (0, 15), (0, 26), (0, 36), (0, 37), (0, 38)]), .inl (0, 30), .inl (0, 30), .inl (0, 30), .inr (2, [(1, 0), (0, 9), (0, 40), (0, 41), (0, 42)]), .inl (0, 12), .inl (0, 169), .inl (0, 169), .inr (8, [(0, 44), (1, 0), (0, 45), (1, 0), (0, 46), (1, 0), (0, 47), (1, 0), (0, 48), (0, 0), (1, 0), (1, 0), (1, 0), (0, 0), (1, 0), (1, 0), (1, 0), (1, 0), (0, 0), (0, 0), (0, 0), (0, 0), (0, 0), (1, 0), (0, 0), (1, 0), (2, 0), (2, 0), (1, 0), (1, 0), (0, 0), (0, 0), (1, 0), (0, 0)]), .inl (0, 200), .inl (0, 50), .inl (0, 150), .inl (0, 6), .inl (0, 20), .inl (0, 100)]
def Ly97 : aLay := [.inr (7, [(0, 2), (0, 9), (0, 15), (0, 23), (0, 26), (0, 29), (0, 30), (0, 31), (0, 35), (0, 39), (1, 0)]), .inr (6, [(1, 0), (1, 0), (0, 3), (0, 4), (0, 5), (0, 6), (0, 7), (0, 8), (1, 0)]), .inl (0, 200), .inl (0, 201), .inl (0, 201), .inl (0, 201), .inl (0, 10), .inl (0, 40), .inr (0, [(1, 0), (1, 0), (1, 0), (1, 0), (1, 0), (0, 10), (0, 11), (0, 12), (0, 13), (0, 14)]), .inl (0, 150), .inl (0, 20), .inl (0, 100), .inl (0, 6), .inl (1, 6), .inr (5, [(1, 0), (0, 9), (0, 16), (0, 17), (0, 18), (0, 19), (0, 20), (0, 21), (0, 22)]), .inl (0, 1921), .inl (0, 1921), .inl (0, 1921), .inl (0, 1921), .inl (0, 1921), .inl (0, 1021), .inl (0, 1921), .inr (4, [(1, 0), (2, 0), (0, 9), (0, 15), (1, 0), (0, 24), (0, 25)]), .inl (0, 157), .inl (0, 6), .inr (4, [(1, 0), (2, 0), (0, 9), (0, 15), (1, 0), (0, 27), (0, 28)]), .inl (0, 157), .inl (0, 6), .inr (3, [(2, 0), (2, 0), (1, 0), (1, 0), (2, 0), (0, 15)]), .inr (3, [(2, 0), (2, 0), (1, 0), (1, 0), (2, 0), (0, 15)]), .inr (1, [(1, 0), (2, 0), (2, 0), (0, 9), (0, 15), (0, 23), (0, 32), (0, 33), (0, 34)]), .inl (0, 30), .inl (0, 30), .inl (0, 30), .inr (1, [(1, 0), (2, 0), (2, 0), (0, 9), (0, 15), (0, 26), (0, 36), (0, 37), (0, 38)]), .inl (0, 30), .inl (0, 30), .inl (0, 30), .inr (2, [(1, 0), (0, 9), (0, 40), (0, 41), (0, 42)]), .inl (0, 12), .inl (0, 169), .inl (0, 169), .inr (8, [(0, 44), (1, 0), (0, 45), (1, 0), (0, 46), (1, 0), (0, 47), (1, 0), (0, 48), (0, 49), (1, 0), (1, 0), (1, 0), (0, 0), (1, 0), (1, 0), (1, 0), (1, 0), (0, 0), (0, 0), (0, 0), (0, 0), (0, 0), (1, 0), (0, 0), (1, 0), (2, 0), (2, 0), (1, 0), (1, 0), (0, 0), (0, 0), (1, 0), (0, 0)]), .inl (0, 200), .inl (0, 50), .inl (0, 150), .inl (0, 6), .inl (0, 20), .inl (0, 100)]
def Ly98 : aLay := [.inr (7, [(0, 2), (0, 9), (0, 15), (0, 23), (0, 26), (0, 29), (0, 30), (0, 31), (0, 35), (0, 39), (1, 0)]), .inr (6, [(1, 0), (1, 0), (0, 3), (0, 4), (0, 5), (0, 6), (0, 7), (0, 8), (1, 0)]), .inl (0, 200), .inl (0, 201), .inl (0, 201), .inl (0, 201), .inl (0, 10), .inl (0, 40), .inr (0, [(1, 0), (1, 0), (1, 0), (1, 0), (1, 0), (0, 10), (0, 11), (0, 12), (0, 13), (0, 14)]), .inl (0, 150), .inl (0, 20), .inl (0, 100), .inl (0, 6), .inl (1, 6), .inr (5, [(1, 0), (0, 9), (0, 16), (0, 17), (0, 18), (0, 19), (0, 20), (0, 21), (0, 22)]), .inl (0, 1921), .inl (0, 1921), .inl (0, 1921), .inl (0, 1921), .inl (0, 1921), .inl (0, 1021), .inl (0, 1921), .inr (4, [(1, 0), (2, 0), (0, 9), (0, 15), (1, 0), (0, 24), (0, 25)]), .inl (0, 157), .inl (0, 6), .inr (4, [(1, 0), (2, 0), (0, 9), (0, 15), (1, 0), (0, 27), (0, 28)]), .inl (0, 157), .inl (0, 6), .inr (3, [(2, 0), (2, 0), (1, 0), (1, 0), (2, 0), (0, 15)]), .inr (3, [(2, 0), (2, 0), (1, 0), (1, 0), (2, 0), (0, 15)]), .inr (1, [(1, 0), (2, 0), (2, 0), (0, 9), (0, 15), (0, 23), (0, 32), (0, 33), (0, 34)]), .inl (0, 30), .inl (0, 30), .inl (0, 30), .inr (1, [(1, 0), (2, 0), (2, 0), (0, 9), (0, 15), (0, 26), (0, 36), (0, 37), (0, 38)]), .inl (0, 30), .inl (0, 30), .inl (0, 30), .inr (2, [(1, 0), (0, 9), (0, 40), (0, 41), (0, 42)]), .inl (0, 12), .inl (0, 169), .inl (0, 169), .inr (8, [(0, 44), (1, 0), (0, 45), (1, 0), (0, 46), (1, 0), (0, 47), (1, 0), (0, 48), (0, 49), (1, 0), (1, 0), (1, 0), (0, 0), (1, 0), (1, 0), (1, 0), (1, 0), (0, 0), (0, 0), (0, 0), (0, 0), (0, 0), (1, 0), (0, 0), (1, 0), (2, 0), (2, 0), (1, 0), (1, 0), (0, 0), (0, 0), (1, 0), (0, 0)]), .inl (0, 200), .inl (0, 50), .inl (0, 150), .inl (0, 6), .inl (0, 20), .inl (0, 100), .inl (0, 12)]
def Ly99 : aLay := [.inr (7, [(0, 2), (0, 9), (0, 15), (0, 23), (0, 26), (0, 29), (0, 30), (0, 31), (0, 35), (0, 39), (1, 0)]), .inr (6, [(1, 0), (1, 0), (0, 3), (0, 4), (0, 5), (0, 6), (0, 7), (0, 8), (1, 0)]), .inl (0, 200), .inl (0, 201), .inl (0, 201), .inl (0, 201), .inl (0, 10), .inl (0, 40), .inr (0, [(1, 0), (1, 0), (1, 0), (1, 0), (1, 0), (0, 10), (0, 11), (0, 12), (0, 13), (0, 14)]), .inl (0, 150), .inl (0, 20), .inl (0, 100), .inl (0, 6), .inl (1, 6), .inr (5, [(1, 0), (0, 9), (0, 16), (0, 17), (0, 18), (0, 19), (0, 20), (0, 21), (0, 22)]), .inl (0, 1921), .inl (0, 1921), .inl (0, 1921), .inl (0, 1921), .inl (0, 1921), .inl (0, 1021), .inl (0, 1921), .inr (4, [(1, 0), (2, 0), (0, 9), (0, 15), (1, 0), (0, 24), (0, 25)]), .inl (0, 157), .inl (0, 6), .inr (4, [(1, 0), (2, 0), (0, 9), (0, 15), (1, 0), (0, 27), (0, 28)]), .inl (0, 157), .inl (0, 6), .inr (3, [(2, 0), (2, 0), (1, 0), (1, 0), (2, 0), (0, 15)]), .inr (3, [(2, 0), (2, 0), (1, 0), (1, 0), (2, 0), (0, 15)]), .inr (1, [(1, 0), (2, 0), (2, 0), (0, 9), (0, 15), (0, 23), (0, 32), (0, 33), (0, 34)]), .inl (0, 30), .inl (0, 30), .inl (0, 30), .inr (1, [(1, 0), (2, 0), (2, 0), (0, 9), (0, 15), (0, 26), (0, 36), (0, 37), (0, 38)]), .inl (0, 30), .inl (0, 30), .inl (0, 30), .inr (2, [(1, 0), (0, 9), (0, 40), (0, 41), (0, 42)]), .inl (0, 12), .inl (0, 169), .inl (0, 169), .inr (8, [(0, 44), (1, 0), (0, 45), (1, 0), (0, 46), (1, 0), (0, 47), (1, 0), (0, 48), (0, 49), (1, 0), (1, 0), (1, 0), (0, 50), (1, 0), (1, 0), (1, 0), (1, 0), (0, 0), (0, 0), (0, 0), (0, 0), (0, 0), (1, 0), (0, 0), (1, 0), (2, 0), (2, 0), (1, 0), (1, 0), (0, 0), (0, 0), (1, 0), (0, 0)]), .inl (0, 200), .inl (0, 50), .inl (0, 150), .inl (0, 6), .inl (0, 20), .inl (0, 100), .inl (0, 12)]
def Ly100 : aLay := [.inr (7, [(0, 2), (0, 9), (0, 15), (0, 23), (0, 26), (0, 29), (0, 30), (0, 31), (0, 35), (0, 39), (1, 0)]), .inr (6, [(1, 0), (1, 0), (0, 3), (0, 4), (0, 5), (0, 6), (0, 7), (0, 8), (1, 0)]), .inl (0, 200), .inl (0, 201), .inl (0, 201), .inl (0, 201), .inl (0, 10), .inl (0, 40), .inr (0, [(1, 0), (1, 0), (1, 0), (1, 0), (1, 0), (0, 10), (0, 11), (0, 12), (0, 13), (0, 14)]), .inl (0, 150), .inl (0, 20), .inl (0, 100), .inl (0, 6), .inl (1, 6), .inr (5, [(1, 0), (0, 9), (0, 16), (0, 17), (0, 18), (0, 19), (0, 20), (0, 21), (0, 22)]), .inl (0, 1921), .inl (0, 1921), .inl (0, 1921), .inl (0, 1921), .inl (0, 1921), .inl (0, 1021), .inl (0, 1921), .inr (4, [(1, 0), (2, 0), (0, 9), (0, 15), (1, 0), (0, 24), (0, 25)]), .inl (0, 157), .inl (0, 6), .inr (4, [(1, 0), (2, 0), (0, 9), (0, 15), (1, 0), (0, 27), (0, 28)]), .inl (0, 157), .inl (0, 6), .inr (3, [(2, 0), (2, 0), (1, 0), (1, 0), (2, 0), (0, 15)]), .inr (3, [(2, 0), (2, 0), (1, 0), (1, 0), (2, 0), (0, 15)]), .inr (1, [(1, 0), (2, 0), (2, 0), (0, 9), (0, 15), (0, 23), (0, 32), (0, 33), (0, 34)]), .inl (0, 30), .inl (0, 30), .inl (0, 30), .inr (1, [(1, 0), (2, 0), (2, 0), (0, 9), (0, 15), (0, 26), (0, 36), (0, 37), (0, 38)]), .inl (0, 30), .inl (0, 30), .inl (0, 30), .inr (2, [(1, 0), (0, 9), (0, 40), (0, 41), (0, 42)]), .inl (0, 12), .inl (0, 169), .inl (0, 169), .inr (8, [(0, 44), (1, 0), (0, 45), (1, 0), (0, 46), (1, 0), (0, 47), (1, 0), (0, 48), (0, 49), (1, 0), (1, 0), (1, 0), (0, 50), (1, 0), (1, 0), (1, 0), (1, 0), (0, 0), (0, 0), (0, 0), (0, 0), (0, 0), (1, 0), (0, 0), (1, 0), (2, 0), (2, 0), (1, 0), (1, 0), (0, 0), (0, 0), (1, 0), (0, 0)]), .inl (0, 200), .inl (0, 50), .inl (0, 150), .inl (0, 6), .inl (0, 20), .inl (0, 100), .inl (0, 12), .inl (0, 2048)]
def Ly101 : aLay := [.inr (7, [(0, 2), (0, 9), (0, 15), (0, 23), (0, 26), (0, 29), (0, 30), (0, 31), (0, 35), (0, 39), (1, 0)]), .inr (6, [(1, 0), (1, 0), (0, 3), (0, 4), (0, 5), (0, 6), (0, 7), (0, 8), (1, 0)]), .inl (0, 200), .inl (0, 201), .inl (0, 201), .inl (0, 201), .inl (0, 10), .inl (0, 40), .inr (0, [(1, 0), (1, 0), (1, 0), (1, 0), (1, 0), (0, 10), (0, 11), (0, 12), (0, 13), (0, 14)]), .inl (0, 150), .inl (0, 20), .inl (0, 100), .inl (0, 6), .inl (1, 6), .inr (5, [(1, 0), (0, 9), (0, 16), (0, 17), (0, 18), (0, 19), (0, 20), (0, 21), (0, 22)]), .inl (0, 1921), .inl (0, 1921), .inl (0, 1921), .inl (0, 1921), .inl (0, 1921), .inl (0, 1021), .inl (0, 1921), .inr (4, [(1, 0), (2, 0), (0, 9), (0, 15), (1, 0), (0, 24), (0, 25)]), .inl (0, 157), .inl (0, 6), .inr (4, [(1, 0), (2, 0), (0, 9), (0, 15), (1, 0), (0, 27), (0, 28)]), .inl (0, 157), .inl (0, 6), .inr (3, [(2, 0), (2, 0), (1, 0), (1, 0), (2, 0), (0, 15)]), .inr (3, [(2, 0), (2, 0), (1, 0), (1, 0), (2, 0), (0, 15)]), .inr (1, [(1, 0), (2, 0), (2, 0), (0, 9), (0, 15), (0, 23), (0, 32), (0, 33), (0, 34)]), .inl (0, 30), .inl (0, 30), .inl (0, 30), .inr (1, [(1, 0), (2, 0), (2, 0), (0, 9), (0, 15), (0, 26), (0, 36), (0, 37), (0, 38)]), .inl (0, 30), .inl (0, 30), .inl (0, 30), .inr (2, [(1, 0), (0, 9), (0, 40), (0, 41), (0, 42)]), .inl (0, 12), .inl (0, 169), .inl (0, 169), .inr (8, [(0, 44), (1, 0), (0, 45), (1, 0), (0, 46), (1, 0), (0, 47), (1, 0), (0, 48), (0, 49), (1, 0), (1, 0), (1, 0), (0, 50), (1, 0), (1, 0), (1, 0), (1, 0), (0, 51), (0, 0), (0, 0), (0, 0), (0, 0), (1, 0), (0, 0), (1, 0), (2, 0), (2, 0), (1, 0), (1, 0), (0, 0), (0, 0), (1, 0), (0, 0)]), .inl (0, 200), .inl (0, 50), .inl (0, 150), .inl (0, 6), .inl (0, 20), .inl (0, 100), .inl (0, 12), .inl (0, 2048)]
def Ly102 : aLay := [.inr (7, [(0, 2), (0, 9), (0, 15), (0, 23), (0, 26), (0, 29), (0, 30), (0, 31), (0, 35), (0, 39), (1, 0)]), .inr (6, [(1, 0), (1, 0), (0, 3), (0, 4), (0, 5), (0, 6), (0, 7), (0, 8), (1, 0)]), .inl (0, 200), .inl (0, 201), .inl (0, 201), .inl (0, 201), .inl (0, 10), .inl (0, 40), .inr (0, [(1, 0), (1, 0), (1, 0), (1, 0), (1, 0), (0, 10), (0, 11), (0, 12), (0, 13), (0, 14)]), .inl (0, 150), .inl (0, 20), .inl (0, 100), .inl (0, 6), .inl (1, 6), .inr (5, [(1, 0), (0, 9), (0, 16), (0, 17), (0, 18), (0, 19), (0, 20), (0, 21), (0, 22)]), .inl (0, 1921), .inl (0, 1921), .inl (0, 1921), .inl (0, 1921), .inl (0, 1921), .inl (0, 1021), .inl (0, 1921), .inr (4, [(1, 0), (2, 0), (0, 9), (0, 15), (1, 0), (0, 24), (0, 25)]), .inl (0, 157), .inl (0, 6), .inr (4, [(1, 0), (2, 0), (0, 9), (0, 15), (1, 0), (0, 27), (0, 28)]), .inl (0, 157), .inl (0, 6), .inr (3, [(2, 0), (2, 0), (1, 0), (1, 0), (2, 0), (0, 15)]), .inr (3, [(2, 0), (2, 0), (1, 0), (1, 0), (2, 0), (0, 15)]), .inr (1, [(1, 0), (2, 0), (2, 0), (0, 9), (0, 15), (0, 23), (0, 32), (0, 33), (0, 34)]), .inl (0, 30), .inl (0, 30), .inl (0, 30), .inr (1, [(1, 0), (2, 0), (2, 0), (0, 9), (0, 15), (0, 26), (0, 36), (0, 37), (0, 38)]), .inl (0, 30), .inl (0, 30), .inl (0, 30), .inr (2, [(1, 0), (0, 9), (0, 40), (0, 41), (0, 42)]), .inl (0, 12), .inl (0, 169), .inl (0, 169), .inr (8, [(0, 44), (1, 0), (0, 45), (1, 0), (0, 46), (1, 0), (0, 47), (1, 0), (0, 48), (0, 49), (1, 0), (1, 0), (1, 0), (0, 50), (1, 0), (1, 0), (1, 0), (1, 0), (0, 51), (0, 0), (0, 0), (0, 0), (0, 0), (1, 0), (0, 0), (1, 0), (2, 0), (2, 0), (1, 0), (1, 0), (0, 0), (0, 0), (1, 0), (0, 0)]), .inl (0, 200), .inl (0, 50), .inl (0, 150), .inl (0, 6), .inl (0, 20), .inl (0, 100), .inl (0, 12), .inl (0, 2048), .inl (0, 2048)]
def Ly103 : aLay := [.inr (7, [(0, 2), (0, 9), (0, 15), (0, 23), (0, 26), (0, 29), (0, 30), (0, 31), (0, 35), (0, 39), (1, 0)]), .inr (6, [(1, 0), (1, 0), (0, 3), (0, 4), (0, 5), (0, 6), (0, 7), (0, 8), (1, 0)]), .inl (0, 200), .inl (0, 201), .inl (0, 201), .inl (0, 201), .inl (0, 10), .inl (0, 40), .inr (0, [(1, 0), (1, 0), (1, 0), (1, 0), (1, 0), (0, 10), (0, 11), (0, 12), (0, 13), (0, 14)]), .inl (0, 150), .inl (0, 20), .inl (0, 100), .inl (0, 6), .inl (1, 6), .inr (5, [(1, 0), (0, 9), (0, 16), (0, 17), (0, 18), (0, 19), (0, 20), (0, 21), (0, 22)]), .inl (0, 1921), .inl (0, 1921), .inl (0, 1921), .inl (0, 1921), .inl (0, 1921), .inl (0, 1021), .inl (0, 1921), .inr (4, [(1, 0), (2, 0), (0, 9), (0, 15), (1, 0), (0, 24), (0, 25)]), .inl (0, 157), .inl (0, 6), .inr (4, [(1, 0), (2, 0), (0, 9), (0, 15), (1, 0), (0, 27), (0, 28)]), .inl (0, 157), .inl (0, 6), .inr (3, [(2, 0), (2, 0), (1, 0), (1, 0), (2, 0), (0, 15)]), .inr (3, [(2, 0), (2, 0), (1, 0), (1, 0), (2, 0), (0, 15)]), .inr (1, [(1, 0), (2, 0), (2, 0), (0, 9), (0, 15), (0, 23), (0, 32), (0, 33), (0, 34)]), .inl (0, 30), .inl (0, 30), .inl (0, 30), .inr (1, [(1, 0), (2, 0), (2, 0), (0, 9), (0, 15), (0, 26), (0, 36), (0, 37), (0, 38)]), .inl (0, 30), .inl (0, 30), .inl (0, 30), .inr (2, [(1, 0), (0, 9), (0, 40), (0, 41), (0, 42)]), .inl (0, 12), .inl (0, 169), .inl (0, 169), .inr (8, [(0, 44), (1, 0), (0, 45), (1, 0), (0, 46), (1, 0), (0, 47), (1, 0), (0, 48), (0, 49), (1, 0), (1, 0), (1, 0), (0, 50), (1, 0), (1, 0), (1, 0), (1, 0), (0, 51), (0, 52), (0, 0), (0, 0), (0, 0), (1, 0), (0, 0), (1, 0), (2, 0), (2, 0), (1, 0), (1, 0), (0, 0), (0, 0), (1, 0), (0, 0)]), .inl (0, 200), .inl (0, 50), .inl (0, 150), .inl (0, 6), .inl (0, 20), .inl (0, 100), .inl (0, 12), .inl (0, 2048), .inl (0, 2048)]
def Ly104 : aLay := [.inr (7, [(0, 2), (0, 9), (0, 15), (0, 23), (0, 26), (0, 29), (0, 30), (0, 31), (0, 35), (0, 39), (1, 0)]), .inr (6, [(1, 0), (1, 0), (0, 3), (0, 4), (0, 5), (0, 6), (0, 7), (0, 8), (1, 0)]), .inl (0, 200), .inl (0, 201), .inl (0, 201), .inl (0, 201), .inl (0, 10), .inl (0, 40), .inr (0, [(1, 0), (1, 0), (1, 0), (1, 0), (1, 0), (0, 10), (0, 11), (0, 12), (0, 13), (0, 14)]), .inl (0, 150), .inl (0, 20), .inl (0, 100), .inl (0, 6), .inl (1, 6), .inr (5, [(1, 0), (0, 9), (0, 16), (0, 17), (0, 18), (0, 19), (0, 20), (0, 21), (0, 22)]), .inl (0, 1921), .inl (0, 1921), .inl (0, 1921), .inl (0, 1921), .inl (0, 1921), .inl (0, 1021), .inl (0, 1921), .inr (4, [(1, 0), (2, 0), (0, 9), (0, 15), (1, 0), (0, 24), (0, 25)]), .inl (0, 157), .inl (0, 6), .inr (4, [(1, 0), (2, 0), (0, 9), (0, 15), (1, 0), (0, 27), (0, 28)]), .inl (0, 157), .inl (0, 6), .inr (3, [(2, 0), (2, 0), (1, 0), (1, 0), (2, 0), (0, 15)]), .inr (3, [(2, 0), (2, 0), (1, 0), (1, 0), (2, 0), (0, 15)]), .inr (1, [(1, 0), (2, 0), (2, 0), (0, 9), (0, 15), (0, 23), (0, 32), (0, 33), (0, 34)]), .inl (0, 30), .inl (0, 30), .inl (0, 30), .inr (1, [(1, 0), (2, 0), (2, 0), (0, 9), (0, 15), (0, 26), (0, 36), (0, 37), (0, 38)]), .inl (0, 30), .inl (0, 30), .inl (0, 30), .inr (2, [(1, 0), (0, 9), (0, 40), (0, 41), (0, 42)]), .inl (0, 12), .inl (0, 169), .inl (0, 169), .inr (8, [(0, 44), (1, 0), (0, 45), (1, 0), (0, 46), (1, 0), (0, 47), (1, 0), (0, 48), (0, 49), (1, 0), (1, 0), (1, 0), (0, 50), (1, 0), (1, 0), (1, 0), (1, 0), (0, 51), (0, 52), (0, 0), (0, 0), (0, 0), (1, 0), (0, 0), (1, 0), (2, 0), (2, 0), (1, 0), (1, 0), (0, 0), (0, 0), (1, 0), (0, 0)]), .inl (0, 200), .inl (0, 50), .inl (0, 150), .inl (0, 6), .inl (0, 20), .inl (0, 100), .inl (0, 12), .inl (0, 2048), .inl (0, 2048), .inl (0, 2048)]
def Ly105 : aLay := [.inr (7, [(0, 2), (0, 9), (0, 15), (0, 23), (0, 26), (0, 29), (0, 30), (0, 31), (0, 35), (0, 39), (1, 0)]), .inr (6, [(1, 0), (1, 0), (0, 3), (0, 4), (0, 5), (0, 6), (0, 7), (0, 8), (1, 0)]), .inl (0, 200), .inl (0, 201), .inl (0, 201), .inl (0, 201), .inl (0, 10), .inl (0, 40), .inr (0, [(1, 0), (1, 0), (1, 0), (1, 0), (1, 0), (0, 10), (0, 11), (0, 12), (0, 13), (0, 14)]), .inl (0, 150), .inl (0, 20), .inl (0, 100), .inl (0, 6), .inl (1, 6), .inr (5, [(1, 0), (0, 9), (0, 16), (0, 17), (0, 18), (0, 19), (0, 20), (0, 21), (0, 22)]), .inl (0, 1921), .inl (0, 1921), .inl (0, 1921), .inl (0, 1921), .inl (0, 1921), .inl (0, 1021), .inl (0, 1921), .inr (4, [(1, 0), (2, 0), (0, 9), (0, 15), (1, 0), (0, 24), (0, 25)]), .inl (0, 157), .inl (0, 6), .inr (4, [(1, 0), (2, 0), (0, 9), (0, 15), (1, 0), (0, 27), (0, 28)]), .inl (0, 157), .inl (0, 6), .inr (3, [(2, 0), (2, 0), (1, 0), (1, 0), (2, 0), (0, 15)]), .inr (3, [(2, 0), (2, 0), (1, 0), (1, 0), (2, 0), (0, 15)]), .inr (1, [(1, 0), (2, 0), (2, 0), (0, 9), (0, 15), (0, 23), (0, 32), (0, 33), (0, 34)]), .inl (0, 30), .inl (0, 30), .inl (0, 30), .inr (1, [(1, 0), (2, 0), (2, 0), (0, 9), (0, 15), (0, 26), (0, 36), (0, 37), (0, 38)]), .inl (0, 30), .inl (0, 30), .inl (0, 30), .inr (2, [(1, 0), (0, 9), (0, 40), (0, 41), (0, 42)]), .inl (0, 12), .inl (0, 169), .inl (0, 169), .inr (8, [(0, 44), (1, 0), (0, 45), (1, 0), (0, 46), (1, 0), (0, 47), (1, 0), (0, 48), (0, 49), (1, 0), (1, 0), (1, 0), (0, 50), (1, 0), (1, 0), (1, 0), (1, 0), (0, 51), (0, 52), (0, 53), (0, 0), (0, 0), (1, 0), (0, 0), (1, 0), (2, 0), (2, 0), (1, 0), (1, 0), (0, 0), (0, 0), (1, 0), (0, 0)]), .inl (0, 200), .inl (0, 50), .inl (0, 150), .inl (0, 6), .inl (0, 20), .inl (0, 100), .inl (0, 12), .inl (0, 2048), .inl (0, 2048), .inl (0, 2048)]
def Ly106 : aLay := [.inr (7, [(0, 2), (0, 9), (0, 15), (0, 23), (0, 26), (0, 29), (0, 30), (0, 31), (0, 35), (0, 39), (1, 0)]), .inr (6, [(1, 0), (1, 0), (0, 3), (0, 4), (0, 5), (0, 6), (0, 7), (0, 8), (1, 0)]), .inl (0, 200), .inl (0, 201), .inl (0, 201), .inl (0, 201), .inl (0, 10), .inl (0, 40), .inr (0, [(1, 0), (1, 0), (1, 0), (1, 0), (1, 0), (0, 10), (0, 11), (0, 12), (0, 13), (0, 14)]), .inl (0, 150), .inl (0, 20), .inl (0, 100), .inl (0, 6), .inl (1, 6), .inr (5, [(1, 0), (0, 9), (0, 16), (0, 17), (0, 18), (0, 19), (0, 20), (0, 21), (0, 22)]), .inl (0, 1921), .inl (0, 1921), .inl (0, 1921), .inl (0, 1921), .inl (0, 1921), .inl (0, 1021), .inl (0, 1921), .inr (4, [(1, 0), (2, 0), (0, 9), (0, 15), (1, 0), (0, 24), (0, 25)]), .inl (0, 157), .inl (0, 6), .inr (4, [(1, 0), (2, 0), (0, 9), (0, 15), (1, 0), (0, 27), (0, 28)]), .inl (0, 157), .inl (0, 6), .inr (3, [(2, 0), (2, 0), (1, 0), (1, 0), (2, 0), (0, 15)]), .inr (3, [(2, 0), (2, 0), (1, 0), (1, 0), (2, 0), (0, 15)]), .inr (1, [(1, 0), (2, 0), (2, 0), (0, 9), (0, 15), (0, 23), (0, 32), (0, 33), (0, 34)]), .inl (0, 30), .inl (0, 30), .inl (0, 30), .inr (1, [(1, 0), (2, 0), (2, 0), (0, 9), (0, 15), (0, 26), (0, 36), (0, 37), (0, 38)]), .inl (0, 30), .inl (0, 30), .inl (0, 30), .inr (2, [(1, 0), (0, 9), (0, 40), (0, 41), (0, 42)]), .inl (0, 12), .inl (0, 169), .inl (0, 169), .inr (8, [(0, 44), (1, 0), (0, 45), (1, 0), (0, 46), (1, 0), (0, 47), (1, 0), (0, 48), (0, 49), (1, 0), (1, 0), (1, 0), (0, 50), (1, 0), (1, 0), (1, 0), (1, 0), (0, 51), (0, 52), (0, 53), (0, 0), (0, 0), (1, 0), (0, 0), (1, 0), (2, 0), (2, 0), (1, 0), (1, 0), (0, 0), (0, 0), (1, 0), (0, 0)]), .inl (0, 200), .inl (0, 50), .inl (0, 150), .inl (0, 6), .inl (0, 20), .inl (0, 100), .inl (0, 12), .inl (0, 2048), .inl (0, 2048), .inl (0, 2048), .inl (0, 2048)]
def Ly107 : aLay := [.inr (7, [(0, 2), (0, 9), (0, 15), (0, 23), (0, 26), (0, 29), (0, 30), (0, 31), (0, 35), (0, 39), (1, 0)]), .inr (6, [(1, 0), (1, 0), (0, 3), (0, 4), (0, 5), (0, 6), (0, 7), (0, 8), (1, 0)]), .inl (0, 200), .inl (0, 201), .inl (0, 201), .inl (0, 201), .inl (0, 10), .inl (0, 40), .inr (0, [(1, 0), (1, 0), (1, 0), (1, 0), (1, 0), (0, 10), (0, 11), (0, 12), (0, 13), (0, 14)]), .inl (0, 150), .inl (0, 20), .inl (0, 100), .inl (0, 6), .inl (1, 6), .inr (5, [(1, 0), (0, 9), (0, 16), (0, 17), (0, 18), (0, 19), (0, 20), (0, 21), (0, 22)]), .inl (0, 1921), .inl (0, 1921), .inl (0, 1921), .inl (0, 1921), .inl (0, 1921), .inl (0, 1021), .inl (0, 1921), .inr (4, [(1, 0), (2, 0), (0, 9), (0, 15), (1, 0), (0, 24), (0, 25)]), .inl (0, 157), .inl (0, 6), .inr (4, [(1, 0), (2, 0), (0, 9), (0, 15), (1, 0), (0, 27), (0, 28)]), .inl (0, 157), .inl (0, 6), .inr (3, [(2, 0), (2, 0), (1, 0), (1, 0), (2, 0), (0, 15)]), .inr (3, [(2, 0), (2, 0), (1, 0), (1, 0), (2, 0), (0, 15)]), .inr (1, [(1, 0), (2, 0), (2, 0), (0, 9), (0, 15), (0, 23), (0, 32), (0, 33), (0, 34)]), .inl (0, 30), .inl (0, 30), .inl (0, 30), .inr (1, [(1, 0), (2, 0), (2, 0), (0, 9), (0, 15), (0, 26), (0, 36), (0, 37), (0, 38)]), .inl (0, 30), .inl (0, 30), .inl (0, 30), .inr (2, [(1, 0), (0, 9), (0, 40), (0, 41), (0, 42)]), .inl (0, 12), .inl (0, 169), .inl (0, 169), .inr (8, [(0, 44), (1, 0), (0, 45), (1, 0), (0, 46), (1, 0), (0, 47), (1, 0), (0, 48), (0, 49), (1, 0), (1, 0), (1, 0), (0, 50), (1, 0), (1, 0), (1, 0), (1, 0), (0, 51), (0, 52), (0, 53), (0, 54), (0, 0), (1, 0), (0, 0), (1, 0), (2, 0), (2, 0), (1, 0), (1, 0), (0, 0), (0, 0), (1, 0), (0, 0)]), .inl (0, 200), .inl (0, 50), .inl (0, 150), .inl (0, 6), .inl (0, 20), .inl (0, 100), .inl (0, 12), .inl (0, 2048), .inl (0, 2048), .inl (0, 2048), .inl (0, 2048)]
def Ly108 : aLay := [.inr (7, [(0, 2), (0, 9), (0, 15), (0, 23), (0, 26), (0, 29), (0, 30), (0, 31), (0, 35), (0, 39), (1, 0)]), .inr (6, [(1, 0), (1, 0), (0, 3), (0, 4), (0, 5), (0, 6), (0, 7), (0, 8), (1, 0)]), .inl (0, 200), .inl (0, 201), .inl (0, 201), .inl (0, 201), .inl (0, 10), .inl (0, 40), .inr (0, [(1, 0), (1, 0), (1, 0), (1, 0), (1, 0), (0, 10), (0, 11), (0, 12), (0, 13), (0, 14)]), .inl (0, 150), .inl (0, 20), .inl (0, 100), .inl (0, 6), .inl (1, 6), .inr (5, [(1, 0), (0, 9), (0, 16), (0, 17), (0, 18), (0, 19), (0, 20), (0, 21), (0, 22)]), .inl (0, 1921), .inl (0, 1921), .inl (0, 1921), .inl (0, 1921), .inl (0, 1921), .inl (0, 1021), .inl (0, 1921), .inr (4, [(1, 0), (2, 0), (0, 9), (0, 15), (1, 0), (0, 24), (0, 25)]), .inl (0, 157), .inl (0, 6), .inr (4, [(1, 0), (2, 0), (0, 9), (0, 15), (1, 0), (0, 27), (0, 28)]), .inl (0, 157), .inl (0, 6), .inr (3, [(2, 0), (2, 0), (1, 0), (1, 0), (2, 0), (0, 15)]), .inr (3, [(2, 0), (2, 0), (1, 0), (1, 0), (2, 0), (0, 15)]), .inr (1, [(1, 0), (2, 0), (2, 0), (0, 9), (0, 15), (0, 23), (0, 32), (0, 33), (0, 34)]), .inl (0, 30), .inl (0, 30), .inl (0, 30), .inr (1, [(1, 0), (2, 0), (2, 0), (0, 9), (0, 15), (0, 26), (0, 36), (0, 37), (0, 38)]), .inl (0, 30), .inl (0, 30), .inl (0, 30), .inr (2, [(1, 0), (0, 9), (0, 40), (0, 41), (0, 42)]), .inl (0, 12), .inl (0, 169), .inl (0, 169), .inr (8, [(0, 44), (1, 0), (0, 45), (1, 0), (0, 46), (1, 0), (0, 47), (1, 0), (0, 48), (0, 49), (1, 0), (1, 0), (1, 0), (0, 50), (1, 0), (1, 0), (1, 0), (1, 0), (0, 51), (0, 52), (0, 53), (0, 54), (0, 0), (1, 0), (0, 0), (1, 0), (2, 0), (2, 0), (1, 0), (1, 0), (0, 0), (0, 0), (1, 0), (0, 0)]), .inl (0, 200), .inl (0, 50), .inl (0, 150), .inl (0, 6), .inl (0, 20), .inl (0, 100), .inl (0, 12), .inl (0, 2048), .inl (0, 2048), .inl (0, 2048), .inl (0, 2048), .inl (0, 2048)]
def Ly109 : aLay := [.inr (7, [(0, 2), (0, 9), (0, 15), (0, 23), (0, 26), (0, 29), (0, 30), (0, 31), (0, 35), (0, 39), (1, 0)]), .inr (6, [(1, 0), (1, 0), (0, 3), (0, 4), (0, 5), (0, 6), (0, 7), (0, 8), (1, 0)]), .inl (0, 200), .inl (0, 201), .inl (0, 201), .inl (0, 201), .inl (0, 10), .inl (0, 40), .inr (0, [(1, 0), (1, 0), (1, 0), (1, 0), (1, 0), (0, 10), (0, 11), (0, 12), (0, 13), (0, 14)]), .inl (0, 150), .inl (0, 20), .inl (0, 100), .inl (0, 6), .inl (1, 6), .inr (5, [(1, 0), (0, 9), (0, 16), (0, 17), (0, 18), (0, 19), (0, 20), (0, 21), (0, 22)]), .inl (0, 1921), .inl (0, 1921), .inl (0, 1921), .inl (0, 1921), .inl (0, 1921), .inl (0, 1021), .inl (0, 1921), .inr (4, [(1, 0), (2, 0), (0, 9), (0, 15), (1, 0), (0, 24), (0, 25)]), .inl (0, 157), .inl (0, 6), .inr (4, [(1, 0), (2, 0), (0, 9), (0, 15), (1, 0), (0, 27), (0, 28)]), .inl (0, 157), .inl (0, 6), .inr (3, [(2, 0), (2, 0), (1, 0), (1, 0), (2, 0), (0, 15)]), .inr (3, [(2, 0), (2, 0), (1, 0), (1, 0), (2, 0), (0, 15)]), .inr (1, [(1, 0), (2, 0), (2, 0), (0, 9), (0, 15), (0, 23), (0, 32), (0, 33), (0, 34)]), .inl (0, 30), .inl (0, 30), .inl (0, 30), .inr (1, [(1, 0), (2, 0), (2, 0), (0, 9), (0, 15), (0, 26), (0, 36), (0, 37), (0, 38)]), .inl (0, 30), .inl (0, 30), .inl (0, 30), .inr (2, [(1, 0), (0, 9), (0, 40), (0, 41), (0, 42)]), .inl (0, 12), .inl (0, 169), .inl (0, 169), .inr (8, [(0, 44), (1, 0), (0, 45), (1, 0), (0, 46), (1, 0), (0, 47), (1, 0), (0, 48), (0, 49), (1, 0), (1, 0), (1, 0), (0, 50), (1, 0), (1, 0), (1, 0), (1, 0), (0, 51), (0, 52), (0, 53), (0, 54), (0, 55), (1, 0), (0, 0), (1, 0), (2, 0), (2, 0), (1, 0), (1, 0), (0, 0), (0, 0), (1, 0), (0, 0)]), .inl (0, 200), .inl (0, 50), .inl (0, 150), .inl (0, 6), .inl (0, 20), .inl (0, 100), .inl (0, 12), .inl (0, 2048), .inl (0, 2048), .inl (0, 2048), .inl (0, 2048), .inl (0, 2048)]
def Ly110 : aLay := [.inr (7, [(0, 2), (0, 9), (0, 15), (0, 23), (0, 26), (0, 29), (0, 30), (0, 31), (0, 35), (0, 39), (1, 0)]), .inr (6, [(1, 0), (1, 0), (0, 3), (0, 4), (0, 5), (0, 6), (0, 7), (0, 8), (1, 0)]), .inl (0, 200), .inl (0, 201), .inl (0, 201), .inl (0, 201), .inl (0, 10), .inl (0, 40), .inr (0, [(1, 0), (1, 0), (1, 0), (1, 0), (1, 0), (0, 10), (0, 11), (0, 12), (0, 13), (0, 14)]), .inl (0, 150), .inl (0, 20), .inl (0, 100), .inl (0, 6), .inl (1, 6), .inr (5, [(1, 0), (0, 9), (0, 16), (0, 17), (0, 18), (0, 19), (0, 20), (0, 21), (0, 22)]), .inl (0, 1921), .inl (0, 1921), .inl (0, 1921), .inl (0, 1921), .inl (0, 1921), .inl (0, 1021), .inl (0, 1921), .inr (4, [(1, 0), (2, 0), (0, 9), (0, 15), (1, 0), (0, 24), (0, 25)]), .inl (0, 157), .inl (0, 6), .inr (4, [(1, 0), (2, 0), (0, 9), (0, 15), (1, 0), (0, 27), (0, 28)]), .inl (0, 157), .inl (0, 6), .inr (3, [(2, 0), (2, 0), (1, 0), (1, 0), (2, 0), (0, 15)]), .inr (3, [(2, 0), (2, 0), (1, 0), (1, 0), (2, 0), (0, 15)]), .inr (1, [(1, 0), (2, 0), (2, 0), (0, 9), (0, 15), (0, 23), (0, 32), (0, 33), (0, 34)]), .inl (0, 30), .inl (0, 30), .inl (0, 30), .inr (1, [(1, 0), (2, 0), (2, 0), (0, 9), (0, 15), (0, 26), (0, 36), (0, 37), (0, 38)]), .inl (0, 30), .inl (0, 30), .inl (0, 30), .inr (2, [(1, 0), (0, 9), (0, 40), (0, 41), (0, 42)]), .inl (0, 12), .inl (0, 169), .inl (0, 169), .inr (8, [(0, 44), (1, 0), (0, 45), (1, 0), (0, 46), (1, 0), (0, 47), (1, 0), (0, 48), (0, 49), (1, 0), (1, 0), (1, 0), (0, 50), (1, 0), (1, 0), (1, 0), (1, 0), (0, 51), (0, 52), (0, 53), (0, 54), (0, 55), (1, 0), (0, 0), (1, 0), (2, 0), (2, 0), (1, 0), (1, 0), (0, 0), (0, 0), (1, 0), (0, 0)]), .inl (0, 200), .inl (0, 50), .inl (0, 150), .inl (0, 6), .inl (0, 20), .inl (0, 100), .inl (0, 12), .inl (0, 2048), .inl (0, 2048), .inl (0, 2048), .inl (0, 2048), .inl (0, 2048), .inl (0, 2048)]
def Ly111 : aLay := [.inr (7, [(0, 2), (0, 9), (0, 15), (0, 23), (0, 26), (0, 29), (0, 30), (0, 31), (0, 35), (0, 39), (1, 0)]), .inr (6, [(1, 0), (1, 0), (0, 3), (0, 4), (0, 5), (0, 6), (0, 7), (0, 8), (1, 0)]), .inl (0, 200), .inl (0, 201), .inl (0, 201), .inl (0, 201), .inl (0, 10), .inl (0, 40), .inr (0, [(1, 0), (1, 0), (1, 0), (1, 0), (1, 0), (0, 10), (0, 11), (0, 12), (0, 13), (0, 14)]), .inl (0, 150), .inl (0, 20), .inl (0, 100), .inl (0, 6), .inl (1, 6), .inr (5, [(1, 0), (0, 9), (0, 16), (0, 17), (0, 18), (0, 19), (0, 20), (0, 21), (0, 22)]), .inl (0, 1921), .inl (0, 1921), .inl (0, 1921), .inl (0, 1921), .inl (0, 1921), .inl (0, 1021), .inl (0, 1921), .inr (4, [(1, 0), (2, 0), (0, 9), (0, 15), (1, 0), (0, 24), (0, 25)]), .inl (0, 157), .inl (0, 6), .inr (4, [(1, 0), (2, 0), (0, 9), (0, 15), (1, 0), (0, 27), (0, 28)]), .inl (0, 157), .inl (0, 6), .inr (3, [(2, 0), (2, 0), (1, 0), (1, 0), (2, 0), (0, 15)]), .inr (3, [(2, 0), (2, 0), (1, 0), (1, 0), (2, 0), (0, 15)]), .inr (1, [(1, 0), (2, 0), (2, 0), (0, 9), (0, 15), (0, 23), (0, 32), (0, 33), (0, 34)]), .inl (0, 30), .inl (0, 30), .inl (0, 30), .inr (1, [(1, 0), (2, 0), (2, 0), (0, 9), (0, 15), (0, 26), (0, 36), (0, 37), (0, 38)]), .inl (0, 30), .inl (0, 30), .inl (0, 30), .inr (2, [(1, 0), (0, 9), (0, 40), (0, 41), (0, 42)]), .inl (0, 12), .inl (0, 169), .inl (0, 169), .inr (8, [(0, 44), (1, 0), (0, 45), (1, 0), (0, 46), (1, 0), (0, 47), (1, 0), (0, 48), (0, 49), (1, 0), (1, 0), (1, 0), (0, 50), (1, 0), (1, 0), (1, 0), (1, 0), (0, 51), (0, 52), (0, 53), (0, 54), (0, 55), (1, 0), (0, 56), (1, 0), (2, 0), (2, 0), (1, 0), (1, 0), (0, 0), (0, 0), (1, 0), (0, 0)]), .inl (0, 200), .inl (0, 50), .inl (0, 150), .inl (0, 6), .inl (0, 20), .inl (0, 100), .inl (0, 12), .inl (0, 2048), .inl (0, 2048), .inl (0, 2048), .inl (0, 2048), .inl (0, 2048), .inl (0, 2048)]
def Ly112 : aLay := [.inr (7, [(0, 2), (0, 9), (0, 15), (0, 23), (0, 26), (0, 29), (0, 30), (0, 31), (0, 35), (0, 39), (1, 0)]), .inr (6, [(1, 0), (1, 0), (0, 3), (0, 4), (0, 5), (0, 6), (0, 7), (0, 8), (1, 0)]), .inl (0, 200), .inl (0, 201), .inl (0, 201), .inl (0, 201), .inl (0, 10), .inl (0, 40), .inr (0, [(1, 0), (1, 0), (1, 0), (1, 0), (1, 0), (0, 10), (0, 11), (0, 12), (0, 13), (0, 14)]), .inl (0, 150), .inl (0, 20), .inl (0, 100), .inl (0, 6), .inl (1, 6), .inr (5, [(1, 0), (0, 9), (0, 16), (0, 17), (0, 18), (0, 19), (0, 20), (0, 21), (0, 22)]), .inl (0, 1921), .inl (0, 1921), .inl (0, 1921), .inl (0, 1921), .inl (0, 1921), .inl (0, 1021), .inl (0, 1921), .inr (4, [(1, 0), (2, 0), (0, 9), (0, 15), (1, 0), (0, 24), (0, 25)]), .inl (0, 157), .inl (0, 6), .inr (4, [(1, 0), (2, 0), (0, 9), (0, 15), (1, 0), (0, 27), (0, 28)]), .inl (0, 157), .inl (0, 6), .inr (3, [(2, 0), (2, 0), (1, 0), (1, 0), (2, 0), (0, 15)]), .inr (3, [(2, 0), (2, 0), (1, 0), (1, 0), (2, 0), (0, 15)]), .inr (1, [(1, 0), (2, 0), (2, 0), (0, 9), (0, 15), (0, 23), (0, 32), (0, 33), (0, 34)]), .inl (0, 30), .inl (0, 30), .inl (0, 30), .inr (1, [(1, 0), (2, 0), (2, 0), (0, 9), (0, 15), (0, 26), (0, 36), (0, 37), (0, 38)]), .inl (0, 30), .inl (0, 30), .inl (0, 30), .inr (2, [(1, 0), (0, 9), (0, 40), (0, 41), (0, 42)]), .inl (0, 12), .inl (0, 169), .inl (0, 169), .inr (8, [(0, 44), (1, 0), (0, 45), (1, 0), (0, 46), (1, 0), (0, 47), (1, 0), (0, 48), (0, 49), (1, 0), (1, 0), (1, 0), (0, 50), (1, 0), (1, 0), (1, 0), (1, 0), (0, 51), (0, 52), (0, 53), (0, 54), (0, 55), (1, 0), (0, 56), (1, 0), (2, 0), (2, 0), (1, 0), (1, 0), (0, 0), (0, 0), (1, 0), (0, 0)]), .inl (0, 200), .inl (0, 50), .inl (0, 150), .inl (0, 6), .inl (0, 20), .inl (0, 100), .inl (0, 12), .inl (0, 2048), .inl (0, 2048), .inl (0, 2048), .inl (0, 2048), .inl (0, 2048), .inl (0, 2048), .inl (0, 30)]
def Ly113 : aLay := [.inr (7, [(0, 2), (0, 9), (0, 15), (0, 23), (0, 26), (0, 29), (0, 30), (0, 31), (0, 35), (0, 39), (1, 0)]), .inr (6, [(1, 0), (1, 0), (0, 3), (0, 4), (0, 5), (0, 6), (0, 7), (0, 8), (1, 0)]), .inl (0, 200), .inl (0, 201), .inl (0, 201), .inl (0, 201), .inl (0, 10), .inl (0, 40), .inr (0, [(1, 0), (1, 0), (1, 0), (1, 0), (1, 0), (0, 10), (0, 11), (0, 12), (0, 13), (0, 14)]), .inl (0, 150), .inl (0, 20), .inl (0, 100), .inl (0, 6), .inl (1, 6), .inr (5, [(1, 0), (0, 9), (0, 16), (0, 17), (0, 18), (0, 19), (0, 20), (0, 21), (0, 22)]), .inl (0, 1921), .inl (0, 1921), .inl (0, 1921), .inl (0, 1921), .inl (0, 1921), .inl (0, 1021), .inl (0, 1921), .inr (4, [(1, 0), (2, 0), (0, 9), (0, 15), (1, 0), (0, 24), (0, 25)]), .inl (0, 157), .inl (0, 6), .inr (4, [(1, 0), (2, 0), (0, 9), (0, 15), (1, 0), (0, 27), (0, 28)]), .inl (0, 157), .inl (0, 6), .inr (3, [(2, 0), (2, 0), (1, 0), (1, 0), (2, 0), (0, 15)]), .inr (3, [(2, 0), (2, 0), (1, 0), (1, 0), (2, 0), (0, 15)]), .inr (1, [(1, 0), (2, 0), (2, 0), (0, 9), (0, 15), (0, 23), (0, 32), (0, 33), (0, 34)]), .inl (0, 30), .inl (0, 30), .inl (0, 30), .inr (1, [(1, 0), (2, 0), (2, 0), (0, 9), (0, 15), (0, 26), (0, 36), (0, 37), (0, 38)]), .inl (0, 30), .inl (0, 30), .inl (0, 30), .inr (2, [(1, 0), (0, 9), (0, 40), (0, 41), (0, 42)]), .inl (0, 12), .inl (0, 169), .inl (0, 169), .inr (8, [(0, 44), (1, 0), (0, 45), (1, 0), (0, 46), (1, 0), (0, 47), (1, 0), (0, 48), (0, 49), (1, 0), (1, 0), (1, 0), (0, 50), (1, 0), (1, 0), (1, 0), (1, 0), (0, 51), (0, 52), (0, 53), (0, 54), (0, 55), (1, 0), (0, 56), (1, 0), (2, 0), (2, 0), (1, 0), (1, 0), (0, 57), (0, 0), (1, 0), (0, 0)]), .inl (0, 200), .inl (0, 50), .inl (0, 150), .inl (0, 6), .inl (0, 20), .inl (0, 100), .inl (0, 12), .inl (0, 2048), .inl (0, 2048), .inl (0, 2048), .inl (0, 2048), .inl (0, 2048), .inl (0, 2048), .inl (0, 30)]
def Ly114 : aLay := [.inr (7, [(0, 2), (0, 9), (0, 15), (0, 23), (0, 26), (0, 29), (0, 30), (0, 31), (0, 35), (0, 39), (1, 0)]), .inr (6, [(1, 0), (1, 0), (0, 3), (0, 4), (0, 5), (0, 6), (0, 7), (0, 8), (1, 0)]), .inl (0, 200), .inl (0, 201), .inl (0, 201), .inl (0, 201), .inl (0, 10), .inl (0, 40), .inr (0, [(1, 0), (1, 0), (1, 0), (1, 0), (1, 0), (0, 10), (0, 11), (0, 12), (0, 13), (0, 14)]), .inl (0, 150), .inl (0, 20), .inl (0, 100), .inl (0, 6), .inl (1, 6), .inr (5, [(1, 0), (0, 9), (0, 16), (0, 17), (0, 18), (0, 19), (0, 20), (0, 21), (0, 22)]), .inl (0, 1921), .inl (0, 1921), .inl (0, 1921), .inl (0, 1921), .inl (0, 1921), .inl (0, 1021), .inl (0, 1921), .inr (4, [(1, 0), (2, 0), (0, 9), (0, 15), (1, 0), (0, 24), (0, 25)]), .inl (0, 157), .inl (0, 6), .inr (4, [(1, 0), (2, 0), (0, 9), (0, 15), (1, 0), (0, 27), (0, 28)]), .inl (0, 157), .inl (0, 6), .inr (3, [(2, 0), (2, 0), (1, 0), (1, 0), (2, 0), (0, 15)]), .inr (3, [(2, 0), (2, 0), (1, 0), (1, 0), (2, 0), (0, 15)]), .inr (1, [(1, 0), (2, 0), (2, 0), (0, 9), (0, 15), (0, 23), (0, 32), (0, 33), (0, 34)]), .inl (0, 30), .inl (0, 30), .inl (0, 30), .inr (1, [(1, 0), (2, 0), (2, 0), (0, 9), (0, 15), (0, 26), (0, 36), (0, 37), (0, 38)]), .inl (0, 30), .inl (0, 30), .inl (0, 30), .inr (2, [(1, 0), (0, 9), (0, 40), (0, 41), (0, 42)]), .inl (0, 12), .inl (0, 169), .inl (0, 169), .inr (8, [(0, 44), (1, 0), (0, 45), (1, 0), (0, 46), (1, 0), (0, 47), (1, 0), (0, 48), (0, 49), (1, 0), (1, 0), (1, 0), (0, 50), (1, 0), (1, 0), (1, 0), (1, 0), (0, 51), (0, 52), (0, 53), (0, 54), (0, 55), (1, 0), (0, 56), (1, 0), (2, 0), (2, 0), (1, 0), (1, 0), (0, 57), (0, 0), (1, 0), (0, 0)]), .inl (0, 200), .inl (0, 50), .inl (0, 150), .inl (0, 6), .inl (0, 20), .inl (0, 100), .inl (0, 12), .inl (0, 2048), .inl (0, 2048), .inl (0, 2048), .inl (0, 2048), .inl (0, 2048), .inl (0, 2048), .inl (0, 30), .inl (0, 30)]
def Ly115 : aLay := [.inr (7, [(0, 2), (0, 9), (0, 15), (0, 23), (0, 26), (0, 29), (0, 30), (0, 31), (0, 35), (0, 39), (1, 0)]), .inr (6, [(1, 0), (1, 0), (0, 3), (0, 4), (0, 5), (0, 6), (0, 7), (0, 8), (1, 0)]), .inl (0, 200), .inl (0, 201), .inl (0, 201), .inl (0, 201), .inl (0, 10), .inl (0, 40), .inr (0, [(1, 0), (1, 0), (1, 0), (1, 0), (1, 0), (0, 10), (0, 11), (0, 12), (0, 13), (0, 14)]), .inl (0, 150), .inl (0, 20), .inl (0, 100), .inl (0, 6), .inl (1, 6), .inr (5, [(1, 0), (0, 9), (0, 16), (0, 17), (0, 18), (0, 19), (0, 20), (0, 21), (0, 22)]), .inl (0, 1921), .inl (0, 1921), .inl (0, 1921), .inl (0, 1921), .inl (0, 1921), .inl (0, 1021), .inl (0, 1921), .inr (4, [(1, 0), (2, 0), (0, 9), (0, 15), (1, 0), (0, 24), (0, 25)]), .inl (0, 157), .inl (0, 6), .inr (4, [(1, 0), (2, 0), (0, 9), (0, 15), (1, 0), (0, 27), (0, 28)]), .inl (0, 157), .inl (0, 6), .inr (3, [(2, 0), (2, 0), (1, 0), (1, 0), (2, 0), (0, 15)]), .inr (3, [(2, 0), (2, 0), (1, 0), (1, 0), (2, 0), (0, 15)]), .inr (1, [(1, 0), (2, 0), (2, 0), (0, 9), (0, 15), (0, 23), (0, 32), (0, 33), (0, 34)]), .inl (0, 30), .inl (0, 30), .inl (0, 30), .inr (1, [(1, 0), (2, 0), (2, 0), (0, 9), (0, 15), (0, 26), (0, 36), (0, 37), (0, 38)]), .inl (0, 30), .inl (0, 30), .inl (0, 30), .inr (2, [(1, 0), (0, 9), (0, 40), (0, 41), (0, 42)]), .inl (0, 12), .inl (0, 169), .inl (0, 169), .inr (8, [(0, 44), (1, 0), (0, 45), (1, 0), (0, 46), (1, 0), (0, 47), (1, 0), (0, 48), (0, 49), (1, 0), (1, 0), (1, 0), (0, 50), (1, 0), (1, 0), (1, 0), (1, 0), (0, 51), (0, 52), (0, 53), (0, 54), (0, 55), (1, 0), (0, 56), (1, 0), (2, 0), (2, 0), (1, 0), (1, 0), (0, 57), (0, 58), (1, 0), (0, 0)]), .inl (0, 200), .inl (0, 50), .inl (0, 150), .inl (0, 6), .inl (0, 20), .inl (0, 100), .inl (0, 12), .inl (0, 2048), .inl (0, 2048), .inl (0, 2048), .inl (0, 2048), .inl (0, 2048), .inl (0, 2048), .inl (0, 30), .inl (0, 30)]
def Ly116 : aLay := [.inr (7, [(0, 2), (0, 9), (0, 15), (0, 23), (0, 26), (0, 29), (0, 30), (0, 31), (0, 35), (0, 39), (1, 0)]), .inr (6, [(1, 0), (1, 0), (0, 3), (0, 4), (0, 5), (0, 6), (0, 7), (0, 8), (1, 0)]), .inl (0, 200), .inl (0, 201), .inl (0, 201), .inl (0, 201), .inl (0, 10), .inl (0, 40), .inr (0, [(1, 0), (1, 0), (1, 0), (1, 0), (1, 0), (0, 10), (0, 11), (0, 12), (0, 13), (0, 14)]), .inl (0, 150), .inl (0, 20), .inl (0, 100), .inl (0, 6), .inl (1, 6), .inr (5, [(1, 0), (0, 9), (0, 16), (0, 17), (0, 18), (0, 19), (0, 20), (0, 21), (0, 22)]), .inl (0, 1921), .inl (0, 1921), .inl (0, 1921), .inl (0, 1921), .inl (0, 1921), .inl (0, 1021), .inl (0, 1921), .inr (4, [(1, 0), (2, 0), (0, 9), (0, 15), (1, 0), (0, 24), (0, 25)]), .inl (0, 157), .inl (0, 6), .inr (4, [(1, 0), (2, 0), (0, 9), (0, 15), (1, 0), (0, 27), (0, 28)]), .inl (0, 157), .inl (0, 6), .inr (3, [(2, 0), (2, 0), (1, 0), (1, 0), (2, 0), (0, 15)]), .inr (3, [(2, 0), (2, 0), (1, 0), (1, 0), (2, 0), (0, 15)]), .inr (1, [(1, 0), (2, 0), (2, 0), (0, 9), (0, 15), (0, 23), (0, 32), (0, 33), (0, 34)]), .inl (0, 30), .inl (0, 30), .inl (0, 30), .inr (1, [(1, 0), (2, 0), (2, 0), (0, 9), (0, 15), (0, 26), (0, 36), (0, 37), (0, 38)]), .inl (0, 30), .inl (0, 30), .inl (0, 30), .inr (2, [(1, 0), (0, 9), (0, 40), (0, 41), (0, 42)]), .inl (0, 12), .inl (0, 169), .inl (0, 169), .inr (8, [(0, 44), (1, 0), (0, 45), (1, 0), (0, 46), (1, 0), (0, 47), (1, 0), (0, 48), (0, 49), (1, 0), (1, 0), (1, 0), (0, 50), (1, 0), (1, 0), (1, 0), (1, 0), (0, 51), (0, 52), (0, 53), (0, 54), (0, 55), (1, 0), (0, 56), (1, 0), (2, 0), (2, 0), (1, 0), (1, 0), (0, 57), (0, 58), (1, 0), (0, 0)]), .inl (0, 200), .inl (0, 50), .inl (0, 150), .inl (0, 6), .inl (0, 20), .inl (0, 100), .inl (0, 12), .inl (0, 2048), .inl (0, 2048), .inl (0, 2048), .inl (0, 2048), .inl (0, 2048), .inl (0, 2048), .inl (0, 30), .inl (0, 30), .inl (0, 169)]
def Ly117 : aLay := [.inr (7, [(0, 2), (0, 9), (0, 15), (0, 23), (0, 26), (0, 29), (0, 30), (0, 31), (0, 35), (0, 39), (1, 0)]), .inr (6, [(1, 0), (1, 0), (0, 3), (0, 4), (0, 5), (0, 6), (0, 7), (0, 8), (1, 0)]), .inl (0, 200), .inl (0, 201), .inl (0, 201), .inl (0, 201), .inl (0, 10), .inl (0, 40), .inr (0, [(1, 0), (1, 0), (1, 0), (1, 0), (1, 0), (0, 10), (0, 11), (0, 12), (0, 13), (0, 14)]), .inl (0, 150), .inl (0, 20), .inl (0, 100), .inl (0, 6), .inl (1, 6), .inr (5, [(1, 0), (0, 9), (0, 16), (0, 17), (0, 18), (0, 19), (0, 20), (0, 21), (0, 22)]), .inl (0, 1921), .inl (0, 1921), .inl (0, 1921), .inl (0, 1921), .inl (0, 1921), .inl (0, 1021), .inl (0, 1921), .inr (4, [(1, 0), (2, 0), (0, 9), (0, 15), (1, 0), (0, 24), (0, 25)]), .inl (0, 157), .inl (0, 6), .inr (4, [(1, 0), (2, 0), (0, 9), (0, 15), (1, 0), (0, 27), (0, 28)]), .inl (0, 157), .inl (0, 6), .inr (3, [(2, 0), (2, 0), (1, 0), (1, 0), (2, 0), (0, 15)]), .inr (3, [(2, 0), (2, 0), (1, 0), (1, 0), (2, 0), (0, 15)]), .inr (1, [(1, 0), (2, 0), (2, 0), (0, 9), (0, 15), (0, 23), (0, 32), (0, 33), (0, 34)]), .inl (0, 30), .inl (0, 30), .inl (0, 30), .inr (1, [(1, 0), (2, 0), (2, 0), (0, 9), (0, 15), (0, 26), (0, 36), (0, 37), (0, 38)]), .inl (0, 30), .inl (0, 30), .inl (0, 30), .inr (2, [(1, 0), (0, 9), (0, 40), (0, 41), (0, 42)]), .inl (0, 12), .inl (0, 169), .inl (0, 169), .inr (8, [(0, 44), (1, 0), (0, 45), (1, 0), (0, 46), (1, 0), (0, 47), (1, 0), (0, 48), (0, 49), (1, 0), (1, 0), (1, 0), (0, 50), (1, 0), (1, 0), (1, 0), (1, 0), (0, 51), (0, 52), (0, 53), (0, 54), (0, 55), (1, 0), (0, 56), (1, 0), (2, 0), (2, 0), (1, 0), (1, 0), (0, 57), (0, 58), (1, 0), (0, 59)]), .inl (0, 200), .inl (0, 50), .inl (0, 150), .inl (0, 6), .inl (0, 20), .inl (0, 100), .inl (0, 12), .inl (0, 2048), .inl (0, 2048), .inl (0, 2048), .inl (0, 2048), .inl (0, 2048), .inl (0, 2048), .inl (0, 30), .inl (0, 30), .inl (0, 169)]
end
section
/-! by wip/whole/gen -/
def M_X0_tens : aM := (RX0, cX0_tens, 1, false, (some .int), { frames := 1, cells := 0, slots := 0, locals := 21 }, [(0, .getstatic 9, 3), (3, .iload_n 0, 1), (4, .invokestatic 15, 3), (7, .ireturn, 1)], [], [], [(9, 636, 0)])
theorem ok_X0_tens : aOK M_X0_tens := by unfold aOK; decide +kernel
def M_X0_many : aM := (RX0, cX0_many, 2, false, (some .int), { frames := 1, cells := 0, slots := 0, locals := 21 }, [(0, .iconst 1, 1), (1, .istore_n 1, 1), (2, .iload_n 1, 1), (3, .bipush 6, 2), (5, .if_icmp .ge 20, 3), (8, .iload_n 0, 1), (9, .getstatic 9, 3), (12, .iload_n 1, 1), (13, .invokestatic 15, 3), (16, .if_icmp .lt 9, 3), (19, .iinc 1 1, 3), (22, .goto (-20), 3), (25, .iload_n 1, 1), (26, .ireturn, 1)], [], [], [(9, 636, 0)])
theorem ok_X0_many : aOK M_X0_many := by unfold aOK; decide +kernel
def M_X0_at : aM := (RX0, cX0_at, 3, false, (some .int), { frames := 1, cells := 0, slots := 0, locals := 21 }, [(0, .getstatic 9, 3), (3, .iload_n 1, 1), (4, .invokestatic 15, 3), (7, .istore_n 2, 1), (8, .iload_n 2, 1), (9, .ifCond .le 12, 3), (12, .iload_n 0, 1), (13, .iload_n 2, 1), (14, .idiv, 1), (15, .bipush 10, 2), (17, .irem, 1), (18, .goto 4, 3), (21, .iconst 0, 1), (22, .ireturn, 1)], [], [], [(9, 636, 0)])
theorem ok_X0_at : aOK M_X0_at := by unfold aOK; decide +kernel
def M_X0_turned : aM := (RX0, cX0_turned, 7, false, (some .int), { frames := 1, cells := 0, slots := 0, locals := 21 }, [(0, .getstatic 9, 3), (3, .iload_n 1, 1), (4, .invokestatic 15, 3), (7, .istore_n 2, 1), (8, .iload_n 2, 1), (9, .ifCond .gt 5, 3), (12, .iconst 0, 1), (13, .ireturn, 1), (14, .iload_n 0, 1), (15, .iload_n 2, 1), (16, .idiv, 1), (17, .istore_n 3, 1), (18, .iload_n 3, 1), (19, .bipush 10, 2), (21, .irem, 1), (22, .istore 4, 2), (24, .iload_n 3, 1), (25, .bipush 10, 2), (27, .idiv, 1), (28, .bipush 10, 2), (30, .irem, 1), (31, .istore 5, 2), (33, .iload_n 3, 1), (34, .bipush 100, 2), (36, .if_icmp .ge 7, 3), (39, .iconst 1, 1), (40, .goto 4, 3), (43, .iconst 0, 1), (44, .istore 6, 2), (46, .iload 4, 2), (48, .iload 5, 2), (50, .if_icmp .eq 13, 3), (53, .iload 6, 2), (55, .ifCond .eq 10, 3), (58, .iload 4, 2), (60, .ifCond .ne 5, 3), (63, .iconst 0, 1), (64, .ireturn, 1), (65, .iload_n 0, 1), (66, .iload 4, 2), (68, .iload 5, 2), (70, .isub, 1), (71, .bipush 9, 2), (73, .imul, 1), (74, .iload_n 2, 1), (75, .imul, 1), (76, .iadd, 1), (77, .ireturn, 1)], [], [], [(9, 636, 0)])
theorem ok_X0_turned : aOK M_X0_turned := by unfold aOK; decide +kernel
def M_X0_shorter : aM := (RX0, cX0_shorter, 1, false, (some .int), { frames := 0, cells := 0, slots := 0, locals := 0 }, [(0, .iload_n 0, 1), (1, .bipush 10, 2), (3, .irem, 1), (4, .ifCond .ne 10, 3), (7, .iload_n 0, 1), (8, .bipush 10, 2), (10, .idiv, 1), (11, .goto 4, 3), (14, .iconst 0, 1), (15, .ireturn, 1)], [], [], [])
theorem ok_X0_shorter : aOK M_X0_shorter := by unfold aOK; decide +kernel
def M_X0_longer : aM := (RX0, cX0_longer, 1, false, (some .int), { frames := 0, cells := 0, slots := 0, locals := 0 }, [(0, .iload_n 0, 1), (1, .ldc 21, 2), (3, .if_icmp .gt 10, 3), (6, .iload_n 0, 1), (7, .bipush 10, 2), (9, .imul, 1), (10, .goto 4, 3), (13, .iconst 0, 1), (14, .ireturn, 1)], [], [(21, 700, .int (99999))], [])
theorem ok_X0_longer : aOK M_X0_longer := by unfold aOK; decide +kernel
def M_X0_kindBetween : aM := (RX0, cX0_kindBetween, 2, false, (some .int), { frames := 3, cells := 0, slots := 0, locals := 69 }, [(0, .iload_n 0, 1), (1, .iload_n 1, 1), (2, .invokestatic 22, 3), (5, .ifCond .eq 5, 3), (8, .iconst 0, 1), (9, .ireturn, 1), (10, .iload_n 0, 1), (11, .iload_n 1, 1), (12, .invokestatic 26, 3), (15, .ifCond .eq 5, 3), (18, .iconst 1, 1), (19, .ireturn, 1), (20, .iload_n 0, 1), (21, .invokestatic 29, 3), (24, .iload_n 1, 1), (25, .if_icmp .eq 11, 3), (28, .iload_n 0, 1), (29, .invokestatic 33, 3), (32, .iload_n 1, 1), (33, .if_icmp .ne 7, 3), (36, .iconst 2, 1), (37, .goto 4, 3), (40, .iconst (-1), 1), (41, .ireturn, 1)], [], [], [])
theorem ok_X0_kindBetween : aOK M_X0_kindBetween := by unfold aOK; decide +kernel
def M_X0_isTens : aM := (RX0, cX0_isTens, 2, false, (some .boolean), { frames := 1, cells := 0, slots := 0, locals := 21 }, [(0, .iconst 1, 1), (1, .istore_n 1, 1), (2, .iload_n 1, 1), (3, .iconst 5, 1), (4, .if_icmp .gt 22, 3), (7, .iload_n 0, 1), (8, .getstatic 9, 3), (11, .iload_n 1, 1), (12, .invokestatic 15, 3), (15, .if_icmp .ne 5, 3), (18, .iconst 1, 1), (19, .ireturn, 1), (20, .iinc 1 1, 3), (23, .goto (-21), 3), (26, .iconst 0, 1), (27, .ireturn, 1)], [], [], [(9, 636, 0)])
theorem ok_X0_isTens : aOK M_X0_isTens := by unfold aOK; decide +kernel
def M_X0_isTurn : aM := (RX0, cX0_isTurn, 3, false, (some .boolean), { frames := 2, cells := 0, slots := 0, locals := 47 }, [(0, .iconst 0, 1), (1, .istore_n 2, 1), (2, .iload_n 2, 1), (3, .iload_n 0, 1), (4, .invokestatic 36, 3), (7, .iconst 1, 1), (8, .isub, 1), (9, .if_icmp .ge 20, 3), (12, .iload_n 0, 1), (13, .iload_n 2, 1), (14, .invokestatic 39, 3), (17, .iload_n 1, 1), (18, .if_icmp .ne 5, 3), (21, .iconst 1, 1), (22, .ireturn, 1), (23, .iinc 2 1, 3), (26, .goto (-24), 3), (29, .iconst 0, 1), (30, .ireturn, 1)], [], [], [])
theorem ok_X0_isTurn : aOK M_X0_isTurn := by unfold aOK; decide +kernel
def M_X0_isOneFigure : aM := (RX0, cX0_isOneFigure, 4, false, (some .boolean), { frames := 2, cells := 0, slots := 0, locals := 43 }, [(0, .iload_n 0, 1), (1, .invokestatic 36, 3), (4, .iload_n 1, 1), (5, .invokestatic 36, 3), (8, .if_icmp .eq 5, 3), (11, .iconst 0, 1), (12, .ireturn, 1), (13, .iconst 0, 1), (14, .istore_n 2, 1), (15, .iconst 0, 1), (16, .istore_n 3, 1), (17, .iload_n 3, 1), (18, .iload_n 0, 1), (19, .invokestatic 36, 3), (22, .if_icmp .ge 25, 3), (25, .iload_n 0, 1), (26, .iload_n 3, 1), (27, .invokestatic 43, 3), (30, .iload_n 1, 1), (31, .iload_n 3, 1), (32, .invokestatic 43, 3), (35, .if_icmp .eq 6, 3), (38, .iinc 2 1, 3), (41, .iinc 3 1, 3), (44, .goto (-27), 3), (47, .iload_n 2, 1), (48, .iconst 1, 1), (49, .if_icmp .ne 7, 3), (52, .iconst 1, 1), (53, .goto 4, 3), (56, .iconst 0, 1), (57, .ireturn, 1)], [], [], [])
theorem ok_X0_isOneFigure : aOK M_X0_isOneFigure := by unfold aOK; decide +kernel
def M_X1_lowest : aM := (RX1, cX1_lowest, 9, false, (some .long), { frames := 1, cells := 0, slots := 0, locals := 26 }, [(0, .lload_n 0, 1), (1, .lload_n 2, 1), (2, .invokestatic 7, 3), (5, .lstore 5, 2), (7, .iload 4, 2), (9, .ifCond .ne 7, 3), (12, .lload_n 0, 1), (13, .goto 4, 3), (16, .lload_n 2, 1), (17, .lstore 7, 2), (19, .lload 5, 2), (21, .lconst 0, 1), (22, .lcmp, 1), (23, .ifCond .le 11, 3), (26, .lload 7, 2), (28, .lload 5, 2), (30, .ldiv, 1), (31, .goto 5, 3), (34, .lload 7, 2), (36, .lreturn, 1)], [], [], [])
theorem ok_X1_lowest : aOK M_X1_lowest := by unfold aOK; decide +kernel
def M_X1_greatestDivisor : aM := (RX1, cX1_greatestDivisor, 7, false, (some .long), { frames := 0, cells := 0, slots := 0, locals := 0 }, [(0, .iconst 0, 1), (1, .istore 4, 2), (3, .iload 4, 2), (5, .bipush 100, 2), (7, .if_icmp .ge 25, 3), (10, .lload_n 2, 1), (11, .lconst 0, 1), (12, .lcmp, 1), (13, .ifCond .eq 19, 3), (16, .lload_n 0, 1), (17, .lload_n 2, 1), (18, .lrem, 1), (19, .lstore 5, 2), (21, .lload_n 2, 1), (22, .lstore_n 0, 1), (23, .lload 5, 2), (25, .lstore_n 2, 1), (26, .iinc 4 1, 3), (29, .goto (-26), 3), (32, .lload_n 0, 1), (33, .lreturn, 1)], [], [], [])
theorem ok_X1_greatestDivisor : aOK M_X1_greatestDivisor := by unfold aOK; decide +kernel
def M_X2_init : aM := (RX2, cX2_init, 1, true, none, { frames := 1, cells := 5, slots := 282, locals := 23 }, [(0, .aload_n 0, 1), (1, .invokespecial 3, 3), (4, .aload_n 0, 1), (5, .iconst 1, 1), (6, .putfield 9, 3), (9, .aload_n 0, 1), (10, .iconst 1, 1), (11, .putfield 15, 3), (14, .aload_n 0, 1), (15, .iconst 1, 1), (16, .putfield 18, 3), (19, .aload_n 0, 1), (20, .sipush 150, 3), (23, .newarray .int, 2), (25, .putfield 21, 3), (28, .aload_n 0, 1), (29, .bipush 20, 2), (31, .newarray .int, 2), (33, .putfield 25, 3), (36, .aload_n 0, 1), (37, .bipush 100, 2), (39, .newarray .int, 2), (41, .putfield 28, 3), (44, .aload_n 0, 1), (45, .bipush 6, 2), (47, .newarray .int, 2), (49, .putfield 31, 3), (52, .aload_n 0, 1), (53, .bipush 6, 2), (55, .newarray .boolean, 2), (57, .putfield 34, 3), (60, .aload_n 0, 1), (61, .getfield 25, 3), (64, .iconst 1, 1), (65, .invokestatic 38, 3), (68, .return_, 1)], [(9, 141, 0, 1, .int), (15, 144, 0, 2, .int), (18, 147, 0, 3, .int), (21, 151, 0, 5, .array .int), (25, 152, 0, 6, .array .int), (28, 153, 0, 7, .array .int), (31, 154, 0, 8, .array .int), (34, 155, 0, 9, .array .boolean)], [], [])
theorem ok_X2_init : aOK M_X2_init := by unfold aOK; decide +kernel
def M_X2_holds : aM := (RX2, cX2_holds, 2, false, (some .boolean), { frames := 0, cells := 0, slots := 0, locals := 0 }, [(0, .iload_n 1, 1), (1, .ifCond .lt 15, 3), (4, .iload_n 1, 1), (5, .aload_n 0, 1), (6, .getfield 44, 3), (9, .if_icmp .ge 7, 3), (12, .iconst 1, 1), (13, .goto 4, 3), (16, .iconst 0, 1), (17, .ireturn, 1)], [(44, 137, 0, 0, .int)], [], [])
theorem ok_X2_holds : aOK M_X2_holds := by unfold aOK; decide +kernel
def M_X2_told : aM := (RX2, cX2_told, 4, false, (some .int), { frames := 0, cells := 0, slots := 0, locals := 0 }, [(0, .iload_n 1, 1), (1, .iconst 5, 1), (2, .imul, 1), (3, .iload_n 2, 1), (4, .iadd, 1), (5, .istore_n 3, 1), (6, .iload_n 3, 1), (7, .ifCond .lt 21, 3), (10, .iload_n 3, 1), (11, .aload_n 0, 1), (12, .getfield 21, 3), (15, .arraylength, 1), (16, .if_icmp .ge 12, 3), (19, .aload_n 0, 1), (20, .getfield 21, 3), (23, .iload_n 3, 1), (24, .iaload, 1), (25, .goto 4, 3), (28, .iconst 0, 1), (29, .ireturn, 1)], [(21, 151, 0, 5, .array .int)], [], [])
theorem ok_X2_told : aOK M_X2_told := by unfold aOK; decide +kernel
def M_X2_setPart : aM := (RX2, cX2_setPart, 4, false, none, { frames := 1, cells := 0, slots := 0, locals := 22 }, [(0, .aload_n 0, 1), (1, .getfield 21, 3), (4, .iload_n 1, 1), (5, .iconst 5, 1), (6, .imul, 1), (7, .iload_n 2, 1), (8, .iadd, 1), (9, .iload_n 3, 1), (10, .invokestatic 47, 3), (13, .return_, 1)], [(21, 151, 0, 5, .array .int)], [], [])
theorem ok_X2_setPart : aOK M_X2_setPart := by unfold aOK; decide +kernel
def M_X2_outOf : aM := (RX2, cX2_outOf, 4, false, (some .int), { frames := 2, cells := 0, slots := 0, locals := 44 }, [(0, .iconst 0, 1), (1, .istore_n 2, 1), (2, .iconst 0, 1), (3, .istore_n 3, 1), (4, .iload_n 3, 1), (5, .aload_n 0, 1), (6, .getfield 44, 3), (9, .if_icmp .ge 32, 3), (12, .iload_n 1, 1), (13, .iconst (-1), 1), (14, .if_icmp .eq 13, 3), (17, .aload_n 0, 1), (18, .iload_n 3, 1), (19, .iconst 4, 1), (20, .invokevirtual 53, 3), (23, .iload_n 1, 1), (24, .if_icmp .ne 11, 3), (27, .iload_n 2, 1), (28, .aload_n 0, 1), (29, .iload_n 3, 1), (30, .invokevirtual 57, 3), (33, .iadd, 1), (34, .istore_n 2, 1), (35, .iinc 3 1, 3), (38, .goto (-34), 3), (41, .iload_n 2, 1), (42, .ireturn, 1)], [(44, 137, 0, 0, .int)], [], [])
theorem ok_X2_outOf : aOK M_X2_outOf := by unfold aOK; decide +kernel
def M_X2_outBy : aM := (RX2, cX2_outBy, 2, false, (some .int), { frames := 1, cells := 0, slots := 0, locals := 23 }, [(0, .aload_n 0, 1), (1, .iload_n 1, 1), (2, .iconst 0, 1), (3, .invokevirtual 53, 3), (6, .ifCond .ne 12, 3), (9, .aload_n 0, 1), (10, .iload_n 1, 1), (11, .iconst 1, 1), (12, .invokevirtual 53, 3), (15, .goto 10, 3), (18, .aload_n 0, 1), (19, .iload_n 1, 1), (20, .iconst 1, 1), (21, .invokevirtual 53, 3), (24, .ineg, 1), (25, .ireturn, 1)], [], [], [])
theorem ok_X2_outBy : aOK M_X2_outBy := by unfold aOK; decide +kernel
def M_X2_hasDue : aM := (RX2, cX2_hasDue, 2, false, (some .boolean), { frames := 0, cells := 0, slots := 0, locals := 0 }, [(0, .iload_n 1, 1), (1, .ifCond .lt 25, 3), (4, .iload_n 1, 1), (5, .aload_n 0, 1), (6, .getfield 34, 3), (9, .arraylength, 1), (10, .if_icmp .ge 16, 3), (13, .aload_n 0, 1), (14, .getfield 34, 3), (17, .iload_n 1, 1), (18, .baload, 1), (19, .ifCond .eq 7, 3), (22, .iconst 1, 1), (23, .goto 4, 3), (26, .iconst 0, 1), (27, .ireturn, 1)], [(34, 155, 0, 9, .array .boolean)], [], [])
theorem ok_X2_hasDue : aOK M_X2_hasDue := by unfold aOK; decide +kernel
def M_X2_dueOf : aM := (RX2, cX2_dueOf, 2, false, (some .int), { frames := 1, cells := 0, slots := 0, locals := 21 }, [(0, .aload_n 0, 1), (1, .getfield 31, 3), (4, .iload_n 1, 1), (5, .invokestatic 61, 3), (8, .ireturn, 1)], [(31, 154, 0, 8, .array .int)], [], [])
theorem ok_X2_dueOf : aOK M_X2_dueOf := by unfold aOK; decide +kernel
def M_X2_hasEntryOn : aM := (RX2, cX2_hasEntryOn, 3, false, (some .boolean), { frames := 1, cells := 0, slots := 0, locals := 23 }, [(0, .iconst 0, 1), (1, .istore_n 2, 1), (2, .iload_n 2, 1), (3, .aload_n 0, 1), (4, .getfield 44, 3), (7, .if_icmp .ge 21, 3), (10, .aload_n 0, 1), (11, .iload_n 2, 1), (12, .iconst 4, 1), (13, .invokevirtual 53, 3), (16, .iload_n 1, 1), (17, .if_icmp .ne 5, 3), (20, .iconst 1, 1), (21, .ireturn, 1), (22, .iinc 2 1, 3), (25, .goto (-23), 3), (28, .iconst 0, 1), (29, .ireturn, 1)], [(44, 137, 0, 0, .int)], [], [])
theorem ok_X2_hasEntryOn : aOK M_X2_hasEntryOn := by unfold aOK; decide +kernel
def M_X2_hasSum : aM := (RX2, cX2_hasSum, 4, false, (some .boolean), { frames := 1, cells := 0, slots := 0, locals := 23 }, [(0, .iconst 0, 1), (1, .istore_n 3, 1), (2, .iload_n 3, 1), (3, .aload_n 0, 1), (4, .getfield 44, 3), (7, .if_icmp .ge 31, 3), (10, .aload_n 0, 1), (11, .iload_n 3, 1), (12, .iconst 0, 1), (13, .invokevirtual 53, 3), (16, .iload_n 1, 1), (17, .if_icmp .ne 15, 3), (20, .aload_n 0, 1), (21, .iload_n 3, 1), (22, .iconst 1, 1), (23, .invokevirtual 53, 3), (26, .iload_n 2, 1), (27, .if_icmp .ne 5, 3), (30, .iconst 1, 1), (31, .ireturn, 1), (32, .iinc 3 1, 3), (35, .goto (-33), 3), (38, .iconst 0, 1), (39, .ireturn, 1)], [(44, 137, 0, 0, .int)], [], [])
theorem ok_X2_hasSum : aOK M_X2_hasSum := by unfold aOK; decide +kernel
def M_X2_hasTwinAhead : aM := (RX2, cX2_hasTwinAhead, 3, false, (some .boolean), { frames := 1, cells := 0, slots := 0, locals := 23 }, [(0, .iconst 0, 1), (1, .istore_n 2, 1), (2, .iload_n 2, 1), (3, .iload_n 1, 1), (4, .if_icmp .ge 56, 3), (7, .aload_n 0, 1), (8, .iload_n 2, 1), (9, .iconst 0, 1), (10, .invokevirtual 53, 3), (13, .aload_n 0, 1), (14, .iload_n 1, 1), (15, .iconst 0, 1), (16, .invokevirtual 53, 3), (19, .if_icmp .ne 35, 3), (22, .aload_n 0, 1), (23, .iload_n 2, 1), (24, .iconst 1, 1), (25, .invokevirtual 53, 3), (28, .aload_n 0, 1), (29, .iload_n 1, 1), (30, .iconst 1, 1), (31, .invokevirtual 53, 3), (34, .if_icmp .ne 20, 3), (37, .aload_n 0, 1), (38, .iload_n 2, 1), (39, .iconst 2, 1), (40, .invokevirtual 53, 3), (43, .aload_n 0, 1), (44, .iload_n 1, 1), (45, .iconst 2, 1), (46, .invokevirtual 53, 3), (49, .if_icmp .ne 5, 3), (52, .iconst 1, 1), (53, .ireturn, 1), (54, .iinc 2 1, 3), (57, .goto (-55), 3), (60, .iconst 0, 1), (61, .ireturn, 1)], [], [], [])
theorem ok_X2_hasTwinAhead : aOK M_X2_hasTwinAhead := by unfold aOK; decide +kernel
def M_X2_oddsOf : aM := (RX2, cX2_oddsOf, 3, false, (some .int), { frames := 1, cells := 0, slots := 0, locals := 21 }, [(0, .aload_n 0, 1), (1, .getfield 25, 3), (4, .iload_n 1, 1), (5, .iconst 5, 1), (6, .imul, 1), (7, .iload_n 2, 1), (8, .iadd, 1), (9, .invokestatic 61, 3), (12, .ireturn, 1)], [(25, 152, 0, 6, .array .int)], [], [])
theorem ok_X2_oddsOf : aOK M_X2_oddsOf := by unfold aOK; decide +kernel
def M_X2_setOdds : aM := (RX2, cX2_setOdds, 4, false, none, { frames := 1, cells := 0, slots := 0, locals := 22 }, [(0, .aload_n 0, 1), (1, .getfield 25, 3), (4, .iload_n 1, 1), (5, .iconst 5, 1), (6, .imul, 1), (7, .iload_n 2, 1), (8, .iadd, 1), (9, .iload_n 3, 1), (10, .invokestatic 47, 3), (13, .aload_n 0, 1), (14, .dup, 1), (15, .getfield 65, 3), (18, .iconst 1, 1), (19, .iadd, 1), (20, .putfield 65, 3), (23, .return_, 1)], [(25, 152, 0, 6, .array .int), (65, 149, 0, 4, .int)], [], [])
theorem ok_X2_setOdds : aOK M_X2_setOdds := by unfold aOK; decide +kernel
def M_X2_readOf : aM := (RX2, cX2_readOf, 3, false, (some .int), { frames := 1, cells := 0, slots := 0, locals := 21 }, [(0, .aload_n 0, 1), (1, .getfield 28, 3), (4, .iload_n 1, 1), (5, .bipush 10, 2), (7, .imul, 1), (8, .iload_n 2, 1), (9, .iadd, 1), (10, .invokestatic 61, 3), (13, .ireturn, 1)], [(28, 153, 0, 7, .array .int)], [], [])
theorem ok_X2_readOf : aOK M_X2_readOf := by unfold aOK; decide +kernel
def M_X2_change : aM := (RX2, cX2_change, 4, false, none, { frames := 2, cells := 0, slots := 0, locals := 45 }, [(0, .aload_n 0, 1), (1, .iload_n 1, 1), (2, .iconst 0, 1), (3, .iload_n 2, 1), (4, .invokevirtual 68, 3), (7, .aload_n 0, 1), (8, .iload_n 1, 1), (9, .iconst 1, 1), (10, .iload_n 3, 1), (11, .invokevirtual 68, 3), (14, .aload_n 0, 1), (15, .dup, 1), (16, .getfield 65, 3), (19, .iconst 1, 1), (20, .iadd, 1), (21, .putfield 65, 3), (24, .return_, 1)], [(65, 149, 0, 4, .int)], [], [])
theorem ok_X2_change : aOK M_X2_change := by unfold aOK; decide +kernel
def M_X2_remove : aM := (RX2, cX2_remove, 4, false, none, { frames := 2, cells := 0, slots := 0, locals := 45 }, [(0, .iload_n 1, 1), (1, .iconst 1, 1), (2, .iadd, 1), (3, .istore_n 2, 1), (4, .iload_n 2, 1), (5, .aload_n 0, 1), (6, .getfield 44, 3), (9, .if_icmp .ge 36, 3), (12, .iconst 0, 1), (13, .istore_n 3, 1), (14, .iload_n 3, 1), (15, .iconst 5, 1), (16, .if_icmp .ge 23, 3), (19, .aload_n 0, 1), (20, .iload_n 2, 1), (21, .iconst 1, 1), (22, .isub, 1), (23, .iload_n 3, 1), (24, .aload_n 0, 1), (25, .iload_n 2, 1), (26, .iload_n 3, 1), (27, .invokevirtual 53, 3), (30, .invokevirtual 68, 3), (33, .iinc 3 1, 3), (36, .goto (-22), 3), (39, .iinc 2 1, 3), (42, .goto (-38), 3), (45, .aload_n 0, 1), (46, .dup, 1), (47, .getfield 44, 3), (50, .iconst 1, 1), (51, .isub, 1), (52, .putfield 44, 3), (55, .aload_n 0, 1), (56, .dup, 1), (57, .getfield 65, 3), (60, .iconst 1, 1), (61, .iadd, 1), (62, .putfield 65, 3), (65, .return_, 1)], [(44, 137, 0, 0, .int), (65, 149, 0, 4, .int)], [], [])
theorem ok_X2_remove : aOK M_X2_remove := by unfold aOK; decide +kernel
def M_X2_take : aM := (RX2, cX2_take, 3, false, none, { frames := 4, cells := 0, slots := 0, locals := 92 }, [(0, .iconst 0, 1), (1, .istore_n 2, 1), (2, .iload_n 2, 1), (3, .aload_n 1, 1), (4, .getfield 72, 3), (7, .if_icmp .ge 15, 3), (10, .aload_n 0, 1), (11, .aload_n 1, 1), (12, .iload_n 2, 1), (13, .invokevirtual 77, 3), (16, .iinc 2 1, 3), (19, .goto (-17), 3), (22, .aload_n 0, 1), (23, .dup, 1), (24, .getfield 65, 3), (27, .iconst 1, 1), (28, .iadd, 1), (29, .putfield 65, 3), (32, .return_, 1)], [(65, 149, 0, 4, .int), (72, 100, 6, 1, .int)], [], [])
theorem ok_X2_take : aOK M_X2_take := by unfold aOK; decide +kernel
def M_X2_takeLine : aM := (RX2, cX2_takeLine, 5, false, none, { frames := 3, cells := 0, slots := 0, locals := 68 }, [(0, .aload_n 1, 1), (1, .iload_n 2, 1), (2, .iconst 0, 1), (3, .invokevirtual 81, 3), (6, .istore_n 3, 1), (7, .aload_n 1, 1), (8, .iload_n 2, 1), (9, .iconst 1, 1), (10, .invokevirtual 81, 3), (13, .istore 4, 2), (15, .aload_n 1, 1), (16, .iload_n 2, 1), (17, .invokevirtual 84, 3), (20, .tableswitch 147 10 17 #[48, 58, 68, 84, 107, 115, 123, 131], 48), (68, .aload_n 0, 1), (69, .iconst 0, 1), (70, .aload_n 1, 1), (71, .iload_n 2, 1), (72, .invokevirtual 87, 3), (75, .goto 92, 3), (78, .aload_n 0, 1), (79, .iconst 1, 1), (80, .aload_n 1, 1), (81, .iload_n 2, 1), (82, .invokevirtual 87, 3), (85, .goto 82, 3), (88, .aload_n 0, 1), (89, .iload_n 3, 1), (90, .iload 4, 2), (92, .aload_n 1, 1), (93, .iload_n 2, 1), (94, .iconst 2, 1), (95, .invokevirtual 81, 3), (98, .invokevirtual 91, 3), (101, .goto 66, 3), (104, .aload_n 0, 1), (105, .getfield 28, 3), (108, .iload_n 3, 1), (109, .bipush 10, 2), (111, .imul, 1), (112, .iload 4, 2), (114, .iadd, 1), (115, .aload_n 1, 1), (116, .iload_n 2, 1), (117, .iconst 2, 1), (118, .invokevirtual 81, 3), (121, .invokestatic 47, 3), (124, .goto 43, 3), (127, .aload_n 0, 1), (128, .iload_n 3, 1), (129, .putfield 9, 3), (132, .goto 35, 3), (135, .aload_n 0, 1), (136, .iload_n 3, 1), (137, .putfield 15, 3), (140, .goto 27, 3), (143, .aload_n 0, 1), (144, .iload_n 3, 1), (145, .putfield 18, 3), (148, .goto 19, 3), (151, .aload_n 0, 1), (152, .iload_n 3, 1), (153, .iload 4, 2), (155, .aload_n 1, 1), (156, .iload_n 2, 1), (157, .iconst 2, 1), (158, .invokevirtual 81, 3), (161, .invokevirtual 94, 3), (164, .goto 3, 3), (167, .return_, 1)], [(9, 141, 0, 1, .int), (15, 144, 0, 2, .int), (18, 147, 0, 3, .int), (28, 153, 0, 7, .array .int)], [], [])
theorem ok_X2_takeLine : aOK M_X2_takeLine := by unfold aOK; decide +kernel
def M_X2_add : aM := (RX2, cX2_add, 4, false, none, { frames := 2, cells := 0, slots := 0, locals := 45 }, [(0, .aload_n 0, 1), (1, .getfield 44, 3), (4, .bipush 30, 2), (6, .if_icmp .lt 4, 3), (9, .return_, 1), (10, .aload_n 0, 1), (11, .aload_n 0, 1), (12, .getfield 44, 3), (15, .iconst 0, 1), (16, .iload_n 1, 1), (17, .invokevirtual 68, 3), (20, .aload_n 0, 1), (21, .aload_n 0, 1), (22, .getfield 44, 3), (25, .iconst 1, 1), (26, .aload_n 2, 1), (27, .iload_n 3, 1), (28, .iconst 0, 1), (29, .invokevirtual 81, 3), (32, .invokevirtual 68, 3), (35, .aload_n 0, 1), (36, .aload_n 0, 1), (37, .getfield 44, 3), (40, .iconst 2, 1), (41, .aload_n 2, 1), (42, .iload_n 3, 1), (43, .iconst 1, 1), (44, .invokevirtual 81, 3), (47, .invokevirtual 68, 3), (50, .aload_n 0, 1), (51, .aload_n 0, 1), (52, .getfield 44, 3), (55, .iconst 3, 1), (56, .aload_n 2, 1), (57, .iload_n 3, 1), (58, .iconst 2, 1), (59, .invokevirtual 81, 3), (62, .invokevirtual 68, 3), (65, .aload_n 0, 1), (66, .aload_n 0, 1), (67, .getfield 44, 3), (70, .iconst 4, 1), (71, .aload_n 2, 1), (72, .iload_n 3, 1), (73, .iconst 3, 1), (74, .invokevirtual 81, 3), (77, .invokevirtual 68, 3), (80, .aload_n 0, 1), (81, .dup, 1), (82, .getfield 44, 3), (85, .iconst 1, 1), (86, .iadd, 1), (87, .putfield 44, 3), (90, .return_, 1)], [(44, 137, 0, 0, .int)], [], [])
theorem ok_X2_add : aOK M_X2_add := by unfold aOK; decide +kernel
def M_X2_setDue : aM := (RX2, cX2_setDue, 4, false, none, { frames := 1, cells := 0, slots := 0, locals := 22 }, [(0, .iload_n 1, 1), (1, .ifCond .lt 12, 3), (4, .iload_n 1, 1), (5, .aload_n 0, 1), (6, .getfield 34, 3), (9, .arraylength, 1), (10, .if_icmp .lt 4, 3), (13, .return_, 1), (14, .aload_n 0, 1), (15, .getfield 34, 3), (18, .iload_n 1, 1), (19, .iload_n 2, 1), (20, .bipush 18, 2), (22, .if_icmp .eq 7, 3), (25, .iconst 1, 1), (26, .goto 4, 3), (29, .iconst 0, 1), (30, .bastore, 1), (31, .aload_n 0, 1), (32, .getfield 31, 3), (35, .iload_n 1, 1), (36, .iload_n 2, 1), (37, .bipush 11, 2), (39, .if_icmp .ne 8, 3), (42, .iload_n 3, 1), (43, .ineg, 1), (44, .goto 4, 3), (47, .iload_n 3, 1), (48, .invokestatic 47, 3), (51, .return_, 1)], [(31, 154, 0, 8, .array .int), (34, 155, 0, 9, .array .boolean)], [], [])
theorem ok_X2_setDue : aOK M_X2_setDue := by unfold aOK; decide +kernel
def M_X3_init : aM := (RX3, cX3_init, 4, true, none, { frames := 1, cells := 3, slots := 90, locals := 20 }, [(0, .aload_n 0, 1), (1, .invokespecial 3, 3), (4, .aload_n 0, 1), (5, .bipush 30, 2), (7, .newarray .int, 2), (9, .putfield 9, 3), (12, .aload_n 0, 1), (13, .bipush 30, 2), (15, .newarray .int, 2), (17, .putfield 15, 3), (20, .aload_n 0, 1), (21, .bipush 30, 2), (23, .newarray .int, 2), (25, .putfield 18, 3), (28, .aload_n 0, 1), (29, .aload_n 1, 1), (30, .putfield 21, 3), (33, .aload_n 0, 1), (34, .aload_n 2, 1), (35, .putfield 25, 3), (38, .aload_n 0, 1), (39, .aload_n 3, 1), (40, .putfield 29, 3), (43, .return_, 1)], [(9, 289, 1, 6, .array .int), (15, 290, 1, 7, .array .int), (18, 291, 1, 8, .array .int), (21, 286, 1, 3, .object "NinePence$Ledger"), (25, 287, 1, 4, .object "NinePence$Slips"), (29, 288, 1, 5, .object "NinePence$Singles")], [], [])
theorem ok_X3_init : aOK M_X3_init := by unfold aOK; decide +kernel
def M_X3_entryAt : aM := (RX3, cX3_entryAt, 2, false, (some .int), { frames := 1, cells := 0, slots := 0, locals := 21 }, [(0, .aload_n 0, 1), (1, .getfield 18, 3), (4, .iload_n 1, 1), (5, .invokestatic 33, 3), (8, .ireturn, 1)], [(18, 291, 1, 8, .array .int)], [], [])
theorem ok_X3_entryAt : aOK M_X3_entryAt := by unfold aOK; decide +kernel
def M_X3_build : aM := (RX3, cX3_build, 4, false, none, { frames := 3, cells := 0, slots := 0, locals := 68 }, [(0, .aload_n 0, 1), (1, .iconst 0, 1), (2, .putfield 39, 3), (5, .aload_n 0, 1), (6, .getfield 9, 3), (9, .iconst 0, 1), (10, .invokestatic 43, 3), (13, .iconst 0, 1), (14, .istore_n 1, 1), (15, .iload_n 1, 1), (16, .aload_n 0, 1), (17, .getfield 29, 3), (20, .getfield 49, 3), (23, .if_icmp .ge 64, 3), (26, .aload_n 0, 1), (27, .getfield 29, 3), (30, .iload_n 1, 1), (31, .invokevirtual 52, 3), (34, .istore_n 2, 1), (35, .aload_n 0, 1), (36, .getfield 25, 3), (39, .iload_n 2, 1), (40, .invokevirtual 56, 3), (43, .iconst 5, 1), (44, .if_icmp .ge 37, 3), (47, .aload_n 0, 1), (48, .getfield 25, 3), (51, .iload_n 2, 1), (52, .invokevirtual 61, 3), (55, .istore_n 3, 1), (56, .aload_n 0, 1), (57, .getfield 9, 3), (60, .iload_n 3, 1), (61, .aload_n 0, 1), (62, .getfield 9, 3), (65, .iload_n 3, 1), (66, .invokestatic 33, 3), (69, .aload_n 0, 1), (70, .getfield 25, 3), (73, .iload_n 2, 1), (74, .invokevirtual 64, 3), (77, .iadd, 1), (78, .invokestatic 67, 3), (81, .iinc 1 1, 3), (84, .goto (-69), 3), (87, .iconst 0, 1), (88, .istore_n 1, 1), (89, .iload_n 1, 1), (90, .aload_n 0, 1), (91, .getfield 21, 3), (94, .getfield 71, 3), (97, .if_icmp .ge 45, 3), (100, .aload_n 0, 1), (101, .getfield 15, 3), (104, .iload_n 1, 1), (105, .aload_n 0, 1), (106, .getfield 21, 3), (109, .iload_n 1, 1), (110, .iconst 1, 1), (111, .invokevirtual 74, 3), (114, .invokestatic 78, 3), (117, .invokestatic 67, 3), (120, .aload_n 0, 1), (121, .getfield 9, 3), (124, .iload_n 1, 1), (125, .invokestatic 33, 3), (128, .ifCond .le 8, 3), (131, .aload_n 0, 1), (132, .iload_n 1, 1), (133, .invokevirtual 83, 3), (136, .iinc 1 1, 3), (139, .goto (-50), 3), (142, .aload_n 0, 1), (143, .invokevirtual 87, 3), (146, .return_, 1)], [(9, 289, 1, 6, .array .int), (15, 290, 1, 7, .array .int), (21, 286, 1, 3, .object "NinePence$Ledger"), (25, 287, 1, 4, .object "NinePence$Slips"), (29, 288, 1, 5, .object "NinePence$Singles"), (39, 280, 1, 0, .int), (49, 221, 4, 0, .int), (71, 138, 0, 0, .int)], [], [])
theorem ok_X3_build : aOK M_X3_build := by unfold aOK; decide +kernel
def M_X3_insert : aM := (RX3, cX3_insert, 3, false, none, { frames := 2, cells := 0, slots := 0, locals := 43 }, [(0, .aload_n 0, 1), (1, .getfield 39, 3), (4, .istore_n 2, 1), (5, .iload_n 2, 1), (6, .ifCond .le 45, 3), (9, .aload_n 0, 1), (10, .iload_n 1, 1), (11, .aload_n 0, 1), (12, .getfield 18, 3), (15, .iload_n 2, 1), (16, .iconst 1, 1), (17, .isub, 1), (18, .invokestatic 33, 3), (21, .invokevirtual 90, 3), (24, .ifCond .eq 27, 3), (27, .aload_n 0, 1), (28, .getfield 18, 3), (31, .iload_n 2, 1), (32, .aload_n 0, 1), (33, .getfield 18, 3), (36, .iload_n 2, 1), (37, .iconst 1, 1), (38, .isub, 1), (39, .invokestatic 33, 3), (42, .invokestatic 67, 3), (45, .iinc 2 (-1), 3), (48, .goto (-43), 3), (51, .aload_n 0, 1), (52, .getfield 18, 3), (55, .iload_n 2, 1), (56, .iload_n 1, 1), (57, .invokestatic 67, 3), (60, .aload_n 0, 1), (61, .dup, 1), (62, .getfield 39, 3), (65, .iconst 1, 1), (66, .iadd, 1), (67, .putfield 39, 3), (70, .return_, 1)], [(18, 291, 1, 8, .array .int), (39, 280, 1, 0, .int)], [], [])
theorem ok_X3_insert : aOK M_X3_insert := by unfold aOK; decide +kernel
def M_X3_isSooner : aM := (RX3, cX3_isSooner, 3, false, (some .boolean), { frames := 1, cells := 0, slots := 0, locals := 21 }, [(0, .aload_n 0, 1), (1, .getfield 9, 3), (4, .iload_n 1, 1), (5, .invokestatic 33, 3), (8, .aload_n 0, 1), (9, .getfield 15, 3), (12, .iload_n 2, 1), (13, .invokestatic 33, 3), (16, .imul, 1), (17, .aload_n 0, 1), (18, .getfield 9, 3), (21, .iload_n 2, 1), (22, .invokestatic 33, 3), (25, .aload_n 0, 1), (26, .getfield 15, 3), (29, .iload_n 1, 1), (30, .invokestatic 33, 3), (33, .imul, 1), (34, .if_icmp .le 7, 3), (37, .iconst 1, 1), (38, .goto 4, 3), (41, .iconst 0, 1), (42, .ireturn, 1)], [(9, 289, 1, 6, .array .int), (15, 290, 1, 7, .array .int)], [], [])
theorem ok_X3_isSooner : aOK M_X3_isSooner := by unfold aOK; decide +kernel
def M_X3_sumUp : aM := (RX3, cX3_sumUp, 7, false, none, { frames := 2, cells := 0, slots := 0, locals := 42 }, [(0, .aload_n 0, 1), (1, .lconst 0, 1), (2, .putfield 94, 3), (5, .aload_n 0, 1), (6, .lconst 0, 1), (7, .putfield 98, 3), (10, .lconst 0, 1), (11, .lstore_n 1, 1), (12, .iconst 0, 1), (13, .istore_n 3, 1), (14, .iload_n 3, 1), (15, .aload_n 0, 1), (16, .getfield 39, 3), (19, .if_icmp .ge 65, 3), (22, .aload_n 0, 1), (23, .iload_n 3, 1), (24, .invokevirtual 101, 3), (27, .istore 4, 2), (29, .aload_n 0, 1), (30, .getfield 9, 3), (33, .iload 4, 2), (35, .invokestatic 33, 3), (38, .i2l, 1), (39, .lstore 5, 2), (41, .lload_n 1, 1), (42, .aload_n 0, 1), (43, .getfield 15, 3), (46, .iload 4, 2), (48, .invokestatic 33, 3), (51, .i2l, 1), (52, .ladd, 1), (53, .lstore_n 1, 1), (54, .aload_n 0, 1), (55, .dup, 1), (56, .getfield 94, 3), (59, .lload 5, 2), (61, .lload_n 1, 1), (62, .lmul, 1), (63, .ladd, 1), (64, .putfield 94, 3), (67, .aload_n 0, 1), (68, .dup, 1), (69, .getfield 98, 3), (72, .lload 5, 2), (74, .ladd, 1), (75, .putfield 98, 3), (78, .iinc 3 1, 3), (81, .goto (-67), 3), (84, .return_, 1)], [(9, 289, 1, 6, .array .int), (15, 290, 1, 7, .array .int), (39, 280, 1, 0, .int), (94, 282, 1, 1, .long), (98, 284, 1, 2, .long)], [], [])
theorem ok_X3_sumUp : aOK M_X3_sumUp := by unfold aOK; decide +kernel
def M_X4_init : aM := (RX4, cX4_init, 2, true, none, { frames := 1, cells := 3, slots := 350, locals := 20 }, [(0, .aload_n 0, 1), (1, .invokespecial 3, 3), (4, .aload_n 0, 1), (5, .bipush 12, 2), (7, .newarray .int, 2), (9, .putfield 9, 3), (12, .aload_n 0, 1), (13, .sipush 169, 3), (16, .newarray .int, 2), (18, .putfield 15, 3), (21, .aload_n 0, 1), (22, .sipush 169, 3), (25, .newarray .int, 2), (27, .putfield 18, 3), (30, .aload_n 0, 1), (31, .aload_n 1, 1), (32, .putfield 21, 3), (35, .return_, 1)], [(9, 320, 2, 2, .array .int), (15, 321, 2, 3, .array .int), (18, 322, 2, 4, .array .int), (21, 319, 2, 1, .object "NinePence$Ledger")], [], [])
theorem ok_X4_init : aOK M_X4_init := by unfold aOK; decide +kernel
def M_X4_add : aM := (RX4, cX4_add, 2, false, none, { frames := 1, cells := 0, slots := 0, locals := 22 }, [(0, .aload_n 0, 1), (1, .getfield 9, 3), (4, .aload_n 0, 1), (5, .getfield 25, 3), (8, .iload_n 1, 1), (9, .invokestatic 29, 3), (12, .aload_n 0, 1), (13, .dup, 1), (14, .getfield 25, 3), (17, .iconst 1, 1), (18, .iadd, 1), (19, .putfield 25, 3), (22, .return_, 1)], [(9, 320, 2, 2, .array .int), (25, 317, 2, 0, .int)], [], [])
theorem ok_X4_add : aOK M_X4_add := by unfold aOK; decide +kernel
def M_X4_leastCost : aM := (RX4, cX4_leastCost, 1, false, (some .int), { frames := 2, cells := 0, slots := 0, locals := 43 }, [(0, .aload_n 0, 1), (1, .iconst 0, 1), (2, .iconst 0, 1), (3, .invokevirtual 35, 3), (6, .ireturn, 1)], [], [], [])
theorem ok_X4_leastCost : aOK M_X4_leastCost := by unfold aOK; decide +kernel
def M_X4_findLeastCosts : aM := (RX4, cX4_findLeastCosts, 6, false, none, { frames := 5, cells := 0, slots := 0, locals := 111 }, [(0, .iload_n 1, 1), (1, .istore_n 2, 1), (2, .iload_n 2, 1), (3, .ifCond .lt 142, 3), (6, .aload_n 0, 1), (7, .getfield 25, 3), (10, .istore_n 3, 1), (11, .iload_n 3, 1), (12, .ifCond .lt 127, 3), (15, .iconst 1, 1), (16, .iload_n 1, 1), (17, .iload_n 2, 1), (18, .isub, 1), (19, .aload_n 0, 1), (20, .getfield 25, 3), (23, .iadd, 1), (24, .iload_n 3, 1), (25, .isub, 1), (26, .imul, 1), (27, .istore 4, 2), (29, .iload_n 2, 1), (30, .iload_n 1, 1), (31, .if_icmp .ge 87, 3), (34, .iload_n 3, 1), (35, .aload_n 0, 1), (36, .getfield 25, 3), (39, .if_icmp .ge 79, 3), (42, .aload_n 0, 1), (43, .getfield 21, 3), (46, .iload_n 2, 1), (47, .iconst 1, 1), (48, .invokevirtual 39, 3), (51, .aload_n 0, 1), (52, .getfield 9, 3), (55, .iload_n 3, 1), (56, .invokestatic 44, 3), (59, .invokestatic 48, 3), (62, .istore 5, 2), (64, .aload_n 0, 1), (65, .getfield 18, 3), (68, .iload_n 2, 1), (69, .bipush 13, 2), (71, .imul, 1), (72, .iload_n 3, 1), (73, .iadd, 1), (74, .iload 5, 2), (76, .invokestatic 29, 3), (79, .iload 5, 2), (81, .aload_n 0, 1), (82, .iload_n 2, 1), (83, .iconst 1, 1), (84, .iadd, 1), (85, .iload_n 3, 1), (86, .iconst 1, 1), (87, .iadd, 1), (88, .invokevirtual 35, 3), (91, .iadd, 1), (92, .iconst 1, 1), (93, .aload_n 0, 1), (94, .iload_n 2, 1), (95, .iconst 1, 1), (96, .iadd, 1), (97, .iload_n 3, 1), (98, .invokevirtual 35, 3), (101, .aload_n 0, 1), (102, .iload_n 2, 1), (103, .iload_n 3, 1), (104, .iconst 1, 1), (105, .iadd, 1), (106, .invokevirtual 35, 3), (109, .invokestatic 51, 3), (112, .iadd, 1), (113, .invokestatic 51, 3), (116, .istore 4, 2), (118, .aload_n 0, 1), (119, .getfield 15, 3), (122, .iload_n 2, 1), (123, .bipush 13, 2), (125, .imul, 1), (126, .iload_n 3, 1), (127, .iadd, 1), (128, .iload 4, 2), (130, .invokestatic 29, 3), (133, .iinc 3 (-1), 3), (136, .goto (-125), 3), (139, .iinc 2 (-1), 3), (142, .goto (-140), 3), (145, .return_, 1)], [(9, 320, 2, 2, .array .int), (15, 321, 2, 3, .array .int), (18, 322, 2, 4, .array .int), (21, 319, 2, 1, .object "NinePence$Ledger"), (25, 317, 2, 0, .int)], [], [])
theorem ok_X4_findLeastCosts : aOK M_X4_findLeastCosts := by unfold aOK; decide +kernel
def M_X4_lineOf : aM := (RX4, cX4_lineOf, 6, false, (some .int), { frames := 3, cells := 0, slots := 0, locals := 69 }, [(0, .iconst 0, 1), (1, .istore_n 3, 1), (2, .iconst (-1), 1), (3, .istore 4, 2), (5, .iconst 0, 1), (6, .istore 5, 2), (8, .iload 5, 2), (10, .iload_n 1, 1), (11, .if_icmp .gt 39, 3), (14, .iload 5, 2), (16, .iload_n 2, 1), (17, .if_icmp .ge 33, 3), (20, .aload_n 0, 1), (21, .iload 5, 2), (23, .iload_n 3, 1), (24, .invokevirtual 56, 3), (27, .istore 4, 2), (29, .iload 4, 2), (31, .iconst (-1), 1), (32, .if_icmp .ne 7, 3), (35, .iload_n 3, 1), (36, .goto 7, 3), (39, .iload 4, 2), (41, .iconst 1, 1), (42, .iadd, 1), (43, .istore_n 3, 1), (44, .iinc 5 1, 3), (47, .goto (-39), 3), (50, .iload 4, 2), (52, .ireturn, 1)], [], [], [])
theorem ok_X4_lineOf : aOK M_X4_lineOf := by unfold aOK; decide +kernel
def M_X4_leastLine : aM := (RX4, cX4_leastLine, 7, false, (some .int), { frames := 2, cells := 0, slots := 0, locals := 43 }, [(0, .aload_n 0, 1), (1, .iload_n 1, 1), (2, .iload_n 2, 1), (3, .invokevirtual 35, 3), (6, .istore_n 3, 1), (7, .iload_n 2, 1), (8, .istore 4, 2), (10, .iload 4, 2), (12, .aload_n 0, 1), (13, .getfield 25, 3), (16, .if_icmp .ge 57, 3), (19, .iconst 1, 1), (20, .iload 4, 2), (22, .iload_n 2, 1), (23, .isub, 1), (24, .imul, 1), (25, .istore 5, 2), (27, .aload_n 0, 1), (28, .getfield 18, 3), (31, .iload_n 1, 1), (32, .bipush 13, 2), (34, .imul, 1), (35, .iload 4, 2), (37, .iadd, 1), (38, .invokestatic 44, 3), (41, .istore 6, 2), (43, .iload 5, 2), (45, .iload 6, 2), (47, .iadd, 1), (48, .aload_n 0, 1), (49, .iload_n 1, 1), (50, .iconst 1, 1), (51, .iadd, 1), (52, .iload 4, 2), (54, .iconst 1, 1), (55, .iadd, 1), (56, .invokevirtual 35, 3), (59, .iadd, 1), (60, .iload_n 3, 1), (61, .if_icmp .ne 6, 3), (64, .iload 4, 2), (66, .ireturn, 1), (67, .iinc 4 1, 3), (70, .goto (-60), 3), (73, .iconst (-1), 1), (74, .ireturn, 1)], [(18, 322, 2, 4, .array .int), (25, 317, 2, 0, .int)], [], [])
theorem ok_X4_leastLine : aOK M_X4_leastLine := by unfold aOK; decide +kernel
def M_X4_costFrom : aM := (RX4, cX4_costFrom, 3, false, (some .int), { frames := 1, cells := 0, slots := 0, locals := 21 }, [(0, .aload_n 0, 1), (1, .getfield 15, 3), (4, .iload_n 1, 1), (5, .bipush 13, 2), (7, .imul, 1), (8, .iload_n 2, 1), (9, .iadd, 1), (10, .invokestatic 44, 3), (13, .ireturn, 1)], [(15, 321, 2, 3, .array .int)], [], [])
theorem ok_X4_costFrom : aOK M_X4_costFrom := by unfold aOK; decide +kernel
def M_X4_pairCost : aM := (RX4, cX4_pairCost, 2, false, (some .int), { frames := 4, cells := 0, slots := 0, locals := 90 }, [(0, .iload_n 0, 1), (1, .iload_n 1, 1), (2, .if_icmp .ne 5, 3), (5, .iconst 0, 1), (6, .ireturn, 1), (7, .iload_n 0, 1), (8, .iload_n 1, 1), (9, .invokestatic 59, 3), (12, .iconst (-1), 1), (13, .if_icmp .ne 8, 3), (16, .bipush 100, 2), (18, .goto 4, 3), (21, .iconst 1, 1), (22, .ireturn, 1)], [], [], [])
theorem ok_X4_pairCost : aOK M_X4_pairCost := by unfold aOK; decide +kernel
def M_X5_init : aM := (RX5, cX5_init, 2, true, none, { frames := 1, cells := 0, slots := 0, locals := 20 }, [(0, .aload_n 0, 1), (1, .invokespecial 3, 3), (4, .aload_n 0, 1), (5, .aload_n 1, 1), (6, .putfield 9, 3), (9, .return_, 1)], [(9, 260, 3, 5, .object "NinePence$Slips")], [], [])
theorem ok_X5_init : aOK M_X5_init := by unfold aOK; decide +kernel
def M_X5_find : aM := (RX5, cX5_find, 3, false, none, { frames := 4, cells := 0, slots := 0, locals := 90 }, [(0, .aload_n 0, 1), (1, .lconst 0, 1), (2, .putfield 15, 3), (5, .aload_n 0, 1), (6, .lconst 0, 1), (7, .putfield 19, 3), (10, .aload_n 0, 1), (11, .lconst 0, 1), (12, .putfield 22, 3), (15, .iconst 0, 1), (16, .istore_n 2, 1), (17, .iload_n 2, 1), (18, .aload_n 0, 1), (19, .getfield 9, 3), (22, .getfield 25, 3), (25, .if_icmp .ge 36, 3), (28, .aload_n 0, 1), (29, .getfield 9, 3), (32, .iload_n 2, 1), (33, .invokevirtual 31, 3), (36, .iconst 5, 1), (37, .if_icmp .eq 18, 3), (40, .aload_n 0, 1), (41, .iload_n 2, 1), (42, .iload_n 1, 1), (43, .aload_n 0, 1), (44, .getfield 9, 3), (47, .iload_n 2, 1), (48, .invokevirtual 35, 3), (51, .isub, 1), (52, .invokevirtual 38, 3), (55, .iinc 2 1, 3), (58, .goto (-41), 3), (61, .return_, 1)], [(9, 260, 3, 5, .object "NinePence$Slips"), (15, 251, 3, 0, .long), (19, 253, 3, 1, .long), (22, 259, 3, 4, .long), (25, 184, 5, 0, .int)], [], [])
theorem ok_X5_find : aOK M_X5_find := by unfold aOK; decide +kernel
def M_X5_findWith : aM := (RX5, cX5_findWith, 5, false, none, { frames := 3, cells := 0, slots := 0, locals := 66 }, [(0, .aload_n 0, 1), (1, .getfield 9, 3), (4, .iload_n 2, 1), (5, .invokevirtual 42, 3), (8, .istore_n 3, 1), (9, .iconst 0, 1), (10, .istore 4, 2), (12, .iload_n 3, 1), (13, .iconst (-1), 1), (14, .if_icmp .eq 73, 3), (17, .iload 4, 2), (19, .sipush 1921, 3), (22, .if_icmp .ge 65, 3), (25, .iload_n 3, 1), (26, .iload_n 1, 1), (27, .if_icmp .le 45, 3), (30, .aload_n 0, 1), (31, .getfield 9, 3), (34, .iload_n 3, 1), (35, .invokevirtual 35, 3), (38, .iload_n 2, 1), (39, .if_icmp .ne 33, 3), (42, .aload_n 0, 1), (43, .getfield 9, 3), (46, .iload_n 3, 1), (47, .invokevirtual 31, 3), (50, .iconst 5, 1), (51, .if_icmp .eq 21, 3), (54, .aload_n 0, 1), (55, .getfield 9, 3), (58, .iload_n 1, 1), (59, .iload_n 3, 1), (60, .invokevirtual 45, 3), (63, .ifCond .eq 9, 3), (66, .aload_n 0, 1), (67, .iload_n 1, 1), (68, .iload_n 3, 1), (69, .invokevirtual 49, 3), (72, .aload_n 0, 1), (73, .getfield 9, 3), (76, .iload_n 3, 1), (77, .invokevirtual 52, 3), (80, .istore_n 3, 1), (81, .iinc 4 1, 3), (84, .goto (-72), 3), (87, .return_, 1)], [(9, 260, 3, 5, .object "NinePence$Slips")], [], [])
theorem ok_X5_findWith : aOK M_X5_findWith := by unfold aOK; decide +kernel
def M_X5_take : aM := (RX5, cX5_take, 5, false, none, { frames := 2, cells := 0, slots := 0, locals := 42 }, [(0, .aload_n 0, 1), (1, .getfield 9, 3), (4, .iload_n 1, 1), (5, .invokevirtual 55, 3), (8, .i2l, 1), (9, .aload_n 0, 1), (10, .getfield 9, 3), (13, .iload_n 2, 1), (14, .invokevirtual 55, 3), (17, .i2l, 1), (18, .lmul, 1), (19, .lstore_n 3, 1), (20, .aload_n 0, 1), (21, .dup, 1), (22, .getfield 15, 3), (25, .lconst 1, 1), (26, .ladd, 1), (27, .putfield 15, 3), (30, .aload_n 0, 1), (31, .dup, 1), (32, .getfield 19, 3), (35, .lload_n 3, 1), (36, .ladd, 1), (37, .putfield 19, 3), (40, .lload_n 3, 1), (41, .aload_n 0, 1), (42, .getfield 22, 3), (45, .lcmp, 1), (46, .ifCond .le 18, 3), (49, .aload_n 0, 1), (50, .lload_n 3, 1), (51, .putfield 22, 3), (54, .aload_n 0, 1), (55, .iload_n 1, 1), (56, .putfield 58, 3), (59, .aload_n 0, 1), (60, .iload_n 2, 1), (61, .putfield 61, 3), (64, .return_, 1)], [(9, 260, 3, 5, .object "NinePence$Slips"), (15, 251, 3, 0, .long), (19, 253, 3, 1, .long), (22, 259, 3, 4, .long), (58, 255, 3, 2, .int), (61, 257, 3, 3, .int)], [], [])
theorem ok_X5_take : aOK M_X5_take := by unfold aOK; decide +kernel
def M_X6_at : aM := (RX6, cX6_at, 2, false, (some .int), { frames := 0, cells := 0, slots := 0, locals := 0 }, [(0, .iload_n 1, 1), (1, .ifCond .lt 15, 3), (4, .iload_n 1, 1), (5, .aload_n 0, 1), (6, .arraylength, 1), (7, .if_icmp .ge 9, 3), (10, .aload_n 0, 1), (11, .iload_n 1, 1), (12, .iaload, 1), (13, .goto 4, 3), (16, .iconst 0, 1), (17, .ireturn, 1)], [], [], [])
theorem ok_X6_at : aOK M_X6_at := by unfold aOK; decide +kernel
def M_X6_set : aM := (RX6, cX6_set, 3, false, none, { frames := 0, cells := 0, slots := 0, locals := 0 }, [(0, .iload_n 1, 1), (1, .ifCond .lt 13, 3), (4, .iload_n 1, 1), (5, .aload_n 0, 1), (6, .arraylength, 1), (7, .if_icmp .ge 7, 3), (10, .aload_n 0, 1), (11, .iload_n 1, 1), (12, .iload_n 2, 1), (13, .iastore, 1), (14, .return_, 1)], [], [], [])
theorem ok_X6_set : aOK M_X6_set := by unfold aOK; decide +kernel
def M_X7_init : aM := (RX7, cX7_init, 4, true, none, { frames := 1, cells := 2, slots := 163, locals := 20 }, [(0, .aload_n 0, 1), (1, .invokespecial 3, 3), (4, .aload_n 0, 1), (5, .sipush 157, 3), (8, .newarray .int, 2), (10, .putfield 9, 3), (13, .aload_n 0, 1), (14, .bipush 6, 2), (16, .newarray .int, 2), (18, .putfield 15, 3), (21, .aload_n 0, 1), (22, .aload_n 1, 1), (23, .putfield 18, 3), (26, .aload_n 0, 1), (27, .aload_n 2, 1), (28, .putfield 22, 3), (31, .aload_n 0, 1), (32, .iload_n 3, 1), (33, .putfield 26, 3), (36, .return_, 1)], [(9, 228, 4, 5, .array .int), (15, 229, 4, 6, .array .int), (18, 225, 4, 2, .object "NinePence$Ledger"), (22, 226, 4, 3, .object "NinePence$Slips"), (26, 227, 4, 4, .boolean)], [], [])
theorem ok_X7_init : aOK M_X7_init := by unfold aOK; decide +kernel
def M_X7_slip : aM := (RX7, cX7_slip, 2, false, (some .int), { frames := 1, cells := 0, slots := 0, locals := 21 }, [(0, .aload_n 0, 1), (1, .getfield 9, 3), (4, .iload_n 1, 1), (5, .invokestatic 30, 3), (8, .ireturn, 1)], [(9, 228, 4, 5, .array .int)], [], [])
theorem ok_X7_slip : aOK M_X7_slip := by unfold aOK; decide +kernel
def M_X7_build : aM := (RX7, cX7_build, 3, false, none, { frames := 4, cells := 0, slots := 0, locals := 88 }, [(0, .aload_n 0, 1), (1, .iconst 0, 1), (2, .putfield 36, 3), (5, .aload_n 0, 1), (6, .lconst 0, 1), (7, .putfield 40, 3), (10, .iconst 0, 1), (11, .istore_n 1, 1), (12, .iload_n 1, 1), (13, .bipush 6, 2), (15, .if_icmp .ge 25, 3), (18, .aload_n 0, 1), (19, .getfield 15, 3), (22, .iload_n 1, 1), (23, .aload_n 0, 1), (24, .getfield 18, 3), (27, .iload_n 1, 1), (28, .invokevirtual 44, 3), (31, .invokestatic 50, 3), (34, .iinc 1 1, 3), (37, .goto (-25), 3), (40, .aload_n 0, 1), (41, .getfield 18, 3), (44, .iconst (-1), 1), (45, .invokevirtual 44, 3), (48, .ineg, 1), (49, .istore_n 1, 1), (50, .iconst 0, 1), (51, .istore_n 2, 1), (52, .iload_n 2, 1), (53, .aload_n 0, 1), (54, .getfield 22, 3), (57, .getfield 54, 3), (60, .if_icmp .ge 76, 3), (63, .aload_n 0, 1), (64, .getfield 22, 3), (67, .iload_n 2, 1), (68, .invokevirtual 57, 3), (71, .iload_n 1, 1), (72, .if_icmp .ne 58, 3), (75, .aload_n 0, 1), (76, .getfield 26, 3), (79, .ifCond .eq 11, 3), (82, .aload_n 0, 1), (83, .iload_n 2, 1), (84, .invokevirtual 60, 3), (87, .ifCond .eq 43, 3), (90, .aload_n 0, 1), (91, .getfield 9, 3), (94, .aload_n 0, 1), (95, .getfield 36, 3), (98, .iload_n 2, 1), (99, .invokestatic 50, 3), (102, .aload_n 0, 1), (103, .dup, 1), (104, .getfield 40, 3), (107, .aload_n 0, 1), (108, .getfield 22, 3), (111, .iload_n 2, 1), (112, .invokevirtual 64, 3), (115, .i2l, 1), (116, .ladd, 1), (117, .putfield 40, 3), (120, .aload_n 0, 1), (121, .dup, 1), (122, .getfield 36, 3), (125, .iconst 1, 1), (126, .iadd, 1), (127, .putfield 36, 3), (130, .iinc 2 1, 3), (133, .goto (-81), 3), (136, .return_, 1)], [(9, 228, 4, 5, .array .int), (15, 229, 4, 6, .array .int), (18, 225, 4, 2, .object "NinePence$Ledger"), (22, 226, 4, 3, .object "NinePence$Slips"), (26, 227, 4, 4, .boolean), (36, 220, 4, 0, .int), (40, 223, 4, 1, .long), (54, 185, 5, 0, .int)], [], [])
theorem ok_X7_build : aOK M_X7_build := by unfold aOK; decide +kernel
def M_X7_manyOf : aM := (RX7, cX7_manyOf, 4, false, (some .int), { frames := 2, cells := 0, slots := 0, locals := 42 }, [(0, .iconst 0, 1), (1, .istore_n 2, 1), (2, .iconst 0, 1), (3, .istore_n 3, 1), (4, .iload_n 3, 1), (5, .aload_n 0, 1), (6, .getfield 36, 3), (9, .if_icmp .ge 28, 3), (12, .aload_n 0, 1), (13, .getfield 22, 3), (16, .aload_n 0, 1), (17, .iload_n 3, 1), (18, .invokevirtual 67, 3), (21, .invokevirtual 70, 3), (24, .iload_n 1, 1), (25, .if_icmp .ne 6, 3), (28, .iinc 2 1, 3), (31, .iinc 3 1, 3), (34, .goto (-30), 3), (37, .iload_n 2, 1), (38, .ireturn, 1)], [(22, 226, 4, 3, .object "NinePence$Slips"), (36, 220, 4, 0, .int)], [], [])
theorem ok_X7_manyOf : aOK M_X7_manyOf := by unfold aOK; decide +kernel
def M_X7_weightsOfHand : aM := (RX7, cX7_weightsOfHand, 6, false, (some .long), { frames := 2, cells := 0, slots := 0, locals := 42 }, [(0, .lconst 0, 1), (1, .lstore_n 2, 1), (2, .iconst 0, 1), (3, .istore 4, 2), (5, .iload 4, 2), (7, .aload_n 0, 1), (8, .getfield 36, 3), (11, .if_icmp .ge 64, 3), (14, .aload_n 0, 1), (15, .iload 4, 2), (17, .invokevirtual 67, 3), (20, .istore 5, 2), (22, .aload_n 0, 1), (23, .getfield 22, 3), (26, .iload 5, 2), (28, .invokevirtual 70, 3), (31, .iconst 5, 1), (32, .if_icmp .ge 37, 3), (35, .aload_n 0, 1), (36, .getfield 18, 3), (39, .aload_n 0, 1), (40, .getfield 22, 3), (43, .iload 5, 2), (45, .invokevirtual 73, 3), (48, .iconst 3, 1), (49, .invokevirtual 76, 3), (52, .iload_n 1, 1), (53, .if_icmp .ne 16, 3), (56, .lload_n 2, 1), (57, .aload_n 0, 1), (58, .getfield 22, 3), (61, .iload 5, 2), (63, .invokevirtual 64, 3), (66, .i2l, 1), (67, .ladd, 1), (68, .lstore_n 2, 1), (69, .iinc 4 1, 3), (72, .goto (-67), 3), (75, .lload_n 2, 1), (76, .lreturn, 1)], [(18, 225, 4, 2, .object "NinePence$Ledger"), (22, 226, 4, 3, .object "NinePence$Slips"), (36, 220, 4, 0, .int)], [], [])
theorem ok_X7_weightsOfHand : aOK M_X7_weightsOfHand := by unfold aOK; decide +kernel
def M_X7_leavesNoPageOff : aM := (RX7, cX7_leavesNoPageOff, 6, false, (some .boolean), { frames := 3, cells := 0, slots := 0, locals := 63 }, [(0, .aload_n 0, 1), (1, .getfield 22, 3), (4, .iload_n 1, 1), (5, .invokevirtual 80, 3), (8, .istore_n 2, 1), (9, .iload_n 2, 1), (10, .iconst (-1), 1), (11, .if_icmp .eq 7, 3), (14, .iconst 1, 1), (15, .goto 4, 3), (18, .iconst 0, 1), (19, .istore_n 3, 1), (20, .iconst 0, 1), (21, .istore 4, 2), (23, .iload 4, 2), (25, .bipush 6, 2), (27, .if_icmp .ge 72, 3), (30, .aload_n 0, 1), (31, .getfield 18, 3), (34, .iload 4, 2), (36, .invokevirtual 83, 3), (39, .ifCond .ne 8, 3), (42, .iconst 1, 1), (43, .istore_n 3, 1), (44, .goto 49, 3), (47, .aload_n 0, 1), (48, .getfield 15, 3), (51, .iload 4, 2), (53, .invokestatic 30, 3), (56, .iload 4, 2), (58, .iload_n 2, 1), (59, .if_icmp .ne 14, 3), (62, .aload_n 0, 1), (63, .getfield 22, 3), (66, .iload_n 1, 1), (67, .invokevirtual 57, 3), (70, .goto 4, 3), (73, .iconst 0, 1), (74, .iadd, 1), (75, .istore 5, 2), (77, .iload 5, 2), (79, .aload_n 0, 1), (80, .getfield 18, 3), (83, .iload 4, 2), (85, .invokevirtual 86, 3), (88, .if_icmp .eq 5, 3), (91, .iconst 0, 1), (92, .ireturn, 1), (93, .iinc 4 1, 3), (96, .goto (-73), 3), (99, .iload_n 3, 1), (100, .ireturn, 1)], [(15, 229, 4, 6, .array .int), (18, 225, 4, 2, .object "NinePence$Ledger"), (22, 226, 4, 3, .object "NinePence$Slips")], [], [])
theorem ok_X7_leavesNoPageOff : aOK M_X7_leavesNoPageOff := by unfold aOK; decide +kernel
def M_X8_init : aM := (RX8, cX8_init, 2, true, none, { frames := 1, cells := 7, slots := 12547, locals := 20 }, [(0, .aload_n 0, 1), (1, .invokespecial 3, 3), (4, .aload_n 0, 1), (5, .sipush 1921, 3), (8, .newarray .int, 2), (10, .putfield 9, 3), (13, .aload_n 0, 1), (14, .sipush 1921, 3), (17, .newarray .int, 2), (19, .putfield 15, 3), (22, .aload_n 0, 1), (23, .sipush 1921, 3), (26, .newarray .int, 2), (28, .putfield 18, 3), (31, .aload_n 0, 1), (32, .sipush 1921, 3), (35, .newarray .int, 2), (37, .putfield 21, 3), (40, .aload_n 0, 1), (41, .sipush 1921, 3), (44, .newarray .int, 2), (46, .putfield 24, 3), (49, .aload_n 0, 1), (50, .sipush 1021, 3), (53, .newarray .int, 2), (55, .putfield 27, 3), (58, .aload_n 0, 1), (59, .sipush 1921, 3), (62, .newarray .int, 2), (64, .putfield 30, 3), (67, .aload_n 0, 1), (68, .aload_n 1, 1), (69, .putfield 33, 3), (72, .return_, 1)], [(9, 188, 5, 2, .array .int), (15, 189, 5, 3, .array .int), (18, 190, 5, 4, .array .int), (21, 191, 5, 5, .array .int), (24, 192, 5, 6, .array .int), (27, 193, 5, 7, .array .int), (30, 194, 5, 8, .array .int), (33, 187, 5, 1, .object "NinePence$Ledger")], [], [])
theorem ok_X8_init : aOK M_X8_init := by unfold aOK; decide +kernel
def M_X8_kind : aM := (RX8, cX8_kind, 2, false, (some .int), { frames := 1, cells := 0, slots := 0, locals := 21 }, [(0, .aload_n 0, 1), (1, .getfield 9, 3), (4, .iload_n 1, 1), (5, .invokestatic 37, 3), (8, .ireturn, 1)], [(9, 188, 5, 2, .array .int)], [], [])
theorem ok_X8_kind : aOK M_X8_kind := by unfold aOK; decide +kernel
def M_X8_place : aM := (RX8, cX8_place, 2, false, (some .int), { frames := 1, cells := 0, slots := 0, locals := 21 }, [(0, .aload_n 0, 1), (1, .getfield 15, 3), (4, .iload_n 1, 1), (5, .invokestatic 37, 3), (8, .ireturn, 1)], [(15, 189, 5, 3, .array .int)], [], [])
theorem ok_X8_place : aOK M_X8_place := by unfold aOK; decide +kernel
def M_X8_change : aM := (RX8, cX8_change, 2, false, (some .int), { frames := 1, cells := 0, slots := 0, locals := 21 }, [(0, .aload_n 0, 1), (1, .getfield 21, 3), (4, .iload_n 1, 1), (5, .invokestatic 37, 3), (8, .ireturn, 1)], [(21, 191, 5, 5, .array .int)], [], [])
theorem ok_X8_change : aOK M_X8_change := by unfold aOK; decide +kernel
def M_X8_weight : aM := (RX8, cX8_weight, 2, false, (some .int), { frames := 1, cells := 0, slots := 0, locals := 21 }, [(0, .aload_n 0, 1), (1, .getfield 24, 3), (4, .iload_n 1, 1), (5, .invokestatic 37, 3), (8, .ireturn, 1)], [(24, 192, 5, 6, .array .int)], [], [])
theorem ok_X8_weight : aOK M_X8_weight := by unfold aOK; decide +kernel
def M_X8_told : aM := (RX8, cX8_told, 3, false, (some .int), { frames := 2, cells := 0, slots := 0, locals := 42 }, [(0, .iload_n 2, 1), (1, .tableswitch 61 0 3 #[31, 37, 43, 52], 31), (32, .aload_n 0, 1), (33, .iload_n 1, 1), (34, .invokevirtual 43, 3), (37, .ireturn, 1), (38, .aload_n 0, 1), (39, .iload_n 1, 1), (40, .invokevirtual 47, 3), (43, .ireturn, 1), (44, .aload_n 0, 1), (45, .getfield 18, 3), (48, .iload_n 1, 1), (49, .invokestatic 37, 3), (52, .ireturn, 1), (53, .aload_n 0, 1), (54, .iload_n 1, 1), (55, .invokevirtual 50, 3), (58, .ldc 53, 2), (60, .iadd, 1), (61, .ireturn, 1), (62, .aload_n 0, 1), (63, .iload_n 1, 1), (64, .invokevirtual 54, 3), (67, .ireturn, 1)], [(18, 190, 5, 4, .array .int)], [(53, 828, .int (50000000))], [])
theorem ok_X8_told : aOK M_X8_told := by unfold aOK; decide +kernel
def M_X8_pageOf : aM := (RX8, cX8_pageOf, 2, false, (some .int), { frames := 2, cells := 0, slots := 0, locals := 42 }, [(0, .aload_n 0, 1), (1, .iload_n 1, 1), (2, .invokevirtual 43, 3), (5, .lookupswitch 35 #[(5, 27), (6, 29)], 27), (32, .iconst (-1), 1), (33, .ireturn, 1), (34, .aload_n 0, 1), (35, .iload_n 1, 1), (36, .invokevirtual 47, 3), (39, .ireturn, 1), (40, .aload_n 0, 1), (41, .getfield 33, 3), (44, .aload_n 0, 1), (45, .iload_n 1, 1), (46, .invokevirtual 47, 3), (49, .iconst 4, 1), (50, .invokevirtual 57, 3), (53, .ireturn, 1)], [(33, 187, 5, 1, .object "NinePence$Ledger")], [], [])
theorem ok_X8_pageOf : aOK M_X8_pageOf := by unfold aOK; decide +kernel
def M_X8_standApart : aM := (RX8, cX8_standApart, 3, false, (some .boolean), { frames := 2, cells := 0, slots := 0, locals := 42 }, [(0, .aload_n 0, 1), (1, .iload_n 1, 1), (2, .invokevirtual 43, 3), (5, .bipush 6, 2), (7, .if_icmp .ne 7, 3), (10, .iconst 1, 1), (11, .goto 4, 3), (14, .iconst 0, 1), (15, .aload_n 0, 1), (16, .iload_n 2, 1), (17, .invokevirtual 43, 3), (20, .bipush 6, 2), (22, .if_icmp .ne 7, 3), (25, .iconst 1, 1), (26, .goto 4, 3), (29, .iconst 0, 1), (30, .if_icmp .ne 16, 3), (33, .aload_n 0, 1), (34, .iload_n 1, 1), (35, .invokevirtual 47, 3), (38, .aload_n 0, 1), (39, .iload_n 2, 1), (40, .invokevirtual 47, 3), (43, .if_icmp .eq 7, 3), (46, .iconst 1, 1), (47, .goto 4, 3), (50, .iconst 0, 1), (51, .ireturn, 1)], [], [], [])
theorem ok_X8_standApart : aOK M_X8_standApart := by unfold aOK; decide +kernel
def M_X8_chainOf : aM := (RX8, cX8_chainOf, 2, false, (some .int), { frames := 1, cells := 0, slots := 0, locals := 22 }, [(0, .aload_n 0, 1), (1, .getfield 27, 3), (4, .iload_n 1, 1), (5, .sipush 1021, 3), (8, .invokestatic 63, 3), (11, .invokestatic 37, 3), (14, .ireturn, 1)], [(27, 193, 5, 7, .array .int)], [], [])
theorem ok_X8_chainOf : aOK M_X8_chainOf := by unfold aOK; decide +kernel
def M_X8_nextInChain : aM := (RX8, cX8_nextInChain, 2, false, (some .int), { frames := 1, cells := 0, slots := 0, locals := 21 }, [(0, .aload_n 0, 1), (1, .getfield 30, 3), (4, .iload_n 1, 1), (5, .invokestatic 37, 3), (8, .ireturn, 1)], [(30, 194, 5, 8, .array .int)], [], [])
theorem ok_X8_nextInChain : aOK M_X8_nextInChain := by unfold aOK; decide +kernel
def M_X8_build : aM := (RX8, cX8_build, 3, false, none, { frames := 4, cells := 0, slots := 0, locals := 100 }, [(0, .aload_n 0, 1), (1, .iconst 0, 1), (2, .putfield 68, 3), (5, .iconst 0, 1), (6, .istore_n 1, 1), (7, .iload_n 1, 1), (8, .aload_n 0, 1), (9, .getfield 33, 3), (12, .getfield 72, 3), (15, .if_icmp .ge 29, 3), (18, .aload_n 0, 1), (19, .iload_n 1, 1), (20, .aload_n 0, 1), (21, .getfield 33, 3), (24, .iload_n 1, 1), (25, .iconst 1, 1), (26, .invokevirtual 57, 3), (29, .aload_n 0, 1), (30, .iload_n 1, 1), (31, .iconst 0, 1), (32, .invokevirtual 73, 3), (35, .invokevirtual 76, 3), (38, .iinc 1 1, 3), (41, .goto (-34), 3), (44, .iconst 0, 1), (45, .istore_n 1, 1), (46, .iload_n 1, 1), (47, .aload_n 0, 1), (48, .getfield 33, 3), (51, .getfield 72, 3), (54, .if_icmp .ge 29, 3), (57, .aload_n 0, 1), (58, .iload_n 1, 1), (59, .aload_n 0, 1), (60, .getfield 33, 3), (63, .iload_n 1, 1), (64, .iconst 1, 1), (65, .invokevirtual 57, 3), (68, .aload_n 0, 1), (69, .iload_n 1, 1), (70, .iconst 1, 1), (71, .invokevirtual 73, 3), (74, .invokevirtual 80, 3), (77, .iinc 1 1, 3), (80, .goto (-34), 3), (83, .iconst 0, 1), (84, .istore_n 1, 1), (85, .iload_n 1, 1), (86, .aload_n 0, 1), (87, .getfield 33, 3), (90, .getfield 72, 3), (93, .if_icmp .ge 51, 3), (96, .aload_n 0, 1), (97, .getfield 33, 3), (100, .iload_n 1, 1), (101, .iconst 1, 1), (102, .invokevirtual 57, 3), (105, .istore_n 2, 1), (106, .aload_n 0, 1), (107, .iconst 2, 1), (108, .iload_n 1, 1), (109, .iload_n 2, 1), (110, .invokestatic 83, 3), (113, .aload_n 0, 1), (114, .iload_n 1, 1), (115, .iconst 2, 1), (116, .invokevirtual 73, 3), (119, .invokevirtual 88, 3), (122, .aload_n 0, 1), (123, .iconst 2, 1), (124, .iload_n 1, 1), (125, .iload_n 2, 1), (126, .invokestatic 92, 3), (129, .aload_n 0, 1), (130, .iload_n 1, 1), (131, .iconst 2, 1), (132, .invokevirtual 73, 3), (135, .invokevirtual 88, 3), (138, .iinc 1 1, 3), (141, .goto (-56), 3), (144, .iconst 0, 1), (145, .istore_n 1, 1), (146, .iload_n 1, 1), (147, .aload_n 0, 1), (148, .getfield 33, 3), (151, .getfield 72, 3), (154, .if_icmp .ge 43, 3), (157, .aload_n 0, 1), (158, .getfield 33, 3), (161, .iload_n 1, 1), (162, .iconst 1, 1), (163, .invokevirtual 57, 3), (166, .istore_n 2, 1), (167, .aload_n 0, 1), (168, .iconst 3, 1), (169, .iload_n 1, 1), (170, .iload_n 2, 1), (171, .bipush (-2), 2), (173, .aload_n 0, 1), (174, .getfield 33, 3), (177, .iload_n 1, 1), (178, .invokevirtual 95, 3), (181, .imul, 1), (182, .aload_n 0, 1), (183, .iload_n 1, 1), (184, .iconst 3, 1), (185, .invokevirtual 73, 3), (188, .invokevirtual 98, 3), (191, .iinc 1 1, 3), (194, .goto (-48), 3), (197, .iconst 0, 1), (198, .istore_n 1, 1), (199, .iload_n 1, 1), (200, .aload_n 0, 1), (201, .getfield 33, 3), (204, .getfield 72, 3), (207, .if_icmp .ge 42, 3), (210, .aload_n 0, 1), (211, .getfield 33, 3), (214, .iload_n 1, 1), (215, .invokevirtual 102, 3), (218, .ifCond .eq 25, 3), (221, .aload_n 0, 1), (222, .iconst 4, 1), (223, .iload_n 1, 1), (224, .iconst 0, 1), (225, .aload_n 0, 1), (226, .getfield 33, 3), (229, .iload_n 1, 1), (230, .invokevirtual 95, 3), (233, .ineg, 1), (234, .aload_n 0, 1), (235, .iload_n 1, 1), (236, .iconst 4, 1), (237, .invokevirtual 73, 3), (240, .invokevirtual 98, 3), (243, .iinc 1 1, 3), (246, .goto (-47), 3), (249, .aload_n 0, 1), (250, .aload_n 0, 1), (251, .getfield 33, 3), (254, .iconst (-1), 1), (255, .invokevirtual 106, 3), (258, .invokevirtual 109, 3), (261, .iconst 0, 1), (262, .istore_n 1, 1), (263, .iload_n 1, 1), (264, .bipush 6, 2), (266, .if_icmp .ge 14, 3), (269, .aload_n 0, 1), (270, .iload_n 1, 1), (271, .invokevirtual 113, 3), (274, .iinc 1 1, 3), (277, .goto (-14), 3), (280, .aload_n 0, 1), (281, .invokevirtual 116, 3), (284, .return_, 1)], [(33, 187, 5, 1, .object "NinePence$Ledger"), (68, 186, 5, 0, .int), (72, 139, 0, 0, .int)], [], [])
theorem ok_X8_build : aOK M_X8_build := by unfold aOK; decide +kernel
def M_X8_oddsAt : aM := (RX8, cX8_oddsAt, 3, false, (some .int), { frames := 2, cells := 0, slots := 0, locals := 43 }, [(0, .aload_n 0, 1), (1, .getfield 33, 3), (4, .aload_n 0, 1), (5, .getfield 33, 3), (8, .iload_n 1, 1), (9, .iconst 3, 1), (10, .invokevirtual 57, 3), (13, .iload_n 2, 1), (14, .invokevirtual 119, 3), (17, .ireturn, 1)], [(33, 187, 5, 1, .object "NinePence$Ledger")], [], [])
theorem ok_X8_oddsAt : aOK M_X8_oddsAt := by unfold aOK; decide +kernel
def M_X8_putTurns : aM := (RX8, cX8_putTurns, 7, false, none, { frames := 3, cells := 0, slots := 0, locals := 72 }, [(0, .iload_n 2, 1), (1, .invokestatic 122, 3), (4, .iconst 2, 1), (5, .isub, 1), (6, .istore 4, 2), (8, .iload 4, 2), (10, .istore 5, 2), (12, .iload 5, 2), (14, .ifCond .lt 32, 3), (17, .iload_n 2, 1), (18, .iload 5, 2), (20, .invokestatic 125, 3), (23, .istore 6, 2), (25, .iload 6, 2), (27, .iload_n 2, 1), (28, .if_icmp .ge 12, 3), (31, .aload_n 0, 1), (32, .iconst 0, 1), (33, .iload_n 1, 1), (34, .iload 6, 2), (36, .iload_n 3, 1), (37, .invokevirtual 88, 3), (40, .iinc 5 (-1), 3), (43, .goto (-31), 3), (46, .iconst 0, 1), (47, .istore 5, 2), (49, .iload 5, 2), (51, .iload 4, 2), (53, .if_icmp .gt 32, 3), (56, .iload_n 2, 1), (57, .iload 5, 2), (59, .invokestatic 125, 3), (62, .istore 6, 2), (64, .iload 6, 2), (66, .iload_n 2, 1), (67, .if_icmp .le 12, 3), (70, .aload_n 0, 1), (71, .iconst 0, 1), (72, .iload_n 1, 1), (73, .iload 6, 2), (75, .iload_n 3, 1), (76, .invokevirtual 88, 3), (79, .iinc 5 1, 3), (82, .goto (-33), 3), (85, .return_, 1)], [], [], [])
theorem ok_X8_putTurns : aOK M_X8_putTurns := by unfold aOK; decide +kernel
def M_X8_putFigures : aM := (RX8, cX8_putFigures, 9, false, none, { frames := 3, cells := 0, slots := 0, locals := 72 }, [(0, .iload_n 2, 1), (1, .invokestatic 122, 3), (4, .iconst 1, 1), (5, .isub, 1), (6, .istore 4, 2), (8, .iload 4, 2), (10, .istore 5, 2), (12, .iload 5, 2), (14, .ifCond .lt 80, 3), (17, .iload_n 2, 1), (18, .iload 5, 2), (20, .invokestatic 128, 3), (23, .istore 6, 2), (25, .iload 5, 2), (27, .iload 4, 2), (29, .if_icmp .ne 7, 3), (32, .iconst 1, 1), (33, .goto 4, 3), (36, .iconst 0, 1), (37, .istore 7, 2), (39, .iload 7, 2), (41, .iload 6, 2), (43, .if_icmp .ge 45, 3), (46, .iload_n 2, 1), (47, .iload 7, 2), (49, .iload 6, 2), (51, .isub, 1), (52, .iload 5, 2), (54, .invokestatic 130, 3), (57, .imul, 1), (58, .iadd, 1), (59, .istore 8, 2), (61, .aload_n 0, 1), (62, .iconst 1, 1), (63, .iload_n 1, 1), (64, .iload 8, 2), (66, .iload_n 3, 1), (67, .aload_n 0, 1), (68, .getfield 33, 3), (71, .iload 7, 2), (73, .iload 6, 2), (75, .invokevirtual 133, 3), (78, .imul, 1), (79, .invokevirtual 88, 3), (82, .iinc 7 1, 3), (85, .goto (-46), 3), (88, .iinc 5 (-1), 3), (91, .goto (-79), 3), (94, .iconst 0, 1), (95, .istore 5, 2), (97, .iload 5, 2), (99, .iload 4, 2), (101, .if_icmp .gt 72, 3), (104, .iload_n 2, 1), (105, .iload 5, 2), (107, .invokestatic 128, 3), (110, .istore 6, 2), (112, .iload 6, 2), (114, .iconst 1, 1), (115, .iadd, 1), (116, .istore 7, 2), (118, .iload 7, 2), (120, .bipush 9, 2), (122, .if_icmp .gt 45, 3), (125, .iload_n 2, 1), (126, .iload 7, 2), (128, .iload 6, 2), (130, .isub, 1), (131, .iload 5, 2), (133, .invokestatic 130, 3), (136, .imul, 1), (137, .iadd, 1), (138, .istore 8, 2), (140, .aload_n 0, 1), (141, .iconst 1, 1), (142, .iload_n 1, 1), (143, .iload 8, 2), (145, .iload_n 3, 1), (146, .aload_n 0, 1), (147, .getfield 33, 3), (150, .iload 7, 2), (152, .iload 6, 2), (154, .invokevirtual 133, 3), (157, .imul, 1), (158, .invokevirtual 88, 3), (161, .iinc 7 1, 3), (164, .goto (-46), 3), (167, .iinc 5 1, 3), (170, .goto (-73), 3), (173, .return_, 1)], [(33, 187, 5, 1, .object "NinePence$Ledger")], [], [])
theorem ok_X8_putFigures : aOK M_X8_putFigures := by unfold aOK; decide +kernel
def M_X8_putMissed : aM := (RX8, cX8_putMissed, 3, false, none, { frames := 2, cells := 0, slots := 0, locals := 47 }, [(0, .iload_n 1, 1), (1, .invokestatic 136, 3), (4, .istore_n 2, 1), (5, .iload_n 2, 1), (6, .iconst 1, 1), (7, .if_icmp .lt 33, 3), (10, .iload_n 2, 1), (11, .ldc 139, 2), (13, .if_icmp .gt 27, 3), (16, .aload_n 0, 1), (17, .iconst 5, 1), (18, .iload_n 1, 1), (19, .ifCond .le 7, 3), (22, .iconst 1, 1), (23, .goto 4, 3), (26, .iconst 0, 1), (27, .iload_n 2, 1), (28, .iload_n 1, 1), (29, .ineg, 1), (30, .aload_n 0, 1), (31, .getfield 33, 3), (34, .getfield 140, 3), (37, .invokevirtual 98, 3), (40, .return_, 1)], [(33, 187, 5, 1, .object "NinePence$Ledger"), (140, 142, 0, 1, .int)], [(139, 712, .int (999999))], [])
theorem ok_X8_putMissed : aOK M_X8_putMissed := by unfold aOK; decide +kernel
def M_X8_putCarries : aM := (RX8, cX8_putCarries, 3, false, none, { frames := 2, cells := 0, slots := 0, locals := 47 }, [(0, .aload_n 0, 1), (1, .getfield 33, 3), (4, .iload_n 1, 1), (5, .invokevirtual 143, 3), (8, .ifCond .ne 4, 3), (11, .return_, 1), (12, .iconst 1, 1), (13, .istore_n 2, 1), (14, .iload_n 2, 1), (15, .iconst 5, 1), (16, .if_icmp .gt 48, 3), (19, .aload_n 0, 1), (20, .bipush 6, 2), (22, .iload_n 1, 1), (23, .iload_n 2, 1), (24, .iload_n 2, 1), (25, .invokestatic 130, 3), (28, .ineg, 1), (29, .aload_n 0, 1), (30, .getfield 33, 3), (33, .getfield 146, 3), (36, .invokevirtual 98, 3), (39, .aload_n 0, 1), (40, .bipush 6, 2), (42, .iload_n 1, 1), (43, .iload_n 2, 1), (44, .iload_n 2, 1), (45, .invokestatic 130, 3), (48, .aload_n 0, 1), (49, .getfield 33, 3), (52, .getfield 146, 3), (55, .invokevirtual 98, 3), (58, .iinc 2 1, 3), (61, .goto (-47), 3), (64, .return_, 1)], [(33, 187, 5, 1, .object "NinePence$Ledger"), (146, 145, 0, 2, .int)], [], [])
theorem ok_X8_putCarries : aOK M_X8_putCarries := by unfold aOK; decide +kernel
def M_X8_putSum : aM := (RX8, cX8_putSum, 6, false, none, { frames := 2, cells := 0, slots := 0, locals := 47 }, [(0, .iload_n 3, 1), (1, .ifCond .ne 4, 3), (4, .return_, 1), (5, .iload_n 3, 1), (6, .aload_n 0, 1), (7, .getfield 33, 3), (10, .iload_n 2, 1), (11, .iconst 1, 1), (12, .invokevirtual 57, 3), (15, .isub, 1), (16, .istore 5, 2), (18, .aload_n 0, 1), (19, .iload_n 1, 1), (20, .iload_n 2, 1), (21, .iload_n 3, 1), (22, .aload_n 0, 1), (23, .getfield 33, 3), (26, .iload_n 2, 1), (27, .iconst 0, 1), (28, .invokevirtual 57, 3), (31, .ifCond .ne 8, 3), (34, .iload 5, 2), (36, .goto 6, 3), (39, .iload 5, 2), (41, .ineg, 1), (42, .iload 4, 2), (44, .invokevirtual 98, 3), (47, .return_, 1)], [(33, 187, 5, 1, .object "NinePence$Ledger")], [], [])
theorem ok_X8_putSum : aOK M_X8_putSum := by unfold aOK; decide +kernel
def M_X8_put : aM := (RX8, cX8_put, 6, false, none, { frames := 1, cells := 0, slots := 0, locals := 22 }, [(0, .iload 5, 2), (2, .ifCond .le 13, 3), (5, .aload_n 0, 1), (6, .getfield 68, 3), (9, .sipush 1921, 3), (12, .if_icmp .lt 4, 3), (15, .return_, 1), (16, .aload_n 0, 1), (17, .getfield 9, 3), (20, .aload_n 0, 1), (21, .getfield 68, 3), (24, .iload_n 1, 1), (25, .invokestatic 149, 3), (28, .aload_n 0, 1), (29, .getfield 15, 3), (32, .aload_n 0, 1), (33, .getfield 68, 3), (36, .iload_n 2, 1), (37, .invokestatic 149, 3), (40, .aload_n 0, 1), (41, .getfield 18, 3), (44, .aload_n 0, 1), (45, .getfield 68, 3), (48, .iload_n 3, 1), (49, .invokestatic 149, 3), (52, .aload_n 0, 1), (53, .getfield 21, 3), (56, .aload_n 0, 1), (57, .getfield 68, 3), (60, .iload 4, 2), (62, .invokestatic 149, 3), (65, .aload_n 0, 1), (66, .getfield 24, 3), (69, .aload_n 0, 1), (70, .getfield 68, 3), (73, .iload 5, 2), (75, .invokestatic 149, 3), (78, .aload_n 0, 1), (79, .dup, 1), (80, .getfield 68, 3), (83, .iconst 1, 1), (84, .iadd, 1), (85, .putfield 68, 3), (88, .return_, 1)], [(9, 188, 5, 2, .array .int), (15, 189, 5, 3, .array .int), (18, 190, 5, 4, .array .int), (21, 191, 5, 5, .array .int), (24, 192, 5, 6, .array .int), (68, 186, 5, 0, .int)], [], [])
theorem ok_X8_put : aOK M_X8_put := by unfold aOK; decide +kernel
def M_X8_chain : aM := (RX8, cX8_chain, 3, false, none, { frames := 2, cells := 0, slots := 0, locals := 42 }, [(0, .aload_n 0, 1), (1, .getfield 27, 3), (4, .iconst (-1), 1), (5, .invokestatic 153, 3), (8, .aload_n 0, 1), (9, .getfield 68, 3), (12, .iconst 1, 1), (13, .isub, 1), (14, .istore_n 1, 1), (15, .iload_n 1, 1), (16, .ifCond .lt 46, 3), (19, .aload_n 0, 1), (20, .iload_n 1, 1), (21, .invokevirtual 50, 3), (24, .sipush 1021, 3), (27, .invokestatic 63, 3), (30, .istore_n 2, 1), (31, .aload_n 0, 1), (32, .getfield 30, 3), (35, .iload_n 1, 1), (36, .aload_n 0, 1), (37, .getfield 27, 3), (40, .iload_n 2, 1), (41, .invokestatic 37, 3), (44, .invokestatic 149, 3), (47, .aload_n 0, 1), (48, .getfield 27, 3), (51, .iload_n 2, 1), (52, .iload_n 1, 1), (53, .invokestatic 149, 3), (56, .iinc 1 (-1), 3), (59, .goto (-44), 3), (62, .return_, 1)], [(27, 193, 5, 7, .array .int), (30, 194, 5, 8, .array .int), (68, 186, 5, 0, .int)], [], [])
theorem ok_X8_chain : aOK M_X8_chain := by unfold aOK; decide +kernel
def M_X9_init : aM := (RX9, cX9_init, 1, true, none, { frames := 1, cells := 6, slots := 853, locals := 20 }, [(0, .aload_n 0, 1), (1, .invokespecial 3, 3), (4, .aload_n 0, 1), (5, .sipush 200, 3), (8, .newarray .int, 2), (10, .putfield 9, 3), (13, .aload_n 0, 1), (14, .sipush 201, 3), (17, .newarray .int, 2), (19, .putfield 15, 3), (22, .aload_n 0, 1), (23, .sipush 201, 3), (26, .newarray .int, 2), (28, .putfield 18, 3), (31, .aload_n 0, 1), (32, .sipush 201, 3), (35, .newarray .int, 2), (37, .putfield 21, 3), (40, .aload_n 0, 1), (41, .bipush 10, 2), (43, .newarray .int, 2), (45, .putfield 24, 3), (48, .aload_n 0, 1), (49, .bipush 40, 2), (51, .newarray .int, 2), (53, .putfield 27, 3), (56, .return_, 1)], [(9, 101, 6, 2, .array .int), (15, 102, 6, 3, .array .int), (18, 103, 6, 4, .array .int), (21, 104, 6, 5, .array .int), (24, 105, 6, 6, .array .int), (27, 106, 6, 7, .array .int)], [], [])
theorem ok_X9_init : aOK M_X9_init := by unfold aOK; decide +kernel
def M_X9_append : aM := (RX9, cX9_append, 2, false, none, { frames := 1, cells := 0, slots := 0, locals := 22 }, [(0, .aload_n 0, 1), (1, .getfield 9, 3), (4, .aload_n 0, 1), (5, .getfield 30, 3), (8, .iload_n 1, 1), (9, .invokestatic 34, 3), (12, .aload_n 0, 1), (13, .dup, 1), (14, .getfield 30, 3), (17, .iconst 1, 1), (18, .iadd, 1), (19, .putfield 30, 3), (22, .return_, 1)], [(9, 101, 6, 2, .array .int), (30, 96, 6, 0, .int)], [], [])
theorem ok_X9_append : aOK M_X9_append := by unfold aOK; decide +kernel
def M_X9_word : aM := (RX9, cX9_word, 2, false, (some .int), { frames := 1, cells := 0, slots := 0, locals := 21 }, [(0, .aload_n 0, 1), (1, .getfield 24, 3), (4, .iload_n 1, 1), (5, .invokestatic 40, 3), (8, .ireturn, 1)], [(24, 105, 6, 6, .array .int)], [], [])
theorem ok_X9_word : aOK M_X9_word := by unfold aOK; decide +kernel
def M_X9_number : aM := (RX9, cX9_number, 3, false, (some .int), { frames := 1, cells := 0, slots := 0, locals := 21 }, [(0, .aload_n 0, 1), (1, .getfield 27, 3), (4, .iload_n 1, 1), (5, .iconst 4, 1), (6, .imul, 1), (7, .iload_n 2, 1), (8, .iadd, 1), (9, .invokestatic 40, 3), (12, .ireturn, 1)], [(27, 106, 6, 7, .array .int)], [], [])
theorem ok_X9_number : aOK M_X9_number := by unfold aOK; decide +kernel
def M_X9_read : aM := (RX9, cX9_read, 3, false, (some .int), { frames := 9, cells := 0, slots := 0, locals := 198 }, [(0, .aload_n 0, 1), (1, .invokevirtual 44, 3), (4, .aload_n 0, 1), (5, .iconst 0, 1), (6, .putfield 47, 3), (9, .aload_n 0, 1), (10, .iconst 0, 1), (11, .putfield 50, 3), (14, .iconst 0, 1), (15, .istore_n 1, 1), (16, .iload_n 1, 1), (17, .bipush 10, 2), (19, .if_icmp .ge 93, 3), (22, .aload_n 0, 1), (23, .iload_n 1, 1), (24, .invokevirtual 53, 3), (27, .ifCond .ne 15, 3), (30, .aload_n 0, 1), (31, .getfield 18, 3), (34, .aload_n 0, 1), (35, .getfield 47, 3), (38, .invokestatic 40, 3), (41, .ireturn, 1), (42, .aload_n 0, 1), (43, .dup, 1), (44, .getfield 50, 3), (47, .iconst 1, 1), (48, .iadd, 1), (49, .putfield 50, 3), (52, .aload_n 0, 1), (53, .getfield 15, 3), (56, .aload_n 0, 1), (57, .getfield 47, 3), (60, .invokestatic 40, 3), (63, .istore_n 2, 1), (64, .iload_n 2, 1), (65, .ifCond .ne 5, 3), (68, .iconst (-1), 1), (69, .ireturn, 1), (70, .iload_n 2, 1), (71, .iconst 2, 1), (72, .if_icmp .ne 12, 3), (75, .aload_n 0, 1), (76, .getfield 50, 3), (79, .bipush 10, 2), (81, .if_icmp .ne 15, 3), (84, .aload_n 0, 1), (85, .getfield 18, 3), (88, .aload_n 0, 1), (89, .getfield 47, 3), (92, .invokestatic 40, 3), (95, .ireturn, 1), (96, .aload_n 0, 1), (97, .dup, 1), (98, .getfield 47, 3), (101, .iconst 1, 1), (102, .iadd, 1), (103, .putfield 47, 3), (106, .iinc 1 1, 3), (109, .goto (-93), 3), (112, .aload_n 0, 1), (113, .getfield 18, 3), (116, .aload_n 0, 1), (117, .getfield 47, 3), (120, .invokestatic 40, 3), (123, .ireturn, 1)], [(15, 102, 6, 3, .array .int), (18, 103, 6, 4, .array .int), (47, 107, 6, 8, .int), (50, 98, 6, 1, .int)], [], [])
theorem ok_X9_read : aOK M_X9_read := by unfold aOK; decide +kernel
def M_X9_readLine : aM := (RX9, cX9_readLine, 3, false, (some .boolean), { frames := 3, cells := 0, slots := 0, locals := 69 }, [(0, .aload_n 0, 1), (1, .getfield 15, 3), (4, .aload_n 0, 1), (5, .getfield 47, 3), (8, .invokestatic 40, 3), (11, .istore_n 2, 1), (12, .iload_n 2, 1), (13, .bipush 10, 2), (15, .if_icmp .lt 9, 3), (18, .iload_n 2, 1), (19, .bipush 17, 2), (21, .if_icmp .le 5, 3), (24, .iconst 0, 1), (25, .ireturn, 1), (26, .aload_n 0, 1), (27, .getfield 24, 3), (30, .iload_n 1, 1), (31, .iload_n 2, 1), (32, .invokestatic 34, 3), (35, .aload_n 0, 1), (36, .dup, 1), (37, .getfield 47, 3), (40, .iconst 1, 1), (41, .iadd, 1), (42, .putfield 47, 3), (45, .iload_n 2, 1), (46, .tableswitch 225 10 17 #[46, 46, 98, 138, 225, 225, 225, 200], 46), (92, .aload_n 0, 1), (93, .iload_n 1, 1), (94, .iconst 0, 1), (95, .iconst 1, 1), (96, .ldc 57, 2), (98, .invokevirtual 58, 3), (101, .ifCond .eq 41, 3), (104, .aload_n 0, 1), (105, .iload_n 1, 1), (106, .iconst 1, 1), (107, .iconst 0, 1), (108, .bipush 7, 2), (110, .invokevirtual 58, 3), (113, .ifCond .eq 29, 3), (116, .aload_n 0, 1), (117, .iload_n 1, 1), (118, .iconst 2, 1), (119, .iconst 0, 1), (120, .iconst 3, 1), (121, .invokevirtual 58, 3), (124, .ifCond .eq 18, 3), (127, .aload_n 0, 1), (128, .iload_n 1, 1), (129, .iconst 3, 1), (130, .iconst 0, 1), (131, .iconst 5, 1), (132, .invokevirtual 58, 3), (135, .ifCond .eq 7, 3), (138, .iconst 1, 1), (139, .goto 4, 3), (142, .iconst 0, 1), (143, .ireturn, 1), (144, .aload_n 0, 1), (145, .iload_n 1, 1), (146, .iconst 0, 1), (147, .iconst 0, 1), (148, .iconst 3, 1), (149, .invokevirtual 58, 3), (152, .ifCond .eq 30, 3), (155, .aload_n 0, 1), (156, .iload_n 1, 1), (157, .iconst 1, 1), (158, .iconst 0, 1), (159, .iconst 4, 1), (160, .invokevirtual 58, 3), (163, .ifCond .eq 19, 3), (166, .aload_n 0, 1), (167, .iload_n 1, 1), (168, .iconst 2, 1), (169, .iconst 0, 1), (170, .bipush 99, 2), (172, .invokevirtual 58, 3), (175, .ifCond .eq 7, 3), (178, .iconst 1, 1), (179, .goto 4, 3), (182, .iconst 0, 1), (183, .ireturn, 1), (184, .aload_n 0, 1), (185, .iload_n 1, 1), (186, .iconst 0, 1), (187, .iconst 0, 1), (188, .bipush 9, 2), (190, .invokevirtual 58, 3), (193, .ifCond .eq 51, 3), (196, .aload_n 0, 1), (197, .getfield 21, 3), (200, .aload_n 0, 1), (201, .getfield 47, 3), (204, .invokestatic 40, 3), (207, .aload_n 0, 1), (208, .iload_n 1, 1), (209, .iconst 0, 1), (210, .invokevirtual 62, 3), (213, .if_icmp .eq 31, 3), (216, .aload_n 0, 1), (217, .iload_n 1, 1), (218, .iconst 1, 1), (219, .iconst 0, 1), (220, .bipush 9, 2), (222, .invokevirtual 58, 3), (225, .ifCond .eq 19, 3), (228, .aload_n 0, 1), (229, .iload_n 1, 1), (230, .iconst 2, 1), (231, .iconst 0, 1), (232, .bipush 99, 2), (234, .invokevirtual 58, 3), (237, .ifCond .eq 7, 3), (240, .iconst 1, 1), (241, .goto 4, 3), (244, .iconst 0, 1), (245, .ireturn, 1), (246, .aload_n 0, 1), (247, .iload_n 1, 1), (248, .iconst 0, 1), (249, .iconst 0, 1), (250, .iconst 5, 1), (251, .invokevirtual 58, 3), (254, .ifCond .eq 15, 3), (257, .aload_n 0, 1), (258, .iload_n 1, 1), (259, .invokevirtual 66, 3), (262, .ifCond .eq 7, 3), (265, .iconst 1, 1), (266, .goto 4, 3), (269, .iconst 0, 1), (270, .ireturn, 1), (271, .aload_n 0, 1), (272, .iload_n 1, 1), (273, .iconst 0, 1), (274, .iconst 0, 1), (275, .bipush 99, 2), (277, .invokevirtual 58, 3), (280, .ireturn, 1)], [(15, 102, 6, 3, .array .int), (21, 104, 6, 5, .array .int), (24, 105, 6, 6, .array .int), (47, 107, 6, 8, .int)], [(57, 487, .int (999999))], [])
theorem ok_X9_readLine : aOK M_X9_readLine := by unfold aOK; decide +kernel
def M_X9_readDue : aM := (RX9, cX9_readDue, 3, false, (some .boolean), { frames := 2, cells := 0, slots := 0, locals := 47 }, [(0, .aload_n 0, 1), (1, .getfield 15, 3), (4, .aload_n 0, 1), (5, .getfield 47, 3), (8, .invokestatic 40, 3), (11, .istore_n 2, 1), (12, .iload_n 2, 1), (13, .bipush 10, 2), (15, .if_icmp .eq 17, 3), (18, .iload_n 2, 1), (19, .bipush 11, 2), (21, .if_icmp .eq 11, 3), (24, .iload_n 2, 1), (25, .bipush 18, 2), (27, .if_icmp .eq 5, 3), (30, .iconst 0, 1), (31, .ireturn, 1), (32, .aload_n 0, 1), (33, .getfield 27, 3), (36, .iload_n 1, 1), (37, .iconst 4, 1), (38, .imul, 1), (39, .iconst 1, 1), (40, .iadd, 1), (41, .iload_n 2, 1), (42, .invokestatic 34, 3), (45, .aload_n 0, 1), (46, .dup, 1), (47, .getfield 47, 3), (50, .iconst 1, 1), (51, .iadd, 1), (52, .putfield 47, 3), (55, .iload_n 2, 1), (56, .bipush 18, 2), (58, .if_icmp .eq 15, 3), (61, .aload_n 0, 1), (62, .iload_n 1, 1), (63, .iconst 2, 1), (64, .iconst 0, 1), (65, .ldc 57, 2), (67, .invokevirtual 58, 3), (70, .ifCond .eq 7, 3), (73, .iconst 1, 1), (74, .goto 4, 3), (77, .iconst 0, 1), (78, .ireturn, 1)], [(15, 102, 6, 3, .array .int), (27, 106, 6, 7, .array .int), (47, 107, 6, 8, .int)], [(57, 487, .int (999999))], [])
theorem ok_X9_readDue : aOK M_X9_readDue := by unfold aOK; decide +kernel
def M_X9_takeNumber : aM := (RX9, cX9_takeNumber, 6, false, (some .boolean), { frames := 1, cells := 0, slots := 0, locals := 22 }, [(0, .aload_n 0, 1), (1, .getfield 21, 3), (4, .aload_n 0, 1), (5, .getfield 47, 3), (8, .invokestatic 40, 3), (11, .istore 5, 2), (13, .aload_n 0, 1), (14, .getfield 15, 3), (17, .aload_n 0, 1), (18, .getfield 47, 3), (21, .invokestatic 40, 3), (24, .iconst 1, 1), (25, .if_icmp .ne 16, 3), (28, .iload 5, 2), (30, .iload_n 3, 1), (31, .if_icmp .lt 10, 3), (34, .iload 5, 2), (36, .iload 4, 2), (38, .if_icmp .le 5, 3), (41, .iconst 0, 1), (42, .ireturn, 1), (43, .aload_n 0, 1), (44, .getfield 27, 3), (47, .iload_n 1, 1), (48, .iconst 4, 1), (49, .imul, 1), (50, .iload_n 2, 1), (51, .iadd, 1), (52, .iload 5, 2), (54, .invokestatic 34, 3), (57, .aload_n 0, 1), (58, .dup, 1), (59, .getfield 47, 3), (62, .iconst 1, 1), (63, .iadd, 1), (64, .putfield 47, 3), (67, .iconst 1, 1), (68, .ireturn, 1)], [(15, 102, 6, 3, .array .int), (21, 104, 6, 5, .array .int), (27, 106, 6, 7, .array .int), (47, 107, 6, 8, .int)], [], [])
theorem ok_X9_takeNumber : aOK M_X9_takeNumber := by unfold aOK; decide +kernel
def M_X9_split : aM := (RX9, cX9_split, 3, false, none, { frames := 8, cells := 0, slots := 0, locals := 176 }, [(0, .iconst 0, 1), (1, .istore_n 1, 1), (2, .iconst 0, 1), (3, .istore_n 2, 1), (4, .iload_n 2, 1), (5, .aload_n 0, 1), (6, .getfield 30, 3), (9, .if_icmp .ge 26, 3), (12, .aload_n 0, 1), (13, .iload_n 2, 1), (14, .invokevirtual 69, 3), (17, .ifCond .eq 12, 3), (20, .aload_n 0, 1), (21, .iload_n 1, 1), (22, .iload_n 2, 1), (23, .invokevirtual 72, 3), (26, .iinc 1 1, 3), (29, .iinc 2 1, 3), (32, .goto (-28), 3), (35, .aload_n 0, 1), (36, .getfield 15, 3), (39, .iload_n 1, 1), (40, .iconst 0, 1), (41, .invokestatic 34, 3), (44, .aload_n 0, 1), (45, .getfield 18, 3), (48, .iload_n 1, 1), (49, .aload_n 0, 1), (50, .getfield 30, 3), (53, .invokestatic 34, 3), (56, .aload_n 0, 1), (57, .getfield 21, 3), (60, .iload_n 1, 1), (61, .iconst (-1), 1), (62, .invokestatic 34, 3), (65, .return_, 1)], [(15, 102, 6, 3, .array .int), (18, 103, 6, 4, .array .int), (21, 104, 6, 5, .array .int), (30, 96, 6, 0, .int)], [], [])
theorem ok_X9_split : aOK M_X9_split := by unfold aOK; decide +kernel
def M_X9_isBegin : aM := (RX9, cX9_isBegin, 4, false, (some .boolean), { frames := 2, cells := 0, slots := 0, locals := 43 }, [(0, .aload_n 0, 1), (1, .iload_n 1, 1), (2, .invokevirtual 76, 3), (5, .istore_n 2, 1), (6, .iload_n 2, 1), (7, .invokestatic 80, 3), (10, .ifCond .eq 22, 3), (13, .iload_n 1, 1), (14, .ifCond .le 18, 3), (17, .aload_n 0, 1), (18, .iload_n 1, 1), (19, .iconst 1, 1), (20, .isub, 1), (21, .invokevirtual 76, 3), (24, .iload_n 2, 1), (25, .if_icmp .ne 7, 3), (28, .iconst 1, 1), (29, .goto 4, 3), (32, .iconst 0, 1), (33, .istore_n 3, 1), (34, .iload_n 2, 1), (35, .ifCond .eq 11, 3), (38, .iload_n 3, 1), (39, .ifCond .ne 7, 3), (42, .iconst 1, 1), (43, .goto 4, 3), (46, .iconst 0, 1), (47, .ireturn, 1)], [], [], [])
theorem ok_X9_isBegin : aOK M_X9_isBegin := by unfold aOK; decide +kernel
def M_X9_setToken : aM := (RX9, cX9_setToken, 5, false, none, { frames := 7, cells := 0, slots := 0, locals := 152 }, [(0, .aload_n 0, 1), (1, .iload_n 2, 1), (2, .invokevirtual 76, 3), (5, .istore_n 3, 1), (6, .iload_n 2, 1), (7, .iconst 1, 1), (8, .iadd, 1), (9, .istore 4, 2), (11, .iload_n 3, 1), (12, .invokestatic 80, 3), (15, .ifCond .eq 28, 3), (18, .iload 4, 2), (20, .aload_n 0, 1), (21, .getfield 30, 3), (24, .if_icmp .ge 19, 3), (27, .aload_n 0, 1), (28, .iload 4, 2), (30, .invokevirtual 76, 3), (33, .iload_n 3, 1), (34, .if_icmp .ne 9, 3), (37, .iinc 4 1, 3), (40, .goto (-29), 3), (43, .aload_n 0, 1), (44, .getfield 18, 3), (47, .iload_n 1, 1), (48, .iload_n 2, 1), (49, .invokestatic 34, 3), (52, .aload_n 0, 1), (53, .getfield 21, 3), (56, .iload_n 1, 1), (57, .iload_n 3, 1), (58, .iconst 2, 1), (59, .if_icmp .ne 13, 3), (62, .aload_n 0, 1), (63, .iload_n 2, 1), (64, .iload 4, 2), (66, .invokevirtual 83, 3), (69, .goto 4, 3), (72, .iconst (-1), 1), (73, .invokestatic 34, 3), (76, .iload_n 3, 1), (77, .iconst 1, 1), (78, .if_icmp .ne 21, 3), (81, .aload_n 0, 1), (82, .getfield 15, 3), (85, .iload_n 1, 1), (86, .aload_n 0, 1), (87, .iload_n 2, 1), (88, .iload 4, 2), (90, .invokevirtual 86, 3), (93, .invokestatic 34, 3), (96, .goto 46, 3), (99, .iload_n 3, 1), (100, .iconst 2, 1), (101, .if_icmp .ne 15, 3), (104, .aload_n 0, 1), (105, .getfield 15, 3), (108, .iload_n 1, 1), (109, .iconst 1, 1), (110, .invokestatic 34, 3), (113, .goto 29, 3), (116, .aload_n 0, 1), (117, .getfield 15, 3), (120, .iload_n 1, 1), (121, .aload_n 0, 1), (122, .getfield 9, 3), (125, .iload_n 2, 1), (126, .invokestatic 40, 3), (129, .bipush 59, 2), (131, .if_icmp .ne 7, 3), (134, .iconst 2, 1), (135, .goto 4, 3), (138, .iconst 3, 1), (139, .invokestatic 34, 3), (142, .return_, 1)], [(9, 101, 6, 2, .array .int), (15, 102, 6, 3, .array .int), (18, 103, 6, 4, .array .int), (21, 104, 6, 5, .array .int), (30, 96, 6, 0, .int)], [], [])
theorem ok_X9_setToken : aOK M_X9_setToken := by unfold aOK; decide +kernel
def M_X9_isRow : aM := (RX9, cX9_isRow, 1, false, (some .boolean), { frames := 0, cells := 0, slots := 0, locals := 0 }, [(0, .iload_n 0, 1), (1, .iconst 1, 1), (2, .if_icmp .eq 8, 3), (5, .iload_n 0, 1), (6, .iconst 2, 1), (7, .if_icmp .ne 7, 3), (10, .iconst 1, 1), (11, .goto 4, 3), (14, .iconst 0, 1), (15, .ireturn, 1)], [], [], [])
theorem ok_X9_isRow : aOK M_X9_isRow := by unfold aOK; decide +kernel
def M_X9_sortAt : aM := (RX9, cX9_sortAt, 3, false, (some .int), { frames := 1, cells := 0, slots := 0, locals := 21 }, [(0, .aload_n 0, 1), (1, .getfield 9, 3), (4, .iload_n 1, 1), (5, .invokestatic 40, 3), (8, .istore_n 2, 1), (9, .iload_n 2, 1), (10, .bipush 32, 2), (12, .if_icmp .ne 5, 3), (15, .iconst 0, 1), (16, .ireturn, 1), (17, .iload_n 2, 1), (18, .bipush 97, 2), (20, .if_icmp .lt 11, 3), (23, .iload_n 2, 1), (24, .bipush 122, 2), (26, .if_icmp .gt 5, 3), (29, .iconst 1, 1), (30, .ireturn, 1), (31, .iload_n 2, 1), (32, .bipush 48, 2), (34, .if_icmp .lt 13, 3), (37, .iload_n 2, 1), (38, .bipush 57, 2), (40, .if_icmp .gt 7, 3), (43, .iconst 2, 1), (44, .goto 4, 3), (47, .iconst 3, 1), (48, .ireturn, 1)], [(9, 101, 6, 2, .array .int)], [], [])
theorem ok_X9_sortAt : aOK M_X9_sortAt := by unfold aOK; decide +kernel
def M_X9_valueOf : aM := (RX9, cX9_valueOf, 5, false, (some .int), { frames := 1, cells := 0, slots := 0, locals := 21 }, [(0, .iload_n 2, 1), (1, .iload_n 1, 1), (2, .isub, 1), (3, .bipush 6, 2), (5, .if_icmp .le 5, 3), (8, .iconst (-1), 1), (9, .ireturn, 1), (10, .iconst 0, 1), (11, .istore_n 3, 1), (12, .iload_n 1, 1), (13, .istore 4, 2), (15, .iload 4, 2), (17, .iload_n 2, 1), (18, .if_icmp .ge 27, 3), (21, .iload_n 3, 1), (22, .bipush 10, 2), (24, .imul, 1), (25, .aload_n 0, 1), (26, .getfield 9, 3), (29, .iload 4, 2), (31, .invokestatic 40, 3), (34, .iadd, 1), (35, .bipush 48, 2), (37, .isub, 1), (38, .istore_n 3, 1), (39, .iinc 4 1, 3), (42, .goto (-27), 3), (45, .iload_n 3, 1), (46, .ireturn, 1)], [(9, 101, 6, 2, .array .int)], [], [])
theorem ok_X9_valueOf : aOK M_X9_valueOf := by unfold aOK; decide +kernel
def M_X9_wordOf : aM := (RX9, cX9_wordOf, 3, false, (some .int), { frames := 6, cells := 0, slots := 0, locals := 130 }, [(0, .aload_n 0, 1), (1, .ldc 89, 2), (3, .iload_n 1, 1), (4, .iload_n 2, 1), (5, .invokevirtual 91, 3), (8, .ifCond .eq 6, 3), (11, .bipush 10, 2), (13, .ireturn, 1), (14, .aload_n 0, 1), (15, .ldc 95, 2), (17, .iload_n 1, 1), (18, .iload_n 2, 1), (19, .invokevirtual 91, 3), (22, .ifCond .eq 6, 3), (25, .bipush 11, 2), (27, .ireturn, 1), (28, .aload_n 0, 1), (29, .ldc 97, 2), (31, .iload_n 1, 1), (32, .iload_n 2, 1), (33, .invokevirtual 91, 3), (36, .ifCond .eq 6, 3), (39, .bipush 12, 2), (41, .ireturn, 1), (42, .aload_n 0, 1), (43, .ldc 99, 2), (45, .iload_n 1, 1), (46, .iload_n 2, 1), (47, .invokevirtual 91, 3), (50, .ifCond .eq 6, 3), (53, .bipush 13, 2), (55, .ireturn, 1), (56, .aload_n 0, 1), (57, .ldc 101, 2), (59, .iload_n 1, 1), (60, .iload_n 2, 1), (61, .invokevirtual 91, 3), (64, .ifCond .eq 6, 3), (67, .bipush 14, 2), (69, .ireturn, 1), (70, .aload_n 0, 1), (71, .ldc 103, 2), (73, .iload_n 1, 1), (74, .iload_n 2, 1), (75, .invokevirtual 91, 3), (78, .ifCond .eq 6, 3), (81, .bipush 15, 2), (83, .ireturn, 1), (84, .aload_n 0, 1), (85, .ldc 105, 2), (87, .iload_n 1, 1), (88, .iload_n 2, 1), (89, .invokevirtual 91, 3), (92, .ifCond .eq 6, 3), (95, .bipush 16, 2), (97, .ireturn, 1), (98, .aload_n 0, 1), (99, .ldc 107, 2), (101, .iload_n 1, 1), (102, .iload_n 2, 1), (103, .invokevirtual 91, 3), (106, .ifCond .eq 6, 3), (109, .bipush 17, 2), (111, .ireturn, 1), (112, .aload_n 0, 1), (113, .ldc 109, 2), (115, .iload_n 1, 1), (116, .iload_n 2, 1), (117, .invokevirtual 91, 3), (120, .ifCond .eq 8, 3), (123, .bipush 18, 2), (125, .goto 4, 3), (128, .iconst 3, 1), (129, .ireturn, 1)], [], [(89, 0, .ref 1002), (95, 0, .ref 1003), (97, 0, .ref 1004), (99, 0, .ref 1005), (101, 0, .ref 1006), (103, 0, .ref 1007), (105, 0, .ref 1008), (107, 0, .ref 1009), (109, 0, .ref 1010)], [])
theorem ok_X9_wordOf : aOK M_X9_wordOf := by unfold aOK; decide +kernel
def M_X9_is : aM := (RX9, cX9_is, 5, false, (some .boolean), { frames := 5, cells := 0, slots := 0, locals := 106 }, [(0, .iload_n 3, 1), (1, .iload_n 2, 1), (2, .isub, 1), (3, .aload_n 1, 1), (4, .invokevirtual 111, 3), (7, .if_icmp .eq 5, 3), (10, .iconst 0, 1), (11, .ireturn, 1), (12, .iconst 0, 1), (13, .istore 4, 2), (15, .iload 4, 2), (17, .aload_n 1, 1), (18, .invokevirtual 111, 3), (21, .if_icmp .ge 31, 3), (24, .aload_n 1, 1), (25, .iload 4, 2), (27, .invokevirtual 116, 3), (30, .aload_n 0, 1), (31, .getfield 9, 3), (34, .iload_n 2, 1), (35, .iload 4, 2), (37, .iadd, 1), (38, .invokestatic 40, 3), (41, .if_icmp .eq 5, 3), (44, .iconst 0, 1), (45, .ireturn, 1), (46, .iinc 4 1, 3), (49, .goto (-34), 3), (52, .iconst 1, 1), (53, .ireturn, 1)], [(9, 101, 6, 2, .array .int)], [], [])
theorem ok_X9_is : aOK M_X9_is := by unfold aOK; decide +kernel
def M_X10_init : aM := (RX10, cX10_init, 1, true, none, { frames := 2, cells := 41, slots := 14615, locals := 43 }, [(0, .aload_n 0, 1), (1, .invokespecial 3, 3), (4, .aload_n 0, 1), (5, .new 9, 3), (8, .dup, 1), (9, .invokespecial 11, 3), (12, .putfield 12, 3), (15, .aload_n 0, 1), (16, .new 16, 3), (19, .dup, 1), (20, .invokespecial 18, 3), (23, .putfield 19, 3), (26, .aload_n 0, 1), (27, .new 23, 3), (30, .dup, 1), (31, .aload_n 0, 1), (32, .getfield 19, 3), (35, .invokespecial 25, 3), (38, .putfield 28, 3), (41, .aload_n 0, 1), (42, .new 32, 3), (45, .dup, 1), (46, .aload_n 0, 1), (47, .getfield 19, 3), (50, .aload_n 0, 1), (51, .getfield 28, 3), (54, .iconst 0, 1), (55, .invokespecial 34, 3), (58, .putfield 37, 3), (61, .aload_n 0, 1), (62, .new 32, 3), (65, .dup, 1), (66, .aload_n 0, 1), (67, .getfield 19, 3), (70, .aload_n 0, 1), (71, .getfield 28, 3), (74, .iconst 1, 1), (75, .invokespecial 34, 3), (78, .putfield 41, 3), (81, .aload_n 0, 1), (82, .new 44, 3), (85, .dup, 1), (86, .aload_n 0, 1), (87, .getfield 28, 3), (90, .invokespecial 46, 3), (93, .putfield 49, 3), (96, .aload_n 0, 1), (97, .new 44, 3), (100, .dup, 1), (101, .aload_n 0, 1), (102, .getfield 28, 3), (105, .invokespecial 46, 3), (108, .putfield 53, 3), (111, .aload_n 0, 1), (112, .new 56, 3), (115, .dup, 1), (116, .aload_n 0, 1), (117, .getfield 19, 3), (120, .aload_n 0, 1), (121, .getfield 28, 3), (124, .aload_n 0, 1), (125, .getfield 37, 3), (128, .invokespecial 58, 3), (131, .putfield 61, 3), (134, .aload_n 0, 1), (135, .new 56, 3), (138, .dup, 1), (139, .aload_n 0, 1), (140, .getfield 19, 3), (143, .aload_n 0, 1), (144, .getfield 28, 3), (147, .aload_n 0, 1), (148, .getfield 41, 3), (151, .invokespecial 58, 3), (154, .putfield 65, 3), (157, .aload_n 0, 1), (158, .new 68, 3), (161, .dup, 1), (162, .aload_n 0, 1), (163, .getfield 19, 3), (166, .invokespecial 70, 3), (169, .putfield 71, 3), (172, .aload_n 0, 1), (173, .iconst (-1), 1), (174, .putfield 75, 3), (177, .return_, 1)], [(12, 334, 7, 0, .object "NinePence$Text"), (19, 335, 7, 1, .object "NinePence$Ledger"), (28, 336, 7, 2, .object "NinePence$Slips"), (37, 337, 7, 3, .object "NinePence$Singles"), (41, 338, 7, 4, .object "NinePence$Singles"), (49, 339, 7, 5, .object "NinePence$Pairs"), (53, 340, 7, 6, .object "NinePence$Pairs"), (61, 341, 7, 7, .object "NinePence$Look"), (65, 342, 7, 8, .object "NinePence$Look"), (71, 343, 7, 9, .object "NinePence$OtherBook"), (75, 344, 7, 10, .int)], [], [])
theorem ok_X10_init : aOK M_X10_init := by unfold aOK; decide +kernel
def M_X10_write : aM := (RX10, cX10_write, 5, false, (some .int), { frames := 2, cells := 0, slots := 0, locals := 43 }, [(0, .iload_n 3, 1), (1, .iconst 1, 1), (2, .if_icmp .lt 9, 3), (5, .iload_n 3, 1), (6, .bipush 8, 2), (8, .if_icmp .le 6, 3), (11, .bipush (-3), 2), (13, .ireturn, 1), (14, .aload_n 0, 1), (15, .getfield 12, 3), (18, .getfield 79, 3), (21, .iload_n 3, 1), (22, .iadd, 1), (23, .sipush 200, 3), (26, .if_icmp .le 6, 3), (29, .bipush (-5), 2), (31, .ireturn, 1), (32, .iconst 0, 1), (33, .istore 4, 2), (35, .iload 4, 2), (37, .iload_n 3, 1), (38, .if_icmp .ge 28, 3), (41, .aload_n 0, 1), (42, .getfield 12, 3), (45, .lload_n 1, 1), (46, .bipush 8, 2), (48, .iload 4, 2), (50, .imul, 1), (51, .lshr, 1), (52, .ldc2_w 82, 3), (55, .land, 1), (56, .l2i, 1), (57, .invokevirtual 84, 3), (60, .iinc 4 1, 3), (63, .goto (-28), 3), (66, .aload_n 0, 1), (67, .getfield 12, 3), (70, .getfield 79, 3), (73, .ireturn, 1)], [(12, 334, 7, 0, .object "NinePence$Text"), (79, 97, 6, 0, .int)], [(82, 372, .long (255))], [])
theorem ok_X10_write : aOK M_X10_write := by unfold aOK; decide +kernel
def M_X10_erase : aM := (RX10, cX10_erase, 2, false, (some .int), { frames := 0, cells := 0, slots := 0, locals := 0 }, [(0, .aload_n 0, 1), (1, .getfield 12, 3), (4, .getfield 79, 3), (7, .istore_n 1, 1), (8, .aload_n 0, 1), (9, .getfield 12, 3), (12, .iconst 0, 1), (13, .putfield 79, 3), (16, .iload_n 1, 1), (17, .ireturn, 1)], [(12, 334, 7, 0, .object "NinePence$Text"), (79, 97, 6, 0, .int)], [], [])
theorem ok_X10_erase : aOK M_X10_erase := by unfold aOK; decide +kernel
def M_X10_fault : aM := (RX10, cX10_fault, 1, false, (some .int), { frames := 10, cells := 0, slots := 0, locals := 220 }, [(0, .aload_n 0, 1), (1, .getfield 12, 3), (4, .invokevirtual 88, 3), (7, .ireturn, 1)], [(12, 334, 7, 0, .object "NinePence$Text")], [], [])
theorem ok_X10_fault : aOK M_X10_fault := by unfold aOK; decide +kernel
def M_X10_book : aM := (RX10, cX10_book, 1, false, (some .int), { frames := 10, cells := 0, slots := 0, locals := 220 }, [(0, .aload_n 0, 1), (1, .getfield 12, 3), (4, .invokevirtual 88, 3), (7, .iconst (-1), 1), (8, .if_icmp .eq 6, 3), (11, .bipush (-4), 2), (13, .ireturn, 1), (14, .aload_n 0, 1), (15, .getfield 19, 3), (18, .aload_n 0, 1), (19, .getfield 12, 3), (22, .invokevirtual 92, 3), (25, .aload_n 0, 1), (26, .getfield 12, 3), (29, .iconst 0, 1), (30, .putfield 79, 3), (33, .aload_n 0, 1), (34, .getfield 12, 3), (37, .getfield 96, 3), (40, .ireturn, 1)], [(12, 334, 7, 0, .object "NinePence$Text"), (19, 335, 7, 1, .object "NinePence$Ledger"), (79, 97, 6, 0, .int), (96, 99, 6, 1, .int)], [], [])
theorem ok_X10_book : aOK M_X10_book := by unfold aOK; decide +kernel
def M_X10_entry : aM := (RX10, cX10_entry, 3, false, (some .int), { frames := 1, cells := 0, slots := 0, locals := 23 }, [(0, .aload_n 0, 1), (1, .getfield 19, 3), (4, .iload_n 1, 1), (5, .invokevirtual 99, 3), (8, .ifCond .ne 6, 3), (11, .bipush (-2), 2), (13, .ireturn, 1), (14, .iload_n 2, 1), (15, .ifCond .lt 8, 3), (18, .iload_n 2, 1), (19, .iconst 5, 1), (20, .if_icmp .lt 6, 3), (23, .bipush (-3), 2), (25, .ireturn, 1), (26, .aload_n 0, 1), (27, .getfield 19, 3), (30, .iload_n 1, 1), (31, .iload_n 2, 1), (32, .invokevirtual 103, 3), (35, .ireturn, 1)], [(19, 335, 7, 1, .object "NinePence$Ledger")], [], [])
theorem ok_X10_entry : aOK M_X10_entry := by unfold aOK; decide +kernel
def M_X10_out : aM := (RX10, cX10_out, 2, false, (some .int), { frames := 3, cells := 0, slots := 0, locals := 67 }, [(0, .iload_n 1, 1), (1, .iconst (-1), 1), (2, .if_icmp .eq 13, 3), (5, .iload_n 1, 1), (6, .invokestatic 107, 3), (9, .ifCond .ne 6, 3), (12, .bipush (-2), 2), (14, .ireturn, 1), (15, .aload_n 0, 1), (16, .getfield 19, 3), (19, .iload_n 1, 1), (20, .invokevirtual 110, 3), (23, .ldc 114, 2), (25, .iadd, 1), (26, .ireturn, 1)], [(19, 335, 7, 1, .object "NinePence$Ledger")], [(114, 563, .int (50000000))], [])
theorem ok_X10_out : aOK M_X10_out := by unfold aOK; decide +kernel
def M_X10_off : aM := (RX10, cX10_off, 2, false, (some .int), { frames := 3, cells := 0, slots := 0, locals := 67 }, [(0, .iload_n 1, 1), (1, .invokestatic 107, 3), (4, .ifCond .ne 6, 3), (7, .bipush (-2), 2), (9, .ireturn, 1), (10, .aload_n 0, 1), (11, .getfield 19, 3), (14, .iload_n 1, 1), (15, .invokevirtual 115, 3), (18, .ifCond .ne 5, 3), (21, .iconst (-1), 1), (22, .ireturn, 1), (23, .aload_n 0, 1), (24, .getfield 19, 3), (27, .iload_n 1, 1), (28, .invokevirtual 110, 3), (31, .aload_n 0, 1), (32, .getfield 19, 3), (35, .iload_n 1, 1), (36, .invokevirtual 118, 3), (39, .isub, 1), (40, .ldc 114, 2), (42, .iadd, 1), (43, .ireturn, 1)], [(19, 335, 7, 1, .object "NinePence$Ledger")], [(114, 563, .int (50000000))], [])
theorem ok_X10_off : aOK M_X10_off := by unfold aOK; decide +kernel
def M_X10_odds : aM := (RX10, cX10_odds, 3, false, (some .int), { frames := 2, cells := 0, slots := 0, locals := 43 }, [(0, .iload_n 1, 1), (1, .invokestatic 121, 3), (4, .ifCond .eq 10, 3), (7, .iload_n 2, 1), (8, .invokestatic 124, 3), (11, .ifCond .ne 6, 3), (14, .bipush (-2), 2), (16, .ireturn, 1), (17, .aload_n 0, 1), (18, .getfield 19, 3), (21, .iload_n 1, 1), (22, .iload_n 2, 1), (23, .invokevirtual 127, 3), (26, .ireturn, 1)], [(19, 335, 7, 1, .object "NinePence$Ledger")], [], [])
theorem ok_X10_odds : aOK M_X10_odds := by unfold aOK; decide +kernel
def M_X10_learn : aM := (RX10, cX10_learn, 3, false, (some .int), { frames := 2, cells := 0, slots := 0, locals := 45 }, [(0, .iload_n 1, 1), (1, .invokestatic 121, 3), (4, .ifCond .eq 10, 3), (7, .iload_n 2, 1), (8, .invokestatic 124, 3), (11, .ifCond .ne 6, 3), (14, .bipush (-2), 2), (16, .ireturn, 1), (17, .aload_n 0, 1), (18, .getfield 19, 3), (21, .iload_n 1, 1), (22, .iload_n 2, 1), (23, .aload_n 0, 1), (24, .getfield 19, 3), (27, .iload_n 1, 1), (28, .iload_n 2, 1), (29, .invokevirtual 127, 3), (32, .iconst 1, 1), (33, .iadd, 1), (34, .bipush 99, 2), (36, .invokestatic 130, 3), (39, .invokevirtual 135, 3), (42, .aload_n 0, 1), (43, .getfield 19, 3), (46, .iload_n 1, 1), (47, .iload_n 2, 1), (48, .invokevirtual 127, 3), (51, .ireturn, 1)], [(19, 335, 7, 1, .object "NinePence$Ledger")], [], [])
theorem ok_X10_learn : aOK M_X10_learn := by unfold aOK; decide +kernel
def M_X10_mend : aM := (RX10, cX10_mend, 4, false, (some .int), { frames := 3, cells := 0, slots := 0, locals := 68 }, [(0, .aload_n 0, 1), (1, .getfield 19, 3), (4, .iload_n 1, 1), (5, .invokevirtual 99, 3), (8, .ifCond .ne 6, 3), (11, .bipush (-2), 2), (13, .ireturn, 1), (14, .iload_n 2, 1), (15, .invokestatic 139, 3), (18, .ifCond .eq 10, 3), (21, .iload_n 3, 1), (22, .invokestatic 142, 3), (25, .ifCond .ne 6, 3), (28, .bipush (-3), 2), (30, .ireturn, 1), (31, .aload_n 0, 1), (32, .getfield 19, 3), (35, .iload_n 1, 1), (36, .iload_n 2, 1), (37, .iload_n 3, 1), (38, .invokevirtual 145, 3), (41, .aload_n 0, 1), (42, .getfield 19, 3), (45, .iconst (-1), 1), (46, .invokevirtual 110, 3), (49, .ldc 114, 2), (51, .iadd, 1), (52, .ireturn, 1)], [(19, 335, 7, 1, .object "NinePence$Ledger")], [(114, 563, .int (50000000))], [])
theorem ok_X10_mend : aOK M_X10_mend := by unfold aOK; decide +kernel
def M_X10_strike : aM := (RX10, cX10_strike, 2, false, (some .int), { frames := 3, cells := 0, slots := 0, locals := 68 }, [(0, .aload_n 0, 1), (1, .getfield 19, 3), (4, .iload_n 1, 1), (5, .invokevirtual 99, 3), (8, .ifCond .ne 6, 3), (11, .bipush (-2), 2), (13, .ireturn, 1), (14, .aload_n 0, 1), (15, .getfield 19, 3), (18, .iload_n 1, 1), (19, .invokevirtual 148, 3), (22, .aload_n 0, 1), (23, .getfield 19, 3), (26, .getfield 151, 3), (29, .ireturn, 1)], [(19, 335, 7, 1, .object "NinePence$Ledger"), (151, 140, 0, 0, .int)], [], [])
theorem ok_X10_strike : aOK M_X10_strike := by unfold aOK; decide +kernel
def M_X10_signs : aM := (RX10, cX10_signs, 5, false, (some .int), { frames := 3, cells := 0, slots := 0, locals := 67 }, [(0, .aload_n 0, 1), (1, .getfield 19, 3), (4, .iconst (-1), 1), (5, .invokevirtual 110, 3), (8, .istore_n 1, 1), (9, .iload_n 1, 1), (10, .ifCond .ne 6, 3), (13, .bipush (-4), 2), (15, .ireturn, 1), (16, .iload_n 1, 1), (17, .ifCond .le 7, 3), (20, .iconst 0, 1), (21, .goto 4, 3), (24, .iconst 1, 1), (25, .istore_n 2, 1), (26, .iload_n 1, 1), (27, .invokestatic 154, 3), (30, .istore_n 3, 1), (31, .iconst 0, 1), (32, .istore 4, 2), (34, .iload_n 3, 1), (35, .bipush 9, 2), (37, .irem, 1), (38, .ifCond .ne 9, 3), (41, .iload 4, 2), (43, .iconst 1, 1), (44, .ior, 1), (45, .istore 4, 2), (47, .iload_n 3, 1), (48, .iconst 2, 1), (49, .irem, 1), (50, .ifCond .ne 23, 3), (53, .aload_n 0, 1), (54, .getfield 19, 3), (57, .iload_n 2, 1), (58, .iload_n 3, 1), (59, .iconst 2, 1), (60, .idiv, 1), (61, .invokevirtual 157, 3), (64, .ifCond .eq 9, 3), (67, .iload 4, 2), (69, .iconst 2, 1), (70, .ior, 1), (71, .istore 4, 2), (73, .aload_n 0, 1), (74, .getfield 19, 3), (77, .iload_n 2, 1), (78, .iload_n 3, 1), (79, .invokevirtual 157, 3), (82, .ifCond .eq 9, 3), (85, .iload 4, 2), (87, .iconst 4, 1), (88, .ior, 1), (89, .istore 4, 2), (91, .iload_n 3, 1), (92, .invokestatic 161, 3), (95, .ifCond .eq 10, 3), (98, .iload 4, 2), (100, .bipush 8, 2), (102, .ior, 1), (103, .istore 4, 2), (105, .aload_n 0, 1), (106, .iload_n 3, 1), (107, .invokevirtual 166, 3), (110, .ifCond .eq 10, 3), (113, .iload 4, 2), (115, .bipush 16, 2), (117, .ior, 1), (118, .istore 4, 2), (120, .iload 4, 2), (122, .ireturn, 1)], [(19, 335, 7, 1, .object "NinePence$Ledger")], [], [])
theorem ok_X10_signs : aOK M_X10_signs := by unfold aOK; decide +kernel
def M_X10_one : aM := (RX10, cX10_one, 5, false, (some .int), { frames := 6, cells := 0, slots := 0, locals := 142 }, [(0, .iload_n 1, 1), (1, .iconst (-1), 1), (2, .if_icmp .lt 12, 3), (5, .iload_n 2, 1), (6, .ifCond .lt 8, 3), (9, .iload_n 2, 1), (10, .iconst 4, 1), (11, .if_icmp .le 6, 3), (14, .bipush (-3), 2), (16, .ireturn, 1), (17, .aload_n 0, 1), (18, .invokevirtual 169, 3), (21, .iload_n 3, 1), (22, .ifCond .eq 10, 3), (25, .aload_n 0, 1), (26, .getfield 41, 3), (29, .goto 7, 3), (32, .aload_n 0, 1), (33, .getfield 37, 3), (36, .astore 4, 2), (38, .iload_n 1, 1), (39, .iconst (-1), 1), (40, .if_icmp .ne 9, 3), (43, .aload 4, 2), (45, .getfield 172, 3), (48, .ireturn, 1), (49, .iload_n 1, 1), (50, .aload 4, 2), (52, .getfield 172, 3), (55, .if_icmp .lt 5, 3), (58, .iconst (-1), 1), (59, .ireturn, 1), (60, .aload_n 0, 1), (61, .getfield 28, 3), (64, .aload 4, 2), (66, .iload_n 1, 1), (67, .invokevirtual 173, 3), (70, .iload_n 2, 1), (71, .invokevirtual 176, 3), (74, .ireturn, 1)], [(28, 336, 7, 2, .object "NinePence$Slips"), (37, 337, 7, 3, .object "NinePence$Singles"), (41, 338, 7, 4, .object "NinePence$Singles"), (172, 222, 4, 0, .int)], [], [])
theorem ok_X10_one : aOK M_X10_one := by unfold aOK; decide +kernel
def M_X10_ofKind : aM := (RX10, cX10_ofKind, 2, false, (some .int), { frames := 6, cells := 0, slots := 0, locals := 142 }, [(0, .iload_n 1, 1), (1, .ifCond .lt 9, 3), (4, .iload_n 1, 1), (5, .bipush 7, 2), (7, .if_icmp .lt 6, 3), (10, .bipush (-2), 2), (12, .ireturn, 1), (13, .aload_n 0, 1), (14, .invokevirtual 169, 3), (17, .aload_n 0, 1), (18, .getfield 37, 3), (21, .iload_n 1, 1), (22, .invokevirtual 177, 3), (25, .ireturn, 1)], [(37, 337, 7, 3, .object "NinePence$Singles")], [], [])
theorem ok_X10_ofKind : aOK M_X10_ofKind := by unfold aOK; decide +kernel
def M_X10_two : aM := (RX10, cX10_two, 2, false, (some .long), { frames := 6, cells := 0, slots := 0, locals := 142 }, [(0, .iload_n 1, 1), (1, .ifCond .lt 8, 3), (4, .iload_n 1, 1), (5, .iconst 1, 1), (6, .if_icmp .le 7, 3), (9, .ldc2_w 180, 3), (12, .lreturn, 1), (13, .aload_n 0, 1), (14, .invokevirtual 169, 3), (17, .iload_n 1, 1), (18, .ifCond .ne 13, 3), (21, .aload_n 0, 1), (22, .getfield 49, 3), (25, .getfield 182, 3), (28, .goto 10, 3), (31, .aload_n 0, 1), (32, .getfield 49, 3), (35, .getfield 186, 3), (38, .lreturn, 1)], [(49, 339, 7, 5, .object "NinePence$Pairs"), (182, 252, 3, 0, .long), (186, 254, 3, 1, .long)], [(180, 844, .long (-3))], [])
theorem ok_X10_two : aOK M_X10_two := by unfold aOK; decide +kernel
def M_X10_hide : aM := (RX10, cX10_hide, 2, false, (some .long), { frames := 6, cells := 0, slots := 0, locals := 142 }, [(0, .iload_n 1, 1), (1, .ifCond .lt 8, 3), (4, .iload_n 1, 1), (5, .iconst 1, 1), (6, .if_icmp .le 7, 3), (9, .ldc2_w 180, 3), (12, .lreturn, 1), (13, .aload_n 0, 1), (14, .invokevirtual 169, 3), (17, .iload_n 1, 1), (18, .ifCond .ne 13, 3), (21, .aload_n 0, 1), (22, .getfield 53, 3), (25, .getfield 182, 3), (28, .goto 10, 3), (31, .aload_n 0, 1), (32, .getfield 53, 3), (35, .getfield 186, 3), (38, .lreturn, 1)], [(53, 340, 7, 6, .object "NinePence$Pairs"), (182, 252, 3, 0, .long), (186, 254, 3, 1, .long)], [(180, 844, .long (-3))], [])
theorem ok_X10_hide : aOK M_X10_hide := by unfold aOK; decide +kernel
def M_X10_pair : aM := (RX10, cX10_pair, 4, false, (some .int), { frames := 6, cells := 0, slots := 0, locals := 142 }, [(0, .iload_n 2, 1), (1, .ifCond .lt 8, 3), (4, .iload_n 2, 1), (5, .iconst 5, 1), (6, .if_icmp .le 6, 3), (9, .bipush (-3), 2), (11, .ireturn, 1), (12, .aload_n 0, 1), (13, .invokevirtual 169, 3), (16, .iload_n 1, 1), (17, .ifCond .eq 10, 3), (20, .aload_n 0, 1), (21, .getfield 53, 3), (24, .goto 7, 3), (27, .aload_n 0, 1), (28, .getfield 49, 3), (31, .astore_n 3, 1), (32, .aload_n 3, 1), (33, .getfield 182, 3), (36, .lconst 0, 1), (37, .lcmp, 1), (38, .ifCond .ne 5, 3), (41, .iconst (-1), 1), (42, .ireturn, 1), (43, .iload_n 2, 1), (44, .iconst 3, 1), (45, .if_icmp .ge 18, 3), (48, .aload_n 0, 1), (49, .getfield 28, 3), (52, .aload_n 3, 1), (53, .getfield 189, 3), (56, .iload_n 2, 1), (57, .invokevirtual 176, 3), (60, .goto 17, 3), (63, .aload_n 0, 1), (64, .getfield 28, 3), (67, .aload_n 3, 1), (68, .getfield 192, 3), (71, .iload_n 2, 1), (72, .iconst 3, 1), (73, .isub, 1), (74, .invokevirtual 176, 3), (77, .ireturn, 1)], [(28, 336, 7, 2, .object "NinePence$Slips"), (49, 339, 7, 5, .object "NinePence$Pairs"), (53, 340, 7, 6, .object "NinePence$Pairs"), (182, 252, 3, 0, .long), (189, 256, 3, 2, .int), (192, 258, 3, 3, .int)], [], [])
theorem ok_X10_pair : aOK M_X10_pair := by unfold aOK; decide +kernel
def M_X10_chance : aM := (RX10, cX10_chance, 5, false, (some .long), { frames := 6, cells := 0, slots := 0, locals := 142 }, [(0, .aload_n 0, 1), (1, .invokevirtual 169, 3), (4, .iload_n 1, 1), (5, .ifCond .lt 14, 3), (8, .iload_n 1, 1), (9, .aload_n 0, 1), (10, .getfield 37, 3), (13, .getfield 172, 3), (16, .if_icmp .lt 7, 3), (19, .ldc2_w 195, 3), (22, .lreturn, 1), (23, .iload_n 2, 1), (24, .invokestatic 197, 3), (27, .ifCond .ne 7, 3), (30, .ldc2_w 180, 3), (33, .lreturn, 1), (34, .ldc2_w 200, 3), (37, .aload_n 0, 1), (38, .getfield 37, 3), (41, .getfield 202, 3), (44, .lmul, 1), (45, .aload_n 0, 1), (46, .getfield 19, 3), (49, .getfield 203, 3), (52, .i2l, 1), (53, .aload_n 0, 1), (54, .getfield 49, 3), (57, .getfield 186, 3), (60, .lmul, 1), (61, .ladd, 1), (62, .lstore_n 3, 1), (63, .ldc2_w 200, 3), (66, .aload_n 0, 1), (67, .getfield 28, 3), (70, .aload_n 0, 1), (71, .getfield 37, 3), (74, .iload_n 1, 1), (75, .invokevirtual 173, 3), (78, .invokevirtual 204, 3), (81, .i2l, 1), (82, .lmul, 1), (83, .lload_n 3, 1), (84, .iload_n 2, 1), (85, .invokestatic 207, 3), (88, .lreturn, 1)], [(19, 335, 7, 1, .object "NinePence$Ledger"), (28, 336, 7, 2, .object "NinePence$Slips"), (37, 337, 7, 3, .object "NinePence$Singles"), (49, 339, 7, 5, .object "NinePence$Pairs"), (172, 222, 4, 0, .int), (186, 254, 3, 1, .long), (202, 224, 4, 1, .long), (203, 148, 0, 3, .int)], [(180, 844, .long (-3)), (195, 857, .long (-2)), (200, 861, .long (100))], [])
theorem ok_X10_chance : aOK M_X10_chance := by unfold aOK; decide +kernel
def M_X10_whose : aM := (RX10, cX10_whose, 3, false, (some .int), { frames := 6, cells := 0, slots := 0, locals := 142 }, [(0, .iload_n 1, 1), (1, .invokestatic 121, 3), (4, .ifCond .ne 6, 3), (7, .bipush (-2), 2), (9, .ireturn, 1), (10, .iload_n 2, 1), (11, .invokestatic 197, 3), (14, .ifCond .ne 6, 3), (17, .bipush (-3), 2), (19, .ireturn, 1), (20, .aload_n 0, 1), (21, .invokevirtual 169, 3), (24, .aload_n 0, 1), (25, .getfield 37, 3), (28, .getfield 172, 3), (31, .ifCond .ne 6, 3), (34, .bipush (-4), 2), (36, .ireturn, 1), (37, .aload_n 0, 1), (38, .getfield 37, 3), (41, .iload_n 1, 1), (42, .invokevirtual 213, 3), (45, .aload_n 0, 1), (46, .getfield 37, 3), (49, .getfield 202, 3), (52, .iload_n 2, 1), (53, .invokestatic 207, 3), (56, .l2i, 1), (57, .ireturn, 1)], [(37, 337, 7, 3, .object "NinePence$Singles"), (172, 222, 4, 0, .int), (202, 224, 4, 1, .long)], [], [])
theorem ok_X10_whose : aOK M_X10_whose := by unfold aOK; decide +kernel
def M_X10_look : aM := (RX10, cX10_look, 4, false, (some .int), { frames := 6, cells := 0, slots := 0, locals := 142 }, [(0, .iload_n 1, 1), (1, .iconst (-1), 1), (2, .if_icmp .ge 6, 3), (5, .bipush (-3), 2), (7, .ireturn, 1), (8, .aload_n 0, 1), (9, .invokevirtual 169, 3), (12, .iload_n 2, 1), (13, .ifCond .eq 10, 3), (16, .aload_n 0, 1), (17, .getfield 65, 3), (20, .goto 7, 3), (23, .aload_n 0, 1), (24, .getfield 61, 3), (27, .astore_n 3, 1), (28, .iload_n 1, 1), (29, .iconst (-1), 1), (30, .if_icmp .ne 8, 3), (33, .aload_n 3, 1), (34, .getfield 217, 3), (37, .ireturn, 1), (38, .iload_n 1, 1), (39, .aload_n 3, 1), (40, .getfield 217, 3), (43, .if_icmp .ge 11, 3), (46, .aload_n 3, 1), (47, .iload_n 1, 1), (48, .invokevirtual 218, 3), (51, .goto 4, 3), (54, .iconst (-1), 1), (55, .ireturn, 1)], [(61, 341, 7, 7, .object "NinePence$Look"), (65, 342, 7, 8, .object "NinePence$Look"), (217, 281, 1, 0, .int)], [], [])
theorem ok_X10_look : aOK M_X10_look := by unfold aOK; decide +kernel
def M_X10_mean : aM := (RX10, cX10_mean, 4, false, (some .int), { frames := 6, cells := 0, slots := 0, locals := 142 }, [(0, .iload_n 2, 1), (1, .invokestatic 197, 3), (4, .ifCond .ne 6, 3), (7, .bipush (-3), 2), (9, .ireturn, 1), (10, .aload_n 0, 1), (11, .invokevirtual 169, 3), (14, .iload_n 1, 1), (15, .ifCond .eq 10, 3), (18, .aload_n 0, 1), (19, .getfield 65, 3), (22, .goto 7, 3), (25, .aload_n 0, 1), (26, .getfield 61, 3), (29, .astore_n 3, 1), (30, .aload_n 3, 1), (31, .getfield 217, 3), (34, .ifCond .ne 6, 3), (37, .bipush (-4), 2), (39, .ireturn, 1), (40, .aload_n 3, 1), (41, .getfield 221, 3), (44, .aload_n 3, 1), (45, .getfield 224, 3), (48, .iload_n 2, 1), (49, .invokestatic 207, 3), (52, .l2i, 1), (53, .ireturn, 1)], [(61, 341, 7, 7, .object "NinePence$Look"), (65, 342, 7, 8, .object "NinePence$Look"), (217, 281, 1, 0, .int), (221, 283, 1, 1, .long), (224, 285, 1, 2, .long)], [], [])
theorem ok_X10_mean : aOK M_X10_mean := by unfold aOK; decide +kernel
def M_X10_judge : aM := (RX10, cX10_judge, 5, false, (some .int), { frames := 4, cells := 0, slots := 0, locals := 90 }, [(0, .aload_n 0, 1), (1, .getfield 19, 3), (4, .iload_n 1, 1), (5, .invokevirtual 99, 3), (8, .ifCond .ne 6, 3), (11, .bipush (-2), 2), (13, .ireturn, 1), (14, .iload_n 2, 1), (15, .invokestatic 139, 3), (18, .ifCond .eq 14, 3), (21, .iload_n 3, 1), (22, .ifCond .eq 13, 3), (25, .iload_n 3, 1), (26, .invokestatic 142, 3), (29, .ifCond .ne 6, 3), (32, .bipush (-3), 2), (34, .ireturn, 1), (35, .aload_n 0, 1), (36, .getfield 19, 3), (39, .iload_n 1, 1), (40, .iconst 1, 1), (41, .invokevirtual 103, 3), (44, .istore 4, 2), (46, .iload_n 2, 1), (47, .aload_n 0, 1), (48, .getfield 19, 3), (51, .iload_n 1, 1), (52, .iconst 0, 1), (53, .invokevirtual 103, 3), (56, .if_icmp .eq 15, 3), (59, .iload_n 3, 1), (60, .iload 4, 2), (62, .if_icmp .ne 7, 3), (65, .iconst 3, 1), (66, .goto 4, 3), (69, .iconst (-1), 1), (70, .ireturn, 1), (71, .iload_n 3, 1), (72, .ifCond .ne 20, 3), (75, .aload_n 0, 1), (76, .getfield 19, 3), (79, .iload_n 1, 1), (80, .invokevirtual 227, 3), (83, .ifCond .eq 7, 3), (86, .iconst 4, 1), (87, .goto 4, 3), (90, .iconst (-1), 1), (91, .ireturn, 1), (92, .iload 4, 2), (94, .iload_n 3, 1), (95, .invokestatic 230, 3), (98, .ireturn, 1)], [(19, 335, 7, 1, .object "NinePence$Ledger")], [], [])
theorem ok_X10_judge : aOK M_X10_judge := by unfold aOK; decide +kernel
def M_X10_other : aM := (RX10, cX10_other, 2, false, (some .int), { frames := 2, cells := 0, slots := 0, locals := 43 }, [(0, .iload_n 1, 1), (1, .invokestatic 142, 3), (4, .ifCond .ne 6, 3), (7, .bipush (-3), 2), (9, .ireturn, 1), (10, .aload_n 0, 1), (11, .getfield 71, 3), (14, .getfield 233, 3), (17, .bipush 12, 2), (19, .if_icmp .lt 6, 3), (22, .bipush (-5), 2), (24, .ireturn, 1), (25, .aload_n 0, 1), (26, .getfield 71, 3), (29, .iload_n 1, 1), (30, .invokevirtual 234, 3), (33, .aload_n 0, 1), (34, .getfield 71, 3), (37, .getfield 233, 3), (40, .ireturn, 1)], [(71, 343, 7, 9, .object "NinePence$OtherBook"), (233, 318, 2, 0, .int)], [], [])
theorem ok_X10_other : aOK M_X10_other := by unfold aOK; decide +kernel
def M_X10_match : aM := (RX10, cX10_match, 3, false, (some .int), { frames := 6, cells := 0, slots := 0, locals := 136 }, [(0, .iload_n 1, 1), (1, .ifCond .lt 30, 3), (4, .iload_n 1, 1), (5, .bipush 12, 2), (7, .if_icmp .gt 24, 3), (10, .iload_n 1, 1), (11, .aload_n 0, 1), (12, .getfield 19, 3), (15, .getfield 151, 3), (18, .if_icmp .gt 13, 3), (21, .iload_n 2, 1), (22, .iconst (-1), 1), (23, .if_icmp .lt 8, 3), (26, .iload_n 2, 1), (27, .iload_n 1, 1), (28, .if_icmp .lt 6, 3), (31, .bipush (-3), 2), (33, .ireturn, 1), (34, .aload_n 0, 1), (35, .getfield 71, 3), (38, .iload_n 1, 1), (39, .invokevirtual 237, 3), (42, .iload_n 2, 1), (43, .iconst (-1), 1), (44, .if_icmp .ne 13, 3), (47, .aload_n 0, 1), (48, .getfield 71, 3), (51, .invokevirtual 240, 3), (54, .goto 12, 3), (57, .aload_n 0, 1), (58, .getfield 71, 3), (61, .iload_n 2, 1), (62, .iload_n 1, 1), (63, .invokevirtual 243, 3), (66, .ireturn, 1)], [(19, 335, 7, 1, .object "NinePence$Ledger"), (71, 343, 7, 9, .object "NinePence$OtherBook"), (151, 140, 0, 0, .int)], [], [])
theorem ok_X10_match : aOK M_X10_match := by unfold aOK; decide +kernel
def M_X10_count : aM := (RX10, cX10_count, 2, false, (some .int), { frames := 0, cells := 0, slots := 0, locals := 0 }, [(0, .iload_n 1, 1), (1, .tableswitch 87 0 5 #[39, 47, 55, 63, 71, 79], 39), (40, .aload_n 0, 1), (41, .getfield 19, 3), (44, .getfield 151, 3), (47, .ireturn, 1), (48, .aload_n 0, 1), (49, .getfield 12, 3), (52, .getfield 79, 3), (55, .ireturn, 1), (56, .aload_n 0, 1), (57, .getfield 71, 3), (60, .getfield 233, 3), (63, .ireturn, 1), (64, .aload_n 0, 1), (65, .getfield 19, 3), (68, .getfield 246, 3), (71, .ireturn, 1), (72, .aload_n 0, 1), (73, .getfield 19, 3), (76, .getfield 249, 3), (79, .ireturn, 1), (80, .aload_n 0, 1), (81, .getfield 19, 3), (84, .getfield 203, 3), (87, .ireturn, 1), (88, .bipush (-3), 2), (90, .ireturn, 1)], [(12, 334, 7, 0, .object "NinePence$Text"), (19, 335, 7, 1, .object "NinePence$Ledger"), (71, 343, 7, 9, .object "NinePence$OtherBook"), (79, 97, 6, 0, .int), (151, 140, 0, 0, .int), (203, 148, 0, 3, .int), (233, 318, 2, 0, .int), (246, 143, 0, 1, .int), (249, 146, 0, 2, .int)], [], [])
theorem ok_X10_count : aOK M_X10_count := by unfold aOK; decide +kernel
def M_X10_isSide : aM := (RX10, cX10_isSide, 1, false, (some .boolean), { frames := 0, cells := 0, slots := 0, locals := 0 }, [(0, .iload_n 0, 1), (1, .ifCond .eq 8, 3), (4, .iload_n 0, 1), (5, .iconst 1, 1), (6, .if_icmp .ne 7, 3), (9, .iconst 1, 1), (10, .goto 4, 3), (13, .iconst 0, 1), (14, .ireturn, 1)], [], [], [])
theorem ok_X10_isSide : aOK M_X10_isSide := by unfold aOK; decide +kernel
def M_X10_isSum : aM := (RX10, cX10_isSum, 1, false, (some .boolean), { frames := 0, cells := 0, slots := 0, locals := 0 }, [(0, .iload_n 0, 1), (1, .iconst 1, 1), (2, .if_icmp .lt 13, 3), (5, .iload_n 0, 1), (6, .ldc 252, 2), (8, .if_icmp .gt 7, 3), (11, .iconst 1, 1), (12, .goto 4, 3), (15, .iconst 0, 1), (16, .ireturn, 1)], [], [(252, 609, .int (999999))], [])
theorem ok_X10_isSum : aOK M_X10_isSum := by unfold aOK; decide +kernel
def M_X10_isHand : aM := (RX10, cX10_isHand, 1, false, (some .boolean), { frames := 0, cells := 0, slots := 0, locals := 0 }, [(0, .iload_n 0, 1), (1, .ifCond .lt 12, 3), (4, .iload_n 0, 1), (5, .iconst 4, 1), (6, .if_icmp .ge 7, 3), (9, .iconst 1, 1), (10, .goto 4, 3), (13, .iconst 0, 1), (14, .ireturn, 1)], [], [], [])
theorem ok_X10_isHand : aOK M_X10_isHand := by unfold aOK; decide +kernel
def M_X10_isPage : aM := (RX10, cX10_isPage, 1, false, (some .boolean), { frames := 0, cells := 0, slots := 0, locals := 0 }, [(0, .iload_n 0, 1), (1, .ifCond .lt 13, 3), (4, .iload_n 0, 1), (5, .bipush 6, 2), (7, .if_icmp .ge 7, 3), (10, .iconst 1, 1), (11, .goto 4, 3), (14, .iconst 0, 1), (15, .ireturn, 1)], [], [], [])
theorem ok_X10_isPage : aOK M_X10_isPage := by unfold aOK; decide +kernel
def M_X10_isEntryKind : aM := (RX10, cX10_isEntryKind, 1, false, (some .boolean), { frames := 0, cells := 0, slots := 0, locals := 0 }, [(0, .iload_n 0, 1), (1, .ifCond .lt 12, 3), (4, .iload_n 0, 1), (5, .iconst 5, 1), (6, .if_icmp .ge 7, 3), (9, .iconst 1, 1), (10, .goto 4, 3), (13, .iconst 0, 1), (14, .ireturn, 1)], [], [], [])
theorem ok_X10_isEntryKind : aOK M_X10_isEntryKind := by unfold aOK; decide +kernel
def M_X10_isPart : aM := (RX10, cX10_isPart, 1, false, (some .boolean), { frames := 0, cells := 0, slots := 0, locals := 0 }, [(0, .iload_n 0, 1), (1, .ifCond .eq 8, 3), (4, .iload_n 0, 1), (5, .iconst 1, 1), (6, .if_icmp .ne 7, 3), (9, .iconst 1, 1), (10, .goto 4, 3), (13, .iconst 0, 1), (14, .ireturn, 1)], [], [], [])
theorem ok_X10_isPart : aOK M_X10_isPart := by unfold aOK; decide +kernel
def M_X10_isNineTimesOrTenths : aM := (RX10, cX10_isNineTimesOrTenths, 4, false, (some .boolean), { frames := 1, cells := 0, slots := 0, locals := 23 }, [(0, .iconst 0, 1), (1, .istore_n 2, 1), (2, .iload_n 2, 1), (3, .aload_n 0, 1), (4, .getfield 19, 3), (7, .getfield 151, 3), (10, .if_icmp .ge 37, 3), (13, .bipush 9, 2), (15, .aload_n 0, 1), (16, .getfield 19, 3), (19, .iload_n 2, 1), (20, .iconst 1, 1), (21, .invokevirtual 103, 3), (24, .imul, 1), (25, .istore_n 3, 1), (26, .iload_n 1, 1), (27, .iload_n 3, 1), (28, .if_icmp .eq 11, 3), (31, .bipush 10, 2), (33, .iload_n 1, 1), (34, .imul, 1), (35, .iload_n 3, 1), (36, .if_icmp .ne 5, 3), (39, .iconst 1, 1), (40, .ireturn, 1), (41, .iinc 2 1, 3), (44, .goto (-42), 3), (47, .iconst 0, 1), (48, .ireturn, 1)], [(19, 335, 7, 1, .object "NinePence$Ledger"), (151, 140, 0, 0, .int)], [], [])
theorem ok_X10_isNineTimesOrTenths : aOK M_X10_isNineTimesOrTenths := by unfold aOK; decide +kernel
def M_X10_workOut : aM := (RX10, cX10_workOut, 1, false, none, { frames := 5, cells := 0, slots := 0, locals := 122 }, [(0, .aload_n 0, 1), (1, .getfield 75, 3), (4, .aload_n 0, 1), (5, .getfield 19, 3), (8, .getfield 253, 3), (11, .if_icmp .ne 4, 3), (14, .return_, 1), (15, .aload_n 0, 1), (16, .getfield 28, 3), (19, .invokevirtual 256, 3), (22, .aload_n 0, 1), (23, .getfield 37, 3), (26, .invokevirtual 259, 3), (29, .aload_n 0, 1), (30, .getfield 41, 3), (33, .invokevirtual 259, 3), (36, .aload_n 0, 1), (37, .getfield 49, 3), (40, .aload_n 0, 1), (41, .getfield 19, 3), (44, .iconst (-1), 1), (45, .invokevirtual 110, 3), (48, .ineg, 1), (49, .invokevirtual 260, 3), (52, .aload_n 0, 1), (53, .getfield 53, 3), (56, .iconst 0, 1), (57, .invokevirtual 260, 3), (60, .aload_n 0, 1), (61, .getfield 61, 3), (64, .invokevirtual 263, 3), (67, .aload_n 0, 1), (68, .getfield 65, 3), (71, .invokevirtual 263, 3), (74, .aload_n 0, 1), (75, .aload_n 0, 1), (76, .getfield 19, 3), (79, .getfield 253, 3), (82, .putfield 75, 3), (85, .return_, 1)], [(19, 335, 7, 1, .object "NinePence$Ledger"), (28, 336, 7, 2, .object "NinePence$Slips"), (37, 337, 7, 3, .object "NinePence$Singles"), (41, 338, 7, 4, .object "NinePence$Singles"), (49, 339, 7, 5, .object "NinePence$Pairs"), (53, 340, 7, 6, .object "NinePence$Pairs"), (61, 341, 7, 7, .object "NinePence$Look"), (65, 342, 7, 8, .object "NinePence$Look"), (75, 344, 7, 10, .int), (253, 150, 0, 4, .int)], [], [])
theorem ok_X10_workOut : aOK M_X10_workOut := by unfold aOK; decide +kernel
def M_X11_init : aM := (RX11, cX11_init, 2, true, none, { frames := 1, cells := 16, slots := 13055, locals := 20 }, [(0, .aload_n 0, 1), (1, .invokespecial 1, 3), (4, .aload_n 0, 1), (5, .sipush 200, 3), (8, .newarray .int, 2), (10, .putfield 7, 3), (13, .aload_n 0, 1), (14, .bipush 50, 2), (16, .newarray .int, 2), (18, .putfield 13, 3), (21, .aload_n 0, 1), (22, .sipush 150, 3), (25, .newarray .int, 2), (27, .putfield 16, 3), (30, .aload_n 0, 1), (31, .bipush 6, 2), (33, .newarray .int, 2), (35, .putfield 19, 3), (38, .aload_n 0, 1), (39, .bipush 20, 2), (41, .newarray .int, 2), (43, .putfield 22, 3), (46, .aload_n 0, 1), (47, .bipush 100, 2), (49, .newarray .int, 2), (51, .putfield 25, 3), (54, .aload_n 0, 1), (55, .iconst 1, 1), (56, .putfield 28, 3), (59, .aload_n 0, 1), (60, .iconst 1, 1), (61, .putfield 32, 3), (64, .aload_n 0, 1), (65, .iconst 1, 1), (66, .putfield 35, 3), (69, .aload_n 0, 1), (70, .bipush 12, 2), (72, .newarray .int, 2), (74, .putfield 38, 3), (77, .aload_n 0, 1), (78, .sipush 2048, 3), (81, .newarray .int, 2), (83, .putfield 41, 3), (86, .aload_n 0, 1), (87, .sipush 2048, 3), (90, .newarray .int, 2), (92, .putfield 44, 3), (95, .aload_n 0, 1), (96, .sipush 2048, 3), (99, .newarray .int, 2), (101, .putfield 47, 3), (104, .aload_n 0, 1), (105, .sipush 2048, 3), (108, .newarray .int, 2), (110, .putfield 50, 3), (113, .aload_n 0, 1), (114, .sipush 2048, 3), (117, .newarray .int, 2), (119, .putfield 53, 3), (122, .aload_n 0, 1), (123, .sipush 2048, 3), (126, .newarray .int, 2), (128, .putfield 56, 3), (131, .aload_n 0, 1), (132, .bipush 30, 2), (134, .newarray .int, 2), (136, .putfield 59, 3), (139, .aload_n 0, 1), (140, .bipush 30, 2), (142, .newarray .int, 2), (144, .putfield 62, 3), (147, .aload_n 0, 1), (148, .sipush 169, 3), (151, .newarray .int, 2), (153, .putfield 65, 3), (156, .iconst 0, 1), (157, .istore_n 1, 1), (158, .iload_n 1, 1), (159, .bipush 20, 2), (161, .if_icmp .ge 16, 3), (164, .aload_n 0, 1), (165, .getfield 22, 3), (168, .iload_n 1, 1), (169, .iconst 1, 1), (170, .iastore, 1), (171, .iinc 1 1, 3), (174, .goto (-16), 3), (177, .return_, 1)], [(7, 957, 8, 0, .array .int), (13, 959, 8, 2, .array .int), (16, 961, 8, 4, .array .int), (19, 963, 8, 6, .array .int), (22, 965, 8, 8, .array .int), (25, 966, 8, 9, .array .int), (28, 967, 8, 10, .int), (32, 968, 8, 11, .int), (35, 969, 8, 12, .int), (38, 970, 8, 13, .array .int), (41, 975, 8, 18, .array .int), (44, 976, 8, 19, .array .int), (47, 977, 8, 20, .array .int), (50, 978, 8, 21, .array .int), (53, 979, 8, 22, .array .int), (56, 981, 8, 24, .array .int), (59, 987, 8, 30, .array .int), (62, 988, 8, 31, .array .int), (65, 990, 8, 33, .array .int)], [], [])
theorem ok_X11_init : aOK M_X11_init := by unfold aOK; decide +kernel
def M_X11_in : aM := (RX11, cX11_in, 6, false, (some .boolean), { frames := 0, cells := 0, slots := 0, locals := 0 }, [(0, .lload_n 0, 1), (1, .lload_n 2, 1), (2, .lcmp, 1), (3, .ifCond .lt 14, 3), (6, .lload_n 0, 1), (7, .lload 4, 2), (9, .lcmp, 1), (10, .ifCond .gt 7, 3), (13, .iconst 1, 1), (14, .goto 4, 3), (17, .iconst 0, 1), (18, .ireturn, 1)], [], [], [])
theorem ok_X11_in : aOK M_X11_in := by unfold aOK; decide +kernel
def M_X11_write : aM := (RX11, cX11_write, 5, false, (some .int), { frames := 1, cells := 0, slots := 0, locals := 25 }, [(0, .iload_n 3, 1), (1, .i2l, 1), (2, .lconst 1, 1), (3, .ldc2_w 68, 3), (6, .invokestatic 70, 3), (9, .ifCond .ne 6, 3), (12, .bipush (-3), 2), (14, .ireturn, 1), (15, .aload_n 0, 1), (16, .getfield 74, 3), (19, .iload_n 3, 1), (20, .iadd, 1), (21, .sipush 200, 3), (24, .if_icmp .le 6, 3), (27, .bipush (-5), 2), (29, .ireturn, 1), (30, .iconst 0, 1), (31, .istore 4, 2), (33, .iload 4, 2), (35, .iload_n 3, 1), (36, .if_icmp .ge 40, 3), (39, .aload_n 0, 1), (40, .getfield 7, 3), (43, .aload_n 0, 1), (44, .getfield 74, 3), (47, .lload_n 1, 1), (48, .bipush 8, 2), (50, .iload 4, 2), (52, .imul, 1), (53, .lshr, 1), (54, .ldc2_w 77, 3), (57, .land, 1), (58, .l2i, 1), (59, .iastore, 1), (60, .aload_n 0, 1), (61, .dup, 1), (62, .getfield 74, 3), (65, .iconst 1, 1), (66, .iadd, 1), (67, .putfield 74, 3), (70, .iinc 4 1, 3), (73, .goto (-40), 3), (76, .aload_n 0, 1), (77, .getfield 74, 3), (80, .ireturn, 1)], [(7, 957, 8, 0, .array .int), (74, 958, 8, 1, .int)], [(68, 1064, .long (8)), (77, 1068, .long (255))], [])
theorem ok_X11_write : aOK M_X11_write := by unfold aOK; decide +kernel
def M_X11_erase : aM := (RX11, cX11_erase, 2, false, (some .int), { frames := 0, cells := 0, slots := 0, locals := 0 }, [(0, .aload_n 0, 1), (1, .getfield 74, 3), (4, .istore_n 1, 1), (5, .aload_n 0, 1), (6, .iconst 0, 1), (7, .putfield 74, 3), (10, .iload_n 1, 1), (11, .ireturn, 1)], [(74, 958, 8, 1, .int)], [], [])
theorem ok_X11_erase : aOK M_X11_erase := by unfold aOK; decide +kernel
def M_X11_sort : aM := (RX11, cX11_sort, 1, false, (some .int), { frames := 0, cells := 0, slots := 0, locals := 0 }, [(0, .iload_n 0, 1), (1, .bipush 97, 2), (3, .if_icmp .lt 13, 3), (6, .iload_n 0, 1), (7, .bipush 122, 2), (9, .if_icmp .gt 7, 3), (12, .iconst 1, 1), (13, .goto 20, 3), (16, .iload_n 0, 1), (17, .bipush 48, 2), (19, .if_icmp .lt 13, 3), (22, .iload_n 0, 1), (23, .bipush 57, 2), (25, .if_icmp .gt 7, 3), (28, .iconst 2, 1), (29, .goto 4, 3), (32, .iconst 0, 1), (33, .ireturn, 1)], [], [], [])
theorem ok_X11_sort : aOK M_X11_sort := by unfold aOK; decide +kernel
def M_X11_token : aM := (RX11, cX11_token, 1, false, none, { frames := 1, cells := 0, slots := 0, locals := 20 }, [(0, .aload_n 0, 1), (1, .getfield 79, 3), (4, .aload_n 0, 1), (5, .getfield 74, 3), (8, .if_icmp .ge 30, 3), (11, .aload_n 0, 1), (12, .getfield 7, 3), (15, .aload_n 0, 1), (16, .getfield 79, 3), (19, .iaload, 1), (20, .bipush 32, 2), (22, .if_icmp .ne 16, 3), (25, .aload_n 0, 1), (26, .dup, 1), (27, .getfield 79, 3), (30, .iconst 1, 1), (31, .iadd, 1), (32, .putfield 79, 3), (35, .goto (-35), 3), (38, .aload_n 0, 1), (39, .aload_n 0, 1), (40, .getfield 79, 3), (43, .putfield 82, 3), (46, .aload_n 0, 1), (47, .dup, 1), (48, .getfield 79, 3), (51, .aload_n 0, 1), (52, .getfield 79, 3), (55, .aload_n 0, 1), (56, .getfield 74, 3), (59, .if_icmp .ge 7, 3), (62, .iconst 1, 1), (63, .goto 4, 3), (66, .iconst 0, 1), (67, .iadd, 1), (68, .putfield 79, 3), (71, .aload_n 0, 1), (72, .getfield 79, 3), (75, .aload_n 0, 1), (76, .getfield 74, 3), (79, .if_icmp .ge 58, 3), (82, .aload_n 0, 1), (83, .getfield 7, 3), (86, .aload_n 0, 1), (87, .getfield 82, 3), (90, .iaload, 1), (91, .invokestatic 85, 3), (94, .ifCond .le 43, 3), (97, .aload_n 0, 1), (98, .getfield 7, 3), (101, .aload_n 0, 1), (102, .getfield 79, 3), (105, .iaload, 1), (106, .invokestatic 85, 3), (109, .aload_n 0, 1), (110, .getfield 7, 3), (113, .aload_n 0, 1), (114, .getfield 82, 3), (117, .iaload, 1), (118, .invokestatic 85, 3), (121, .if_icmp .ne 16, 3), (124, .aload_n 0, 1), (125, .dup, 1), (126, .getfield 79, 3), (129, .iconst 1, 1), (130, .iadd, 1), (131, .putfield 79, 3), (134, .goto (-63), 3), (137, .aload_n 0, 1), (138, .aload_n 0, 1), (139, .getfield 79, 3), (142, .putfield 89, 3), (145, .return_, 1)], [(7, 957, 8, 0, .array .int), (74, 958, 8, 1, .int), (79, 972, 8, 15, .int), (82, 973, 8, 16, .int), (89, 974, 8, 17, .int)], [], [])
theorem ok_X11_token : aOK M_X11_token := by unfold aOK; decide +kernel
def M_X11_isWord : aM := (RX11, cX11_isWord, 5, false, (some .boolean), { frames := 0, cells := 0, slots := 0, locals := 0 }, [(0, .aload_n 0, 1), (1, .getfield 89, 3), (4, .aload_n 0, 1), (5, .getfield 82, 3), (8, .isub, 1), (9, .iload_n 2, 1), (10, .if_icmp .ne 7, 3), (13, .iconst 1, 1), (14, .goto 4, 3), (17, .iconst 0, 1), (18, .istore_n 3, 1), (19, .iconst 0, 1), (20, .istore 4, 2), (22, .iload_n 3, 1), (23, .ifCond .eq 48, 3), (26, .iload 4, 2), (28, .iload_n 2, 1), (29, .if_icmp .ge 42, 3), (32, .aload_n 0, 1), (33, .getfield 7, 3), (36, .aload_n 0, 1), (37, .getfield 82, 3), (40, .iload 4, 2), (42, .iadd, 1), (43, .iaload, 1), (44, .bipush 96, 2), (46, .iload_n 1, 1), (47, .iconst 5, 1), (48, .iload 4, 2), (50, .imul, 1), (51, .ishr, 1), (52, .bipush 31, 2), (54, .iand, 1), (55, .iadd, 1), (56, .if_icmp .ne 7, 3), (59, .iconst 1, 1), (60, .goto 4, 3), (63, .iconst 0, 1), (64, .istore_n 3, 1), (65, .iinc 4 1, 3), (68, .goto (-46), 3), (71, .iload_n 3, 1), (72, .ireturn, 1)], [(7, 957, 8, 0, .array .int), (82, 973, 8, 16, .int), (89, 974, 8, 17, .int)], [], [])
theorem ok_X11_isWord : aOK M_X11_isWord := by unfold aOK; decide +kernel
def M_X11_value : aM := (RX11, cX11_value, 3, false, (some .int), { frames := 0, cells := 0, slots := 0, locals := 0 }, [(0, .iconst 0, 1), (1, .istore_n 1, 1), (2, .aload_n 0, 1), (3, .getfield 82, 3), (6, .istore_n 2, 1), (7, .iload_n 2, 1), (8, .aload_n 0, 1), (9, .getfield 89, 3), (12, .if_icmp .ge 24, 3), (15, .bipush 10, 2), (17, .iload_n 1, 1), (18, .imul, 1), (19, .aload_n 0, 1), (20, .getfield 7, 3), (23, .iload_n 2, 1), (24, .iaload, 1), (25, .iadd, 1), (26, .bipush 48, 2), (28, .isub, 1), (29, .istore_n 1, 1), (30, .iinc 2 1, 3), (33, .goto (-26), 3), (36, .iload_n 1, 1), (37, .ireturn, 1)], [(7, 957, 8, 0, .array .int), (82, 973, 8, 16, .int), (89, 974, 8, 17, .int)], [], [])
theorem ok_X11_value : aOK M_X11_value := by unfold aOK; decide +kernel
def M_X11_isNumber : aM := (RX11, cX11_isNumber, 1, false, (some .boolean), { frames := 1, cells := 0, slots := 0, locals := 20 }, [(0, .aload_n 0, 1), (1, .getfield 82, 3), (4, .aload_n 0, 1), (5, .getfield 74, 3), (8, .if_icmp .ge 37, 3), (11, .aload_n 0, 1), (12, .getfield 7, 3), (15, .aload_n 0, 1), (16, .getfield 82, 3), (19, .iaload, 1), (20, .invokestatic 85, 3), (23, .iconst 2, 1), (24, .if_icmp .ne 21, 3), (27, .aload_n 0, 1), (28, .getfield 89, 3), (31, .aload_n 0, 1), (32, .getfield 82, 3), (35, .isub, 1), (36, .bipush 6, 2), (38, .if_icmp .gt 7, 3), (41, .iconst 1, 1), (42, .goto 4, 3), (45, .iconst 0, 1), (46, .ireturn, 1)], [(7, 957, 8, 0, .array .int), (74, 958, 8, 1, .int), (82, 973, 8, 16, .int), (89, 974, 8, 17, .int)], [], [])
theorem ok_X11_isNumber : aOK M_X11_isNumber := by unfold aOK; decide +kernel
def M_X11_reads : aM := (RX11, cX11_reads, 4, false, (some .boolean), { frames := 2, cells := 0, slots := 0, locals := 40 }, [(0, .aload_n 0, 1), (1, .invokevirtual 92, 3), (4, .ifCond .eq 18, 3), (7, .aload_n 0, 1), (8, .invokevirtual 96, 3), (11, .i2l, 1), (12, .iload_n 2, 1), (13, .i2l, 1), (14, .iload_n 3, 1), (15, .i2l, 1), (16, .invokestatic 70, 3), (19, .ifCond .ne 5, 3), (22, .iconst 0, 1), (23, .ireturn, 1), (24, .aload_n 0, 1), (25, .getfield 13, 3), (28, .iconst 5, 1), (29, .aload_n 0, 1), (30, .getfield 100, 3), (33, .imul, 1), (34, .iconst 1, 1), (35, .iadd, 1), (36, .iload_n 1, 1), (37, .iadd, 1), (38, .aload_n 0, 1), (39, .invokevirtual 96, 3), (42, .iastore, 1), (43, .aload_n 0, 1), (44, .invokevirtual 103, 3), (47, .iconst 1, 1), (48, .ireturn, 1)], [(13, 959, 8, 2, .array .int), (100, 960, 8, 3, .int)], [], [])
theorem ok_X11_reads : aOK M_X11_reads := by unfold aOK; decide +kernel
def M_X11_readsPage : aM := (RX11, cX11_readsPage, 2, false, (some .boolean), { frames := 3, cells := 0, slots := 0, locals := 63 }, [(0, .aload_n 0, 1), (1, .iconst 0, 1), (2, .iconst 0, 1), (3, .iconst 5, 1), (4, .invokevirtual 106, 3), (7, .ifCond .ne 5, 3), (10, .iconst 0, 1), (11, .ireturn, 1), (12, .iconst 5, 1), (13, .aload_n 0, 1), (14, .getfield 100, 3), (17, .imul, 1), (18, .istore_n 1, 1), (19, .aload_n 0, 1), (20, .getfield 13, 3), (23, .iload_n 1, 1), (24, .iconst 2, 1), (25, .iadd, 1), (26, .aload_n 0, 1), (27, .ldc 109, 2), (29, .iconst 4, 1), (30, .invokevirtual 110, 3), (33, .ifCond .eq 7, 3), (36, .iconst 0, 1), (37, .goto 32, 3), (40, .aload_n 0, 1), (41, .ldc 114, 2), (43, .iconst 5, 1), (44, .invokevirtual 110, 3), (47, .ifCond .eq 7, 3), (50, .iconst 1, 1), (51, .goto 18, 3), (54, .aload_n 0, 1), (55, .ldc 115, 2), (57, .iconst 4, 1), (58, .invokevirtual 110, 3), (61, .ifCond .eq 7, 3), (64, .iconst 2, 1), (65, .goto 4, 3), (68, .iconst (-1), 1), (69, .iastore, 1), (70, .aload_n 0, 1), (71, .getfield 13, 3), (74, .iload_n 1, 1), (75, .iconst 2, 1), (76, .iadd, 1), (77, .iaload, 1), (78, .iconst (-1), 1), (79, .if_icmp .ne 5, 3), (82, .iconst 0, 1), (83, .ireturn, 1), (84, .aload_n 0, 1), (85, .invokevirtual 103, 3), (88, .aload_n 0, 1), (89, .getfield 13, 3), (92, .iload_n 1, 1), (93, .iconst 2, 1), (94, .iadd, 1), (95, .iaload, 1), (96, .iconst 2, 1), (97, .if_icmp .eq 14, 3), (100, .aload_n 0, 1), (101, .iconst 2, 1), (102, .iconst 0, 1), (103, .ldc 116, 2), (105, .invokevirtual 106, 3), (108, .ifCond .eq 7, 3), (111, .iconst 1, 1), (112, .goto 4, 3), (115, .iconst 0, 1), (116, .ireturn, 1)], [(13, 959, 8, 2, .array .int), (100, 960, 8, 3, .int)], [(109, 1088, .int (661676)), (114, 1093, .int (21241138)), (115, 1121, .int (169542)), (116, 1104, .int (999999))], [])
theorem ok_X11_readsPage : aOK M_X11_readsPage := by unfold aOK; decide +kernel
def M_X11_readsRest : aM := (RX11, cX11_readsRest, 2, false, (some .boolean), { frames := 4, cells := 0, slots := 0, locals := 84 }, [(0, .iload_n 1, 1), (1, .tableswitch 203 0 7 #[47, 47, 95, 132, 203, 203, 203, 198], 47), (48, .aload_n 0, 1), (49, .iconst 0, 1), (50, .iconst 1, 1), (51, .ldc 116, 2), (53, .invokevirtual 106, 3), (56, .ifCond .eq 38, 3), (59, .aload_n 0, 1), (60, .iconst 1, 1), (61, .iconst 0, 1), (62, .bipush 7, 2), (64, .invokevirtual 106, 3), (67, .ifCond .eq 27, 3), (70, .aload_n 0, 1), (71, .iconst 2, 1), (72, .iconst 0, 1), (73, .iconst 3, 1), (74, .invokevirtual 106, 3), (77, .ifCond .eq 17, 3), (80, .aload_n 0, 1), (81, .iconst 3, 1), (82, .iconst 0, 1), (83, .iconst 5, 1), (84, .invokevirtual 106, 3), (87, .ifCond .eq 7, 3), (90, .iconst 1, 1), (91, .goto 4, 3), (94, .iconst 0, 1), (95, .ireturn, 1), (96, .aload_n 0, 1), (97, .iconst 0, 1), (98, .iconst 0, 1), (99, .iconst 3, 1), (100, .invokevirtual 106, 3), (103, .ifCond .eq 28, 3), (106, .aload_n 0, 1), (107, .iconst 1, 1), (108, .iconst 0, 1), (109, .iconst 4, 1), (110, .invokevirtual 106, 3), (113, .ifCond .eq 18, 3), (116, .aload_n 0, 1), (117, .iconst 2, 1), (118, .iconst 0, 1), (119, .bipush 99, 2), (121, .invokevirtual 106, 3), (124, .ifCond .eq 7, 3), (127, .iconst 1, 1), (128, .goto 4, 3), (131, .iconst 0, 1), (132, .ireturn, 1), (133, .aload_n 0, 1), (134, .iconst 0, 1), (135, .iconst 0, 1), (136, .bipush 9, 2), (138, .invokevirtual 106, 3), (141, .ifCond .eq 56, 3), (144, .aload_n 0, 1), (145, .invokevirtual 92, 3), (148, .ifCond .eq 23, 3), (151, .aload_n 0, 1), (152, .invokevirtual 96, 3), (155, .aload_n 0, 1), (156, .getfield 13, 3), (159, .iconst 5, 1), (160, .aload_n 0, 1), (161, .getfield 100, 3), (164, .imul, 1), (165, .iconst 1, 1), (166, .iadd, 1), (167, .iaload, 1), (168, .if_icmp .eq 29, 3), (171, .aload_n 0, 1), (172, .iconst 1, 1), (173, .iconst 0, 1), (174, .bipush 9, 2), (176, .invokevirtual 106, 3), (179, .ifCond .eq 18, 3), (182, .aload_n 0, 1), (183, .iconst 2, 1), (184, .iconst 0, 1), (185, .bipush 99, 2), (187, .invokevirtual 106, 3), (190, .ifCond .eq 7, 3), (193, .iconst 1, 1), (194, .goto 4, 3), (197, .iconst 0, 1), (198, .ireturn, 1), (199, .aload_n 0, 1), (200, .invokevirtual 117, 3), (203, .ireturn, 1), (204, .aload_n 0, 1), (205, .iconst 0, 1), (206, .iconst 0, 1), (207, .bipush 99, 2), (209, .invokevirtual 106, 3), (212, .ireturn, 1)], [(13, 959, 8, 2, .array .int), (100, 960, 8, 3, .int)], [(116, 1104, .int (999999))], [])
theorem ok_X11_readsRest : aOK M_X11_readsRest := by unfold aOK; decide +kernel
def M_X11_readsLine : aM := (RX11, cX11_readsLine, 2, false, (some .boolean), { frames := 5, cells := 0, slots := 0, locals := 105 }, [(0, .aload_n 0, 1), (1, .ldc 109, 2), (3, .iconst 4, 1), (4, .invokevirtual 110, 3), (7, .ifCond .eq 7, 3), (10, .iconst 0, 1), (11, .goto 106, 3), (14, .aload_n 0, 1), (15, .ldc 114, 2), (17, .iconst 5, 1), (18, .invokevirtual 110, 3), (21, .ifCond .eq 7, 3), (24, .iconst 1, 1), (25, .goto 92, 3), (28, .aload_n 0, 1), (29, .ldc 120, 2), (31, .iconst 4, 1), (32, .invokevirtual 110, 3), (35, .ifCond .eq 7, 3), (38, .iconst 2, 1), (39, .goto 78, 3), (42, .aload_n 0, 1), (43, .ldc 121, 2), (45, .iconst 4, 1), (46, .invokevirtual 110, 3), (49, .ifCond .eq 7, 3), (52, .iconst 3, 1), (53, .goto 64, 3), (56, .aload_n 0, 1), (57, .ldc 122, 2), (59, .bipush 6, 2), (61, .invokevirtual 110, 3), (64, .ifCond .eq 7, 3), (67, .iconst 4, 1), (68, .goto 49, 3), (71, .aload_n 0, 1), (72, .ldc 123, 2), (74, .iconst 5, 1), (75, .invokevirtual 110, 3), (78, .ifCond .eq 7, 3), (81, .iconst 5, 1), (82, .goto 35, 3), (85, .aload_n 0, 1), (86, .ldc 124, 2), (88, .bipush 6, 2), (90, .invokevirtual 110, 3), (93, .ifCond .eq 8, 3), (96, .bipush 6, 2), (98, .goto 19, 3), (101, .aload_n 0, 1), (102, .ldc 125, 2), (104, .iconst 4, 1), (105, .invokevirtual 110, 3), (108, .ifCond .eq 8, 3), (111, .bipush 7, 2), (113, .goto 4, 3), (116, .iconst (-1), 1), (117, .istore_n 1, 1), (118, .iload_n 1, 1), (119, .iconst (-1), 1), (120, .if_icmp .ne 5, 3), (123, .iconst 0, 1), (124, .ireturn, 1), (125, .aload_n 0, 1), (126, .invokevirtual 103, 3), (129, .aload_n 0, 1), (130, .getfield 13, 3), (133, .iconst 5, 1), (134, .aload_n 0, 1), (135, .getfield 100, 3), (138, .imul, 1), (139, .iload_n 1, 1), (140, .iastore, 1), (141, .aload_n 0, 1), (142, .iload_n 1, 1), (143, .invokevirtual 126, 3), (146, .ifCond .ne 5, 3), (149, .iconst 0, 1), (150, .ireturn, 1), (151, .aload_n 0, 1), (152, .dup, 1), (153, .getfield 100, 3), (156, .iconst 1, 1), (157, .iadd, 1), (158, .putfield 100, 3), (161, .iconst 1, 1), (162, .ireturn, 1)], [(13, 959, 8, 2, .array .int), (100, 960, 8, 3, .int)], [(109, 1088, .int (661676)), (114, 1093, .int (21241138)), (120, 1094, .int (145448)), (121, 1095, .int (132274)), (122, 1096, .int (140102957)), (123, 1097, .int (26822691)), (124, 1098, .int (149392563)), (125, 1099, .int (171056))], [])
theorem ok_X11_readsLine : aOK M_X11_readsLine := by unfold aOK; decide +kernel
def M_X11_fault : aM := (RX11, cX11_fault, 2, false, (some .int), { frames := 6, cells := 0, slots := 0, locals := 126 }, [(0, .aload_n 0, 1), (1, .iconst 0, 1), (2, .putfield 79, 3), (5, .aload_n 0, 1), (6, .iconst 0, 1), (7, .putfield 100, 3), (10, .aload_n 0, 1), (11, .invokevirtual 103, 3), (14, .aload_n 0, 1), (15, .invokevirtual 130, 3), (18, .ifCond .ne 8, 3), (21, .aload_n 0, 1), (22, .getfield 82, 3), (25, .ireturn, 1), (26, .aload_n 0, 1), (27, .getfield 82, 3), (30, .aload_n 0, 1), (31, .getfield 74, 3), (34, .if_icmp .ge 70, 3), (37, .aload_n 0, 1), (38, .getfield 89, 3), (41, .aload_n 0, 1), (42, .getfield 82, 3), (45, .isub, 1), (46, .iconst 1, 1), (47, .if_icmp .ne 30, 3), (50, .aload_n 0, 1), (51, .getfield 7, 3), (54, .aload_n 0, 1), (55, .getfield 82, 3), (58, .iaload, 1), (59, .bipush 59, 2), (61, .if_icmp .ne 16, 3), (64, .aload_n 0, 1), (65, .getfield 100, 3), (68, .bipush 10, 2), (70, .if_icmp .ge 7, 3), (73, .iconst 1, 1), (74, .goto 4, 3), (77, .iconst 0, 1), (78, .istore_n 1, 1), (79, .iload_n 1, 1), (80, .ifCond .eq 12, 3), (83, .aload_n 0, 1), (84, .invokevirtual 103, 3), (87, .aload_n 0, 1), (88, .invokevirtual 130, 3), (91, .istore_n 1, 1), (92, .iload_n 1, 1), (93, .ifCond .ne 8, 3), (96, .aload_n 0, 1), (97, .getfield 82, 3), (100, .ireturn, 1), (101, .goto (-75), 3), (104, .iconst (-1), 1), (105, .ireturn, 1)], [(7, 957, 8, 0, .array .int), (74, 958, 8, 1, .int), (79, 972, 8, 15, .int), (82, 973, 8, 16, .int), (89, 974, 8, 17, .int), (100, 960, 8, 3, .int)], [], [])
theorem ok_X11_fault : aOK M_X11_fault := by unfold aOK; decide +kernel
def M_X11_lay : aM := (RX11, cX11_lay, 5, false, none, { frames := 0, cells := 0, slots := 0, locals := 0 }, [(0, .aload_n 0, 1), (1, .getfield 13, 3), (4, .iload_n 1, 1), (5, .iconst 1, 1), (6, .iadd, 1), (7, .iaload, 1), (8, .istore_n 2, 1), (9, .aload_n 0, 1), (10, .getfield 13, 3), (13, .iload_n 1, 1), (14, .iconst 2, 1), (15, .iadd, 1), (16, .iaload, 1), (17, .istore_n 3, 1), (18, .aload_n 0, 1), (19, .getfield 13, 3), (22, .iload_n 1, 1), (23, .iconst 3, 1), (24, .iadd, 1), (25, .iaload, 1), (26, .istore 4, 2), (28, .aload_n 0, 1), (29, .getfield 13, 3), (32, .iload_n 1, 1), (33, .iaload, 1), (34, .tableswitch 188 0 6 #[42, 42, 143, 156, 170, 176, 182], 42), (76, .aload_n 0, 1), (77, .getfield 133, 3), (80, .bipush 30, 2), (82, .if_icmp .ge 94, 3), (85, .aload_n 0, 1), (86, .getfield 16, 3), (89, .iconst 5, 1), (90, .aload_n 0, 1), (91, .getfield 133, 3), (94, .imul, 1), (95, .aload_n 0, 1), (96, .getfield 13, 3), (99, .iload_n 1, 1), (100, .iaload, 1), (101, .iastore, 1), (102, .aload_n 0, 1), (103, .getfield 16, 3), (106, .iconst 5, 1), (107, .aload_n 0, 1), (108, .getfield 133, 3), (111, .imul, 1), (112, .iconst 1, 1), (113, .iadd, 1), (114, .iload_n 2, 1), (115, .iastore, 1), (116, .aload_n 0, 1), (117, .getfield 16, 3), (120, .iconst 5, 1), (121, .aload_n 0, 1), (122, .getfield 133, 3), (125, .imul, 1), (126, .iconst 2, 1), (127, .iadd, 1), (128, .iload_n 3, 1), (129, .iastore, 1), (130, .aload_n 0, 1), (131, .getfield 16, 3), (134, .iconst 5, 1), (135, .aload_n 0, 1), (136, .getfield 133, 3), (139, .imul, 1), (140, .iconst 3, 1), (141, .iadd, 1), (142, .iload 4, 2), (144, .iastore, 1), (145, .aload_n 0, 1), (146, .getfield 16, 3), (149, .iconst 5, 1), (150, .aload_n 0, 1), (151, .getfield 133, 3), (154, .imul, 1), (155, .iconst 4, 1), (156, .iadd, 1), (157, .aload_n 0, 1), (158, .getfield 13, 3), (161, .iload_n 1, 1), (162, .iconst 4, 1), (163, .iadd, 1), (164, .iaload, 1), (165, .iastore, 1), (166, .aload_n 0, 1), (167, .dup, 1), (168, .getfield 133, 3), (171, .iconst 1, 1), (172, .iadd, 1), (173, .putfield 133, 3), (176, .return_, 1), (177, .aload_n 0, 1), (178, .getfield 22, 3), (181, .iconst 5, 1), (182, .iload_n 2, 1), (183, .imul, 1), (184, .iload_n 3, 1), (185, .iadd, 1), (186, .iload 4, 2), (188, .iastore, 1), (189, .return_, 1), (190, .aload_n 0, 1), (191, .getfield 25, 3), (194, .bipush 10, 2), (196, .iload_n 2, 1), (197, .imul, 1), (198, .iload_n 3, 1), (199, .iadd, 1), (200, .iload 4, 2), (202, .iastore, 1), (203, .return_, 1), (204, .aload_n 0, 1), (205, .iload_n 2, 1), (206, .putfield 28, 3), (209, .return_, 1), (210, .aload_n 0, 1), (211, .iload_n 2, 1), (212, .putfield 32, 3), (215, .return_, 1), (216, .aload_n 0, 1), (217, .iload_n 2, 1), (218, .putfield 35, 3), (221, .return_, 1), (222, .aload_n 0, 1), (223, .iload_n 3, 1), (224, .iconst 2, 1), (225, .if_icmp .ne 16, 3), (228, .aload_n 0, 1), (229, .getfield 136, 3), (232, .iconst 1, 1), (233, .iload_n 2, 1), (234, .ishl, 1), (235, .iconst (-1), 1), (236, .ixor, 1), (237, .iand, 1), (238, .goto 11, 3), (241, .aload_n 0, 1), (242, .getfield 136, 3), (245, .iconst 1, 1), (246, .iload_n 2, 1), (247, .ishl, 1), (248, .ior, 1), (249, .putfield 136, 3), (252, .aload_n 0, 1), (253, .getfield 19, 3), (256, .iload_n 2, 1), (257, .iload_n 3, 1), (258, .ifCond .ne 8, 3), (261, .iload 4, 2), (263, .goto 6, 3), (266, .iload 4, 2), (268, .ineg, 1), (269, .iastore, 1), (270, .return_, 1)], [(13, 959, 8, 2, .array .int), (16, 961, 8, 4, .array .int), (19, 963, 8, 6, .array .int), (22, 965, 8, 8, .array .int), (25, 966, 8, 9, .array .int), (28, 967, 8, 10, .int), (32, 968, 8, 11, .int), (35, 969, 8, 12, .int), (133, 962, 8, 5, .int), (136, 964, 8, 7, .int)], [], [])
theorem ok_X11_lay : aOK M_X11_lay := by unfold aOK; decide +kernel
def M_X11_book : aM := (RX11, cX11_book, 2, false, (some .int), { frames := 7, cells := 0, slots := 0, locals := 147 }, [(0, .aload_n 0, 1), (1, .invokevirtual 139, 3), (4, .iconst (-1), 1), (5, .if_icmp .eq 6, 3), (8, .bipush (-4), 2), (10, .ireturn, 1), (11, .iconst 0, 1), (12, .istore_n 1, 1), (13, .iload_n 1, 1), (14, .aload_n 0, 1), (15, .getfield 100, 3), (18, .if_icmp .ge 16, 3), (21, .aload_n 0, 1), (22, .iconst 5, 1), (23, .iload_n 1, 1), (24, .imul, 1), (25, .invokevirtual 142, 3), (28, .iinc 1 1, 3), (31, .goto (-18), 3), (34, .aload_n 0, 1), (35, .iconst 0, 1), (36, .putfield 74, 3), (39, .aload_n 0, 1), (40, .getfield 100, 3), (43, .ireturn, 1)], [(74, 958, 8, 1, .int), (100, 960, 8, 3, .int)], [], [])
theorem ok_X11_book : aOK M_X11_book := by unfold aOK; decide +kernel
def M_X11_isEntry : aM := (RX11, cX11_isEntry, 2, false, (some .boolean), { frames := 1, cells := 0, slots := 0, locals := 25 }, [(0, .iload_n 1, 1), (1, .i2l, 1), (2, .lconst 0, 1), (3, .aload_n 0, 1), (4, .getfield 133, 3), (7, .iconst 1, 1), (8, .isub, 1), (9, .i2l, 1), (10, .invokestatic 70, 3), (13, .ireturn, 1)], [(133, 962, 8, 5, .int)], [], [])
theorem ok_X11_isEntry : aOK M_X11_isEntry := by unfold aOK; decide +kernel
def M_X11_entry : aM := (RX11, cX11_entry, 3, false, (some .int), { frames := 2, cells := 0, slots := 0, locals := 46 }, [(0, .aload_n 0, 1), (1, .iload_n 1, 1), (2, .invokevirtual 146, 3), (5, .ifCond .ne 6, 3), (8, .bipush (-2), 2), (10, .ireturn, 1), (11, .iload_n 2, 1), (12, .i2l, 1), (13, .lconst 0, 1), (14, .ldc2_w 149, 3), (17, .invokestatic 70, 3), (20, .ifCond .eq 16, 3), (23, .aload_n 0, 1), (24, .getfield 16, 3), (27, .iconst 5, 1), (28, .iload_n 1, 1), (29, .imul, 1), (30, .iload_n 2, 1), (31, .iadd, 1), (32, .iaload, 1), (33, .goto 5, 3), (36, .bipush (-3), 2), (38, .ireturn, 1)], [(16, 961, 8, 4, .array .int)], [(149, 1139, .long (4))], [])
theorem ok_X11_entry : aOK M_X11_entry := by unfold aOK; decide +kernel
def M_X11_outOf : aM := (RX11, cX11_outOf, 5, false, (some .int), { frames := 0, cells := 0, slots := 0, locals := 0 }, [(0, .iconst 0, 1), (1, .istore_n 2, 1), (2, .iconst 0, 1), (3, .istore_n 3, 1), (4, .iload_n 3, 1), (5, .aload_n 0, 1), (6, .getfield 133, 3), (9, .if_icmp .ge 82, 3), (12, .iload_n 1, 1), (13, .iconst (-1), 1), (14, .if_icmp .eq 17, 3), (17, .aload_n 0, 1), (18, .getfield 16, 3), (21, .iconst 5, 1), (22, .iload_n 3, 1), (23, .imul, 1), (24, .iconst 4, 1), (25, .iadd, 1), (26, .iaload, 1), (27, .iload_n 1, 1), (28, .if_icmp .ne 7, 3), (31, .iconst 1, 1), (32, .goto 4, 3), (35, .iconst 0, 1), (36, .istore 4, 2), (38, .iload_n 2, 1), (39, .iload 4, 2), (41, .ifCond .ne 7, 3), (44, .iconst 0, 1), (45, .goto 38, 3), (48, .aload_n 0, 1), (49, .getfield 16, 3), (52, .iconst 5, 1), (53, .iload_n 3, 1), (54, .imul, 1), (55, .iaload, 1), (56, .ifCond .ne 16, 3), (59, .aload_n 0, 1), (60, .getfield 16, 3), (63, .iconst 5, 1), (64, .iload_n 3, 1), (65, .imul, 1), (66, .iconst 1, 1), (67, .iadd, 1), (68, .iaload, 1), (69, .goto 14, 3), (72, .aload_n 0, 1), (73, .getfield 16, 3), (76, .iconst 5, 1), (77, .iload_n 3, 1), (78, .imul, 1), (79, .iconst 1, 1), (80, .iadd, 1), (81, .iaload, 1), (82, .ineg, 1), (83, .iadd, 1), (84, .istore_n 2, 1), (85, .iinc 3 1, 3), (88, .goto (-84), 3), (91, .iload_n 2, 1), (92, .ireturn, 1)], [(16, 961, 8, 4, .array .int), (133, 962, 8, 5, .int)], [], [])
theorem ok_X11_outOf : aOK M_X11_outOf := by unfold aOK; decide +kernel
def M_X11_out : aM := (RX11, cX11_out, 2, false, (some .int), { frames := 1, cells := 0, slots := 0, locals := 25 }, [(0, .iload_n 1, 1), (1, .i2l, 1), (2, .ldc2_w 151, 3), (5, .ldc2_w 153, 3), (8, .invokestatic 70, 3), (11, .ifCond .eq 14, 3), (14, .aload_n 0, 1), (15, .iload_n 1, 1), (16, .invokevirtual 155, 3), (19, .ldc 158, 2), (21, .iadd, 1), (22, .goto 5, 3), (25, .bipush (-2), 2), (27, .ireturn, 1)], [], [(151, 1144, .long (-1)), (153, 1145, .long (5)), (158, 1150, .int (50000000))], [])
theorem ok_X11_out : aOK M_X11_out := by unfold aOK; decide +kernel
def M_X11_hasDue : aM := (RX11, cX11_hasDue, 2, false, (some .boolean), { frames := 0, cells := 0, slots := 0, locals := 0 }, [(0, .aload_n 0, 1), (1, .getfield 136, 3), (4, .iload_n 1, 1), (5, .ishr, 1), (6, .iconst 1, 1), (7, .iand, 1), (8, .iconst 1, 1), (9, .if_icmp .ne 7, 3), (12, .iconst 1, 1), (13, .goto 4, 3), (16, .iconst 0, 1), (17, .ireturn, 1)], [(136, 964, 8, 7, .int)], [], [])
theorem ok_X11_hasDue : aOK M_X11_hasDue := by unfold aOK; decide +kernel
def M_X11_offOf : aM := (RX11, cX11_offOf, 2, false, (some .int), { frames := 1, cells := 0, slots := 0, locals := 24 }, [(0, .aload_n 0, 1), (1, .iload_n 1, 1), (2, .invokevirtual 155, 3), (5, .aload_n 0, 1), (6, .getfield 19, 3), (9, .iload_n 1, 1), (10, .iaload, 1), (11, .isub, 1), (12, .ireturn, 1)], [(19, 963, 8, 6, .array .int)], [], [])
theorem ok_X11_offOf : aOK M_X11_offOf := by unfold aOK; decide +kernel
def M_X11_off : aM := (RX11, cX11_off, 2, false, (some .int), { frames := 2, cells := 0, slots := 0, locals := 45 }, [(0, .iload_n 1, 1), (1, .i2l, 1), (2, .lconst 0, 1), (3, .ldc2_w 153, 3), (6, .invokestatic 70, 3), (9, .ifCond .ne 6, 3), (12, .bipush (-2), 2), (14, .ireturn, 1), (15, .aload_n 0, 1), (16, .iload_n 1, 1), (17, .invokevirtual 159, 3), (20, .ifCond .eq 14, 3), (23, .aload_n 0, 1), (24, .iload_n 1, 1), (25, .invokevirtual 162, 3), (28, .ldc 158, 2), (30, .iadd, 1), (31, .goto 4, 3), (34, .iconst (-1), 1), (35, .ireturn, 1)], [], [(153, 1145, .long (5)), (158, 1150, .int (50000000))], [])
theorem ok_X11_off : aOK M_X11_off := by unfold aOK; decide +kernel
def M_X11_isHand : aM := (RX11, cX11_isHand, 1, false, (some .boolean), { frames := 1, cells := 0, slots := 0, locals := 25 }, [(0, .iload_n 0, 1), (1, .i2l, 1), (2, .lconst 0, 1), (3, .ldc2_w 165, 3), (6, .invokestatic 70, 3), (9, .ireturn, 1)], [], [(165, 1170, .long (3))], [])
theorem ok_X11_isHand : aOK M_X11_isHand := by unfold aOK; decide +kernel
def M_X11_odds : aM := (RX11, cX11_odds, 3, false, (some .int), { frames := 2, cells := 0, slots := 0, locals := 45 }, [(0, .iload_n 1, 1), (1, .invokestatic 167, 3), (4, .ifCond .eq 28, 3), (7, .iload_n 2, 1), (8, .i2l, 1), (9, .lconst 0, 1), (10, .ldc2_w 149, 3), (13, .invokestatic 70, 3), (16, .ifCond .eq 16, 3), (19, .aload_n 0, 1), (20, .getfield 22, 3), (23, .iconst 5, 1), (24, .iload_n 1, 1), (25, .imul, 1), (26, .iload_n 2, 1), (27, .iadd, 1), (28, .iaload, 1), (29, .goto 5, 3), (32, .bipush (-2), 2), (34, .ireturn, 1)], [(22, 965, 8, 8, .array .int)], [(149, 1139, .long (4))], [])
theorem ok_X11_odds : aOK M_X11_odds := by unfold aOK; decide +kernel
def M_X11_learn : aM := (RX11, cX11_learn, 3, false, (some .int), { frames := 2, cells := 0, slots := 0, locals := 45 }, [(0, .iload_n 1, 1), (1, .invokestatic 167, 3), (4, .ifCond .eq 15, 3), (7, .iload_n 2, 1), (8, .i2l, 1), (9, .lconst 0, 1), (10, .ldc2_w 149, 3), (13, .invokestatic 70, 3), (16, .ifCond .ne 6, 3), (19, .bipush (-2), 2), (21, .ireturn, 1), (22, .aload_n 0, 1), (23, .getfield 22, 3), (26, .iconst 5, 1), (27, .iload_n 1, 1), (28, .imul, 1), (29, .iload_n 2, 1), (30, .iadd, 1), (31, .dup2, 1), (32, .iaload, 1), (33, .aload_n 0, 1), (34, .getfield 22, 3), (37, .iconst 5, 1), (38, .iload_n 1, 1), (39, .imul, 1), (40, .iload_n 2, 1), (41, .iadd, 1), (42, .iaload, 1), (43, .bipush 99, 2), (45, .if_icmp .ge 7, 3), (48, .iconst 1, 1), (49, .goto 4, 3), (52, .iconst 0, 1), (53, .iadd, 1), (54, .iastore, 1), (55, .aload_n 0, 1), (56, .getfield 22, 3), (59, .iconst 5, 1), (60, .iload_n 1, 1), (61, .imul, 1), (62, .iload_n 2, 1), (63, .iadd, 1), (64, .iaload, 1), (65, .ireturn, 1)], [(22, 965, 8, 8, .array .int)], [(149, 1139, .long (4))], [])
theorem ok_X11_learn : aOK M_X11_learn := by unfold aOK; decide +kernel
def M_X11_mend : aM := (RX11, cX11_mend, 4, false, (some .int), { frames := 2, cells := 0, slots := 0, locals := 46 }, [(0, .aload_n 0, 1), (1, .iload_n 1, 1), (2, .invokevirtual 146, 3), (5, .ifCond .ne 6, 3), (8, .bipush (-2), 2), (10, .ireturn, 1), (11, .iload_n 2, 1), (12, .i2l, 1), (13, .lconst 0, 1), (14, .lconst 1, 1), (15, .invokestatic 70, 3), (18, .ifCond .eq 15, 3), (21, .iload_n 3, 1), (22, .i2l, 1), (23, .lconst 1, 1), (24, .ldc2_w 170, 3), (27, .invokestatic 70, 3), (30, .ifCond .ne 6, 3), (33, .bipush (-3), 2), (35, .ireturn, 1), (36, .aload_n 0, 1), (37, .getfield 16, 3), (40, .iconst 5, 1), (41, .iload_n 1, 1), (42, .imul, 1), (43, .iload_n 2, 1), (44, .iastore, 1), (45, .aload_n 0, 1), (46, .getfield 16, 3), (49, .iconst 5, 1), (50, .iload_n 1, 1), (51, .imul, 1), (52, .iconst 1, 1), (53, .iadd, 1), (54, .iload_n 3, 1), (55, .iastore, 1), (56, .aload_n 0, 1), (57, .iconst (-1), 1), (58, .invokevirtual 155, 3), (61, .ldc 158, 2), (63, .iadd, 1), (64, .ireturn, 1)], [(16, 961, 8, 4, .array .int)], [(158, 1150, .int (50000000)), (170, 1179, .long (999999))], [])
theorem ok_X11_mend : aOK M_X11_mend := by unfold aOK; decide +kernel
def M_X11_strike : aM := (RX11, cX11_strike, 3, false, (some .int), { frames := 2, cells := 0, slots := 0, locals := 46 }, [(0, .aload_n 0, 1), (1, .iload_n 1, 1), (2, .invokevirtual 146, 3), (5, .ifCond .ne 6, 3), (8, .bipush (-2), 2), (10, .ireturn, 1), (11, .iconst 5, 1), (12, .iload_n 1, 1), (13, .imul, 1), (14, .istore_n 2, 1), (15, .iload_n 2, 1), (16, .iconst 5, 1), (17, .aload_n 0, 1), (18, .getfield 133, 3), (21, .imul, 1), (22, .iconst 5, 1), (23, .isub, 1), (24, .if_icmp .ge 23, 3), (27, .aload_n 0, 1), (28, .getfield 16, 3), (31, .iload_n 2, 1), (32, .aload_n 0, 1), (33, .getfield 16, 3), (36, .iload_n 2, 1), (37, .iconst 5, 1), (38, .iadd, 1), (39, .iaload, 1), (40, .iastore, 1), (41, .iinc 2 1, 3), (44, .goto (-29), 3), (47, .aload_n 0, 1), (48, .dup, 1), (49, .getfield 133, 3), (52, .iconst 1, 1), (53, .isub, 1), (54, .putfield 133, 3), (57, .aload_n 0, 1), (58, .getfield 133, 3), (61, .ireturn, 1)], [(16, 961, 8, 4, .array .int), (133, 962, 8, 5, .int)], [], [])
theorem ok_X11_strike : aOK M_X11_strike := by unfold aOK; decide +kernel
def M_X11_add : aM := (RX11, cX11_add, 7, false, none, { frames := 0, cells := 0, slots := 0, locals := 0 }, [(0, .iload 5, 2), (2, .ifCond .ne 4, 3), (5, .return_, 1), (6, .aload_n 0, 1), (7, .getfield 172, 3), (10, .istore 6, 2), (12, .iload 6, 2), (14, .ifCond .le 134, 3), (17, .iload_n 1, 1), (18, .bipush 6, 2), (20, .if_icmp .eq 128, 3), (23, .aload_n 0, 1), (24, .getfield 41, 3), (27, .iload 6, 2), (29, .iconst 1, 1), (30, .isub, 1), (31, .iaload, 1), (32, .iload_n 1, 1), (33, .if_icmp .ne 115, 3), (36, .aload_n 0, 1), (37, .getfield 44, 3), (40, .iload 6, 2), (42, .iconst 1, 1), (43, .isub, 1), (44, .iaload, 1), (45, .iload_n 2, 1), (46, .if_icmp .ne 102, 3), (49, .aload_n 0, 1), (50, .getfield 47, 3), (53, .iload 6, 2), (55, .iconst 1, 1), (56, .isub, 1), (57, .iaload, 1), (58, .iload_n 3, 1), (59, .if_icmp .le 89, 3), (62, .aload_n 0, 1), (63, .getfield 41, 3), (66, .iload 6, 2), (68, .aload_n 0, 1), (69, .getfield 41, 3), (72, .iload 6, 2), (74, .iconst 1, 1), (75, .isub, 1), (76, .iaload, 1), (77, .iastore, 1), (78, .aload_n 0, 1), (79, .getfield 44, 3), (82, .iload 6, 2), (84, .aload_n 0, 1), (85, .getfield 44, 3), (88, .iload 6, 2), (90, .iconst 1, 1), (91, .isub, 1), (92, .iaload, 1), (93, .iastore, 1), (94, .aload_n 0, 1), (95, .getfield 47, 3), (98, .iload 6, 2), (100, .aload_n 0, 1), (101, .getfield 47, 3), (104, .iload 6, 2), (106, .iconst 1, 1), (107, .isub, 1), (108, .iaload, 1), (109, .iastore, 1), (110, .aload_n 0, 1), (111, .getfield 50, 3), (114, .iload 6, 2), (116, .aload_n 0, 1), (117, .getfield 50, 3), (120, .iload 6, 2), (122, .iconst 1, 1), (123, .isub, 1), (124, .iaload, 1), (125, .iastore, 1), (126, .aload_n 0, 1), (127, .getfield 53, 3), (130, .iload 6, 2), (132, .aload_n 0, 1), (133, .getfield 53, 3), (136, .iload 6, 2), (138, .iconst 1, 1), (139, .isub, 1), (140, .iaload, 1), (141, .iastore, 1), (142, .iinc 6 (-1), 3), (145, .goto (-133), 3), (148, .aload_n 0, 1), (149, .getfield 41, 3), (152, .iload 6, 2), (154, .iload_n 1, 1), (155, .iastore, 1), (156, .aload_n 0, 1), (157, .getfield 44, 3), (160, .iload 6, 2), (162, .iload_n 2, 1), (163, .iastore, 1), (164, .aload_n 0, 1), (165, .getfield 47, 3), (168, .iload 6, 2), (170, .iload_n 3, 1), (171, .iastore, 1), (172, .aload_n 0, 1), (173, .getfield 50, 3), (176, .iload 6, 2), (178, .iload 4, 2), (180, .iastore, 1), (181, .aload_n 0, 1), (182, .getfield 53, 3), (185, .iload 6, 2), (187, .iload 5, 2), (189, .iastore, 1), (190, .aload_n 0, 1), (191, .dup, 1), (192, .getfield 172, 3), (195, .iconst 1, 1), (196, .iadd, 1), (197, .putfield 172, 3), (200, .return_, 1)], [(41, 975, 8, 18, .array .int), (44, 976, 8, 19, .array .int), (47, 977, 8, 20, .array .int), (50, 978, 8, 21, .array .int), (53, 979, 8, 22, .array .int), (172, 980, 8, 23, .int)], [], [])
theorem ok_X11_add : aOK M_X11_add := by unfold aOK; decide +kernel
def M_X11_changeBy : aM := (RX11, cX11_changeBy, 3, false, (some .int), { frames := 0, cells := 0, slots := 0, locals := 0 }, [(0, .aload_n 0, 1), (1, .getfield 16, 3), (4, .iconst 5, 1), (5, .iload_n 1, 1), (6, .imul, 1), (7, .iaload, 1), (8, .ifCond .ne 18, 3), (11, .iload_n 2, 1), (12, .aload_n 0, 1), (13, .getfield 16, 3), (16, .iconst 5, 1), (17, .iload_n 1, 1), (18, .imul, 1), (19, .iconst 1, 1), (20, .iadd, 1), (21, .iaload, 1), (22, .isub, 1), (23, .goto 15, 3), (26, .aload_n 0, 1), (27, .getfield 16, 3), (30, .iconst 5, 1), (31, .iload_n 1, 1), (32, .imul, 1), (33, .iconst 1, 1), (34, .iadd, 1), (35, .iaload, 1), (36, .iload_n 2, 1), (37, .isub, 1), (38, .ireturn, 1)], [(16, 961, 8, 4, .array .int)], [], [])
theorem ok_X11_changeBy : aOK M_X11_changeBy := by unfold aOK; decide +kernel
def M_X11_power : aM := (RX11, cX11_power, 3, false, (some .int), { frames := 0, cells := 0, slots := 0, locals := 0 }, [(0, .iconst 1, 1), (1, .istore_n 1, 1), (2, .iconst 0, 1), (3, .istore_n 2, 1), (4, .iload_n 2, 1), (5, .iload_n 0, 1), (6, .if_icmp .ge 14, 3), (9, .iload_n 1, 1), (10, .bipush 10, 2), (12, .imul, 1), (13, .istore_n 1, 1), (14, .iinc 2 1, 3), (17, .goto (-13), 3), (20, .iload_n 1, 1), (21, .ireturn, 1)], [], [], [])
theorem ok_X11_power : aOK M_X11_power := by unfold aOK; decide +kernel
def M_X11_figures : aM := (RX11, cX11_figures, 3, false, (some .int), { frames := 0, cells := 0, slots := 0, locals := 0 }, [(0, .iconst 1, 1), (1, .istore_n 1, 1), (2, .iload_n 0, 1), (3, .bipush 10, 2), (5, .idiv, 1), (6, .istore_n 2, 1), (7, .iload_n 2, 1), (8, .ifCond .le 14, 3), (11, .iload_n 2, 1), (12, .bipush 10, 2), (14, .idiv, 1), (15, .istore_n 2, 1), (16, .iinc 1 1, 3), (19, .goto (-12), 3), (22, .iload_n 1, 1), (23, .ireturn, 1)], [], [], [])
theorem ok_X11_figures : aOK M_X11_figures := by unfold aOK; decide +kernel
def M_X11_figure : aM := (RX11, cX11_figure, 2, false, (some .int), { frames := 1, cells := 0, slots := 0, locals := 22 }, [(0, .iload_n 0, 1), (1, .iload_n 1, 1), (2, .invokestatic 175, 3), (5, .idiv, 1), (6, .bipush 10, 2), (8, .irem, 1), (9, .ireturn, 1)], [], [], [])
theorem ok_X11_figure : aOK M_X11_figure := by unfold aOK; decide +kernel
def M_X11_turned : aM := (RX11, cX11_turned, 5, false, (some .int), { frames := 2, cells := 0, slots := 0, locals := 43 }, [(0, .iload_n 0, 1), (1, .iload_n 1, 1), (2, .invokestatic 178, 3), (5, .istore_n 2, 1), (6, .iload_n 0, 1), (7, .iload_n 1, 1), (8, .iconst 1, 1), (9, .iadd, 1), (10, .invokestatic 178, 3), (13, .istore_n 3, 1), (14, .iload_n 1, 1), (15, .iconst 2, 1), (16, .iadd, 1), (17, .iload_n 0, 1), (18, .invokestatic 182, 3), (21, .if_icmp .ne 7, 3), (24, .iconst 1, 1), (25, .goto 4, 3), (28, .iconst 0, 1), (29, .istore 4, 2), (31, .iload_n 2, 1), (32, .iload_n 3, 1), (33, .if_icmp .eq 12, 3), (36, .iload 4, 2), (38, .ifCond .eq 11, 3), (41, .iload_n 2, 1), (42, .ifCond .ne 7, 3), (45, .iconst 0, 1), (46, .goto 20, 3), (49, .iload_n 0, 1), (50, .iload_n 2, 1), (51, .iload_n 3, 1), (52, .isub, 1), (53, .iload_n 1, 1), (54, .iconst 1, 1), (55, .iadd, 1), (56, .invokestatic 175, 3), (59, .iload_n 1, 1), (60, .invokestatic 175, 3), (63, .isub, 1), (64, .imul, 1), (65, .iadd, 1), (66, .ireturn, 1)], [], [], [])
theorem ok_X11_turned : aOK M_X11_turned := by unfold aOK; decide +kernel
def M_X11_isTwice : aM := (RX11, cX11_isTwice, 4, false, (some .boolean), { frames := 0, cells := 0, slots := 0, locals := 0 }, [(0, .iconst 0, 1), (1, .istore_n 2, 1), (2, .iconst 0, 1), (3, .istore_n 3, 1), (4, .iload_n 3, 1), (5, .iload_n 1, 1), (6, .if_icmp .ge 84, 3), (9, .iload_n 2, 1), (10, .ifCond .ne 68, 3), (13, .aload_n 0, 1), (14, .getfield 16, 3), (17, .iconst 5, 1), (18, .iload_n 3, 1), (19, .imul, 1), (20, .iaload, 1), (21, .aload_n 0, 1), (22, .getfield 16, 3), (25, .iconst 5, 1), (26, .iload_n 1, 1), (27, .imul, 1), (28, .iaload, 1), (29, .if_icmp .ne 53, 3), (32, .aload_n 0, 1), (33, .getfield 16, 3), (36, .iconst 5, 1), (37, .iload_n 3, 1), (38, .imul, 1), (39, .iconst 1, 1), (40, .iadd, 1), (41, .iaload, 1), (42, .aload_n 0, 1), (43, .getfield 16, 3), (46, .iconst 5, 1), (47, .iload_n 1, 1), (48, .imul, 1), (49, .iconst 1, 1), (50, .iadd, 1), (51, .iaload, 1), (52, .if_icmp .ne 30, 3), (55, .aload_n 0, 1), (56, .getfield 16, 3), (59, .iconst 5, 1), (60, .iload_n 3, 1), (61, .imul, 1), (62, .iconst 2, 1), (63, .iadd, 1), (64, .iaload, 1), (65, .aload_n 0, 1), (66, .getfield 16, 3), (69, .iconst 5, 1), (70, .iload_n 1, 1), (71, .imul, 1), (72, .iconst 2, 1), (73, .iadd, 1), (74, .iaload, 1), (75, .if_icmp .ne 7, 3), (78, .iconst 1, 1), (79, .goto 4, 3), (82, .iconst 0, 1), (83, .istore_n 2, 1), (84, .iinc 3 1, 3), (87, .goto (-83), 3), (90, .iload_n 2, 1), (91, .ireturn, 1)], [(16, 961, 8, 4, .array .int)], [], [])
theorem ok_X11_isTwice : aOK M_X11_isTwice := by unfold aOK; decide +kernel
def M_X11_oddsOf : aM := (RX11, cX11_oddsOf, 3, false, (some .int), { frames := 0, cells := 0, slots := 0, locals := 0 }, [(0, .aload_n 0, 1), (1, .getfield 22, 3), (4, .iconst 5, 1), (5, .aload_n 0, 1), (6, .getfield 16, 3), (9, .iconst 5, 1), (10, .iload_n 1, 1), (11, .imul, 1), (12, .iconst 3, 1), (13, .iadd, 1), (14, .iaload, 1), (15, .imul, 1), (16, .iload_n 2, 1), (17, .iadd, 1), (18, .iaload, 1), (19, .ireturn, 1)], [(16, 961, 8, 4, .array .int), (22, 965, 8, 8, .array .int)], [], [])
theorem ok_X11_oddsOf : aOK M_X11_oddsOf := by unfold aOK; decide +kernel
def M_X11_layFigures : aM := (RX11, cX11_layFigures, 7, false, none, { frames := 2, cells := 0, slots := 0, locals := 43 }, [(0, .aload_n 0, 1), (1, .getfield 16, 3), (4, .iconst 5, 1), (5, .iload_n 1, 1), (6, .imul, 1), (7, .iconst 1, 1), (8, .iadd, 1), (9, .iaload, 1), (10, .istore_n 2, 1), (11, .iconst 0, 1), (12, .istore_n 3, 1), (13, .iload_n 3, 1), (14, .iload_n 2, 1), (15, .invokestatic 182, 3), (18, .if_icmp .ge 102, 3), (21, .iload_n 2, 1), (22, .iload_n 3, 1), (23, .invokestatic 178, 3), (26, .istore 4, 2), (28, .iload_n 3, 1), (29, .iconst 1, 1), (30, .iadd, 1), (31, .iload_n 2, 1), (32, .invokestatic 182, 3), (35, .if_icmp .ne 7, 3), (38, .iconst 1, 1), (39, .goto 4, 3), (42, .iconst 0, 1), (43, .istore 5, 2), (45, .iload 5, 2), (47, .bipush 10, 2), (49, .if_icmp .ge 65, 3), (52, .iload 5, 2), (54, .iload 4, 2), (56, .if_icmp .eq 52, 3), (59, .iload_n 2, 1), (60, .iload 5, 2), (62, .iload 4, 2), (64, .isub, 1), (65, .iload_n 3, 1), (66, .invokestatic 175, 3), (69, .imul, 1), (70, .iadd, 1), (71, .istore 6, 2), (73, .aload_n 0, 1), (74, .iconst 1, 1), (75, .iload_n 1, 1), (76, .iload 6, 2), (78, .aload_n 0, 1), (79, .iload_n 1, 1), (80, .iload 6, 2), (82, .invokevirtual 185, 3), (85, .aload_n 0, 1), (86, .iload_n 1, 1), (87, .iconst 1, 1), (88, .invokevirtual 188, 3), (91, .aload_n 0, 1), (92, .getfield 25, 3), (95, .bipush 10, 2), (97, .iload 5, 2), (99, .imul, 1), (100, .iload 4, 2), (102, .iadd, 1), (103, .iaload, 1), (104, .imul, 1), (105, .invokevirtual 191, 3), (108, .iinc 5 1, 3), (111, .goto (-66), 3), (114, .iinc 3 1, 3), (117, .goto (-104), 3), (120, .return_, 1)], [(16, 961, 8, 4, .array .int), (25, 966, 8, 9, .array .int)], [], [])
theorem ok_X11_layFigures : aOK M_X11_layFigures := by unfold aOK; decide +kernel
def M_X11_layKind : aM := (RX11, cX11_layKind, 6, false, none, { frames := 3, cells := 0, slots := 0, locals := 69 }, [(0, .aload_n 0, 1), (1, .getfield 16, 3), (4, .iconst 5, 1), (5, .iload_n 2, 1), (6, .imul, 1), (7, .iconst 1, 1), (8, .iadd, 1), (9, .iaload, 1), (10, .istore_n 3, 1), (11, .iload_n 1, 1), (12, .tableswitch 207 0 3 #[32, 91, 97, 172], 32), (44, .iconst 0, 1), (45, .istore 4, 2), (47, .iload 4, 2), (49, .iconst 1, 1), (50, .iadd, 1), (51, .iload_n 3, 1), (52, .invokestatic 182, 3), (55, .if_icmp .ge 47, 3), (58, .iload_n 3, 1), (59, .iload 4, 2), (61, .invokestatic 195, 3), (64, .istore 5, 2), (66, .aload_n 0, 1), (67, .iconst 0, 1), (68, .iload_n 2, 1), (69, .iload 5, 2), (71, .aload_n 0, 1), (72, .iload_n 2, 1), (73, .iload 5, 2), (75, .invokevirtual 185, 3), (78, .iload 5, 2), (80, .ifCond .ne 7, 3), (83, .iconst 0, 1), (84, .goto 9, 3), (87, .aload_n 0, 1), (88, .iload_n 2, 1), (89, .iconst 0, 1), (90, .invokevirtual 188, 3), (93, .invokevirtual 191, 3), (96, .iinc 4 1, 3), (99, .goto (-52), 3), (102, .return_, 1), (103, .aload_n 0, 1), (104, .iload_n 2, 1), (105, .invokevirtual 198, 3), (108, .return_, 1), (109, .aload_n 0, 1), (110, .iconst 2, 1), (111, .iload_n 2, 1), (112, .iload_n 3, 1), (113, .bipush 10, 2), (115, .idiv, 1), (116, .aload_n 0, 1), (117, .iload_n 2, 1), (118, .iload_n 3, 1), (119, .bipush 10, 2), (121, .idiv, 1), (122, .invokevirtual 185, 3), (125, .iload_n 3, 1), (126, .bipush 10, 2), (128, .irem, 1), (129, .ifCond .ne 12, 3), (132, .aload_n 0, 1), (133, .iload_n 2, 1), (134, .iconst 2, 1), (135, .invokevirtual 188, 3), (138, .goto 4, 3), (141, .iconst 0, 1), (142, .invokevirtual 191, 3), (145, .aload_n 0, 1), (146, .iconst 2, 1), (147, .iload_n 2, 1), (148, .bipush 10, 2), (150, .iload_n 3, 1), (151, .imul, 1), (152, .aload_n 0, 1), (153, .iload_n 2, 1), (154, .bipush 10, 2), (156, .iload_n 3, 1), (157, .imul, 1), (158, .invokevirtual 185, 3), (161, .bipush 10, 2), (163, .iload_n 3, 1), (164, .imul, 1), (165, .ldc 116, 2), (167, .if_icmp .gt 12, 3), (170, .aload_n 0, 1), (171, .iload_n 2, 1), (172, .iconst 2, 1), (173, .invokevirtual 188, 3), (176, .goto 4, 3), (179, .iconst 0, 1), (180, .invokevirtual 191, 3), (183, .return_, 1), (184, .aload_n 0, 1), (185, .iconst 3, 1), (186, .iload_n 2, 1), (187, .iload_n 3, 1), (188, .aload_n 0, 1), (189, .getfield 16, 3), (192, .iconst 5, 1), (193, .iload_n 2, 1), (194, .imul, 1), (195, .iaload, 1), (196, .ifCond .ne 10, 3), (199, .bipush (-2), 2), (201, .iload_n 3, 1), (202, .imul, 1), (203, .goto 6, 3), (206, .iconst 2, 1), (207, .iload_n 3, 1), (208, .imul, 1), (209, .aload_n 0, 1), (210, .iload_n 2, 1), (211, .iconst 3, 1), (212, .invokevirtual 188, 3), (215, .invokevirtual 191, 3), (218, .return_, 1), (219, .aload_n 0, 1), (220, .iconst 4, 1), (221, .iload_n 2, 1), (222, .iconst 0, 1), (223, .aload_n 0, 1), (224, .iload_n 2, 1), (225, .iconst 0, 1), (226, .invokevirtual 185, 3), (229, .aload_n 0, 1), (230, .iload_n 2, 1), (231, .invokevirtual 201, 3), (234, .ifCond .eq 12, 3), (237, .aload_n 0, 1), (238, .iload_n 2, 1), (239, .iconst 4, 1), (240, .invokevirtual 188, 3), (243, .goto 4, 3), (246, .iconst 0, 1), (247, .invokevirtual 191, 3), (250, .return_, 1)], [(16, 961, 8, 4, .array .int)], [(116, 1104, .int (999999))], [])
theorem ok_X11_layKind : aOK M_X11_layKind := by unfold aOK; decide +kernel
def M_X11_isUsed : aM := (RX11, cX11_isUsed, 4, false, (some .boolean), { frames := 0, cells := 0, slots := 0, locals := 0 }, [(0, .iconst 0, 1), (1, .istore_n 2, 1), (2, .iconst 0, 1), (3, .istore_n 3, 1), (4, .iload_n 3, 1), (5, .aload_n 0, 1), (6, .getfield 133, 3), (9, .if_icmp .ge 33, 3), (12, .iload_n 2, 1), (13, .ifCond .ne 17, 3), (16, .aload_n 0, 1), (17, .getfield 16, 3), (20, .iconst 5, 1), (21, .iload_n 3, 1), (22, .imul, 1), (23, .iconst 4, 1), (24, .iadd, 1), (25, .iaload, 1), (26, .iload_n 1, 1), (27, .if_icmp .ne 7, 3), (30, .iconst 1, 1), (31, .goto 4, 3), (34, .iconst 0, 1), (35, .istore_n 2, 1), (36, .iinc 3 1, 3), (39, .goto (-35), 3), (42, .iload_n 2, 1), (43, .ireturn, 1)], [(16, 961, 8, 4, .array .int), (133, 962, 8, 5, .int)], [], [])
theorem ok_X11_isUsed : aOK M_X11_isUsed := by unfold aOK; decide +kernel
def M_X11_size : aM := (RX11, cX11_size, 1, false, (some .int), { frames := 0, cells := 0, slots := 0, locals := 0 }, [(0, .iload_n 0, 1), (1, .ifCond .ge 8, 3), (4, .iload_n 0, 1), (5, .ineg, 1), (6, .goto 4, 3), (9, .iload_n 0, 1), (10, .ireturn, 1)], [], [], [])
theorem ok_X11_size : aOK M_X11_size := by unfold aOK; decide +kernel
def M_X11_laySlips : aM := (RX11, cX11_laySlips, 4, false, none, { frames := 4, cells := 0, slots := 0, locals := 94 }, [(0, .aload_n 0, 1), (1, .iconst 0, 1), (2, .putfield 172, 3), (5, .iconst 0, 1), (6, .istore_n 1, 1), (7, .iload_n 1, 1), (8, .iconst 5, 1), (9, .if_icmp .ge 31, 3), (12, .iconst 0, 1), (13, .istore_n 2, 1), (14, .iload_n 2, 1), (15, .aload_n 0, 1), (16, .getfield 133, 3), (19, .if_icmp .ge 15, 3), (22, .aload_n 0, 1), (23, .iload_n 1, 1), (24, .iload_n 2, 1), (25, .invokevirtual 204, 3), (28, .iinc 2 1, 3), (31, .goto (-17), 3), (34, .iinc 1 1, 3), (37, .goto (-30), 3), (40, .aload_n 0, 1), (41, .iconst (-1), 1), (42, .invokevirtual 155, 3), (45, .istore_n 1, 1), (46, .iload_n 1, 1), (47, .ifCond .eq 36, 3), (50, .iload_n 1, 1), (51, .invokestatic 208, 3), (54, .ldc 116, 2), (56, .if_icmp .gt 27, 3), (59, .aload_n 0, 1), (60, .iconst 5, 1), (61, .iload_n 1, 1), (62, .ifCond .le 7, 3), (65, .iconst 1, 1), (66, .goto 4, 3), (69, .iconst 0, 1), (70, .iload_n 1, 1), (71, .invokestatic 208, 3), (74, .iload_n 1, 1), (75, .ineg, 1), (76, .aload_n 0, 1), (77, .getfield 28, 3), (80, .invokevirtual 191, 3), (83, .iconst 0, 1), (84, .istore_n 2, 1), (85, .iload_n 2, 1), (86, .bipush 6, 2), (88, .if_icmp .ge 64, 3), (91, .iconst 1, 1), (92, .istore_n 3, 1), (93, .iload_n 3, 1), (94, .bipush 6, 2), (96, .if_icmp .ge 50, 3), (99, .aload_n 0, 1), (100, .iload_n 2, 1), (101, .invokevirtual 211, 3), (104, .ifCond .eq 42, 3), (107, .aload_n 0, 1), (108, .bipush 6, 2), (110, .iload_n 2, 1), (111, .iload_n 3, 1), (112, .iload_n 3, 1), (113, .invokestatic 175, 3), (116, .ineg, 1), (117, .aload_n 0, 1), (118, .getfield 32, 3), (121, .invokevirtual 191, 3), (124, .aload_n 0, 1), (125, .bipush 6, 2), (127, .iload_n 2, 1), (128, .iload_n 3, 1), (129, .iload_n 3, 1), (130, .invokestatic 175, 3), (133, .aload_n 0, 1), (134, .getfield 32, 3), (137, .invokevirtual 191, 3), (140, .iinc 3 1, 3), (143, .goto (-50), 3), (146, .iinc 2 1, 3), (149, .goto (-64), 3), (152, .return_, 1)], [(28, 967, 8, 10, .int), (32, 968, 8, 11, .int), (133, 962, 8, 5, .int), (172, 980, 8, 23, .int)], [(116, 1104, .int (999999))], [])
theorem ok_X11_laySlips : aOK M_X11_laySlips := by unfold aOK; decide +kernel
def M_X11_isNarrow : aM := (RX11, cX11_isNarrow, 5, false, (some .boolean), { frames := 2, cells := 0, slots := 0, locals := 45 }, [(0, .aload_n 0, 1), (1, .getfield 41, 3), (4, .iload_n 1, 1), (5, .iaload, 1), (6, .iconst 5, 1), (7, .if_icmp .ne 7, 3), (10, .iconst (-1), 1), (11, .goto 38, 3), (14, .aload_n 0, 1), (15, .getfield 41, 3), (18, .iload_n 1, 1), (19, .iaload, 1), (20, .bipush 6, 2), (22, .if_icmp .ne 12, 3), (25, .aload_n 0, 1), (26, .getfield 44, 3), (29, .iload_n 1, 1), (30, .iaload, 1), (31, .goto 18, 3), (34, .aload_n 0, 1), (35, .getfield 16, 3), (38, .iconst 5, 1), (39, .aload_n 0, 1), (40, .getfield 44, 3), (43, .iload_n 1, 1), (44, .iaload, 1), (45, .imul, 1), (46, .iconst 4, 1), (47, .iadd, 1), (48, .iaload, 1), (49, .istore_n 2, 1), (50, .aload_n 0, 1), (51, .getfield 41, 3), (54, .iload_n 1, 1), (55, .iaload, 1), (56, .iconst 5, 1), (57, .if_icmp .ne 12, 3), (60, .aload_n 0, 1), (61, .getfield 136, 3), (64, .bipush 63, 2), (66, .if_icmp .eq 7, 3), (69, .iconst 1, 1), (70, .goto 4, 3), (73, .iconst 0, 1), (74, .istore_n 3, 1), (75, .iconst 0, 1), (76, .istore 4, 2), (78, .iload 4, 2), (80, .bipush 6, 2), (82, .if_icmp .ge 54, 3), (85, .iload_n 3, 1), (86, .ifCond .eq 50, 3), (89, .aload_n 0, 1), (90, .iload 4, 2), (92, .invokevirtual 159, 3), (95, .ifCond .eq 29, 3), (98, .aload_n 0, 1), (99, .iload 4, 2), (101, .invokevirtual 162, 3), (104, .iload 4, 2), (106, .iload_n 2, 1), (107, .if_icmp .ne 12, 3), (110, .aload_n 0, 1), (111, .getfield 50, 3), (114, .iload_n 1, 1), (115, .iaload, 1), (116, .goto 4, 3), (119, .iconst 0, 1), (120, .iadd, 1), (121, .ifCond .ne 7, 3), (124, .iconst 1, 1), (125, .goto 4, 3), (128, .iconst 0, 1), (129, .istore_n 3, 1), (130, .iinc 4 1, 3), (133, .goto (-55), 3), (136, .iload_n 3, 1), (137, .ireturn, 1)], [(16, 961, 8, 4, .array .int), (41, 975, 8, 18, .array .int), (44, 976, 8, 19, .array .int), (50, 978, 8, 21, .array .int), (136, 964, 8, 7, .int)], [], [])
theorem ok_X11_isNarrow : aOK M_X11_isNarrow := by unfold aOK; decide +kernel
def M_X11_layOnes : aM := (RX11, cX11_layOnes, 4, false, none, { frames := 5, cells := 0, slots := 0, locals := 117 }, [(0, .aload_n 0, 1), (1, .invokevirtual 214, 3), (4, .aload_n 0, 1), (5, .iconst (-1), 1), (6, .invokevirtual 155, 3), (9, .istore_n 2, 1), (10, .aload_n 0, 1), (11, .iconst 0, 1), (12, .putfield 217, 3), (15, .iconst 0, 1), (16, .istore_n 3, 1), (17, .iload_n 3, 1), (18, .aload_n 0, 1), (19, .getfield 172, 3), (22, .if_icmp .ge 56, 3), (25, .iload_n 2, 1), (26, .ifCond .eq 46, 3), (29, .aload_n 0, 1), (30, .getfield 50, 3), (33, .iload_n 3, 1), (34, .iaload, 1), (35, .iload_n 2, 1), (36, .ineg, 1), (37, .if_icmp .ne 35, 3), (40, .iload_n 1, 1), (41, .ifCond .eq 11, 3), (44, .aload_n 0, 1), (45, .iload_n 3, 1), (46, .invokevirtual 220, 3), (49, .ifCond .eq 23, 3), (52, .aload_n 0, 1), (53, .getfield 56, 3), (56, .aload_n 0, 1), (57, .getfield 217, 3), (60, .iload_n 3, 1), (61, .iastore, 1), (62, .aload_n 0, 1), (63, .dup, 1), (64, .getfield 217, 3), (67, .iconst 1, 1), (68, .iadd, 1), (69, .putfield 217, 3), (72, .iinc 3 1, 3), (75, .goto (-58), 3), (78, .return_, 1)], [(50, 978, 8, 21, .array .int), (56, 981, 8, 24, .array .int), (172, 980, 8, 23, .int), (217, 982, 8, 25, .int)], [], [])
theorem ok_X11_layOnes : aOK M_X11_layOnes := by unfold aOK; decide +kernel
def M_X11_oneWeights : aM := (RX11, cX11_oneWeights, 4, false, (some .long), { frames := 0, cells := 0, slots := 0, locals := 0 }, [(0, .lconst 0, 1), (1, .lstore_n 1, 1), (2, .iconst 0, 1), (3, .istore_n 3, 1), (4, .iload_n 3, 1), (5, .aload_n 0, 1), (6, .getfield 217, 3), (9, .if_icmp .ge 24, 3), (12, .lload_n 1, 1), (13, .aload_n 0, 1), (14, .getfield 53, 3), (17, .aload_n 0, 1), (18, .getfield 56, 3), (21, .iload_n 3, 1), (22, .iaload, 1), (23, .iaload, 1), (24, .i2l, 1), (25, .ladd, 1), (26, .lstore_n 1, 1), (27, .iinc 3 1, 3), (30, .goto (-26), 3), (33, .lload_n 1, 1), (34, .lreturn, 1)], [(53, 979, 8, 22, .array .int), (56, 981, 8, 24, .array .int), (217, 982, 8, 25, .int)], [], [])
theorem ok_X11_oneWeights : aOK M_X11_oneWeights := by unfold aOK; decide +kernel
def M_X11_signs : aM := (RX11, cX11_signs, 8, false, (some .int), { frames := 1, cells := 0, slots := 0, locals := 24 }, [(0, .aload_n 0, 1), (1, .iconst (-1), 1), (2, .invokevirtual 155, 3), (5, .istore_n 1, 1), (6, .iload_n 1, 1), (7, .ifCond .ne 6, 3), (10, .bipush (-4), 2), (12, .ireturn, 1), (13, .iload_n 1, 1), (14, .invokestatic 208, 3), (17, .istore_n 2, 1), (18, .iload_n 1, 1), (19, .ifCond .le 7, 3), (22, .iconst 0, 1), (23, .goto 4, 3), (26, .iconst 1, 1), (27, .istore_n 3, 1), (28, .iload_n 2, 1), (29, .bipush 9, 2), (31, .irem, 1), (32, .ifCond .ne 7, 3), (35, .iconst 1, 1), (36, .goto 4, 3), (39, .iconst 0, 1), (40, .istore 4, 2), (42, .iconst 0, 1), (43, .istore 5, 2), (45, .iload 5, 2), (47, .aload_n 0, 1), (48, .getfield 133, 3), (51, .if_icmp .ge 123, 3), (54, .aload_n 0, 1), (55, .getfield 16, 3), (58, .iconst 5, 1), (59, .iload 5, 2), (61, .imul, 1), (62, .iconst 1, 1), (63, .iadd, 1), (64, .iaload, 1), (65, .istore 6, 2), (67, .aload_n 0, 1), (68, .getfield 16, 3), (71, .iconst 5, 1), (72, .iload 5, 2), (74, .imul, 1), (75, .iaload, 1), (76, .iload_n 3, 1), (77, .if_icmp .ne 7, 3), (80, .iconst 1, 1), (81, .goto 4, 3), (84, .iconst 0, 1), (85, .istore 7, 2), (87, .iload 4, 2), (89, .iload 7, 2), (91, .ifCond .eq 15, 3), (94, .iconst 2, 1), (95, .iload 6, 2), (97, .imul, 1), (98, .iload_n 2, 1), (99, .if_icmp .ne 7, 3), (102, .iconst 2, 1), (103, .goto 4, 3), (106, .iconst 0, 1), (107, .ior, 1), (108, .istore 4, 2), (110, .iload 4, 2), (112, .iload 7, 2), (114, .ifCond .eq 13, 3), (117, .iload 6, 2), (119, .iload_n 2, 1), (120, .if_icmp .ne 7, 3), (123, .iconst 4, 1), (124, .goto 4, 3), (127, .iconst 0, 1), (128, .ior, 1), (129, .istore 4, 2), (131, .iload 4, 2), (133, .bipush 9, 2), (135, .iload 6, 2), (137, .imul, 1), (138, .iload_n 2, 1), (139, .if_icmp .eq 20, 3), (142, .ldc2_w 223, 3), (145, .iload_n 2, 1), (146, .i2l, 1), (147, .lmul, 1), (148, .ldc2_w 225, 3), (151, .iload 6, 2), (153, .i2l, 1), (154, .lmul, 1), (155, .lcmp, 1), (156, .ifCond .ne 8, 3), (159, .bipush 16, 2), (161, .goto 4, 3), (164, .iconst 0, 1), (165, .ior, 1), (166, .istore 4, 2), (168, .iinc 5 1, 3), (171, .goto (-126), 3), (174, .iconst 1, 1), (175, .istore 5, 2), (177, .iload 5, 2), (179, .bipush 6, 2), (181, .if_icmp .ge 29, 3), (184, .iload 4, 2), (186, .iload 5, 2), (188, .invokestatic 175, 3), (191, .iload_n 2, 1), (192, .if_icmp .ne 8, 3), (195, .bipush 8, 2), (197, .goto 4, 3), (200, .iconst 0, 1), (201, .ior, 1), (202, .istore 4, 2), (204, .iinc 5 1, 3), (207, .goto (-30), 3), (210, .iload 4, 2), (212, .ireturn, 1)], [(16, 961, 8, 4, .array .int), (133, 962, 8, 5, .int)], [(223, 1191, .long (10)), (225, 1192, .long (9))], [])
theorem ok_X11_signs : aOK M_X11_signs := by unfold aOK; decide +kernel
def M_X11_one : aM := (RX11, cX11_one, 5, false, (some .int), { frames := 6, cells := 0, slots := 0, locals := 140 }, [(0, .iload_n 1, 1), (1, .iconst (-1), 1), (2, .if_icmp .lt 15, 3), (5, .iload_n 2, 1), (6, .i2l, 1), (7, .lconst 0, 1), (8, .ldc2_w 149, 3), (11, .invokestatic 70, 3), (14, .ifCond .ne 6, 3), (17, .bipush (-3), 2), (19, .ireturn, 1), (20, .aload_n 0, 1), (21, .iload_n 3, 1), (22, .invokevirtual 227, 3), (25, .iload_n 1, 1), (26, .iconst (-1), 1), (27, .if_icmp .eq 11, 3), (30, .iload_n 1, 1), (31, .aload_n 0, 1), (32, .getfield 217, 3), (35, .if_icmp .lt 17, 3), (38, .iload_n 1, 1), (39, .iconst (-1), 1), (40, .if_icmp .ne 10, 3), (43, .aload_n 0, 1), (44, .getfield 217, 3), (47, .goto 4, 3), (50, .iconst (-1), 1), (51, .ireturn, 1), (52, .aload_n 0, 1), (53, .getfield 56, 3), (56, .iload_n 1, 1), (57, .iaload, 1), (58, .istore 4, 2), (60, .iload_n 2, 1), (61, .ifCond .ne 13, 3), (64, .aload_n 0, 1), (65, .getfield 41, 3), (68, .iload 4, 2), (70, .iaload, 1), (71, .goto 58, 3), (74, .iload_n 2, 1), (75, .iconst 1, 1), (76, .if_icmp .ne 13, 3), (79, .aload_n 0, 1), (80, .getfield 44, 3), (83, .iload 4, 2), (85, .iaload, 1), (86, .goto 43, 3), (89, .iload_n 2, 1), (90, .iconst 2, 1), (91, .if_icmp .ne 13, 3), (94, .aload_n 0, 1), (95, .getfield 47, 3), (98, .iload 4, 2), (100, .iaload, 1), (101, .goto 28, 3), (104, .iload_n 2, 1), (105, .iconst 3, 1), (106, .if_icmp .ne 16, 3), (109, .aload_n 0, 1), (110, .getfield 50, 3), (113, .iload 4, 2), (115, .iaload, 1), (116, .ldc 158, 2), (118, .iadd, 1), (119, .goto 10, 3), (122, .aload_n 0, 1), (123, .getfield 53, 3), (126, .iload 4, 2), (128, .iaload, 1), (129, .ireturn, 1)], [(41, 975, 8, 18, .array .int), (44, 976, 8, 19, .array .int), (47, 977, 8, 20, .array .int), (50, 978, 8, 21, .array .int), (53, 979, 8, 22, .array .int), (56, 981, 8, 24, .array .int), (217, 982, 8, 25, .int)], [(149, 1139, .long (4)), (158, 1150, .int (50000000))], [])
theorem ok_X11_one : aOK M_X11_one := by unfold aOK; decide +kernel
def M_X11_ofKind : aM := (RX11, cX11_ofKind, 4, false, (some .int), { frames := 6, cells := 0, slots := 0, locals := 140 }, [(0, .iload_n 1, 1), (1, .i2l, 1), (2, .lconst 0, 1), (3, .ldc2_w 231, 3), (6, .invokestatic 70, 3), (9, .ifCond .ne 6, 3), (12, .bipush (-2), 2), (14, .ireturn, 1), (15, .aload_n 0, 1), (16, .iconst 0, 1), (17, .invokevirtual 227, 3), (20, .iconst 0, 1), (21, .istore_n 2, 1), (22, .iconst 0, 1), (23, .istore_n 3, 1), (24, .iload_n 3, 1), (25, .aload_n 0, 1), (26, .getfield 217, 3), (29, .if_icmp .ge 32, 3), (32, .iload_n 2, 1), (33, .aload_n 0, 1), (34, .getfield 41, 3), (37, .aload_n 0, 1), (38, .getfield 56, 3), (41, .iload_n 3, 1), (42, .iaload, 1), (43, .iaload, 1), (44, .iload_n 1, 1), (45, .if_icmp .ne 7, 3), (48, .iconst 1, 1), (49, .goto 4, 3), (52, .iconst 0, 1), (53, .iadd, 1), (54, .istore_n 2, 1), (55, .iinc 3 1, 3), (58, .goto (-34), 3), (61, .iload_n 2, 1), (62, .ireturn, 1)], [(41, 975, 8, 18, .array .int), (56, 981, 8, 24, .array .int), (217, 982, 8, 25, .int)], [(231, 1253, .long (6))], [])
theorem ok_X11_ofKind : aOK M_X11_ofKind := by unfold aOK; decide +kernel
def M_X11_arePair : aM := (RX11, cX11_arePair, 4, false, (some .boolean), { frames := 0, cells := 0, slots := 0, locals := 0 }, [(0, .aload_n 0, 1), (1, .getfield 41, 3), (4, .iload_n 1, 1), (5, .iaload, 1), (6, .bipush 6, 2), (8, .if_icmp .ne 7, 3), (11, .iconst 1, 1), (12, .goto 4, 3), (15, .iconst 0, 1), (16, .istore_n 3, 1), (17, .aload_n 0, 1), (18, .getfield 41, 3), (21, .iload_n 1, 1), (22, .iaload, 1), (23, .iconst 5, 1), (24, .if_icmp .eq 52, 3), (27, .aload_n 0, 1), (28, .getfield 41, 3), (31, .iload_n 2, 1), (32, .iaload, 1), (33, .iconst 5, 1), (34, .if_icmp .eq 42, 3), (37, .iload_n 3, 1), (38, .aload_n 0, 1), (39, .getfield 41, 3), (42, .iload_n 2, 1), (43, .iaload, 1), (44, .bipush 6, 2), (46, .if_icmp .ne 7, 3), (49, .iconst 1, 1), (50, .goto 4, 3), (53, .iconst 0, 1), (54, .if_icmp .ne 18, 3), (57, .aload_n 0, 1), (58, .getfield 44, 3), (61, .iload_n 1, 1), (62, .iaload, 1), (63, .aload_n 0, 1), (64, .getfield 44, 3), (67, .iload_n 2, 1), (68, .iaload, 1), (69, .if_icmp .eq 7, 3), (72, .iconst 1, 1), (73, .goto 4, 3), (76, .iconst 0, 1), (77, .ireturn, 1)], [(41, 975, 8, 18, .array .int), (44, 976, 8, 19, .array .int)], [], [])
theorem ok_X11_arePair : aOK M_X11_arePair := by unfold aOK; decide +kernel
def M_X11_layPairs : aM := (RX11, cX11_layPairs, 8, false, none, { frames := 1, cells := 0, slots := 0, locals := 23 }, [(0, .aload_n 0, 1), (1, .lconst 0, 1), (2, .putfield 233, 3), (5, .aload_n 0, 1), (6, .lconst 0, 1), (7, .putfield 237, 3), (10, .aload_n 0, 1), (11, .iconst (-1), 1), (12, .putfield 240, 3), (15, .aload_n 0, 1), (16, .iconst (-1), 1), (17, .putfield 243, 3), (20, .lconst 0, 1), (21, .lstore_n 2, 1), (22, .iconst 0, 1), (23, .istore 4, 2), (25, .iload 4, 2), (27, .aload_n 0, 1), (28, .getfield 172, 3), (31, .if_icmp .ge 122, 3), (34, .iload 4, 2), (36, .iconst 1, 1), (37, .iadd, 1), (38, .istore 5, 2), (40, .iload 5, 2), (42, .aload_n 0, 1), (43, .getfield 172, 3), (46, .if_icmp .ge 101, 3), (49, .aload_n 0, 1), (50, .getfield 50, 3), (53, .iload 4, 2), (55, .iaload, 1), (56, .aload_n 0, 1), (57, .getfield 50, 3), (60, .iload 5, 2), (62, .iaload, 1), (63, .iadd, 1), (64, .iload_n 1, 1), (65, .if_icmp .ne 76, 3), (68, .aload_n 0, 1), (69, .iload 4, 2), (71, .iload 5, 2), (73, .invokevirtual 246, 3), (76, .ifCond .eq 65, 3), (79, .aload_n 0, 1), (80, .getfield 53, 3), (83, .iload 4, 2), (85, .iaload, 1), (86, .i2l, 1), (87, .aload_n 0, 1), (88, .getfield 53, 3), (91, .iload 5, 2), (93, .iaload, 1), (94, .i2l, 1), (95, .lmul, 1), (96, .lstore 6, 2), (98, .aload_n 0, 1), (99, .dup, 1), (100, .getfield 233, 3), (103, .lconst 1, 1), (104, .ladd, 1), (105, .putfield 233, 3), (108, .aload_n 0, 1), (109, .dup, 1), (110, .getfield 237, 3), (113, .lload 6, 2), (115, .ladd, 1), (116, .putfield 237, 3), (119, .lload 6, 2), (121, .lload_n 2, 1), (122, .lcmp, 1), (123, .ifCond .le 18, 3), (126, .lload 6, 2), (128, .lstore_n 2, 1), (129, .aload_n 0, 1), (130, .iload 4, 2), (132, .putfield 240, 3), (135, .aload_n 0, 1), (136, .iload 5, 2), (138, .putfield 243, 3), (141, .iinc 5 1, 3), (144, .goto (-104), 3), (147, .iinc 4 1, 3), (150, .goto (-125), 3), (153, .return_, 1)], [(50, 978, 8, 21, .array .int), (53, 979, 8, 22, .array .int), (172, 980, 8, 23, .int), (233, 983, 8, 26, .long), (237, 984, 8, 27, .long), (240, 985, 8, 28, .int), (243, 986, 8, 29, .int)], [], [])
theorem ok_X11_layPairs : aOK M_X11_layPairs := by unfold aOK; decide +kernel
def M_X11_layTwo : aM := (RX11, cX11_layTwo, 2, false, none, { frames := 5, cells := 0, slots := 0, locals := 117 }, [(0, .aload_n 0, 1), (1, .invokevirtual 214, 3), (4, .aload_n 0, 1), (5, .iload_n 1, 1), (6, .ifCond .eq 7, 3), (9, .iconst 0, 1), (10, .goto 9, 3), (13, .aload_n 0, 1), (14, .iconst (-1), 1), (15, .invokevirtual 155, 3), (18, .ineg, 1), (19, .invokevirtual 249, 3), (22, .return_, 1)], [], [], [])
theorem ok_X11_layTwo : aOK M_X11_layTwo := by unfold aOK; decide +kernel
def M_X11_two : aM := (RX11, cX11_two, 2, false, (some .long), { frames := 6, cells := 0, slots := 0, locals := 138 }, [(0, .iload_n 1, 1), (1, .i2l, 1), (2, .lconst 0, 1), (3, .lconst 1, 1), (4, .invokestatic 70, 3), (7, .ifCond .ne 7, 3), (10, .ldc2_w 252, 3), (13, .lreturn, 1), (14, .aload_n 0, 1), (15, .iconst 0, 1), (16, .invokevirtual 254, 3), (19, .iload_n 1, 1), (20, .ifCond .ne 10, 3), (23, .aload_n 0, 1), (24, .getfield 233, 3), (27, .goto 7, 3), (30, .aload_n 0, 1), (31, .getfield 237, 3), (34, .lreturn, 1)], [(233, 983, 8, 26, .long), (237, 984, 8, 27, .long)], [(252, 1258, .long (-3))], [])
theorem ok_X11_two : aOK M_X11_two := by unfold aOK; decide +kernel
def M_X11_hide : aM := (RX11, cX11_hide, 2, false, (some .long), { frames := 6, cells := 0, slots := 0, locals := 138 }, [(0, .iload_n 1, 1), (1, .i2l, 1), (2, .lconst 0, 1), (3, .lconst 1, 1), (4, .invokestatic 70, 3), (7, .ifCond .ne 7, 3), (10, .ldc2_w 252, 3), (13, .lreturn, 1), (14, .aload_n 0, 1), (15, .iconst 1, 1), (16, .invokevirtual 254, 3), (19, .iload_n 1, 1), (20, .ifCond .ne 10, 3), (23, .aload_n 0, 1), (24, .getfield 233, 3), (27, .goto 7, 3), (30, .aload_n 0, 1), (31, .getfield 237, 3), (34, .lreturn, 1)], [(233, 983, 8, 26, .long), (237, 984, 8, 27, .long)], [(252, 1258, .long (-3))], [])
theorem ok_X11_hide : aOK M_X11_hide := by unfold aOK; decide +kernel
def M_X11_pair : aM := (RX11, cX11_pair, 5, false, (some .int), { frames := 6, cells := 0, slots := 0, locals := 138 }, [(0, .iload_n 2, 1), (1, .i2l, 1), (2, .lconst 0, 1), (3, .ldc2_w 153, 3), (6, .invokestatic 70, 3), (9, .ifCond .ne 6, 3), (12, .bipush (-3), 2), (14, .ireturn, 1), (15, .aload_n 0, 1), (16, .iload_n 1, 1), (17, .invokevirtual 254, 3), (20, .aload_n 0, 1), (21, .getfield 240, 3), (24, .iconst (-1), 1), (25, .if_icmp .ne 5, 3), (28, .iconst (-1), 1), (29, .ireturn, 1), (30, .iload_n 2, 1), (31, .iconst 3, 1), (32, .if_icmp .ge 10, 3), (35, .aload_n 0, 1), (36, .getfield 240, 3), (39, .goto 7, 3), (42, .aload_n 0, 1), (43, .getfield 243, 3), (46, .istore_n 3, 1), (47, .iload_n 2, 1), (48, .iconst 3, 1), (49, .irem, 1), (50, .istore 4, 2), (52, .iload 4, 2), (54, .ifCond .ne 12, 3), (57, .aload_n 0, 1), (58, .getfield 41, 3), (61, .iload_n 3, 1), (62, .iaload, 1), (63, .goto 24, 3), (66, .iload 4, 2), (68, .iconst 1, 1), (69, .if_icmp .ne 12, 3), (72, .aload_n 0, 1), (73, .getfield 44, 3), (76, .iload_n 3, 1), (77, .iaload, 1), (78, .goto 9, 3), (81, .aload_n 0, 1), (82, .getfield 47, 3), (85, .iload_n 3, 1), (86, .iaload, 1), (87, .ireturn, 1)], [(41, 975, 8, 18, .array .int), (44, 976, 8, 19, .array .int), (47, 977, 8, 20, .array .int), (240, 985, 8, 28, .int), (243, 986, 8, 29, .int)], [(153, 1145, .long (5))], [])
theorem ok_X11_pair : aOK M_X11_pair := by unfold aOK; decide +kernel
def M_X11_divisor : aM := (RX11, cX11_divisor, 10, false, (some .long), { frames := 0, cells := 0, slots := 0, locals := 0 }, [(0, .lload_n 0, 1), (1, .lstore 4, 2), (3, .lload_n 2, 1), (4, .lstore 6, 2), (6, .lload 6, 2), (8, .lconst 0, 1), (9, .lcmp, 1), (10, .ifCond .eq 21, 3), (13, .lload 4, 2), (15, .lload 6, 2), (17, .lrem, 1), (18, .lstore 8, 2), (20, .lload 6, 2), (22, .lstore 4, 2), (24, .lload 8, 2), (26, .lstore 6, 2), (28, .goto (-22), 3), (31, .lload 4, 2), (33, .lreturn, 1)], [], [], [])
theorem ok_X11_divisor : aOK M_X11_divisor := by unfold aOK; decide +kernel
def M_X11_lowest : aM := (RX11, cX11_lowest, 7, false, (some .long), { frames := 1, cells := 0, slots := 0, locals := 29 }, [(0, .lload_n 0, 1), (1, .lload_n 2, 1), (2, .invokestatic 257, 3), (5, .lstore 5, 2), (7, .iload 4, 2), (9, .ifCond .ne 10, 3), (12, .lload_n 0, 1), (13, .lload 5, 2), (15, .ldiv, 1), (16, .goto 7, 3), (19, .lload_n 2, 1), (20, .lload 5, 2), (22, .ldiv, 1), (23, .lreturn, 1)], [], [], [])
theorem ok_X11_lowest : aOK M_X11_lowest := by unfold aOK; decide +kernel
def M_X11_isPart : aM := (RX11, cX11_isPart, 1, false, (some .boolean), { frames := 1, cells := 0, slots := 0, locals := 25 }, [(0, .iload_n 0, 1), (1, .i2l, 1), (2, .lconst 0, 1), (3, .lconst 1, 1), (4, .invokestatic 70, 3), (7, .ireturn, 1)], [], [], [])
theorem ok_X11_isPart : aOK M_X11_isPart := by unfold aOK; decide +kernel
def M_X11_chance : aM := (RX11, cX11_chance, 7, false, (some .long), { frames := 6, cells := 0, slots := 0, locals := 140 }, [(0, .aload_n 0, 1), (1, .iconst 0, 1), (2, .invokevirtual 227, 3), (5, .iload_n 1, 1), (6, .i2l, 1), (7, .lconst 0, 1), (8, .aload_n 0, 1), (9, .getfield 217, 3), (12, .iconst 1, 1), (13, .isub, 1), (14, .i2l, 1), (15, .invokestatic 70, 3), (18, .ifCond .ne 7, 3), (21, .ldc2_w 261, 3), (24, .lreturn, 1), (25, .iload_n 2, 1), (26, .invokestatic 263, 3), (29, .ifCond .ne 7, 3), (32, .ldc2_w 252, 3), (35, .lreturn, 1), (36, .ldc2_w 266, 3), (39, .aload_n 0, 1), (40, .getfield 53, 3), (43, .aload_n 0, 1), (44, .getfield 56, 3), (47, .iload_n 1, 1), (48, .iaload, 1), (49, .iaload, 1), (50, .i2l, 1), (51, .lmul, 1), (52, .lstore_n 3, 1), (53, .ldc2_w 266, 3), (56, .aload_n 0, 1), (57, .invokevirtual 268, 3), (60, .lmul, 1), (61, .lstore 5, 2), (63, .aload_n 0, 1), (64, .aload_n 0, 1), (65, .iconst (-1), 1), (66, .invokevirtual 155, 3), (69, .ineg, 1), (70, .invokevirtual 249, 3), (73, .lload_n 3, 1), (74, .lload 5, 2), (76, .aload_n 0, 1), (77, .getfield 35, 3), (80, .i2l, 1), (81, .aload_n 0, 1), (82, .getfield 237, 3), (85, .lmul, 1), (86, .ladd, 1), (87, .iload_n 2, 1), (88, .invokestatic 272, 3), (91, .lreturn, 1)], [(35, 969, 8, 12, .int), (53, 979, 8, 22, .array .int), (56, 981, 8, 24, .array .int), (217, 982, 8, 25, .int), (237, 984, 8, 27, .long)], [(252, 1258, .long (-3)), (261, 1283, .long (-2)), (266, 1287, .long (100))], [])
theorem ok_X11_chance : aOK M_X11_chance := by unfold aOK; decide +kernel
def M_X11_whose : aM := (RX11, cX11_whose, 7, false, (some .int), { frames := 6, cells := 0, slots := 0, locals := 140 }, [(0, .iload_n 1, 1), (1, .invokestatic 167, 3), (4, .ifCond .ne 6, 3), (7, .bipush (-2), 2), (9, .ireturn, 1), (10, .iload_n 2, 1), (11, .invokestatic 263, 3), (14, .ifCond .ne 6, 3), (17, .bipush (-3), 2), (19, .ireturn, 1), (20, .aload_n 0, 1), (21, .iconst 0, 1), (22, .invokevirtual 227, 3), (25, .aload_n 0, 1), (26, .getfield 217, 3), (29, .ifCond .ne 6, 3), (32, .bipush (-4), 2), (34, .ireturn, 1), (35, .lconst 0, 1), (36, .lstore_n 3, 1), (37, .iconst 0, 1), (38, .istore 5, 2), (40, .iload 5, 2), (42, .aload_n 0, 1), (43, .getfield 217, 3), (46, .if_icmp .ge 64, 3), (49, .aload_n 0, 1), (50, .getfield 56, 3), (53, .iload 5, 2), (55, .iaload, 1), (56, .istore 6, 2), (58, .lload_n 3, 1), (59, .aload_n 0, 1), (60, .getfield 41, 3), (63, .iload 6, 2), (65, .iaload, 1), (66, .iconst 5, 1), (67, .if_icmp .ge 34, 3), (70, .aload_n 0, 1), (71, .getfield 16, 3), (74, .iconst 5, 1), (75, .aload_n 0, 1), (76, .getfield 44, 3), (79, .iload 6, 2), (81, .iaload, 1), (82, .imul, 1), (83, .iconst 3, 1), (84, .iadd, 1), (85, .iaload, 1), (86, .iload_n 1, 1), (87, .if_icmp .ne 14, 3), (90, .aload_n 0, 1), (91, .getfield 53, 3), (94, .iload 6, 2), (96, .iaload, 1), (97, .i2l, 1), (98, .goto 4, 3), (101, .lconst 0, 1), (102, .ladd, 1), (103, .lstore_n 3, 1), (104, .iinc 5 1, 3), (107, .goto (-67), 3), (110, .lload_n 3, 1), (111, .aload_n 0, 1), (112, .invokevirtual 268, 3), (115, .iload_n 2, 1), (116, .invokestatic 272, 3), (119, .l2i, 1), (120, .ireturn, 1)], [(16, 961, 8, 4, .array .int), (41, 975, 8, 18, .array .int), (44, 976, 8, 19, .array .int), (53, 979, 8, 22, .array .int), (56, 981, 8, 24, .array .int), (217, 982, 8, 25, .int)], [], [])
theorem ok_X11_whose : aOK M_X11_whose := by unfold aOK; decide +kernel
def M_X11_isAhead : aM := (RX11, cX11_isAhead, 7, false, (some .boolean), { frames := 1, cells := 0, slots := 0, locals := 22 }, [(0, .aload_n 0, 1), (1, .getfield 59, 3), (4, .iload_n 1, 1), (5, .iaload, 1), (6, .i2l, 1), (7, .aload_n 0, 1), (8, .getfield 16, 3), (11, .iconst 5, 1), (12, .iload_n 2, 1), (13, .imul, 1), (14, .iconst 1, 1), (15, .iadd, 1), (16, .iaload, 1), (17, .invokestatic 182, 3), (20, .i2l, 1), (21, .lmul, 1), (22, .lstore_n 3, 1), (23, .aload_n 0, 1), (24, .getfield 59, 3), (27, .iload_n 2, 1), (28, .iaload, 1), (29, .i2l, 1), (30, .aload_n 0, 1), (31, .getfield 16, 3), (34, .iconst 5, 1), (35, .iload_n 1, 1), (36, .imul, 1), (37, .iconst 1, 1), (38, .iadd, 1), (39, .iaload, 1), (40, .invokestatic 182, 3), (43, .i2l, 1), (44, .lmul, 1), (45, .lstore 5, 2), (47, .lload_n 3, 1), (48, .lload 5, 2), (50, .lcmp, 1), (51, .ifCond .gt 15, 3), (54, .lload_n 3, 1), (55, .lload 5, 2), (57, .lcmp, 1), (58, .ifCond .ne 12, 3), (61, .iload_n 1, 1), (62, .iload_n 2, 1), (63, .if_icmp .ge 7, 3), (66, .iconst 1, 1), (67, .goto 4, 3), (70, .iconst 0, 1), (71, .ireturn, 1)], [(16, 961, 8, 4, .array .int), (59, 987, 8, 30, .array .int)], [], [])
theorem ok_X11_isAhead : aOK M_X11_isAhead := by unfold aOK; decide +kernel
def M_X11_layLooks : aM := (RX11, cX11_layLooks, 4, false, none, { frames := 6, cells := 0, slots := 0, locals := 140 }, [(0, .aload_n 0, 1), (1, .iload_n 1, 1), (2, .invokevirtual 227, 3), (5, .iconst 0, 1), (6, .istore_n 2, 1), (7, .iload_n 2, 1), (8, .bipush 30, 2), (10, .if_icmp .ge 16, 3), (13, .aload_n 0, 1), (14, .getfield 59, 3), (17, .iload_n 2, 1), (18, .iconst 0, 1), (19, .iastore, 1), (20, .iinc 2 1, 3), (23, .goto (-16), 3), (26, .iconst 0, 1), (27, .istore_n 2, 1), (28, .iload_n 2, 1), (29, .aload_n 0, 1), (30, .getfield 217, 3), (33, .if_icmp .ge 46, 3), (36, .aload_n 0, 1), (37, .getfield 56, 3), (40, .iload_n 2, 1), (41, .iaload, 1), (42, .istore_n 3, 1), (43, .aload_n 0, 1), (44, .getfield 41, 3), (47, .iload_n 3, 1), (48, .iaload, 1), (49, .iconst 5, 1), (50, .if_icmp .ge 23, 3), (53, .aload_n 0, 1), (54, .getfield 59, 3), (57, .aload_n 0, 1), (58, .getfield 44, 3), (61, .iload_n 3, 1), (62, .iaload, 1), (63, .dup2, 1), (64, .iaload, 1), (65, .aload_n 0, 1), (66, .getfield 53, 3), (69, .iload_n 3, 1), (70, .iaload, 1), (71, .iadd, 1), (72, .iastore, 1), (73, .iinc 2 1, 3), (76, .goto (-48), 3), (79, .aload_n 0, 1), (80, .iconst 0, 1), (81, .putfield 276, 3), (84, .iconst 0, 1), (85, .istore_n 2, 1), (86, .iload_n 2, 1), (87, .aload_n 0, 1), (88, .getfield 133, 3), (91, .if_icmp .ge 80, 3), (94, .aload_n 0, 1), (95, .getfield 59, 3), (98, .iload_n 2, 1), (99, .iaload, 1), (100, .ifCond .le 65, 3), (103, .aload_n 0, 1), (104, .getfield 276, 3), (107, .istore_n 3, 1), (108, .iload_n 3, 1), (109, .ifCond .le 39, 3), (112, .aload_n 0, 1), (113, .iload_n 2, 1), (114, .aload_n 0, 1), (115, .getfield 62, 3), (118, .iload_n 3, 1), (119, .iconst 1, 1), (120, .isub, 1), (121, .iaload, 1), (122, .invokevirtual 279, 3), (125, .ifCond .eq 23, 3), (128, .aload_n 0, 1), (129, .getfield 62, 3), (132, .iload_n 3, 1), (133, .aload_n 0, 1), (134, .getfield 62, 3), (137, .iload_n 3, 1), (138, .iconst 1, 1), (139, .isub, 1), (140, .iaload, 1), (141, .iastore, 1), (142, .iinc 3 (-1), 3), (145, .goto (-37), 3), (148, .aload_n 0, 1), (149, .getfield 62, 3), (152, .iload_n 3, 1), (153, .iload_n 2, 1), (154, .iastore, 1), (155, .aload_n 0, 1), (156, .dup, 1), (157, .getfield 276, 3), (160, .iconst 1, 1), (161, .iadd, 1), (162, .putfield 276, 3), (165, .iinc 2 1, 3), (168, .goto (-82), 3), (171, .return_, 1)], [(41, 975, 8, 18, .array .int), (44, 976, 8, 19, .array .int), (53, 979, 8, 22, .array .int), (56, 981, 8, 24, .array .int), (59, 987, 8, 30, .array .int), (62, 988, 8, 31, .array .int), (133, 962, 8, 5, .int), (217, 982, 8, 25, .int), (276, 989, 8, 32, .int)], [], [])
theorem ok_X11_layLooks : aOK M_X11_layLooks := by unfold aOK; decide +kernel
def M_X11_look : aM := (RX11, cX11_look, 3, false, (some .int), { frames := 7, cells := 0, slots := 0, locals := 163 }, [(0, .iload_n 1, 1), (1, .iconst (-1), 1), (2, .if_icmp .ge 6, 3), (5, .bipush (-3), 2), (7, .ireturn, 1), (8, .aload_n 0, 1), (9, .iload_n 2, 1), (10, .invokevirtual 282, 3), (13, .iload_n 1, 1), (14, .iconst (-1), 1), (15, .if_icmp .ne 10, 3), (18, .aload_n 0, 1), (19, .getfield 276, 3), (22, .goto 21, 3), (25, .iload_n 1, 1), (26, .aload_n 0, 1), (27, .getfield 276, 3), (30, .if_icmp .ge 12, 3), (33, .aload_n 0, 1), (34, .getfield 62, 3), (37, .iload_n 1, 1), (38, .iaload, 1), (39, .goto 4, 3), (42, .iconst (-1), 1), (43, .ireturn, 1)], [(62, 988, 8, 31, .array .int), (276, 989, 8, 32, .int)], [], [])
theorem ok_X11_look : aOK M_X11_look := by unfold aOK; decide +kernel
def M_X11_mean : aM := (RX11, cX11_mean, 10, false, (some .int), { frames := 7, cells := 0, slots := 0, locals := 163 }, [(0, .iload_n 2, 1), (1, .invokestatic 263, 3), (4, .ifCond .ne 6, 3), (7, .bipush (-3), 2), (9, .ireturn, 1), (10, .aload_n 0, 1), (11, .iload_n 1, 1), (12, .invokevirtual 282, 3), (15, .aload_n 0, 1), (16, .getfield 276, 3), (19, .ifCond .ne 6, 3), (22, .bipush (-4), 2), (24, .ireturn, 1), (25, .lconst 0, 1), (26, .lstore_n 3, 1), (27, .lconst 0, 1), (28, .lstore 5, 2), (30, .iconst 0, 1), (31, .istore 7, 2), (33, .iconst 0, 1), (34, .istore 8, 2), (36, .iload 8, 2), (38, .aload_n 0, 1), (39, .getfield 276, 3), (42, .if_icmp .ge 65, 3), (45, .aload_n 0, 1), (46, .getfield 62, 3), (49, .iload 8, 2), (51, .iaload, 1), (52, .istore 9, 2), (54, .iload 7, 2), (56, .aload_n 0, 1), (57, .getfield 16, 3), (60, .iconst 5, 1), (61, .iload 9, 2), (63, .imul, 1), (64, .iconst 1, 1), (65, .iadd, 1), (66, .iaload, 1), (67, .invokestatic 182, 3), (70, .iadd, 1), (71, .istore 7, 2), (73, .lload_n 3, 1), (74, .aload_n 0, 1), (75, .getfield 59, 3), (78, .iload 9, 2), (80, .iaload, 1), (81, .i2l, 1), (82, .iload 7, 2), (84, .i2l, 1), (85, .lmul, 1), (86, .ladd, 1), (87, .lstore_n 3, 1), (88, .lload 5, 2), (90, .aload_n 0, 1), (91, .getfield 59, 3), (94, .iload 9, 2), (96, .iaload, 1), (97, .i2l, 1), (98, .ladd, 1), (99, .lstore 5, 2), (101, .iinc 8 1, 3), (104, .goto (-68), 3), (107, .lload_n 3, 1), (108, .lload 5, 2), (110, .iload_n 2, 1), (111, .invokestatic 272, 3), (114, .l2i, 1), (115, .ireturn, 1)], [(16, 961, 8, 4, .array .int), (59, 987, 8, 30, .array .int), (62, 988, 8, 31, .array .int), (276, 989, 8, 32, .int)], [], [])
theorem ok_X11_mean : aOK M_X11_mean := by unfold aOK; decide +kernel
def M_X11_isTurned : aM := (RX11, cX11_isTurned, 4, false, (some .boolean), { frames := 3, cells := 0, slots := 0, locals := 67 }, [(0, .iconst 0, 1), (1, .istore_n 2, 1), (2, .iconst 0, 1), (3, .istore_n 3, 1), (4, .iload_n 3, 1), (5, .iconst 1, 1), (6, .iadd, 1), (7, .iload_n 0, 1), (8, .invokestatic 182, 3), (11, .if_icmp .ge 28, 3), (14, .iload_n 2, 1), (15, .ifCond .ne 12, 3), (18, .iload_n 0, 1), (19, .iload_n 3, 1), (20, .invokestatic 195, 3), (23, .iload_n 1, 1), (24, .if_icmp .ne 7, 3), (27, .iconst 1, 1), (28, .goto 4, 3), (31, .iconst 0, 1), (32, .istore_n 2, 1), (33, .iinc 3 1, 3), (36, .goto (-32), 3), (39, .iload_n 2, 1), (40, .ifCond .eq 11, 3), (43, .iload_n 1, 1), (44, .ifCond .le 7, 3), (47, .iconst 1, 1), (48, .goto 4, 3), (51, .iconst 0, 1), (52, .ireturn, 1)], [], [], [])
theorem ok_X11_isTurned : aOK M_X11_isTurned := by unfold aOK; decide +kernel
def M_X11_isFigure : aM := (RX11, cX11_isFigure, 4, false, (some .boolean), { frames := 2, cells := 0, slots := 0, locals := 43 }, [(0, .iconst 0, 1), (1, .istore_n 2, 1), (2, .iconst 0, 1), (3, .istore_n 3, 1), (4, .iload_n 3, 1), (5, .bipush 6, 2), (7, .if_icmp .ge 30, 3), (10, .iload_n 2, 1), (11, .iload_n 0, 1), (12, .iload_n 3, 1), (13, .invokestatic 178, 3), (16, .iload_n 1, 1), (17, .iload_n 3, 1), (18, .invokestatic 178, 3), (21, .if_icmp .ne 7, 3), (24, .iconst 0, 1), (25, .goto 4, 3), (28, .iconst 1, 1), (29, .iadd, 1), (30, .istore_n 2, 1), (31, .iinc 3 1, 3), (34, .goto (-30), 3), (37, .iload_n 2, 1), (38, .iconst 1, 1), (39, .if_icmp .ne 22, 3), (42, .iload_n 1, 1), (43, .ifCond .le 18, 3), (46, .iload_n 0, 1), (47, .invokestatic 182, 3), (50, .iload_n 1, 1), (51, .invokestatic 182, 3), (54, .if_icmp .ne 7, 3), (57, .iconst 1, 1), (58, .goto 4, 3), (61, .iconst 0, 1), (62, .ireturn, 1)], [], [], [])
theorem ok_X11_isFigure : aOK M_X11_isFigure := by unfold aOK; decide +kernel
def M_X11_judge : aM := (RX11, cX11_judge, 6, false, (some .int), { frames := 4, cells := 0, slots := 0, locals := 90 }, [(0, .aload_n 0, 1), (1, .iload_n 1, 1), (2, .invokevirtual 146, 3), (5, .ifCond .ne 6, 3), (8, .bipush (-2), 2), (10, .ireturn, 1), (11, .iload_n 2, 1), (12, .i2l, 1), (13, .lconst 0, 1), (14, .lconst 1, 1), (15, .invokestatic 70, 3), (18, .ifCond .eq 15, 3), (21, .iload_n 3, 1), (22, .i2l, 1), (23, .lconst 0, 1), (24, .ldc2_w 170, 3), (27, .invokestatic 70, 3), (30, .ifCond .ne 6, 3), (33, .bipush (-3), 2), (35, .ireturn, 1), (36, .aload_n 0, 1), (37, .getfield 16, 3), (40, .iconst 5, 1), (41, .iload_n 1, 1), (42, .imul, 1), (43, .iconst 1, 1), (44, .iadd, 1), (45, .iaload, 1), (46, .istore 4, 2), (48, .aload_n 0, 1), (49, .getfield 16, 3), (52, .iconst 5, 1), (53, .iload_n 1, 1), (54, .imul, 1), (55, .iaload, 1), (56, .iload_n 2, 1), (57, .if_icmp .ne 7, 3), (60, .iconst 1, 1), (61, .goto 4, 3), (64, .iconst 0, 1), (65, .istore 5, 2), (67, .iload_n 3, 1), (68, .ifCond .ne 22, 3), (71, .iload 5, 2), (73, .ifCond .eq 15, 3), (76, .aload_n 0, 1), (77, .iload_n 1, 1), (78, .invokevirtual 201, 3), (81, .ifCond .eq 7, 3), (84, .iconst 4, 1), (85, .goto 4, 3), (88, .iconst (-1), 1), (89, .ireturn, 1), (90, .iload 5, 2), (92, .ifCond .eq 16, 3), (95, .iload 4, 2), (97, .iload_n 3, 1), (98, .invokestatic 285, 3), (101, .ifCond .eq 7, 3), (104, .iconst 0, 1), (105, .goto 64, 3), (108, .iload 5, 2), (110, .ifCond .eq 16, 3), (113, .iload 4, 2), (115, .iload_n 3, 1), (116, .invokestatic 288, 3), (119, .ifCond .eq 7, 3), (122, .iconst 1, 1), (123, .goto 46, 3), (126, .iload 5, 2), (128, .ifCond .eq 25, 3), (131, .bipush 10, 2), (133, .iload 4, 2), (135, .imul, 1), (136, .iload_n 3, 1), (137, .if_icmp .eq 12, 3), (140, .bipush 10, 2), (142, .iload_n 3, 1), (143, .imul, 1), (144, .iload 4, 2), (146, .if_icmp .ne 7, 3), (149, .iconst 2, 1), (150, .goto 19, 3), (153, .iload 5, 2), (155, .ifCond .ne 13, 3), (158, .iload 4, 2), (160, .iload_n 3, 1), (161, .if_icmp .ne 7, 3), (164, .iconst 3, 1), (165, .goto 4, 3), (168, .iconst (-1), 1), (169, .ireturn, 1)], [(16, 961, 8, 4, .array .int)], [(170, 1179, .long (999999))], [])
theorem ok_X11_judge : aOK M_X11_judge := by unfold aOK; decide +kernel
def M_X11_other : aM := (RX11, cX11_other, 2, false, (some .int), { frames := 1, cells := 0, slots := 0, locals := 25 }, [(0, .iload_n 1, 1), (1, .i2l, 1), (2, .lconst 1, 1), (3, .ldc2_w 170, 3), (6, .invokestatic 70, 3), (9, .ifCond .ne 6, 3), (12, .bipush (-3), 2), (14, .ireturn, 1), (15, .aload_n 0, 1), (16, .getfield 291, 3), (19, .bipush 12, 2), (21, .if_icmp .ne 6, 3), (24, .bipush (-5), 2), (26, .ireturn, 1), (27, .aload_n 0, 1), (28, .getfield 38, 3), (31, .aload_n 0, 1), (32, .getfield 291, 3), (35, .iload_n 1, 1), (36, .iastore, 1), (37, .aload_n 0, 1), (38, .dup, 1), (39, .getfield 291, 3), (42, .iconst 1, 1), (43, .iadd, 1), (44, .putfield 291, 3), (47, .aload_n 0, 1), (48, .getfield 291, 3), (51, .ireturn, 1)], [(38, 970, 8, 13, .array .int), (291, 971, 8, 14, .int)], [(170, 1179, .long (999999))], [])
theorem ok_X11_other : aOK M_X11_other := by unfold aOK; decide +kernel
def M_X11_cost : aM := (RX11, cX11_cost, 2, false, (some .int), { frames := 4, cells := 0, slots := 0, locals := 90 }, [(0, .iload_n 0, 1), (1, .iload_n 1, 1), (2, .if_icmp .ne 7, 3), (5, .iconst 0, 1), (6, .goto 40, 3), (9, .iload_n 0, 1), (10, .iload_n 1, 1), (11, .invokestatic 285, 3), (14, .ifCond .ne 27, 3), (17, .iload_n 0, 1), (18, .iload_n 1, 1), (19, .invokestatic 288, 3), (22, .ifCond .ne 19, 3), (25, .bipush 10, 2), (27, .iload_n 0, 1), (28, .imul, 1), (29, .iload_n 1, 1), (30, .if_icmp .eq 11, 3), (33, .bipush 10, 2), (35, .iload_n 1, 1), (36, .imul, 1), (37, .iload_n 0, 1), (38, .if_icmp .ne 7, 3), (41, .iconst 1, 1), (42, .goto 4, 3), (45, .iconst (-1), 1), (46, .ireturn, 1)], [], [], [])
theorem ok_X11_cost : aOK M_X11_cost := by unfold aOK; decide +kernel
def M_X11_costWith : aM := (RX11, cX11_costWith, 5, false, (some .int), { frames := 5, cells := 0, slots := 0, locals := 111 }, [(0, .aload_n 0, 1), (1, .getfield 16, 3), (4, .iconst 5, 1), (5, .iload_n 1, 1), (6, .imul, 1), (7, .iconst 1, 1), (8, .iadd, 1), (9, .iaload, 1), (10, .aload_n 0, 1), (11, .getfield 38, 3), (14, .iload_n 3, 1), (15, .iaload, 1), (16, .invokestatic 294, 3), (19, .istore 4, 2), (21, .iload 4, 2), (23, .iconst (-1), 1), (24, .if_icmp .ne 9, 3), (27, .sipush 1000, 3), (30, .goto 25, 3), (33, .iload_n 3, 1), (34, .iload_n 2, 1), (35, .isub, 1), (36, .iload 4, 2), (38, .iadd, 1), (39, .aload_n 0, 1), (40, .getfield 65, 3), (43, .bipush 13, 2), (45, .iload_n 1, 1), (46, .iconst 1, 1), (47, .iadd, 1), (48, .imul, 1), (49, .iload_n 3, 1), (50, .iadd, 1), (51, .iconst 1, 1), (52, .iadd, 1), (53, .iaload, 1), (54, .iadd, 1), (55, .ireturn, 1)], [(16, 961, 8, 4, .array .int), (38, 970, 8, 13, .array .int), (65, 990, 8, 33, .array .int)], [], [])
theorem ok_X11_costWith : aOK M_X11_costWith := by unfold aOK; decide +kernel
def M_X11_layRest : aM := (RX11, cX11_layRest, 6, false, none, { frames := 6, cells := 0, slots := 0, locals := 135 }, [(0, .iload_n 1, 1), (1, .istore_n 2, 1), (2, .iload_n 2, 1), (3, .ifCond .lt 119, 3), (6, .aload_n 0, 1), (7, .getfield 291, 3), (10, .istore_n 3, 1), (11, .iload_n 3, 1), (12, .ifCond .lt 104, 3), (15, .iload_n 2, 1), (16, .iload_n 1, 1), (17, .if_icmp .ne 12, 3), (20, .aload_n 0, 1), (21, .getfield 291, 3), (24, .iload_n 3, 1), (25, .isub, 1), (26, .goto 18, 3), (29, .iconst 1, 1), (30, .aload_n 0, 1), (31, .getfield 65, 3), (34, .bipush 13, 2), (36, .iload_n 2, 1), (37, .iconst 1, 1), (38, .iadd, 1), (39, .imul, 1), (40, .iload_n 3, 1), (41, .iadd, 1), (42, .iaload, 1), (43, .iadd, 1), (44, .istore 4, 2), (46, .iload_n 3, 1), (47, .istore 5, 2), (49, .iload 5, 2), (51, .aload_n 0, 1), (52, .getfield 291, 3), (55, .if_icmp .ge 42, 3), (58, .iload_n 2, 1), (59, .iload_n 1, 1), (60, .if_icmp .ge 37, 3), (63, .aload_n 0, 1), (64, .iload_n 2, 1), (65, .iload_n 3, 1), (66, .iload 5, 2), (68, .invokevirtual 297, 3), (71, .iload 4, 2), (73, .if_icmp .ge 14, 3), (76, .aload_n 0, 1), (77, .iload_n 2, 1), (78, .iload_n 3, 1), (79, .iload 5, 2), (81, .invokevirtual 297, 3), (84, .goto 5, 3), (87, .iload 4, 2), (89, .istore 4, 2), (91, .iinc 5 1, 3), (94, .goto (-45), 3), (97, .aload_n 0, 1), (98, .getfield 65, 3), (101, .bipush 13, 2), (103, .iload_n 2, 1), (104, .imul, 1), (105, .iload_n 3, 1), (106, .iadd, 1), (107, .iload 4, 2), (109, .iastore, 1), (110, .iinc 3 (-1), 3), (113, .goto (-102), 3), (116, .iinc 2 (-1), 3), (119, .goto (-117), 3), (122, .return_, 1)], [(65, 990, 8, 33, .array .int), (291, 971, 8, 14, .int)], [], [])
theorem ok_X11_layRest : aOK M_X11_layRest := by unfold aOK; decide +kernel
def M_X11_match : aM := (RX11, cX11_match, 7, false, (some .int), { frames := 7, cells := 0, slots := 0, locals := 160 }, [(0, .iload_n 1, 1), (1, .i2l, 1), (2, .lconst 0, 1), (3, .ldc2_w 301, 3), (6, .invokestatic 70, 3), (9, .ifCond .eq 26, 3), (12, .iload_n 1, 1), (13, .aload_n 0, 1), (14, .getfield 133, 3), (17, .if_icmp .gt 18, 3), (20, .iload_n 2, 1), (21, .i2l, 1), (22, .ldc2_w 151, 3), (25, .iload_n 1, 1), (26, .iconst 1, 1), (27, .isub, 1), (28, .i2l, 1), (29, .invokestatic 70, 3), (32, .ifCond .ne 6, 3), (35, .bipush (-3), 2), (37, .ireturn, 1), (38, .aload_n 0, 1), (39, .iload_n 1, 1), (40, .invokevirtual 303, 3), (43, .iload_n 2, 1), (44, .iconst (-1), 1), (45, .if_icmp .ne 10, 3), (48, .aload_n 0, 1), (49, .getfield 65, 3), (52, .iconst 0, 1), (53, .iaload, 1), (54, .ireturn, 1), (55, .iconst 0, 1), (56, .istore_n 3, 1), (57, .iconst (-1), 1), (58, .istore 4, 2), (60, .iconst 0, 1), (61, .istore 5, 2), (63, .iload 5, 2), (65, .iload_n 2, 1), (66, .if_icmp .gt 83, 3), (69, .iconst (-1), 1), (70, .istore 4, 2), (72, .iload_n 3, 1), (73, .istore 6, 2), (75, .iload 6, 2), (77, .aload_n 0, 1), (78, .getfield 291, 3), (81, .if_icmp .ge 47, 3), (84, .iload 4, 2), (86, .iconst (-1), 1), (87, .if_icmp .ne 41, 3), (90, .aload_n 0, 1), (91, .iload 5, 2), (93, .iload_n 3, 1), (94, .iload 6, 2), (96, .invokevirtual 297, 3), (99, .aload_n 0, 1), (100, .getfield 65, 3), (103, .bipush 13, 2), (105, .iload 5, 2), (107, .imul, 1), (108, .iload_n 3, 1), (109, .iadd, 1), (110, .iaload, 1), (111, .if_icmp .ne 8, 3), (114, .iload 6, 2), (116, .goto 4, 3), (119, .iconst (-1), 1), (120, .istore 4, 2), (122, .iinc 6 1, 3), (125, .goto (-50), 3), (128, .iload 4, 2), (130, .iconst (-1), 1), (131, .if_icmp .ne 7, 3), (134, .iload_n 3, 1), (135, .goto 7, 3), (138, .iload 4, 2), (140, .iconst 1, 1), (141, .iadd, 1), (142, .istore_n 3, 1), (143, .iinc 5 1, 3), (146, .goto (-83), 3), (149, .iload 4, 2), (151, .ireturn, 1)], [(65, 990, 8, 33, .array .int), (133, 962, 8, 5, .int), (291, 971, 8, 14, .int)], [(151, 1144, .long (-1)), (301, 1336, .long (12))], [])
theorem ok_X11_match : aOK M_X11_match := by unfold aOK; decide +kernel
def M_X11_count : aM := (RX11, cX11_count, 2, false, (some .int), { frames := 0, cells := 0, slots := 0, locals := 0 }, [(0, .iload_n 1, 1), (1, .tableswitch 69 0 5 #[39, 44, 49, 54, 59, 64], 39), (40, .aload_n 0, 1), (41, .getfield 133, 3), (44, .ireturn, 1), (45, .aload_n 0, 1), (46, .getfield 74, 3), (49, .ireturn, 1), (50, .aload_n 0, 1), (51, .getfield 291, 3), (54, .ireturn, 1), (55, .aload_n 0, 1), (56, .getfield 28, 3), (59, .ireturn, 1), (60, .aload_n 0, 1), (61, .getfield 32, 3), (64, .ireturn, 1), (65, .aload_n 0, 1), (66, .getfield 35, 3), (69, .ireturn, 1), (70, .bipush (-3), 2), (72, .ireturn, 1)], [(28, 967, 8, 10, .int), (32, 968, 8, 11, .int), (35, 969, 8, 12, .int), (74, 958, 8, 1, .int), (133, 962, 8, 5, .int), (291, 971, 8, 14, .int)], [], [])
theorem ok_X11_count : aOK M_X11_count := by unfold aOK; decide +kernel
def M_J9_floorMod_7cf53 : aM := (RJ9, cJ9_floorMod_7cf53, 3, false, (some .int), { frames := 0, cells := 0, slots := 0, locals := 0 }, [(0, .iload_n 0, 1), (1, .iload_n 1, 1), (2, .irem, 1), (3, .istore_n 2, 1), (4, .iload_n 0, 1), (5, .iload_n 1, 1), (6, .ixor, 1), (7, .ifCond .ge 11, 3), (10, .iload_n 2, 1), (11, .ifCond .eq 7, 3), (14, .iload_n 2, 1), (15, .iload_n 1, 1), (16, .iadd, 1), (17, .ireturn, 1), (18, .iload_n 2, 1), (19, .ireturn, 1)], [], [], [])
theorem ok_J9_floorMod_7cf53 : aOK M_J9_floorMod_7cf53 := by unfold aOK; decide +kernel
def M_J9_abs_0f7a4 : aM := (RJ9, cJ9_abs_0f7a4, 1, false, (some .int), { frames := 0, cells := 0, slots := 0, locals := 0 }, [(0, .iload_n 0, 1), (1, .ifCond .ge 8, 3), (4, .iload_n 0, 1), (5, .ineg, 1), (6, .goto 4, 3), (9, .iload_n 0, 1), (10, .ireturn, 1)], [], [], [])
theorem ok_J9_abs_0f7a4 : aOK M_J9_abs_0f7a4 := by unfold aOK; decide +kernel
def M_J9_min_7cf53 : aM := (RJ9, cJ9_min_7cf53, 2, false, (some .int), { frames := 0, cells := 0, slots := 0, locals := 0 }, [(0, .iload_n 0, 1), (1, .iload_n 1, 1), (2, .if_icmp .gt 7, 3), (5, .iload_n 0, 1), (6, .goto 4, 3), (9, .iload_n 1, 1), (10, .ireturn, 1)], [], [], [])
theorem ok_J9_min_7cf53 : aOK M_J9_min_7cf53 := by unfold aOK; decide +kernel
def M_J0_length_8abf5 : aM := (RJ0, cJ0_length_8abf5, 1, false, (some .int), { frames := 1, cells := 0, slots := 0, locals := 20 }, [(0, .aload_n 0, 1), (1, .getfield 9, 3), (4, .arraylength, 1), (5, .aload_n 0, 1), (6, .invokevirtual 335, 3), (9, .ishr, 1), (10, .ireturn, 1)], [(9, 1353, 100, 1, .array .byte)], [], [])
theorem ok_J0_length_8abf5 : aOK M_J0_length_8abf5 := by unfold aOK; decide +kernel
def M_J0_charAt_5068e : aM := (RJ0, cJ0_charAt_5068e, 2, false, (some .char), { frames := 4, cells := 0, slots := 0, locals := 85 }, [(0, .aload_n 0, 1), (1, .invokevirtual 492, 3), (4, .ifCond .eq 12, 3), (7, .aload_n 0, 1), (8, .getfield 9, 3), (11, .iload_n 1, 1), (12, .invokestatic 495, 3), (15, .ireturn, 1), (16, .aload_n 0, 1), (17, .getfield 9, 3), (20, .iload_n 1, 1), (21, .invokestatic 498, 3), (24, .ireturn, 1)], [(9, 1353, 100, 1, .array .byte)], [], [])
theorem ok_J0_charAt_5068e : aOK M_J0_charAt_5068e := by unfold aOK; decide +kernel
def M_J0_coder_7d493 : aM := (RJ0, cJ0_coder_7d493, 1, false, (some .byte), { frames := 0, cells := 0, slots := 0, locals := 0 }, [(0, .getstatic 38, 3), (3, .ifCond .eq 10, 3), (6, .aload_n 0, 1), (7, .getfield 15, 3), (10, .goto 4, 3), (13, .iconst 1, 1), (14, .ireturn, 1)], [(15, 1354, 100, 0, .byte)], [], [(38, 435, 1)])
theorem ok_J0_coder_7d493 : aOK M_J0_coder_7d493 := by unfold aOK; decide +kernel
def M_J0_isLatin1_aae02 : aM := (RJ0, cJ0_isLatin1_aae02, 1, false, (some .boolean), { frames := 0, cells := 0, slots := 0, locals := 0 }, [(0, .getstatic 38, 3), (3, .ifCond .eq 14, 3), (6, .aload_n 0, 1), (7, .getfield 15, 3), (10, .ifCond .ne 7, 3), (13, .iconst 1, 1), (14, .goto 4, 3), (17, .iconst 0, 1), (18, .ireturn, 1)], [(15, 1354, 100, 0, .byte)], [], [(38, 435, 1)])
theorem ok_J0_isLatin1_aae02 : aOK M_J0_isLatin1_aae02 := by unfold aOK; decide +kernel
def M_J0_checkIndex_df160 : aM := (RJ0, cJ0_checkIndex_df160, 2, false, none, { frames := 1, cells := 0, slots := 0, locals := 22 }, [(0, .iload_n 0, 1), (1, .iload_n 1, 1), (2, .getstatic 1053, 3), (5, .invokestatic 1059, 3), (8, .pop, 1), (9, .return_, 1)], [], [], [(1053, 451, 2)])
theorem ok_J0_checkIndex_df160 : aOK M_J0_checkIndex_df160 := by unfold aOK; decide +kernel
def M_J1_charAt_3b067 : aM := (RJ1, cJ1_charAt_3b067, 2, false, (some .char), { frames := 2, cells := 0, slots := 0, locals := 43 }, [(0, .iload_n 1, 1), (1, .aload_n 0, 1), (2, .arraylength, 1), (3, .invokestatic 9, 3), (6, .aload_n 0, 1), (7, .iload_n 1, 1), (8, .baload, 1), (9, .sipush 255, 3), (12, .iand, 1), (13, .i2c, 1), (14, .ireturn, 1)], [], [], [])
theorem ok_J1_charAt_3b067 : aOK M_J1_charAt_3b067 := by unfold aOK; decide +kernel
def M_J7_fill_53178 : aM := (RJ7, cJ7_fill_53178, 4, false, none, { frames := 0, cells := 0, slots := 0, locals := 0 }, [(0, .iconst 0, 1), (1, .istore_n 2, 1), (2, .aload_n 0, 1), (3, .arraylength, 1), (4, .istore_n 3, 1), (5, .iload_n 2, 1), (6, .iload_n 3, 1), (7, .if_icmp .ge 13, 3), (10, .aload_n 0, 1), (11, .iload_n 2, 1), (12, .iload_n 1, 1), (13, .iastore, 1), (14, .iinc 2 1, 3), (17, .goto (-12), 3), (20, .return_, 1)], [], [], [])
theorem ok_J7_fill_53178 : aOK M_J7_fill_53178 := by unfold aOK; decide +kernel
def M_J3_checkIndex_8e157 : aM := (RJ3, cJ3_checkIndex_8e157, 3, false, (some .int), { frames := 0, cells := 0, slots := 0, locals := 0 }, [(0, .iload_n 0, 1), (1, .ifCond .lt 8, 3), (4, .iload_n 0, 1), (5, .iload_n 1, 1), (6, .if_icmp .lt 10, 3), (9, .aload_n 2, 1), (10, .iload_n 0, 1), (11, .iload_n 1, 1), (12, .invokestatic 95, 3), (15, .athrow, 1), (16, .iload_n 0, 1), (17, .ireturn, 1)], [], [], [])
theorem ok_J3_checkIndex_8e157 : aOK M_J3_checkIndex_8e157 := by unfold aOK; decide +kernel
end
section
/-! by wip/whole/gen -/
theorem k_X10_init_11 : aCON M_X10_init M_X9_init 11 yX9_init 92 65 94 0 ∧ lw_tbl[93]? = some (.instanceMethod yX9_init) := ⟨⟨by decide +kernel, by decide +kernel, ⟨by decide, by decide, by decide +kernel⟩, by decide, by decide⟩, by decide +kernel⟩
theorem k_X2_init_38 : aCO M_X2_init M_J7_fill_53178 38 yJ7_fill_53178 134 67 136 2 ∧ lw_tbl[135]? = some (.static yJ7_fill_53178) := ⟨⟨by decide +kernel, by decide +kernel, by decide +kernel, ⟨by decide, by decide, by decide +kernel⟩, by decide, by decide⟩, by decide +kernel⟩
theorem k_X10_init_18 : aCO M_X10_init M_X2_init 18 yX2_init 130 66 132 0 ∧ lw_tbl[131]? = some (.instanceMethod yX2_init) := ⟨⟨by decide +kernel, by decide +kernel, by decide +kernel, ⟨by decide, by decide, by decide +kernel⟩, by decide, by decide⟩, by decide +kernel⟩
theorem k_X10_init_25 : aCO M_X10_init M_X8_init 25 yX8_init 180 68 182 1 ∧ lw_tbl[181]? = some (.instanceMethod yX8_init) := ⟨⟨by decide +kernel, by decide +kernel, by decide +kernel, ⟨by decide, by decide, by decide +kernel⟩, by decide, by decide⟩, by decide +kernel⟩
theorem k_X10_init_34 : aCO M_X10_init M_X7_init 34 yX7_init 216 69 218 3 ∧ lw_tbl[217]? = some (.instanceMethod yX7_init) := ⟨⟨by decide +kernel, by decide +kernel, by decide +kernel, ⟨by decide, by decide, by decide +kernel⟩, by decide, by decide⟩, by decide +kernel⟩
theorem k_X10_init_46 : aCO M_X10_init M_X5_init 46 yX5_init 247 70 249 1 ∧ lw_tbl[248]? = some (.instanceMethod yX5_init) := ⟨⟨by decide +kernel, by decide +kernel, by decide +kernel, ⟨by decide, by decide, by decide +kernel⟩, by decide, by decide⟩, by decide +kernel⟩
theorem k_X10_init_58 : aCO M_X10_init M_X3_init 58 yX3_init 276 71 278 3 ∧ lw_tbl[277]? = some (.instanceMethod yX3_init) := ⟨⟨by decide +kernel, by decide +kernel, by decide +kernel, ⟨by decide, by decide, by decide +kernel⟩, by decide, by decide⟩, by decide +kernel⟩
theorem k_X10_init_70 : aCO M_X10_init M_X4_init 70 yX4_init 313 72 315 1 ∧ lw_tbl[314]? = some (.instanceMethod yX4_init) := ⟨⟨by decide +kernel, by decide +kernel, by decide +kernel, ⟨by decide, by decide, by decide +kernel⟩, by decide, by decide⟩, by decide +kernel⟩
theorem k_X9_split_34 : aCO M_X9_split M_X6_set 34 yX6_set 377 74 379 3 ∧ lw_tbl[378]? = some (.static yX6_set) := ⟨⟨by decide +kernel, by decide +kernel, by decide +kernel, ⟨by decide, by decide, by decide +kernel⟩, by decide, by decide⟩, by decide +kernel⟩
theorem k_X9_sortAt_40 : aCO M_X9_sortAt M_X6_at 40 yX6_at 404 74 406 2 ∧ lw_tbl[405]? = some (.static yX6_at) := ⟨⟨by decide +kernel, by decide +kernel, by decide +kernel, ⟨by decide, by decide, by decide +kernel⟩, by decide, by decide⟩, by decide +kernel⟩
theorem k_X9_isBegin_76 : aCO M_X9_isBegin M_X9_sortAt 76 yX9_sortAt 400 65 403 1 ∧ (lw_tbl[402]? = some (.instanceMethod yX9_sortAt) ∧ lw_tbl[2]? = some (.selects yX9_sortAt.cls yX9_sortAt yX9_sortAt)) := ⟨⟨by decide +kernel, by decide +kernel, by decide +kernel, ⟨by decide, by decide, by decide +kernel⟩, by decide, by decide⟩, ⟨by decide +kernel, by decide +kernel⟩⟩
theorem k_X9_isBegin_80 : aCO M_X9_isBegin M_X9_isRow 80 yX9_isRow 407 65 409 1 ∧ lw_tbl[408]? = some (.static yX9_isRow) := ⟨⟨by decide +kernel, by decide +kernel, by decide +kernel, ⟨by decide, by decide, by decide +kernel⟩, by decide, by decide⟩, by decide +kernel⟩
theorem k_X9_split_69 : aCO M_X9_split M_X9_isBegin 69 yX9_isBegin 396 65 399 1 ∧ (lw_tbl[398]? = some (.instanceMethod yX9_isBegin) ∧ lw_tbl[1]? = some (.selects yX9_isBegin.cls yX9_isBegin yX9_isBegin)) := ⟨⟨by decide +kernel, by decide +kernel, by decide +kernel, ⟨by decide, by decide, by decide +kernel⟩, by decide, by decide⟩, ⟨by decide +kernel, by decide +kernel⟩⟩
theorem k_X9_setToken_76 : aCO M_X9_setToken M_X9_sortAt 76 yX9_sortAt 400 65 403 1 ∧ (lw_tbl[402]? = some (.instanceMethod yX9_sortAt) ∧ lw_tbl[2]? = some (.selects yX9_sortAt.cls yX9_sortAt yX9_sortAt)) := ⟨⟨by decide +kernel, by decide +kernel, by decide +kernel, ⟨by decide, by decide, by decide +kernel⟩, by decide, by decide⟩, ⟨by decide +kernel, by decide +kernel⟩⟩
theorem k_X9_setToken_80 : aCO M_X9_setToken M_X9_isRow 80 yX9_isRow 407 65 409 1 ∧ lw_tbl[408]? = some (.static yX9_isRow) := ⟨⟨by decide +kernel, by decide +kernel, by decide +kernel, ⟨by decide, by decide, by decide +kernel⟩, by decide, by decide⟩, by decide +kernel⟩
theorem k_X9_setToken_34 : aCO M_X9_setToken M_X6_set 34 yX6_set 377 74 379 3 ∧ lw_tbl[378]? = some (.static yX6_set) := ⟨⟨by decide +kernel, by decide +kernel, by decide +kernel, ⟨by decide, by decide, by decide +kernel⟩, by decide, by decide⟩, by decide +kernel⟩
theorem k_X9_setToken_40 : aCO M_X9_setToken M_X6_at 40 yX6_at 404 74 406 2 ∧ lw_tbl[405]? = some (.static yX6_at) := ⟨⟨by decide +kernel, by decide +kernel, by decide +kernel, ⟨by decide, by decide, by decide +kernel⟩, by decide, by decide⟩, by decide +kernel⟩
theorem k_J0_length_8abf5_335 : aCO M_J0_length_8abf5 M_J0_coder_7d493 335 yJ0_coder_7d493 431 75 434 0 ∧ (lw_tbl[432]? = some (.instanceMethod yJ0_coder_7d493) ∧ lw_tbl[433]? = some (.selects yJ0_coder_7d493.cls yJ0_coder_7d493 yJ0_coder_7d493)) := ⟨⟨by decide +kernel, by decide +kernel, by decide +kernel, ⟨by decide, by decide, by decide +kernel⟩, by decide, by decide⟩, ⟨by decide +kernel, by decide +kernel⟩⟩
theorem k_X9_is_111 : aCO M_X9_is M_J0_length_8abf5 111 yJ0_length_8abf5 427 75 430 0 ∧ (lw_tbl[428]? = some (.instanceMethod yJ0_length_8abf5) ∧ lw_tbl[429]? = some (.selects yJ0_length_8abf5.cls yJ0_length_8abf5 yJ0_length_8abf5)) := ⟨⟨by decide +kernel, by decide +kernel, by decide +kernel, ⟨by decide, by decide, by decide +kernel⟩, by decide, by decide⟩, ⟨by decide +kernel, by decide +kernel⟩⟩
theorem k_J0_charAt_5068e_492 : aCO M_J0_charAt_5068e M_J0_isLatin1_aae02 492 yJ0_isLatin1_aae02 441 75 444 0 ∧ (lw_tbl[442]? = some (.instanceMethod yJ0_isLatin1_aae02) ∧ lw_tbl[443]? = some (.selects yJ0_isLatin1_aae02.cls yJ0_isLatin1_aae02 yJ0_isLatin1_aae02)) := ⟨⟨by decide +kernel, by decide +kernel, by decide +kernel, ⟨by decide, by decide, by decide +kernel⟩, by decide, by decide⟩, ⟨by decide +kernel, by decide +kernel⟩⟩
theorem k_J0_checkIndex_df160_1059 : aCO M_J0_checkIndex_df160 M_J3_checkIndex_8e157 1059 yJ3_checkIndex_8e157 453 77 455 3 ∧ lw_tbl[454]? = some (.static yJ3_checkIndex_8e157) := ⟨⟨by decide +kernel, by decide +kernel, by decide +kernel, ⟨by decide, by decide, by decide +kernel⟩, by decide, by decide⟩, by decide +kernel⟩
theorem k_J1_charAt_3b067_9 : aCO M_J1_charAt_3b067 M_J0_checkIndex_df160 9 yJ0_checkIndex_df160 448 75 450 2 ∧ lw_tbl[449]? = some (.static yJ0_checkIndex_df160) := ⟨⟨by decide +kernel, by decide +kernel, by decide +kernel, ⟨by decide, by decide, by decide +kernel⟩, by decide, by decide⟩, by decide +kernel⟩
theorem k_J0_charAt_5068e_495 : aCO M_J0_charAt_5068e M_J1_charAt_3b067 495 yJ1_charAt_3b067 445 76 447 2 ∧ lw_tbl[446]? = some (.static yJ1_charAt_3b067) := ⟨⟨by decide +kernel, by decide +kernel, by decide +kernel, ⟨by decide, by decide, by decide +kernel⟩, by decide, by decide⟩, by decide +kernel⟩
theorem k_X9_is_116 : aCO M_X9_is M_J0_charAt_5068e 116 yJ0_charAt_5068e 437 75 440 1 ∧ (lw_tbl[438]? = some (.instanceMethod yJ0_charAt_5068e) ∧ lw_tbl[439]? = some (.selects yJ0_charAt_5068e.cls yJ0_charAt_5068e yJ0_charAt_5068e)) := ⟨⟨by decide +kernel, by decide +kernel, by decide +kernel, ⟨by decide, by decide, by decide +kernel⟩, by decide, by decide⟩, ⟨by decide +kernel, by decide +kernel⟩⟩
theorem k_X9_is_40 : aCO M_X9_is M_X6_at 40 yX6_at 404 74 406 2 ∧ lw_tbl[405]? = some (.static yX6_at) := ⟨⟨by decide +kernel, by decide +kernel, by decide +kernel, ⟨by decide, by decide, by decide +kernel⟩, by decide, by decide⟩, by decide +kernel⟩
theorem k_X9_wordOf_91 : aCO M_X9_wordOf M_X9_is 91 yX9_is 423 65 426 3 ∧ (lw_tbl[425]? = some (.instanceMethod yX9_is) ∧ lw_tbl[6]? = some (.selects yX9_is.cls yX9_is yX9_is)) := ⟨⟨by decide +kernel, by decide +kernel, by decide +kernel, ⟨by decide, by decide, by decide +kernel⟩, by decide, by decide⟩, ⟨by decide +kernel, by decide +kernel⟩⟩
theorem k_X9_setToken_86 : aCO M_X9_setToken M_X9_wordOf 86 yX9_wordOf 418 65 421 2 ∧ (lw_tbl[420]? = some (.instanceMethod yX9_wordOf) ∧ lw_tbl[5]? = some (.selects yX9_wordOf.cls yX9_wordOf yX9_wordOf)) := ⟨⟨by decide +kernel, by decide +kernel, by decide +kernel, ⟨by decide, by decide, by decide +kernel⟩, by decide, by decide⟩, ⟨by decide +kernel, by decide +kernel⟩⟩
theorem k_X9_valueOf_40 : aCO M_X9_valueOf M_X6_at 40 yX6_at 404 74 406 2 ∧ lw_tbl[405]? = some (.static yX6_at) := ⟨⟨by decide +kernel, by decide +kernel, by decide +kernel, ⟨by decide, by decide, by decide +kernel⟩, by decide, by decide⟩, by decide +kernel⟩
theorem k_X9_setToken_83 : aCO M_X9_setToken M_X9_valueOf 83 yX9_valueOf 414 65 417 2 ∧ (lw_tbl[416]? = some (.instanceMethod yX9_valueOf) ∧ lw_tbl[4]? = some (.selects yX9_valueOf.cls yX9_valueOf yX9_valueOf)) := ⟨⟨by decide +kernel, by decide +kernel, by decide +kernel, ⟨by decide, by decide, by decide +kernel⟩, by decide, by decide⟩, ⟨by decide +kernel, by decide +kernel⟩⟩
theorem k_X9_split_72 : aCO M_X9_split M_X9_setToken 72 yX9_setToken 410 65 413 2 ∧ (lw_tbl[412]? = some (.instanceMethod yX9_setToken) ∧ lw_tbl[3]? = some (.selects yX9_setToken.cls yX9_setToken yX9_setToken)) := ⟨⟨by decide +kernel, by decide +kernel, by decide +kernel, ⟨by decide, by decide, by decide +kernel⟩, by decide, by decide⟩, ⟨by decide +kernel, by decide +kernel⟩⟩
theorem k_X9_read_44 : aCO M_X9_read M_X9_split 44 yX9_split 392 65 395 0 ∧ (lw_tbl[394]? = some (.instanceMethod yX9_split) ∧ lw_tbl[0]? = some (.selects yX9_split.cls yX9_split yX9_split)) := ⟨⟨by decide +kernel, by decide +kernel, by decide +kernel, ⟨by decide, by decide, by decide +kernel⟩, by decide, by decide⟩, ⟨by decide +kernel, by decide +kernel⟩⟩
theorem k_X9_read_40 : aCO M_X9_read M_X6_at 40 yX6_at 404 74 406 2 ∧ lw_tbl[405]? = some (.static yX6_at) := ⟨⟨by decide +kernel, by decide +kernel, by decide +kernel, ⟨by decide, by decide, by decide +kernel⟩, by decide, by decide⟩, by decide +kernel⟩
theorem k_X9_readLine_40 : aCO M_X9_readLine M_X6_at 40 yX6_at 404 74 406 2 ∧ lw_tbl[405]? = some (.static yX6_at) := ⟨⟨by decide +kernel, by decide +kernel, by decide +kernel, ⟨by decide, by decide, by decide +kernel⟩, by decide, by decide⟩, by decide +kernel⟩
theorem k_X9_readLine_34 : aCO M_X9_readLine M_X6_set 34 yX6_set 377 74 379 3 ∧ lw_tbl[378]? = some (.static yX6_set) := ⟨⟨by decide +kernel, by decide +kernel, by decide +kernel, ⟨by decide, by decide, by decide +kernel⟩, by decide, by decide⟩, by decide +kernel⟩
theorem k_X9_takeNumber_40 : aCO M_X9_takeNumber M_X6_at 40 yX6_at 404 74 406 2 ∧ lw_tbl[405]? = some (.static yX6_at) := ⟨⟨by decide +kernel, by decide +kernel, by decide +kernel, ⟨by decide, by decide, by decide +kernel⟩, by decide, by decide⟩, by decide +kernel⟩
theorem k_X9_takeNumber_34 : aCO M_X9_takeNumber M_X6_set 34 yX6_set 377 74 379 3 ∧ lw_tbl[378]? = some (.static yX6_set) := ⟨⟨by decide +kernel, by decide +kernel, by decide +kernel, ⟨by decide, by decide, by decide +kernel⟩, by decide, by decide⟩, by decide +kernel⟩
theorem k_X9_readLine_58 : aCO M_X9_readLine M_X9_takeNumber 58 yX9_takeNumber 488 65 491 4 ∧ (lw_tbl[490]? = some (.instanceMethod yX9_takeNumber) ∧ lw_tbl[8]? = some (.selects yX9_takeNumber.cls yX9_takeNumber yX9_takeNumber)) := ⟨⟨by decide +kernel, by decide +kernel, by decide +kernel, ⟨by decide, by decide, by decide +kernel⟩, by decide, by decide⟩, ⟨by decide +kernel, by decide +kernel⟩⟩
theorem k_X9_number_40 : aCO M_X9_number M_X6_at 40 yX6_at 404 74 406 2 ∧ lw_tbl[405]? = some (.static yX6_at) := ⟨⟨by decide +kernel, by decide +kernel, by decide +kernel, ⟨by decide, by decide, by decide +kernel⟩, by decide, by decide⟩, by decide +kernel⟩
theorem k_X9_readLine_62 : aCO M_X9_readLine M_X9_number 62 yX9_number 492 65 495 2 ∧ (lw_tbl[493]? = some (.instanceMethod yX9_number) ∧ lw_tbl[494]? = some (.selects yX9_number.cls yX9_number yX9_number)) := ⟨⟨by decide +kernel, by decide +kernel, by decide +kernel, ⟨by decide, by decide, by decide +kernel⟩, by decide, by decide⟩, ⟨by decide +kernel, by decide +kernel⟩⟩
theorem k_X9_readDue_40 : aCO M_X9_readDue M_X6_at 40 yX6_at 404 74 406 2 ∧ lw_tbl[405]? = some (.static yX6_at) := ⟨⟨by decide +kernel, by decide +kernel, by decide +kernel, ⟨by decide, by decide, by decide +kernel⟩, by decide, by decide⟩, by decide +kernel⟩
theorem k_X9_readDue_34 : aCO M_X9_readDue M_X6_set 34 yX6_set 377 74 379 3 ∧ lw_tbl[378]? = some (.static yX6_set) := ⟨⟨by decide +kernel, by decide +kernel, by decide +kernel, ⟨by decide, by decide, by decide +kernel⟩, by decide, by decide⟩, by decide +kernel⟩
theorem k_X9_readDue_58 : aCO M_X9_readDue M_X9_takeNumber 58 yX9_takeNumber 488 65 491 4 ∧ (lw_tbl[490]? = some (.instanceMethod yX9_takeNumber) ∧ lw_tbl[8]? = some (.selects yX9_takeNumber.cls yX9_takeNumber yX9_takeNumber)) := ⟨⟨by decide +kernel, by decide +kernel, by decide +kernel, ⟨by decide, by decide, by decide +kernel⟩, by decide, by decide⟩, ⟨by decide +kernel, by decide +kernel⟩⟩
theorem k_X9_readLine_66 : aCO M_X9_readLine M_X9_readDue 66 yX9_readDue 496 65 499 1 ∧ (lw_tbl[498]? = some (.instanceMethod yX9_readDue) ∧ lw_tbl[9]? = some (.selects yX9_readDue.cls yX9_readDue yX9_readDue)) := ⟨⟨by decide +kernel, by decide +kernel, by decide +kernel, ⟨by decide, by decide, by decide +kernel⟩, by decide, by decide⟩, ⟨by decide +kernel, by decide +kernel⟩⟩
theorem k_X9_read_53 : aCO M_X9_read M_X9_readLine 53 yX9_readLine 483 65 486 1 ∧ (lw_tbl[485]? = some (.instanceMethod yX9_readLine) ∧ lw_tbl[7]? = some (.selects yX9_readLine.cls yX9_readLine yX9_readLine)) := ⟨⟨by decide +kernel, by decide +kernel, by decide +kernel, ⟨by decide, by decide, by decide +kernel⟩, by decide, by decide⟩, ⟨by decide +kernel, by decide +kernel⟩⟩
theorem k_X10_book_88 : aCO M_X10_book M_X9_read 88 yX9_read 388 65 391 0 ∧ (lw_tbl[389]? = some (.instanceMethod yX9_read) ∧ lw_tbl[390]? = some (.selects yX9_read.cls yX9_read yX9_read)) := ⟨⟨by decide +kernel, by decide +kernel, by decide +kernel, ⟨by decide, by decide, by decide +kernel⟩, by decide, by decide⟩, ⟨by decide +kernel, by decide +kernel⟩⟩
theorem k_X2_takeLine_81 : aCO M_X2_takeLine M_X9_number 81 yX9_number 513 65 495 2 ∧ (lw_tbl[493]? = some (.instanceMethod yX9_number) ∧ lw_tbl[494]? = some (.selects yX9_number.cls yX9_number yX9_number)) := ⟨⟨by decide +kernel, by decide +kernel, by decide +kernel, ⟨by decide, by decide, by decide +kernel⟩, by decide, by decide⟩, ⟨by decide +kernel, by decide +kernel⟩⟩
theorem k_X9_word_40 : aCO M_X9_word M_X6_at 40 yX6_at 404 74 406 2 ∧ lw_tbl[405]? = some (.static yX6_at) := ⟨⟨by decide +kernel, by decide +kernel, by decide +kernel, ⟨by decide, by decide, by decide +kernel⟩, by decide, by decide⟩, by decide +kernel⟩
theorem k_X2_takeLine_84 : aCO M_X2_takeLine M_X9_word 84 yX9_word 514 65 517 1 ∧ (lw_tbl[515]? = some (.instanceMethod yX9_word) ∧ lw_tbl[516]? = some (.selects yX9_word.cls yX9_word yX9_word)) := ⟨⟨by decide +kernel, by decide +kernel, by decide +kernel, ⟨by decide, by decide, by decide +kernel⟩, by decide, by decide⟩, ⟨by decide +kernel, by decide +kernel⟩⟩
theorem k_X2_setPart_47 : aCO M_X2_setPart M_X6_set 47 yX6_set 526 74 379 3 ∧ lw_tbl[378]? = some (.static yX6_set) := ⟨⟨by decide +kernel, by decide +kernel, by decide +kernel, ⟨by decide, by decide, by decide +kernel⟩, by decide, by decide⟩, by decide +kernel⟩
theorem k_X2_add_68 : aCO M_X2_add M_X2_setPart 68 yX2_setPart 522 66 525 3 ∧ (lw_tbl[524]? = some (.instanceMethod yX2_setPart) ∧ lw_tbl[12]? = some (.selects yX2_setPart.cls yX2_setPart yX2_setPart)) := ⟨⟨by decide +kernel, by decide +kernel, by decide +kernel, ⟨by decide, by decide, by decide +kernel⟩, by decide, by decide⟩, ⟨by decide +kernel, by decide +kernel⟩⟩
theorem k_X2_add_81 : aCO M_X2_add M_X9_number 81 yX9_number 513 65 495 2 ∧ (lw_tbl[493]? = some (.instanceMethod yX9_number) ∧ lw_tbl[494]? = some (.selects yX9_number.cls yX9_number yX9_number)) := ⟨⟨by decide +kernel, by decide +kernel, by decide +kernel, ⟨by decide, by decide, by decide +kernel⟩, by decide, by decide⟩, ⟨by decide +kernel, by decide +kernel⟩⟩
theorem k_X2_takeLine_87 : aCO M_X2_takeLine M_X2_add 87 yX2_add 518 66 521 3 ∧ (lw_tbl[520]? = some (.instanceMethod yX2_add) ∧ lw_tbl[11]? = some (.selects yX2_add.cls yX2_add yX2_add)) := ⟨⟨by decide +kernel, by decide +kernel, by decide +kernel, ⟨by decide, by decide, by decide +kernel⟩, by decide, by decide⟩, ⟨by decide +kernel, by decide +kernel⟩⟩
theorem k_X2_setOdds_47 : aCO M_X2_setOdds M_X6_set 47 yX6_set 526 74 379 3 ∧ lw_tbl[378]? = some (.static yX6_set) := ⟨⟨by decide +kernel, by decide +kernel, by decide +kernel, ⟨by decide, by decide, by decide +kernel⟩, by decide, by decide⟩, by decide +kernel⟩
theorem k_X2_takeLine_91 : aCO M_X2_takeLine M_X2_setOdds 91 yX2_setOdds 527 66 530 3 ∧ (lw_tbl[528]? = some (.instanceMethod yX2_setOdds) ∧ lw_tbl[529]? = some (.selects yX2_setOdds.cls yX2_setOdds yX2_setOdds)) := ⟨⟨by decide +kernel, by decide +kernel, by decide +kernel, ⟨by decide, by decide, by decide +kernel⟩, by decide, by decide⟩, ⟨by decide +kernel, by decide +kernel⟩⟩
theorem k_X2_takeLine_47 : aCO M_X2_takeLine M_X6_set 47 yX6_set 526 74 379 3 ∧ lw_tbl[378]? = some (.static yX6_set) := ⟨⟨by decide +kernel, by decide +kernel, by decide +kernel, ⟨by decide, by decide, by decide +kernel⟩, by decide, by decide⟩, by decide +kernel⟩
theorem k_X2_setDue_47 : aCO M_X2_setDue M_X6_set 47 yX6_set 526 74 379 3 ∧ lw_tbl[378]? = some (.static yX6_set) := ⟨⟨by decide +kernel, by decide +kernel, by decide +kernel, ⟨by decide, by decide, by decide +kernel⟩, by decide, by decide⟩, by decide +kernel⟩
theorem k_X2_takeLine_94 : aCO M_X2_takeLine M_X2_setDue 94 yX2_setDue 531 66 534 3 ∧ (lw_tbl[533]? = some (.instanceMethod yX2_setDue) ∧ lw_tbl[13]? = some (.selects yX2_setDue.cls yX2_setDue yX2_setDue)) := ⟨⟨by decide +kernel, by decide +kernel, by decide +kernel, ⟨by decide, by decide, by decide +kernel⟩, by decide, by decide⟩, ⟨by decide +kernel, by decide +kernel⟩⟩
theorem k_X2_take_77 : aCO M_X2_take M_X2_takeLine 77 yX2_takeLine 509 66 512 2 ∧ (lw_tbl[511]? = some (.instanceMethod yX2_takeLine) ∧ lw_tbl[10]? = some (.selects yX2_takeLine.cls yX2_takeLine yX2_takeLine)) := ⟨⟨by decide +kernel, by decide +kernel, by decide +kernel, ⟨by decide, by decide, by decide +kernel⟩, by decide, by decide⟩, ⟨by decide +kernel, by decide +kernel⟩⟩
theorem k_X10_book_92 : aCO M_X10_book M_X2_take 92 yX2_take 505 66 508 1 ∧ (lw_tbl[506]? = some (.instanceMethod yX2_take) ∧ lw_tbl[507]? = some (.selects yX2_take.cls yX2_take yX2_take)) := ⟨⟨by decide +kernel, by decide +kernel, by decide +kernel, ⟨by decide, by decide, by decide +kernel⟩, by decide, by decide⟩, ⟨by decide +kernel, by decide +kernel⟩⟩
theorem k_X2_outBy_53 : aCO M_X2_outBy M_X2_told 53 yX2_told 558 66 546 2 ∧ (lw_tbl[544]? = some (.instanceMethod yX2_told) ∧ lw_tbl[545]? = some (.selects yX2_told.cls yX2_told yX2_told)) := ⟨⟨by decide +kernel, by decide +kernel, by decide +kernel, ⟨by decide, by decide, by decide +kernel⟩, by decide, by decide⟩, ⟨by decide +kernel, by decide +kernel⟩⟩
theorem k_X2_outOf_57 : aCO M_X2_outOf M_X2_outBy 57 yX2_outBy 559 66 562 1 ∧ (lw_tbl[560]? = some (.instanceMethod yX2_outBy) ∧ lw_tbl[561]? = some (.selects yX2_outBy.cls yX2_outBy yX2_outBy)) := ⟨⟨by decide +kernel, by decide +kernel, by decide +kernel, ⟨by decide, by decide, by decide +kernel⟩, by decide, by decide⟩, ⟨by decide +kernel, by decide +kernel⟩⟩
theorem k_X2_outOf_53 : aCO M_X2_outOf M_X2_told 53 yX2_told 558 66 546 2 ∧ (lw_tbl[544]? = some (.instanceMethod yX2_told) ∧ lw_tbl[545]? = some (.selects yX2_told.cls yX2_told yX2_told)) := ⟨⟨by decide +kernel, by decide +kernel, by decide +kernel, ⟨by decide, by decide, by decide +kernel⟩, by decide, by decide⟩, ⟨by decide +kernel, by decide +kernel⟩⟩
theorem k_X8_build_106 : aCO M_X8_build M_X2_outOf 106 yX2_outOf 706 66 557 1 ∧ (lw_tbl[555]? = some (.instanceMethod yX2_outOf) ∧ lw_tbl[556]? = some (.selects yX2_outOf.cls yX2_outOf yX2_outOf)) := ⟨⟨by decide +kernel, by decide +kernel, by decide +kernel, ⟨by decide, by decide, by decide +kernel⟩, by decide, by decide⟩, ⟨by decide +kernel, by decide +kernel⟩⟩
theorem k_X8_putMissed_136 : aCO M_X8_putMissed M_J9_abs_0f7a4 136 yJ9_abs_0f7a4 711 79 628 1 ∧ lw_tbl[627]? = some (.static yJ9_abs_0f7a4) := ⟨⟨by decide +kernel, by decide +kernel, by decide +kernel, ⟨by decide, by decide, by decide +kernel⟩, by decide, by decide⟩, by decide +kernel⟩
theorem k_X8_put_149 : aCO M_X8_put M_X6_set 149 yX6_set 679 74 379 3 ∧ lw_tbl[378]? = some (.static yX6_set) := ⟨⟨by decide +kernel, by decide +kernel, by decide +kernel, ⟨by decide, by decide, by decide +kernel⟩, by decide, by decide⟩, by decide +kernel⟩
theorem k_X8_putMissed_98 : aCO M_X8_putMissed M_X8_put 98 yX8_put 675 68 678 5 ∧ (lw_tbl[677]? = some (.instanceMethod yX8_put) ∧ lw_tbl[19]? = some (.selects yX8_put.cls yX8_put yX8_put)) := ⟨⟨by decide +kernel, by decide +kernel, by decide +kernel, ⟨by decide, by decide, by decide +kernel⟩, by decide, by decide⟩, ⟨by decide +kernel, by decide +kernel⟩⟩
theorem k_X8_build_109 : aCO M_X8_build M_X8_putMissed 109 yX8_putMissed 707 68 710 1 ∧ (lw_tbl[709]? = some (.instanceMethod yX8_putMissed) ∧ lw_tbl[21]? = some (.selects yX8_putMissed.cls yX8_putMissed yX8_putMissed)) := ⟨⟨by decide +kernel, by decide +kernel, by decide +kernel, ⟨by decide, by decide, by decide +kernel⟩, by decide, by decide⟩, ⟨by decide +kernel, by decide +kernel⟩⟩
theorem k_X8_chain_153 : aCO M_X8_chain M_J7_fill_53178 153 yJ7_fill_53178 725 67 136 2 ∧ lw_tbl[135]? = some (.static yJ7_fill_53178) := ⟨⟨by decide +kernel, by decide +kernel, by decide +kernel, ⟨by decide, by decide, by decide +kernel⟩, by decide, by decide⟩, by decide +kernel⟩
theorem k_X8_change_37 : aCO M_X8_change M_X6_at 37 yX6_at 730 74 406 2 ∧ lw_tbl[405]? = some (.static yX6_at) := ⟨⟨by decide +kernel, by decide +kernel, by decide +kernel, ⟨by decide, by decide, by decide +kernel⟩, by decide, by decide⟩, by decide +kernel⟩
theorem k_X8_chain_50 : aCO M_X8_chain M_X8_change 50 yX8_change 726 68 729 1 ∧ (lw_tbl[727]? = some (.instanceMethod yX8_change) ∧ lw_tbl[728]? = some (.selects yX8_change.cls yX8_change yX8_change)) := ⟨⟨by decide +kernel, by decide +kernel, by decide +kernel, ⟨by decide, by decide, by decide +kernel⟩, by decide, by decide⟩, ⟨by decide +kernel, by decide +kernel⟩⟩
theorem k_X8_chain_63 : aCO M_X8_chain M_J9_floorMod_7cf53 63 yJ9_floorMod_7cf53 731 79 733 2 ∧ lw_tbl[732]? = some (.static yJ9_floorMod_7cf53) := ⟨⟨by decide +kernel, by decide +kernel, by decide +kernel, ⟨by decide, by decide, by decide +kernel⟩, by decide, by decide⟩, by decide +kernel⟩
theorem k_X8_chain_37 : aCO M_X8_chain M_X6_at 37 yX6_at 730 74 406 2 ∧ lw_tbl[405]? = some (.static yX6_at) := ⟨⟨by decide +kernel, by decide +kernel, by decide +kernel, ⟨by decide, by decide, by decide +kernel⟩, by decide, by decide⟩, by decide +kernel⟩
theorem k_X8_chain_149 : aCO M_X8_chain M_X6_set 149 yX6_set 679 74 379 3 ∧ lw_tbl[378]? = some (.static yX6_set) := ⟨⟨by decide +kernel, by decide +kernel, by decide +kernel, ⟨by decide, by decide, by decide +kernel⟩, by decide, by decide⟩, by decide +kernel⟩
theorem k_X8_build_116 : aCO M_X8_build M_X8_chain 116 yX8_chain 721 68 724 0 ∧ (lw_tbl[723]? = some (.instanceMethod yX8_chain) ∧ lw_tbl[23]? = some (.selects yX8_chain.cls yX8_chain yX8_chain)) := ⟨⟨by decide +kernel, by decide +kernel, by decide +kernel, ⟨by decide, by decide, by decide +kernel⟩, by decide, by decide⟩, ⟨by decide +kernel, by decide +kernel⟩⟩
theorem k_X2_hasEntryOn_53 : aCO M_X2_hasEntryOn M_X2_told 53 yX2_told 558 66 546 2 ∧ (lw_tbl[544]? = some (.instanceMethod yX2_told) ∧ lw_tbl[545]? = some (.selects yX2_told.cls yX2_told yX2_told)) := ⟨⟨by decide +kernel, by decide +kernel, by decide +kernel, ⟨by decide, by decide, by decide +kernel⟩, by decide, by decide⟩, ⟨by decide +kernel, by decide +kernel⟩⟩
theorem k_X8_putCarries_143 : aCO M_X8_putCarries M_X2_hasEntryOn 143 yX2_hasEntryOn 717 66 720 1 ∧ (lw_tbl[718]? = some (.instanceMethod yX2_hasEntryOn) ∧ lw_tbl[719]? = some (.selects yX2_hasEntryOn.cls yX2_hasEntryOn yX2_hasEntryOn)) := ⟨⟨by decide +kernel, by decide +kernel, by decide +kernel, ⟨by decide, by decide, by decide +kernel⟩, by decide, by decide⟩, ⟨by decide +kernel, by decide +kernel⟩⟩
theorem k_X0_tens_15 : aCO M_X0_tens M_X6_at 15 yX6_at 638 74 406 2 ∧ lw_tbl[405]? = some (.static yX6_at) := ⟨⟨by decide +kernel, by decide +kernel, by decide +kernel, ⟨by decide, by decide, by decide +kernel⟩, by decide, by decide⟩, by decide +kernel⟩
theorem k_X8_putCarries_130 : aCO M_X8_putCarries M_X0_tens 130 yX0_tens 687 80 689 1 ∧ lw_tbl[688]? = some (.static yX0_tens) := ⟨⟨by decide +kernel, by decide +kernel, by decide +kernel, ⟨by decide, by decide, by decide +kernel⟩, by decide, by decide⟩, by decide +kernel⟩
theorem k_X8_putCarries_98 : aCO M_X8_putCarries M_X8_put 98 yX8_put 675 68 678 5 ∧ (lw_tbl[677]? = some (.instanceMethod yX8_put) ∧ lw_tbl[19]? = some (.selects yX8_put.cls yX8_put yX8_put)) := ⟨⟨by decide +kernel, by decide +kernel, by decide +kernel, ⟨by decide, by decide, by decide +kernel⟩, by decide, by decide⟩, ⟨by decide +kernel, by decide +kernel⟩⟩
theorem k_X8_build_113 : aCO M_X8_build M_X8_putCarries 113 yX8_putCarries 713 68 716 1 ∧ (lw_tbl[715]? = some (.instanceMethod yX8_putCarries) ∧ lw_tbl[22]? = some (.selects yX8_putCarries.cls yX8_putCarries yX8_putCarries)) := ⟨⟨by decide +kernel, by decide +kernel, by decide +kernel, ⟨by decide, by decide, by decide +kernel⟩, by decide, by decide⟩, ⟨by decide +kernel, by decide +kernel⟩⟩
theorem k_X2_hasTwinAhead_53 : aCO M_X2_hasTwinAhead M_X2_told 53 yX2_told 558 66 546 2 ∧ (lw_tbl[544]? = some (.instanceMethod yX2_told) ∧ lw_tbl[545]? = some (.selects yX2_told.cls yX2_told yX2_told)) := ⟨⟨by decide +kernel, by decide +kernel, by decide +kernel, ⟨by decide, by decide, by decide +kernel⟩, by decide, by decide⟩, ⟨by decide +kernel, by decide +kernel⟩⟩
theorem k_X8_build_102 : aCO M_X8_build M_X2_hasTwinAhead 102 yX2_hasTwinAhead 702 66 705 1 ∧ (lw_tbl[703]? = some (.instanceMethod yX2_hasTwinAhead) ∧ lw_tbl[704]? = some (.selects yX2_hasTwinAhead.cls yX2_hasTwinAhead yX2_hasTwinAhead)) := ⟨⟨by decide +kernel, by decide +kernel, by decide +kernel, ⟨by decide, by decide, by decide +kernel⟩, by decide, by decide⟩, ⟨by decide +kernel, by decide +kernel⟩⟩
theorem k_X8_build_95 : aCO M_X8_build M_X2_outBy 95 yX2_outBy 701 66 562 1 ∧ (lw_tbl[560]? = some (.instanceMethod yX2_outBy) ∧ lw_tbl[561]? = some (.selects yX2_outBy.cls yX2_outBy yX2_outBy)) := ⟨⟨by decide +kernel, by decide +kernel, by decide +kernel, ⟨by decide, by decide, by decide +kernel⟩, by decide, by decide⟩, ⟨by decide +kernel, by decide +kernel⟩⟩
theorem k_X8_oddsAt_57 : aCO M_X8_oddsAt M_X2_told 57 yX2_told 655 66 546 2 ∧ (lw_tbl[544]? = some (.instanceMethod yX2_told) ∧ lw_tbl[545]? = some (.selects yX2_told.cls yX2_told yX2_told)) := ⟨⟨by decide +kernel, by decide +kernel, by decide +kernel, ⟨by decide, by decide, by decide +kernel⟩, by decide, by decide⟩, ⟨by decide +kernel, by decide +kernel⟩⟩
theorem k_X2_oddsOf_61 : aCO M_X2_oddsOf M_X6_at 61 yX6_at 576 74 406 2 ∧ lw_tbl[405]? = some (.static yX6_at) := ⟨⟨by decide +kernel, by decide +kernel, by decide +kernel, ⟨by decide, by decide, by decide +kernel⟩, by decide, by decide⟩, by decide +kernel⟩
theorem k_X8_oddsAt_119 : aCO M_X8_oddsAt M_X2_oddsOf 119 yX2_oddsOf 660 66 590 2 ∧ (lw_tbl[588]? = some (.instanceMethod yX2_oddsOf) ∧ lw_tbl[589]? = some (.selects yX2_oddsOf.cls yX2_oddsOf yX2_oddsOf)) := ⟨⟨by decide +kernel, by decide +kernel, by decide +kernel, ⟨by decide, by decide, by decide +kernel⟩, by decide, by decide⟩, ⟨by decide +kernel, by decide +kernel⟩⟩
theorem k_X8_build_73 : aCO M_X8_build M_X8_oddsAt 73 yX8_oddsAt 656 68 659 2 ∧ (lw_tbl[658]? = some (.instanceMethod yX8_oddsAt) ∧ lw_tbl[16]? = some (.selects yX8_oddsAt.cls yX8_oddsAt yX8_oddsAt)) := ⟨⟨by decide +kernel, by decide +kernel, by decide +kernel, ⟨by decide, by decide, by decide +kernel⟩, by decide, by decide⟩, ⟨by decide +kernel, by decide +kernel⟩⟩
theorem k_X8_build_98 : aCO M_X8_build M_X8_put 98 yX8_put 675 68 678 5 ∧ (lw_tbl[677]? = some (.instanceMethod yX8_put) ∧ lw_tbl[19]? = some (.selects yX8_put.cls yX8_put yX8_put)) := ⟨⟨by decide +kernel, by decide +kernel, by decide +kernel, ⟨by decide, by decide, by decide +kernel⟩, by decide, by decide⟩, ⟨by decide +kernel, by decide +kernel⟩⟩
theorem k_X8_build_57 : aCO M_X8_build M_X2_told 57 yX2_told 655 66 546 2 ∧ (lw_tbl[544]? = some (.instanceMethod yX2_told) ∧ lw_tbl[545]? = some (.selects yX2_told.cls yX2_told yX2_told)) := ⟨⟨by decide +kernel, by decide +kernel, by decide +kernel, ⟨by decide, by decide, by decide +kernel⟩, by decide, by decide⟩, ⟨by decide +kernel, by decide +kernel⟩⟩
theorem k_X8_build_83 : aCO M_X8_build M_X0_shorter 83 yX0_shorter 694 80 696 1 ∧ lw_tbl[695]? = some (.static yX0_shorter) := ⟨⟨by decide +kernel, by decide +kernel, by decide +kernel, ⟨by decide, by decide, by decide +kernel⟩, by decide, by decide⟩, by decide +kernel⟩
theorem k_X8_putSum_57 : aCO M_X8_putSum M_X2_told 57 yX2_told 655 66 546 2 ∧ (lw_tbl[544]? = some (.instanceMethod yX2_told) ∧ lw_tbl[545]? = some (.selects yX2_told.cls yX2_told yX2_told)) := ⟨⟨by decide +kernel, by decide +kernel, by decide +kernel, ⟨by decide, by decide, by decide +kernel⟩, by decide, by decide⟩, ⟨by decide +kernel, by decide +kernel⟩⟩
theorem k_X8_putSum_98 : aCO M_X8_putSum M_X8_put 98 yX8_put 675 68 678 5 ∧ (lw_tbl[677]? = some (.instanceMethod yX8_put) ∧ lw_tbl[19]? = some (.selects yX8_put.cls yX8_put yX8_put)) := ⟨⟨by decide +kernel, by decide +kernel, by decide +kernel, ⟨by decide, by decide, by decide +kernel⟩, by decide, by decide⟩, ⟨by decide +kernel, by decide +kernel⟩⟩
theorem k_X8_build_88 : aCO M_X8_build M_X8_putSum 88 yX8_putSum 671 68 674 4 ∧ (lw_tbl[673]? = some (.instanceMethod yX8_putSum) ∧ lw_tbl[18]? = some (.selects yX8_putSum.cls yX8_putSum yX8_putSum)) := ⟨⟨by decide +kernel, by decide +kernel, by decide +kernel, ⟨by decide, by decide, by decide +kernel⟩, by decide, by decide⟩, ⟨by decide +kernel, by decide +kernel⟩⟩
theorem k_X8_build_92 : aCO M_X8_build M_X0_longer 92 yX0_longer 697 80 699 1 ∧ lw_tbl[698]? = some (.static yX0_longer) := ⟨⟨by decide +kernel, by decide +kernel, by decide +kernel, ⟨by decide, by decide, by decide +kernel⟩, by decide, by decide⟩, by decide +kernel⟩
theorem k_X0_many_15 : aCO M_X0_many M_X6_at 15 yX6_at 638 74 406 2 ∧ lw_tbl[405]? = some (.static yX6_at) := ⟨⟨by decide +kernel, by decide +kernel, by decide +kernel, ⟨by decide, by decide, by decide +kernel⟩, by decide, by decide⟩, by decide +kernel⟩
theorem k_X8_putFigures_122 : aCO M_X8_putFigures M_X0_many 122 yX0_many 665 80 667 1 ∧ lw_tbl[666]? = some (.static yX0_many) := ⟨⟨by decide +kernel, by decide +kernel, by decide +kernel, ⟨by decide, by decide, by decide +kernel⟩, by decide, by decide⟩, by decide +kernel⟩
theorem k_X0_at_15 : aCO M_X0_at M_X6_at 15 yX6_at 638 74 406 2 ∧ lw_tbl[405]? = some (.static yX6_at) := ⟨⟨by decide +kernel, by decide +kernel, by decide +kernel, ⟨by decide, by decide, by decide +kernel⟩, by decide, by decide⟩, by decide +kernel⟩
theorem k_X8_putFigures_128 : aCO M_X8_putFigures M_X0_at 128 yX0_at 684 80 686 2 ∧ lw_tbl[685]? = some (.static yX0_at) := ⟨⟨by decide +kernel, by decide +kernel, by decide +kernel, ⟨by decide, by decide, by decide +kernel⟩, by decide, by decide⟩, by decide +kernel⟩
theorem k_X8_putFigures_130 : aCO M_X8_putFigures M_X0_tens 130 yX0_tens 687 80 689 1 ∧ lw_tbl[688]? = some (.static yX0_tens) := ⟨⟨by decide +kernel, by decide +kernel, by decide +kernel, ⟨by decide, by decide, by decide +kernel⟩, by decide, by decide⟩, by decide +kernel⟩
theorem k_X2_readOf_61 : aCO M_X2_readOf M_X6_at 61 yX6_at 576 74 406 2 ∧ lw_tbl[405]? = some (.static yX6_at) := ⟨⟨by decide +kernel, by decide +kernel, by decide +kernel, ⟨by decide, by decide, by decide +kernel⟩, by decide, by decide⟩, by decide +kernel⟩
theorem k_X8_putFigures_133 : aCO M_X8_putFigures M_X2_readOf 133 yX2_readOf 690 66 693 2 ∧ (lw_tbl[691]? = some (.instanceMethod yX2_readOf) ∧ lw_tbl[692]? = some (.selects yX2_readOf.cls yX2_readOf yX2_readOf)) := ⟨⟨by decide +kernel, by decide +kernel, by decide +kernel, ⟨by decide, by decide, by decide +kernel⟩, by decide, by decide⟩, ⟨by decide +kernel, by decide +kernel⟩⟩
theorem k_X8_putFigures_88 : aCO M_X8_putFigures M_X8_putSum 88 yX8_putSum 671 68 674 4 ∧ (lw_tbl[673]? = some (.instanceMethod yX8_putSum) ∧ lw_tbl[18]? = some (.selects yX8_putSum.cls yX8_putSum yX8_putSum)) := ⟨⟨by decide +kernel, by decide +kernel, by decide +kernel, ⟨by decide, by decide, by decide +kernel⟩, by decide, by decide⟩, ⟨by decide +kernel, by decide +kernel⟩⟩
theorem k_X8_build_80 : aCO M_X8_build M_X8_putFigures 80 yX8_putFigures 680 68 683 3 ∧ (lw_tbl[682]? = some (.instanceMethod yX8_putFigures) ∧ lw_tbl[20]? = some (.selects yX8_putFigures.cls yX8_putFigures yX8_putFigures)) := ⟨⟨by decide +kernel, by decide +kernel, by decide +kernel, ⟨by decide, by decide, by decide +kernel⟩, by decide, by decide⟩, ⟨by decide +kernel, by decide +kernel⟩⟩
theorem k_X8_putTurns_122 : aCO M_X8_putTurns M_X0_many 122 yX0_many 665 80 667 1 ∧ lw_tbl[666]? = some (.static yX0_many) := ⟨⟨by decide +kernel, by decide +kernel, by decide +kernel, ⟨by decide, by decide, by decide +kernel⟩, by decide, by decide⟩, by decide +kernel⟩
theorem k_X0_turned_15 : aCO M_X0_turned M_X6_at 15 yX6_at 638 74 406 2 ∧ lw_tbl[405]? = some (.static yX6_at) := ⟨⟨by decide +kernel, by decide +kernel, by decide +kernel, ⟨by decide, by decide, by decide +kernel⟩, by decide, by decide⟩, by decide +kernel⟩
theorem k_X8_putTurns_125 : aCO M_X8_putTurns M_X0_turned 125 yX0_turned 668 80 670 2 ∧ lw_tbl[669]? = some (.static yX0_turned) := ⟨⟨by decide +kernel, by decide +kernel, by decide +kernel, ⟨by decide, by decide, by decide +kernel⟩, by decide, by decide⟩, by decide +kernel⟩
theorem k_X8_putTurns_88 : aCO M_X8_putTurns M_X8_putSum 88 yX8_putSum 671 68 674 4 ∧ (lw_tbl[673]? = some (.instanceMethod yX8_putSum) ∧ lw_tbl[18]? = some (.selects yX8_putSum.cls yX8_putSum yX8_putSum)) := ⟨⟨by decide +kernel, by decide +kernel, by decide +kernel, ⟨by decide, by decide, by decide +kernel⟩, by decide, by decide⟩, ⟨by decide +kernel, by decide +kernel⟩⟩
theorem k_X8_build_76 : aCO M_X8_build M_X8_putTurns 76 yX8_putTurns 661 68 664 3 ∧ (lw_tbl[663]? = some (.instanceMethod yX8_putTurns) ∧ lw_tbl[17]? = some (.selects yX8_putTurns.cls yX8_putTurns yX8_putTurns)) := ⟨⟨by decide +kernel, by decide +kernel, by decide +kernel, ⟨by decide, by decide, by decide +kernel⟩, by decide, by decide⟩, ⟨by decide +kernel, by decide +kernel⟩⟩
theorem k_X10_workOut_256 : aCO M_X10_workOut M_X8_build 256 yX8_build 651 68 654 0 ∧ (lw_tbl[652]? = some (.instanceMethod yX8_build) ∧ lw_tbl[653]? = some (.selects yX8_build.cls yX8_build yX8_build)) := ⟨⟨by decide +kernel, by decide +kernel, by decide +kernel, ⟨by decide, by decide, by decide +kernel⟩, by decide, by decide⟩, ⟨by decide +kernel, by decide +kernel⟩⟩
theorem k_X7_build_44 : aCO M_X7_build M_X2_outOf 44 yX2_outOf 738 66 557 1 ∧ (lw_tbl[555]? = some (.instanceMethod yX2_outOf) ∧ lw_tbl[556]? = some (.selects yX2_outOf.cls yX2_outOf yX2_outOf)) := ⟨⟨by decide +kernel, by decide +kernel, by decide +kernel, ⟨by decide, by decide, by decide +kernel⟩, by decide, by decide⟩, ⟨by decide +kernel, by decide +kernel⟩⟩
theorem k_X7_build_57 : aCO M_X7_build M_X8_change 57 yX8_change 740 68 729 1 ∧ (lw_tbl[727]? = some (.instanceMethod yX8_change) ∧ lw_tbl[728]? = some (.selects yX8_change.cls yX8_change yX8_change)) := ⟨⟨by decide +kernel, by decide +kernel, by decide +kernel, ⟨by decide, by decide, by decide +kernel⟩, by decide, by decide⟩, ⟨by decide +kernel, by decide +kernel⟩⟩
theorem k_X7_build_50 : aCO M_X7_build M_X6_set 50 yX6_set 739 74 379 3 ∧ lw_tbl[378]? = some (.static yX6_set) := ⟨⟨by decide +kernel, by decide +kernel, by decide +kernel, ⟨by decide, by decide, by decide +kernel⟩, by decide, by decide⟩, by decide +kernel⟩
theorem k_X8_weight_37 : aCO M_X8_weight M_X6_at 37 yX6_at 730 74 406 2 ∧ lw_tbl[405]? = some (.static yX6_at) := ⟨⟨by decide +kernel, by decide +kernel, by decide +kernel, ⟨by decide, by decide, by decide +kernel⟩, by decide, by decide⟩, by decide +kernel⟩
theorem k_X7_build_64 : aCO M_X7_build M_X8_weight 64 yX8_weight 760 68 763 1 ∧ (lw_tbl[761]? = some (.instanceMethod yX8_weight) ∧ lw_tbl[762]? = some (.selects yX8_weight.cls yX8_weight yX8_weight)) := ⟨⟨by decide +kernel, by decide +kernel, by decide +kernel, ⟨by decide, by decide, by decide +kernel⟩, by decide, by decide⟩, ⟨by decide +kernel, by decide +kernel⟩⟩
theorem k_X8_kind_37 : aCO M_X8_kind M_X6_at 37 yX6_at 730 74 406 2 ∧ lw_tbl[405]? = some (.static yX6_at) := ⟨⟨by decide +kernel, by decide +kernel, by decide +kernel, ⟨by decide, by decide, by decide +kernel⟩, by decide, by decide⟩, by decide +kernel⟩
theorem k_X8_pageOf_43 : aCO M_X8_pageOf M_X8_kind 43 yX8_kind 749 68 752 1 ∧ (lw_tbl[750]? = some (.instanceMethod yX8_kind) ∧ lw_tbl[751]? = some (.selects yX8_kind.cls yX8_kind yX8_kind)) := ⟨⟨by decide +kernel, by decide +kernel, by decide +kernel, ⟨by decide, by decide, by decide +kernel⟩, by decide, by decide⟩, ⟨by decide +kernel, by decide +kernel⟩⟩
theorem k_X8_place_37 : aCO M_X8_place M_X6_at 37 yX6_at 730 74 406 2 ∧ lw_tbl[405]? = some (.static yX6_at) := ⟨⟨by decide +kernel, by decide +kernel, by decide +kernel, ⟨by decide, by decide, by decide +kernel⟩, by decide, by decide⟩, by decide +kernel⟩
theorem k_X8_pageOf_47 : aCO M_X8_pageOf M_X8_place 47 yX8_place 753 68 756 1 ∧ (lw_tbl[754]? = some (.instanceMethod yX8_place) ∧ lw_tbl[755]? = some (.selects yX8_place.cls yX8_place yX8_place)) := ⟨⟨by decide +kernel, by decide +kernel, by decide +kernel, ⟨by decide, by decide, by decide +kernel⟩, by decide, by decide⟩, ⟨by decide +kernel, by decide +kernel⟩⟩
theorem k_X8_pageOf_57 : aCO M_X8_pageOf M_X2_told 57 yX2_told 655 66 546 2 ∧ (lw_tbl[544]? = some (.instanceMethod yX2_told) ∧ lw_tbl[545]? = some (.selects yX2_told.cls yX2_told yX2_told)) := ⟨⟨by decide +kernel, by decide +kernel, by decide +kernel, ⟨by decide, by decide, by decide +kernel⟩, by decide, by decide⟩, ⟨by decide +kernel, by decide +kernel⟩⟩
theorem k_X7_leavesNoPageOff_80 : aCO M_X7_leavesNoPageOff M_X8_pageOf 80 yX8_pageOf 745 68 748 1 ∧ (lw_tbl[746]? = some (.instanceMethod yX8_pageOf) ∧ lw_tbl[747]? = some (.selects yX8_pageOf.cls yX8_pageOf yX8_pageOf)) := ⟨⟨by decide +kernel, by decide +kernel, by decide +kernel, ⟨by decide, by decide, by decide +kernel⟩, by decide, by decide⟩, ⟨by decide +kernel, by decide +kernel⟩⟩
theorem k_X7_leavesNoPageOff_83 : aCO M_X7_leavesNoPageOff M_X2_hasDue 83 yX2_hasDue 757 66 571 1 ∧ (lw_tbl[569]? = some (.instanceMethod yX2_hasDue) ∧ lw_tbl[570]? = some (.selects yX2_hasDue.cls yX2_hasDue yX2_hasDue)) := ⟨⟨by decide +kernel, by decide +kernel, by decide +kernel, ⟨by decide, by decide, by decide +kernel⟩, by decide, by decide⟩, ⟨by decide +kernel, by decide +kernel⟩⟩
theorem k_X7_leavesNoPageOff_30 : aCO M_X7_leavesNoPageOff M_X6_at 30 yX6_at 758 74 406 2 ∧ lw_tbl[405]? = some (.static yX6_at) := ⟨⟨by decide +kernel, by decide +kernel, by decide +kernel, ⟨by decide, by decide, by decide +kernel⟩, by decide, by decide⟩, by decide +kernel⟩
theorem k_X2_dueOf_61 : aCO M_X2_dueOf M_X6_at 61 yX6_at 576 74 406 2 ∧ lw_tbl[405]? = some (.static yX6_at) := ⟨⟨by decide +kernel, by decide +kernel, by decide +kernel, ⟨by decide, by decide, by decide +kernel⟩, by decide, by decide⟩, by decide +kernel⟩
theorem k_X7_leavesNoPageOff_86 : aCO M_X7_leavesNoPageOff M_X2_dueOf 86 yX2_dueOf 759 66 575 1 ∧ (lw_tbl[573]? = some (.instanceMethod yX2_dueOf) ∧ lw_tbl[574]? = some (.selects yX2_dueOf.cls yX2_dueOf yX2_dueOf)) := ⟨⟨by decide +kernel, by decide +kernel, by decide +kernel, ⟨by decide, by decide, by decide +kernel⟩, by decide, by decide⟩, ⟨by decide +kernel, by decide +kernel⟩⟩
theorem k_X7_leavesNoPageOff_57 : aCO M_X7_leavesNoPageOff M_X8_change 57 yX8_change 740 68 729 1 ∧ (lw_tbl[727]? = some (.instanceMethod yX8_change) ∧ lw_tbl[728]? = some (.selects yX8_change.cls yX8_change yX8_change)) := ⟨⟨by decide +kernel, by decide +kernel, by decide +kernel, ⟨by decide, by decide, by decide +kernel⟩, by decide, by decide⟩, ⟨by decide +kernel, by decide +kernel⟩⟩
theorem k_X7_build_60 : aCO M_X7_build M_X7_leavesNoPageOff 60 yX7_leavesNoPageOff 741 69 744 1 ∧ (lw_tbl[743]? = some (.instanceMethod yX7_leavesNoPageOff) ∧ lw_tbl[24]? = some (.selects yX7_leavesNoPageOff.cls yX7_leavesNoPageOff yX7_leavesNoPageOff)) := ⟨⟨by decide +kernel, by decide +kernel, by decide +kernel, ⟨by decide, by decide, by decide +kernel⟩, by decide, by decide⟩, ⟨by decide +kernel, by decide +kernel⟩⟩
theorem k_X10_workOut_259 : aCO M_X10_workOut M_X7_build 259 yX7_build 734 69 737 0 ∧ (lw_tbl[735]? = some (.instanceMethod yX7_build) ∧ lw_tbl[736]? = some (.selects yX7_build.cls yX7_build yX7_build)) := ⟨⟨by decide +kernel, by decide +kernel, by decide +kernel, ⟨by decide, by decide, by decide +kernel⟩, by decide, by decide⟩, ⟨by decide +kernel, by decide +kernel⟩⟩
theorem k_X10_workOut_110 : aCO M_X10_workOut M_X2_outOf 110 yX2_outOf 554 66 557 1 ∧ (lw_tbl[555]? = some (.instanceMethod yX2_outOf) ∧ lw_tbl[556]? = some (.selects yX2_outOf.cls yX2_outOf yX2_outOf)) := ⟨⟨by decide +kernel, by decide +kernel, by decide +kernel, ⟨by decide, by decide, by decide +kernel⟩, by decide, by decide⟩, ⟨by decide +kernel, by decide +kernel⟩⟩
theorem k_X5_find_31 : aCO M_X5_find M_X8_kind 31 yX8_kind 768 68 752 1 ∧ (lw_tbl[750]? = some (.instanceMethod yX8_kind) ∧ lw_tbl[751]? = some (.selects yX8_kind.cls yX8_kind yX8_kind)) := ⟨⟨by decide +kernel, by decide +kernel, by decide +kernel, ⟨by decide, by decide, by decide +kernel⟩, by decide, by decide⟩, ⟨by decide +kernel, by decide +kernel⟩⟩
theorem k_X5_find_35 : aCO M_X5_find M_X8_change 35 yX8_change 769 68 729 1 ∧ (lw_tbl[727]? = some (.instanceMethod yX8_change) ∧ lw_tbl[728]? = some (.selects yX8_change.cls yX8_change yX8_change)) := ⟨⟨by decide +kernel, by decide +kernel, by decide +kernel, ⟨by decide, by decide, by decide +kernel⟩, by decide, by decide⟩, ⟨by decide +kernel, by decide +kernel⟩⟩
theorem k_X8_chainOf_63 : aCO M_X8_chainOf M_J9_floorMod_7cf53 63 yJ9_floorMod_7cf53 731 79 733 2 ∧ lw_tbl[732]? = some (.static yJ9_floorMod_7cf53) := ⟨⟨by decide +kernel, by decide +kernel, by decide +kernel, ⟨by decide, by decide, by decide +kernel⟩, by decide, by decide⟩, by decide +kernel⟩
theorem k_X8_chainOf_37 : aCO M_X8_chainOf M_X6_at 37 yX6_at 730 74 406 2 ∧ lw_tbl[405]? = some (.static yX6_at) := ⟨⟨by decide +kernel, by decide +kernel, by decide +kernel, ⟨by decide, by decide, by decide +kernel⟩, by decide, by decide⟩, by decide +kernel⟩
theorem k_X5_findWith_42 : aCO M_X5_findWith M_X8_chainOf 42 yX8_chainOf 774 68 777 1 ∧ (lw_tbl[775]? = some (.instanceMethod yX8_chainOf) ∧ lw_tbl[776]? = some (.selects yX8_chainOf.cls yX8_chainOf yX8_chainOf)) := ⟨⟨by decide +kernel, by decide +kernel, by decide +kernel, ⟨by decide, by decide, by decide +kernel⟩, by decide, by decide⟩, ⟨by decide +kernel, by decide +kernel⟩⟩
theorem k_X8_nextInChain_37 : aCO M_X8_nextInChain M_X6_at 37 yX6_at 730 74 406 2 ∧ lw_tbl[405]? = some (.static yX6_at) := ⟨⟨by decide +kernel, by decide +kernel, by decide +kernel, ⟨by decide, by decide, by decide +kernel⟩, by decide, by decide⟩, by decide +kernel⟩
theorem k_X5_findWith_52 : aCO M_X5_findWith M_X8_nextInChain 52 yX8_nextInChain 787 68 790 1 ∧ (lw_tbl[788]? = some (.instanceMethod yX8_nextInChain) ∧ lw_tbl[789]? = some (.selects yX8_nextInChain.cls yX8_nextInChain yX8_nextInChain)) := ⟨⟨by decide +kernel, by decide +kernel, by decide +kernel, ⟨by decide, by decide, by decide +kernel⟩, by decide, by decide⟩, ⟨by decide +kernel, by decide +kernel⟩⟩
theorem k_X5_findWith_35 : aCO M_X5_findWith M_X8_change 35 yX8_change 769 68 729 1 ∧ (lw_tbl[727]? = some (.instanceMethod yX8_change) ∧ lw_tbl[728]? = some (.selects yX8_change.cls yX8_change yX8_change)) := ⟨⟨by decide +kernel, by decide +kernel, by decide +kernel, ⟨by decide, by decide, by decide +kernel⟩, by decide, by decide⟩, ⟨by decide +kernel, by decide +kernel⟩⟩
theorem k_X5_findWith_31 : aCO M_X5_findWith M_X8_kind 31 yX8_kind 768 68 752 1 ∧ (lw_tbl[750]? = some (.instanceMethod yX8_kind) ∧ lw_tbl[751]? = some (.selects yX8_kind.cls yX8_kind yX8_kind)) := ⟨⟨by decide +kernel, by decide +kernel, by decide +kernel, ⟨by decide, by decide, by decide +kernel⟩, by decide, by decide⟩, ⟨by decide +kernel, by decide +kernel⟩⟩
theorem k_X8_standApart_43 : aCO M_X8_standApart M_X8_kind 43 yX8_kind 749 68 752 1 ∧ (lw_tbl[750]? = some (.instanceMethod yX8_kind) ∧ lw_tbl[751]? = some (.selects yX8_kind.cls yX8_kind yX8_kind)) := ⟨⟨by decide +kernel, by decide +kernel, by decide +kernel, ⟨by decide, by decide, by decide +kernel⟩, by decide, by decide⟩, ⟨by decide +kernel, by decide +kernel⟩⟩
theorem k_X8_standApart_47 : aCO M_X8_standApart M_X8_place 47 yX8_place 753 68 756 1 ∧ (lw_tbl[754]? = some (.instanceMethod yX8_place) ∧ lw_tbl[755]? = some (.selects yX8_place.cls yX8_place yX8_place)) := ⟨⟨by decide +kernel, by decide +kernel, by decide +kernel, ⟨by decide, by decide, by decide +kernel⟩, by decide, by decide⟩, ⟨by decide +kernel, by decide +kernel⟩⟩
theorem k_X5_findWith_45 : aCO M_X5_findWith M_X8_standApart 45 yX8_standApart 778 68 781 2 ∧ (lw_tbl[779]? = some (.instanceMethod yX8_standApart) ∧ lw_tbl[780]? = some (.selects yX8_standApart.cls yX8_standApart yX8_standApart)) := ⟨⟨by decide +kernel, by decide +kernel, by decide +kernel, ⟨by decide, by decide, by decide +kernel⟩, by decide, by decide⟩, ⟨by decide +kernel, by decide +kernel⟩⟩
theorem k_X5_take_55 : aCO M_X5_take M_X8_weight 55 yX8_weight 786 68 763 1 ∧ (lw_tbl[761]? = some (.instanceMethod yX8_weight) ∧ lw_tbl[762]? = some (.selects yX8_weight.cls yX8_weight yX8_weight)) := ⟨⟨by decide +kernel, by decide +kernel, by decide +kernel, ⟨by decide, by decide, by decide +kernel⟩, by decide, by decide⟩, ⟨by decide +kernel, by decide +kernel⟩⟩
theorem k_X5_findWith_49 : aCO M_X5_findWith M_X5_take 49 yX5_take 782 70 785 2 ∧ (lw_tbl[784]? = some (.instanceMethod yX5_take) ∧ lw_tbl[26]? = some (.selects yX5_take.cls yX5_take yX5_take)) := ⟨⟨by decide +kernel, by decide +kernel, by decide +kernel, ⟨by decide, by decide, by decide +kernel⟩, by decide, by decide⟩, ⟨by decide +kernel, by decide +kernel⟩⟩
theorem k_X5_find_38 : aCO M_X5_find M_X5_findWith 38 yX5_findWith 770 70 773 2 ∧ (lw_tbl[772]? = some (.instanceMethod yX5_findWith) ∧ lw_tbl[25]? = some (.selects yX5_findWith.cls yX5_findWith yX5_findWith)) := ⟨⟨by decide +kernel, by decide +kernel, by decide +kernel, ⟨by decide, by decide, by decide +kernel⟩, by decide, by decide⟩, ⟨by decide +kernel, by decide +kernel⟩⟩
theorem k_X10_workOut_260 : aCO M_X10_workOut M_X5_find 260 yX5_find 764 70 767 1 ∧ (lw_tbl[765]? = some (.instanceMethod yX5_find) ∧ lw_tbl[766]? = some (.selects yX5_find.cls yX5_find yX5_find)) := ⟨⟨by decide +kernel, by decide +kernel, by decide +kernel, ⟨by decide, by decide, by decide +kernel⟩, by decide, by decide⟩, ⟨by decide +kernel, by decide +kernel⟩⟩
theorem k_X3_build_43 : aCO M_X3_build M_J7_fill_53178 43 yJ7_fill_53178 795 67 136 2 ∧ lw_tbl[135]? = some (.static yJ7_fill_53178) := ⟨⟨by decide +kernel, by decide +kernel, by decide +kernel, ⟨by decide, by decide, by decide +kernel⟩, by decide, by decide⟩, by decide +kernel⟩
theorem k_X3_entryAt_33 : aCO M_X3_entryAt M_X6_at 33 yX6_at 802 74 406 2 ∧ lw_tbl[405]? = some (.static yX6_at) := ⟨⟨by decide +kernel, by decide +kernel, by decide +kernel, ⟨by decide, by decide, by decide +kernel⟩, by decide, by decide⟩, by decide +kernel⟩
theorem k_X3_sumUp_101 : aCO M_X3_sumUp M_X3_entryAt 101 yX3_entryAt 819 71 822 1 ∧ (lw_tbl[820]? = some (.instanceMethod yX3_entryAt) ∧ lw_tbl[821]? = some (.selects yX3_entryAt.cls yX3_entryAt yX3_entryAt)) := ⟨⟨by decide +kernel, by decide +kernel, by decide +kernel, ⟨by decide, by decide, by decide +kernel⟩, by decide, by decide⟩, ⟨by decide +kernel, by decide +kernel⟩⟩
theorem k_X3_sumUp_33 : aCO M_X3_sumUp M_X6_at 33 yX6_at 802 74 406 2 ∧ lw_tbl[405]? = some (.static yX6_at) := ⟨⟨by decide +kernel, by decide +kernel, by decide +kernel, ⟨by decide, by decide, by decide +kernel⟩, by decide, by decide⟩, by decide +kernel⟩
theorem k_X3_build_87 : aCO M_X3_build M_X3_sumUp 87 yX3_sumUp 815 71 818 0 ∧ (lw_tbl[817]? = some (.instanceMethod yX3_sumUp) ∧ lw_tbl[29]? = some (.selects yX3_sumUp.cls yX3_sumUp yX3_sumUp)) := ⟨⟨by decide +kernel, by decide +kernel, by decide +kernel, ⟨by decide, by decide, by decide +kernel⟩, by decide, by decide⟩, ⟨by decide +kernel, by decide +kernel⟩⟩
theorem k_X3_build_74 : aCO M_X3_build M_X2_told 74 yX2_told 805 66 546 2 ∧ (lw_tbl[544]? = some (.instanceMethod yX2_told) ∧ lw_tbl[545]? = some (.selects yX2_told.cls yX2_told yX2_told)) := ⟨⟨by decide +kernel, by decide +kernel, by decide +kernel, ⟨by decide, by decide, by decide +kernel⟩, by decide, by decide⟩, ⟨by decide +kernel, by decide +kernel⟩⟩
theorem k_X3_build_78 : aCO M_X3_build M_X0_many 78 yX0_many 806 80 667 1 ∧ lw_tbl[666]? = some (.static yX0_many) := ⟨⟨by decide +kernel, by decide +kernel, by decide +kernel, ⟨by decide, by decide, by decide +kernel⟩, by decide, by decide⟩, by decide +kernel⟩
theorem k_X3_build_67 : aCO M_X3_build M_X6_set 67 yX6_set 804 74 379 3 ∧ lw_tbl[378]? = some (.static yX6_set) := ⟨⟨by decide +kernel, by decide +kernel, by decide +kernel, ⟨by decide, by decide, by decide +kernel⟩, by decide, by decide⟩, by decide +kernel⟩
theorem k_X3_build_33 : aCO M_X3_build M_X6_at 33 yX6_at 802 74 406 2 ∧ lw_tbl[405]? = some (.static yX6_at) := ⟨⟨by decide +kernel, by decide +kernel, by decide +kernel, ⟨by decide, by decide, by decide +kernel⟩, by decide, by decide⟩, by decide +kernel⟩
theorem k_X3_insert_67 : aCO M_X3_insert M_X6_set 67 yX6_set 804 74 379 3 ∧ lw_tbl[378]? = some (.static yX6_set) := ⟨⟨by decide +kernel, by decide +kernel, by decide +kernel, ⟨by decide, by decide, by decide +kernel⟩, by decide, by decide⟩, by decide +kernel⟩
theorem k_X3_insert_33 : aCO M_X3_insert M_X6_at 33 yX6_at 802 74 406 2 ∧ lw_tbl[405]? = some (.static yX6_at) := ⟨⟨by decide +kernel, by decide +kernel, by decide +kernel, ⟨by decide, by decide, by decide +kernel⟩, by decide, by decide⟩, by decide +kernel⟩
theorem k_X3_isSooner_33 : aCO M_X3_isSooner M_X6_at 33 yX6_at 802 74 406 2 ∧ lw_tbl[405]? = some (.static yX6_at) := ⟨⟨by decide +kernel, by decide +kernel, by decide +kernel, ⟨by decide, by decide, by decide +kernel⟩, by decide, by decide⟩, by decide +kernel⟩
theorem k_X3_insert_90 : aCO M_X3_insert M_X3_isSooner 90 yX3_isSooner 811 71 814 2 ∧ (lw_tbl[813]? = some (.instanceMethod yX3_isSooner) ∧ lw_tbl[28]? = some (.selects yX3_isSooner.cls yX3_isSooner yX3_isSooner)) := ⟨⟨by decide +kernel, by decide +kernel, by decide +kernel, ⟨by decide, by decide, by decide +kernel⟩, by decide, by decide⟩, ⟨by decide +kernel, by decide +kernel⟩⟩
theorem k_X3_build_83 : aCO M_X3_build M_X3_insert 83 yX3_insert 807 71 810 1 ∧ (lw_tbl[809]? = some (.instanceMethod yX3_insert) ∧ lw_tbl[27]? = some (.selects yX3_insert.cls yX3_insert yX3_insert)) := ⟨⟨by decide +kernel, by decide +kernel, by decide +kernel, ⟨by decide, by decide, by decide +kernel⟩, by decide, by decide⟩, ⟨by decide +kernel, by decide +kernel⟩⟩
theorem k_X7_slip_30 : aCO M_X7_slip M_X6_at 30 yX6_at 758 74 406 2 ∧ lw_tbl[405]? = some (.static yX6_at) := ⟨⟨by decide +kernel, by decide +kernel, by decide +kernel, ⟨by decide, by decide, by decide +kernel⟩, by decide, by decide⟩, by decide +kernel⟩
theorem k_X3_build_52 : aCO M_X3_build M_X7_slip 52 yX7_slip 796 69 799 1 ∧ (lw_tbl[797]? = some (.instanceMethod yX7_slip) ∧ lw_tbl[798]? = some (.selects yX7_slip.cls yX7_slip yX7_slip)) := ⟨⟨by decide +kernel, by decide +kernel, by decide +kernel, ⟨by decide, by decide, by decide +kernel⟩, by decide, by decide⟩, ⟨by decide +kernel, by decide +kernel⟩⟩
theorem k_X3_build_56 : aCO M_X3_build M_X8_kind 56 yX8_kind 800 68 752 1 ∧ (lw_tbl[750]? = some (.instanceMethod yX8_kind) ∧ lw_tbl[751]? = some (.selects yX8_kind.cls yX8_kind yX8_kind)) := ⟨⟨by decide +kernel, by decide +kernel, by decide +kernel, ⟨by decide, by decide, by decide +kernel⟩, by decide, by decide⟩, ⟨by decide +kernel, by decide +kernel⟩⟩
theorem k_X3_build_61 : aCO M_X3_build M_X8_place 61 yX8_place 801 68 756 1 ∧ (lw_tbl[754]? = some (.instanceMethod yX8_place) ∧ lw_tbl[755]? = some (.selects yX8_place.cls yX8_place yX8_place)) := ⟨⟨by decide +kernel, by decide +kernel, by decide +kernel, ⟨by decide, by decide, by decide +kernel⟩, by decide, by decide⟩, ⟨by decide +kernel, by decide +kernel⟩⟩
theorem k_X3_build_64 : aCO M_X3_build M_X8_weight 64 yX8_weight 803 68 763 1 ∧ (lw_tbl[761]? = some (.instanceMethod yX8_weight) ∧ lw_tbl[762]? = some (.selects yX8_weight.cls yX8_weight yX8_weight)) := ⟨⟨by decide +kernel, by decide +kernel, by decide +kernel, ⟨by decide, by decide, by decide +kernel⟩, by decide, by decide⟩, ⟨by decide +kernel, by decide +kernel⟩⟩
theorem k_X10_workOut_263 : aCO M_X10_workOut M_X3_build 263 yX3_build 791 71 794 0 ∧ (lw_tbl[792]? = some (.instanceMethod yX3_build) ∧ lw_tbl[793]? = some (.selects yX3_build.cls yX3_build yX3_build)) := ⟨⟨by decide +kernel, by decide +kernel, by decide +kernel, ⟨by decide, by decide, by decide +kernel⟩, by decide, by decide⟩, ⟨by decide +kernel, by decide +kernel⟩⟩
theorem k_X10_chance_169 : aCO M_X10_chance M_X10_workOut 169 yX10_workOut 647 64 650 0 ∧ (lw_tbl[649]? = some (.instanceMethod yX10_workOut) ∧ lw_tbl[15]? = some (.selects yX10_workOut.cls yX10_workOut yX10_workOut)) := ⟨⟨by decide +kernel, by decide +kernel, by decide +kernel, ⟨by decide, by decide, by decide +kernel⟩, by decide, by decide⟩, ⟨by decide +kernel, by decide +kernel⟩⟩
theorem k_X10_chance_197 : aCO M_X10_chance M_X10_isPart 197 yX10_isPart 858 64 860 1 ∧ lw_tbl[859]? = some (.static yX10_isPart) := ⟨⟨by decide +kernel, by decide +kernel, by decide +kernel, ⟨by decide, by decide, by decide +kernel⟩, by decide, by decide⟩, by decide +kernel⟩
theorem k_X10_chance_173 : aCO M_X10_chance M_X7_slip 173 yX7_slip 823 69 799 1 ∧ (lw_tbl[797]? = some (.instanceMethod yX7_slip) ∧ lw_tbl[798]? = some (.selects yX7_slip.cls yX7_slip yX7_slip)) := ⟨⟨by decide +kernel, by decide +kernel, by decide +kernel, ⟨by decide, by decide, by decide +kernel⟩, by decide, by decide⟩, ⟨by decide +kernel, by decide +kernel⟩⟩
theorem k_X10_chance_204 : aCO M_X10_chance M_X8_weight 204 yX8_weight 862 68 763 1 ∧ (lw_tbl[761]? = some (.instanceMethod yX8_weight) ∧ lw_tbl[762]? = some (.selects yX8_weight.cls yX8_weight yX8_weight)) := ⟨⟨by decide +kernel, by decide +kernel, by decide +kernel, ⟨by decide, by decide, by decide +kernel⟩, by decide, by decide⟩, ⟨by decide +kernel, by decide +kernel⟩⟩
theorem k_X1_lowest_7 : aCO M_X1_lowest M_X1_greatestDivisor 7 yX1_greatestDivisor 866 81 868 2 ∧ lw_tbl[867]? = some (.static yX1_greatestDivisor) := ⟨⟨by decide +kernel, by decide +kernel, by decide +kernel, ⟨by decide, by decide, by decide +kernel⟩, by decide, by decide⟩, by decide +kernel⟩
theorem k_X10_chance_207 : aCO M_X10_chance M_X1_lowest 207 yX1_lowest 863 81 865 3 ∧ lw_tbl[864]? = some (.static yX1_lowest) := ⟨⟨by decide +kernel, by decide +kernel, by decide +kernel, ⟨by decide, by decide, by decide +kernel⟩, by decide, by decide⟩, by decide +kernel⟩
theorem k_X10_entry_99 : aCO M_X10_entry M_X2_holds 99 yX2_holds 539 66 542 1 ∧ (lw_tbl[540]? = some (.instanceMethod yX2_holds) ∧ lw_tbl[541]? = some (.selects yX2_holds.cls yX2_holds yX2_holds)) := ⟨⟨by decide +kernel, by decide +kernel, by decide +kernel, ⟨by decide, by decide, by decide +kernel⟩, by decide, by decide⟩, ⟨by decide +kernel, by decide +kernel⟩⟩
theorem k_X10_entry_103 : aCO M_X10_entry M_X2_told 103 yX2_told 543 66 546 2 ∧ (lw_tbl[544]? = some (.instanceMethod yX2_told) ∧ lw_tbl[545]? = some (.selects yX2_told.cls yX2_told yX2_told)) := ⟨⟨by decide +kernel, by decide +kernel, by decide +kernel, ⟨by decide, by decide, by decide +kernel⟩, by decide, by decide⟩, ⟨by decide +kernel, by decide +kernel⟩⟩
theorem k_X10_fault_88 : aCO M_X10_fault M_X9_read 88 yX9_read 388 65 391 0 ∧ (lw_tbl[389]? = some (.instanceMethod yX9_read) ∧ lw_tbl[390]? = some (.selects yX9_read.cls yX9_read yX9_read)) := ⟨⟨by decide +kernel, by decide +kernel, by decide +kernel, ⟨by decide, by decide, by decide +kernel⟩, by decide, by decide⟩, ⟨by decide +kernel, by decide +kernel⟩⟩
theorem k_X10_hide_169 : aCO M_X10_hide M_X10_workOut 169 yX10_workOut 647 64 650 0 ∧ (lw_tbl[649]? = some (.instanceMethod yX10_workOut) ∧ lw_tbl[15]? = some (.selects yX10_workOut.cls yX10_workOut yX10_workOut)) := ⟨⟨by decide +kernel, by decide +kernel, by decide +kernel, ⟨by decide, by decide, by decide +kernel⟩, by decide, by decide⟩, ⟨by decide +kernel, by decide +kernel⟩⟩
theorem k_X10_judge_99 : aCO M_X10_judge M_X2_holds 99 yX2_holds 539 66 542 1 ∧ (lw_tbl[540]? = some (.instanceMethod yX2_holds) ∧ lw_tbl[541]? = some (.selects yX2_holds.cls yX2_holds yX2_holds)) := ⟨⟨by decide +kernel, by decide +kernel, by decide +kernel, ⟨by decide, by decide, by decide +kernel⟩, by decide, by decide⟩, ⟨by decide +kernel, by decide +kernel⟩⟩
theorem k_X10_judge_139 : aCO M_X10_judge M_X10_isSide 139 yX10_isSide 603 64 605 1 ∧ lw_tbl[604]? = some (.static yX10_isSide) := ⟨⟨by decide +kernel, by decide +kernel, by decide +kernel, ⟨by decide, by decide, by decide +kernel⟩, by decide, by decide⟩, by decide +kernel⟩
theorem k_X10_judge_103 : aCO M_X10_judge M_X2_told 103 yX2_told 543 66 546 2 ∧ (lw_tbl[544]? = some (.instanceMethod yX2_told) ∧ lw_tbl[545]? = some (.selects yX2_told.cls yX2_told yX2_told)) := ⟨⟨by decide +kernel, by decide +kernel, by decide +kernel, ⟨by decide, by decide, by decide +kernel⟩, by decide, by decide⟩, ⟨by decide +kernel, by decide +kernel⟩⟩
theorem k_X0_isTurn_36 : aCO M_X0_isTurn M_X0_many 36 yX0_many 899 80 667 1 ∧ lw_tbl[666]? = some (.static yX0_many) := ⟨⟨by decide +kernel, by decide +kernel, by decide +kernel, ⟨by decide, by decide, by decide +kernel⟩, by decide, by decide⟩, by decide +kernel⟩
theorem k_X0_isTurn_39 : aCO M_X0_isTurn M_X0_turned 39 yX0_turned 900 80 670 2 ∧ lw_tbl[669]? = some (.static yX0_turned) := ⟨⟨by decide +kernel, by decide +kernel, by decide +kernel, ⟨by decide, by decide, by decide +kernel⟩, by decide, by decide⟩, by decide +kernel⟩
theorem k_X0_kindBetween_22 : aCO M_X0_kindBetween M_X0_isTurn 22 yX0_isTurn 896 80 898 2 ∧ lw_tbl[897]? = some (.static yX0_isTurn) := ⟨⟨by decide +kernel, by decide +kernel, by decide +kernel, ⟨by decide, by decide, by decide +kernel⟩, by decide, by decide⟩, by decide +kernel⟩
theorem k_X0_isOneFigure_36 : aCO M_X0_isOneFigure M_X0_many 36 yX0_many 899 80 667 1 ∧ lw_tbl[666]? = some (.static yX0_many) := ⟨⟨by decide +kernel, by decide +kernel, by decide +kernel, ⟨by decide, by decide, by decide +kernel⟩, by decide, by decide⟩, by decide +kernel⟩
theorem k_X0_isOneFigure_43 : aCO M_X0_isOneFigure M_X0_at 43 yX0_at 904 80 686 2 ∧ lw_tbl[685]? = some (.static yX0_at) := ⟨⟨by decide +kernel, by decide +kernel, by decide +kernel, ⟨by decide, by decide, by decide +kernel⟩, by decide, by decide⟩, by decide +kernel⟩
theorem k_X0_kindBetween_26 : aCO M_X0_kindBetween M_X0_isOneFigure 26 yX0_isOneFigure 901 80 903 2 ∧ lw_tbl[902]? = some (.static yX0_isOneFigure) := ⟨⟨by decide +kernel, by decide +kernel, by decide +kernel, ⟨by decide, by decide, by decide +kernel⟩, by decide, by decide⟩, by decide +kernel⟩
theorem k_X0_kindBetween_29 : aCO M_X0_kindBetween M_X0_shorter 29 yX0_shorter 905 80 696 1 ∧ lw_tbl[695]? = some (.static yX0_shorter) := ⟨⟨by decide +kernel, by decide +kernel, by decide +kernel, ⟨by decide, by decide, by decide +kernel⟩, by decide, by decide⟩, by decide +kernel⟩
theorem k_X0_kindBetween_33 : aCO M_X0_kindBetween M_X0_longer 33 yX0_longer 906 80 699 1 ∧ lw_tbl[698]? = some (.static yX0_longer) := ⟨⟨by decide +kernel, by decide +kernel, by decide +kernel, ⟨by decide, by decide, by decide +kernel⟩, by decide, by decide⟩, by decide +kernel⟩
theorem k_X10_judge_230 : aCO M_X10_judge M_X0_kindBetween 230 yX0_kindBetween 893 80 895 2 ∧ lw_tbl[894]? = some (.static yX0_kindBetween) := ⟨⟨by decide +kernel, by decide +kernel, by decide +kernel, ⟨by decide, by decide, by decide +kernel⟩, by decide, by decide⟩, by decide +kernel⟩
theorem k_X10_judge_227 : aCO M_X10_judge M_X2_hasTwinAhead 227 yX2_hasTwinAhead 892 66 705 1 ∧ (lw_tbl[703]? = some (.instanceMethod yX2_hasTwinAhead) ∧ lw_tbl[704]? = some (.selects yX2_hasTwinAhead.cls yX2_hasTwinAhead yX2_hasTwinAhead)) := ⟨⟨by decide +kernel, by decide +kernel, by decide +kernel, ⟨by decide, by decide, by decide +kernel⟩, by decide, by decide⟩, ⟨by decide +kernel, by decide +kernel⟩⟩
theorem k_X10_judge_142 : aCO M_X10_judge M_X10_isSum 142 yX10_isSum 606 64 608 1 ∧ lw_tbl[607]? = some (.static yX10_isSum) := ⟨⟨by decide +kernel, by decide +kernel, by decide +kernel, ⟨by decide, by decide, by decide +kernel⟩, by decide, by decide⟩, by decide +kernel⟩
theorem k_X10_learn_121 : aCO M_X10_learn M_X10_isHand 121 yX10_isHand 581 64 583 1 ∧ lw_tbl[582]? = some (.static yX10_isHand) := ⟨⟨by decide +kernel, by decide +kernel, by decide +kernel, ⟨by decide, by decide, by decide +kernel⟩, by decide, by decide⟩, by decide +kernel⟩
theorem k_X10_learn_124 : aCO M_X10_learn M_X10_isEntryKind 124 yX10_isEntryKind 584 64 586 1 ∧ lw_tbl[585]? = some (.static yX10_isEntryKind) := ⟨⟨by decide +kernel, by decide +kernel, by decide +kernel, ⟨by decide, by decide, by decide +kernel⟩, by decide, by decide⟩, by decide +kernel⟩
theorem k_X10_learn_127 : aCO M_X10_learn M_X2_oddsOf 127 yX2_oddsOf 587 66 590 2 ∧ (lw_tbl[588]? = some (.instanceMethod yX2_oddsOf) ∧ lw_tbl[589]? = some (.selects yX2_oddsOf.cls yX2_oddsOf yX2_oddsOf)) := ⟨⟨by decide +kernel, by decide +kernel, by decide +kernel, ⟨by decide, by decide, by decide +kernel⟩, by decide, by decide⟩, ⟨by decide +kernel, by decide +kernel⟩⟩
theorem k_X10_learn_130 : aCO M_X10_learn M_J9_min_7cf53 130 yJ9_min_7cf53 595 79 597 2 ∧ lw_tbl[596]? = some (.static yJ9_min_7cf53) := ⟨⟨by decide +kernel, by decide +kernel, by decide +kernel, ⟨by decide, by decide, by decide +kernel⟩, by decide, by decide⟩, by decide +kernel⟩
theorem k_X10_learn_135 : aCO M_X10_learn M_X2_setOdds 135 yX2_setOdds 598 66 530 3 ∧ (lw_tbl[528]? = some (.instanceMethod yX2_setOdds) ∧ lw_tbl[529]? = some (.selects yX2_setOdds.cls yX2_setOdds yX2_setOdds)) := ⟨⟨by decide +kernel, by decide +kernel, by decide +kernel, ⟨by decide, by decide, by decide +kernel⟩, by decide, by decide⟩, ⟨by decide +kernel, by decide +kernel⟩⟩
theorem k_X10_look_169 : aCO M_X10_look M_X10_workOut 169 yX10_workOut 647 64 650 0 ∧ (lw_tbl[649]? = some (.instanceMethod yX10_workOut) ∧ lw_tbl[15]? = some (.selects yX10_workOut.cls yX10_workOut yX10_workOut)) := ⟨⟨by decide +kernel, by decide +kernel, by decide +kernel, ⟨by decide, by decide, by decide +kernel⟩, by decide, by decide⟩, ⟨by decide +kernel, by decide +kernel⟩⟩
theorem k_X10_look_218 : aCO M_X10_look M_X3_entryAt 218 yX3_entryAt 883 71 822 1 ∧ (lw_tbl[820]? = some (.instanceMethod yX3_entryAt) ∧ lw_tbl[821]? = some (.selects yX3_entryAt.cls yX3_entryAt yX3_entryAt)) := ⟨⟨by decide +kernel, by decide +kernel, by decide +kernel, ⟨by decide, by decide, by decide +kernel⟩, by decide, by decide⟩, ⟨by decide +kernel, by decide +kernel⟩⟩
theorem k_X4_findLeastCosts_29 : aCO M_X4_findLeastCosts M_X6_set 29 yX6_set 915 74 379 3 ∧ lw_tbl[378]? = some (.static yX6_set) := ⟨⟨by decide +kernel, by decide +kernel, by decide +kernel, ⟨by decide, by decide, by decide +kernel⟩, by decide, by decide⟩, by decide +kernel⟩
theorem k_X4_findLeastCosts_39 : aCO M_X4_findLeastCosts M_X2_told 39 yX2_told 924 66 546 2 ∧ (lw_tbl[544]? = some (.instanceMethod yX2_told) ∧ lw_tbl[545]? = some (.selects yX2_told.cls yX2_told yX2_told)) := ⟨⟨by decide +kernel, by decide +kernel, by decide +kernel, ⟨by decide, by decide, by decide +kernel⟩, by decide, by decide⟩, ⟨by decide +kernel, by decide +kernel⟩⟩
theorem k_X4_findLeastCosts_44 : aCO M_X4_findLeastCosts M_X6_at 44 yX6_at 925 74 406 2 ∧ lw_tbl[405]? = some (.static yX6_at) := ⟨⟨by decide +kernel, by decide +kernel, by decide +kernel, ⟨by decide, by decide, by decide +kernel⟩, by decide, by decide⟩, by decide +kernel⟩
theorem k_X4_pairCost_59 : aCO M_X4_pairCost M_X0_kindBetween 59 yX0_kindBetween 929 80 895 2 ∧ lw_tbl[894]? = some (.static yX0_kindBetween) := ⟨⟨by decide +kernel, by decide +kernel, by decide +kernel, ⟨by decide, by decide, by decide +kernel⟩, by decide, by decide⟩, by decide +kernel⟩
theorem k_X4_findLeastCosts_48 : aCO M_X4_findLeastCosts M_X4_pairCost 48 yX4_pairCost 926 72 928 2 ∧ lw_tbl[927]? = some (.static yX4_pairCost) := ⟨⟨by decide +kernel, by decide +kernel, by decide +kernel, ⟨by decide, by decide, by decide +kernel⟩, by decide, by decide⟩, by decide +kernel⟩
theorem k_X4_costFrom_44 : aCO M_X4_costFrom M_X6_at 44 yX6_at 925 74 406 2 ∧ lw_tbl[405]? = some (.static yX6_at) := ⟨⟨by decide +kernel, by decide +kernel, by decide +kernel, ⟨by decide, by decide, by decide +kernel⟩, by decide, by decide⟩, by decide +kernel⟩
theorem k_X4_findLeastCosts_35 : aCO M_X4_findLeastCosts M_X4_costFrom 35 yX4_costFrom 930 72 933 2 ∧ (lw_tbl[932]? = some (.instanceMethod yX4_costFrom) ∧ lw_tbl[30]? = some (.selects yX4_costFrom.cls yX4_costFrom yX4_costFrom)) := ⟨⟨by decide +kernel, by decide +kernel, by decide +kernel, ⟨by decide, by decide, by decide +kernel⟩, by decide, by decide⟩, ⟨by decide +kernel, by decide +kernel⟩⟩
theorem k_X4_findLeastCosts_51 : aCO M_X4_findLeastCosts M_J9_min_7cf53 51 yJ9_min_7cf53 934 79 597 2 ∧ lw_tbl[596]? = some (.static yJ9_min_7cf53) := ⟨⟨by decide +kernel, by decide +kernel, by decide +kernel, ⟨by decide, by decide, by decide +kernel⟩, by decide, by decide⟩, by decide +kernel⟩
theorem k_X10_match_237 : aCO M_X10_match M_X4_findLeastCosts 237 yX4_findLeastCosts 920 72 923 1 ∧ (lw_tbl[921]? = some (.instanceMethod yX4_findLeastCosts) ∧ lw_tbl[922]? = some (.selects yX4_findLeastCosts.cls yX4_findLeastCosts yX4_findLeastCosts)) := ⟨⟨by decide +kernel, by decide +kernel, by decide +kernel, ⟨by decide, by decide, by decide +kernel⟩, by decide, by decide⟩, ⟨by decide +kernel, by decide +kernel⟩⟩
theorem k_X4_leastLine_35 : aCO M_X4_leastLine M_X4_costFrom 35 yX4_costFrom 930 72 933 2 ∧ (lw_tbl[932]? = some (.instanceMethod yX4_costFrom) ∧ lw_tbl[30]? = some (.selects yX4_costFrom.cls yX4_costFrom yX4_costFrom)) := ⟨⟨by decide +kernel, by decide +kernel, by decide +kernel, ⟨by decide, by decide, by decide +kernel⟩, by decide, by decide⟩, ⟨by decide +kernel, by decide +kernel⟩⟩
theorem k_X4_leastLine_44 : aCO M_X4_leastLine M_X6_at 44 yX6_at 925 74 406 2 ∧ lw_tbl[405]? = some (.static yX6_at) := ⟨⟨by decide +kernel, by decide +kernel, by decide +kernel, ⟨by decide, by decide, by decide +kernel⟩, by decide, by decide⟩, by decide +kernel⟩
theorem k_X4_lineOf_56 : aCO M_X4_lineOf M_X4_leastLine 56 yX4_leastLine 943 72 946 2 ∧ (lw_tbl[945]? = some (.instanceMethod yX4_leastLine) ∧ lw_tbl[31]? = some (.selects yX4_leastLine.cls yX4_leastLine yX4_leastLine)) := ⟨⟨by decide +kernel, by decide +kernel, by decide +kernel, ⟨by decide, by decide, by decide +kernel⟩, by decide, by decide⟩, ⟨by decide +kernel, by decide +kernel⟩⟩
theorem k_X10_match_243 : aCO M_X10_match M_X4_lineOf 243 yX4_lineOf 939 72 942 2 ∧ (lw_tbl[940]? = some (.instanceMethod yX4_lineOf) ∧ lw_tbl[941]? = some (.selects yX4_lineOf.cls yX4_lineOf yX4_lineOf)) := ⟨⟨by decide +kernel, by decide +kernel, by decide +kernel, ⟨by decide, by decide, by decide +kernel⟩, by decide, by decide⟩, ⟨by decide +kernel, by decide +kernel⟩⟩
theorem k_X4_leastCost_35 : aCO M_X4_leastCost M_X4_costFrom 35 yX4_costFrom 930 72 933 2 ∧ (lw_tbl[932]? = some (.instanceMethod yX4_costFrom) ∧ lw_tbl[30]? = some (.selects yX4_costFrom.cls yX4_costFrom yX4_costFrom)) := ⟨⟨by decide +kernel, by decide +kernel, by decide +kernel, ⟨by decide, by decide, by decide +kernel⟩, by decide, by decide⟩, ⟨by decide +kernel, by decide +kernel⟩⟩
theorem k_X10_match_240 : aCO M_X10_match M_X4_leastCost 240 yX4_leastCost 935 72 938 0 ∧ (lw_tbl[936]? = some (.instanceMethod yX4_leastCost) ∧ lw_tbl[937]? = some (.selects yX4_leastCost.cls yX4_leastCost yX4_leastCost)) := ⟨⟨by decide +kernel, by decide +kernel, by decide +kernel, ⟨by decide, by decide, by decide +kernel⟩, by decide, by decide⟩, ⟨by decide +kernel, by decide +kernel⟩⟩
theorem k_X10_mean_197 : aCO M_X10_mean M_X10_isPart 197 yX10_isPart 858 64 860 1 ∧ lw_tbl[859]? = some (.static yX10_isPart) := ⟨⟨by decide +kernel, by decide +kernel, by decide +kernel, ⟨by decide, by decide, by decide +kernel⟩, by decide, by decide⟩, by decide +kernel⟩
theorem k_X10_mean_169 : aCO M_X10_mean M_X10_workOut 169 yX10_workOut 647 64 650 0 ∧ (lw_tbl[649]? = some (.instanceMethod yX10_workOut) ∧ lw_tbl[15]? = some (.selects yX10_workOut.cls yX10_workOut yX10_workOut)) := ⟨⟨by decide +kernel, by decide +kernel, by decide +kernel, ⟨by decide, by decide, by decide +kernel⟩, by decide, by decide⟩, ⟨by decide +kernel, by decide +kernel⟩⟩
theorem k_X10_mean_207 : aCO M_X10_mean M_X1_lowest 207 yX1_lowest 863 81 865 3 ∧ lw_tbl[864]? = some (.static yX1_lowest) := ⟨⟨by decide +kernel, by decide +kernel, by decide +kernel, ⟨by decide, by decide, by decide +kernel⟩, by decide, by decide⟩, by decide +kernel⟩
theorem k_X10_mend_99 : aCO M_X10_mend M_X2_holds 99 yX2_holds 539 66 542 1 ∧ (lw_tbl[540]? = some (.instanceMethod yX2_holds) ∧ lw_tbl[541]? = some (.selects yX2_holds.cls yX2_holds yX2_holds)) := ⟨⟨by decide +kernel, by decide +kernel, by decide +kernel, ⟨by decide, by decide, by decide +kernel⟩, by decide, by decide⟩, ⟨by decide +kernel, by decide +kernel⟩⟩
theorem k_X10_mend_139 : aCO M_X10_mend M_X10_isSide 139 yX10_isSide 603 64 605 1 ∧ lw_tbl[604]? = some (.static yX10_isSide) := ⟨⟨by decide +kernel, by decide +kernel, by decide +kernel, ⟨by decide, by decide, by decide +kernel⟩, by decide, by decide⟩, by decide +kernel⟩
theorem k_X10_mend_142 : aCO M_X10_mend M_X10_isSum 142 yX10_isSum 606 64 608 1 ∧ lw_tbl[607]? = some (.static yX10_isSum) := ⟨⟨by decide +kernel, by decide +kernel, by decide +kernel, ⟨by decide, by decide, by decide +kernel⟩, by decide, by decide⟩, by decide +kernel⟩
theorem k_X2_change_68 : aCO M_X2_change M_X2_setPart 68 yX2_setPart 522 66 525 3 ∧ (lw_tbl[524]? = some (.instanceMethod yX2_setPart) ∧ lw_tbl[12]? = some (.selects yX2_setPart.cls yX2_setPart yX2_setPart)) := ⟨⟨by decide +kernel, by decide +kernel, by decide +kernel, ⟨by decide, by decide, by decide +kernel⟩, by decide, by decide⟩, ⟨by decide +kernel, by decide +kernel⟩⟩
theorem k_X10_mend_145 : aCO M_X10_mend M_X2_change 145 yX2_change 610 66 613 3 ∧ (lw_tbl[611]? = some (.instanceMethod yX2_change) ∧ lw_tbl[612]? = some (.selects yX2_change.cls yX2_change yX2_change)) := ⟨⟨by decide +kernel, by decide +kernel, by decide +kernel, ⟨by decide, by decide, by decide +kernel⟩, by decide, by decide⟩, ⟨by decide +kernel, by decide +kernel⟩⟩
theorem k_X10_mend_110 : aCO M_X10_mend M_X2_outOf 110 yX2_outOf 554 66 557 1 ∧ (lw_tbl[555]? = some (.instanceMethod yX2_outOf) ∧ lw_tbl[556]? = some (.selects yX2_outOf.cls yX2_outOf yX2_outOf)) := ⟨⟨by decide +kernel, by decide +kernel, by decide +kernel, ⟨by decide, by decide, by decide +kernel⟩, by decide, by decide⟩, ⟨by decide +kernel, by decide +kernel⟩⟩
theorem k_X10_odds_121 : aCO M_X10_odds M_X10_isHand 121 yX10_isHand 581 64 583 1 ∧ lw_tbl[582]? = some (.static yX10_isHand) := ⟨⟨by decide +kernel, by decide +kernel, by decide +kernel, ⟨by decide, by decide, by decide +kernel⟩, by decide, by decide⟩, by decide +kernel⟩
theorem k_X10_odds_124 : aCO M_X10_odds M_X10_isEntryKind 124 yX10_isEntryKind 584 64 586 1 ∧ lw_tbl[585]? = some (.static yX10_isEntryKind) := ⟨⟨by decide +kernel, by decide +kernel, by decide +kernel, ⟨by decide, by decide, by decide +kernel⟩, by decide, by decide⟩, by decide +kernel⟩
theorem k_X10_odds_127 : aCO M_X10_odds M_X2_oddsOf 127 yX2_oddsOf 587 66 590 2 ∧ (lw_tbl[588]? = some (.instanceMethod yX2_oddsOf) ∧ lw_tbl[589]? = some (.selects yX2_oddsOf.cls yX2_oddsOf yX2_oddsOf)) := ⟨⟨by decide +kernel, by decide +kernel, by decide +kernel, ⟨by decide, by decide, by decide +kernel⟩, by decide, by decide⟩, ⟨by decide +kernel, by decide +kernel⟩⟩
theorem k_X10_ofKind_169 : aCO M_X10_ofKind M_X10_workOut 169 yX10_workOut 647 64 650 0 ∧ (lw_tbl[649]? = some (.instanceMethod yX10_workOut) ∧ lw_tbl[15]? = some (.selects yX10_workOut.cls yX10_workOut yX10_workOut)) := ⟨⟨by decide +kernel, by decide +kernel, by decide +kernel, ⟨by decide, by decide, by decide +kernel⟩, by decide, by decide⟩, ⟨by decide +kernel, by decide +kernel⟩⟩
theorem k_X7_manyOf_67 : aCO M_X7_manyOf M_X7_slip 67 yX7_slip 838 69 799 1 ∧ (lw_tbl[797]? = some (.instanceMethod yX7_slip) ∧ lw_tbl[798]? = some (.selects yX7_slip.cls yX7_slip yX7_slip)) := ⟨⟨by decide +kernel, by decide +kernel, by decide +kernel, ⟨by decide, by decide, by decide +kernel⟩, by decide, by decide⟩, ⟨by decide +kernel, by decide +kernel⟩⟩
theorem k_X7_manyOf_70 : aCO M_X7_manyOf M_X8_kind 70 yX8_kind 839 68 752 1 ∧ (lw_tbl[750]? = some (.instanceMethod yX8_kind) ∧ lw_tbl[751]? = some (.selects yX8_kind.cls yX8_kind yX8_kind)) := ⟨⟨by decide +kernel, by decide +kernel, by decide +kernel, ⟨by decide, by decide, by decide +kernel⟩, by decide, by decide⟩, ⟨by decide +kernel, by decide +kernel⟩⟩
theorem k_X10_ofKind_177 : aCO M_X10_ofKind M_X7_manyOf 177 yX7_manyOf 834 69 837 1 ∧ (lw_tbl[835]? = some (.instanceMethod yX7_manyOf) ∧ lw_tbl[836]? = some (.selects yX7_manyOf.cls yX7_manyOf yX7_manyOf)) := ⟨⟨by decide +kernel, by decide +kernel, by decide +kernel, ⟨by decide, by decide, by decide +kernel⟩, by decide, by decide⟩, ⟨by decide +kernel, by decide +kernel⟩⟩
theorem k_X10_off_107 : aCO M_X10_off M_X10_isPage 107 yX10_isPage 551 64 553 1 ∧ lw_tbl[552]? = some (.static yX10_isPage) := ⟨⟨by decide +kernel, by decide +kernel, by decide +kernel, ⟨by decide, by decide, by decide +kernel⟩, by decide, by decide⟩, by decide +kernel⟩
theorem k_X10_off_115 : aCO M_X10_off M_X2_hasDue 115 yX2_hasDue 568 66 571 1 ∧ (lw_tbl[569]? = some (.instanceMethod yX2_hasDue) ∧ lw_tbl[570]? = some (.selects yX2_hasDue.cls yX2_hasDue yX2_hasDue)) := ⟨⟨by decide +kernel, by decide +kernel, by decide +kernel, ⟨by decide, by decide, by decide +kernel⟩, by decide, by decide⟩, ⟨by decide +kernel, by decide +kernel⟩⟩
theorem k_X10_off_110 : aCO M_X10_off M_X2_outOf 110 yX2_outOf 554 66 557 1 ∧ (lw_tbl[555]? = some (.instanceMethod yX2_outOf) ∧ lw_tbl[556]? = some (.selects yX2_outOf.cls yX2_outOf yX2_outOf)) := ⟨⟨by decide +kernel, by decide +kernel, by decide +kernel, ⟨by decide, by decide, by decide +kernel⟩, by decide, by decide⟩, ⟨by decide +kernel, by decide +kernel⟩⟩
theorem k_X10_off_118 : aCO M_X10_off M_X2_dueOf 118 yX2_dueOf 572 66 575 1 ∧ (lw_tbl[573]? = some (.instanceMethod yX2_dueOf) ∧ lw_tbl[574]? = some (.selects yX2_dueOf.cls yX2_dueOf yX2_dueOf)) := ⟨⟨by decide +kernel, by decide +kernel, by decide +kernel, ⟨by decide, by decide, by decide +kernel⟩, by decide, by decide⟩, ⟨by decide +kernel, by decide +kernel⟩⟩
theorem k_X10_one_169 : aCO M_X10_one M_X10_workOut 169 yX10_workOut 647 64 650 0 ∧ (lw_tbl[649]? = some (.instanceMethod yX10_workOut) ∧ lw_tbl[15]? = some (.selects yX10_workOut.cls yX10_workOut yX10_workOut)) := ⟨⟨by decide +kernel, by decide +kernel, by decide +kernel, ⟨by decide, by decide, by decide +kernel⟩, by decide, by decide⟩, ⟨by decide +kernel, by decide +kernel⟩⟩
theorem k_X10_one_173 : aCO M_X10_one M_X7_slip 173 yX7_slip 823 69 799 1 ∧ (lw_tbl[797]? = some (.instanceMethod yX7_slip) ∧ lw_tbl[798]? = some (.selects yX7_slip.cls yX7_slip yX7_slip)) := ⟨⟨by decide +kernel, by decide +kernel, by decide +kernel, ⟨by decide, by decide, by decide +kernel⟩, by decide, by decide⟩, ⟨by decide +kernel, by decide +kernel⟩⟩
theorem k_X8_told_54 : aCO M_X8_told M_X8_weight 54 yX8_weight 829 68 763 1 ∧ (lw_tbl[761]? = some (.instanceMethod yX8_weight) ∧ lw_tbl[762]? = some (.selects yX8_weight.cls yX8_weight yX8_weight)) := ⟨⟨by decide +kernel, by decide +kernel, by decide +kernel, ⟨by decide, by decide, by decide +kernel⟩, by decide, by decide⟩, ⟨by decide +kernel, by decide +kernel⟩⟩
theorem k_X8_told_43 : aCO M_X8_told M_X8_kind 43 yX8_kind 749 68 752 1 ∧ (lw_tbl[750]? = some (.instanceMethod yX8_kind) ∧ lw_tbl[751]? = some (.selects yX8_kind.cls yX8_kind yX8_kind)) := ⟨⟨by decide +kernel, by decide +kernel, by decide +kernel, ⟨by decide, by decide, by decide +kernel⟩, by decide, by decide⟩, ⟨by decide +kernel, by decide +kernel⟩⟩
theorem k_X8_told_47 : aCO M_X8_told M_X8_place 47 yX8_place 753 68 756 1 ∧ (lw_tbl[754]? = some (.instanceMethod yX8_place) ∧ lw_tbl[755]? = some (.selects yX8_place.cls yX8_place yX8_place)) := ⟨⟨by decide +kernel, by decide +kernel, by decide +kernel, ⟨by decide, by decide, by decide +kernel⟩, by decide, by decide⟩, ⟨by decide +kernel, by decide +kernel⟩⟩
theorem k_X8_told_37 : aCO M_X8_told M_X6_at 37 yX6_at 730 74 406 2 ∧ lw_tbl[405]? = some (.static yX6_at) := ⟨⟨by decide +kernel, by decide +kernel, by decide +kernel, ⟨by decide, by decide, by decide +kernel⟩, by decide, by decide⟩, by decide +kernel⟩
theorem k_X8_told_50 : aCO M_X8_told M_X8_change 50 yX8_change 726 68 729 1 ∧ (lw_tbl[727]? = some (.instanceMethod yX8_change) ∧ lw_tbl[728]? = some (.selects yX8_change.cls yX8_change yX8_change)) := ⟨⟨by decide +kernel, by decide +kernel, by decide +kernel, ⟨by decide, by decide, by decide +kernel⟩, by decide, by decide⟩, ⟨by decide +kernel, by decide +kernel⟩⟩
theorem k_X10_one_176 : aCO M_X10_one M_X8_told 176 yX8_told 824 68 827 2 ∧ (lw_tbl[825]? = some (.instanceMethod yX8_told) ∧ lw_tbl[826]? = some (.selects yX8_told.cls yX8_told yX8_told)) := ⟨⟨by decide +kernel, by decide +kernel, by decide +kernel, ⟨by decide, by decide, by decide +kernel⟩, by decide, by decide⟩, ⟨by decide +kernel, by decide +kernel⟩⟩
theorem k_X10_other_142 : aCO M_X10_other M_X10_isSum 142 yX10_isSum 606 64 608 1 ∧ lw_tbl[607]? = some (.static yX10_isSum) := ⟨⟨by decide +kernel, by decide +kernel, by decide +kernel, ⟨by decide, by decide, by decide +kernel⟩, by decide, by decide⟩, by decide +kernel⟩
theorem k_X4_add_29 : aCO M_X4_add M_X6_set 29 yX6_set 915 74 379 3 ∧ lw_tbl[378]? = some (.static yX6_set) := ⟨⟨by decide +kernel, by decide +kernel, by decide +kernel, ⟨by decide, by decide, by decide +kernel⟩, by decide, by decide⟩, by decide +kernel⟩
theorem k_X10_other_234 : aCO M_X10_other M_X4_add 234 yX4_add 911 72 914 1 ∧ (lw_tbl[912]? = some (.instanceMethod yX4_add) ∧ lw_tbl[913]? = some (.selects yX4_add.cls yX4_add yX4_add)) := ⟨⟨by decide +kernel, by decide +kernel, by decide +kernel, ⟨by decide, by decide, by decide +kernel⟩, by decide, by decide⟩, ⟨by decide +kernel, by decide +kernel⟩⟩
theorem k_X10_out_110 : aCO M_X10_out M_X2_outOf 110 yX2_outOf 554 66 557 1 ∧ (lw_tbl[555]? = some (.instanceMethod yX2_outOf) ∧ lw_tbl[556]? = some (.selects yX2_outOf.cls yX2_outOf yX2_outOf)) := ⟨⟨by decide +kernel, by decide +kernel, by decide +kernel, ⟨by decide, by decide, by decide +kernel⟩, by decide, by decide⟩, ⟨by decide +kernel, by decide +kernel⟩⟩
theorem k_X10_out_107 : aCO M_X10_out M_X10_isPage 107 yX10_isPage 551 64 553 1 ∧ lw_tbl[552]? = some (.static yX10_isPage) := ⟨⟨by decide +kernel, by decide +kernel, by decide +kernel, ⟨by decide, by decide, by decide +kernel⟩, by decide, by decide⟩, by decide +kernel⟩
theorem k_X10_pair_169 : aCO M_X10_pair M_X10_workOut 169 yX10_workOut 647 64 650 0 ∧ (lw_tbl[649]? = some (.instanceMethod yX10_workOut) ∧ lw_tbl[15]? = some (.selects yX10_workOut.cls yX10_workOut yX10_workOut)) := ⟨⟨by decide +kernel, by decide +kernel, by decide +kernel, ⟨by decide, by decide, by decide +kernel⟩, by decide, by decide⟩, ⟨by decide +kernel, by decide +kernel⟩⟩
theorem k_X10_pair_176 : aCO M_X10_pair M_X8_told 176 yX8_told 824 68 827 2 ∧ (lw_tbl[825]? = some (.instanceMethod yX8_told) ∧ lw_tbl[826]? = some (.selects yX8_told.cls yX8_told yX8_told)) := ⟨⟨by decide +kernel, by decide +kernel, by decide +kernel, ⟨by decide, by decide, by decide +kernel⟩, by decide, by decide⟩, ⟨by decide +kernel, by decide +kernel⟩⟩
theorem k_X10_signs_110 : aCO M_X10_signs M_X2_outOf 110 yX2_outOf 554 66 557 1 ∧ (lw_tbl[555]? = some (.instanceMethod yX2_outOf) ∧ lw_tbl[556]? = some (.selects yX2_outOf.cls yX2_outOf yX2_outOf)) := ⟨⟨by decide +kernel, by decide +kernel, by decide +kernel, ⟨by decide, by decide, by decide +kernel⟩, by decide, by decide⟩, ⟨by decide +kernel, by decide +kernel⟩⟩
theorem k_X10_signs_154 : aCO M_X10_signs M_J9_abs_0f7a4 154 yJ9_abs_0f7a4 626 79 628 1 ∧ lw_tbl[627]? = some (.static yJ9_abs_0f7a4) := ⟨⟨by decide +kernel, by decide +kernel, by decide +kernel, ⟨by decide, by decide, by decide +kernel⟩, by decide, by decide⟩, by decide +kernel⟩
theorem k_X2_hasSum_53 : aCO M_X2_hasSum M_X2_told 53 yX2_told 558 66 546 2 ∧ (lw_tbl[544]? = some (.instanceMethod yX2_told) ∧ lw_tbl[545]? = some (.selects yX2_told.cls yX2_told yX2_told)) := ⟨⟨by decide +kernel, by decide +kernel, by decide +kernel, ⟨by decide, by decide, by decide +kernel⟩, by decide, by decide⟩, ⟨by decide +kernel, by decide +kernel⟩⟩
theorem k_X10_signs_157 : aCO M_X10_signs M_X2_hasSum 157 yX2_hasSum 629 66 632 2 ∧ (lw_tbl[630]? = some (.instanceMethod yX2_hasSum) ∧ lw_tbl[631]? = some (.selects yX2_hasSum.cls yX2_hasSum yX2_hasSum)) := ⟨⟨by decide +kernel, by decide +kernel, by decide +kernel, ⟨by decide, by decide, by decide +kernel⟩, by decide, by decide⟩, ⟨by decide +kernel, by decide +kernel⟩⟩
theorem k_X0_isTens_15 : aCO M_X0_isTens M_X6_at 15 yX6_at 638 74 406 2 ∧ lw_tbl[405]? = some (.static yX6_at) := ⟨⟨by decide +kernel, by decide +kernel, by decide +kernel, ⟨by decide, by decide, by decide +kernel⟩, by decide, by decide⟩, by decide +kernel⟩
theorem k_X10_signs_161 : aCO M_X10_signs M_X0_isTens 161 yX0_isTens 633 80 635 1 ∧ lw_tbl[634]? = some (.static yX0_isTens) := ⟨⟨by decide +kernel, by decide +kernel, by decide +kernel, ⟨by decide, by decide, by decide +kernel⟩, by decide, by decide⟩, by decide +kernel⟩
theorem k_X10_isNineTimesOrTenths_103 : aCO M_X10_isNineTimesOrTenths M_X2_told 103 yX2_told 543 66 546 2 ∧ (lw_tbl[544]? = some (.instanceMethod yX2_told) ∧ lw_tbl[545]? = some (.selects yX2_told.cls yX2_told yX2_told)) := ⟨⟨by decide +kernel, by decide +kernel, by decide +kernel, ⟨by decide, by decide, by decide +kernel⟩, by decide, by decide⟩, ⟨by decide +kernel, by decide +kernel⟩⟩
theorem k_X10_signs_166 : aCO M_X10_signs M_X10_isNineTimesOrTenths 166 yX10_isNineTimesOrTenths 639 64 642 1 ∧ (lw_tbl[641]? = some (.instanceMethod yX10_isNineTimesOrTenths) ∧ lw_tbl[14]? = some (.selects yX10_isNineTimesOrTenths.cls yX10_isNineTimesOrTenths yX10_isNineTimesOrTenths)) := ⟨⟨by decide +kernel, by decide +kernel, by decide +kernel, ⟨by decide, by decide, by decide +kernel⟩, by decide, by decide⟩, ⟨by decide +kernel, by decide +kernel⟩⟩
theorem k_X10_strike_99 : aCO M_X10_strike M_X2_holds 99 yX2_holds 539 66 542 1 ∧ (lw_tbl[540]? = some (.instanceMethod yX2_holds) ∧ lw_tbl[541]? = some (.selects yX2_holds.cls yX2_holds yX2_holds)) := ⟨⟨by decide +kernel, by decide +kernel, by decide +kernel, ⟨by decide, by decide, by decide +kernel⟩, by decide, by decide⟩, ⟨by decide +kernel, by decide +kernel⟩⟩
theorem k_X2_remove_53 : aCO M_X2_remove M_X2_told 53 yX2_told 558 66 546 2 ∧ (lw_tbl[544]? = some (.instanceMethod yX2_told) ∧ lw_tbl[545]? = some (.selects yX2_told.cls yX2_told yX2_told)) := ⟨⟨by decide +kernel, by decide +kernel, by decide +kernel, ⟨by decide, by decide, by decide +kernel⟩, by decide, by decide⟩, ⟨by decide +kernel, by decide +kernel⟩⟩
theorem k_X2_remove_68 : aCO M_X2_remove M_X2_setPart 68 yX2_setPart 522 66 525 3 ∧ (lw_tbl[524]? = some (.instanceMethod yX2_setPart) ∧ lw_tbl[12]? = some (.selects yX2_setPart.cls yX2_setPart yX2_setPart)) := ⟨⟨by decide +kernel, by decide +kernel, by decide +kernel, ⟨by decide, by decide, by decide +kernel⟩, by decide, by decide⟩, ⟨by decide +kernel, by decide +kernel⟩⟩
theorem k_X10_strike_148 : aCO M_X10_strike M_X2_remove 148 yX2_remove 618 66 621 1 ∧ (lw_tbl[619]? = some (.instanceMethod yX2_remove) ∧ lw_tbl[620]? = some (.selects yX2_remove.cls yX2_remove yX2_remove)) := ⟨⟨by decide +kernel, by decide +kernel, by decide +kernel, ⟨by decide, by decide, by decide +kernel⟩, by decide, by decide⟩, ⟨by decide +kernel, by decide +kernel⟩⟩
theorem k_X10_two_169 : aCO M_X10_two M_X10_workOut 169 yX10_workOut 647 64 650 0 ∧ (lw_tbl[649]? = some (.instanceMethod yX10_workOut) ∧ lw_tbl[15]? = some (.selects yX10_workOut.cls yX10_workOut yX10_workOut)) := ⟨⟨by decide +kernel, by decide +kernel, by decide +kernel, ⟨by decide, by decide, by decide +kernel⟩, by decide, by decide⟩, ⟨by decide +kernel, by decide +kernel⟩⟩
theorem k_X10_whose_121 : aCO M_X10_whose M_X10_isHand 121 yX10_isHand 581 64 583 1 ∧ lw_tbl[582]? = some (.static yX10_isHand) := ⟨⟨by decide +kernel, by decide +kernel, by decide +kernel, ⟨by decide, by decide, by decide +kernel⟩, by decide, by decide⟩, by decide +kernel⟩
theorem k_X10_whose_197 : aCO M_X10_whose M_X10_isPart 197 yX10_isPart 858 64 860 1 ∧ lw_tbl[859]? = some (.static yX10_isPart) := ⟨⟨by decide +kernel, by decide +kernel, by decide +kernel, ⟨by decide, by decide, by decide +kernel⟩, by decide, by decide⟩, by decide +kernel⟩
theorem k_X10_whose_169 : aCO M_X10_whose M_X10_workOut 169 yX10_workOut 647 64 650 0 ∧ (lw_tbl[649]? = some (.instanceMethod yX10_workOut) ∧ lw_tbl[15]? = some (.selects yX10_workOut.cls yX10_workOut yX10_workOut)) := ⟨⟨by decide +kernel, by decide +kernel, by decide +kernel, ⟨by decide, by decide, by decide +kernel⟩, by decide, by decide⟩, ⟨by decide +kernel, by decide +kernel⟩⟩
theorem k_X7_weightsOfHand_67 : aCO M_X7_weightsOfHand M_X7_slip 67 yX7_slip 838 69 799 1 ∧ (lw_tbl[797]? = some (.instanceMethod yX7_slip) ∧ lw_tbl[798]? = some (.selects yX7_slip.cls yX7_slip yX7_slip)) := ⟨⟨by decide +kernel, by decide +kernel, by decide +kernel, ⟨by decide, by decide, by decide +kernel⟩, by decide, by decide⟩, ⟨by decide +kernel, by decide +kernel⟩⟩
theorem k_X7_weightsOfHand_70 : aCO M_X7_weightsOfHand M_X8_kind 70 yX8_kind 839 68 752 1 ∧ (lw_tbl[750]? = some (.instanceMethod yX8_kind) ∧ lw_tbl[751]? = some (.selects yX8_kind.cls yX8_kind yX8_kind)) := ⟨⟨by decide +kernel, by decide +kernel, by decide +kernel, ⟨by decide, by decide, by decide +kernel⟩, by decide, by decide⟩, ⟨by decide +kernel, by decide +kernel⟩⟩
theorem k_X7_weightsOfHand_73 : aCO M_X7_weightsOfHand M_X8_place 73 yX8_place 877 68 756 1 ∧ (lw_tbl[754]? = some (.instanceMethod yX8_place) ∧ lw_tbl[755]? = some (.selects yX8_place.cls yX8_place yX8_place)) := ⟨⟨by decide +kernel, by decide +kernel, by decide +kernel, ⟨by decide, by decide, by decide +kernel⟩, by decide, by decide⟩, ⟨by decide +kernel, by decide +kernel⟩⟩
theorem k_X7_weightsOfHand_76 : aCO M_X7_weightsOfHand M_X2_told 76 yX2_told 878 66 546 2 ∧ (lw_tbl[544]? = some (.instanceMethod yX2_told) ∧ lw_tbl[545]? = some (.selects yX2_told.cls yX2_told yX2_told)) := ⟨⟨by decide +kernel, by decide +kernel, by decide +kernel, ⟨by decide, by decide, by decide +kernel⟩, by decide, by decide⟩, ⟨by decide +kernel, by decide +kernel⟩⟩
theorem k_X7_weightsOfHand_64 : aCO M_X7_weightsOfHand M_X8_weight 64 yX8_weight 760 68 763 1 ∧ (lw_tbl[761]? = some (.instanceMethod yX8_weight) ∧ lw_tbl[762]? = some (.selects yX8_weight.cls yX8_weight yX8_weight)) := ⟨⟨by decide +kernel, by decide +kernel, by decide +kernel, ⟨by decide, by decide, by decide +kernel⟩, by decide, by decide⟩, ⟨by decide +kernel, by decide +kernel⟩⟩
theorem k_X10_whose_213 : aCO M_X10_whose M_X7_weightsOfHand 213 yX7_weightsOfHand 873 69 876 1 ∧ (lw_tbl[874]? = some (.instanceMethod yX7_weightsOfHand) ∧ lw_tbl[875]? = some (.selects yX7_weightsOfHand.cls yX7_weightsOfHand yX7_weightsOfHand)) := ⟨⟨by decide +kernel, by decide +kernel, by decide +kernel, ⟨by decide, by decide, by decide +kernel⟩, by decide, by decide⟩, ⟨by decide +kernel, by decide +kernel⟩⟩
theorem k_X10_whose_207 : aCO M_X10_whose M_X1_lowest 207 yX1_lowest 863 81 865 3 ∧ lw_tbl[864]? = some (.static yX1_lowest) := ⟨⟨by decide +kernel, by decide +kernel, by decide +kernel, ⟨by decide, by decide, by decide +kernel⟩, by decide, by decide⟩, by decide +kernel⟩
theorem k_X9_append_34 : aCO M_X9_append M_X6_set 34 yX6_set 377 74 379 3 ∧ lw_tbl[378]? = some (.static yX6_set) := ⟨⟨by decide +kernel, by decide +kernel, by decide +kernel, ⟨by decide, by decide, by decide +kernel⟩, by decide, by decide⟩, by decide +kernel⟩
theorem k_X10_write_84 : aCO M_X10_write M_X9_append 84 yX9_append 373 65 376 1 ∧ (lw_tbl[374]? = some (.instanceMethod yX9_append) ∧ lw_tbl[375]? = some (.selects yX9_append.cls yX9_append yX9_append)) := ⟨⟨by decide +kernel, by decide +kernel, by decide +kernel, ⟨by decide, by decide, by decide +kernel⟩, by decide, by decide⟩, ⟨by decide +kernel, by decide +kernel⟩⟩
theorem k_X11_token_85 : aCO M_X11_token M_X11_sort 85 yX11_sort 1081 73 1083 1 ∧ lw_tbl[1082]? = some (.static yX11_sort) := ⟨⟨by decide +kernel, by decide +kernel, by decide +kernel, ⟨by decide, by decide, by decide +kernel⟩, by decide, by decide⟩, by decide +kernel⟩
theorem k_X11_fault_103 : aCO M_X11_fault M_X11_token 103 yX11_token 1077 73 1080 0 ∧ (lw_tbl[1079]? = some (.instanceMethod yX11_token) ∧ lw_tbl[32]? = some (.selects yX11_token.cls yX11_token yX11_token)) := ⟨⟨by decide +kernel, by decide +kernel, by decide +kernel, ⟨by decide, by decide, by decide +kernel⟩, by decide, by decide⟩, ⟨by decide +kernel, by decide +kernel⟩⟩
theorem k_X11_readsLine_110 : aCO M_X11_readsLine M_X11_isWord 110 yX11_isWord 1089 73 1092 2 ∧ (lw_tbl[1091]? = some (.instanceMethod yX11_isWord) ∧ lw_tbl[34]? = some (.selects yX11_isWord.cls yX11_isWord yX11_isWord)) := ⟨⟨by decide +kernel, by decide +kernel, by decide +kernel, ⟨by decide, by decide, by decide +kernel⟩, by decide, by decide⟩, ⟨by decide +kernel, by decide +kernel⟩⟩
theorem k_X11_readsLine_103 : aCO M_X11_readsLine M_X11_token 103 yX11_token 1077 73 1080 0 ∧ (lw_tbl[1079]? = some (.instanceMethod yX11_token) ∧ lw_tbl[32]? = some (.selects yX11_token.cls yX11_token yX11_token)) := ⟨⟨by decide +kernel, by decide +kernel, by decide +kernel, ⟨by decide, by decide, by decide +kernel⟩, by decide, by decide⟩, ⟨by decide +kernel, by decide +kernel⟩⟩
theorem k_X11_isNumber_85 : aCO M_X11_isNumber M_X11_sort 85 yX11_sort 1081 73 1083 1 ∧ lw_tbl[1082]? = some (.static yX11_sort) := ⟨⟨by decide +kernel, by decide +kernel, by decide +kernel, ⟨by decide, by decide, by decide +kernel⟩, by decide, by decide⟩, by decide +kernel⟩
theorem k_X11_reads_92 : aCO M_X11_reads M_X11_isNumber 92 yX11_isNumber 1109 73 1112 0 ∧ (lw_tbl[1111]? = some (.instanceMethod yX11_isNumber) ∧ lw_tbl[37]? = some (.selects yX11_isNumber.cls yX11_isNumber yX11_isNumber)) := ⟨⟨by decide +kernel, by decide +kernel, by decide +kernel, ⟨by decide, by decide, by decide +kernel⟩, by decide, by decide⟩, ⟨by decide +kernel, by decide +kernel⟩⟩
theorem k_X11_reads_96 : aCO M_X11_reads M_X11_value 96 yX11_value 1113 73 1116 0 ∧ (lw_tbl[1115]? = some (.instanceMethod yX11_value) ∧ lw_tbl[38]? = some (.selects yX11_value.cls yX11_value yX11_value)) := ⟨⟨by decide +kernel, by decide +kernel, by decide +kernel, ⟨by decide, by decide, by decide +kernel⟩, by decide, by decide⟩, ⟨by decide +kernel, by decide +kernel⟩⟩
theorem k_X11_reads_70 : aCO M_X11_reads M_X11_in 70 yX11_in 1065 73 1067 3 ∧ lw_tbl[1066]? = some (.static yX11_in) := ⟨⟨by decide +kernel, by decide +kernel, by decide +kernel, ⟨by decide, by decide, by decide +kernel⟩, by decide, by decide⟩, by decide +kernel⟩
theorem k_X11_reads_103 : aCO M_X11_reads M_X11_token 103 yX11_token 1077 73 1080 0 ∧ (lw_tbl[1079]? = some (.instanceMethod yX11_token) ∧ lw_tbl[32]? = some (.selects yX11_token.cls yX11_token yX11_token)) := ⟨⟨by decide +kernel, by decide +kernel, by decide +kernel, ⟨by decide, by decide, by decide +kernel⟩, by decide, by decide⟩, ⟨by decide +kernel, by decide +kernel⟩⟩
theorem k_X11_readsRest_106 : aCO M_X11_readsRest M_X11_reads 106 yX11_reads 1105 73 1108 3 ∧ (lw_tbl[1107]? = some (.instanceMethod yX11_reads) ∧ lw_tbl[36]? = some (.selects yX11_reads.cls yX11_reads yX11_reads)) := ⟨⟨by decide +kernel, by decide +kernel, by decide +kernel, ⟨by decide, by decide, by decide +kernel⟩, by decide, by decide⟩, ⟨by decide +kernel, by decide +kernel⟩⟩
theorem k_X11_readsRest_92 : aCO M_X11_readsRest M_X11_isNumber 92 yX11_isNumber 1109 73 1112 0 ∧ (lw_tbl[1111]? = some (.instanceMethod yX11_isNumber) ∧ lw_tbl[37]? = some (.selects yX11_isNumber.cls yX11_isNumber yX11_isNumber)) := ⟨⟨by decide +kernel, by decide +kernel, by decide +kernel, ⟨by decide, by decide, by decide +kernel⟩, by decide, by decide⟩, ⟨by decide +kernel, by decide +kernel⟩⟩
theorem k_X11_readsRest_96 : aCO M_X11_readsRest M_X11_value 96 yX11_value 1113 73 1116 0 ∧ (lw_tbl[1115]? = some (.instanceMethod yX11_value) ∧ lw_tbl[38]? = some (.selects yX11_value.cls yX11_value yX11_value)) := ⟨⟨by decide +kernel, by decide +kernel, by decide +kernel, ⟨by decide, by decide, by decide +kernel⟩, by decide, by decide⟩, ⟨by decide +kernel, by decide +kernel⟩⟩
theorem k_X11_readsPage_106 : aCO M_X11_readsPage M_X11_reads 106 yX11_reads 1105 73 1108 3 ∧ (lw_tbl[1107]? = some (.instanceMethod yX11_reads) ∧ lw_tbl[36]? = some (.selects yX11_reads.cls yX11_reads yX11_reads)) := ⟨⟨by decide +kernel, by decide +kernel, by decide +kernel, ⟨by decide, by decide, by decide +kernel⟩, by decide, by decide⟩, ⟨by decide +kernel, by decide +kernel⟩⟩
theorem k_X11_readsPage_110 : aCO M_X11_readsPage M_X11_isWord 110 yX11_isWord 1089 73 1092 2 ∧ (lw_tbl[1091]? = some (.instanceMethod yX11_isWord) ∧ lw_tbl[34]? = some (.selects yX11_isWord.cls yX11_isWord yX11_isWord)) := ⟨⟨by decide +kernel, by decide +kernel, by decide +kernel, ⟨by decide, by decide, by decide +kernel⟩, by decide, by decide⟩, ⟨by decide +kernel, by decide +kernel⟩⟩
theorem k_X11_readsPage_103 : aCO M_X11_readsPage M_X11_token 103 yX11_token 1077 73 1080 0 ∧ (lw_tbl[1079]? = some (.instanceMethod yX11_token) ∧ lw_tbl[32]? = some (.selects yX11_token.cls yX11_token yX11_token)) := ⟨⟨by decide +kernel, by decide +kernel, by decide +kernel, ⟨by decide, by decide, by decide +kernel⟩, by decide, by decide⟩, ⟨by decide +kernel, by decide +kernel⟩⟩
theorem k_X11_readsRest_117 : aCO M_X11_readsRest M_X11_readsPage 117 yX11_readsPage 1117 73 1120 0 ∧ (lw_tbl[1119]? = some (.instanceMethod yX11_readsPage) ∧ lw_tbl[39]? = some (.selects yX11_readsPage.cls yX11_readsPage yX11_readsPage)) := ⟨⟨by decide +kernel, by decide +kernel, by decide +kernel, ⟨by decide, by decide, by decide +kernel⟩, by decide, by decide⟩, ⟨by decide +kernel, by decide +kernel⟩⟩
theorem k_X11_readsLine_126 : aCO M_X11_readsLine M_X11_readsRest 126 yX11_readsRest 1100 73 1103 1 ∧ (lw_tbl[1102]? = some (.instanceMethod yX11_readsRest) ∧ lw_tbl[35]? = some (.selects yX11_readsRest.cls yX11_readsRest yX11_readsRest)) := ⟨⟨by decide +kernel, by decide +kernel, by decide +kernel, ⟨by decide, by decide, by decide +kernel⟩, by decide, by decide⟩, ⟨by decide +kernel, by decide +kernel⟩⟩
theorem k_X11_fault_130 : aCO M_X11_fault M_X11_readsLine 130 yX11_readsLine 1084 73 1087 0 ∧ (lw_tbl[1086]? = some (.instanceMethod yX11_readsLine) ∧ lw_tbl[33]? = some (.selects yX11_readsLine.cls yX11_readsLine yX11_readsLine)) := ⟨⟨by decide +kernel, by decide +kernel, by decide +kernel, ⟨by decide, by decide, by decide +kernel⟩, by decide, by decide⟩, ⟨by decide +kernel, by decide +kernel⟩⟩
theorem k_X11_book_139 : aCO M_X11_book M_X11_fault 139 yX11_fault 1126 73 1076 0 ∧ (lw_tbl[1074]? = some (.instanceMethod yX11_fault) ∧ lw_tbl[1075]? = some (.selects yX11_fault.cls yX11_fault yX11_fault)) := ⟨⟨by decide +kernel, by decide +kernel, by decide +kernel, ⟨by decide, by decide, by decide +kernel⟩, by decide, by decide⟩, ⟨by decide +kernel, by decide +kernel⟩⟩
theorem k_X11_book_142 : aCO M_X11_book M_X11_lay 142 yX11_lay 1127 73 1130 1 ∧ (lw_tbl[1129]? = some (.instanceMethod yX11_lay) ∧ lw_tbl[40]? = some (.selects yX11_lay.cls yX11_lay yX11_lay)) := ⟨⟨by decide +kernel, by decide +kernel, by decide +kernel, ⟨by decide, by decide, by decide +kernel⟩, by decide, by decide⟩, ⟨by decide +kernel, by decide +kernel⟩⟩
theorem k_X11_laySlips_155 : aCO M_X11_laySlips M_X11_outOf 155 yX11_outOf 1146 73 1149 1 ∧ (lw_tbl[1148]? = some (.instanceMethod yX11_outOf) ∧ lw_tbl[42]? = some (.selects yX11_outOf.cls yX11_outOf yX11_outOf)) := ⟨⟨by decide +kernel, by decide +kernel, by decide +kernel, ⟨by decide, by decide, by decide +kernel⟩, by decide, by decide⟩, ⟨by decide +kernel, by decide +kernel⟩⟩
theorem k_X11_laySlips_211 : aCO M_X11_laySlips M_X11_isUsed 211 yX11_isUsed 1241 73 1244 1 ∧ (lw_tbl[1243]? = some (.instanceMethod yX11_isUsed) ∧ lw_tbl[53]? = some (.selects yX11_isUsed.cls yX11_isUsed yX11_isUsed)) := ⟨⟨by decide +kernel, by decide +kernel, by decide +kernel, ⟨by decide, by decide, by decide +kernel⟩, by decide, by decide⟩, ⟨by decide +kernel, by decide +kernel⟩⟩
theorem k_X11_laySlips_175 : aCO M_X11_laySlips M_X11_power 175 yX11_power 1193 73 1195 1 ∧ lw_tbl[1194]? = some (.static yX11_power) := ⟨⟨by decide +kernel, by decide +kernel, by decide +kernel, ⟨by decide, by decide, by decide +kernel⟩, by decide, by decide⟩, by decide +kernel⟩
theorem k_X11_laySlips_191 : aCO M_X11_laySlips M_X11_add 191 yX11_add 1229 73 1232 5 ∧ (lw_tbl[1231]? = some (.instanceMethod yX11_add) ∧ lw_tbl[50]? = some (.selects yX11_add.cls yX11_add yX11_add)) := ⟨⟨by decide +kernel, by decide +kernel, by decide +kernel, ⟨by decide, by decide, by decide +kernel⟩, by decide, by decide⟩, ⟨by decide +kernel, by decide +kernel⟩⟩
theorem k_X11_laySlips_208 : aCO M_X11_laySlips M_X11_size 208 yX11_size 1188 73 1190 1 ∧ lw_tbl[1189]? = some (.static yX11_size) := ⟨⟨by decide +kernel, by decide +kernel, by decide +kernel, ⟨by decide, by decide, by decide +kernel⟩, by decide, by decide⟩, by decide +kernel⟩
theorem k_X11_layKind_185 : aCO M_X11_layKind M_X11_changeBy 185 yX11_changeBy 1221 73 1224 2 ∧ (lw_tbl[1223]? = some (.instanceMethod yX11_changeBy) ∧ lw_tbl[48]? = some (.selects yX11_changeBy.cls yX11_changeBy yX11_changeBy)) := ⟨⟨by decide +kernel, by decide +kernel, by decide +kernel, ⟨by decide, by decide, by decide +kernel⟩, by decide, by decide⟩, ⟨by decide +kernel, by decide +kernel⟩⟩
theorem k_X11_layKind_201 : aCO M_X11_layKind M_X11_isTwice 201 yX11_isTwice 1237 73 1240 1 ∧ (lw_tbl[1239]? = some (.instanceMethod yX11_isTwice) ∧ lw_tbl[52]? = some (.selects yX11_isTwice.cls yX11_isTwice yX11_isTwice)) := ⟨⟨by decide +kernel, by decide +kernel, by decide +kernel, ⟨by decide, by decide, by decide +kernel⟩, by decide, by decide⟩, ⟨by decide +kernel, by decide +kernel⟩⟩
theorem k_X11_layKind_191 : aCO M_X11_layKind M_X11_add 191 yX11_add 1229 73 1232 5 ∧ (lw_tbl[1231]? = some (.instanceMethod yX11_add) ∧ lw_tbl[50]? = some (.selects yX11_add.cls yX11_add yX11_add)) := ⟨⟨by decide +kernel, by decide +kernel, by decide +kernel, ⟨by decide, by decide, by decide +kernel⟩, by decide, by decide⟩, ⟨by decide +kernel, by decide +kernel⟩⟩
theorem k_X11_layKind_188 : aCO M_X11_layKind M_X11_oddsOf 188 yX11_oddsOf 1225 73 1228 2 ∧ (lw_tbl[1227]? = some (.instanceMethod yX11_oddsOf) ∧ lw_tbl[49]? = some (.selects yX11_oddsOf.cls yX11_oddsOf yX11_oddsOf)) := ⟨⟨by decide +kernel, by decide +kernel, by decide +kernel, ⟨by decide, by decide, by decide +kernel⟩, by decide, by decide⟩, ⟨by decide +kernel, by decide +kernel⟩⟩
theorem k_X11_layKind_182 : aCO M_X11_layKind M_X11_figures 182 yX11_figures 1212 73 1214 1 ∧ lw_tbl[1213]? = some (.static yX11_figures) := ⟨⟨by decide +kernel, by decide +kernel, by decide +kernel, ⟨by decide, by decide, by decide +kernel⟩, by decide, by decide⟩, by decide +kernel⟩
theorem k_X11_figure_175 : aCO M_X11_figure M_X11_power 175 yX11_power 1193 73 1195 1 ∧ lw_tbl[1194]? = some (.static yX11_power) := ⟨⟨by decide +kernel, by decide +kernel, by decide +kernel, ⟨by decide, by decide, by decide +kernel⟩, by decide, by decide⟩, by decide +kernel⟩
theorem k_X11_turned_178 : aCO M_X11_turned M_X11_figure 178 yX11_figure 1218 73 1220 2 ∧ lw_tbl[1219]? = some (.static yX11_figure) := ⟨⟨by decide +kernel, by decide +kernel, by decide +kernel, ⟨by decide, by decide, by decide +kernel⟩, by decide, by decide⟩, by decide +kernel⟩
theorem k_X11_turned_182 : aCO M_X11_turned M_X11_figures 182 yX11_figures 1212 73 1214 1 ∧ lw_tbl[1213]? = some (.static yX11_figures) := ⟨⟨by decide +kernel, by decide +kernel, by decide +kernel, ⟨by decide, by decide, by decide +kernel⟩, by decide, by decide⟩, by decide +kernel⟩
theorem k_X11_turned_175 : aCO M_X11_turned M_X11_power 175 yX11_power 1193 73 1195 1 ∧ lw_tbl[1194]? = some (.static yX11_power) := ⟨⟨by decide +kernel, by decide +kernel, by decide +kernel, ⟨by decide, by decide, by decide +kernel⟩, by decide, by decide⟩, by decide +kernel⟩
theorem k_X11_layKind_195 : aCO M_X11_layKind M_X11_turned 195 yX11_turned 1215 73 1217 2 ∧ lw_tbl[1216]? = some (.static yX11_turned) := ⟨⟨by decide +kernel, by decide +kernel, by decide +kernel, ⟨by decide, by decide, by decide +kernel⟩, by decide, by decide⟩, by decide +kernel⟩
theorem k_X11_layFigures_182 : aCO M_X11_layFigures M_X11_figures 182 yX11_figures 1212 73 1214 1 ∧ lw_tbl[1213]? = some (.static yX11_figures) := ⟨⟨by decide +kernel, by decide +kernel, by decide +kernel, ⟨by decide, by decide, by decide +kernel⟩, by decide, by decide⟩, by decide +kernel⟩
theorem k_X11_layFigures_178 : aCO M_X11_layFigures M_X11_figure 178 yX11_figure 1218 73 1220 2 ∧ lw_tbl[1219]? = some (.static yX11_figure) := ⟨⟨by decide +kernel, by decide +kernel, by decide +kernel, ⟨by decide, by decide, by decide +kernel⟩, by decide, by decide⟩, by decide +kernel⟩
theorem k_X11_layFigures_175 : aCO M_X11_layFigures M_X11_power 175 yX11_power 1193 73 1195 1 ∧ lw_tbl[1194]? = some (.static yX11_power) := ⟨⟨by decide +kernel, by decide +kernel, by decide +kernel, ⟨by decide, by decide, by decide +kernel⟩, by decide, by decide⟩, by decide +kernel⟩
theorem k_X11_layFigures_185 : aCO M_X11_layFigures M_X11_changeBy 185 yX11_changeBy 1221 73 1224 2 ∧ (lw_tbl[1223]? = some (.instanceMethod yX11_changeBy) ∧ lw_tbl[48]? = some (.selects yX11_changeBy.cls yX11_changeBy yX11_changeBy)) := ⟨⟨by decide +kernel, by decide +kernel, by decide +kernel, ⟨by decide, by decide, by decide +kernel⟩, by decide, by decide⟩, ⟨by decide +kernel, by decide +kernel⟩⟩
theorem k_X11_layFigures_188 : aCO M_X11_layFigures M_X11_oddsOf 188 yX11_oddsOf 1225 73 1228 2 ∧ (lw_tbl[1227]? = some (.instanceMethod yX11_oddsOf) ∧ lw_tbl[49]? = some (.selects yX11_oddsOf.cls yX11_oddsOf yX11_oddsOf)) := ⟨⟨by decide +kernel, by decide +kernel, by decide +kernel, ⟨by decide, by decide, by decide +kernel⟩, by decide, by decide⟩, ⟨by decide +kernel, by decide +kernel⟩⟩
theorem k_X11_layFigures_191 : aCO M_X11_layFigures M_X11_add 191 yX11_add 1229 73 1232 5 ∧ (lw_tbl[1231]? = some (.instanceMethod yX11_add) ∧ lw_tbl[50]? = some (.selects yX11_add.cls yX11_add yX11_add)) := ⟨⟨by decide +kernel, by decide +kernel, by decide +kernel, ⟨by decide, by decide, by decide +kernel⟩, by decide, by decide⟩, ⟨by decide +kernel, by decide +kernel⟩⟩
theorem k_X11_layKind_198 : aCO M_X11_layKind M_X11_layFigures 198 yX11_layFigures 1233 73 1236 1 ∧ (lw_tbl[1235]? = some (.instanceMethod yX11_layFigures) ∧ lw_tbl[51]? = some (.selects yX11_layFigures.cls yX11_layFigures yX11_layFigures)) := ⟨⟨by decide +kernel, by decide +kernel, by decide +kernel, ⟨by decide, by decide, by decide +kernel⟩, by decide, by decide⟩, ⟨by decide +kernel, by decide +kernel⟩⟩
theorem k_X11_laySlips_204 : aCO M_X11_laySlips M_X11_layKind 204 yX11_layKind 1208 73 1211 2 ∧ (lw_tbl[1210]? = some (.instanceMethod yX11_layKind) ∧ lw_tbl[47]? = some (.selects yX11_layKind.cls yX11_layKind yX11_layKind)) := ⟨⟨by decide +kernel, by decide +kernel, by decide +kernel, ⟨by decide, by decide, by decide +kernel⟩, by decide, by decide⟩, ⟨by decide +kernel, by decide +kernel⟩⟩
theorem k_X11_layOnes_214 : aCO M_X11_layOnes M_X11_laySlips 214 yX11_laySlips 1204 73 1207 0 ∧ (lw_tbl[1206]? = some (.instanceMethod yX11_laySlips) ∧ lw_tbl[46]? = some (.selects yX11_laySlips.cls yX11_laySlips yX11_laySlips)) := ⟨⟨by decide +kernel, by decide +kernel, by decide +kernel, ⟨by decide, by decide, by decide +kernel⟩, by decide, by decide⟩, ⟨by decide +kernel, by decide +kernel⟩⟩
theorem k_X11_layOnes_155 : aCO M_X11_layOnes M_X11_outOf 155 yX11_outOf 1146 73 1149 1 ∧ (lw_tbl[1148]? = some (.instanceMethod yX11_outOf) ∧ lw_tbl[42]? = some (.selects yX11_outOf.cls yX11_outOf yX11_outOf)) := ⟨⟨by decide +kernel, by decide +kernel, by decide +kernel, ⟨by decide, by decide, by decide +kernel⟩, by decide, by decide⟩, ⟨by decide +kernel, by decide +kernel⟩⟩
theorem k_X11_isNarrow_159 : aCO M_X11_isNarrow M_X11_hasDue 159 yX11_hasDue 1155 73 1158 1 ∧ (lw_tbl[1157]? = some (.instanceMethod yX11_hasDue) ∧ lw_tbl[43]? = some (.selects yX11_hasDue.cls yX11_hasDue yX11_hasDue)) := ⟨⟨by decide +kernel, by decide +kernel, by decide +kernel, ⟨by decide, by decide, by decide +kernel⟩, by decide, by decide⟩, ⟨by decide +kernel, by decide +kernel⟩⟩
theorem k_X11_offOf_155 : aCO M_X11_offOf M_X11_outOf 155 yX11_outOf 1146 73 1149 1 ∧ (lw_tbl[1148]? = some (.instanceMethod yX11_outOf) ∧ lw_tbl[42]? = some (.selects yX11_outOf.cls yX11_outOf yX11_outOf)) := ⟨⟨by decide +kernel, by decide +kernel, by decide +kernel, ⟨by decide, by decide, by decide +kernel⟩, by decide, by decide⟩, ⟨by decide +kernel, by decide +kernel⟩⟩
theorem k_X11_isNarrow_162 : aCO M_X11_isNarrow M_X11_offOf 162 yX11_offOf 1159 73 1162 1 ∧ (lw_tbl[1161]? = some (.instanceMethod yX11_offOf) ∧ lw_tbl[44]? = some (.selects yX11_offOf.cls yX11_offOf yX11_offOf)) := ⟨⟨by decide +kernel, by decide +kernel, by decide +kernel, ⟨by decide, by decide, by decide +kernel⟩, by decide, by decide⟩, ⟨by decide +kernel, by decide +kernel⟩⟩
theorem k_X11_layOnes_220 : aCO M_X11_layOnes M_X11_isNarrow 220 yX11_isNarrow 1245 73 1248 1 ∧ (lw_tbl[1247]? = some (.instanceMethod yX11_isNarrow) ∧ lw_tbl[54]? = some (.selects yX11_isNarrow.cls yX11_isNarrow yX11_isNarrow)) := ⟨⟨by decide +kernel, by decide +kernel, by decide +kernel, ⟨by decide, by decide, by decide +kernel⟩, by decide, by decide⟩, ⟨by decide +kernel, by decide +kernel⟩⟩
theorem k_X11_chance_227 : aCO M_X11_chance M_X11_layOnes 227 yX11_layOnes 1200 73 1203 1 ∧ (lw_tbl[1202]? = some (.instanceMethod yX11_layOnes) ∧ lw_tbl[45]? = some (.selects yX11_layOnes.cls yX11_layOnes yX11_layOnes)) := ⟨⟨by decide +kernel, by decide +kernel, by decide +kernel, ⟨by decide, by decide, by decide +kernel⟩, by decide, by decide⟩, ⟨by decide +kernel, by decide +kernel⟩⟩
theorem k_X11_chance_70 : aCO M_X11_chance M_X11_in 70 yX11_in 1065 73 1067 3 ∧ lw_tbl[1066]? = some (.static yX11_in) := ⟨⟨by decide +kernel, by decide +kernel, by decide +kernel, ⟨by decide, by decide, by decide +kernel⟩, by decide, by decide⟩, by decide +kernel⟩
theorem k_X11_isPart_70 : aCO M_X11_isPart M_X11_in 70 yX11_in 1065 73 1067 3 ∧ lw_tbl[1066]? = some (.static yX11_in) := ⟨⟨by decide +kernel, by decide +kernel, by decide +kernel, ⟨by decide, by decide, by decide +kernel⟩, by decide, by decide⟩, by decide +kernel⟩
theorem k_X11_chance_263 : aCO M_X11_chance M_X11_isPart 263 yX11_isPart 1284 73 1286 1 ∧ lw_tbl[1285]? = some (.static yX11_isPart) := ⟨⟨by decide +kernel, by decide +kernel, by decide +kernel, ⟨by decide, by decide, by decide +kernel⟩, by decide, by decide⟩, by decide +kernel⟩
theorem k_X11_chance_268 : aCO M_X11_chance M_X11_oneWeights 268 yX11_oneWeights 1288 73 1291 0 ∧ (lw_tbl[1290]? = some (.instanceMethod yX11_oneWeights) ∧ lw_tbl[58]? = some (.selects yX11_oneWeights.cls yX11_oneWeights yX11_oneWeights)) := ⟨⟨by decide +kernel, by decide +kernel, by decide +kernel, ⟨by decide, by decide, by decide +kernel⟩, by decide, by decide⟩, ⟨by decide +kernel, by decide +kernel⟩⟩
theorem k_X11_chance_155 : aCO M_X11_chance M_X11_outOf 155 yX11_outOf 1146 73 1149 1 ∧ (lw_tbl[1148]? = some (.instanceMethod yX11_outOf) ∧ lw_tbl[42]? = some (.selects yX11_outOf.cls yX11_outOf yX11_outOf)) := ⟨⟨by decide +kernel, by decide +kernel, by decide +kernel, ⟨by decide, by decide, by decide +kernel⟩, by decide, by decide⟩, ⟨by decide +kernel, by decide +kernel⟩⟩
theorem k_X11_layPairs_246 : aCO M_X11_layPairs M_X11_arePair 246 yX11_arePair 1267 73 1270 2 ∧ (lw_tbl[1269]? = some (.instanceMethod yX11_arePair) ∧ lw_tbl[57]? = some (.selects yX11_arePair.cls yX11_arePair yX11_arePair)) := ⟨⟨by decide +kernel, by decide +kernel, by decide +kernel, ⟨by decide, by decide, by decide +kernel⟩, by decide, by decide⟩, ⟨by decide +kernel, by decide +kernel⟩⟩
theorem k_X11_chance_249 : aCO M_X11_chance M_X11_layPairs 249 yX11_layPairs 1263 73 1266 1 ∧ (lw_tbl[1265]? = some (.instanceMethod yX11_layPairs) ∧ lw_tbl[56]? = some (.selects yX11_layPairs.cls yX11_layPairs yX11_layPairs)) := ⟨⟨by decide +kernel, by decide +kernel, by decide +kernel, ⟨by decide, by decide, by decide +kernel⟩, by decide, by decide⟩, ⟨by decide +kernel, by decide +kernel⟩⟩
theorem k_X11_lowest_257 : aCO M_X11_lowest M_X11_divisor 257 yX11_divisor 1295 73 1297 2 ∧ lw_tbl[1296]? = some (.static yX11_divisor) := ⟨⟨by decide +kernel, by decide +kernel, by decide +kernel, ⟨by decide, by decide, by decide +kernel⟩, by decide, by decide⟩, by decide +kernel⟩
theorem k_X11_chance_272 : aCO M_X11_chance M_X11_lowest 272 yX11_lowest 1292 73 1294 3 ∧ lw_tbl[1293]? = some (.static yX11_lowest) := ⟨⟨by decide +kernel, by decide +kernel, by decide +kernel, ⟨by decide, by decide, by decide +kernel⟩, by decide, by decide⟩, by decide +kernel⟩
theorem k_X11_isEntry_70 : aCO M_X11_isEntry M_X11_in 70 yX11_in 1065 73 1067 3 ∧ lw_tbl[1066]? = some (.static yX11_in) := ⟨⟨by decide +kernel, by decide +kernel, by decide +kernel, ⟨by decide, by decide, by decide +kernel⟩, by decide, by decide⟩, by decide +kernel⟩
theorem k_X11_entry_146 : aCO M_X11_entry M_X11_isEntry 146 yX11_isEntry 1135 73 1138 1 ∧ (lw_tbl[1137]? = some (.instanceMethod yX11_isEntry) ∧ lw_tbl[41]? = some (.selects yX11_isEntry.cls yX11_isEntry yX11_isEntry)) := ⟨⟨by decide +kernel, by decide +kernel, by decide +kernel, ⟨by decide, by decide, by decide +kernel⟩, by decide, by decide⟩, ⟨by decide +kernel, by decide +kernel⟩⟩
theorem k_X11_entry_70 : aCO M_X11_entry M_X11_in 70 yX11_in 1065 73 1067 3 ∧ lw_tbl[1066]? = some (.static yX11_in) := ⟨⟨by decide +kernel, by decide +kernel, by decide +kernel, ⟨by decide, by decide, by decide +kernel⟩, by decide, by decide⟩, by decide +kernel⟩
theorem k_X11_hide_70 : aCO M_X11_hide M_X11_in 70 yX11_in 1065 73 1067 3 ∧ lw_tbl[1066]? = some (.static yX11_in) := ⟨⟨by decide +kernel, by decide +kernel, by decide +kernel, ⟨by decide, by decide, by decide +kernel⟩, by decide, by decide⟩, by decide +kernel⟩
theorem k_X11_layTwo_214 : aCO M_X11_layTwo M_X11_laySlips 214 yX11_laySlips 1204 73 1207 0 ∧ (lw_tbl[1206]? = some (.instanceMethod yX11_laySlips) ∧ lw_tbl[46]? = some (.selects yX11_laySlips.cls yX11_laySlips yX11_laySlips)) := ⟨⟨by decide +kernel, by decide +kernel, by decide +kernel, ⟨by decide, by decide, by decide +kernel⟩, by decide, by decide⟩, ⟨by decide +kernel, by decide +kernel⟩⟩
theorem k_X11_layTwo_155 : aCO M_X11_layTwo M_X11_outOf 155 yX11_outOf 1146 73 1149 1 ∧ (lw_tbl[1148]? = some (.instanceMethod yX11_outOf) ∧ lw_tbl[42]? = some (.selects yX11_outOf.cls yX11_outOf yX11_outOf)) := ⟨⟨by decide +kernel, by decide +kernel, by decide +kernel, ⟨by decide, by decide, by decide +kernel⟩, by decide, by decide⟩, ⟨by decide +kernel, by decide +kernel⟩⟩
theorem k_X11_layTwo_249 : aCO M_X11_layTwo M_X11_layPairs 249 yX11_layPairs 1263 73 1266 1 ∧ (lw_tbl[1265]? = some (.instanceMethod yX11_layPairs) ∧ lw_tbl[56]? = some (.selects yX11_layPairs.cls yX11_layPairs yX11_layPairs)) := ⟨⟨by decide +kernel, by decide +kernel, by decide +kernel, ⟨by decide, by decide, by decide +kernel⟩, by decide, by decide⟩, ⟨by decide +kernel, by decide +kernel⟩⟩
theorem k_X11_hide_254 : aCO M_X11_hide M_X11_layTwo 254 yX11_layTwo 1259 73 1262 1 ∧ (lw_tbl[1261]? = some (.instanceMethod yX11_layTwo) ∧ lw_tbl[55]? = some (.selects yX11_layTwo.cls yX11_layTwo yX11_layTwo)) := ⟨⟨by decide +kernel, by decide +kernel, by decide +kernel, ⟨by decide, by decide, by decide +kernel⟩, by decide, by decide⟩, ⟨by decide +kernel, by decide +kernel⟩⟩
theorem k_X11_judge_146 : aCO M_X11_judge M_X11_isEntry 146 yX11_isEntry 1135 73 1138 1 ∧ (lw_tbl[1137]? = some (.instanceMethod yX11_isEntry) ∧ lw_tbl[41]? = some (.selects yX11_isEntry.cls yX11_isEntry yX11_isEntry)) := ⟨⟨by decide +kernel, by decide +kernel, by decide +kernel, ⟨by decide, by decide, by decide +kernel⟩, by decide, by decide⟩, ⟨by decide +kernel, by decide +kernel⟩⟩
theorem k_X11_judge_70 : aCO M_X11_judge M_X11_in 70 yX11_in 1065 73 1067 3 ∧ lw_tbl[1066]? = some (.static yX11_in) := ⟨⟨by decide +kernel, by decide +kernel, by decide +kernel, ⟨by decide, by decide, by decide +kernel⟩, by decide, by decide⟩, by decide +kernel⟩
theorem k_X11_isFigure_182 : aCO M_X11_isFigure M_X11_figures 182 yX11_figures 1212 73 1214 1 ∧ lw_tbl[1213]? = some (.static yX11_figures) := ⟨⟨by decide +kernel, by decide +kernel, by decide +kernel, ⟨by decide, by decide, by decide +kernel⟩, by decide, by decide⟩, by decide +kernel⟩
theorem k_X11_isFigure_178 : aCO M_X11_isFigure M_X11_figure 178 yX11_figure 1218 73 1220 2 ∧ lw_tbl[1219]? = some (.static yX11_figure) := ⟨⟨by decide +kernel, by decide +kernel, by decide +kernel, ⟨by decide, by decide, by decide +kernel⟩, by decide, by decide⟩, by decide +kernel⟩
theorem k_X11_judge_288 : aCO M_X11_judge M_X11_isFigure 288 yX11_isFigure 1325 73 1327 2 ∧ lw_tbl[1326]? = some (.static yX11_isFigure) := ⟨⟨by decide +kernel, by decide +kernel, by decide +kernel, ⟨by decide, by decide, by decide +kernel⟩, by decide, by decide⟩, by decide +kernel⟩
theorem k_X11_isTurned_182 : aCO M_X11_isTurned M_X11_figures 182 yX11_figures 1212 73 1214 1 ∧ lw_tbl[1213]? = some (.static yX11_figures) := ⟨⟨by decide +kernel, by decide +kernel, by decide +kernel, ⟨by decide, by decide, by decide +kernel⟩, by decide, by decide⟩, by decide +kernel⟩
theorem k_X11_isTurned_195 : aCO M_X11_isTurned M_X11_turned 195 yX11_turned 1215 73 1217 2 ∧ lw_tbl[1216]? = some (.static yX11_turned) := ⟨⟨by decide +kernel, by decide +kernel, by decide +kernel, ⟨by decide, by decide, by decide +kernel⟩, by decide, by decide⟩, by decide +kernel⟩
theorem k_X11_judge_285 : aCO M_X11_judge M_X11_isTurned 285 yX11_isTurned 1322 73 1324 2 ∧ lw_tbl[1323]? = some (.static yX11_isTurned) := ⟨⟨by decide +kernel, by decide +kernel, by decide +kernel, ⟨by decide, by decide, by decide +kernel⟩, by decide, by decide⟩, by decide +kernel⟩
theorem k_X11_judge_201 : aCO M_X11_judge M_X11_isTwice 201 yX11_isTwice 1237 73 1240 1 ∧ (lw_tbl[1239]? = some (.instanceMethod yX11_isTwice) ∧ lw_tbl[52]? = some (.selects yX11_isTwice.cls yX11_isTwice yX11_isTwice)) := ⟨⟨by decide +kernel, by decide +kernel, by decide +kernel, ⟨by decide, by decide, by decide +kernel⟩, by decide, by decide⟩, ⟨by decide +kernel, by decide +kernel⟩⟩
theorem k_X11_isHand_70 : aCO M_X11_isHand M_X11_in 70 yX11_in 1065 73 1067 3 ∧ lw_tbl[1066]? = some (.static yX11_in) := ⟨⟨by decide +kernel, by decide +kernel, by decide +kernel, ⟨by decide, by decide, by decide +kernel⟩, by decide, by decide⟩, by decide +kernel⟩
theorem k_X11_learn_167 : aCO M_X11_learn M_X11_isHand 167 yX11_isHand 1167 73 1169 1 ∧ lw_tbl[1168]? = some (.static yX11_isHand) := ⟨⟨by decide +kernel, by decide +kernel, by decide +kernel, ⟨by decide, by decide, by decide +kernel⟩, by decide, by decide⟩, by decide +kernel⟩
theorem k_X11_learn_70 : aCO M_X11_learn M_X11_in 70 yX11_in 1065 73 1067 3 ∧ lw_tbl[1066]? = some (.static yX11_in) := ⟨⟨by decide +kernel, by decide +kernel, by decide +kernel, ⟨by decide, by decide, by decide +kernel⟩, by decide, by decide⟩, by decide +kernel⟩
theorem k_X11_layLooks_227 : aCO M_X11_layLooks M_X11_layOnes 227 yX11_layOnes 1200 73 1203 1 ∧ (lw_tbl[1202]? = some (.instanceMethod yX11_layOnes) ∧ lw_tbl[45]? = some (.selects yX11_layOnes.cls yX11_layOnes yX11_layOnes)) := ⟨⟨by decide +kernel, by decide +kernel, by decide +kernel, ⟨by decide, by decide, by decide +kernel⟩, by decide, by decide⟩, ⟨by decide +kernel, by decide +kernel⟩⟩
theorem k_X11_isAhead_182 : aCO M_X11_isAhead M_X11_figures 182 yX11_figures 1212 73 1214 1 ∧ lw_tbl[1213]? = some (.static yX11_figures) := ⟨⟨by decide +kernel, by decide +kernel, by decide +kernel, ⟨by decide, by decide, by decide +kernel⟩, by decide, by decide⟩, by decide +kernel⟩
theorem k_X11_layLooks_279 : aCO M_X11_layLooks M_X11_isAhead 279 yX11_isAhead 1310 73 1313 2 ∧ (lw_tbl[1312]? = some (.instanceMethod yX11_isAhead) ∧ lw_tbl[60]? = some (.selects yX11_isAhead.cls yX11_isAhead yX11_isAhead)) := ⟨⟨by decide +kernel, by decide +kernel, by decide +kernel, ⟨by decide, by decide, by decide +kernel⟩, by decide, by decide⟩, ⟨by decide +kernel, by decide +kernel⟩⟩
theorem k_X11_look_282 : aCO M_X11_look M_X11_layLooks 282 yX11_layLooks 1306 73 1309 1 ∧ (lw_tbl[1308]? = some (.instanceMethod yX11_layLooks) ∧ lw_tbl[59]? = some (.selects yX11_layLooks.cls yX11_layLooks yX11_layLooks)) := ⟨⟨by decide +kernel, by decide +kernel, by decide +kernel, ⟨by decide, by decide, by decide +kernel⟩, by decide, by decide⟩, ⟨by decide +kernel, by decide +kernel⟩⟩
theorem k_X11_match_70 : aCO M_X11_match M_X11_in 70 yX11_in 1065 73 1067 3 ∧ lw_tbl[1066]? = some (.static yX11_in) := ⟨⟨by decide +kernel, by decide +kernel, by decide +kernel, ⟨by decide, by decide, by decide +kernel⟩, by decide, by decide⟩, by decide +kernel⟩
theorem k_X11_cost_285 : aCO M_X11_cost M_X11_isTurned 285 yX11_isTurned 1322 73 1324 2 ∧ lw_tbl[1323]? = some (.static yX11_isTurned) := ⟨⟨by decide +kernel, by decide +kernel, by decide +kernel, ⟨by decide, by decide, by decide +kernel⟩, by decide, by decide⟩, by decide +kernel⟩
theorem k_X11_cost_288 : aCO M_X11_cost M_X11_isFigure 288 yX11_isFigure 1325 73 1327 2 ∧ lw_tbl[1326]? = some (.static yX11_isFigure) := ⟨⟨by decide +kernel, by decide +kernel, by decide +kernel, ⟨by decide, by decide, by decide +kernel⟩, by decide, by decide⟩, by decide +kernel⟩
theorem k_X11_costWith_294 : aCO M_X11_costWith M_X11_cost 294 yX11_cost 1345 73 1347 2 ∧ lw_tbl[1346]? = some (.static yX11_cost) := ⟨⟨by decide +kernel, by decide +kernel, by decide +kernel, ⟨by decide, by decide, by decide +kernel⟩, by decide, by decide⟩, by decide +kernel⟩
theorem k_X11_layRest_297 : aCO M_X11_layRest M_X11_costWith 297 yX11_costWith 1341 73 1344 3 ∧ (lw_tbl[1343]? = some (.instanceMethod yX11_costWith) ∧ lw_tbl[62]? = some (.selects yX11_costWith.cls yX11_costWith yX11_costWith)) := ⟨⟨by decide +kernel, by decide +kernel, by decide +kernel, ⟨by decide, by decide, by decide +kernel⟩, by decide, by decide⟩, ⟨by decide +kernel, by decide +kernel⟩⟩
theorem k_X11_match_303 : aCO M_X11_match M_X11_layRest 303 yX11_layRest 1337 73 1340 1 ∧ (lw_tbl[1339]? = some (.instanceMethod yX11_layRest) ∧ lw_tbl[61]? = some (.selects yX11_layRest.cls yX11_layRest yX11_layRest)) := ⟨⟨by decide +kernel, by decide +kernel, by decide +kernel, ⟨by decide, by decide, by decide +kernel⟩, by decide, by decide⟩, ⟨by decide +kernel, by decide +kernel⟩⟩
theorem k_X11_match_297 : aCO M_X11_match M_X11_costWith 297 yX11_costWith 1341 73 1344 3 ∧ (lw_tbl[1343]? = some (.instanceMethod yX11_costWith) ∧ lw_tbl[62]? = some (.selects yX11_costWith.cls yX11_costWith yX11_costWith)) := ⟨⟨by decide +kernel, by decide +kernel, by decide +kernel, ⟨by decide, by decide, by decide +kernel⟩, by decide, by decide⟩, ⟨by decide +kernel, by decide +kernel⟩⟩
theorem k_X11_mean_263 : aCO M_X11_mean M_X11_isPart 263 yX11_isPart 1284 73 1286 1 ∧ lw_tbl[1285]? = some (.static yX11_isPart) := ⟨⟨by decide +kernel, by decide +kernel, by decide +kernel, ⟨by decide, by decide, by decide +kernel⟩, by decide, by decide⟩, by decide +kernel⟩
theorem k_X11_mean_282 : aCO M_X11_mean M_X11_layLooks 282 yX11_layLooks 1306 73 1309 1 ∧ (lw_tbl[1308]? = some (.instanceMethod yX11_layLooks) ∧ lw_tbl[59]? = some (.selects yX11_layLooks.cls yX11_layLooks yX11_layLooks)) := ⟨⟨by decide +kernel, by decide +kernel, by decide +kernel, ⟨by decide, by decide, by decide +kernel⟩, by decide, by decide⟩, ⟨by decide +kernel, by decide +kernel⟩⟩
theorem k_X11_mean_272 : aCO M_X11_mean M_X11_lowest 272 yX11_lowest 1292 73 1294 3 ∧ lw_tbl[1293]? = some (.static yX11_lowest) := ⟨⟨by decide +kernel, by decide +kernel, by decide +kernel, ⟨by decide, by decide, by decide +kernel⟩, by decide, by decide⟩, by decide +kernel⟩
theorem k_X11_mean_182 : aCO M_X11_mean M_X11_figures 182 yX11_figures 1212 73 1214 1 ∧ lw_tbl[1213]? = some (.static yX11_figures) := ⟨⟨by decide +kernel, by decide +kernel, by decide +kernel, ⟨by decide, by decide, by decide +kernel⟩, by decide, by decide⟩, by decide +kernel⟩
theorem k_X11_mend_146 : aCO M_X11_mend M_X11_isEntry 146 yX11_isEntry 1135 73 1138 1 ∧ (lw_tbl[1137]? = some (.instanceMethod yX11_isEntry) ∧ lw_tbl[41]? = some (.selects yX11_isEntry.cls yX11_isEntry yX11_isEntry)) := ⟨⟨by decide +kernel, by decide +kernel, by decide +kernel, ⟨by decide, by decide, by decide +kernel⟩, by decide, by decide⟩, ⟨by decide +kernel, by decide +kernel⟩⟩
theorem k_X11_mend_70 : aCO M_X11_mend M_X11_in 70 yX11_in 1065 73 1067 3 ∧ lw_tbl[1066]? = some (.static yX11_in) := ⟨⟨by decide +kernel, by decide +kernel, by decide +kernel, ⟨by decide, by decide, by decide +kernel⟩, by decide, by decide⟩, by decide +kernel⟩
theorem k_X11_mend_155 : aCO M_X11_mend M_X11_outOf 155 yX11_outOf 1146 73 1149 1 ∧ (lw_tbl[1148]? = some (.instanceMethod yX11_outOf) ∧ lw_tbl[42]? = some (.selects yX11_outOf.cls yX11_outOf yX11_outOf)) := ⟨⟨by decide +kernel, by decide +kernel, by decide +kernel, ⟨by decide, by decide, by decide +kernel⟩, by decide, by decide⟩, ⟨by decide +kernel, by decide +kernel⟩⟩
theorem k_X11_odds_167 : aCO M_X11_odds M_X11_isHand 167 yX11_isHand 1167 73 1169 1 ∧ lw_tbl[1168]? = some (.static yX11_isHand) := ⟨⟨by decide +kernel, by decide +kernel, by decide +kernel, ⟨by decide, by decide, by decide +kernel⟩, by decide, by decide⟩, by decide +kernel⟩
theorem k_X11_odds_70 : aCO M_X11_odds M_X11_in 70 yX11_in 1065 73 1067 3 ∧ lw_tbl[1066]? = some (.static yX11_in) := ⟨⟨by decide +kernel, by decide +kernel, by decide +kernel, ⟨by decide, by decide, by decide +kernel⟩, by decide, by decide⟩, by decide +kernel⟩
theorem k_X11_ofKind_70 : aCO M_X11_ofKind M_X11_in 70 yX11_in 1065 73 1067 3 ∧ lw_tbl[1066]? = some (.static yX11_in) := ⟨⟨by decide +kernel, by decide +kernel, by decide +kernel, ⟨by decide, by decide, by decide +kernel⟩, by decide, by decide⟩, by decide +kernel⟩
theorem k_X11_ofKind_227 : aCO M_X11_ofKind M_X11_layOnes 227 yX11_layOnes 1200 73 1203 1 ∧ (lw_tbl[1202]? = some (.instanceMethod yX11_layOnes) ∧ lw_tbl[45]? = some (.selects yX11_layOnes.cls yX11_layOnes yX11_layOnes)) := ⟨⟨by decide +kernel, by decide +kernel, by decide +kernel, ⟨by decide, by decide, by decide +kernel⟩, by decide, by decide⟩, ⟨by decide +kernel, by decide +kernel⟩⟩
theorem k_X11_off_70 : aCO M_X11_off M_X11_in 70 yX11_in 1065 73 1067 3 ∧ lw_tbl[1066]? = some (.static yX11_in) := ⟨⟨by decide +kernel, by decide +kernel, by decide +kernel, ⟨by decide, by decide, by decide +kernel⟩, by decide, by decide⟩, by decide +kernel⟩
theorem k_X11_off_159 : aCO M_X11_off M_X11_hasDue 159 yX11_hasDue 1155 73 1158 1 ∧ (lw_tbl[1157]? = some (.instanceMethod yX11_hasDue) ∧ lw_tbl[43]? = some (.selects yX11_hasDue.cls yX11_hasDue yX11_hasDue)) := ⟨⟨by decide +kernel, by decide +kernel, by decide +kernel, ⟨by decide, by decide, by decide +kernel⟩, by decide, by decide⟩, ⟨by decide +kernel, by decide +kernel⟩⟩
theorem k_X11_off_162 : aCO M_X11_off M_X11_offOf 162 yX11_offOf 1159 73 1162 1 ∧ (lw_tbl[1161]? = some (.instanceMethod yX11_offOf) ∧ lw_tbl[44]? = some (.selects yX11_offOf.cls yX11_offOf yX11_offOf)) := ⟨⟨by decide +kernel, by decide +kernel, by decide +kernel, ⟨by decide, by decide, by decide +kernel⟩, by decide, by decide⟩, ⟨by decide +kernel, by decide +kernel⟩⟩
theorem k_X11_one_70 : aCO M_X11_one M_X11_in 70 yX11_in 1065 73 1067 3 ∧ lw_tbl[1066]? = some (.static yX11_in) := ⟨⟨by decide +kernel, by decide +kernel, by decide +kernel, ⟨by decide, by decide, by decide +kernel⟩, by decide, by decide⟩, by decide +kernel⟩
theorem k_X11_one_227 : aCO M_X11_one M_X11_layOnes 227 yX11_layOnes 1200 73 1203 1 ∧ (lw_tbl[1202]? = some (.instanceMethod yX11_layOnes) ∧ lw_tbl[45]? = some (.selects yX11_layOnes.cls yX11_layOnes yX11_layOnes)) := ⟨⟨by decide +kernel, by decide +kernel, by decide +kernel, ⟨by decide, by decide, by decide +kernel⟩, by decide, by decide⟩, ⟨by decide +kernel, by decide +kernel⟩⟩
theorem k_X11_other_70 : aCO M_X11_other M_X11_in 70 yX11_in 1065 73 1067 3 ∧ lw_tbl[1066]? = some (.static yX11_in) := ⟨⟨by decide +kernel, by decide +kernel, by decide +kernel, ⟨by decide, by decide, by decide +kernel⟩, by decide, by decide⟩, by decide +kernel⟩
theorem k_X11_out_70 : aCO M_X11_out M_X11_in 70 yX11_in 1065 73 1067 3 ∧ lw_tbl[1066]? = some (.static yX11_in) := ⟨⟨by decide +kernel, by decide +kernel, by decide +kernel, ⟨by decide, by decide, by decide +kernel⟩, by decide, by decide⟩, by decide +kernel⟩
theorem k_X11_out_155 : aCO M_X11_out M_X11_outOf 155 yX11_outOf 1146 73 1149 1 ∧ (lw_tbl[1148]? = some (.instanceMethod yX11_outOf) ∧ lw_tbl[42]? = some (.selects yX11_outOf.cls yX11_outOf yX11_outOf)) := ⟨⟨by decide +kernel, by decide +kernel, by decide +kernel, ⟨by decide, by decide, by decide +kernel⟩, by decide, by decide⟩, ⟨by decide +kernel, by decide +kernel⟩⟩
theorem k_X11_pair_70 : aCO M_X11_pair M_X11_in 70 yX11_in 1065 73 1067 3 ∧ lw_tbl[1066]? = some (.static yX11_in) := ⟨⟨by decide +kernel, by decide +kernel, by decide +kernel, ⟨by decide, by decide, by decide +kernel⟩, by decide, by decide⟩, by decide +kernel⟩
theorem k_X11_pair_254 : aCO M_X11_pair M_X11_layTwo 254 yX11_layTwo 1259 73 1262 1 ∧ (lw_tbl[1261]? = some (.instanceMethod yX11_layTwo) ∧ lw_tbl[55]? = some (.selects yX11_layTwo.cls yX11_layTwo yX11_layTwo)) := ⟨⟨by decide +kernel, by decide +kernel, by decide +kernel, ⟨by decide, by decide, by decide +kernel⟩, by decide, by decide⟩, ⟨by decide +kernel, by decide +kernel⟩⟩
theorem k_X11_signs_155 : aCO M_X11_signs M_X11_outOf 155 yX11_outOf 1146 73 1149 1 ∧ (lw_tbl[1148]? = some (.instanceMethod yX11_outOf) ∧ lw_tbl[42]? = some (.selects yX11_outOf.cls yX11_outOf yX11_outOf)) := ⟨⟨by decide +kernel, by decide +kernel, by decide +kernel, ⟨by decide, by decide, by decide +kernel⟩, by decide, by decide⟩, ⟨by decide +kernel, by decide +kernel⟩⟩
theorem k_X11_signs_208 : aCO M_X11_signs M_X11_size 208 yX11_size 1188 73 1190 1 ∧ lw_tbl[1189]? = some (.static yX11_size) := ⟨⟨by decide +kernel, by decide +kernel, by decide +kernel, ⟨by decide, by decide, by decide +kernel⟩, by decide, by decide⟩, by decide +kernel⟩
theorem k_X11_signs_175 : aCO M_X11_signs M_X11_power 175 yX11_power 1193 73 1195 1 ∧ lw_tbl[1194]? = some (.static yX11_power) := ⟨⟨by decide +kernel, by decide +kernel, by decide +kernel, ⟨by decide, by decide, by decide +kernel⟩, by decide, by decide⟩, by decide +kernel⟩
theorem k_X11_strike_146 : aCO M_X11_strike M_X11_isEntry 146 yX11_isEntry 1135 73 1138 1 ∧ (lw_tbl[1137]? = some (.instanceMethod yX11_isEntry) ∧ lw_tbl[41]? = some (.selects yX11_isEntry.cls yX11_isEntry yX11_isEntry)) := ⟨⟨by decide +kernel, by decide +kernel, by decide +kernel, ⟨by decide, by decide, by decide +kernel⟩, by decide, by decide⟩, ⟨by decide +kernel, by decide +kernel⟩⟩
theorem k_X11_two_70 : aCO M_X11_two M_X11_in 70 yX11_in 1065 73 1067 3 ∧ lw_tbl[1066]? = some (.static yX11_in) := ⟨⟨by decide +kernel, by decide +kernel, by decide +kernel, ⟨by decide, by decide, by decide +kernel⟩, by decide, by decide⟩, by decide +kernel⟩
theorem k_X11_two_254 : aCO M_X11_two M_X11_layTwo 254 yX11_layTwo 1259 73 1262 1 ∧ (lw_tbl[1261]? = some (.instanceMethod yX11_layTwo) ∧ lw_tbl[55]? = some (.selects yX11_layTwo.cls yX11_layTwo yX11_layTwo)) := ⟨⟨by decide +kernel, by decide +kernel, by decide +kernel, ⟨by decide, by decide, by decide +kernel⟩, by decide, by decide⟩, ⟨by decide +kernel, by decide +kernel⟩⟩
theorem k_X11_whose_167 : aCO M_X11_whose M_X11_isHand 167 yX11_isHand 1167 73 1169 1 ∧ lw_tbl[1168]? = some (.static yX11_isHand) := ⟨⟨by decide +kernel, by decide +kernel, by decide +kernel, ⟨by decide, by decide, by decide +kernel⟩, by decide, by decide⟩, by decide +kernel⟩
theorem k_X11_whose_263 : aCO M_X11_whose M_X11_isPart 263 yX11_isPart 1284 73 1286 1 ∧ lw_tbl[1285]? = some (.static yX11_isPart) := ⟨⟨by decide +kernel, by decide +kernel, by decide +kernel, ⟨by decide, by decide, by decide +kernel⟩, by decide, by decide⟩, by decide +kernel⟩
theorem k_X11_whose_227 : aCO M_X11_whose M_X11_layOnes 227 yX11_layOnes 1200 73 1203 1 ∧ (lw_tbl[1202]? = some (.instanceMethod yX11_layOnes) ∧ lw_tbl[45]? = some (.selects yX11_layOnes.cls yX11_layOnes yX11_layOnes)) := ⟨⟨by decide +kernel, by decide +kernel, by decide +kernel, ⟨by decide, by decide, by decide +kernel⟩, by decide, by decide⟩, ⟨by decide +kernel, by decide +kernel⟩⟩
theorem k_X11_whose_268 : aCO M_X11_whose M_X11_oneWeights 268 yX11_oneWeights 1288 73 1291 0 ∧ (lw_tbl[1290]? = some (.instanceMethod yX11_oneWeights) ∧ lw_tbl[58]? = some (.selects yX11_oneWeights.cls yX11_oneWeights yX11_oneWeights)) := ⟨⟨by decide +kernel, by decide +kernel, by decide +kernel, ⟨by decide, by decide, by decide +kernel⟩, by decide, by decide⟩, ⟨by decide +kernel, by decide +kernel⟩⟩
theorem k_X11_whose_272 : aCO M_X11_whose M_X11_lowest 272 yX11_lowest 1292 73 1294 3 ∧ lw_tbl[1293]? = some (.static yX11_lowest) := ⟨⟨by decide +kernel, by decide +kernel, by decide +kernel, ⟨by decide, by decide, by decide +kernel⟩, by decide, by decide⟩, by decide +kernel⟩
theorem k_X11_write_70 : aCO M_X11_write M_X11_in 70 yX11_in 1065 73 1067 3 ∧ lw_tbl[1066]? = some (.static yX11_in) := ⟨⟨by decide +kernel, by decide +kernel, by decide +kernel, ⟨by decide, by decide, by decide +kernel⟩, by decide, by decide⟩, by decide +kernel⟩
end
section
def X9_init_1_c2 (S : aSt) : aSt := (aClr (aClr (aClr (aClr (aClr (aClr S 2) 3) 4) 5) 6) 7)
set_option maxHeartbeats 4000000 in
set_option maxRecDepth 100000 in
theorem J_X9_init_1_c2 (l : Launch) (g : aWg) (S : aSt) {r : aSt} (hf : X9_init_1_c2 S = r) : aJ l g yX9_init M_X9_init [.ref 1] Ly1 S none Ly13 r 6 853 := by
  refine aJ_of (by decide) rfl (Nat.le_of_ble_eq_true rfl) (fun _ => rfl) ?_
  intro C hg hl hC hz hF
  subst hg; subst hl
  have hT := ok_X9_init
  unfold X9_init_1_c2 at hf
  show aX C M_X9_init 0 0 (0, [(0, .ref 1)], [], Ly1, S)
  refine aRun_ok hC hT 1 (cf' := (1, [(0, .ref 1)], [.ref 1], Ly1, S)) (by rfl) ?_
  refine aObjI hC hT rfl (p1 := 95) (p2 := 88) (p3 := 89) (by decide +kernel) (by decide +kernel) (by decide +kernel) (by decide) (by decide) ?_
  refine aRun_ok hC hT 2 (cf' := (8, [(0, .ref 1)], [.int (200 : Int32), .ref 1], Ly1, S)) (by rfl) ?_
  refine aNewA (N := 200) hC hT rfl (p1 := 127) (by decide +kernel) 0 (by decide) (by decide) (by decide) (by decide) (by decide) (len := 2) rfl (by decide) (lay' := Ly2) rfl ?_
  refine aRun_ok hC hT 3 (cf' := (17, [(0, .ref 1)], [.int (201 : Int32), .ref 1], Ly3, (aClr S 2))) (by rfl) ?_
  refine aNewA (N := 201) hC hT rfl (p1 := 127) (by decide +kernel) 0 (by decide) (by decide) (by decide) (by decide) (by decide) (len := 3) rfl (by decide) (lay' := Ly4) rfl ?_
  refine aRun_ok hC hT 3 (cf' := (26, [(0, .ref 1)], [.int (201 : Int32), .ref 1], Ly5, (aClr (aClr S 2) 3))) (by rfl) ?_
  refine aNewA (N := 201) hC hT rfl (p1 := 127) (by decide +kernel) 0 (by decide) (by decide) (by decide) (by decide) (by decide) (len := 4) rfl (by decide) (lay' := Ly6) rfl ?_
  refine aRun_ok hC hT 3 (cf' := (35, [(0, .ref 1)], [.int (201 : Int32), .ref 1], Ly7, (aClr (aClr (aClr S 2) 3) 4))) (by rfl) ?_
  refine aNewA (N := 201) hC hT rfl (p1 := 127) (by decide +kernel) 0 (by decide) (by decide) (by decide) (by decide) (by decide) (len := 5) rfl (by decide) (lay' := Ly8) rfl ?_
  refine aRun_ok hC hT 3 (cf' := (43, [(0, .ref 1)], [.int (10 : Int32), .ref 1], Ly9, (aClr (aClr (aClr (aClr S 2) 3) 4) 5))) (by rfl) ?_
  refine aNewA (N := 10) hC hT rfl (p1 := 127) (by decide +kernel) 0 (by decide) (by decide) (by decide) (by decide) (by decide) (len := 6) rfl (by decide) (lay' := Ly10) rfl ?_
  refine aRun_ok hC hT 3 (cf' := (51, [(0, .ref 1)], [.int (40 : Int32), .ref 1], Ly11, (aClr (aClr (aClr (aClr (aClr S 2) 3) 4) 5) 6))) (by rfl) ?_
  refine aNewA (N := 40) hC hT rfl (p1 := 127) (by decide +kernel) 0 (by decide) (by decide) (by decide) (by decide) (by decide) (len := 7) rfl (by decide) (lay' := Ly12) rfl ?_
  refine aRun_ok hC hT 1 (cf' := (56, [(0, .ref 1)], [], Ly13, (aClr (aClr (aClr (aClr (aClr (aClr S 2) 3) 4) 5) 6) 7))) (by rfl) ?_
  subst hf
  exact aRetV hC hT hF rfl rfl
def J7_fill_53178_10_c14_b5 (N : Nat) (rec5 : Int32 → Int32 → Int32 → aSt → Option (aSt)) (v1 : Int32) (v2 : Int32) (v3 : Int32) (S : aSt) : Option (aSt) := (if v3 ≤ v2 then some (S) else (if aIx v2 20 = true then (rec5 v1 (v2 + (1 : Int32)) v3 (aA S 10 (upd (S.2.2 10) v2.toNatClampNeg v1))) else none))
set_option maxHeartbeats 4000000 in
set_option maxRecDepth 100000 in
theorem J7_fill_53178_10_c14_b5_ok {C : aC} {N : Nat} {rec5 : Int32 → Int32 → Int32 → aSt → Option (aSt)} (hC : aCx C M_J7_fill_53178) {r : aSt} (hF : aFin C none Ly25 r 0 0) (hrec5 : ∀ (v1 : Int32) (v2 : Int32) (v3 : Int32) (S : aSt), rec5 v1 v2 v3 S = (some r) → aX C M_J7_fill_53178 0 0 (5, [(0, .ref 10), (1, .int v1), (2, .int v2), (3, .int v3)], [], Ly25, S)) (v1 : Int32) (v2 : Int32) (v3 : Int32) (S : aSt) (hf : J7_fill_53178_10_c14_b5 N rec5 v1 v2 v3 S = (some r)) : aX C M_J7_fill_53178 0 0 (5, [(0, .ref 10), (1, .int v1), (2, .int v2), (3, .int v3)], [], Ly25, S) := by
  have hT := ok_J7_fill_53178
  unfold J7_fill_53178_10_c14_b5 at hf
  refine aRun_ok hC hT 2 (cf' := (7, [(0, .ref 10), (1, .int v1), (2, .int v2), (3, .int v3)], [.int v3, .int v2], Ly25, S)) (by rfl) ?_
  refine aCmp_ge hC hT (tgt := 20) rfl (by decide) (fun hc1 => ?_) (fun hc1 => ?_)
  · have hf := aIfT hf hc1
    cases hf
    exact aRetV hC hT hF rfl rfl
  · have hf := aIfF hf hc1
    refine aRun_ok hC hT 3 (cf' := (13, [(0, .ref 10), (1, .int v1), (2, .int v2), (3, .int v3)], [.int v1, .int v2, .ref 10], Ly25, S)) (by rfl) ?_
    obtain ⟨hin2, hf⟩ := aGdE hf
    refine aIast hC hT rfl (by decide) (by rfl) hin2 ?_
    refine aRun_ok hC hT 2 (cf' := (5, [(2, .int (v2 + (1 : Int32))), (0, .ref 10), (1, .int v1), (3, .int v3)], [], Ly25, (aA S 10 (upd (S.2.2 10) v2.toNatClampNeg v1)))) (by rfl) ?_
    refine aLocs [1, 2, 0, 3] (lv' := [(0, .ref 10), (1, .int v1), (2, .int (v2 + (1 : Int32))), (3, .int v3)]) rfl ?_
    exact hrec5 v1 (v2 + (1 : Int32)) v3 (aA S 10 (upd (S.2.2 10) v2.toNatClampNeg v1)) hf
def J7_fill_53178_10_c14_l5 (N : Nat) : Nat → Int32 → Int32 → Int32 → aSt → Option (aSt)
  | 0 => fun _ _ _ _ => none
  | n + 1 => J7_fill_53178_10_c14_b5 N (J7_fill_53178_10_c14_l5 N n)
theorem J7_fill_53178_10_c14_l5_ok {C : aC} {N : Nat} (hC : aCx C M_J7_fill_53178) {r : aSt} (hF : aFin C none Ly25 r 0 0) : ∀ (n : Nat) (v1 : Int32) (v2 : Int32) (v3 : Int32) (S : aSt), J7_fill_53178_10_c14_l5 N n v1 v2 v3 S = (some r) → aX C M_J7_fill_53178 0 0 (5, [(0, .ref 10), (1, .int v1), (2, .int v2), (3, .int v3)], [], Ly25, S)
  | 0, _, _, _, _,  h => nomatch (show (none : Option (aSt)) = some _ from h)
  | n + 1, v1, v2, v3, S,  h => J7_fill_53178_10_c14_b5_ok hC hF (fun v1 v2 v3 S h => J7_fill_53178_10_c14_l5_ok hC hF n v1 v2 v3 S h) v1 v2 v3 S h
def J7_fill_53178_10_c14 (N : Nat) (a1 : Int32) (S : aSt) : Option (aSt) := (J7_fill_53178_10_c14_l5 N N a1 (0 : Int32) (20 : Int32) S)
set_option maxHeartbeats 4000000 in
set_option maxRecDepth 100000 in
theorem J_J7_fill_53178_10_c14 (l : Launch) (g : aWg) (N : Nat) (a1 : Int32) (S : aSt) {r : aSt} (hf : J7_fill_53178_10_c14 N a1 S = (some r)) : aJ l g yJ7_fill_53178 M_J7_fill_53178 [.ref 10, .int a1] Ly25 S none Ly25 r 0 0 := by
  refine aJ_of (by decide) rfl (Nat.le_of_ble_eq_true rfl) (fun h => nomatch h) ?_
  intro C hg hl hC hz hF
  subst hg; subst hl
  have hT := ok_J7_fill_53178
  unfold J7_fill_53178_10_c14 at hf
  show aX C M_J7_fill_53178 0 0 (0, [(0, .ref 10), (1, .int a1)], [], Ly25, S)
  refine aRun_ok hC hT 5 (cf' := (5, [(3, .int (20 : Int32)), (2, .int (0 : Int32)), (0, .ref 10), (1, .int a1)], [], Ly25, S)) (by rfl) ?_
  refine aLocs [2, 3, 1, 0] (lv' := [(0, .ref 10), (1, .int a1), (2, .int (0 : Int32)), (3, .int (20 : Int32))]) rfl ?_
  exact J7_fill_53178_10_c14_l5_ok hC hF N a1 (0 : Int32) (20 : Int32) S hf
def X2_init_8_c9 (N : Nat) (S : aSt) : Option (aSt) := (Option.bind (J7_fill_53178_10_c14 N (1 : Int32) (aClr (aClr (aClr (aClr (aClr (aI (aI (aI S 8 1 (1 : Int32)) 8 2 (1 : Int32)) 8 3 (1 : Int32)) 9) 10) 11) 12) 13)) (fun v1 => some (v1)))
set_option maxHeartbeats 4000000 in
set_option maxRecDepth 100000 in
theorem J_X2_init_8_c9 (l : Launch) (g : aWg) (N : Nat) (S : aSt) {r : aSt} (hf : X2_init_8_c9 N S = (some r)) : aJ l g yX2_init M_X2_init [.ref 8] Ly15 S none Ly25 r 5 282 := by
  refine aJ_of (by decide) rfl (Nat.le_of_ble_eq_true rfl) (fun _ => rfl) ?_
  intro C hg hl hC hz hF
  subst hg; subst hl
  have hT := ok_X2_init
  unfold X2_init_8_c9 at hf
  show aX C M_X2_init 0 0 (0, [(0, .ref 8)], [], Ly15, S)
  refine aRun_ok hC hT 1 (cf' := (1, [(0, .ref 8)], [.ref 8], Ly15, S)) (by rfl) ?_
  refine aObjI hC hT rfl (p1 := 133) (p2 := 88) (p3 := 89) (by decide +kernel) (by decide +kernel) (by decide +kernel) (by decide) (by decide) ?_
  refine aRun_ok hC hT 11 (cf' := (23, [(0, .ref 8)], [.int (150 : Int32), .ref 8], Ly15, (aI (aI (aI S 8 1 (1 : Int32)) 8 2 (1 : Int32)) 8 3 (1 : Int32)))) (by rfl) ?_
  refine aNewA (N := 150) hC hT rfl (p1 := 127) (by decide +kernel) 0 (by decide) (by decide) (by decide) (by decide) (by decide) (len := 9) rfl (by decide) (lay' := Ly16) rfl ?_
  refine aRun_ok hC hT 3 (cf' := (31, [(0, .ref 8)], [.int (20 : Int32), .ref 8], Ly17, (aClr (aI (aI (aI S 8 1 (1 : Int32)) 8 2 (1 : Int32)) 8 3 (1 : Int32)) 9))) (by rfl) ?_
  refine aNewA (N := 20) hC hT rfl (p1 := 127) (by decide +kernel) 0 (by decide) (by decide) (by decide) (by decide) (by decide) (len := 10) rfl (by decide) (lay' := Ly18) rfl ?_
  refine aRun_ok hC hT 3 (cf' := (39, [(0, .ref 8)], [.int (100 : Int32), .ref 8], Ly19, (aClr (aClr (aI (aI (aI S 8 1 (1 : Int32)) 8 2 (1 : Int32)) 8 3 (1 : Int32)) 9) 10))) (by rfl) ?_
  refine aNewA (N := 100) hC hT rfl (p1 := 127) (by decide +kernel) 0 (by decide) (by decide) (by decide) (by decide) (by decide) (len := 11) rfl (by decide) (lay' := Ly20) rfl ?_
  refine aRun_ok hC hT 3 (cf' := (47, [(0, .ref 8)], [.int (6 : Int32), .ref 8], Ly21, (aClr (aClr (aClr (aI (aI (aI S 8 1 (1 : Int32)) 8 2 (1 : Int32)) 8 3 (1 : Int32)) 9) 10) 11))) (by rfl) ?_
  refine aNewA (N := 6) hC hT rfl (p1 := 127) (by decide +kernel) 0 (by decide) (by decide) (by decide) (by decide) (by decide) (len := 12) rfl (by decide) (lay' := Ly22) rfl ?_
  refine aRun_ok hC hT 3 (cf' := (55, [(0, .ref 8)], [.int (6 : Int32), .ref 8], Ly23, (aClr (aClr (aClr (aClr (aI (aI (aI S 8 1 (1 : Int32)) 8 2 (1 : Int32)) 8 3 (1 : Int32)) 9) 10) 11) 12))) (by rfl) ?_
  refine aNewA (N := 6) hC hT rfl (p1 := 177) (by decide +kernel) 1 (by decide) (by decide) (by decide) (by decide) (by decide) (len := 13) rfl (by decide) (lay' := Ly24) rfl ?_
  refine aRun_ok hC hT 4 (cf' := (65, [(0, .ref 8)], [.int (1 : Int32), .ref 10], Ly25, (aClr (aClr (aClr (aClr (aClr (aI (aI (aI S 8 1 (1 : Int32)) 8 2 (1 : Int32)) 8 3 (1 : Int32)) 9) 10) 11) 12) 13))) (by rfl) ?_
  obtain ⟨v1, ev2, hf⟩ := aBnE hf
  refine aCallS (As := [.ref 10, .int (1 : Int32)]) (rest := []) hC hT rfl k_X2_init_38.1 _ k_X2_init_38.2 (by rfl) (by decide) (by decide) (J_J7_fill_53178_10_c14 C.2.2.1 C.1 N (1 : Int32) (aClr (aClr (aClr (aClr (aClr (aI (aI (aI S 8 1 (1 : Int32)) 8 2 (1 : Int32)) 8 3 (1 : Int32)) 9) 10) 11) 12) 13) ev2) ?_
  cases hf
  exact aRetV hC hT hF rfl rfl
def X8_init_14_8_c15 (S : aSt) : aSt := (aClr (aClr (aClr (aClr (aClr (aClr (aClr S 15) 16) 17) 18) 19) 20) 21)
set_option maxHeartbeats 4000000 in
set_option maxRecDepth 100000 in
theorem J_X8_init_14_8_c15 (l : Launch) (g : aWg) (S : aSt) {r : aSt} (hf : X8_init_14_8_c15 S = r) : aJ l g yX8_init M_X8_init [.ref 14, .ref 8] Ly27 S none Ly41 r 7 12547 := by
  refine aJ_of (by decide) rfl (Nat.le_of_ble_eq_true rfl) (fun _ => rfl) ?_
  intro C hg hl hC hz hF
  subst hg; subst hl
  have hT := ok_X8_init
  unfold X8_init_14_8_c15 at hf
  show aX C M_X8_init 0 0 (0, [(0, .ref 14), (1, .ref 8)], [], Ly27, S)
  refine aRun_ok hC hT 1 (cf' := (1, [(0, .ref 14), (1, .ref 8)], [.ref 14], Ly27, S)) (by rfl) ?_
  refine aObjI hC hT rfl (p1 := 183) (p2 := 88) (p3 := 89) (by decide +kernel) (by decide +kernel) (by decide +kernel) (by decide) (by decide) ?_
  refine aRun_ok hC hT 2 (cf' := (8, [(0, .ref 14), (1, .ref 8)], [.int (1921 : Int32), .ref 14], Ly27, S)) (by rfl) ?_
  refine aNewA (N := 1921) hC hT rfl (p1 := 127) (by decide +kernel) 0 (by decide) (by decide) (by decide) (by decide) (by decide) (len := 15) rfl (by decide) (lay' := Ly28) rfl ?_
  refine aRun_ok hC hT 3 (cf' := (17, [(0, .ref 14), (1, .ref 8)], [.int (1921 : Int32), .ref 14], Ly29, (aClr S 15))) (by rfl) ?_
  refine aNewA (N := 1921) hC hT rfl (p1 := 127) (by decide +kernel) 0 (by decide) (by decide) (by decide) (by decide) (by decide) (len := 16) rfl (by decide) (lay' := Ly30) rfl ?_
  refine aRun_ok hC hT 3 (cf' := (26, [(0, .ref 14), (1, .ref 8)], [.int (1921 : Int32), .ref 14], Ly31, (aClr (aClr S 15) 16))) (by rfl) ?_
  refine aNewA (N := 1921) hC hT rfl (p1 := 127) (by decide +kernel) 0 (by decide) (by decide) (by decide) (by decide) (by decide) (len := 17) rfl (by decide) (lay' := Ly32) rfl ?_
  refine aRun_ok hC hT 3 (cf' := (35, [(0, .ref 14), (1, .ref 8)], [.int (1921 : Int32), .ref 14], Ly33, (aClr (aClr (aClr S 15) 16) 17))) (by rfl) ?_
  refine aNewA (N := 1921) hC hT rfl (p1 := 127) (by decide +kernel) 0 (by decide) (by decide) (by decide) (by decide) (by decide) (len := 18) rfl (by decide) (lay' := Ly34) rfl ?_
  refine aRun_ok hC hT 3 (cf' := (44, [(0, .ref 14), (1, .ref 8)], [.int (1921 : Int32), .ref 14], Ly35, (aClr (aClr (aClr (aClr S 15) 16) 17) 18))) (by rfl) ?_
  refine aNewA (N := 1921) hC hT rfl (p1 := 127) (by decide +kernel) 0 (by decide) (by decide) (by decide) (by decide) (by decide) (len := 19) rfl (by decide) (lay' := Ly36) rfl ?_
  refine aRun_ok hC hT 3 (cf' := (53, [(0, .ref 14), (1, .ref 8)], [.int (1021 : Int32), .ref 14], Ly37, (aClr (aClr (aClr (aClr (aClr S 15) 16) 17) 18) 19))) (by rfl) ?_
  refine aNewA (N := 1021) hC hT rfl (p1 := 127) (by decide +kernel) 0 (by decide) (by decide) (by decide) (by decide) (by decide) (len := 20) rfl (by decide) (lay' := Ly38) rfl ?_
  refine aRun_ok hC hT 3 (cf' := (62, [(0, .ref 14), (1, .ref 8)], [.int (1921 : Int32), .ref 14], Ly39, (aClr (aClr (aClr (aClr (aClr (aClr S 15) 16) 17) 18) 19) 20))) (by rfl) ?_
  refine aNewA (N := 1921) hC hT rfl (p1 := 127) (by decide +kernel) 0 (by decide) (by decide) (by decide) (by decide) (by decide) (len := 21) rfl (by decide) (lay' := Ly40) rfl ?_
  refine aRun_ok hC hT 4 (cf' := (72, [(0, .ref 14), (1, .ref 8)], [], Ly41, (aClr (aClr (aClr (aClr (aClr (aClr (aClr S 15) 16) 17) 18) 19) 20) 21))) (by rfl) ?_
  subst hf
  exact aRetV hC hT hF rfl rfl
def X7_init_22_8_14_c23 (S : aSt) : aSt := (aI (aClr (aClr S 23) 24) 22 4 (0 : Int32))
set_option maxHeartbeats 4000000 in
set_option maxRecDepth 100000 in
theorem J_X7_init_22_8_14_c23 (l : Launch) (g : aWg) (S : aSt) {r : aSt} (hf : X7_init_22_8_14_c23 S = r) : aJ l g yX7_init M_X7_init [.ref 22, .ref 8, .ref 14, .int (0 : Int32)] Ly43 S none Ly47 r 2 163 := by
  refine aJ_of (by decide) rfl (Nat.le_of_ble_eq_true rfl) (fun _ => rfl) ?_
  intro C hg hl hC hz hF
  subst hg; subst hl
  have hT := ok_X7_init
  unfold X7_init_22_8_14_c23 at hf
  show aX C M_X7_init 0 0 (0, [(0, .ref 22), (1, .ref 8), (2, .ref 14), (3, .int (0 : Int32))], [], Ly43, S)
  refine aRun_ok hC hT 1 (cf' := (1, [(0, .ref 22), (1, .ref 8), (2, .ref 14), (3, .int (0 : Int32))], [.ref 22], Ly43, S)) (by rfl) ?_
  refine aObjI hC hT rfl (p1 := 219) (p2 := 88) (p3 := 89) (by decide +kernel) (by decide +kernel) (by decide +kernel) (by decide) (by decide) ?_
  refine aRun_ok hC hT 2 (cf' := (8, [(0, .ref 22), (1, .ref 8), (2, .ref 14), (3, .int (0 : Int32))], [.int (157 : Int32), .ref 22], Ly43, S)) (by rfl) ?_
  refine aNewA (N := 157) hC hT rfl (p1 := 127) (by decide +kernel) 0 (by decide) (by decide) (by decide) (by decide) (by decide) (len := 23) rfl (by decide) (lay' := Ly44) rfl ?_
  refine aRun_ok hC hT 3 (cf' := (16, [(0, .ref 22), (1, .ref 8), (2, .ref 14), (3, .int (0 : Int32))], [.int (6 : Int32), .ref 22], Ly45, (aClr S 23))) (by rfl) ?_
  refine aNewA (N := 6) hC hT rfl (p1 := 127) (by decide +kernel) 0 (by decide) (by decide) (by decide) (by decide) (by decide) (len := 24) rfl (by decide) (lay' := Ly46) rfl ?_
  refine aRun_ok hC hT 10 (cf' := (36, [(0, .ref 22), (1, .ref 8), (2, .ref 14), (3, .int (0 : Int32))], [], Ly47, (aI (aClr (aClr S 23) 24) 22 4 (0 : Int32)))) (by rfl) ?_
  subst hf
  exact aRetV hC hT hF rfl rfl
def X7_init_25_8_14_c26 (S : aSt) : aSt := (aI (aClr (aClr S 26) 27) 25 4 (1 : Int32))
set_option maxHeartbeats 4000000 in
set_option maxRecDepth 100000 in
theorem J_X7_init_25_8_14_c26 (l : Launch) (g : aWg) (S : aSt) {r : aSt} (hf : X7_init_25_8_14_c26 S = r) : aJ l g yX7_init M_X7_init [.ref 25, .ref 8, .ref 14, .int (1 : Int32)] Ly49 S none Ly53 r 2 163 := by
  refine aJ_of (by decide) rfl (Nat.le_of_ble_eq_true rfl) (fun _ => rfl) ?_
  intro C hg hl hC hz hF
  subst hg; subst hl
  have hT := ok_X7_init
  unfold X7_init_25_8_14_c26 at hf
  show aX C M_X7_init 0 0 (0, [(0, .ref 25), (1, .ref 8), (2, .ref 14), (3, .int (1 : Int32))], [], Ly49, S)
  refine aRun_ok hC hT 1 (cf' := (1, [(0, .ref 25), (1, .ref 8), (2, .ref 14), (3, .int (1 : Int32))], [.ref 25], Ly49, S)) (by rfl) ?_
  refine aObjI hC hT rfl (p1 := 219) (p2 := 88) (p3 := 89) (by decide +kernel) (by decide +kernel) (by decide +kernel) (by decide) (by decide) ?_
  refine aRun_ok hC hT 2 (cf' := (8, [(0, .ref 25), (1, .ref 8), (2, .ref 14), (3, .int (1 : Int32))], [.int (157 : Int32), .ref 25], Ly49, S)) (by rfl) ?_
  refine aNewA (N := 157) hC hT rfl (p1 := 127) (by decide +kernel) 0 (by decide) (by decide) (by decide) (by decide) (by decide) (len := 26) rfl (by decide) (lay' := Ly50) rfl ?_
  refine aRun_ok hC hT 3 (cf' := (16, [(0, .ref 25), (1, .ref 8), (2, .ref 14), (3, .int (1 : Int32))], [.int (6 : Int32), .ref 25], Ly51, (aClr S 26))) (by rfl) ?_
  refine aNewA (N := 6) hC hT rfl (p1 := 127) (by decide +kernel) 0 (by decide) (by decide) (by decide) (by decide) (by decide) (len := 27) rfl (by decide) (lay' := Ly52) rfl ?_
  refine aRun_ok hC hT 10 (cf' := (36, [(0, .ref 25), (1, .ref 8), (2, .ref 14), (3, .int (1 : Int32))], [], Ly53, (aI (aClr (aClr S 26) 27) 25 4 (1 : Int32)))) (by rfl) ?_
  subst hf
  exact aRetV hC hT hF rfl rfl
def X5_init_28_14_c29 (S : aSt) : aSt := S
set_option maxHeartbeats 4000000 in
set_option maxRecDepth 100000 in
theorem J_X5_init_28_14_c29 (l : Launch) (g : aWg) (S : aSt) {r : aSt} (hf : X5_init_28_14_c29 S = r) : aJ l g yX5_init M_X5_init [.ref 28, .ref 14] Ly55 S none Ly56 r 0 0 := by
  refine aJ_of (by decide) rfl (Nat.le_of_ble_eq_true rfl) (fun _ => rfl) ?_
  intro C hg hl hC hz hF
  subst hg; subst hl
  have hT := ok_X5_init
  unfold X5_init_28_14_c29 at hf
  show aX C M_X5_init 0 0 (0, [(0, .ref 28), (1, .ref 14)], [], Ly55, S)
  refine aRun_ok hC hT 1 (cf' := (1, [(0, .ref 28), (1, .ref 14)], [.ref 28], Ly55, S)) (by rfl) ?_
  refine aObjI hC hT rfl (p1 := 250) (p2 := 88) (p3 := 89) (by decide +kernel) (by decide +kernel) (by decide +kernel) (by decide) (by decide) ?_
  refine aRun_ok hC hT 3 (cf' := (9, [(0, .ref 28), (1, .ref 14)], [], Ly56, S)) (by rfl) ?_
  subst hf
  exact aRetV hC hT hF rfl rfl
def X5_init_29_14_c30 (S : aSt) : aSt := S
set_option maxHeartbeats 4000000 in
set_option maxRecDepth 100000 in
theorem J_X5_init_29_14_c30 (l : Launch) (g : aWg) (S : aSt) {r : aSt} (hf : X5_init_29_14_c30 S = r) : aJ l g yX5_init M_X5_init [.ref 29, .ref 14] Ly58 S none Ly59 r 0 0 := by
  refine aJ_of (by decide) rfl (Nat.le_of_ble_eq_true rfl) (fun _ => rfl) ?_
  intro C hg hl hC hz hF
  subst hg; subst hl
  have hT := ok_X5_init
  unfold X5_init_29_14_c30 at hf
  show aX C M_X5_init 0 0 (0, [(0, .ref 29), (1, .ref 14)], [], Ly58, S)
  refine aRun_ok hC hT 1 (cf' := (1, [(0, .ref 29), (1, .ref 14)], [.ref 29], Ly58, S)) (by rfl) ?_
  refine aObjI hC hT rfl (p1 := 250) (p2 := 88) (p3 := 89) (by decide +kernel) (by decide +kernel) (by decide +kernel) (by decide) (by decide) ?_
  refine aRun_ok hC hT 3 (cf' := (9, [(0, .ref 29), (1, .ref 14)], [], Ly59, S)) (by rfl) ?_
  subst hf
  exact aRetV hC hT hF rfl rfl
def X3_init_30_8_14_22_c31 (S : aSt) : aSt := (aClr (aClr (aClr S 31) 32) 33)
set_option maxHeartbeats 4000000 in
set_option maxRecDepth 100000 in
theorem J_X3_init_30_8_14_22_c31 (l : Launch) (g : aWg) (S : aSt) {r : aSt} (hf : X3_init_30_8_14_22_c31 S = r) : aJ l g yX3_init M_X3_init [.ref 30, .ref 8, .ref 14, .ref 22] Ly61 S none Ly67 r 3 90 := by
  refine aJ_of (by decide) rfl (Nat.le_of_ble_eq_true rfl) (fun _ => rfl) ?_
  intro C hg hl hC hz hF
  subst hg; subst hl
  have hT := ok_X3_init
  unfold X3_init_30_8_14_22_c31 at hf
  show aX C M_X3_init 0 0 (0, [(0, .ref 30), (1, .ref 8), (2, .ref 14), (3, .ref 22)], [], Ly61, S)
  refine aRun_ok hC hT 1 (cf' := (1, [(0, .ref 30), (1, .ref 8), (2, .ref 14), (3, .ref 22)], [.ref 30], Ly61, S)) (by rfl) ?_
  refine aObjI hC hT rfl (p1 := 279) (p2 := 88) (p3 := 89) (by decide +kernel) (by decide +kernel) (by decide +kernel) (by decide) (by decide) ?_
  refine aRun_ok hC hT 2 (cf' := (7, [(0, .ref 30), (1, .ref 8), (2, .ref 14), (3, .ref 22)], [.int (30 : Int32), .ref 30], Ly61, S)) (by rfl) ?_
  refine aNewA (N := 30) hC hT rfl (p1 := 127) (by decide +kernel) 0 (by decide) (by decide) (by decide) (by decide) (by decide) (len := 31) rfl (by decide) (lay' := Ly62) rfl ?_
  refine aRun_ok hC hT 3 (cf' := (15, [(0, .ref 30), (1, .ref 8), (2, .ref 14), (3, .ref 22)], [.int (30 : Int32), .ref 30], Ly63, (aClr S 31))) (by rfl) ?_
  refine aNewA (N := 30) hC hT rfl (p1 := 127) (by decide +kernel) 0 (by decide) (by decide) (by decide) (by decide) (by decide) (len := 32) rfl (by decide) (lay' := Ly64) rfl ?_
  refine aRun_ok hC hT 3 (cf' := (23, [(0, .ref 30), (1, .ref 8), (2, .ref 14), (3, .ref 22)], [.int (30 : Int32), .ref 30], Ly65, (aClr (aClr S 31) 32))) (by rfl) ?_
  refine aNewA (N := 30) hC hT rfl (p1 := 127) (by decide +kernel) 0 (by decide) (by decide) (by decide) (by decide) (by decide) (len := 33) rfl (by decide) (lay' := Ly66) rfl ?_
  refine aRun_ok hC hT 10 (cf' := (43, [(0, .ref 30), (1, .ref 8), (2, .ref 14), (3, .ref 22)], [], Ly67, (aClr (aClr (aClr S 31) 32) 33))) (by rfl) ?_
  subst hf
  exact aRetV hC hT hF rfl rfl
def X3_init_34_8_14_25_c35 (S : aSt) : aSt := (aClr (aClr (aClr S 35) 36) 37)
set_option maxHeartbeats 4000000 in
set_option maxRecDepth 100000 in
theorem J_X3_init_34_8_14_25_c35 (l : Launch) (g : aWg) (S : aSt) {r : aSt} (hf : X3_init_34_8_14_25_c35 S = r) : aJ l g yX3_init M_X3_init [.ref 34, .ref 8, .ref 14, .ref 25] Ly69 S none Ly75 r 3 90 := by
  refine aJ_of (by decide) rfl (Nat.le_of_ble_eq_true rfl) (fun _ => rfl) ?_
  intro C hg hl hC hz hF
  subst hg; subst hl
  have hT := ok_X3_init
  unfold X3_init_34_8_14_25_c35 at hf
  show aX C M_X3_init 0 0 (0, [(0, .ref 34), (1, .ref 8), (2, .ref 14), (3, .ref 25)], [], Ly69, S)
  refine aRun_ok hC hT 1 (cf' := (1, [(0, .ref 34), (1, .ref 8), (2, .ref 14), (3, .ref 25)], [.ref 34], Ly69, S)) (by rfl) ?_
  refine aObjI hC hT rfl (p1 := 279) (p2 := 88) (p3 := 89) (by decide +kernel) (by decide +kernel) (by decide +kernel) (by decide) (by decide) ?_
  refine aRun_ok hC hT 2 (cf' := (7, [(0, .ref 34), (1, .ref 8), (2, .ref 14), (3, .ref 25)], [.int (30 : Int32), .ref 34], Ly69, S)) (by rfl) ?_
  refine aNewA (N := 30) hC hT rfl (p1 := 127) (by decide +kernel) 0 (by decide) (by decide) (by decide) (by decide) (by decide) (len := 35) rfl (by decide) (lay' := Ly70) rfl ?_
  refine aRun_ok hC hT 3 (cf' := (15, [(0, .ref 34), (1, .ref 8), (2, .ref 14), (3, .ref 25)], [.int (30 : Int32), .ref 34], Ly71, (aClr S 35))) (by rfl) ?_
  refine aNewA (N := 30) hC hT rfl (p1 := 127) (by decide +kernel) 0 (by decide) (by decide) (by decide) (by decide) (by decide) (len := 36) rfl (by decide) (lay' := Ly72) rfl ?_
  refine aRun_ok hC hT 3 (cf' := (23, [(0, .ref 34), (1, .ref 8), (2, .ref 14), (3, .ref 25)], [.int (30 : Int32), .ref 34], Ly73, (aClr (aClr S 35) 36))) (by rfl) ?_
  refine aNewA (N := 30) hC hT rfl (p1 := 127) (by decide +kernel) 0 (by decide) (by decide) (by decide) (by decide) (by decide) (len := 37) rfl (by decide) (lay' := Ly74) rfl ?_
  refine aRun_ok hC hT 10 (cf' := (43, [(0, .ref 34), (1, .ref 8), (2, .ref 14), (3, .ref 25)], [], Ly75, (aClr (aClr (aClr S 35) 36) 37))) (by rfl) ?_
  subst hf
  exact aRetV hC hT hF rfl rfl
def X4_init_38_8_c39 (S : aSt) : aSt := (aClr (aClr (aClr S 39) 40) 41)
set_option maxHeartbeats 4000000 in
set_option maxRecDepth 100000 in
theorem J_X4_init_38_8_c39 (l : Launch) (g : aWg) (S : aSt) {r : aSt} (hf : X4_init_38_8_c39 S = r) : aJ l g yX4_init M_X4_init [.ref 38, .ref 8] Ly77 S none Ly83 r 3 350 := by
  refine aJ_of (by decide) rfl (Nat.le_of_ble_eq_true rfl) (fun _ => rfl) ?_
  intro C hg hl hC hz hF
  subst hg; subst hl
  have hT := ok_X4_init
  unfold X4_init_38_8_c39 at hf
  show aX C M_X4_init 0 0 (0, [(0, .ref 38), (1, .ref 8)], [], Ly77, S)
  refine aRun_ok hC hT 1 (cf' := (1, [(0, .ref 38), (1, .ref 8)], [.ref 38], Ly77, S)) (by rfl) ?_
  refine aObjI hC hT rfl (p1 := 316) (p2 := 88) (p3 := 89) (by decide +kernel) (by decide +kernel) (by decide +kernel) (by decide) (by decide) ?_
  refine aRun_ok hC hT 2 (cf' := (7, [(0, .ref 38), (1, .ref 8)], [.int (12 : Int32), .ref 38], Ly77, S)) (by rfl) ?_
  refine aNewA (N := 12) hC hT rfl (p1 := 127) (by decide +kernel) 0 (by decide) (by decide) (by decide) (by decide) (by decide) (len := 39) rfl (by decide) (lay' := Ly78) rfl ?_
  refine aRun_ok hC hT 3 (cf' := (16, [(0, .ref 38), (1, .ref 8)], [.int (169 : Int32), .ref 38], Ly79, (aClr S 39))) (by rfl) ?_
  refine aNewA (N := 169) hC hT rfl (p1 := 127) (by decide +kernel) 0 (by decide) (by decide) (by decide) (by decide) (by decide) (len := 40) rfl (by decide) (lay' := Ly80) rfl ?_
  refine aRun_ok hC hT 3 (cf' := (25, [(0, .ref 38), (1, .ref 8)], [.int (169 : Int32), .ref 38], Ly81, (aClr (aClr S 39) 40))) (by rfl) ?_
  refine aNewA (N := 169) hC hT rfl (p1 := 127) (by decide +kernel) 0 (by decide) (by decide) (by decide) (by decide) (by decide) (len := 41) rfl (by decide) (lay' := Ly82) rfl ?_
  refine aRun_ok hC hT 4 (cf' := (35, [(0, .ref 38), (1, .ref 8)], [], Ly83, (aClr (aClr (aClr S 39) 40) 41))) (by rfl) ?_
  subst hf
  exact aRetV hC hT hF rfl rfl
def X10_init_0_c1 (N : Nat) (S : aSt) : Option (aSt) := (aLet (X9_init_1_c2 (aClr S 1)) (fun v1 => (Option.bind (X2_init_8_c9 N (aClr v1 8)) (fun v3 => (aLet (X8_init_14_8_c15 (aClr v3 14)) (fun v5 => (aLet (X7_init_22_8_14_c23 (aClr v5 22)) (fun v7 => (aLet (X7_init_25_8_14_c26 (aClr v7 25)) (fun v9 => (aLet (X5_init_28_14_c29 (aClr v9 28)) (fun v11 => (aLet (X5_init_29_14_c30 (aClr v11 29)) (fun v13 => (aLet (X3_init_30_8_14_22_c31 (aClr v13 30)) (fun v15 => (aLet (X3_init_34_8_14_25_c35 (aClr v15 34)) (fun v17 => (aLet (X4_init_38_8_c39 (aClr v17 38)) (fun v19 => some ((aI v19 0 10 ((-1) : Int32)))))))))))))))))))))))
set_option maxHeartbeats 4000000 in
set_option maxRecDepth 100000 in
theorem J_X10_init_0_c1 (l : Launch) (g : aWg) (N : Nat) (S : aSt) {r : aSt} (hf : X10_init_0_c1 N S = (some r)) : aJ l g yX10_init M_X10_init [.ref 0] Ly0 S none Ly84 r 41 14615 := by
  refine aJ_of (by decide) rfl (Nat.le_of_ble_eq_true rfl) (fun _ => rfl) ?_
  intro C hg hl hC hz hF
  subst hg; subst hl
  have hT := ok_X10_init
  unfold X10_init_0_c1 at hf
  show aX C M_X10_init 0 0 (0, [(0, .ref 0)], [], Ly0, S)
  refine aRun_ok hC hT 1 (cf' := (1, [(0, .ref 0)], [.ref 0], Ly0, S)) (by rfl) ?_
  refine aObjI hC hT rfl (p1 := 87) (p2 := 88) (p3 := 89) (by decide +kernel) (by decide +kernel) (by decide +kernel) (by decide) (by decide) ?_
  refine aRun_ok hC hT 1 (cf' := (5, [(0, .ref 0)], [.ref 0], Ly0, S)) (by rfl) ?_
  refine aNew (ci := 6) hC hT rfl rfl (p1 := 90) (p2 := 91) (p3 := 65) (by decide +kernel) (by decide +kernel) (by decide +kernel) (by decide +kernel) (by decide) (len := 1) rfl (by decide) (kinds := [(1, 0), (1, 0), (0, 0), (0, 0), (0, 0), (0, 0), (0, 0), (0, 0), (1, 0)]) (by decide +kernel) (lay' := Ly1) rfl ?_
  refine aRun_ok hC hT 1 (cf' := (9, [(0, .ref 0)], [.ref 1, .ref 1, .ref 0], Ly1, (aClr S 1))) (by rfl) ?_
  obtain ⟨v1, ev2, hf⟩ := aLetE hf
  refine aCallIN (b := 1) (As := []) (rest := [.ref 1, .ref 0]) hC hT rfl k_X10_init_11.1 _ k_X10_init_11.2 (by rfl) (by rfl) (by decide) (by rfl) (by decide) (by decide) (J_X9_init_1_c2 C.2.2.1 C.1  (aClr S 1) ev2) ?_
  refine aRun_ok hC hT 2 (cf' := (16, [(0, .ref 0)], [.ref 0], Ly14, v1)) (by rfl) ?_
  refine aNew (ci := 0) hC hT rfl rfl (p1 := 128) (p2 := 129) (p3 := 66) (by decide +kernel) (by decide +kernel) (by decide +kernel) (by decide +kernel) (by decide) (len := 8) rfl (by decide) (kinds := [(1, 0), (1, 0), (1, 0), (1, 0), (1, 0), (0, 0), (0, 0), (0, 0), (0, 0), (0, 0)]) (by decide +kernel) (lay' := Ly15) rfl ?_
  refine aRun_ok hC hT 1 (cf' := (20, [(0, .ref 0)], [.ref 8, .ref 8, .ref 0], Ly15, (aClr v1 8))) (by rfl) ?_
  obtain ⟨v3, ev4, hf⟩ := aBnE hf
  refine aCallI (b := 8) (As := []) (rest := [.ref 8, .ref 0]) hC hT rfl k_X10_init_18.1 _ k_X10_init_18.2 (by rfl) (by rfl) (by decide) (by rfl) (by decide) (by decide) (J_X2_init_8_c9 C.2.2.1 C.1 N  (aClr v1 8) ev4) ?_
  refine aRun_ok hC hT 2 (cf' := (27, [(0, .ref 0)], [.ref 0], Ly26, v3)) (by rfl) ?_
  refine aNew (ci := 5) hC hT rfl rfl (p1 := 178) (p2 := 179) (p3 := 68) (by decide +kernel) (by decide +kernel) (by decide +kernel) (by decide +kernel) (by decide) (len := 14) rfl (by decide) (kinds := [(1, 0), (0, 0), (0, 0), (0, 0), (0, 0), (0, 0), (0, 0), (0, 0), (0, 0)]) (by decide +kernel) (lay' := Ly27) rfl ?_
  refine aRun_ok hC hT 3 (cf' := (35, [(0, .ref 0)], [.ref 8, .ref 14, .ref 14, .ref 0], Ly27, (aClr v3 14))) (by rfl) ?_
  obtain ⟨v5, ev6, hf⟩ := aLetE hf
  refine aCallI (b := 14) (As := [.ref 8]) (rest := [.ref 14, .ref 0]) hC hT rfl k_X10_init_25.1 _ k_X10_init_25.2 (by rfl) (by rfl) (by decide) (by rfl) (by decide) (by decide) (J_X8_init_14_8_c15 C.2.2.1 C.1  (aClr v3 14) ev6) ?_
  refine aRun_ok hC hT 2 (cf' := (42, [(0, .ref 0)], [.ref 0], Ly42, v5)) (by rfl) ?_
  refine aNew (ci := 4) hC hT rfl rfl (p1 := 214) (p2 := 215) (p3 := 69) (by decide +kernel) (by decide +kernel) (by decide +kernel) (by decide +kernel) (by decide) (len := 22) rfl (by decide) (kinds := [(1, 0), (2, 0), (0, 0), (0, 0), (1, 0), (0, 0), (0, 0)]) (by decide +kernel) (lay' := Ly43) rfl ?_
  refine aRun_ok hC hT 6 (cf' := (55, [(0, .ref 0)], [.int (0 : Int32), .ref 14, .ref 8, .ref 22, .ref 22, .ref 0], Ly43, (aClr v5 22))) (by rfl) ?_
  obtain ⟨v7, ev8, hf⟩ := aLetE hf
  refine aCallI (b := 22) (As := [.ref 8, .ref 14, .int (0 : Int32)]) (rest := [.ref 22, .ref 0]) hC hT rfl k_X10_init_34.1 _ k_X10_init_34.2 (by rfl) (by rfl) (by decide) (by rfl) (by decide) (by decide) (J_X7_init_22_8_14_c23 C.2.2.1 C.1  (aClr v5 22) ev8) ?_
  refine aRun_ok hC hT 2 (cf' := (62, [(0, .ref 0)], [.ref 0], Ly48, v7)) (by rfl) ?_
  refine aNew (ci := 4) hC hT rfl rfl (p1 := 214) (p2 := 215) (p3 := 69) (by decide +kernel) (by decide +kernel) (by decide +kernel) (by decide +kernel) (by decide) (len := 25) rfl (by decide) (kinds := [(1, 0), (2, 0), (0, 0), (0, 0), (1, 0), (0, 0), (0, 0)]) (by decide +kernel) (lay' := Ly49) rfl ?_
  refine aRun_ok hC hT 6 (cf' := (75, [(0, .ref 0)], [.int (1 : Int32), .ref 14, .ref 8, .ref 25, .ref 25, .ref 0], Ly49, (aClr v7 25))) (by rfl) ?_
  obtain ⟨v9, ev10, hf⟩ := aLetE hf
  refine aCallI (b := 25) (As := [.ref 8, .ref 14, .int (1 : Int32)]) (rest := [.ref 25, .ref 0]) hC hT rfl k_X10_init_34.1 _ k_X10_init_34.2 (by rfl) (by rfl) (by decide) (by rfl) (by decide) (by decide) (J_X7_init_25_8_14_c26 C.2.2.1 C.1  (aClr v7 25) ev10) ?_
  refine aRun_ok hC hT 2 (cf' := (82, [(0, .ref 0)], [.ref 0], Ly54, v9)) (by rfl) ?_
  refine aNew (ci := 3) hC hT rfl rfl (p1 := 245) (p2 := 246) (p3 := 70) (by decide +kernel) (by decide +kernel) (by decide +kernel) (by decide +kernel) (by decide) (len := 28) rfl (by decide) (kinds := [(2, 0), (2, 0), (1, 0), (1, 0), (2, 0), (0, 0)]) (by decide +kernel) (lay' := Ly55) rfl ?_
  refine aRun_ok hC hT 3 (cf' := (90, [(0, .ref 0)], [.ref 14, .ref 28, .ref 28, .ref 0], Ly55, (aClr v9 28))) (by rfl) ?_
  obtain ⟨v11, ev12, hf⟩ := aLetE hf
  refine aCallI (b := 28) (As := [.ref 14]) (rest := [.ref 28, .ref 0]) hC hT rfl k_X10_init_46.1 _ k_X10_init_46.2 (by rfl) (by rfl) (by decide) (by rfl) (by decide) (by decide) (J_X5_init_28_14_c29 C.2.2.1 C.1  (aClr v9 28) ev12) ?_
  refine aRun_ok hC hT 2 (cf' := (97, [(0, .ref 0)], [.ref 0], Ly57, v11)) (by rfl) ?_
  refine aNew (ci := 3) hC hT rfl rfl (p1 := 245) (p2 := 246) (p3 := 70) (by decide +kernel) (by decide +kernel) (by decide +kernel) (by decide +kernel) (by decide) (len := 29) rfl (by decide) (kinds := [(2, 0), (2, 0), (1, 0), (1, 0), (2, 0), (0, 0)]) (by decide +kernel) (lay' := Ly58) rfl ?_
  refine aRun_ok hC hT 3 (cf' := (105, [(0, .ref 0)], [.ref 14, .ref 29, .ref 29, .ref 0], Ly58, (aClr v11 29))) (by rfl) ?_
  obtain ⟨v13, ev14, hf⟩ := aLetE hf
  refine aCallI (b := 29) (As := [.ref 14]) (rest := [.ref 29, .ref 0]) hC hT rfl k_X10_init_46.1 _ k_X10_init_46.2 (by rfl) (by rfl) (by decide) (by rfl) (by decide) (by decide) (J_X5_init_29_14_c30 C.2.2.1 C.1  (aClr v11 29) ev14) ?_
  refine aRun_ok hC hT 2 (cf' := (112, [(0, .ref 0)], [.ref 0], Ly60, v13)) (by rfl) ?_
  refine aNew (ci := 1) hC hT rfl rfl (p1 := 274) (p2 := 275) (p3 := 71) (by decide +kernel) (by decide +kernel) (by decide +kernel) (by decide +kernel) (by decide) (len := 30) rfl (by decide) (kinds := [(1, 0), (2, 0), (2, 0), (0, 0), (0, 0), (0, 0), (0, 0), (0, 0), (0, 0)]) (by decide +kernel) (lay' := Ly61) rfl ?_
  refine aRun_ok hC hT 7 (cf' := (128, [(0, .ref 0)], [.ref 22, .ref 14, .ref 8, .ref 30, .ref 30, .ref 0], Ly61, (aClr v13 30))) (by rfl) ?_
  obtain ⟨v15, ev16, hf⟩ := aLetE hf
  refine aCallI (b := 30) (As := [.ref 8, .ref 14, .ref 22]) (rest := [.ref 30, .ref 0]) hC hT rfl k_X10_init_58.1 _ k_X10_init_58.2 (by rfl) (by rfl) (by decide) (by rfl) (by decide) (by decide) (J_X3_init_30_8_14_22_c31 C.2.2.1 C.1  (aClr v13 30) ev16) ?_
  refine aRun_ok hC hT 2 (cf' := (135, [(0, .ref 0)], [.ref 0], Ly68, v15)) (by rfl) ?_
  refine aNew (ci := 1) hC hT rfl rfl (p1 := 274) (p2 := 275) (p3 := 71) (by decide +kernel) (by decide +kernel) (by decide +kernel) (by decide +kernel) (by decide) (len := 34) rfl (by decide) (kinds := [(1, 0), (2, 0), (2, 0), (0, 0), (0, 0), (0, 0), (0, 0), (0, 0), (0, 0)]) (by decide +kernel) (lay' := Ly69) rfl ?_
  refine aRun_ok hC hT 7 (cf' := (151, [(0, .ref 0)], [.ref 25, .ref 14, .ref 8, .ref 34, .ref 34, .ref 0], Ly69, (aClr v15 34))) (by rfl) ?_
  obtain ⟨v17, ev18, hf⟩ := aLetE hf
  refine aCallI (b := 34) (As := [.ref 8, .ref 14, .ref 25]) (rest := [.ref 34, .ref 0]) hC hT rfl k_X10_init_58.1 _ k_X10_init_58.2 (by rfl) (by rfl) (by decide) (by rfl) (by decide) (by decide) (J_X3_init_34_8_14_25_c35 C.2.2.1 C.1  (aClr v15 34) ev18) ?_
  refine aRun_ok hC hT 2 (cf' := (158, [(0, .ref 0)], [.ref 0], Ly76, v17)) (by rfl) ?_
  refine aNew (ci := 2) hC hT rfl rfl (p1 := 311) (p2 := 312) (p3 := 72) (by decide +kernel) (by decide +kernel) (by decide +kernel) (by decide +kernel) (by decide) (len := 38) rfl (by decide) (kinds := [(1, 0), (0, 0), (0, 0), (0, 0), (0, 0)]) (by decide +kernel) (lay' := Ly77) rfl ?_
  refine aRun_ok hC hT 3 (cf' := (166, [(0, .ref 0)], [.ref 8, .ref 38, .ref 38, .ref 0], Ly77, (aClr v17 38))) (by rfl) ?_
  obtain ⟨v19, ev20, hf⟩ := aLetE hf
  refine aCallI (b := 38) (As := [.ref 8]) (rest := [.ref 38, .ref 0]) hC hT rfl k_X10_init_70.1 _ k_X10_init_70.2 (by rfl) (by rfl) (by decide) (by rfl) (by decide) (by decide) (J_X4_init_38_8_c39 C.2.2.1 C.1  (aClr v17 38) ev20) ?_
  refine aRun_ok hC hT 4 (cf' := (177, [(0, .ref 0)], [], Ly84, (aI v19 0 10 ((-1) : Int32)))) (by rfl) ?_
  cases hf
  exact aRetV hC hT hF rfl rfl
def X11_init_42_c43_b158 (N : Nat) (rec158 : Int32 → aSt → Option (aSt)) (v1 : Int32) (S : aSt) : Option (aSt) := (if (20 : Int32) ≤ v1 then some (S) else (if aIx v1 20 = true then (rec158 (v1 + (1 : Int32)) (aA S 47 (upd (S.2.2 47) v1.toNatClampNeg (1 : Int32)))) else none))
set_option maxHeartbeats 4000000 in
set_option maxRecDepth 100000 in
theorem X11_init_42_c43_b158_ok {C : aC} {N : Nat} {rec158 : Int32 → aSt → Option (aSt)} (hC : aCx C M_X11_init) {r : aSt} (hF : aFin C none Ly117 r 16 13055) (hrec158 : ∀ (v1 : Int32) (S : aSt), rec158 v1 S = (some r) → aX C M_X11_init 16 13055 (158, [(0, .ref 42), (1, .int v1)], [], Ly117, S)) (v1 : Int32) (S : aSt) (hf : X11_init_42_c43_b158 N rec158 v1 S = (some r)) : aX C M_X11_init 16 13055 (158, [(0, .ref 42), (1, .int v1)], [], Ly117, S) := by
  have hT := ok_X11_init
  unfold X11_init_42_c43_b158 at hf
  refine aRun_ok hC hT 2 (cf' := (161, [(0, .ref 42), (1, .int v1)], [.int (20 : Int32), .int v1], Ly117, S)) (by rfl) ?_
  refine aCmp_ge hC hT (tgt := 177) rfl (by decide) (fun hc1 => ?_) (fun hc1 => ?_)
  · have hf := aIfT hf hc1
    cases hf
    exact aRetV hC hT hF rfl rfl
  · have hf := aIfF hf hc1
    refine aRun_ok hC hT 4 (cf' := (170, [(0, .ref 42), (1, .int v1)], [.int (1 : Int32), .int v1, .ref 47], Ly117, S)) (by rfl) ?_
    obtain ⟨hin2, hf⟩ := aGdE hf
    refine aIast hC hT rfl (by decide) (by rfl) hin2 ?_
    refine aRun_ok hC hT 2 (cf' := (158, [(1, .int (v1 + (1 : Int32))), (0, .ref 42)], [], Ly117, (aA S 47 (upd (S.2.2 47) v1.toNatClampNeg (1 : Int32))))) (by rfl) ?_
    refine aLocs [1, 0] (lv' := [(0, .ref 42), (1, .int (v1 + (1 : Int32)))]) rfl ?_
    exact hrec158 (v1 + (1 : Int32)) (aA S 47 (upd (S.2.2 47) v1.toNatClampNeg (1 : Int32))) hf
def X11_init_42_c43_l158 (N : Nat) : Nat → Int32 → aSt → Option (aSt)
  | 0 => fun _ _ => none
  | n + 1 => X11_init_42_c43_b158 N (X11_init_42_c43_l158 N n)
theorem X11_init_42_c43_l158_ok {C : aC} {N : Nat} (hC : aCx C M_X11_init) {r : aSt} (hF : aFin C none Ly117 r 16 13055) : ∀ (n : Nat) (v1 : Int32) (S : aSt), X11_init_42_c43_l158 N n v1 S = (some r) → aX C M_X11_init 16 13055 (158, [(0, .ref 42), (1, .int v1)], [], Ly117, S)
  | 0, _, _,  h => nomatch (show (none : Option (aSt)) = some _ from h)
  | n + 1, v1, S,  h => X11_init_42_c43_b158_ok hC hF (fun v1 S h => X11_init_42_c43_l158_ok hC hF n v1 S h) v1 S h
def X11_init_42_c43 (N : Nat) (S : aSt) : Option (aSt) := (X11_init_42_c43_l158 N N (0 : Int32) (aClr (aClr (aClr (aClr (aClr (aClr (aClr (aClr (aClr (aClr (aI (aI (aI (aClr (aClr (aClr (aClr (aClr (aClr S 43) 44) 45) 46) 47) 48) 42 10 (1 : Int32)) 42 11 (1 : Int32)) 42 12 (1 : Int32)) 49) 50) 51) 52) 53) 54) 55) 56) 57) 58))
set_option maxHeartbeats 4000000 in
set_option maxRecDepth 100000 in
theorem J_X11_init_42_c43 (l : Launch) (g : aWg) (N : Nat) (S : aSt) {r : aSt} (hf : X11_init_42_c43 N S = (some r)) : aJ l g yX11_init M_X11_init [.ref 42] Ly85 S none Ly117 r 16 13055 := by
  refine aJ_of (by decide) rfl (Nat.le_of_ble_eq_true rfl) (fun _ => rfl) ?_
  intro C hg hl hC hz hF
  subst hg; subst hl
  have hT := ok_X11_init
  unfold X11_init_42_c43 at hf
  show aX C M_X11_init 0 0 (0, [(0, .ref 42)], [], Ly85, S)
  refine aRun_ok hC hT 1 (cf' := (1, [(0, .ref 42)], [.ref 42], Ly85, S)) (by rfl) ?_
  refine aObjI hC hT rfl (p1 := 956) (p2 := 88) (p3 := 89) (by decide +kernel) (by decide +kernel) (by decide +kernel) (by decide) (by decide) ?_
  refine aRun_ok hC hT 2 (cf' := (8, [(0, .ref 42)], [.int (200 : Int32), .ref 42], Ly85, S)) (by rfl) ?_
  refine aNewA (N := 200) hC hT rfl (p1 := 127) (by decide +kernel) 0 (by decide) (by decide) (by decide) (by decide) (by decide) (len := 43) rfl (by decide) (lay' := Ly86) rfl ?_
  refine aRun_ok hC hT 3 (cf' := (16, [(0, .ref 42)], [.int (50 : Int32), .ref 42], Ly87, (aClr S 43))) (by rfl) ?_
  refine aNewA (N := 50) hC hT rfl (p1 := 127) (by decide +kernel) 0 (by decide) (by decide) (by decide) (by decide) (by decide) (len := 44) rfl (by decide) (lay' := Ly88) rfl ?_
  refine aRun_ok hC hT 3 (cf' := (25, [(0, .ref 42)], [.int (150 : Int32), .ref 42], Ly89, (aClr (aClr S 43) 44))) (by rfl) ?_
  refine aNewA (N := 150) hC hT rfl (p1 := 127) (by decide +kernel) 0 (by decide) (by decide) (by decide) (by decide) (by decide) (len := 45) rfl (by decide) (lay' := Ly90) rfl ?_
  refine aRun_ok hC hT 3 (cf' := (33, [(0, .ref 42)], [.int (6 : Int32), .ref 42], Ly91, (aClr (aClr (aClr S 43) 44) 45))) (by rfl) ?_
  refine aNewA (N := 6) hC hT rfl (p1 := 127) (by decide +kernel) 0 (by decide) (by decide) (by decide) (by decide) (by decide) (len := 46) rfl (by decide) (lay' := Ly92) rfl ?_
  refine aRun_ok hC hT 3 (cf' := (41, [(0, .ref 42)], [.int (20 : Int32), .ref 42], Ly93, (aClr (aClr (aClr (aClr S 43) 44) 45) 46))) (by rfl) ?_
  refine aNewA (N := 20) hC hT rfl (p1 := 127) (by decide +kernel) 0 (by decide) (by decide) (by decide) (by decide) (by decide) (len := 47) rfl (by decide) (lay' := Ly94) rfl ?_
  refine aRun_ok hC hT 3 (cf' := (49, [(0, .ref 42)], [.int (100 : Int32), .ref 42], Ly95, (aClr (aClr (aClr (aClr (aClr S 43) 44) 45) 46) 47))) (by rfl) ?_
  refine aNewA (N := 100) hC hT rfl (p1 := 127) (by decide +kernel) 0 (by decide) (by decide) (by decide) (by decide) (by decide) (len := 48) rfl (by decide) (lay' := Ly96) rfl ?_
  refine aRun_ok hC hT 12 (cf' := (72, [(0, .ref 42)], [.int (12 : Int32), .ref 42], Ly97, (aI (aI (aI (aClr (aClr (aClr (aClr (aClr (aClr S 43) 44) 45) 46) 47) 48) 42 10 (1 : Int32)) 42 11 (1 : Int32)) 42 12 (1 : Int32)))) (by rfl) ?_
  refine aNewA (N := 12) hC hT rfl (p1 := 127) (by decide +kernel) 0 (by decide) (by decide) (by decide) (by decide) (by decide) (len := 49) rfl (by decide) (lay' := Ly98) rfl ?_
  refine aRun_ok hC hT 3 (cf' := (81, [(0, .ref 42)], [.int (2048 : Int32), .ref 42], Ly99, (aClr (aI (aI (aI (aClr (aClr (aClr (aClr (aClr (aClr S 43) 44) 45) 46) 47) 48) 42 10 (1 : Int32)) 42 11 (1 : Int32)) 42 12 (1 : Int32)) 49))) (by rfl) ?_
  refine aNewA (N := 2048) hC hT rfl (p1 := 127) (by decide +kernel) 0 (by decide) (by decide) (by decide) (by decide) (by decide) (len := 50) rfl (by decide) (lay' := Ly100) rfl ?_
  refine aRun_ok hC hT 3 (cf' := (90, [(0, .ref 42)], [.int (2048 : Int32), .ref 42], Ly101, (aClr (aClr (aI (aI (aI (aClr (aClr (aClr (aClr (aClr (aClr S 43) 44) 45) 46) 47) 48) 42 10 (1 : Int32)) 42 11 (1 : Int32)) 42 12 (1 : Int32)) 49) 50))) (by rfl) ?_
  refine aNewA (N := 2048) hC hT rfl (p1 := 127) (by decide +kernel) 0 (by decide) (by decide) (by decide) (by decide) (by decide) (len := 51) rfl (by decide) (lay' := Ly102) rfl ?_
  refine aRun_ok hC hT 3 (cf' := (99, [(0, .ref 42)], [.int (2048 : Int32), .ref 42], Ly103, (aClr (aClr (aClr (aI (aI (aI (aClr (aClr (aClr (aClr (aClr (aClr S 43) 44) 45) 46) 47) 48) 42 10 (1 : Int32)) 42 11 (1 : Int32)) 42 12 (1 : Int32)) 49) 50) 51))) (by rfl) ?_
  refine aNewA (N := 2048) hC hT rfl (p1 := 127) (by decide +kernel) 0 (by decide) (by decide) (by decide) (by decide) (by decide) (len := 52) rfl (by decide) (lay' := Ly104) rfl ?_
  refine aRun_ok hC hT 3 (cf' := (108, [(0, .ref 42)], [.int (2048 : Int32), .ref 42], Ly105, (aClr (aClr (aClr (aClr (aI (aI (aI (aClr (aClr (aClr (aClr (aClr (aClr S 43) 44) 45) 46) 47) 48) 42 10 (1 : Int32)) 42 11 (1 : Int32)) 42 12 (1 : Int32)) 49) 50) 51) 52))) (by rfl) ?_
  refine aNewA (N := 2048) hC hT rfl (p1 := 127) (by decide +kernel) 0 (by decide) (by decide) (by decide) (by decide) (by decide) (len := 53) rfl (by decide) (lay' := Ly106) rfl ?_
  refine aRun_ok hC hT 3 (cf' := (117, [(0, .ref 42)], [.int (2048 : Int32), .ref 42], Ly107, (aClr (aClr (aClr (aClr (aClr (aI (aI (aI (aClr (aClr (aClr (aClr (aClr (aClr S 43) 44) 45) 46) 47) 48) 42 10 (1 : Int32)) 42 11 (1 : Int32)) 42 12 (1 : Int32)) 49) 50) 51) 52) 53))) (by rfl) ?_
  refine aNewA (N := 2048) hC hT rfl (p1 := 127) (by decide +kernel) 0 (by decide) (by decide) (by decide) (by decide) (by decide) (len := 54) rfl (by decide) (lay' := Ly108) rfl ?_
  refine aRun_ok hC hT 3 (cf' := (126, [(0, .ref 42)], [.int (2048 : Int32), .ref 42], Ly109, (aClr (aClr (aClr (aClr (aClr (aClr (aI (aI (aI (aClr (aClr (aClr (aClr (aClr (aClr S 43) 44) 45) 46) 47) 48) 42 10 (1 : Int32)) 42 11 (1 : Int32)) 42 12 (1 : Int32)) 49) 50) 51) 52) 53) 54))) (by rfl) ?_
  refine aNewA (N := 2048) hC hT rfl (p1 := 127) (by decide +kernel) 0 (by decide) (by decide) (by decide) (by decide) (by decide) (len := 55) rfl (by decide) (lay' := Ly110) rfl ?_
  refine aRun_ok hC hT 3 (cf' := (134, [(0, .ref 42)], [.int (30 : Int32), .ref 42], Ly111, (aClr (aClr (aClr (aClr (aClr (aClr (aClr (aI (aI (aI (aClr (aClr (aClr (aClr (aClr (aClr S 43) 44) 45) 46) 47) 48) 42 10 (1 : Int32)) 42 11 (1 : Int32)) 42 12 (1 : Int32)) 49) 50) 51) 52) 53) 54) 55))) (by rfl) ?_
  refine aNewA (N := 30) hC hT rfl (p1 := 127) (by decide +kernel) 0 (by decide) (by decide) (by decide) (by decide) (by decide) (len := 56) rfl (by decide) (lay' := Ly112) rfl ?_
  refine aRun_ok hC hT 3 (cf' := (142, [(0, .ref 42)], [.int (30 : Int32), .ref 42], Ly113, (aClr (aClr (aClr (aClr (aClr (aClr (aClr (aClr (aI (aI (aI (aClr (aClr (aClr (aClr (aClr (aClr S 43) 44) 45) 46) 47) 48) 42 10 (1 : Int32)) 42 11 (1 : Int32)) 42 12 (1 : Int32)) 49) 50) 51) 52) 53) 54) 55) 56))) (by rfl) ?_
  refine aNewA (N := 30) hC hT rfl (p1 := 127) (by decide +kernel) 0 (by decide) (by decide) (by decide) (by decide) (by decide) (len := 57) rfl (by decide) (lay' := Ly114) rfl ?_
  refine aRun_ok hC hT 3 (cf' := (151, [(0, .ref 42)], [.int (169 : Int32), .ref 42], Ly115, (aClr (aClr (aClr (aClr (aClr (aClr (aClr (aClr (aClr (aI (aI (aI (aClr (aClr (aClr (aClr (aClr (aClr S 43) 44) 45) 46) 47) 48) 42 10 (1 : Int32)) 42 11 (1 : Int32)) 42 12 (1 : Int32)) 49) 50) 51) 52) 53) 54) 55) 56) 57))) (by rfl) ?_
  refine aNewA (N := 169) hC hT rfl (p1 := 127) (by decide +kernel) 0 (by decide) (by decide) (by decide) (by decide) (by decide) (len := 58) rfl (by decide) (lay' := Ly116) rfl ?_
  refine aRun_ok hC hT 3 (cf' := (158, [(1, .int (0 : Int32)), (0, .ref 42)], [], Ly117, (aClr (aClr (aClr (aClr (aClr (aClr (aClr (aClr (aClr (aClr (aI (aI (aI (aClr (aClr (aClr (aClr (aClr (aClr S 43) 44) 45) 46) 47) 48) 42 10 (1 : Int32)) 42 11 (1 : Int32)) 42 12 (1 : Int32)) 49) 50) 51) 52) 53) 54) 55) 56) 57) 58))) (by rfl) ?_
  refine aLocs [1, 0] (lv' := [(0, .ref 42), (1, .int (0 : Int32))]) rfl ?_
  exact X11_init_42_c43_l158_ok hC hF N (0 : Int32) (aClr (aClr (aClr (aClr (aClr (aClr (aClr (aClr (aClr (aClr (aI (aI (aI (aClr (aClr (aClr (aClr (aClr (aClr S 43) 44) 45) 46) 47) 48) 42 10 (1 : Int32)) 42 11 (1 : Int32)) 42 12 (1 : Int32)) 49) 50) 51) 52) 53) 54) 55) 56) 57) 58) hf
def X6_set_3 (a1 : Int32) (a2 : Int32) (S : aSt) : aSt := (if a1 < (0 : Int32) then S else (if (201 : Int32) ≤ a1 then S else (aA S 3 (upd (S.2.2 3) a1.toNatClampNeg a2))))
set_option maxHeartbeats 4000000 in
set_option maxRecDepth 100000 in
theorem J_X6_set_3 (l : Launch) (g : aWg) (a1 : Int32) (a2 : Int32) (S : aSt) {r : aSt} (hf : X6_set_3 a1 a2 S = r) : aJ l g yX6_set M_X6_set [.ref 3, .int a1, .int a2] LAY S none LAY r 0 0 := by
  refine aJ_of (by decide) rfl (Nat.le_of_ble_eq_true rfl) (fun h => nomatch h) ?_
  intro C hg hl hC hz hF
  subst hg; subst hl
  have hT := ok_X6_set
  unfold X6_set_3 at hf
  show aX C M_X6_set 0 0 (0, [(0, .ref 3), (1, .int a1), (2, .int a2)], [], LAY, S)
  refine aRun_ok hC hT 1 (cf' := (1, [(0, .ref 3), (1, .int a1), (2, .int a2)], [.int a1], LAY, S)) (by rfl) ?_
  refine aIf_lt hC hT (tgt := 14) rfl (by decide) (fun hc1 => ?_) (fun hc1 => ?_)
  · have hf := aIfT hf hc1
    subst hf
    exact aRetV hC hT hF rfl rfl
  · have hf := aIfF hf hc1
    refine aRun_ok hC hT 3 (cf' := (7, [(0, .ref 3), (1, .int a1), (2, .int a2)], [.int (201 : Int32), .int a1], LAY, S)) (by rfl) ?_
    refine aCmp_ge hC hT (tgt := 14) rfl (by decide) (fun hc2 => ?_) (fun hc2 => ?_)
    · have hf := aIfT hf hc2
      subst hf
      exact aRetV hC hT hF rfl rfl
    · have hf := aIfF hf hc2
      refine aRun_ok hC hT 3 (cf' := (13, [(0, .ref 3), (1, .int a1), (2, .int a2)], [.int a2, .int a1, .ref 3], LAY, S)) (by rfl) ?_
      refine aIast hC hT rfl (by decide) (by rfl) (aIx_of hc1 hc2 (by decide)) ?_
      subst hf
      exact aRetV hC hT hF rfl rfl
def X6_set_4 (a1 : Int32) (a2 : Int32) (S : aSt) : aSt := (if a1 < (0 : Int32) then S else (if (201 : Int32) ≤ a1 then S else (aA S 4 (upd (S.2.2 4) a1.toNatClampNeg a2))))
set_option maxHeartbeats 4000000 in
set_option maxRecDepth 100000 in
theorem J_X6_set_4 (l : Launch) (g : aWg) (a1 : Int32) (a2 : Int32) (S : aSt) {r : aSt} (hf : X6_set_4 a1 a2 S = r) : aJ l g yX6_set M_X6_set [.ref 4, .int a1, .int a2] LAY S none LAY r 0 0 := by
  refine aJ_of (by decide) rfl (Nat.le_of_ble_eq_true rfl) (fun h => nomatch h) ?_
  intro C hg hl hC hz hF
  subst hg; subst hl
  have hT := ok_X6_set
  unfold X6_set_4 at hf
  show aX C M_X6_set 0 0 (0, [(0, .ref 4), (1, .int a1), (2, .int a2)], [], LAY, S)
  refine aRun_ok hC hT 1 (cf' := (1, [(0, .ref 4), (1, .int a1), (2, .int a2)], [.int a1], LAY, S)) (by rfl) ?_
  refine aIf_lt hC hT (tgt := 14) rfl (by decide) (fun hc1 => ?_) (fun hc1 => ?_)
  · have hf := aIfT hf hc1
    subst hf
    exact aRetV hC hT hF rfl rfl
  · have hf := aIfF hf hc1
    refine aRun_ok hC hT 3 (cf' := (7, [(0, .ref 4), (1, .int a1), (2, .int a2)], [.int (201 : Int32), .int a1], LAY, S)) (by rfl) ?_
    refine aCmp_ge hC hT (tgt := 14) rfl (by decide) (fun hc2 => ?_) (fun hc2 => ?_)
    · have hf := aIfT hf hc2
      subst hf
      exact aRetV hC hT hF rfl rfl
    · have hf := aIfF hf hc2
      refine aRun_ok hC hT 3 (cf' := (13, [(0, .ref 4), (1, .int a1), (2, .int a2)], [.int a2, .int a1, .ref 4], LAY, S)) (by rfl) ?_
      refine aIast hC hT rfl (by decide) (by rfl) (aIx_of hc1 hc2 (by decide)) ?_
      subst hf
      exact aRetV hC hT hF rfl rfl
def X6_set_5 (a1 : Int32) (a2 : Int32) (S : aSt) : aSt := (if a1 < (0 : Int32) then S else (if (201 : Int32) ≤ a1 then S else (aA S 5 (upd (S.2.2 5) a1.toNatClampNeg a2))))
set_option maxHeartbeats 4000000 in
set_option maxRecDepth 100000 in
theorem J_X6_set_5 (l : Launch) (g : aWg) (a1 : Int32) (a2 : Int32) (S : aSt) {r : aSt} (hf : X6_set_5 a1 a2 S = r) : aJ l g yX6_set M_X6_set [.ref 5, .int a1, .int a2] LAY S none LAY r 0 0 := by
  refine aJ_of (by decide) rfl (Nat.le_of_ble_eq_true rfl) (fun h => nomatch h) ?_
  intro C hg hl hC hz hF
  subst hg; subst hl
  have hT := ok_X6_set
  unfold X6_set_5 at hf
  show aX C M_X6_set 0 0 (0, [(0, .ref 5), (1, .int a1), (2, .int a2)], [], LAY, S)
  refine aRun_ok hC hT 1 (cf' := (1, [(0, .ref 5), (1, .int a1), (2, .int a2)], [.int a1], LAY, S)) (by rfl) ?_
  refine aIf_lt hC hT (tgt := 14) rfl (by decide) (fun hc1 => ?_) (fun hc1 => ?_)
  · have hf := aIfT hf hc1
    subst hf
    exact aRetV hC hT hF rfl rfl
  · have hf := aIfF hf hc1
    refine aRun_ok hC hT 3 (cf' := (7, [(0, .ref 5), (1, .int a1), (2, .int a2)], [.int (201 : Int32), .int a1], LAY, S)) (by rfl) ?_
    refine aCmp_ge hC hT (tgt := 14) rfl (by decide) (fun hc2 => ?_) (fun hc2 => ?_)
    · have hf := aIfT hf hc2
      subst hf
      exact aRetV hC hT hF rfl rfl
    · have hf := aIfF hf hc2
      refine aRun_ok hC hT 3 (cf' := (13, [(0, .ref 5), (1, .int a1), (2, .int a2)], [.int a2, .int a1, .ref 5], LAY, S)) (by rfl) ?_
      refine aIast hC hT rfl (by decide) (by rfl) (aIx_of hc1 hc2 (by decide)) ?_
      subst hf
      exact aRetV hC hT hF rfl rfl
def X6_at_2 (a1 : Int32) (S : aSt) : Int32 := (if a1 < (0 : Int32) then (0 : Int32) else (if (200 : Int32) ≤ a1 then (0 : Int32) else ((S.2.2 2) a1.toNatClampNeg)))
set_option maxHeartbeats 4000000 in
set_option maxRecDepth 100000 in
theorem J_X6_at_2 (l : Launch) (g : aWg) (a1 : Int32) (S : aSt) {r : Int32} (hf : X6_at_2 a1 S = r) : aJ l g yX6_at M_X6_at [.ref 2, .int a1] LAY S (some (.int r)) LAY S 0 0 := by
  refine aJ_of (by decide) rfl (Nat.le_of_ble_eq_true rfl) (fun h => nomatch h) ?_
  intro C hg hl hC hz hF
  subst hg; subst hl
  have hT := ok_X6_at
  unfold X6_at_2 at hf
  show aX C M_X6_at 0 0 (0, [(0, .ref 2), (1, .int a1)], [], LAY, S)
  refine aRun_ok hC hT 1 (cf' := (1, [(0, .ref 2), (1, .int a1)], [.int a1], LAY, S)) (by rfl) ?_
  refine aIf_lt hC hT (tgt := 16) rfl (by decide) (fun hc1 => ?_) (fun hc1 => ?_)
  · have hf := aIfT hf hc1
    refine aRun_ok hC hT 1 (cf' := (17, [(0, .ref 2), (1, .int a1)], [.int (0 : Int32)], LAY, S)) (by rfl) ?_
    subst hf
    exact aRetI hC hT hF rfl rfl
  · have hf := aIfF hf hc1
    refine aRun_ok hC hT 3 (cf' := (7, [(0, .ref 2), (1, .int a1)], [.int (200 : Int32), .int a1], LAY, S)) (by rfl) ?_
    refine aCmp_ge hC hT (tgt := 16) rfl (by decide) (fun hc2 => ?_) (fun hc2 => ?_)
    · have hf := aIfT hf hc2
      refine aRun_ok hC hT 1 (cf' := (17, [(0, .ref 2), (1, .int a1)], [.int (0 : Int32)], LAY, S)) (by rfl) ?_
      subst hf
      exact aRetI hC hT hF rfl rfl
    · have hf := aIfF hf hc2
      refine aRun_ok hC hT 2 (cf' := (12, [(0, .ref 2), (1, .int a1)], [.int a1, .ref 2], LAY, S)) (by rfl) ?_
      refine aIald hC hT rfl (by decide) (by rfl) (aIx_of hc1 hc2 (by decide)) ?_
      refine aRun_ok hC hT 1 (cf' := (17, [(0, .ref 2), (1, .int a1)], [.int ((S.2.2 2) a1.toNatClampNeg)], LAY, S)) (by rfl) ?_
      subst hf
      exact aRetI hC hT hF rfl rfl
def X9_sortAt_1_b31 (S : aSt) (v2 : Int32) : Int32 := (if v2 < (48 : Int32) then (3 : Int32) else (if (57 : Int32) < v2 then (3 : Int32) else (2 : Int32)))
set_option maxHeartbeats 4000000 in
set_option maxRecDepth 100000 in
theorem X9_sortAt_1_b31_ok {C : aC} {S : aSt} (hC : aCx C M_X9_sortAt) {r : Int32} (hF : aFin C (some (.int r)) LAY S 0 0) (v2 : Int32) (hf : X9_sortAt_1_b31 S v2 = r) : aX C M_X9_sortAt 0 0 (31, [(2, .int v2)], [], LAY, S) := by
  have hT := ok_X9_sortAt
  unfold X9_sortAt_1_b31 at hf
  refine aRun_ok hC hT 2 (cf' := (34, [(2, .int v2)], [.int (48 : Int32), .int v2], LAY, S)) (by rfl) ?_
  refine aCmp_lt hC hT (tgt := 47) rfl (by decide) (fun hc5 => ?_) (fun hc5 => ?_)
  · have hf := aIfT hf hc5
    refine aRun_ok hC hT 1 (cf' := (48, [(2, .int v2)], [.int (3 : Int32)], LAY, S)) (by rfl) ?_
    subst hf
    exact aRetI hC hT hF rfl rfl
  · have hf := aIfF hf hc5
    refine aRun_ok hC hT 2 (cf' := (40, [(2, .int v2)], [.int (57 : Int32), .int v2], LAY, S)) (by rfl) ?_
    refine aCmp_gt hC hT (tgt := 47) rfl (by decide) (fun hc6 => ?_) (fun hc6 => ?_)
    · have hf := aIfT hf hc6
      refine aRun_ok hC hT 1 (cf' := (48, [(2, .int v2)], [.int (3 : Int32)], LAY, S)) (by rfl) ?_
      subst hf
      exact aRetI hC hT hF rfl rfl
    · have hf := aIfF hf hc6
      refine aRun_ok hC hT 2 (cf' := (48, [(2, .int v2)], [.int (2 : Int32)], LAY, S)) (by rfl) ?_
      subst hf
      exact aRetI hC hT hF rfl rfl
def X9_sortAt_1 (a1 : Int32) (S : aSt) : Int32 := (aLet (X6_at_2 a1 S) (fun v1 => (if v1 = (32 : Int32) then (0 : Int32) else (if v1 < (97 : Int32) then (X9_sortAt_1_b31 S v1) else (if (122 : Int32) < v1 then (X9_sortAt_1_b31 S v1) else (1 : Int32))))))
set_option maxHeartbeats 4000000 in
set_option maxRecDepth 100000 in
theorem J_X9_sortAt_1 (l : Launch) (g : aWg) (a1 : Int32) (S : aSt) {r : Int32} (hf : X9_sortAt_1 a1 S = r) : aJ l g yX9_sortAt M_X9_sortAt [.ref 1, .int a1] LAY S (some (.int r)) LAY S 0 0 := by
  refine aJ_of (by decide) rfl (Nat.le_of_ble_eq_true rfl) (fun h => nomatch h) ?_
  intro C hg hl hC hz hF
  subst hg; subst hl
  have hT := ok_X9_sortAt
  unfold X9_sortAt_1 at hf
  show aX C M_X9_sortAt 0 0 (0, [(0, .ref 1), (1, .int a1)], [], LAY, S)
  refine aRun_ok hC hT 3 (cf' := (5, [(0, .ref 1), (1, .int a1)], [.int a1, .ref 2], LAY, S)) (by rfl) ?_
  obtain ⟨v1, ev2, hf⟩ := aLetE hf
  refine aCallS (As := [.ref 2, .int a1]) (rest := []) hC hT rfl k_X9_sortAt_40.1 _ k_X9_sortAt_40.2 (by rfl) (by decide) (by decide) (J_X6_at_2 C.2.2.1 C.1 a1 S ev2) ?_
  refine aRun_ok hC hT 3 (cf' := (12, [(2, .int v1), (0, .ref 1), (1, .int a1)], [.int (32 : Int32), .int v1], LAY, S)) (by rfl) ?_
  refine aCmp_ne hC hT (tgt := 17) rfl (by decide) (fun hc3 => ?_) (fun hc3 => ?_)
  · have hf := aIfF hf hc3
    refine aRun_ok hC hT 2 (cf' := (20, [(2, .int v1), (0, .ref 1), (1, .int a1)], [.int (97 : Int32), .int v1], LAY, S)) (by rfl) ?_
    refine aCmp_lt hC hT (tgt := 31) rfl (by decide) (fun hc4 => ?_) (fun hc4 => ?_)
    · have hf := aIfT hf hc4
      refine aLocs [0] (lv' := [(2, .int v1)]) rfl ?_
      exact X9_sortAt_1_b31_ok hC hF v1 hf
    · have hf := aIfF hf hc4
      refine aRun_ok hC hT 2 (cf' := (26, [(2, .int v1), (0, .ref 1), (1, .int a1)], [.int (122 : Int32), .int v1], LAY, S)) (by rfl) ?_
      refine aCmp_gt hC hT (tgt := 31) rfl (by decide) (fun hc7 => ?_) (fun hc7 => ?_)
      · have hf := aIfT hf hc7
        refine aLocs [0] (lv' := [(2, .int v1)]) rfl ?_
        exact X9_sortAt_1_b31_ok hC hF v1 hf
      · have hf := aIfF hf hc7
        refine aRun_ok hC hT 1 (cf' := (30, [(2, .int v1), (0, .ref 1), (1, .int a1)], [.int (1 : Int32)], LAY, S)) (by rfl) ?_
        subst hf
        exact aRetI hC hT hF rfl rfl
  · have hf := aIfT hf hc3
    refine aRun_ok hC hT 1 (cf' := (16, [(2, .int v1), (0, .ref 1), (1, .int a1)], [.int (0 : Int32)], LAY, S)) (by rfl) ?_
    subst hf
    exact aRetI hC hT hF rfl rfl
end
